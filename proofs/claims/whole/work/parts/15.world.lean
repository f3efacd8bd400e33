def gSH : gS := [(11, 14), (5, 10), (20, 1600), (20, 40), (3, 3), (7, 2), (2, 5), (20, 67), (23, 20), (20, 67), (20, 67), (20, 67), (20, 67), (20, 67), (20, 67), (20, 67), (20, 67), (20, 67), (20, 67), (20, 67), (20, 67), (20, 67), (20, 67), (20, 67), (20, 67), (20, 67), (20, 67), (20, 67), (20, 67), (9, 3), (4, 18), (20, 48), (20, 48), (20, 6), (20, 6), (20, 6), (20, 6), (20, 6), (20, 36), (20, 10), (20, 10), (0, 4), (20, 1600), (20, 3), (20, 3), (6, 4), (20, 40), (20, 48), (20, 64), (10, 5), (20, 48), (20, 48), (20, 48), (1, 7), (20, 6), (20, 6), (20, 6), (20, 6), (8, 8), (20, 20), (20, 20), (0, 4), (20, 1600), (20, 3), (20, 3), (20, 30), (20, 6), (4, 18), (20, 48), (20, 48), (20, 6), (20, 6), (20, 6), (20, 6), (20, 6), (20, 36), (20, 10), (20, 10), (0, 4), (20, 1600), (20, 3), (20, 3), (12, 117), (20, 1600), (20, 6), (22, 4), (22, 3), (22, 4), (22, 5), (22, 2), (22, 4), (22, 5), (22, 5), (22, 4), (22, 4), (22, 3), (22, 5), (22, 5), (22, 5), (22, 5), (22, 4), (22, 5), (22, 5), (22, 4), (22, 3), (22, 5), (22, 5), (22, 4), (22, 4), (22, 6), (22, 6), (22, 4), (22, 5), (22, 2), (22, 3), (22, 3), (22, 3), (22, 3), (22, 3), (20, 10), (21, 24), (20, 96), (20, 24), (20, 12), (20, 72), (20, 40), (20, 2), (20, 6), (20, 6), (20, 3200), (20, 1700), (21, 1700), (20, 10), (20, 187), (20, 187), (20, 48), (20, 48), (20, 6), (20, 6), (20, 6), (20, 6), (20, 40), (20, 3740), (22, 5), (22, 4), (22, 5), (22, 5), (22, 4), (22, 5), (22, 3), (22, 3), (22, 2), (22, 3), (22, 3), (22, 3), (22, 6), (22, 6), (22, 4), (22, 5), (22, 5), (22, 4), (22, 5), (22, 5), (22, 5), (20, 1700), (20, 1700), (21, 1700), (20, 30)]
def gRt : List (List (Option Nat)) := [[some 1, some 4, some 5, some 6, some 29, some 49, some 53, some 58, some 61, some 65, some 66, some 67], [some 2, some 3], [], [], [some 1], [some 1, some 4], [some 7, some 8], [], [some 9, some 10, some 11, some 12, some 13, some 14, some 15, some 16, some 17, some 18, some 19, some 20, some 21, some 22, some 23, some 24, some 25, some 26, some 27, some 28], [], [], [], [], [], [], [], [], [], [], [], [], [], [], [], [], [], [], [], [], [some 6, some 45, some 30], [some 31, some 32, some 33, some 34, some 35, some 36, some 37, some 38, some 39, some 40, some 41], [], [], [], [], [], [], [], [], [], [], [some 42, some 43, some 44], [], [], [], [some 46, some 47, some 48], [], [], [], [some 29, some 50, some 51, some 52], [], [], [], [some 29, some 54, some 55, none, none, some 56, some 57], [], [], [], [], [some 29, some 59, some 60], [], [], [some 62, some 63, some 64], [], [], [], [], [], [some 68, some 69, some 70, some 71, some 72, some 73, some 74, some 75, some 76, some 77, some 78], [], [], [], [], [], [], [], [], [], [], [some 79, some 80, some 81], [], [], [], [some 83, none, none, none, none, none, none, none, none, some 84, none, some 85, some 86, some 87, some 88, some 89, some 90, some 91, some 92, some 93, some 94, some 95, some 96, some 97, some 98, some 99, some 100, some 101, some 102, some 103, some 104, some 105, some 106, some 107, some 108, some 109, some 110, some 111, some 112, some 113, some 114, some 115, some 116, some 117, some 118, none, some 119, some 120, some 121, some 122, some 123, some 124, some 125, some 126, some 127, some 128, none, none, none, some 129, none, some 130, none, none, none, some 131, none, some 132, some 133, some 134, some 135, some 136, some 137, some 138, some 139, some 140, none, none, some 141, some 142, none, none, none, none, some 143, some 144, some 145, some 146, some 147, some 148, some 149, some 150, some 151, some 152, some 153, some 154, some 155, some 156, some 157, some 158, some 159, some 160, some 161, some 162, some 163, some 164, none, some 165, none, none, none, some 166, none, none, none, some 167], [], [], [], [], [], [], [], [], [], [], [], [], [], [], [], [], [], [], [], [], [], [], [], [], [], [], [], [], [], [], [], [], [], [], [], [], [], [], [], [], [], [], [], [], [], [], [], [], [], [], [], [], [], [], [], [], [], [], [], [], [], [], [], [], [], [], [], [], [], [], [], [], [], [], [], [], [], [], [], [], [], [], [], [], []]
/-- the references: the lake that stands, the spare one, the code that the grammar writes; all others stay as the constructors laid them -/
def gRF (lk sp : Nat) (cd : Option Nat) : Nat → Nat → Option Nat := fun k j => if k = 29 then (if j = 2 then some lk else (gRt.getD k []).getD j none) else if k = 0 then (if j = 11 then some sp else (gRt.getD k []).getD j none) else if k = 4 then (if j = 1 then cd else (gRt.getD k []).getD j none) else (gRt.getD k []).getD j none
theorem sh0 : gSH[0]? = some (11, 14) := rfl
theorem sh1 : gSH[1]? = some (5, 10) := rfl
theorem sh2 : gSH[2]? = some (20, 1600) := rfl
theorem sh3 : gSH[3]? = some (20, 40) := rfl
theorem sh4 : gSH[4]? = some (3, 3) := rfl
theorem sh5 : gSH[5]? = some (7, 2) := rfl
theorem sh6 : gSH[6]? = some (2, 5) := rfl
theorem sh7 : gSH[7]? = some (20, 67) := rfl
theorem sh8 : gSH[8]? = some (23, 20) := rfl
theorem sh9 : gSH[9]? = some (20, 67) := rfl
theorem sh10 : gSH[10]? = some (20, 67) := rfl
theorem sh11 : gSH[11]? = some (20, 67) := rfl
theorem sh12 : gSH[12]? = some (20, 67) := rfl
theorem sh13 : gSH[13]? = some (20, 67) := rfl
theorem sh14 : gSH[14]? = some (20, 67) := rfl
theorem sh15 : gSH[15]? = some (20, 67) := rfl
theorem sh16 : gSH[16]? = some (20, 67) := rfl
theorem sh17 : gSH[17]? = some (20, 67) := rfl
theorem sh18 : gSH[18]? = some (20, 67) := rfl
theorem sh19 : gSH[19]? = some (20, 67) := rfl
theorem sh20 : gSH[20]? = some (20, 67) := rfl
theorem sh21 : gSH[21]? = some (20, 67) := rfl
theorem sh22 : gSH[22]? = some (20, 67) := rfl
theorem sh23 : gSH[23]? = some (20, 67) := rfl
theorem sh24 : gSH[24]? = some (20, 67) := rfl
theorem sh25 : gSH[25]? = some (20, 67) := rfl
theorem sh26 : gSH[26]? = some (20, 67) := rfl
theorem sh27 : gSH[27]? = some (20, 67) := rfl
theorem sh28 : gSH[28]? = some (20, 67) := rfl
theorem sh29 : gSH[29]? = some (9, 3) := rfl
theorem sh30 : gSH[30]? = some (4, 18) := rfl
theorem sh31 : gSH[31]? = some (20, 48) := rfl
theorem sh32 : gSH[32]? = some (20, 48) := rfl
theorem sh33 : gSH[33]? = some (20, 6) := rfl
theorem sh34 : gSH[34]? = some (20, 6) := rfl
theorem sh35 : gSH[35]? = some (20, 6) := rfl
theorem sh36 : gSH[36]? = some (20, 6) := rfl
theorem sh37 : gSH[37]? = some (20, 6) := rfl
theorem sh38 : gSH[38]? = some (20, 36) := rfl
theorem sh39 : gSH[39]? = some (20, 10) := rfl
theorem sh40 : gSH[40]? = some (20, 10) := rfl
theorem sh41 : gSH[41]? = some (0, 4) := rfl
theorem sh42 : gSH[42]? = some (20, 1600) := rfl
theorem sh43 : gSH[43]? = some (20, 3) := rfl
theorem sh44 : gSH[44]? = some (20, 3) := rfl
theorem sh45 : gSH[45]? = some (6, 4) := rfl
theorem sh46 : gSH[46]? = some (20, 40) := rfl
theorem sh47 : gSH[47]? = some (20, 48) := rfl
theorem sh48 : gSH[48]? = some (20, 64) := rfl
theorem sh49 : gSH[49]? = some (10, 5) := rfl
theorem sh50 : gSH[50]? = some (20, 48) := rfl
theorem sh51 : gSH[51]? = some (20, 48) := rfl
theorem sh52 : gSH[52]? = some (20, 48) := rfl
theorem sh53 : gSH[53]? = some (1, 7) := rfl
theorem sh54 : gSH[54]? = some (20, 6) := rfl
theorem sh55 : gSH[55]? = some (20, 6) := rfl
theorem sh56 : gSH[56]? = some (20, 6) := rfl
theorem sh57 : gSH[57]? = some (20, 6) := rfl
theorem sh58 : gSH[58]? = some (8, 8) := rfl
theorem sh59 : gSH[59]? = some (20, 20) := rfl
theorem sh60 : gSH[60]? = some (20, 20) := rfl
theorem sh61 : gSH[61]? = some (0, 4) := rfl
theorem sh62 : gSH[62]? = some (20, 1600) := rfl
theorem sh63 : gSH[63]? = some (20, 3) := rfl
theorem sh64 : gSH[64]? = some (20, 3) := rfl
theorem sh65 : gSH[65]? = some (20, 30) := rfl
theorem sh66 : gSH[66]? = some (20, 6) := rfl
theorem sh67 : gSH[67]? = some (4, 18) := rfl
theorem sh68 : gSH[68]? = some (20, 48) := rfl
theorem sh69 : gSH[69]? = some (20, 48) := rfl
theorem sh70 : gSH[70]? = some (20, 6) := rfl
theorem sh71 : gSH[71]? = some (20, 6) := rfl
theorem sh72 : gSH[72]? = some (20, 6) := rfl
theorem sh73 : gSH[73]? = some (20, 6) := rfl
theorem sh74 : gSH[74]? = some (20, 6) := rfl
theorem sh75 : gSH[75]? = some (20, 36) := rfl
theorem sh76 : gSH[76]? = some (20, 10) := rfl
theorem sh77 : gSH[77]? = some (20, 10) := rfl
theorem sh78 : gSH[78]? = some (0, 4) := rfl
theorem sh79 : gSH[79]? = some (20, 1600) := rfl
theorem sh80 : gSH[80]? = some (20, 3) := rfl
theorem sh81 : gSH[81]? = some (20, 3) := rfl
theorem sh82 : gSH[82]? = some (12, 117) := rfl
theorem sh83 : gSH[83]? = some (20, 1600) := rfl
theorem sh84 : gSH[84]? = some (20, 6) := rfl
theorem sh85 : gSH[85]? = some (22, 4) := rfl
theorem sh86 : gSH[86]? = some (22, 3) := rfl
theorem sh87 : gSH[87]? = some (22, 4) := rfl
theorem sh88 : gSH[88]? = some (22, 5) := rfl
theorem sh89 : gSH[89]? = some (22, 2) := rfl
theorem sh90 : gSH[90]? = some (22, 4) := rfl
theorem sh91 : gSH[91]? = some (22, 5) := rfl
theorem sh92 : gSH[92]? = some (22, 5) := rfl
theorem sh93 : gSH[93]? = some (22, 4) := rfl
theorem sh94 : gSH[94]? = some (22, 4) := rfl
theorem sh95 : gSH[95]? = some (22, 3) := rfl
theorem sh96 : gSH[96]? = some (22, 5) := rfl
theorem sh97 : gSH[97]? = some (22, 5) := rfl
theorem sh98 : gSH[98]? = some (22, 5) := rfl
theorem sh99 : gSH[99]? = some (22, 5) := rfl
theorem sh100 : gSH[100]? = some (22, 4) := rfl
theorem sh101 : gSH[101]? = some (22, 5) := rfl
theorem sh102 : gSH[102]? = some (22, 5) := rfl
theorem sh103 : gSH[103]? = some (22, 4) := rfl
theorem sh104 : gSH[104]? = some (22, 3) := rfl
theorem sh105 : gSH[105]? = some (22, 5) := rfl
theorem sh106 : gSH[106]? = some (22, 5) := rfl
theorem sh107 : gSH[107]? = some (22, 4) := rfl
theorem sh108 : gSH[108]? = some (22, 4) := rfl
theorem sh109 : gSH[109]? = some (22, 6) := rfl
theorem sh110 : gSH[110]? = some (22, 6) := rfl
theorem sh111 : gSH[111]? = some (22, 4) := rfl
theorem sh112 : gSH[112]? = some (22, 5) := rfl
theorem sh113 : gSH[113]? = some (22, 2) := rfl
theorem sh114 : gSH[114]? = some (22, 3) := rfl
theorem sh115 : gSH[115]? = some (22, 3) := rfl
theorem sh116 : gSH[116]? = some (22, 3) := rfl
theorem sh117 : gSH[117]? = some (22, 3) := rfl
theorem sh118 : gSH[118]? = some (22, 3) := rfl
theorem sh119 : gSH[119]? = some (20, 10) := rfl
theorem sh120 : gSH[120]? = some (21, 24) := rfl
theorem sh121 : gSH[121]? = some (20, 96) := rfl
theorem sh122 : gSH[122]? = some (20, 24) := rfl
theorem sh123 : gSH[123]? = some (20, 12) := rfl
theorem sh124 : gSH[124]? = some (20, 72) := rfl
theorem sh125 : gSH[125]? = some (20, 40) := rfl
theorem sh126 : gSH[126]? = some (20, 2) := rfl
theorem sh127 : gSH[127]? = some (20, 6) := rfl
theorem sh128 : gSH[128]? = some (20, 6) := rfl
theorem sh129 : gSH[129]? = some (20, 3200) := rfl
theorem sh130 : gSH[130]? = some (20, 1700) := rfl
theorem sh131 : gSH[131]? = some (21, 1700) := rfl
theorem sh132 : gSH[132]? = some (20, 10) := rfl
theorem sh133 : gSH[133]? = some (20, 187) := rfl
theorem sh134 : gSH[134]? = some (20, 187) := rfl
theorem sh135 : gSH[135]? = some (20, 48) := rfl
theorem sh136 : gSH[136]? = some (20, 48) := rfl
theorem sh137 : gSH[137]? = some (20, 6) := rfl
theorem sh138 : gSH[138]? = some (20, 6) := rfl
theorem sh139 : gSH[139]? = some (20, 6) := rfl
theorem sh140 : gSH[140]? = some (20, 6) := rfl
theorem sh141 : gSH[141]? = some (20, 40) := rfl
theorem sh142 : gSH[142]? = some (20, 3740) := rfl
theorem sh143 : gSH[143]? = some (22, 5) := rfl
theorem sh144 : gSH[144]? = some (22, 4) := rfl
theorem sh145 : gSH[145]? = some (22, 5) := rfl
theorem sh146 : gSH[146]? = some (22, 5) := rfl
theorem sh147 : gSH[147]? = some (22, 4) := rfl
theorem sh148 : gSH[148]? = some (22, 5) := rfl
theorem sh149 : gSH[149]? = some (22, 3) := rfl
theorem sh150 : gSH[150]? = some (22, 3) := rfl
theorem sh151 : gSH[151]? = some (22, 2) := rfl
theorem sh152 : gSH[152]? = some (22, 3) := rfl
theorem sh153 : gSH[153]? = some (22, 3) := rfl
theorem sh154 : gSH[154]? = some (22, 3) := rfl
theorem sh155 : gSH[155]? = some (22, 6) := rfl
theorem sh156 : gSH[156]? = some (22, 6) := rfl
theorem sh157 : gSH[157]? = some (22, 4) := rfl
theorem sh158 : gSH[158]? = some (22, 5) := rfl
theorem sh159 : gSH[159]? = some (22, 5) := rfl
theorem sh160 : gSH[160]? = some (22, 4) := rfl
theorem sh161 : gSH[161]? = some (22, 5) := rfl
theorem sh162 : gSH[162]? = some (22, 5) := rfl
theorem sh163 : gSH[163]? = some (22, 5) := rfl
theorem sh164 : gSH[164]? = some (20, 1700) := rfl
theorem sh165 : gSH[165]? = some (20, 1700) := rfl
theorem sh166 : gSH[166]? = some (21, 1700) := rfl
theorem sh167 : gSH[167]? = some (20, 30) := rfl
section GRF
variable {h : gH} {lk sp : Nat} {cd : Option Nat}
theorem rf0_0 (hR : h.2.2 = gRF lk sp cd) : h.2.2 0 0 = some 1 := by rw [hR]; rfl
theorem rf0_1 (hR : h.2.2 = gRF lk sp cd) : h.2.2 0 1 = some 4 := by rw [hR]; rfl
theorem rf0_2 (hR : h.2.2 = gRF lk sp cd) : h.2.2 0 2 = some 5 := by rw [hR]; rfl
theorem rf0_3 (hR : h.2.2 = gRF lk sp cd) : h.2.2 0 3 = some 6 := by rw [hR]; rfl
theorem rf0_4 (hR : h.2.2 = gRF lk sp cd) : h.2.2 0 4 = some 29 := by rw [hR]; rfl
theorem rf0_5 (hR : h.2.2 = gRF lk sp cd) : h.2.2 0 5 = some 49 := by rw [hR]; rfl
theorem rf0_6 (hR : h.2.2 = gRF lk sp cd) : h.2.2 0 6 = some 53 := by rw [hR]; rfl
theorem rf0_7 (hR : h.2.2 = gRF lk sp cd) : h.2.2 0 7 = some 58 := by rw [hR]; rfl
theorem rf0_8 (hR : h.2.2 = gRF lk sp cd) : h.2.2 0 8 = some 61 := by rw [hR]; rfl
theorem rf0_9 (hR : h.2.2 = gRF lk sp cd) : h.2.2 0 9 = some 65 := by rw [hR]; rfl
theorem rf0_10 (hR : h.2.2 = gRF lk sp cd) : h.2.2 0 10 = some 66 := by rw [hR]; rfl
theorem rf1_0 (hR : h.2.2 = gRF lk sp cd) : h.2.2 1 0 = some 2 := by rw [hR]; rfl
theorem rf1_1 (hR : h.2.2 = gRF lk sp cd) : h.2.2 1 1 = some 3 := by rw [hR]; rfl
theorem rf4_0 (hR : h.2.2 = gRF lk sp cd) : h.2.2 4 0 = some 1 := by rw [hR]; rfl
theorem rf5_0 (hR : h.2.2 = gRF lk sp cd) : h.2.2 5 0 = some 1 := by rw [hR]; rfl
theorem rf5_1 (hR : h.2.2 = gRF lk sp cd) : h.2.2 5 1 = some 4 := by rw [hR]; rfl
theorem rf6_0 (hR : h.2.2 = gRF lk sp cd) : h.2.2 6 0 = some 7 := by rw [hR]; rfl
theorem rf6_1 (hR : h.2.2 = gRF lk sp cd) : h.2.2 6 1 = some 8 := by rw [hR]; rfl
theorem rf8_0 (hR : h.2.2 = gRF lk sp cd) : h.2.2 8 0 = some 9 := by rw [hR]; rfl
theorem rf8_1 (hR : h.2.2 = gRF lk sp cd) : h.2.2 8 1 = some 10 := by rw [hR]; rfl
theorem rf8_2 (hR : h.2.2 = gRF lk sp cd) : h.2.2 8 2 = some 11 := by rw [hR]; rfl
theorem rf8_3 (hR : h.2.2 = gRF lk sp cd) : h.2.2 8 3 = some 12 := by rw [hR]; rfl
theorem rf8_4 (hR : h.2.2 = gRF lk sp cd) : h.2.2 8 4 = some 13 := by rw [hR]; rfl
theorem rf8_5 (hR : h.2.2 = gRF lk sp cd) : h.2.2 8 5 = some 14 := by rw [hR]; rfl
theorem rf8_6 (hR : h.2.2 = gRF lk sp cd) : h.2.2 8 6 = some 15 := by rw [hR]; rfl
theorem rf8_7 (hR : h.2.2 = gRF lk sp cd) : h.2.2 8 7 = some 16 := by rw [hR]; rfl
theorem rf8_8 (hR : h.2.2 = gRF lk sp cd) : h.2.2 8 8 = some 17 := by rw [hR]; rfl
theorem rf8_9 (hR : h.2.2 = gRF lk sp cd) : h.2.2 8 9 = some 18 := by rw [hR]; rfl
theorem rf8_10 (hR : h.2.2 = gRF lk sp cd) : h.2.2 8 10 = some 19 := by rw [hR]; rfl
theorem rf8_11 (hR : h.2.2 = gRF lk sp cd) : h.2.2 8 11 = some 20 := by rw [hR]; rfl
theorem rf8_12 (hR : h.2.2 = gRF lk sp cd) : h.2.2 8 12 = some 21 := by rw [hR]; rfl
theorem rf8_13 (hR : h.2.2 = gRF lk sp cd) : h.2.2 8 13 = some 22 := by rw [hR]; rfl
theorem rf8_14 (hR : h.2.2 = gRF lk sp cd) : h.2.2 8 14 = some 23 := by rw [hR]; rfl
theorem rf8_15 (hR : h.2.2 = gRF lk sp cd) : h.2.2 8 15 = some 24 := by rw [hR]; rfl
theorem rf8_16 (hR : h.2.2 = gRF lk sp cd) : h.2.2 8 16 = some 25 := by rw [hR]; rfl
theorem rf8_17 (hR : h.2.2 = gRF lk sp cd) : h.2.2 8 17 = some 26 := by rw [hR]; rfl
theorem rf8_18 (hR : h.2.2 = gRF lk sp cd) : h.2.2 8 18 = some 27 := by rw [hR]; rfl
theorem rf8_19 (hR : h.2.2 = gRF lk sp cd) : h.2.2 8 19 = some 28 := by rw [hR]; rfl
theorem rf29_1 (hR : h.2.2 = gRF lk sp cd) : h.2.2 29 1 = some 45 := by rw [hR]; rfl
theorem rf29_0 (hR : h.2.2 = gRF lk sp cd) : h.2.2 29 0 = some 6 := by rw [hR]; rfl
theorem rf45_0 (hR : h.2.2 = gRF lk sp cd) : h.2.2 45 0 = some 46 := by rw [hR]; rfl
theorem rf45_1 (hR : h.2.2 = gRF lk sp cd) : h.2.2 45 1 = some 47 := by rw [hR]; rfl
theorem rf45_2 (hR : h.2.2 = gRF lk sp cd) : h.2.2 45 2 = some 48 := by rw [hR]; rfl
theorem rf49_1 (hR : h.2.2 = gRF lk sp cd) : h.2.2 49 1 = some 50 := by rw [hR]; rfl
theorem rf49_2 (hR : h.2.2 = gRF lk sp cd) : h.2.2 49 2 = some 51 := by rw [hR]; rfl
theorem rf49_3 (hR : h.2.2 = gRF lk sp cd) : h.2.2 49 3 = some 52 := by rw [hR]; rfl
theorem rf49_0 (hR : h.2.2 = gRF lk sp cd) : h.2.2 49 0 = some 29 := by rw [hR]; rfl
theorem rf53_1 (hR : h.2.2 = gRF lk sp cd) : h.2.2 53 1 = some 54 := by rw [hR]; rfl
theorem rf53_2 (hR : h.2.2 = gRF lk sp cd) : h.2.2 53 2 = some 55 := by rw [hR]; rfl
theorem rf53_5 (hR : h.2.2 = gRF lk sp cd) : h.2.2 53 5 = some 56 := by rw [hR]; rfl
theorem rf53_6 (hR : h.2.2 = gRF lk sp cd) : h.2.2 53 6 = some 57 := by rw [hR]; rfl
theorem rf53_0 (hR : h.2.2 = gRF lk sp cd) : h.2.2 53 0 = some 29 := by rw [hR]; rfl
theorem rf58_1 (hR : h.2.2 = gRF lk sp cd) : h.2.2 58 1 = some 59 := by rw [hR]; rfl
theorem rf58_2 (hR : h.2.2 = gRF lk sp cd) : h.2.2 58 2 = some 60 := by rw [hR]; rfl
theorem rf58_0 (hR : h.2.2 = gRF lk sp cd) : h.2.2 58 0 = some 29 := by rw [hR]; rfl
theorem rf82_0 (hR : h.2.2 = gRF lk sp cd) : h.2.2 82 0 = some 83 := by rw [hR]; rfl
theorem rf82_9 (hR : h.2.2 = gRF lk sp cd) : h.2.2 82 9 = some 84 := by rw [hR]; rfl
theorem rf82_11 (hR : h.2.2 = gRF lk sp cd) : h.2.2 82 11 = some 85 := by rw [hR]; rfl
theorem rf82_12 (hR : h.2.2 = gRF lk sp cd) : h.2.2 82 12 = some 86 := by rw [hR]; rfl
theorem rf82_13 (hR : h.2.2 = gRF lk sp cd) : h.2.2 82 13 = some 87 := by rw [hR]; rfl
theorem rf82_14 (hR : h.2.2 = gRF lk sp cd) : h.2.2 82 14 = some 88 := by rw [hR]; rfl
theorem rf82_15 (hR : h.2.2 = gRF lk sp cd) : h.2.2 82 15 = some 89 := by rw [hR]; rfl
theorem rf82_16 (hR : h.2.2 = gRF lk sp cd) : h.2.2 82 16 = some 90 := by rw [hR]; rfl
theorem rf82_17 (hR : h.2.2 = gRF lk sp cd) : h.2.2 82 17 = some 91 := by rw [hR]; rfl
theorem rf82_18 (hR : h.2.2 = gRF lk sp cd) : h.2.2 82 18 = some 92 := by rw [hR]; rfl
theorem rf82_19 (hR : h.2.2 = gRF lk sp cd) : h.2.2 82 19 = some 93 := by rw [hR]; rfl
theorem rf82_20 (hR : h.2.2 = gRF lk sp cd) : h.2.2 82 20 = some 94 := by rw [hR]; rfl
theorem rf82_21 (hR : h.2.2 = gRF lk sp cd) : h.2.2 82 21 = some 95 := by rw [hR]; rfl
theorem rf82_22 (hR : h.2.2 = gRF lk sp cd) : h.2.2 82 22 = some 96 := by rw [hR]; rfl
theorem rf82_23 (hR : h.2.2 = gRF lk sp cd) : h.2.2 82 23 = some 97 := by rw [hR]; rfl
theorem rf82_24 (hR : h.2.2 = gRF lk sp cd) : h.2.2 82 24 = some 98 := by rw [hR]; rfl
theorem rf82_25 (hR : h.2.2 = gRF lk sp cd) : h.2.2 82 25 = some 99 := by rw [hR]; rfl
theorem rf82_26 (hR : h.2.2 = gRF lk sp cd) : h.2.2 82 26 = some 100 := by rw [hR]; rfl
theorem rf82_27 (hR : h.2.2 = gRF lk sp cd) : h.2.2 82 27 = some 101 := by rw [hR]; rfl
theorem rf82_28 (hR : h.2.2 = gRF lk sp cd) : h.2.2 82 28 = some 102 := by rw [hR]; rfl
theorem rf82_29 (hR : h.2.2 = gRF lk sp cd) : h.2.2 82 29 = some 103 := by rw [hR]; rfl
theorem rf82_30 (hR : h.2.2 = gRF lk sp cd) : h.2.2 82 30 = some 104 := by rw [hR]; rfl
theorem rf82_31 (hR : h.2.2 = gRF lk sp cd) : h.2.2 82 31 = some 105 := by rw [hR]; rfl
theorem rf82_32 (hR : h.2.2 = gRF lk sp cd) : h.2.2 82 32 = some 106 := by rw [hR]; rfl
theorem rf82_33 (hR : h.2.2 = gRF lk sp cd) : h.2.2 82 33 = some 107 := by rw [hR]; rfl
theorem rf82_34 (hR : h.2.2 = gRF lk sp cd) : h.2.2 82 34 = some 108 := by rw [hR]; rfl
theorem rf82_35 (hR : h.2.2 = gRF lk sp cd) : h.2.2 82 35 = some 109 := by rw [hR]; rfl
theorem rf82_36 (hR : h.2.2 = gRF lk sp cd) : h.2.2 82 36 = some 110 := by rw [hR]; rfl
theorem rf82_37 (hR : h.2.2 = gRF lk sp cd) : h.2.2 82 37 = some 111 := by rw [hR]; rfl
theorem rf82_38 (hR : h.2.2 = gRF lk sp cd) : h.2.2 82 38 = some 112 := by rw [hR]; rfl
theorem rf82_39 (hR : h.2.2 = gRF lk sp cd) : h.2.2 82 39 = some 113 := by rw [hR]; rfl
theorem rf82_40 (hR : h.2.2 = gRF lk sp cd) : h.2.2 82 40 = some 114 := by rw [hR]; rfl
theorem rf82_41 (hR : h.2.2 = gRF lk sp cd) : h.2.2 82 41 = some 115 := by rw [hR]; rfl
theorem rf82_42 (hR : h.2.2 = gRF lk sp cd) : h.2.2 82 42 = some 116 := by rw [hR]; rfl
theorem rf82_43 (hR : h.2.2 = gRF lk sp cd) : h.2.2 82 43 = some 117 := by rw [hR]; rfl
theorem rf82_44 (hR : h.2.2 = gRF lk sp cd) : h.2.2 82 44 = some 118 := by rw [hR]; rfl
theorem rf82_46 (hR : h.2.2 = gRF lk sp cd) : h.2.2 82 46 = some 119 := by rw [hR]; rfl
theorem rf82_47 (hR : h.2.2 = gRF lk sp cd) : h.2.2 82 47 = some 120 := by rw [hR]; rfl
theorem rf82_48 (hR : h.2.2 = gRF lk sp cd) : h.2.2 82 48 = some 121 := by rw [hR]; rfl
theorem rf82_49 (hR : h.2.2 = gRF lk sp cd) : h.2.2 82 49 = some 122 := by rw [hR]; rfl
theorem rf82_50 (hR : h.2.2 = gRF lk sp cd) : h.2.2 82 50 = some 123 := by rw [hR]; rfl
theorem rf82_51 (hR : h.2.2 = gRF lk sp cd) : h.2.2 82 51 = some 124 := by rw [hR]; rfl
theorem rf82_52 (hR : h.2.2 = gRF lk sp cd) : h.2.2 82 52 = some 125 := by rw [hR]; rfl
theorem rf82_53 (hR : h.2.2 = gRF lk sp cd) : h.2.2 82 53 = some 126 := by rw [hR]; rfl
theorem rf82_54 (hR : h.2.2 = gRF lk sp cd) : h.2.2 82 54 = some 127 := by rw [hR]; rfl
theorem rf82_55 (hR : h.2.2 = gRF lk sp cd) : h.2.2 82 55 = some 128 := by rw [hR]; rfl
theorem rf82_59 (hR : h.2.2 = gRF lk sp cd) : h.2.2 82 59 = some 129 := by rw [hR]; rfl
theorem rf82_61 (hR : h.2.2 = gRF lk sp cd) : h.2.2 82 61 = some 130 := by rw [hR]; rfl
theorem rf82_65 (hR : h.2.2 = gRF lk sp cd) : h.2.2 82 65 = some 131 := by rw [hR]; rfl
theorem rf82_67 (hR : h.2.2 = gRF lk sp cd) : h.2.2 82 67 = some 132 := by rw [hR]; rfl
theorem rf82_68 (hR : h.2.2 = gRF lk sp cd) : h.2.2 82 68 = some 133 := by rw [hR]; rfl
theorem rf82_69 (hR : h.2.2 = gRF lk sp cd) : h.2.2 82 69 = some 134 := by rw [hR]; rfl
theorem rf82_70 (hR : h.2.2 = gRF lk sp cd) : h.2.2 82 70 = some 135 := by rw [hR]; rfl
theorem rf82_71 (hR : h.2.2 = gRF lk sp cd) : h.2.2 82 71 = some 136 := by rw [hR]; rfl
theorem rf82_72 (hR : h.2.2 = gRF lk sp cd) : h.2.2 82 72 = some 137 := by rw [hR]; rfl
theorem rf82_73 (hR : h.2.2 = gRF lk sp cd) : h.2.2 82 73 = some 138 := by rw [hR]; rfl
theorem rf82_74 (hR : h.2.2 = gRF lk sp cd) : h.2.2 82 74 = some 139 := by rw [hR]; rfl
theorem rf82_75 (hR : h.2.2 = gRF lk sp cd) : h.2.2 82 75 = some 140 := by rw [hR]; rfl
theorem rf82_78 (hR : h.2.2 = gRF lk sp cd) : h.2.2 82 78 = some 141 := by rw [hR]; rfl
theorem rf82_79 (hR : h.2.2 = gRF lk sp cd) : h.2.2 82 79 = some 142 := by rw [hR]; rfl
theorem rf82_84 (hR : h.2.2 = gRF lk sp cd) : h.2.2 82 84 = some 143 := by rw [hR]; rfl
theorem rf82_85 (hR : h.2.2 = gRF lk sp cd) : h.2.2 82 85 = some 144 := by rw [hR]; rfl
theorem rf82_86 (hR : h.2.2 = gRF lk sp cd) : h.2.2 82 86 = some 145 := by rw [hR]; rfl
theorem rf82_87 (hR : h.2.2 = gRF lk sp cd) : h.2.2 82 87 = some 146 := by rw [hR]; rfl
theorem rf82_88 (hR : h.2.2 = gRF lk sp cd) : h.2.2 82 88 = some 147 := by rw [hR]; rfl
theorem rf82_89 (hR : h.2.2 = gRF lk sp cd) : h.2.2 82 89 = some 148 := by rw [hR]; rfl
theorem rf82_90 (hR : h.2.2 = gRF lk sp cd) : h.2.2 82 90 = some 149 := by rw [hR]; rfl
theorem rf82_91 (hR : h.2.2 = gRF lk sp cd) : h.2.2 82 91 = some 150 := by rw [hR]; rfl
theorem rf82_92 (hR : h.2.2 = gRF lk sp cd) : h.2.2 82 92 = some 151 := by rw [hR]; rfl
theorem rf82_93 (hR : h.2.2 = gRF lk sp cd) : h.2.2 82 93 = some 152 := by rw [hR]; rfl
theorem rf82_94 (hR : h.2.2 = gRF lk sp cd) : h.2.2 82 94 = some 153 := by rw [hR]; rfl
theorem rf82_95 (hR : h.2.2 = gRF lk sp cd) : h.2.2 82 95 = some 154 := by rw [hR]; rfl
theorem rf82_96 (hR : h.2.2 = gRF lk sp cd) : h.2.2 82 96 = some 155 := by rw [hR]; rfl
theorem rf82_97 (hR : h.2.2 = gRF lk sp cd) : h.2.2 82 97 = some 156 := by rw [hR]; rfl
theorem rf82_98 (hR : h.2.2 = gRF lk sp cd) : h.2.2 82 98 = some 157 := by rw [hR]; rfl
theorem rf82_99 (hR : h.2.2 = gRF lk sp cd) : h.2.2 82 99 = some 158 := by rw [hR]; rfl
theorem rf82_100 (hR : h.2.2 = gRF lk sp cd) : h.2.2 82 100 = some 159 := by rw [hR]; rfl
theorem rf82_101 (hR : h.2.2 = gRF lk sp cd) : h.2.2 82 101 = some 160 := by rw [hR]; rfl
theorem rf82_102 (hR : h.2.2 = gRF lk sp cd) : h.2.2 82 102 = some 161 := by rw [hR]; rfl
theorem rf82_103 (hR : h.2.2 = gRF lk sp cd) : h.2.2 82 103 = some 162 := by rw [hR]; rfl
theorem rf82_104 (hR : h.2.2 = gRF lk sp cd) : h.2.2 82 104 = some 163 := by rw [hR]; rfl
theorem rf82_105 (hR : h.2.2 = gRF lk sp cd) : h.2.2 82 105 = some 164 := by rw [hR]; rfl
theorem rf82_107 (hR : h.2.2 = gRF lk sp cd) : h.2.2 82 107 = some 165 := by rw [hR]; rfl
theorem rf82_111 (hR : h.2.2 = gRF lk sp cd) : h.2.2 82 111 = some 166 := by rw [hR]; rfl
theorem rf82_115 (hR : h.2.2 = gRF lk sp cd) : h.2.2 82 115 = some 167 := by rw [hR]; rfl
theorem rf29_2 (hR : h.2.2 = gRF lk sp cd) : h.2.2 29 2 = some lk := by rw [hR]; rfl
theorem rf0_11 (hR : h.2.2 = gRF lk sp cd) : h.2.2 0 11 = some sp := by rw [hR]; rfl
theorem rf4_1 (hR : h.2.2 = gRF lk sp cd) : h.2.2 4 1 = cd := by rw [hR]; rfl
theorem rl_s (hR : h.2.2 = gRF lk sp cd) {x : Nat} (hx : x = 30 ∨ x = 67) {j : Nat} (hj : j < 11) : h.2.2 x j = some (x + (j + 1)) := by
  rw [hR]
  match j, hj with
  | 0, _ => rcases hx with rfl | rfl <;> rfl
  | 1, _ => rcases hx with rfl | rfl <;> rfl
  | 2, _ => rcases hx with rfl | rfl <;> rfl
  | 3, _ => rcases hx with rfl | rfl <;> rfl
  | 4, _ => rcases hx with rfl | rfl <;> rfl
  | 5, _ => rcases hx with rfl | rfl <;> rfl
  | 6, _ => rcases hx with rfl | rfl <;> rfl
  | 7, _ => rcases hx with rfl | rfl <;> rfl
  | 8, _ => rcases hx with rfl | rfl <;> rfl
  | 9, _ => rcases hx with rfl | rfl <;> rfl
  | 10, _ => rcases hx with rfl | rfl <;> rfl
theorem rc_s (hR : h.2.2 = gRF lk sp cd) {x : Nat} (hx : x = 41 ∨ x = 61 ∨ x = 78) {j : Nat} (hj : j < 3) : h.2.2 x j = some (x + (j + 1)) := by
  rw [hR]
  match j, hj with
  | 0, _ => rcases hx with rfl | rfl | rfl <;> rfl
  | 1, _ => rcases hx with rfl | rfl | rfl <;> rfl
  | 2, _ => rcases hx with rfl | rfl | rfl <;> rfl
theorem sl0 {x : Nat} (hx : x = 30 ∨ x = 67) : gSH[x + 0]? = some (4, 18) := by rcases hx with rfl | rfl <;> rfl
theorem sl1 {x : Nat} (hx : x = 30 ∨ x = 67) : gSH[x + 1]? = some (20, 48) := by rcases hx with rfl | rfl <;> rfl
theorem sl2 {x : Nat} (hx : x = 30 ∨ x = 67) : gSH[x + 2]? = some (20, 48) := by rcases hx with rfl | rfl <;> rfl
theorem sl3 {x : Nat} (hx : x = 30 ∨ x = 67) : gSH[x + 3]? = some (20, 6) := by rcases hx with rfl | rfl <;> rfl
theorem sl4 {x : Nat} (hx : x = 30 ∨ x = 67) : gSH[x + 4]? = some (20, 6) := by rcases hx with rfl | rfl <;> rfl
theorem sl5 {x : Nat} (hx : x = 30 ∨ x = 67) : gSH[x + 5]? = some (20, 6) := by rcases hx with rfl | rfl <;> rfl
theorem sl6 {x : Nat} (hx : x = 30 ∨ x = 67) : gSH[x + 6]? = some (20, 6) := by rcases hx with rfl | rfl <;> rfl
theorem sl7 {x : Nat} (hx : x = 30 ∨ x = 67) : gSH[x + 7]? = some (20, 6) := by rcases hx with rfl | rfl <;> rfl
theorem sl8 {x : Nat} (hx : x = 30 ∨ x = 67) : gSH[x + 8]? = some (20, 36) := by rcases hx with rfl | rfl <;> rfl
theorem sl9 {x : Nat} (hx : x = 30 ∨ x = 67) : gSH[x + 9]? = some (20, 10) := by rcases hx with rfl | rfl <;> rfl
theorem sl10 {x : Nat} (hx : x = 30 ∨ x = 67) : gSH[x + 10]? = some (20, 10) := by rcases hx with rfl | rfl <;> rfl
theorem sl11 {x : Nat} (hx : x = 30 ∨ x = 67) : gSH[x + 11]? = some (0, 4) := by rcases hx with rfl | rfl <;> rfl
theorem sl12 {x : Nat} (hx : x = 30 ∨ x = 67) : gSH[x + 12]? = some (20, 1600) := by rcases hx with rfl | rfl <;> rfl
theorem sl13 {x : Nat} (hx : x = 30 ∨ x = 67) : gSH[x + 13]? = some (20, 3) := by rcases hx with rfl | rfl <;> rfl
theorem sl14 {x : Nat} (hx : x = 30 ∨ x = 67) : gSH[x + 14]? = some (20, 3) := by rcases hx with rfl | rfl <;> rfl
theorem slx {x : Nat} (hx : x = 30 ∨ x = 67) : gSH[x]? = some (4, 18) := by rcases hx with rfl | rfl <;> rfl
theorem sc0 {x : Nat} (hx : x = 41 ∨ x = 61 ∨ x = 78) : gSH[x + 0]? = some (0, 4) := by rcases hx with rfl | rfl | rfl <;> rfl
theorem sc1 {x : Nat} (hx : x = 41 ∨ x = 61 ∨ x = 78) : gSH[x + 1]? = some (20, 1600) := by rcases hx with rfl | rfl | rfl <;> rfl
theorem sc2 {x : Nat} (hx : x = 41 ∨ x = 61 ∨ x = 78) : gSH[x + 2]? = some (20, 3) := by rcases hx with rfl | rfl | rfl <;> rfl
theorem sc3 {x : Nat} (hx : x = 41 ∨ x = 61 ∨ x = 78) : gSH[x + 3]? = some (20, 3) := by rcases hx with rfl | rfl | rfl <;> rfl
theorem scx {x : Nat} (hx : x = 41 ∨ x = 61 ∨ x = 78) : gSH[x]? = some (0, 4) := by rcases hx with rfl | rfl | rfl <;> rfl
theorem sRF_lk {x : Nat} (hR : h.2.2 = gRF lk sp cd) : (sR h 29 2 (some x)).2.2 = gRF x sp cd := by
  funext a b
  show (if a = 29 then (if b = 2 then some x else h.2.2 a b) else h.2.2 a b) = _
  rw [hR]
  unfold gRF
  by_cases h1 : a = 29
  · subst h1
    by_cases h2 : b = 2 <;> simp [h2]
  · simp [h1]
theorem sRF_sp {x : Nat} (hR : h.2.2 = gRF lk sp cd) : (sR h 0 11 (some x)).2.2 = gRF lk x cd := by
  funext a b
  show (if a = 0 then (if b = 11 then some x else h.2.2 a b) else h.2.2 a b) = _
  rw [hR]
  unfold gRF
  by_cases h1 : a = 0
  · subst h1
    by_cases h2 : b = 11 <;> simp [h2]
  · simp [h1]
theorem sRF_cd {x : Option Nat} (hR : h.2.2 = gRF lk sp cd) : (sR h 4 1 x).2.2 = gRF lk sp x := by
  funext a b
  show (if a = 4 then (if b = 1 then x else h.2.2 a b) else h.2.2 a b) = _
  rw [hR]
  unfold gRF
  by_cases h1 : a = 4
  · subst h1
    by_cases h2 : b = 1 <;> simp [h2]
  · simp [h1]
end GRF
/-- a contract over the fixed world; a method's activation over it -/
abbrev gC (l : Launch) (G : gG) (d : Nat) (M : gM) (av : List Value) (h : gH) (Q : Option Value → gH → Prop) : Prop := gCt l G d M gSH gSH 0 0 av h Q
abbrev gg (p : Program) (l : Launch) (e : Env) (s : State) (m : MethodId) (args : Array Value) (below : List Frame) (meth : Method) (c : Code) (G : gG) (d : Nat) (M : gM) (Q : Option Value → gH → Prop) (pc : Nat) (ls : gLs) (st : List Value) (h : gH) : Prop :=
  Go p l e (gRm d 0 0) s m args below meth c G M gSH 0 0 (gZ below args s G gSH 0 0 Q) pc ls st h
theorem gCt.mono {l : Launch} {G : gG} {d : Nat} {M : gM} {sh she : gS} {mc ms : Nat} {av : List Value} {h : gH} {Q Q' : Option Value → gH → Prop} (hm : gCt l G d M sh she mc ms av h Q) (hq : ∀ r h', Q r h' → Q' r h') : gCt l G d M sh she mc ms av h Q' := by
  intro p e h1 h2 h3 s m args below h4 h5 h6 h7
  obtain ⟨k, o, a1, a2, a3, ⟨⟨⟨r, h', b1, b2, b3⟩, b4⟩, b5⟩⟩ := hm p e h1 h2 h3 s m args below h4 h5 h6 h7
  exact ⟨k, o, a1, a2, a3, ⟨⟨r, h', b1, hq r h' b2, b3⟩, b4⟩, b5⟩
def rI (F : Int32 → gH → Prop) : Option Value → gH → Prop := fun r h' => ∃ v, r = some (.int v) ∧ F v h'
def rL (F : Int64 → gH → Prop) : Option Value → gH → Prop := fun r h' => ∃ v, r = some (.long v) ∧ F v h'
def rV (F : gH → Prop) : Option Value → gH → Prop := fun r h' => r = none ∧ F h'
section GCW
variable {p : Program} {l : Launch} {e : Env} {s : State} {m : MethodId} {args : Array Value} {below : List Frame} {meth : Method} {c : Code} {G : gG} {M : gM} {d pc : Nat} {Q : Option Value → gH → Prop} {ls : gLs} {st : List Value} {h : gH} {idx n : Nat}
theorem gvI0 {F : Int32 → gH → Prop} {k0 ci : Nat} (Mc : gM) (hd : decode M.2.1 pc = .ok (.invokevirtual idx, 3)) (hlk : Cond.methodLink M.1.cls idx Mc.1 ∈ gW) (hcd : gCd Mc 0) (hvi : gVi Mc) (hs : gSH[k0]? = some (ci, gN ci)) (hci : ci < 13) (hcn : gR ci = Mc.1.cls) (hrm : (st.map fun v => v.category).sum ≤ 8) (hm : gC l G d Mc (.ref k0 :: []) h (rI F)) (k : ∀ v h', F v h' → gg p l e s m args below meth c G (d + 1) M Q (pc + 3) ls (.int v :: st) h') : gg p l e s m args below meth c G (d + 1) M Q pc ls (.ref k0 :: st) h := by
  refine go_callV (d := d) (mc := 0) (ms := 0) (she := gSH) Mc [] hd hlk hcd hvi hs hci hcn rfl hrm (Nat.le_refl _) (by show 80 * d + 59 ≤ 80 * (d + 1); omega) ⟨Nat.le_refl _, Nat.le_refl _⟩ rfl (hm.mono fun r h' q => ?_)
  obtain ⟨v, rfl, q⟩ := q
  exact k v h' q
theorem gvI1 {a1 : Value} {F : Int32 → gH → Prop} {k0 ci : Nat} (Mc : gM) (hd : decode M.2.1 pc = .ok (.invokevirtual idx, 3)) (hlk : Cond.methodLink M.1.cls idx Mc.1 ∈ gW) (hcd : gCd Mc 1) (hvi : gVi Mc) (hs : gSH[k0]? = some (ci, gN ci)) (hci : ci < 13) (hcn : gR ci = Mc.1.cls) (hrm : (st.map fun v => v.category).sum ≤ 8) (hm : gC l G d Mc (.ref k0 :: [a1]) h (rI F)) (k : ∀ v h', F v h' → gg p l e s m args below meth c G (d + 1) M Q (pc + 3) ls (.int v :: st) h') : gg p l e s m args below meth c G (d + 1) M Q pc ls (a1 :: .ref k0 :: st) h := by
  refine go_callV (d := d) (mc := 0) (ms := 0) (she := gSH) Mc [a1] hd hlk hcd hvi hs hci hcn rfl hrm (Nat.le_refl _) (by show 80 * d + 59 ≤ 80 * (d + 1); omega) ⟨Nat.le_refl _, Nat.le_refl _⟩ rfl (hm.mono fun r h' q => ?_)
  obtain ⟨v, rfl, q⟩ := q
  exact k v h' q
theorem gsI1 {a1 : Value} {F : Int32 → gH → Prop} (Mc : gM) (hd : decode M.2.1 pc = .ok (.invokestatic idx, 3)) (hlk : Cond.methodLink M.1.cls idx Mc.1 ∈ gW) (hcd : gCd Mc 1) (hvi : gSt Mc) (hrm : (st.map fun v => v.category).sum ≤ 8) (hm : gC l G d Mc [a1] h (rI F)) (k : ∀ v h', F v h' → gg p l e s m args below meth c G (d + 1) M Q (pc + 3) ls (.int v :: st) h') : gg p l e s m args below meth c G (d + 1) M Q pc ls (a1 :: st) h := by
  refine go_callS (d := d) (mc := 0) (ms := 0) (she := gSH) Mc [a1] hd hlk hcd hvi rfl hrm (Nat.le_refl _) (by show 80 * d + 59 ≤ 80 * (d + 1); omega) ⟨Nat.le_refl _, Nat.le_refl _⟩ rfl (hm.mono fun r h' q => ?_)
  obtain ⟨v, rfl, q⟩ := q
  exact k v h' q
theorem gvI2 {a1 a2 : Value} {F : Int32 → gH → Prop} {k0 ci : Nat} (Mc : gM) (hd : decode M.2.1 pc = .ok (.invokevirtual idx, 3)) (hlk : Cond.methodLink M.1.cls idx Mc.1 ∈ gW) (hcd : gCd Mc 2) (hvi : gVi Mc) (hs : gSH[k0]? = some (ci, gN ci)) (hci : ci < 13) (hcn : gR ci = Mc.1.cls) (hrm : (st.map fun v => v.category).sum ≤ 8) (hm : gC l G d Mc (.ref k0 :: [a1, a2]) h (rI F)) (k : ∀ v h', F v h' → gg p l e s m args below meth c G (d + 1) M Q (pc + 3) ls (.int v :: st) h') : gg p l e s m args below meth c G (d + 1) M Q pc ls (a2 :: a1 :: .ref k0 :: st) h := by
  refine go_callV (d := d) (mc := 0) (ms := 0) (she := gSH) Mc [a1, a2] hd hlk hcd hvi hs hci hcn rfl hrm (Nat.le_refl _) (by show 80 * d + 59 ≤ 80 * (d + 1); omega) ⟨Nat.le_refl _, Nat.le_refl _⟩ rfl (hm.mono fun r h' q => ?_)
  obtain ⟨v, rfl, q⟩ := q
  exact k v h' q
theorem gsI2 {a1 a2 : Value} {F : Int32 → gH → Prop} (Mc : gM) (hd : decode M.2.1 pc = .ok (.invokestatic idx, 3)) (hlk : Cond.methodLink M.1.cls idx Mc.1 ∈ gW) (hcd : gCd Mc 2) (hvi : gSt Mc) (hrm : (st.map fun v => v.category).sum ≤ 8) (hm : gC l G d Mc [a1, a2] h (rI F)) (k : ∀ v h', F v h' → gg p l e s m args below meth c G (d + 1) M Q (pc + 3) ls (.int v :: st) h') : gg p l e s m args below meth c G (d + 1) M Q pc ls (a2 :: a1 :: st) h := by
  refine go_callS (d := d) (mc := 0) (ms := 0) (she := gSH) Mc [a1, a2] hd hlk hcd hvi rfl hrm (Nat.le_refl _) (by show 80 * d + 59 ≤ 80 * (d + 1); omega) ⟨Nat.le_refl _, Nat.le_refl _⟩ rfl (hm.mono fun r h' q => ?_)
  obtain ⟨v, rfl, q⟩ := q
  exact k v h' q
theorem gvI3 {a1 a2 a3 : Value} {F : Int32 → gH → Prop} {k0 ci : Nat} (Mc : gM) (hd : decode M.2.1 pc = .ok (.invokevirtual idx, 3)) (hlk : Cond.methodLink M.1.cls idx Mc.1 ∈ gW) (hcd : gCd Mc 3) (hvi : gVi Mc) (hs : gSH[k0]? = some (ci, gN ci)) (hci : ci < 13) (hcn : gR ci = Mc.1.cls) (hrm : (st.map fun v => v.category).sum ≤ 8) (hm : gC l G d Mc (.ref k0 :: [a1, a2, a3]) h (rI F)) (k : ∀ v h', F v h' → gg p l e s m args below meth c G (d + 1) M Q (pc + 3) ls (.int v :: st) h') : gg p l e s m args below meth c G (d + 1) M Q pc ls (a3 :: a2 :: a1 :: .ref k0 :: st) h := by
  refine go_callV (d := d) (mc := 0) (ms := 0) (she := gSH) Mc [a1, a2, a3] hd hlk hcd hvi hs hci hcn rfl hrm (Nat.le_refl _) (by show 80 * d + 59 ≤ 80 * (d + 1); omega) ⟨Nat.le_refl _, Nat.le_refl _⟩ rfl (hm.mono fun r h' q => ?_)
  obtain ⟨v, rfl, q⟩ := q
  exact k v h' q
theorem gsI3 {a1 a2 a3 : Value} {F : Int32 → gH → Prop} (Mc : gM) (hd : decode M.2.1 pc = .ok (.invokestatic idx, 3)) (hlk : Cond.methodLink M.1.cls idx Mc.1 ∈ gW) (hcd : gCd Mc 3) (hvi : gSt Mc) (hrm : (st.map fun v => v.category).sum ≤ 8) (hm : gC l G d Mc [a1, a2, a3] h (rI F)) (k : ∀ v h', F v h' → gg p l e s m args below meth c G (d + 1) M Q (pc + 3) ls (.int v :: st) h') : gg p l e s m args below meth c G (d + 1) M Q pc ls (a3 :: a2 :: a1 :: st) h := by
  refine go_callS (d := d) (mc := 0) (ms := 0) (she := gSH) Mc [a1, a2, a3] hd hlk hcd hvi rfl hrm (Nat.le_refl _) (by show 80 * d + 59 ≤ 80 * (d + 1); omega) ⟨Nat.le_refl _, Nat.le_refl _⟩ rfl (hm.mono fun r h' q => ?_)
  obtain ⟨v, rfl, q⟩ := q
  exact k v h' q
theorem gvI4 {a1 a2 a3 a4 : Value} {F : Int32 → gH → Prop} {k0 ci : Nat} (Mc : gM) (hd : decode M.2.1 pc = .ok (.invokevirtual idx, 3)) (hlk : Cond.methodLink M.1.cls idx Mc.1 ∈ gW) (hcd : gCd Mc 4) (hvi : gVi Mc) (hs : gSH[k0]? = some (ci, gN ci)) (hci : ci < 13) (hcn : gR ci = Mc.1.cls) (hrm : (st.map fun v => v.category).sum ≤ 8) (hm : gC l G d Mc (.ref k0 :: [a1, a2, a3, a4]) h (rI F)) (k : ∀ v h', F v h' → gg p l e s m args below meth c G (d + 1) M Q (pc + 3) ls (.int v :: st) h') : gg p l e s m args below meth c G (d + 1) M Q pc ls (a4 :: a3 :: a2 :: a1 :: .ref k0 :: st) h := by
  refine go_callV (d := d) (mc := 0) (ms := 0) (she := gSH) Mc [a1, a2, a3, a4] hd hlk hcd hvi hs hci hcn rfl hrm (Nat.le_refl _) (by show 80 * d + 59 ≤ 80 * (d + 1); omega) ⟨Nat.le_refl _, Nat.le_refl _⟩ rfl (hm.mono fun r h' q => ?_)
  obtain ⟨v, rfl, q⟩ := q
  exact k v h' q
theorem gsI4 {a1 a2 a3 a4 : Value} {F : Int32 → gH → Prop} (Mc : gM) (hd : decode M.2.1 pc = .ok (.invokestatic idx, 3)) (hlk : Cond.methodLink M.1.cls idx Mc.1 ∈ gW) (hcd : gCd Mc 4) (hvi : gSt Mc) (hrm : (st.map fun v => v.category).sum ≤ 8) (hm : gC l G d Mc [a1, a2, a3, a4] h (rI F)) (k : ∀ v h', F v h' → gg p l e s m args below meth c G (d + 1) M Q (pc + 3) ls (.int v :: st) h') : gg p l e s m args below meth c G (d + 1) M Q pc ls (a4 :: a3 :: a2 :: a1 :: st) h := by
  refine go_callS (d := d) (mc := 0) (ms := 0) (she := gSH) Mc [a1, a2, a3, a4] hd hlk hcd hvi rfl hrm (Nat.le_refl _) (by show 80 * d + 59 ≤ 80 * (d + 1); omega) ⟨Nat.le_refl _, Nat.le_refl _⟩ rfl (hm.mono fun r h' q => ?_)
  obtain ⟨v, rfl, q⟩ := q
  exact k v h' q
theorem gvI5 {a1 a2 a3 a4 a5 : Value} {F : Int32 → gH → Prop} {k0 ci : Nat} (Mc : gM) (hd : decode M.2.1 pc = .ok (.invokevirtual idx, 3)) (hlk : Cond.methodLink M.1.cls idx Mc.1 ∈ gW) (hcd : gCd Mc 5) (hvi : gVi Mc) (hs : gSH[k0]? = some (ci, gN ci)) (hci : ci < 13) (hcn : gR ci = Mc.1.cls) (hrm : (st.map fun v => v.category).sum ≤ 8) (hm : gC l G d Mc (.ref k0 :: [a1, a2, a3, a4, a5]) h (rI F)) (k : ∀ v h', F v h' → gg p l e s m args below meth c G (d + 1) M Q (pc + 3) ls (.int v :: st) h') : gg p l e s m args below meth c G (d + 1) M Q pc ls (a5 :: a4 :: a3 :: a2 :: a1 :: .ref k0 :: st) h := by
  refine go_callV (d := d) (mc := 0) (ms := 0) (she := gSH) Mc [a1, a2, a3, a4, a5] hd hlk hcd hvi hs hci hcn rfl hrm (Nat.le_refl _) (by show 80 * d + 59 ≤ 80 * (d + 1); omega) ⟨Nat.le_refl _, Nat.le_refl _⟩ rfl (hm.mono fun r h' q => ?_)
  obtain ⟨v, rfl, q⟩ := q
  exact k v h' q
theorem gsI5 {a1 a2 a3 a4 a5 : Value} {F : Int32 → gH → Prop} (Mc : gM) (hd : decode M.2.1 pc = .ok (.invokestatic idx, 3)) (hlk : Cond.methodLink M.1.cls idx Mc.1 ∈ gW) (hcd : gCd Mc 5) (hvi : gSt Mc) (hrm : (st.map fun v => v.category).sum ≤ 8) (hm : gC l G d Mc [a1, a2, a3, a4, a5] h (rI F)) (k : ∀ v h', F v h' → gg p l e s m args below meth c G (d + 1) M Q (pc + 3) ls (.int v :: st) h') : gg p l e s m args below meth c G (d + 1) M Q pc ls (a5 :: a4 :: a3 :: a2 :: a1 :: st) h := by
  refine go_callS (d := d) (mc := 0) (ms := 0) (she := gSH) Mc [a1, a2, a3, a4, a5] hd hlk hcd hvi rfl hrm (Nat.le_refl _) (by show 80 * d + 59 ≤ 80 * (d + 1); omega) ⟨Nat.le_refl _, Nat.le_refl _⟩ rfl (hm.mono fun r h' q => ?_)
  obtain ⟨v, rfl, q⟩ := q
  exact k v h' q
theorem gsI6 {a1 a2 a3 a4 a5 a6 : Value} {F : Int32 → gH → Prop} (Mc : gM) (hd : decode M.2.1 pc = .ok (.invokestatic idx, 3)) (hlk : Cond.methodLink M.1.cls idx Mc.1 ∈ gW) (hcd : gCd Mc 6) (hvi : gSt Mc) (hrm : (st.map fun v => v.category).sum ≤ 8) (hm : gC l G d Mc [a1, a2, a3, a4, a5, a6] h (rI F)) (k : ∀ v h', F v h' → gg p l e s m args below meth c G (d + 1) M Q (pc + 3) ls (.int v :: st) h') : gg p l e s m args below meth c G (d + 1) M Q pc ls (a6 :: a5 :: a4 :: a3 :: a2 :: a1 :: st) h := by
  refine go_callS (d := d) (mc := 0) (ms := 0) (she := gSH) Mc [a1, a2, a3, a4, a5, a6] hd hlk hcd hvi rfl hrm (Nat.le_refl _) (by show 80 * d + 59 ≤ 80 * (d + 1); omega) ⟨Nat.le_refl _, Nat.le_refl _⟩ rfl (hm.mono fun r h' q => ?_)
  obtain ⟨v, rfl, q⟩ := q
  exact k v h' q
theorem gvL0 {F : Int64 → gH → Prop} {k0 ci : Nat} (Mc : gM) (hd : decode M.2.1 pc = .ok (.invokevirtual idx, 3)) (hlk : Cond.methodLink M.1.cls idx Mc.1 ∈ gW) (hcd : gCd Mc 0) (hvi : gVi Mc) (hs : gSH[k0]? = some (ci, gN ci)) (hci : ci < 13) (hcn : gR ci = Mc.1.cls) (hrm : (st.map fun v => v.category).sum ≤ 8) (hm : gC l G d Mc (.ref k0 :: []) h (rL F)) (k : ∀ v h', F v h' → gg p l e s m args below meth c G (d + 1) M Q (pc + 3) ls (.long v :: st) h') : gg p l e s m args below meth c G (d + 1) M Q pc ls (.ref k0 :: st) h := by
  refine go_callV (d := d) (mc := 0) (ms := 0) (she := gSH) Mc [] hd hlk hcd hvi hs hci hcn rfl hrm (Nat.le_refl _) (by show 80 * d + 59 ≤ 80 * (d + 1); omega) ⟨Nat.le_refl _, Nat.le_refl _⟩ rfl (hm.mono fun r h' q => ?_)
  obtain ⟨v, rfl, q⟩ := q
  exact k v h' q
theorem gvL1 {a1 : Value} {F : Int64 → gH → Prop} {k0 ci : Nat} (Mc : gM) (hd : decode M.2.1 pc = .ok (.invokevirtual idx, 3)) (hlk : Cond.methodLink M.1.cls idx Mc.1 ∈ gW) (hcd : gCd Mc 1) (hvi : gVi Mc) (hs : gSH[k0]? = some (ci, gN ci)) (hci : ci < 13) (hcn : gR ci = Mc.1.cls) (hrm : (st.map fun v => v.category).sum ≤ 8) (hm : gC l G d Mc (.ref k0 :: [a1]) h (rL F)) (k : ∀ v h', F v h' → gg p l e s m args below meth c G (d + 1) M Q (pc + 3) ls (.long v :: st) h') : gg p l e s m args below meth c G (d + 1) M Q pc ls (a1 :: .ref k0 :: st) h := by
  refine go_callV (d := d) (mc := 0) (ms := 0) (she := gSH) Mc [a1] hd hlk hcd hvi hs hci hcn rfl hrm (Nat.le_refl _) (by show 80 * d + 59 ≤ 80 * (d + 1); omega) ⟨Nat.le_refl _, Nat.le_refl _⟩ rfl (hm.mono fun r h' q => ?_)
  obtain ⟨v, rfl, q⟩ := q
  exact k v h' q
theorem gsL1 {a1 : Value} {F : Int64 → gH → Prop} (Mc : gM) (hd : decode M.2.1 pc = .ok (.invokestatic idx, 3)) (hlk : Cond.methodLink M.1.cls idx Mc.1 ∈ gW) (hcd : gCd Mc 1) (hvi : gSt Mc) (hrm : (st.map fun v => v.category).sum ≤ 8) (hm : gC l G d Mc [a1] h (rL F)) (k : ∀ v h', F v h' → gg p l e s m args below meth c G (d + 1) M Q (pc + 3) ls (.long v :: st) h') : gg p l e s m args below meth c G (d + 1) M Q pc ls (a1 :: st) h := by
  refine go_callS (d := d) (mc := 0) (ms := 0) (she := gSH) Mc [a1] hd hlk hcd hvi rfl hrm (Nat.le_refl _) (by show 80 * d + 59 ≤ 80 * (d + 1); omega) ⟨Nat.le_refl _, Nat.le_refl _⟩ rfl (hm.mono fun r h' q => ?_)
  obtain ⟨v, rfl, q⟩ := q
  exact k v h' q
theorem gvL2 {a1 a2 : Value} {F : Int64 → gH → Prop} {k0 ci : Nat} (Mc : gM) (hd : decode M.2.1 pc = .ok (.invokevirtual idx, 3)) (hlk : Cond.methodLink M.1.cls idx Mc.1 ∈ gW) (hcd : gCd Mc 2) (hvi : gVi Mc) (hs : gSH[k0]? = some (ci, gN ci)) (hci : ci < 13) (hcn : gR ci = Mc.1.cls) (hrm : (st.map fun v => v.category).sum ≤ 8) (hm : gC l G d Mc (.ref k0 :: [a1, a2]) h (rL F)) (k : ∀ v h', F v h' → gg p l e s m args below meth c G (d + 1) M Q (pc + 3) ls (.long v :: st) h') : gg p l e s m args below meth c G (d + 1) M Q pc ls (a2 :: a1 :: .ref k0 :: st) h := by
  refine go_callV (d := d) (mc := 0) (ms := 0) (she := gSH) Mc [a1, a2] hd hlk hcd hvi hs hci hcn rfl hrm (Nat.le_refl _) (by show 80 * d + 59 ≤ 80 * (d + 1); omega) ⟨Nat.le_refl _, Nat.le_refl _⟩ rfl (hm.mono fun r h' q => ?_)
  obtain ⟨v, rfl, q⟩ := q
  exact k v h' q
theorem gsL2 {a1 a2 : Value} {F : Int64 → gH → Prop} (Mc : gM) (hd : decode M.2.1 pc = .ok (.invokestatic idx, 3)) (hlk : Cond.methodLink M.1.cls idx Mc.1 ∈ gW) (hcd : gCd Mc 2) (hvi : gSt Mc) (hrm : (st.map fun v => v.category).sum ≤ 8) (hm : gC l G d Mc [a1, a2] h (rL F)) (k : ∀ v h', F v h' → gg p l e s m args below meth c G (d + 1) M Q (pc + 3) ls (.long v :: st) h') : gg p l e s m args below meth c G (d + 1) M Q pc ls (a2 :: a1 :: st) h := by
  refine go_callS (d := d) (mc := 0) (ms := 0) (she := gSH) Mc [a1, a2] hd hlk hcd hvi rfl hrm (Nat.le_refl _) (by show 80 * d + 59 ≤ 80 * (d + 1); omega) ⟨Nat.le_refl _, Nat.le_refl _⟩ rfl (hm.mono fun r h' q => ?_)
  obtain ⟨v, rfl, q⟩ := q
  exact k v h' q
theorem gvL3 {a1 a2 a3 : Value} {F : Int64 → gH → Prop} {k0 ci : Nat} (Mc : gM) (hd : decode M.2.1 pc = .ok (.invokevirtual idx, 3)) (hlk : Cond.methodLink M.1.cls idx Mc.1 ∈ gW) (hcd : gCd Mc 3) (hvi : gVi Mc) (hs : gSH[k0]? = some (ci, gN ci)) (hci : ci < 13) (hcn : gR ci = Mc.1.cls) (hrm : (st.map fun v => v.category).sum ≤ 8) (hm : gC l G d Mc (.ref k0 :: [a1, a2, a3]) h (rL F)) (k : ∀ v h', F v h' → gg p l e s m args below meth c G (d + 1) M Q (pc + 3) ls (.long v :: st) h') : gg p l e s m args below meth c G (d + 1) M Q pc ls (a3 :: a2 :: a1 :: .ref k0 :: st) h := by
  refine go_callV (d := d) (mc := 0) (ms := 0) (she := gSH) Mc [a1, a2, a3] hd hlk hcd hvi hs hci hcn rfl hrm (Nat.le_refl _) (by show 80 * d + 59 ≤ 80 * (d + 1); omega) ⟨Nat.le_refl _, Nat.le_refl _⟩ rfl (hm.mono fun r h' q => ?_)
  obtain ⟨v, rfl, q⟩ := q
  exact k v h' q
theorem gsL3 {a1 a2 a3 : Value} {F : Int64 → gH → Prop} (Mc : gM) (hd : decode M.2.1 pc = .ok (.invokestatic idx, 3)) (hlk : Cond.methodLink M.1.cls idx Mc.1 ∈ gW) (hcd : gCd Mc 3) (hvi : gSt Mc) (hrm : (st.map fun v => v.category).sum ≤ 8) (hm : gC l G d Mc [a1, a2, a3] h (rL F)) (k : ∀ v h', F v h' → gg p l e s m args below meth c G (d + 1) M Q (pc + 3) ls (.long v :: st) h') : gg p l e s m args below meth c G (d + 1) M Q pc ls (a3 :: a2 :: a1 :: st) h := by
  refine go_callS (d := d) (mc := 0) (ms := 0) (she := gSH) Mc [a1, a2, a3] hd hlk hcd hvi rfl hrm (Nat.le_refl _) (by show 80 * d + 59 ≤ 80 * (d + 1); omega) ⟨Nat.le_refl _, Nat.le_refl _⟩ rfl (hm.mono fun r h' q => ?_)
  obtain ⟨v, rfl, q⟩ := q
  exact k v h' q
theorem gvL4 {a1 a2 a3 a4 : Value} {F : Int64 → gH → Prop} {k0 ci : Nat} (Mc : gM) (hd : decode M.2.1 pc = .ok (.invokevirtual idx, 3)) (hlk : Cond.methodLink M.1.cls idx Mc.1 ∈ gW) (hcd : gCd Mc 4) (hvi : gVi Mc) (hs : gSH[k0]? = some (ci, gN ci)) (hci : ci < 13) (hcn : gR ci = Mc.1.cls) (hrm : (st.map fun v => v.category).sum ≤ 8) (hm : gC l G d Mc (.ref k0 :: [a1, a2, a3, a4]) h (rL F)) (k : ∀ v h', F v h' → gg p l e s m args below meth c G (d + 1) M Q (pc + 3) ls (.long v :: st) h') : gg p l e s m args below meth c G (d + 1) M Q pc ls (a4 :: a3 :: a2 :: a1 :: .ref k0 :: st) h := by
  refine go_callV (d := d) (mc := 0) (ms := 0) (she := gSH) Mc [a1, a2, a3, a4] hd hlk hcd hvi hs hci hcn rfl hrm (Nat.le_refl _) (by show 80 * d + 59 ≤ 80 * (d + 1); omega) ⟨Nat.le_refl _, Nat.le_refl _⟩ rfl (hm.mono fun r h' q => ?_)
  obtain ⟨v, rfl, q⟩ := q
  exact k v h' q
theorem gsL4 {a1 a2 a3 a4 : Value} {F : Int64 → gH → Prop} (Mc : gM) (hd : decode M.2.1 pc = .ok (.invokestatic idx, 3)) (hlk : Cond.methodLink M.1.cls idx Mc.1 ∈ gW) (hcd : gCd Mc 4) (hvi : gSt Mc) (hrm : (st.map fun v => v.category).sum ≤ 8) (hm : gC l G d Mc [a1, a2, a3, a4] h (rL F)) (k : ∀ v h', F v h' → gg p l e s m args below meth c G (d + 1) M Q (pc + 3) ls (.long v :: st) h') : gg p l e s m args below meth c G (d + 1) M Q pc ls (a4 :: a3 :: a2 :: a1 :: st) h := by
  refine go_callS (d := d) (mc := 0) (ms := 0) (she := gSH) Mc [a1, a2, a3, a4] hd hlk hcd hvi rfl hrm (Nat.le_refl _) (by show 80 * d + 59 ≤ 80 * (d + 1); omega) ⟨Nat.le_refl _, Nat.le_refl _⟩ rfl (hm.mono fun r h' q => ?_)
  obtain ⟨v, rfl, q⟩ := q
  exact k v h' q
theorem gvL5 {a1 a2 a3 a4 a5 : Value} {F : Int64 → gH → Prop} {k0 ci : Nat} (Mc : gM) (hd : decode M.2.1 pc = .ok (.invokevirtual idx, 3)) (hlk : Cond.methodLink M.1.cls idx Mc.1 ∈ gW) (hcd : gCd Mc 5) (hvi : gVi Mc) (hs : gSH[k0]? = some (ci, gN ci)) (hci : ci < 13) (hcn : gR ci = Mc.1.cls) (hrm : (st.map fun v => v.category).sum ≤ 8) (hm : gC l G d Mc (.ref k0 :: [a1, a2, a3, a4, a5]) h (rL F)) (k : ∀ v h', F v h' → gg p l e s m args below meth c G (d + 1) M Q (pc + 3) ls (.long v :: st) h') : gg p l e s m args below meth c G (d + 1) M Q pc ls (a5 :: a4 :: a3 :: a2 :: a1 :: .ref k0 :: st) h := by
  refine go_callV (d := d) (mc := 0) (ms := 0) (she := gSH) Mc [a1, a2, a3, a4, a5] hd hlk hcd hvi hs hci hcn rfl hrm (Nat.le_refl _) (by show 80 * d + 59 ≤ 80 * (d + 1); omega) ⟨Nat.le_refl _, Nat.le_refl _⟩ rfl (hm.mono fun r h' q => ?_)
  obtain ⟨v, rfl, q⟩ := q
  exact k v h' q
theorem gsL5 {a1 a2 a3 a4 a5 : Value} {F : Int64 → gH → Prop} (Mc : gM) (hd : decode M.2.1 pc = .ok (.invokestatic idx, 3)) (hlk : Cond.methodLink M.1.cls idx Mc.1 ∈ gW) (hcd : gCd Mc 5) (hvi : gSt Mc) (hrm : (st.map fun v => v.category).sum ≤ 8) (hm : gC l G d Mc [a1, a2, a3, a4, a5] h (rL F)) (k : ∀ v h', F v h' → gg p l e s m args below meth c G (d + 1) M Q (pc + 3) ls (.long v :: st) h') : gg p l e s m args below meth c G (d + 1) M Q pc ls (a5 :: a4 :: a3 :: a2 :: a1 :: st) h := by
  refine go_callS (d := d) (mc := 0) (ms := 0) (she := gSH) Mc [a1, a2, a3, a4, a5] hd hlk hcd hvi rfl hrm (Nat.le_refl _) (by show 80 * d + 59 ≤ 80 * (d + 1); omega) ⟨Nat.le_refl _, Nat.le_refl _⟩ rfl (hm.mono fun r h' q => ?_)
  obtain ⟨v, rfl, q⟩ := q
  exact k v h' q
theorem gsL6 {a1 a2 a3 a4 a5 a6 : Value} {F : Int64 → gH → Prop} (Mc : gM) (hd : decode M.2.1 pc = .ok (.invokestatic idx, 3)) (hlk : Cond.methodLink M.1.cls idx Mc.1 ∈ gW) (hcd : gCd Mc 6) (hvi : gSt Mc) (hrm : (st.map fun v => v.category).sum ≤ 8) (hm : gC l G d Mc [a1, a2, a3, a4, a5, a6] h (rL F)) (k : ∀ v h', F v h' → gg p l e s m args below meth c G (d + 1) M Q (pc + 3) ls (.long v :: st) h') : gg p l e s m args below meth c G (d + 1) M Q pc ls (a6 :: a5 :: a4 :: a3 :: a2 :: a1 :: st) h := by
  refine go_callS (d := d) (mc := 0) (ms := 0) (she := gSH) Mc [a1, a2, a3, a4, a5, a6] hd hlk hcd hvi rfl hrm (Nat.le_refl _) (by show 80 * d + 59 ≤ 80 * (d + 1); omega) ⟨Nat.le_refl _, Nat.le_refl _⟩ rfl (hm.mono fun r h' q => ?_)
  obtain ⟨v, rfl, q⟩ := q
  exact k v h' q
theorem gvV0 {F : gH → Prop} {k0 ci : Nat} (Mc : gM) (hd : decode M.2.1 pc = .ok (.invokevirtual idx, 3)) (hlk : Cond.methodLink M.1.cls idx Mc.1 ∈ gW) (hcd : gCd Mc 0) (hvi : gVi Mc) (hs : gSH[k0]? = some (ci, gN ci)) (hci : ci < 13) (hcn : gR ci = Mc.1.cls) (hrm : (st.map fun v => v.category).sum ≤ 8) (hm : gC l G d Mc (.ref k0 :: []) h (rV F)) (k : ∀ h', F h' → gg p l e s m args below meth c G (d + 1) M Q (pc + 3) ls st h') : gg p l e s m args below meth c G (d + 1) M Q pc ls (.ref k0 :: st) h := by
  refine go_callV (d := d) (mc := 0) (ms := 0) (she := gSH) Mc [] hd hlk hcd hvi hs hci hcn rfl hrm (Nat.le_refl _) (by show 80 * d + 59 ≤ 80 * (d + 1); omega) ⟨Nat.le_refl _, Nat.le_refl _⟩ rfl (hm.mono fun r h' q => ?_)
  obtain ⟨rfl, q⟩ := q
  exact k h' q
theorem gvV1 {a1 : Value} {F : gH → Prop} {k0 ci : Nat} (Mc : gM) (hd : decode M.2.1 pc = .ok (.invokevirtual idx, 3)) (hlk : Cond.methodLink M.1.cls idx Mc.1 ∈ gW) (hcd : gCd Mc 1) (hvi : gVi Mc) (hs : gSH[k0]? = some (ci, gN ci)) (hci : ci < 13) (hcn : gR ci = Mc.1.cls) (hrm : (st.map fun v => v.category).sum ≤ 8) (hm : gC l G d Mc (.ref k0 :: [a1]) h (rV F)) (k : ∀ h', F h' → gg p l e s m args below meth c G (d + 1) M Q (pc + 3) ls st h') : gg p l e s m args below meth c G (d + 1) M Q pc ls (a1 :: .ref k0 :: st) h := by
  refine go_callV (d := d) (mc := 0) (ms := 0) (she := gSH) Mc [a1] hd hlk hcd hvi hs hci hcn rfl hrm (Nat.le_refl _) (by show 80 * d + 59 ≤ 80 * (d + 1); omega) ⟨Nat.le_refl _, Nat.le_refl _⟩ rfl (hm.mono fun r h' q => ?_)
  obtain ⟨rfl, q⟩ := q
  exact k h' q
theorem gsV1 {a1 : Value} {F : gH → Prop} (Mc : gM) (hd : decode M.2.1 pc = .ok (.invokestatic idx, 3)) (hlk : Cond.methodLink M.1.cls idx Mc.1 ∈ gW) (hcd : gCd Mc 1) (hvi : gSt Mc) (hrm : (st.map fun v => v.category).sum ≤ 8) (hm : gC l G d Mc [a1] h (rV F)) (k : ∀ h', F h' → gg p l e s m args below meth c G (d + 1) M Q (pc + 3) ls st h') : gg p l e s m args below meth c G (d + 1) M Q pc ls (a1 :: st) h := by
  refine go_callS (d := d) (mc := 0) (ms := 0) (she := gSH) Mc [a1] hd hlk hcd hvi rfl hrm (Nat.le_refl _) (by show 80 * d + 59 ≤ 80 * (d + 1); omega) ⟨Nat.le_refl _, Nat.le_refl _⟩ rfl (hm.mono fun r h' q => ?_)
  obtain ⟨rfl, q⟩ := q
  exact k h' q
theorem gvV2 {a1 a2 : Value} {F : gH → Prop} {k0 ci : Nat} (Mc : gM) (hd : decode M.2.1 pc = .ok (.invokevirtual idx, 3)) (hlk : Cond.methodLink M.1.cls idx Mc.1 ∈ gW) (hcd : gCd Mc 2) (hvi : gVi Mc) (hs : gSH[k0]? = some (ci, gN ci)) (hci : ci < 13) (hcn : gR ci = Mc.1.cls) (hrm : (st.map fun v => v.category).sum ≤ 8) (hm : gC l G d Mc (.ref k0 :: [a1, a2]) h (rV F)) (k : ∀ h', F h' → gg p l e s m args below meth c G (d + 1) M Q (pc + 3) ls st h') : gg p l e s m args below meth c G (d + 1) M Q pc ls (a2 :: a1 :: .ref k0 :: st) h := by
  refine go_callV (d := d) (mc := 0) (ms := 0) (she := gSH) Mc [a1, a2] hd hlk hcd hvi hs hci hcn rfl hrm (Nat.le_refl _) (by show 80 * d + 59 ≤ 80 * (d + 1); omega) ⟨Nat.le_refl _, Nat.le_refl _⟩ rfl (hm.mono fun r h' q => ?_)
  obtain ⟨rfl, q⟩ := q
  exact k h' q
theorem gsV2 {a1 a2 : Value} {F : gH → Prop} (Mc : gM) (hd : decode M.2.1 pc = .ok (.invokestatic idx, 3)) (hlk : Cond.methodLink M.1.cls idx Mc.1 ∈ gW) (hcd : gCd Mc 2) (hvi : gSt Mc) (hrm : (st.map fun v => v.category).sum ≤ 8) (hm : gC l G d Mc [a1, a2] h (rV F)) (k : ∀ h', F h' → gg p l e s m args below meth c G (d + 1) M Q (pc + 3) ls st h') : gg p l e s m args below meth c G (d + 1) M Q pc ls (a2 :: a1 :: st) h := by
  refine go_callS (d := d) (mc := 0) (ms := 0) (she := gSH) Mc [a1, a2] hd hlk hcd hvi rfl hrm (Nat.le_refl _) (by show 80 * d + 59 ≤ 80 * (d + 1); omega) ⟨Nat.le_refl _, Nat.le_refl _⟩ rfl (hm.mono fun r h' q => ?_)
  obtain ⟨rfl, q⟩ := q
  exact k h' q
theorem gvV3 {a1 a2 a3 : Value} {F : gH → Prop} {k0 ci : Nat} (Mc : gM) (hd : decode M.2.1 pc = .ok (.invokevirtual idx, 3)) (hlk : Cond.methodLink M.1.cls idx Mc.1 ∈ gW) (hcd : gCd Mc 3) (hvi : gVi Mc) (hs : gSH[k0]? = some (ci, gN ci)) (hci : ci < 13) (hcn : gR ci = Mc.1.cls) (hrm : (st.map fun v => v.category).sum ≤ 8) (hm : gC l G d Mc (.ref k0 :: [a1, a2, a3]) h (rV F)) (k : ∀ h', F h' → gg p l e s m args below meth c G (d + 1) M Q (pc + 3) ls st h') : gg p l e s m args below meth c G (d + 1) M Q pc ls (a3 :: a2 :: a1 :: .ref k0 :: st) h := by
  refine go_callV (d := d) (mc := 0) (ms := 0) (she := gSH) Mc [a1, a2, a3] hd hlk hcd hvi hs hci hcn rfl hrm (Nat.le_refl _) (by show 80 * d + 59 ≤ 80 * (d + 1); omega) ⟨Nat.le_refl _, Nat.le_refl _⟩ rfl (hm.mono fun r h' q => ?_)
  obtain ⟨rfl, q⟩ := q
  exact k h' q
theorem gsV3 {a1 a2 a3 : Value} {F : gH → Prop} (Mc : gM) (hd : decode M.2.1 pc = .ok (.invokestatic idx, 3)) (hlk : Cond.methodLink M.1.cls idx Mc.1 ∈ gW) (hcd : gCd Mc 3) (hvi : gSt Mc) (hrm : (st.map fun v => v.category).sum ≤ 8) (hm : gC l G d Mc [a1, a2, a3] h (rV F)) (k : ∀ h', F h' → gg p l e s m args below meth c G (d + 1) M Q (pc + 3) ls st h') : gg p l e s m args below meth c G (d + 1) M Q pc ls (a3 :: a2 :: a1 :: st) h := by
  refine go_callS (d := d) (mc := 0) (ms := 0) (she := gSH) Mc [a1, a2, a3] hd hlk hcd hvi rfl hrm (Nat.le_refl _) (by show 80 * d + 59 ≤ 80 * (d + 1); omega) ⟨Nat.le_refl _, Nat.le_refl _⟩ rfl (hm.mono fun r h' q => ?_)
  obtain ⟨rfl, q⟩ := q
  exact k h' q
theorem gvV4 {a1 a2 a3 a4 : Value} {F : gH → Prop} {k0 ci : Nat} (Mc : gM) (hd : decode M.2.1 pc = .ok (.invokevirtual idx, 3)) (hlk : Cond.methodLink M.1.cls idx Mc.1 ∈ gW) (hcd : gCd Mc 4) (hvi : gVi Mc) (hs : gSH[k0]? = some (ci, gN ci)) (hci : ci < 13) (hcn : gR ci = Mc.1.cls) (hrm : (st.map fun v => v.category).sum ≤ 8) (hm : gC l G d Mc (.ref k0 :: [a1, a2, a3, a4]) h (rV F)) (k : ∀ h', F h' → gg p l e s m args below meth c G (d + 1) M Q (pc + 3) ls st h') : gg p l e s m args below meth c G (d + 1) M Q pc ls (a4 :: a3 :: a2 :: a1 :: .ref k0 :: st) h := by
  refine go_callV (d := d) (mc := 0) (ms := 0) (she := gSH) Mc [a1, a2, a3, a4] hd hlk hcd hvi hs hci hcn rfl hrm (Nat.le_refl _) (by show 80 * d + 59 ≤ 80 * (d + 1); omega) ⟨Nat.le_refl _, Nat.le_refl _⟩ rfl (hm.mono fun r h' q => ?_)
  obtain ⟨rfl, q⟩ := q
  exact k h' q
theorem gsV4 {a1 a2 a3 a4 : Value} {F : gH → Prop} (Mc : gM) (hd : decode M.2.1 pc = .ok (.invokestatic idx, 3)) (hlk : Cond.methodLink M.1.cls idx Mc.1 ∈ gW) (hcd : gCd Mc 4) (hvi : gSt Mc) (hrm : (st.map fun v => v.category).sum ≤ 8) (hm : gC l G d Mc [a1, a2, a3, a4] h (rV F)) (k : ∀ h', F h' → gg p l e s m args below meth c G (d + 1) M Q (pc + 3) ls st h') : gg p l e s m args below meth c G (d + 1) M Q pc ls (a4 :: a3 :: a2 :: a1 :: st) h := by
  refine go_callS (d := d) (mc := 0) (ms := 0) (she := gSH) Mc [a1, a2, a3, a4] hd hlk hcd hvi rfl hrm (Nat.le_refl _) (by show 80 * d + 59 ≤ 80 * (d + 1); omega) ⟨Nat.le_refl _, Nat.le_refl _⟩ rfl (hm.mono fun r h' q => ?_)
  obtain ⟨rfl, q⟩ := q
  exact k h' q
theorem gvV5 {a1 a2 a3 a4 a5 : Value} {F : gH → Prop} {k0 ci : Nat} (Mc : gM) (hd : decode M.2.1 pc = .ok (.invokevirtual idx, 3)) (hlk : Cond.methodLink M.1.cls idx Mc.1 ∈ gW) (hcd : gCd Mc 5) (hvi : gVi Mc) (hs : gSH[k0]? = some (ci, gN ci)) (hci : ci < 13) (hcn : gR ci = Mc.1.cls) (hrm : (st.map fun v => v.category).sum ≤ 8) (hm : gC l G d Mc (.ref k0 :: [a1, a2, a3, a4, a5]) h (rV F)) (k : ∀ h', F h' → gg p l e s m args below meth c G (d + 1) M Q (pc + 3) ls st h') : gg p l e s m args below meth c G (d + 1) M Q pc ls (a5 :: a4 :: a3 :: a2 :: a1 :: .ref k0 :: st) h := by
  refine go_callV (d := d) (mc := 0) (ms := 0) (she := gSH) Mc [a1, a2, a3, a4, a5] hd hlk hcd hvi hs hci hcn rfl hrm (Nat.le_refl _) (by show 80 * d + 59 ≤ 80 * (d + 1); omega) ⟨Nat.le_refl _, Nat.le_refl _⟩ rfl (hm.mono fun r h' q => ?_)
  obtain ⟨rfl, q⟩ := q
  exact k h' q
theorem gsV5 {a1 a2 a3 a4 a5 : Value} {F : gH → Prop} (Mc : gM) (hd : decode M.2.1 pc = .ok (.invokestatic idx, 3)) (hlk : Cond.methodLink M.1.cls idx Mc.1 ∈ gW) (hcd : gCd Mc 5) (hvi : gSt Mc) (hrm : (st.map fun v => v.category).sum ≤ 8) (hm : gC l G d Mc [a1, a2, a3, a4, a5] h (rV F)) (k : ∀ h', F h' → gg p l e s m args below meth c G (d + 1) M Q (pc + 3) ls st h') : gg p l e s m args below meth c G (d + 1) M Q pc ls (a5 :: a4 :: a3 :: a2 :: a1 :: st) h := by
  refine go_callS (d := d) (mc := 0) (ms := 0) (she := gSH) Mc [a1, a2, a3, a4, a5] hd hlk hcd hvi rfl hrm (Nat.le_refl _) (by show 80 * d + 59 ≤ 80 * (d + 1); omega) ⟨Nat.le_refl _, Nat.le_refl _⟩ rfl (hm.mono fun r h' q => ?_)
  obtain ⟨rfl, q⟩ := q
  exact k h' q
theorem gsV6 {a1 a2 a3 a4 a5 a6 : Value} {F : gH → Prop} (Mc : gM) (hd : decode M.2.1 pc = .ok (.invokestatic idx, 3)) (hlk : Cond.methodLink M.1.cls idx Mc.1 ∈ gW) (hcd : gCd Mc 6) (hvi : gSt Mc) (hrm : (st.map fun v => v.category).sum ≤ 8) (hm : gC l G d Mc [a1, a2, a3, a4, a5, a6] h (rV F)) (k : ∀ h', F h' → gg p l e s m args below meth c G (d + 1) M Q (pc + 3) ls st h') : gg p l e s m args below meth c G (d + 1) M Q pc ls (a6 :: a5 :: a4 :: a3 :: a2 :: a1 :: st) h := by
  refine go_callS (d := d) (mc := 0) (ms := 0) (she := gSH) Mc [a1, a2, a3, a4, a5, a6] hd hlk hcd hvi rfl hrm (Nat.le_refl _) (by show 80 * d + 59 ≤ 80 * (d + 1); omega) ⟨Nat.le_refl _, Nat.le_refl _⟩ rfl (hm.mono fun r h' q => ?_)
  obtain ⟨rfl, q⟩ := q
  exact k h' q
end GCW
