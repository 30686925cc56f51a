theorem fl0 : xflT[0]? = some (7, 11, 7, 0, 160) := by decide +kernel
theorem fl1 : xflT[1]? = some (7, 15, 7, 1, 161) := by decide +kernel
theorem fl2 : xflT[2]? = some (7, 19, 7, 2, 162) := by decide +kernel
theorem fl3 : xflT[3]? = some (7, 22, 7, 3, 163) := by decide +kernel
theorem fl4 : xflT[4]? = some (7, 36, 7, 4, 164) := by decide +kernel
theorem fl5 : xflT[5]? = some (7, 42, 7, 5, 165) := by decide +kernel
theorem fl6 : xflT[6]? = some (7, 25, 7, 6, 166) := by decide +kernel
theorem fl7 : xflT[7]? = some (11, 107, 7, 6, 167) := by decide +kernel
theorem fl8 : xflT[8]? = some (9, 47, 7, 7, 168) := by decide +kernel
theorem fl9 : xflT[9]? = some (3, 88, 7, 7, 169) := by decide +kernel
theorem fl10 : xflT[10]? = some (7, 84, 7, 7, 170) := by decide +kernel
theorem fl11 : xflT[11]? = some (9, 50, 7, 8, 171) := by decide +kernel
theorem fl12 : xflT[12]? = some (3, 91, 7, 8, 172) := by decide +kernel
theorem fl13 : xflT[13]? = some (7, 87, 7, 8, 173) := by decide +kernel
theorem fl14 : xflT[14]? = some (9, 44, 7, 9, 174) := by decide +kernel
theorem fl15 : xflT[15]? = some (3, 43, 7, 9, 175) := by decide +kernel
theorem fl16 : xflT[16]? = some (7, 33, 7, 9, 176) := by decide +kernel
theorem fl17 : xflT[17]? = some (8, 27, 8, 0, 206) := by decide +kernel
theorem fl18 : xflT[18]? = some (9, 24, 8, 0, 207) := by decide +kernel
theorem fl19 : xflT[19]? = some (11, 173, 8, 0, 208) := by decide +kernel
theorem fl20 : xflT[20]? = some (8, 31, 8, 1, 209) := by decide +kernel
theorem fl21 : xflT[21]? = some (9, 68, 8, 1, 210) := by decide +kernel
theorem fl22 : xflT[22]? = some (10, 55, 8, 1, 211) := by decide +kernel
theorem fl23 : xflT[23]? = some (5, 75, 8, 1, 212) := by decide +kernel
theorem fl24 : xflT[24]? = some (11, 196, 8, 1, 213) := by decide +kernel
theorem fl25 : xflT[25]? = some (8, 35, 8, 2, 214) := by decide +kernel
theorem fl26 : xflT[26]? = some (9, 71, 8, 2, 215) := by decide +kernel
theorem fl27 : xflT[27]? = some (10, 103, 8, 2, 216) := by decide +kernel
theorem fl28 : xflT[28]? = some (11, 224, 8, 2, 217) := by decide +kernel
theorem fl29 : xflT[29]? = some (6, 31, 8, 3, 218) := by decide +kernel
theorem fl30 : xflT[30]? = some (8, 38, 8, 3, 219) := by decide +kernel
theorem fl31 : xflT[31]? = some (9, 83, 8, 3, 220) := by decide +kernel
theorem fl32 : xflT[32]? = some (11, 136, 8, 3, 221) := by decide +kernel
theorem fl33 : xflT[33]? = some (8, 41, 8, 4, 222) := by decide +kernel
theorem fl34 : xflT[34]? = some (9, 86, 8, 4, 223) := by decide +kernel
theorem fl35 : xflT[35]? = some (0, 76, 8, 4, 224) := by decide +kernel
theorem fl36 : xflT[36]? = some (11, 167, 8, 4, 225) := by decide +kernel
theorem fl37 : xflT[37]? = some (8, 9, 8, 5, 226) := by decide +kernel
theorem fl38 : xflT[38]? = some (6, 49, 8, 5, 227) := by decide +kernel
theorem fl39 : xflT[39]? = some (9, 92, 8, 5, 228) := by decide +kernel
theorem fl40 : xflT[40]? = some (8, 15, 8, 6, 229) := by decide +kernel
theorem fl41 : xflT[41]? = some (6, 50, 8, 6, 230) := by decide +kernel
theorem fl42 : xflT[42]? = some (9, 96, 8, 6, 231) := by decide +kernel
theorem fl43 : xflT[43]? = some (8, 18, 8, 7, 232) := by decide +kernel
theorem fl44 : xflT[44]? = some (5, 40, 8, 7, 233) := by decide +kernel
theorem fl45 : xflT[45]? = some (9, 99, 8, 7, 234) := by decide +kernel
theorem fl46 : xflT[46]? = some (11, 154, 8, 7, 235) := by decide +kernel
theorem fl47 : xflT[47]? = some (10, 122, 8, 7, 236) := by decide +kernel
theorem fl48 : xflT[48]? = some (8, 21, 8, 8, 237) := by decide +kernel
theorem fl49 : xflT[49]? = some (6, 42, 8, 8, 238) := by decide +kernel
theorem fl50 : xflT[50]? = some (9, 105, 8, 8, 239) := by decide +kernel
theorem fl51 : xflT[51]? = some (8, 24, 8, 9, 240) := by decide +kernel
theorem fl52 : xflT[52]? = some (0, 36, 8, 9, 241) := by decide +kernel
theorem fl53 : xflT[53]? = some (11, 170, 8, 9, 242) := by decide +kernel
theorem fl54 : xflT[54]? = some (9, 108, 8, 9, 243) := by decide +kernel
theorem fl55 : xflT[55]? = some (9, 9, 9, 0, 271) := by decide +kernel
theorem fl56 : xflT[56]? = some (9, 15, 9, 1, 272) := by decide +kernel
theorem fl57 : xflT[57]? = some (9, 28, 9, 2, 273) := by decide +kernel
theorem fl58 : xflT[58]? = some (3, 9, 3, 0, 287) := by decide +kernel
theorem fl59 : xflT[59]? = some (3, 15, 3, 1, 288) := by decide +kernel
theorem fl60 : xflT[60]? = some (3, 24, 3, 2, 289) := by decide +kernel
theorem fl61 : xflT[61]? = some (3, 28, 3, 3, 290) := by decide +kernel
theorem fl62 : xflT[62]? = some (2, 9, 2, 0, 307) := by decide +kernel
theorem fl63 : xflT[63]? = some (2, 15, 2, 1, 308) := by decide +kernel
theorem fl64 : xflT[64]? = some (2, 19, 2, 2, 309) := by decide +kernel
theorem fl65 : xflT[65]? = some (2, 23, 2, 3, 310) := by decide +kernel
theorem fl66 : xflT[66]? = some (10, 76, 2, 3, 311) := by decide +kernel
theorem fl67 : xflT[67]? = some (6, 24, 6, 0, 336) := by decide +kernel
theorem fl68 : xflT[68]? = some (5, 72, 6, 0, 337) := by decide +kernel
theorem fl69 : xflT[69]? = some (10, 100, 6, 0, 338) := by decide +kernel
theorem fl70 : xflT[70]? = some (11, 203, 6, 0, 339) := by decide +kernel
theorem fl71 : xflT[71]? = some (6, 28, 6, 1, 340) := by decide +kernel
theorem fl72 : xflT[72]? = some (10, 63, 6, 1, 341) := by decide +kernel
theorem fl73 : xflT[73]? = some (11, 177, 6, 1, 342) := by decide +kernel
theorem fl74 : xflT[74]? = some (6, 36, 6, 2, 343) := by decide +kernel
theorem fl75 : xflT[75]? = some (0, 47, 6, 2, 344) := by decide +kernel
theorem fl76 : xflT[76]? = some (5, 68, 6, 2, 345) := by decide +kernel
theorem fl77 : xflT[77]? = some (10, 94, 6, 2, 346) := by decide +kernel
theorem fl78 : xflT[78]? = some (11, 230, 6, 2, 347) := by decide +kernel
theorem fl79 : xflT[79]? = some (6, 39, 6, 3, 348) := by decide +kernel
theorem fl80 : xflT[80]? = some (10, 109, 6, 3, 349) := by decide +kernel
theorem fl81 : xflT[81]? = some (11, 218, 6, 3, 350) := by decide +kernel
theorem fl82 : xflT[82]? = some (6, 9, 6, 4, 351) := by decide +kernel
theorem fl83 : xflT[83]? = some (11, 161, 6, 4, 352) := by decide +kernel
theorem fl84 : xflT[84]? = some (6, 15, 6, 5, 353) := by decide +kernel
theorem fl85 : xflT[85]? = some (5, 82, 6, 5, 354) := by decide +kernel
theorem fl86 : xflT[86]? = some (11, 164, 6, 5, 355) := by decide +kernel
theorem fl87 : xflT[87]? = some (6, 18, 6, 6, 356) := by decide +kernel
theorem fl88 : xflT[88]? = some (0, 25, 6, 6, 357) := by decide +kernel
theorem fl89 : xflT[89]? = some (11, 148, 6, 6, 358) := by decide +kernel
theorem fl90 : xflT[90]? = some (10, 115, 6, 6, 359) := by decide +kernel
theorem fl91 : xflT[91]? = some (6, 21, 6, 7, 360) := by decide +kernel
theorem fl92 : xflT[92]? = some (5, 49, 6, 7, 361) := by decide +kernel
theorem fl93 : xflT[93]? = some (11, 151, 6, 7, 362) := by decide +kernel
theorem fl94 : xflT[94]? = some (10, 119, 6, 7, 363) := by decide +kernel
theorem fl95 : xflT[95]? = some (4, 12, 4, 0, 381) := by decide +kernel
theorem fl96 : xflT[96]? = some (11, 114, 4, 0, 382) := by decide +kernel
theorem fl97 : xflT[97]? = some (4, 21, 4, 1, 383) := by decide +kernel
theorem fl98 : xflT[98]? = some (11, 121, 4, 1, 384) := by decide +kernel
theorem fl99 : xflT[99]? = some (4, 25, 4, 2, 385) := by decide +kernel
theorem fl100 : xflT[100]? = some (11, 142, 4, 2, 386) := by decide +kernel
theorem fl101 : xflT[101]? = some (4, 43, 4, 3, 387) := by decide +kernel
theorem fl102 : xflT[102]? = some (11, 329, 4, 3, 388) := by decide +kernel
theorem fl103 : xflT[103]? = some (4, 46, 4, 4, 389) := by decide +kernel
theorem fl104 : xflT[104]? = some (11, 130, 4, 4, 390) := by decide +kernel
theorem fl105 : xflT[105]? = some (4, 29, 4, 5, 391) := by decide +kernel
theorem fl106 : xflT[106]? = some (4, 33, 4, 6, 392) := by decide +kernel
theorem fl107 : xflT[107]? = some (1, 11, 1, 0, 418) := by decide +kernel
theorem fl108 : xflT[108]? = some (1, 22, 1, 1, 419) := by decide +kernel
theorem fl109 : xflT[109]? = some (1, 18, 1, 2, 420) := by decide +kernel
theorem fl110 : xflT[110]? = some (11, 212, 1, 2, 421) := by decide +kernel
theorem fl111 : xflT[111]? = some (10, 12, 10, 0, 440) := by decide +kernel
theorem fl112 : xflT[112]? = some (11, 190, 10, 0, 441) := by decide +kernel
theorem fl113 : xflT[113]? = some (10, 35, 10, 1, 442) := by decide +kernel
theorem fl114 : xflT[114]? = some (11, 356, 10, 1, 443) := by decide +kernel
theorem fl115 : xflT[115]? = some (10, 20, 10, 2, 444) := by decide +kernel
theorem fl116 : xflT[116]? = some (10, 27, 10, 3, 445) := by decide +kernel
theorem fl117 : xflT[117]? = some (10, 31, 10, 4, 446) := by decide +kernel
theorem fl118 : xflT[118]? = some (5, 9, 5, 0, 464) := by decide +kernel
theorem fl119 : xflT[119]? = some (11, 264, 5, 0, 465) := by decide +kernel
theorem fl120 : xflT[120]? = some (5, 102, 5, 1, 466) := by decide +kernel
theorem fl121 : xflT[121]? = some (11, 261, 5, 1, 467) := by decide +kernel
theorem fl122 : xflT[122]? = some (5, 85, 5, 2, 468) := by decide +kernel
theorem fl123 : xflT[123]? = some (11, 255, 5, 2, 469) := by decide +kernel
theorem fl124 : xflT[124]? = some (5, 88, 5, 3, 470) := by decide +kernel
theorem fl125 : xflT[125]? = some (11, 258, 5, 3, 471) := by decide +kernel
theorem fl126 : xflT[126]? = some (5, 105, 5, 4, 472) := by decide +kernel
theorem fl127 : xflT[127]? = some (11, 270, 5, 4, 473) := by decide +kernel
theorem fl128 : xflT[128]? = some (5, 108, 5, 5, 474) := by decide +kernel
theorem fl129 : xflT[129]? = some (11, 273, 5, 5, 475) := by decide +kernel
theorem fl130 : xflT[130]? = some (5, 132, 5, 6, 476) := by decide +kernel
theorem fl131 : xflT[131]? = some (11, 300, 5, 6, 477) := by decide +kernel
theorem fl132 : xflT[132]? = some (5, 129, 5, 7, 478) := by decide +kernel
theorem fl133 : xflT[133]? = some (11, 303, 5, 7, 479) := by decide +kernel
theorem fl134 : xflT[134]? = some (5, 15, 5, 8, 480) := by decide +kernel
theorem fl135 : xflT[135]? = some (5, 18, 5, 9, 481) := by decide +kernel
theorem fl136 : xflT[136]? = some (5, 21, 5, 10, 482) := by decide +kernel
theorem fl137 : xflT[137]? = some (5, 24, 5, 11, 483) := by decide +kernel
theorem fl138 : xflT[138]? = some (5, 28, 5, 12, 484) := by decide +kernel
theorem fl139 : xflT[139]? = some (5, 31, 5, 13, 485) := by decide +kernel
theorem fl140 : xflT[140]? = some (0, 55, 0, 0, 521) := by decide +kernel
theorem fl141 : xflT[141]? = some (11, 287, 0, 0, 522) := by decide +kernel
theorem fl142 : xflT[142]? = some (0, 9, 0, 1, 523) := by decide +kernel
theorem fl143 : xflT[143]? = some (11, 290, 0, 1, 524) := by decide +kernel
theorem fl144 : xflT[144]? = some (0, 15, 0, 2, 525) := by decide +kernel
theorem fl145 : xflT[145]? = some (0, 18, 0, 3, 526) := by decide +kernel
theorem fl146 : xflT[146]? = some (0, 21, 0, 4, 527) := by decide +kernel
theorem fl147 : xflT[147]? = some (11, 10, 11, 0, 539) := by decide +kernel
theorem fl148 : xflT[148]? = some (11, 28, 11, 1, 540) := by decide +kernel
theorem fl149 : xflT[149]? = some (11, 37, 11, 2, 541) := by decide +kernel
theorem fl150 : xflT[150]? = some (11, 19, 11, 3, 542) := by decide +kernel
theorem fl151 : xflT[151]? = some (11, 43, 11, 4, 543) := by decide +kernel
theorem fl152 : xflT[152]? = some (11, 48, 11, 5, 544) := by decide +kernel
theorem fl153 : xflT[153]? = some (11, 55, 11, 6, 545) := by decide +kernel
theorem fl154 : xflT[154]? = some (11, 59, 11, 7, 546) := by decide +kernel
theorem fl155 : xflT[155]? = some (11, 63, 11, 8, 547) := by decide +kernel
theorem fl156 : xflT[156]? = some (11, 70, 11, 9, 548) := by decide +kernel
theorem fl157 : xflT[157]? = some (11, 77, 11, 10, 549) := by decide +kernel
theorem fl158 : xflT[158]? = some (11, 84, 11, 11, 550) := by decide +kernel
theorem fl159 : xflT[159]? = some (11, 91, 11, 12, 551) := by decide +kernel
theorem fl160 : xflT[160]? = some (11, 95, 11, 13, 552) := by decide +kernel
theorem fl161 : xflT[161]? = some (12, 7, 12, 0, 1249) := by decide +kernel
theorem fl162 : xflT[162]? = some (12, 86, 12, 1, 1250) := by decide +kernel
theorem fl163 : xflT[163]? = some (12, 263, 12, 2, 1251) := by decide +kernel
theorem fl164 : xflT[164]? = some (12, 13, 12, 3, 1252) := by decide +kernel
theorem fl165 : xflT[165]? = some (12, 17, 12, 4, 1253) := by decide +kernel
theorem fl166 : xflT[166]? = some (12, 20, 12, 5, 1254) := by decide +kernel
theorem fl167 : xflT[167]? = some (12, 23, 12, 6, 1255) := by decide +kernel
theorem fl168 : xflT[168]? = some (12, 26, 12, 7, 1256) := by decide +kernel
theorem fl169 : xflT[169]? = some (12, 96, 12, 8, 1257) := by decide +kernel
theorem fl170 : xflT[170]? = some (12, 93, 12, 9, 1258) := by decide +kernel
theorem fl171 : xflT[171]? = some (12, 121, 12, 10, 1259) := by decide +kernel
theorem fl172 : xflT[172]? = some (12, 152, 12, 11, 1260) := by decide +kernel
theorem fl173 : xflT[173]? = some (12, 155, 12, 12, 1261) := by decide +kernel
theorem fl174 : xflT[174]? = some (12, 158, 12, 13, 1262) := by decide +kernel
theorem fl175 : xflT[175]? = some (12, 251, 12, 14, 1263) := by decide +kernel
theorem fl176 : xflT[176]? = some (12, 29, 12, 15, 1264) := by decide +kernel
theorem fl177 : xflT[177]? = some (12, 161, 12, 16, 1265) := by decide +kernel
theorem fl178 : xflT[178]? = some (12, 32, 12, 17, 1266) := by decide +kernel
theorem fl179 : xflT[179]? = some (12, 275, 12, 18, 1267) := by decide +kernel
theorem fl180 : xflT[180]? = some (12, 36, 12, 19, 1268) := by decide +kernel
theorem fl181 : xflT[181]? = some (12, 39, 12, 20, 1269) := by decide +kernel
theorem fl182 : xflT[182]? = some (12, 42, 12, 21, 1270) := by decide +kernel
theorem fl183 : xflT[183]? = some (12, 441, 12, 22, 1271) := by decide +kernel
theorem fl184 : xflT[184]? = some (12, 46, 12, 23, 1272) := by decide +kernel
theorem fl185 : xflT[185]? = some (12, 272, 12, 24, 1273) := by decide +kernel
theorem fl186 : xflT[186]? = some (12, 49, 12, 25, 1274) := by decide +kernel
theorem fl187 : xflT[187]? = some (12, 52, 12, 26, 1275) := by decide +kernel
theorem fl188 : xflT[188]? = some (12, 55, 12, 27, 1276) := by decide +kernel
theorem fl189 : xflT[189]? = some (12, 383, 12, 28, 1277) := by decide +kernel
theorem fl190 : xflT[190]? = some (12, 377, 12, 29, 1278) := by decide +kernel
theorem fl191 : xflT[191]? = some (12, 380, 12, 30, 1279) := by decide +kernel
theorem fl192 : xflT[192]? = some (12, 58, 12, 31, 1280) := by decide +kernel
theorem fl193 : xflT[193]? = some (12, 61, 12, 32, 1281) := by decide +kernel
theorem fl194 : xflT[194]? = some (12, 64, 12, 33, 1282) := by decide +kernel
theorem fl195 : xflT[195]? = some (12, 67, 12, 34, 1283) := by decide +kernel
theorem fl196 : xflT[196]? = some (12, 71, 12, 35, 1284) := by decide +kernel
theorem fl197 : xflT[197]? = some (12, 444, 12, 36, 1285) := by decide +kernel
theorem fl198 : xflT[198]? = some (12, 74, 12, 37, 1286) := by decide +kernel
theorem fl199 : xflT[199]? = some (12, 77, 12, 38, 1287) := by decide +kernel
theorem fl200 : xflT[200]? = some (12, 80, 12, 39, 1288) := by decide +kernel
theorem fl201 : xflT[201]? = some (12, 83, 12, 40, 1289) := by decide +kernel
theorem ml0 : xmlT[0]? = some (19, 13, 94, 582) := by decide +kernel
theorem ml1 : xmlT[1]? = some (11, 99, 56, 586) := by decide +kernel
theorem ml2 : xmlT[2]? = some (11, 103, 57, 590) := by decide +kernel
theorem ml3 : xmlT[3]? = some (19, 18, 95, 594) := by decide +kernel
theorem ml4 : xmlT[4]? = some (19, 23, 96, 598) := by decide +kernel
theorem ml5 : xmlT[5]? = some (11, 110, 78, 602) := by decide +kernel
theorem ml6 : xmlT[6]? = some (9, 19, 74, 606) := by decide +kernel
theorem ml7 : xmlT[7]? = some (9, 32, 61, 610) := by decide +kernel
theorem ml8 : xmlT[8]? = some (7, 39, 62, 614) := by decide +kernel
theorem ml9 : xmlT[9]? = some (7, 29, 58, 618) := by decide +kernel
theorem ml10 : xmlT[10]? = some (7, 48, 64, 622) := by decide +kernel
theorem ml11 : xmlT[11]? = some (7, 52, 59, 626) := by decide +kernel
theorem ml12 : xmlT[12]? = some (7, 56, 66, 630) := by decide +kernel
theorem ml13 : xmlT[13]? = some (7, 80, 67, 683) := by decide +kernel
theorem ml14 : xmlT[14]? = some (7, 60, 60, 687) := by decide +kernel
theorem ml15 : xmlT[15]? = some (7, 63, 65, 691) := by decide +kernel
theorem ml16 : xmlT[16]? = some (7, 66, 63, 695) := by decide +kernel
theorem ml17 : xmlT[17]? = some (7, 45, 68, 699) := by decide +kernel
theorem ml18 : xmlT[18]? = some (9, 37, 79, 703) := by decide +kernel
theorem ml19 : xmlT[19]? = some (9, 53, 70, 707) := by decide +kernel
theorem ml20 : xmlT[20]? = some (9, 57, 80, 711) := by decide +kernel
theorem ml21 : xmlT[21]? = some (9, 61, 68, 715) := by decide +kernel
theorem ml22 : xmlT[22]? = some (9, 64, 81, 716) := by decide +kernel
theorem ml23 : xmlT[23]? = some (9, 74, 82, 720) := by decide +kernel
theorem ml24 : xmlT[24]? = some (9, 89, 69, 724) := by decide +kernel
theorem ml25 : xmlT[25]? = some (9, 77, 83, 728) := by decide +kernel
theorem ml26 : xmlT[26]? = some (9, 102, 76, 732) := by decide +kernel
theorem ml27 : xmlT[27]? = some (9, 80, 84, 736) := by decide +kernel
theorem ml28 : xmlT[28]? = some (9, 40, 73, 740) := by decide +kernel
theorem ml29 : xmlT[29]? = some (7, 90, 69, 744) := by decide +kernel
theorem ml30 : xmlT[30]? = some (7, 94, 71, 745) := by decide +kernel
theorem ml31 : xmlT[31]? = some (7, 97, 70, 749) := by decide +kernel
theorem ml32 : xmlT[32]? = some (11, 117, 75, 750) := by decide +kernel
theorem ml33 : xmlT[33]? = some (11, 125, 45, 757) := by decide +kernel
theorem ml34 : xmlT[34]? = some (11, 133, 5, 762) := by decide +kernel
theorem ml35 : xmlT[35]? = some (19, 28, 97, 766) := by decide +kernel
theorem ml36 : xmlT[36]? = some (11, 139, 13, 770) := by decide +kernel
theorem ml37 : xmlT[37]? = some (3, 19, 8, 774) := by decide +kernel
theorem ml38 : xmlT[38]? = some (3, 31, 61, 778) := by decide +kernel
theorem ml39 : xmlT[39]? = some (3, 36, 14, 779) := by decide +kernel
theorem ml40 : xmlT[40]? = some (3, 46, 72, 783) := by decide +kernel
theorem ml41 : xmlT[41]? = some (3, 50, 70, 787) := by decide +kernel
theorem ml42 : xmlT[42]? = some (3, 54, 68, 788) := by decide +kernel
theorem ml43 : xmlT[43]? = some (3, 57, 21, 789) := by decide +kernel
theorem ml44 : xmlT[44]? = some (3, 94, 22, 793) := by decide +kernel
theorem ml45 : xmlT[45]? = some (3, 97, 23, 797) := by decide +kernel
theorem ml46 : xmlT[46]? = some (3, 66, 9, 801) := by decide +kernel
theorem ml47 : xmlT[47]? = some (3, 60, 69, 805) := by decide +kernel
theorem ml48 : xmlT[48]? = some (3, 75, 71, 806) := by decide +kernel
theorem ml49 : xmlT[49]? = some (3, 63, 15, 807) := by decide +kernel
theorem ml50 : xmlT[50]? = some (3, 69, 16, 811) := by decide +kernel
theorem ml51 : xmlT[51]? = some (3, 72, 17, 815) := by decide +kernel
theorem ml52 : xmlT[52]? = some (3, 78, 19, 819) := by decide +kernel
theorem ml53 : xmlT[53]? = some (3, 84, 20, 823) := by decide +kernel
theorem ml54 : xmlT[54]? = some (3, 81, 18, 827) := by decide +kernel
theorem ml55 : xmlT[55]? = some (3, 39, 73, 831) := by decide +kernel
theorem ml56 : xmlT[56]? = some (19, 32, 98, 832) := by decide +kernel
theorem ml57 : xmlT[57]? = some (19, 36, 99, 836) := by decide +kernel
theorem ml58 : xmlT[58]? = some (11, 145, 76, 840) := by decide +kernel
theorem ml59 : xmlT[59]? = some (11, 157, 50, 841) := by decide +kernel
theorem ml60 : xmlT[60]? = some (6, 51, 47, 845) := by decide +kernel
theorem ml61 : xmlT[61]? = some (6, 55, 48, 849) := by decide +kernel
theorem ml62 : xmlT[62]? = some (19, 41, 100, 853) := by decide +kernel
theorem ml63 : xmlT[63]? = some (19, 45, 101, 857) := by decide +kernel
theorem ml64 : xmlT[64]? = some (11, 180, 6, 861) := by decide +kernel
theorem ml65 : xmlT[65]? = some (1, 25, 46, 865) := by decide +kernel
theorem ml66 : xmlT[66]? = some (1, 29, 257, 869) := by decide +kernel
theorem ml67 : xmlT[67]? = some (11, 184, 131, 872) := by decide +kernel
theorem ml68 : xmlT[68]? = some (11, 344, 130, 876) := by decide +kernel
theorem ml69 : xmlT[69]? = some (11, 348, 85, 880) := by decide +kernel
theorem ml70 : xmlT[70]? = some (10, 39, 46, 884) := by decide +kernel
theorem ml71 : xmlT[71]? = some (11, 187, 87, 885) := by decide +kernel
theorem ml72 : xmlT[72]? = some (10, 47, 88, 889) := by decide +kernel
theorem ml73 : xmlT[73]? = some (10, 66, 51, 893) := by decide +kernel
theorem ml74 : xmlT[74]? = some (6, 58, 49, 897) := by decide +kernel
theorem ml75 : xmlT[75]? = some (10, 69, 89, 901) := by decide +kernel
theorem ml76 : xmlT[76]? = some (10, 79, 254, 904) := by decide +kernel
theorem ml77 : xmlT[77]? = some (10, 73, 90, 908) := by decide +kernel
theorem ml78 : xmlT[78]? = some (10, 84, 91, 912) := by decide +kernel
theorem ml79 : xmlT[79]? = some (10, 97, 255, 916) := by decide +kernel
theorem ml80 : xmlT[80]? = some (10, 106, 52, 922) := by decide +kernel
theorem ml81 : xmlT[81]? = some (10, 112, 77, 926) := by decide +kernel
theorem ml82 : xmlT[82]? = some (10, 87, 92, 930) := by decide +kernel
theorem ml83 : xmlT[83]? = some (10, 125, 53, 934) := by decide +kernel
theorem ml84 : xmlT[84]? = some (10, 90, 10, 938) := by decide +kernel
theorem ml85 : xmlT[85]? = some (2, 27, 11, 942) := by decide +kernel
theorem ml86 : xmlT[86]? = some (2, 31, 12, 945) := by decide +kernel
theorem ml87 : xmlT[87]? = some (10, 51, 54, 948) := by decide +kernel
theorem ml88 : xmlT[88]? = some (6, 61, 257, 952) := by decide +kernel
theorem ml89 : xmlT[89]? = some (10, 59, 55, 953) := by decide +kernel
theorem ml90 : xmlT[90]? = some (6, 67, 54, 957) := by decide +kernel
theorem ml91 : xmlT[91]? = some (11, 191, 46, 958) := by decide +kernel
theorem ml92 : xmlT[92]? = some (19, 49, 102, 959) := by decide +kernel
theorem ml93 : xmlT[93]? = some (11, 193, 49, 963) := by decide +kernel
theorem ml94 : xmlT[94]? = some (11, 199, 55, 964) := by decide +kernel
theorem ml95 : xmlT[95]? = some (19, 53, 103, 965) := by decide +kernel
theorem ml96 : xmlT[96]? = some (11, 206, 54, 969) := by decide +kernel
theorem ml97 : xmlT[97]? = some (19, 57, 104, 970) := by decide +kernel
theorem ml98 : xmlT[98]? = some (11, 209, 47, 974) := by decide +kernel
theorem ml99 : xmlT[99]? = some (19, 61, 105, 975) := by decide +kernel
theorem ml100 : xmlT[100]? = some (19, 65, 106, 979) := by decide +kernel
theorem ml101 : xmlT[101]? = some (11, 215, 7, 983) := by decide +kernel
theorem ml102 : xmlT[102]? = some (19, 69, 107, 987) := by decide +kernel
theorem ml103 : xmlT[103]? = some (11, 221, 77, 991) := by decide +kernel
theorem ml104 : xmlT[104]? = some (11, 227, 52, 992) := by decide +kernel
theorem ml105 : xmlT[105]? = some (11, 233, 255, 993) := by decide +kernel
theorem ml106 : xmlT[106]? = some (19, 73, 108, 994) := by decide +kernel
theorem ml107 : xmlT[107]? = some (19, 77, 109, 998) := by decide +kernel
theorem ml108 : xmlT[108]? = some (11, 238, 48, 1002) := by decide +kernel
theorem ml109 : xmlT[109]? = some (19, 97, 110, 1003) := by decide +kernel
theorem ml110 : xmlT[110]? = some (11, 241, 257, 1007) := by decide +kernel
theorem ml111 : xmlT[111]? = some (11, 247, 133, 1008) := by decide +kernel
theorem ml112 : xmlT[112]? = some (19, 109, 111, 1012) := by decide +kernel
theorem ml113 : xmlT[113]? = some (19, 81, 112, 1016) := by decide +kernel
theorem ml114 : xmlT[114]? = some (11, 251, 30, 1020) := by decide +kernel
theorem ml115 : xmlT[115]? = some (5, 45, 29, 1024) := by decide +kernel
theorem ml116 : xmlT[116]? = some (5, 34, 254, 1027) := by decide +kernel
theorem ml117 : xmlT[117]? = some (5, 54, 31, 1028) := by decide +kernel
theorem ml118 : xmlT[118]? = some (5, 78, 28, 1032) := by decide +kernel
theorem ml119 : xmlT[119]? = some (5, 58, 32, 1035) := by decide +kernel
theorem ml120 : xmlT[120]? = some (5, 61, 35, 1039) := by decide +kernel
theorem ml121 : xmlT[121]? = some (5, 95, 33, 1043) := by decide +kernel
theorem ml122 : xmlT[122]? = some (5, 98, 34, 1047) := by decide +kernel
theorem ml123 : xmlT[123]? = some (5, 91, 47, 1051) := by decide +kernel
theorem ml124 : xmlT[124]? = some (5, 65, 36, 1052) := by decide +kernel
theorem ml125 : xmlT[125]? = some (19, 85, 113, 1056) := by decide +kernel
theorem ml126 : xmlT[126]? = some (11, 267, 37, 1060) := by decide +kernel
theorem ml127 : xmlT[127]? = some (5, 111, 39, 1064) := by decide +kernel
theorem ml128 : xmlT[128]? = some (5, 119, 40, 1068) := by decide +kernel
theorem ml129 : xmlT[129]? = some (5, 115, 38, 1071) := by decide +kernel
theorem ml130 : xmlT[130]? = some (19, 89, 114, 1075) := by decide +kernel
theorem ml131 : xmlT[131]? = some (11, 276, 41, 1079) := by decide +kernel
theorem ml132 : xmlT[132]? = some (19, 93, 115, 1083) := by decide +kernel
theorem ml133 : xmlT[133]? = some (11, 280, 42, 1087) := by decide +kernel
theorem ml134 : xmlT[134]? = some (5, 122, 255, 1091) := by decide +kernel
theorem ml135 : xmlT[135]? = some (5, 125, 41, 1092) := by decide +kernel
theorem ml136 : xmlT[136]? = some (19, 101, 116, 1093) := by decide +kernel
theorem ml137 : xmlT[137]? = some (11, 284, 0, 1097) := by decide +kernel
theorem ml138 : xmlT[138]? = some (0, 30, 29, 1101) := by decide +kernel
theorem ml139 : xmlT[139]? = some (0, 51, 2, 1103) := by decide +kernel
theorem ml140 : xmlT[140]? = some (0, 66, 3, 1107) := by decide +kernel
theorem ml141 : xmlT[141]? = some (0, 70, 256, 1111) := by decide +kernel
theorem ml142 : xmlT[142]? = some (0, 58, 47, 1114) := by decide +kernel
theorem ml143 : xmlT[143]? = some (0, 62, 1, 1115) := by decide +kernel
theorem ml144 : xmlT[144]? = some (19, 105, 117, 1119) := by decide +kernel
theorem ml145 : xmlT[145]? = some (11, 293, 4, 1123) := by decide +kernel
theorem ml146 : xmlT[146]? = some (0, 79, 255, 1127) := by decide +kernel
theorem ml147 : xmlT[147]? = some (19, 117, 118, 1128) := by decide +kernel
theorem ml148 : xmlT[148]? = some (11, 297, 43, 1132) := by decide +kernel
theorem ml149 : xmlT[149]? = some (5, 135, 44, 1136) := by decide +kernel
theorem ml150 : xmlT[150]? = some (19, 121, 119, 1140) := by decide +kernel
theorem ml151 : xmlT[151]? = some (11, 306, 134, 1144) := by decide +kernel
theorem ml152 : xmlT[152]? = some (19, 125, 120, 1148) := by decide +kernel
theorem ml153 : xmlT[153]? = some (11, 310, 25, 1152) := by decide +kernel
theorem ml154 : xmlT[154]? = some (19, 113, 121, 1156) := by decide +kernel
theorem ml155 : xmlT[155]? = some (11, 313, 132, 1160) := by decide +kernel
theorem ml156 : xmlT[156]? = some (11, 352, 86, 1164) := by decide +kernel
theorem ml157 : xmlT[157]? = some (10, 43, 45, 1168) := by decide +kernel
theorem ml158 : xmlT[158]? = some (11, 316, 135, 1169) := by decide +kernel
theorem ml159 : xmlT[159]? = some (11, 359, 26, 1173) := by decide +kernel
theorem ml160 : xmlT[160]? = some (4, 55, 256, 1177) := by decide +kernel
theorem ml161 : xmlT[161]? = some (11, 362, 27, 1178) := by decide +kernel
theorem ml162 : xmlT[162]? = some (19, 129, 122, 1182) := by decide +kernel
theorem ml163 : xmlT[163]? = some (19, 133, 123, 1186) := by decide +kernel
theorem ml164 : xmlT[164]? = some (11, 320, 136, 1190) := by decide +kernel
theorem ml165 : xmlT[165]? = some (11, 323, 137, 1194) := by decide +kernel
theorem ml166 : xmlT[166]? = some (11, 326, 138, 1198) := by decide +kernel
theorem ml167 : xmlT[167]? = some (11, 365, 256, 1202) := by decide +kernel
theorem ml168 : xmlT[168]? = some (19, 137, 124, 1203) := by decide +kernel
theorem ml169 : xmlT[169]? = some (19, 141, 125, 1207) := by decide +kernel
theorem ml170 : xmlT[170]? = some (11, 332, 93, 1211) := by decide +kernel
theorem ml171 : xmlT[171]? = some (19, 145, 126, 1219) := by decide +kernel
theorem ml172 : xmlT[172]? = some (11, 335, 129, 1223) := by decide +kernel
theorem ml173 : xmlT[173]? = some (11, 341, 51, 1227) := by decide +kernel
theorem ml174 : xmlT[174]? = some (19, 149, 127, 1228) := by decide +kernel
theorem ml175 : xmlT[175]? = some (11, 338, 24, 1232) := by decide +kernel
theorem ml176 : xmlT[176]? = some (4, 36, 75, 1236) := by decide +kernel
theorem ml177 : xmlT[177]? = some (4, 40, 46, 1237) := by decide +kernel
theorem ml178 : xmlT[178]? = some (19, 153, 128, 1239) := by decide +kernel
theorem ml179 : xmlT[179]? = some (19, 17, 143, 1373) := by decide +kernel
theorem ml180 : xmlT[180]? = some (12, 89, 142, 1377) := by decide +kernel
theorem ml181 : xmlT[181]? = some (19, 22, 144, 1381) := by decide +kernel
theorem ml182 : xmlT[182]? = some (19, 31, 177, 1385) := by decide +kernel
theorem ml183 : xmlT[183]? = some (12, 266, 176, 1389) := by decide +kernel
theorem ml184 : xmlT[184]? = some (12, 260, 175, 1393) := by decide +kernel
theorem ml185 : xmlT[185]? = some (12, 99, 146, 1397) := by decide +kernel
theorem ml186 : xmlT[186]? = some (12, 246, 174, 1401) := by decide +kernel
theorem ml187 : xmlT[187]? = some (12, 107, 149, 1406) := by decide +kernel
theorem ml188 : xmlT[188]? = some (12, 103, 148, 1410) := by decide +kernel
theorem ml189 : xmlT[189]? = some (12, 117, 145, 1418) := by decide +kernel
theorem ml190 : xmlT[190]? = some (12, 254, 173, 1422) := by decide +kernel
theorem ml191 : xmlT[191]? = some (12, 230, 169, 1426) := by decide +kernel
theorem ml192 : xmlT[192]? = some (12, 111, 150, 1430) := by decide +kernel
theorem ml193 : xmlT[193]? = some (12, 224, 168, 1434) := by decide +kernel
theorem ml194 : xmlT[194]? = some (12, 173, 152, 1438) := by decide +kernel
theorem ml195 : xmlT[195]? = some (12, 114, 147, 1442) := by decide +kernel
theorem ml196 : xmlT[196]? = some (12, 124, 139, 1446) := by decide +kernel
theorem ml197 : xmlT[197]? = some (12, 233, 170, 1449) := by decide +kernel
theorem ml198 : xmlT[198]? = some (12, 238, 171, 1453) := by decide +kernel
theorem ml199 : xmlT[199]? = some (12, 241, 172, 1457) := by decide +kernel
theorem ml200 : xmlT[200]? = some (12, 257, 167, 1461) := by decide +kernel
theorem ml201 : xmlT[201]? = some (12, 189, 161, 1465) := by decide +kernel
theorem ml202 : xmlT[202]? = some (12, 186, 160, 1469) := by decide +kernel
theorem ml203 : xmlT[203]? = some (12, 182, 159, 1473) := by decide +kernel
theorem ml204 : xmlT[204]? = some (12, 176, 155, 1478) := by decide +kernel
theorem ml205 : xmlT[205]? = some (12, 168, 154, 1482) := by decide +kernel
theorem ml206 : xmlT[206]? = some (12, 179, 153, 1486) := by decide +kernel
theorem ml207 : xmlT[207]? = some (12, 218, 151, 1502) := by decide +kernel
theorem ml208 : xmlT[208]? = some (12, 221, 166, 1506) := by decide +kernel
theorem ml209 : xmlT[209]? = some (12, 206, 163, 1510) := by decide +kernel
theorem ml210 : xmlT[210]? = some (12, 194, 156, 1515) := by decide +kernel
theorem ml211 : xmlT[211]? = some (12, 197, 162, 1519) := by decide +kernel
theorem ml212 : xmlT[212]? = some (12, 209, 165, 1523) := by decide +kernel
theorem ml213 : xmlT[213]? = some (12, 200, 158, 1527) := by decide +kernel
theorem ml214 : xmlT[214]? = some (12, 164, 157, 1531) := by decide +kernel
theorem ml215 : xmlT[215]? = some (12, 203, 164, 1534) := by decide +kernel
theorem ml216 : xmlT[216]? = some (19, 27, 178, 1540) := by decide +kernel
theorem ml217 : xmlT[217]? = some (12, 269, 194, 1544) := by decide +kernel
theorem ml218 : xmlT[218]? = some (19, 35, 195, 1548) := by decide +kernel
theorem ml219 : xmlT[219]? = some (12, 311, 179, 1552) := by decide +kernel
theorem ml220 : xmlT[220]? = some (19, 40, 196, 1556) := by decide +kernel
theorem ml221 : xmlT[221]? = some (12, 290, 185, 1560) := by decide +kernel
theorem ml222 : xmlT[222]? = some (19, 44, 197, 1564) := by decide +kernel
theorem ml223 : xmlT[223]? = some (19, 68, 206, 1568) := by decide +kernel
theorem ml224 : xmlT[224]? = some (19, 48, 207, 1572) := by decide +kernel
theorem ml225 : xmlT[225]? = some (12, 349, 184, 1576) := by decide +kernel
theorem ml226 : xmlT[226]? = some (12, 352, 205, 1580) := by decide +kernel
theorem ml227 : xmlT[227]? = some (12, 346, 203, 1584) := by decide +kernel
theorem ml228 : xmlT[228]? = some (12, 340, 200, 1588) := by decide +kernel
theorem ml229 : xmlT[229]? = some (12, 298, 188, 1592) := by decide +kernel
theorem ml230 : xmlT[230]? = some (12, 293, 186, 1596) := by decide +kernel
theorem ml231 : xmlT[231]? = some (12, 295, 187, 1600) := by decide +kernel
theorem ml232 : xmlT[232]? = some (12, 334, 199, 1604) := by decide +kernel
theorem ml233 : xmlT[233]? = some (12, 301, 140, 1608) := by decide +kernel
theorem ml234 : xmlT[234]? = some (12, 318, 141, 1611) := by decide +kernel
theorem ml235 : xmlT[235]? = some (12, 321, 189, 1614) := by decide +kernel
theorem ml236 : xmlT[236]? = some (12, 324, 193, 1618) := by decide +kernel
theorem ml237 : xmlT[237]? = some (12, 307, 190, 1622) := by decide +kernel
theorem ml238 : xmlT[238]? = some (12, 327, 192, 1626) := by decide +kernel
theorem ml239 : xmlT[239]? = some (12, 304, 191, 1630) := by decide +kernel
theorem ml240 : xmlT[240]? = some (12, 330, 198, 1634) := by decide +kernel
theorem ml241 : xmlT[241]? = some (12, 314, 183, 1638) := by decide +kernel
theorem ml242 : xmlT[242]? = some (12, 278, 180, 1642) := by decide +kernel
theorem ml243 : xmlT[243]? = some (12, 282, 181, 1646) := by decide +kernel
theorem ml244 : xmlT[244]? = some (12, 286, 182, 1650) := by decide +kernel
theorem ml245 : xmlT[245]? = some (12, 337, 201, 1653) := by decide +kernel
theorem ml246 : xmlT[246]? = some (12, 343, 202, 1657) := by decide +kernel
theorem ml247 : xmlT[247]? = some (19, 52, 208, 1661) := by decide +kernel
theorem ml248 : xmlT[248]? = some (19, 56, 209, 1665) := by decide +kernel
theorem ml249 : xmlT[249]? = some (19, 60, 210, 1670) := by decide +kernel
theorem ml250 : xmlT[250]? = some (19, 64, 211, 1674) := by decide +kernel
theorem ml251 : xmlT[251]? = some (19, 72, 214, 1679) := by decide +kernel
theorem ml252 : xmlT[252]? = some (12, 363, 212, 1685) := by decide +kernel
theorem ml253 : xmlT[253]? = some (12, 366, 204, 1689) := by decide +kernel
theorem ml254 : xmlT[254]? = some (12, 369, 213, 1693) := by decide +kernel
theorem ml255 : xmlT[255]? = some (19, 76, 215, 1697) := by decide +kernel
theorem ml256 : xmlT[256]? = some (19, 80, 216, 1701) := by decide +kernel
theorem ml257 : xmlT[257]? = some (19, 84, 221, 1706) := by decide +kernel
theorem ml258 : xmlT[258]? = some (12, 396, 220, 1712) := by decide +kernel
theorem ml259 : xmlT[259]? = some (12, 386, 217, 1716) := by decide +kernel
theorem ml260 : xmlT[260]? = some (12, 389, 219, 1720) := by decide +kernel
theorem ml261 : xmlT[261]? = some (12, 374, 218, 1724) := by decide +kernel
theorem ml262 : xmlT[262]? = some (19, 88, 223, 1728) := by decide +kernel
theorem ml263 : xmlT[263]? = some (12, 399, 222, 1732) := by decide +kernel
theorem ml264 : xmlT[264]? = some (19, 92, 225, 1736) := by decide +kernel
theorem ml265 : xmlT[265]? = some (12, 402, 224, 1740) := by decide +kernel
theorem ml266 : xmlT[266]? = some (19, 96, 226, 1744) := by decide +kernel
theorem ml267 : xmlT[267]? = some (19, 100, 228, 1748) := by decide +kernel
theorem ml268 : xmlT[268]? = some (12, 405, 227, 1752) := by decide +kernel
theorem ml269 : xmlT[269]? = some (19, 104, 232, 1756) := by decide +kernel
theorem ml270 : xmlT[270]? = some (12, 416, 231, 1761) := by decide +kernel
theorem ml271 : xmlT[271]? = some (12, 408, 230, 1765) := by decide +kernel
theorem ml272 : xmlT[272]? = some (12, 411, 229, 1769) := by decide +kernel
theorem ml273 : xmlT[273]? = some (19, 108, 233, 1773) := by decide +kernel
theorem ml274 : xmlT[274]? = some (19, 112, 234, 1777) := by decide +kernel
theorem ml275 : xmlT[275]? = some (19, 120, 236, 1782) := by decide +kernel
theorem ml276 : xmlT[276]? = some (12, 421, 235, 1786) := by decide +kernel
theorem ml277 : xmlT[277]? = some (19, 124, 238, 1790) := by decide +kernel
theorem ml278 : xmlT[278]? = some (12, 426, 237, 1795) := by decide +kernel
theorem ml279 : xmlT[279]? = some (19, 128, 239, 1799) := by decide +kernel
theorem ml280 : xmlT[280]? = some (19, 132, 243, 1803) := by decide +kernel
theorem ml281 : xmlT[281]? = some (12, 435, 242, 1807) := by decide +kernel
theorem ml282 : xmlT[282]? = some (12, 432, 241, 1811) := by decide +kernel
theorem ml283 : xmlT[283]? = some (12, 429, 240, 1815) := by decide +kernel
theorem ml284 : xmlT[284]? = some (19, 136, 245, 1819) := by decide +kernel
theorem ml285 : xmlT[285]? = some (12, 438, 244, 1823) := by decide +kernel
theorem ml286 : xmlT[286]? = some (19, 116, 246, 1827) := by decide +kernel
theorem ml287 : xmlT[287]? = some (19, 140, 247, 1831) := by decide +kernel
theorem ml288 : xmlT[288]? = some (19, 144, 250, 1835) := by decide +kernel
theorem ml289 : xmlT[289]? = some (12, 456, 248, 1839) := by decide +kernel
theorem ml290 : xmlT[290]? = some (12, 459, 249, 1847) := by decide +kernel
theorem ml291 : xmlT[291]? = some (19, 148, 251, 1850) := by decide +kernel
theorem ml292 : xmlT[292]? = some (19, 152, 252, 1854) := by decide +kernel
theorem ml293 : xmlT[293]? = some (19, 156, 253, 1858) := by decide +kernel
theorem fk0_0 : (xfk 0 0).1 = 0 := by decide +kernel
theorem ft0_0 : ((xcl 0).2.1 0).2.2 = ("I", false) := by decide +kernel
theorem fk0_1 : xfk 0 1 = (3, 13, 1, 0) := by decide +kernel
theorem fk0_2 : xfk 0 2 = (3, 14, 1, 0) := by decide +kernel
theorem fk0_3 : xfk 0 3 = (3, 15, 1, 0) := by decide +kernel
theorem fk0_4 : xfk 0 4 = (3, 16, 1, 0) := by decide +kernel
theorem fk1_0 : xfk 1 0 = (3, 17, 1, 0) := by decide +kernel
theorem fk1_1 : (xfk 1 1).1 = 0 := by decide +kernel
theorem ft1_1 : ((xcl 1).2.1 1).2.2 = ("I", false) := by decide +kernel
theorem fk1_2 : (xfk 1 2).1 = 0 := by decide +kernel
theorem ft1_2 : ((xcl 1).2.1 2).2.2 = ("I", false) := by decide +kernel
theorem fk2_0 : xfk 2 0 = (3, 18, 1, 0) := by decide +kernel
theorem fk2_1 : xfk 2 1 = (3, 19, 1, 0) := by decide +kernel
theorem fk2_2 : (xfk 2 2).1 = 0 := by decide +kernel
theorem ft2_2 : ((xcl 2).2.1 2).2.2 = ("I", false) := by decide +kernel
theorem fk2_3 : (xfk 2 3).1 = 0 := by decide +kernel
theorem ft2_3 : ((xcl 2).2.1 3).2.2 = ("Z", false) := by decide +kernel
theorem fk3_0 : xfk 3 0 = (3, 7, 0, 0) := by decide +kernel
theorem fk3_1 : (xfk 3 1).1 = 2 ∧ (xfk 3 1).2.1 = 2 := by decide +kernel
theorem ft3_1 : ((xcl 3).2.1 1).2.2.2 = false ∧ parseFieldDescriptor ((xcl 3).2.1 1).2.2.1 = some (.object "BeanTrug$Rule") := by decide +kernel
theorem fk3_2 : (xfk 3 2).1 = 0 := by decide +kernel
theorem ft3_2 : ((xcl 3).2.1 2).2.2 = ("I", false) := by decide +kernel
theorem fk3_3 : (xfk 3 3).1 = 0 := by decide +kernel
theorem ft3_3 : ((xcl 3).2.1 3).2.2 = ("I", false) := by decide +kernel
theorem fk4_0 : xfk 4 0 = (3, 8, 1, 0) := by decide +kernel
theorem fk4_1 : xfk 4 1 = (3, 6, 1, 0) := by decide +kernel
theorem fk4_2 : (xfk 4 2).1 = 0 := by decide +kernel
theorem ft4_2 : ((xcl 4).2.1 2).2.2 = ("I", false) := by decide +kernel
theorem fk4_3 : (xfk 4 3).1 = 0 := by decide +kernel
theorem ft4_3 : ((xcl 4).2.1 3).2.2 = ("I", false) := by decide +kernel
theorem fk4_4 : (xfk 4 4).1 = 0 := by decide +kernel
theorem ft4_4 : ((xcl 4).2.1 4).2.2 = ("I", false) := by decide +kernel
theorem fk4_5 : xfk 4 5 = (3, 20, 1, 0) := by decide +kernel
theorem fk4_6 : xfk 4 6 = (3, 21, 1, 0) := by decide +kernel
theorem fk5_0 : xfk 5 0 = (3, 22, 1, 0) := by decide +kernel
theorem fk5_1 : (xfk 5 1).1 = 0 := by decide +kernel
theorem ft5_1 : ((xcl 5).2.1 1).2.2 = ("I", false) := by decide +kernel
theorem fk5_2 : (xfk 5 2).1 = 0 := by decide +kernel
theorem ft5_2 : ((xcl 5).2.1 2).2.2 = ("I", false) := by decide +kernel
theorem fk5_3 : (xfk 5 3).1 = 0 := by decide +kernel
theorem ft5_3 : ((xcl 5).2.1 3).2.2 = ("I", false) := by decide +kernel
theorem fk5_4 : (xfk 5 4).1 = 0 := by decide +kernel
theorem ft5_4 : ((xcl 5).2.1 4).2.2 = ("I", false) := by decide +kernel
theorem fk5_5 : (xfk 5 5).1 = 0 := by decide +kernel
theorem ft5_5 : ((xcl 5).2.1 5).2.2 = ("I", false) := by decide +kernel
theorem fk5_6 : (xfk 5 6).1 = 0 := by decide +kernel
theorem ft5_6 : ((xcl 5).2.1 6).2.2 = ("I", false) := by decide +kernel
theorem fk5_7 : (xfk 5 7).1 = 0 := by decide +kernel
theorem ft5_7 : ((xcl 5).2.1 7).2.2 = ("I", false) := by decide +kernel
theorem fk5_8 : xfk 5 8 = (3, 23, 1, 0) := by decide +kernel
theorem fk5_9 : xfk 5 9 = (3, 24, 1, 0) := by decide +kernel
theorem fk5_10 : xfk 5 10 = (3, 25, 1, 0) := by decide +kernel
theorem fk5_11 : xfk 5 11 = (3, 26, 1, 0) := by decide +kernel
theorem fk5_12 : xfk 5 12 = (3, 27, 1, 0) := by decide +kernel
theorem fk5_13 : xfk 5 13 = (3, 28, 1, 0) := by decide +kernel
theorem fk6_0 : (xfk 6 0).1 = 0 := by decide +kernel
theorem ft6_0 : ((xcl 6).2.1 0).2.2 = ("I", false) := by decide +kernel
theorem fk6_1 : (xfk 6 1).1 = 0 := by decide +kernel
theorem ft6_1 : ((xcl 6).2.1 1).2.2 = ("I", false) := by decide +kernel
theorem fk6_2 : (xfk 6 2).1 = 0 := by decide +kernel
theorem ft6_2 : ((xcl 6).2.1 2).2.2 = ("I", false) := by decide +kernel
theorem fk6_3 : (xfk 6 3).1 = 0 := by decide +kernel
theorem ft6_3 : ((xcl 6).2.1 3).2.2 = ("I", false) := by decide +kernel
theorem fk6_4 : xfk 6 4 = (3, 29, 1, 0) := by decide +kernel
theorem fk6_5 : xfk 6 5 = (3, 30, 1, 0) := by decide +kernel
theorem fk6_6 : xfk 6 6 = (3, 31, 1, 0) := by decide +kernel
theorem fk6_7 : xfk 6 7 = (3, 32, 1, 0) := by decide +kernel
theorem fk7_0 : xfk 7 0 = (3, 33, 1, 0) := by decide +kernel
theorem fk7_1 : xfk 7 1 = (3, 34, 1, 0) := by decide +kernel
theorem fk7_2 : xfk 7 2 = (3, 35, 1, 0) := by decide +kernel
theorem fk7_3 : xfk 7 3 = (3, 36, 1, 0) := by decide +kernel
theorem fk7_4 : (xfk 7 4).1 = 0 := by decide +kernel
theorem ft7_4 : ((xcl 7).2.1 4).2.2 = ("I", false) := by decide +kernel
theorem fk7_5 : (xfk 7 5).1 = 0 := by decide +kernel
theorem ft7_5 : ((xcl 7).2.1 5).2.2 = ("I", false) := by decide +kernel
theorem fk7_6 : (xfk 7 6).1 = 0 := by decide +kernel
theorem ft7_6 : ((xcl 7).2.1 6).2.2 = ("I", false) := by decide +kernel
theorem fk7_7 : (xfk 7 7).1 = 0 := by decide +kernel
theorem ft7_7 : ((xcl 7).2.1 7).2.2 = ("I", false) := by decide +kernel
theorem fk7_8 : (xfk 7 8).1 = 0 := by decide +kernel
theorem ft7_8 : ((xcl 7).2.1 8).2.2 = ("I", false) := by decide +kernel
theorem fk7_9 : (xfk 7 9).1 = 0 := by decide +kernel
theorem ft7_9 : ((xcl 7).2.1 9).2.2 = ("I", false) := by decide +kernel
theorem fk8_0 : (xfk 8 0).1 = 0 := by decide +kernel
theorem ft8_0 : ((xcl 8).2.1 0).2.2 = ("Z", false) := by decide +kernel
theorem fk8_1 : (xfk 8 1).1 = 0 := by decide +kernel
theorem ft8_1 : ((xcl 8).2.1 1).2.2 = ("I", false) := by decide +kernel
theorem fk8_2 : (xfk 8 2).1 = 0 := by decide +kernel
theorem ft8_2 : ((xcl 8).2.1 2).2.2 = ("I", false) := by decide +kernel
theorem fk8_3 : (xfk 8 3).1 = 0 := by decide +kernel
theorem ft8_3 : ((xcl 8).2.1 3).2.2 = ("I", false) := by decide +kernel
theorem fk8_4 : (xfk 8 4).1 = 0 := by decide +kernel
theorem ft8_4 : ((xcl 8).2.1 4).2.2 = ("I", false) := by decide +kernel
theorem fk8_5 : xfk 8 5 = (3, 37, 1, 0) := by decide +kernel
theorem fk8_6 : xfk 8 6 = (3, 38, 1, 0) := by decide +kernel
theorem fk8_7 : xfk 8 7 = (3, 39, 1, 0) := by decide +kernel
theorem fk8_8 : xfk 8 8 = (3, 40, 1, 0) := by decide +kernel
theorem fk8_9 : xfk 8 9 = (3, 41, 1, 0) := by decide +kernel
theorem fk9_0 : xfk 9 0 = (3, 7, 0, 0) := by decide +kernel
theorem fk9_1 : xfk 9 1 = (3, 8, 0, 5) := by decide +kernel
theorem fk9_2 : (xfk 9 2).1 = 0 := by decide +kernel
theorem ft9_2 : ((xcl 9).2.1 2).2.2 = ("I", false) := by decide +kernel
theorem fk10_0 : xfk 10 0 = (3, 6, 0, 25) := by decide +kernel
theorem fk10_1 : (xfk 10 1).1 = 0 := by decide +kernel
theorem ft10_1 : ((xcl 10).2.1 1).2.2 = ("Z", false) := by decide +kernel
theorem fk10_2 : xfk 10 2 = (3, 42, 1, 0) := by decide +kernel
theorem fk10_3 : (xfk 10 3).1 = 2 ∧ (xfk 10 3).2.1 = 8 := by decide +kernel
theorem ft10_3 : ((xcl 10).2.1 3).2.2.2 = false ∧ parseFieldDescriptor ((xcl 10).2.1 3).2.2.1 = some (.object "BeanTrug$Told") := by decide +kernel
theorem fk10_4 : (xfk 10 4).1 = 2 ∧ (xfk 10 4).2.1 = 2 := by decide +kernel
theorem ft10_4 : ((xcl 10).2.1 4).2.2.2 = false ∧ parseFieldDescriptor ((xcl 10).2.1 4).2.2.1 = some (.object "BeanTrug$Rule") := by decide +kernel
theorem fk11_0 : xfk 11 0 = (3, 7, 0, 0) := by decide +kernel
theorem fk11_1 : xfk 11 1 = (3, 9, 0, 0) := by decide +kernel
theorem fk11_2 : xfk 11 2 = (3, 3, 0, 0) := by decide +kernel
theorem fk11_3 : xfk 11 3 = (3, 8, 0, 5) := by decide +kernel
theorem fk11_4 : xfk 11 4 = (3, 43, 1, 0) := by decide +kernel
theorem fk11_5 : (xfk 11 5).1 = 0 := by decide +kernel
theorem ft11_5 : ((xcl 11).2.1 5).2.2 = ("I", false) := by decide +kernel
theorem fk11_6 : xfk 11 6 = (3, 4, 0, 0) := by decide +kernel
theorem fk11_7 : xfk 11 7 = (3, 44, 1, 0) := by decide +kernel
theorem fk11_8 : xfk 11 8 = (3, 45, 1, 0) := by decide +kernel
theorem fk11_9 : xfk 11 9 = (3, 1, 0, 0) := by decide +kernel
theorem fk11_10 : xfk 11 10 = (3, 10, 0, 0) := by decide +kernel
theorem fk11_11 : xfk 11 11 = (3, 5, 0, 0) := by decide +kernel
theorem fk11_12 : xfk 11 12 = (3, 0, 0, 0) := by decide +kernel
theorem fk11_13 : xfk 11 13 = (3, 46, 1, 0) := by decide +kernel
theorem fk12_0 : xfk 12 0 = (3, 47, 1, 0) := by decide +kernel
theorem fk12_1 : (xfk 12 1).1 = 0 := by decide +kernel
theorem ft12_1 : ((xcl 12).2.1 1).2.2 = ("I", false) := by decide +kernel
theorem fk12_2 : (xfk 12 2).1 = 0 := by decide +kernel
theorem ft12_2 : ((xcl 12).2.1 2).2.2 = ("I", false) := by decide +kernel
theorem fk12_3 : xfk 12 3 = (3, 48, 1, 0) := by decide +kernel
theorem fk12_4 : xfk 12 4 = (3, 49, 1, 0) := by decide +kernel
theorem fk12_5 : xfk 12 5 = (3, 50, 1, 0) := by decide +kernel
theorem fk12_6 : xfk 12 6 = (3, 51, 1, 0) := by decide +kernel
theorem fk12_7 : xfk 12 7 = (3, 52, 1, 0) := by decide +kernel
theorem fk12_8 : (xfk 12 8).1 = 0 := by decide +kernel
theorem ft12_8 : ((xcl 12).2.1 8).2.2 = ("I", false) := by decide +kernel
theorem fk12_9 : (xfk 12 9).1 = 0 := by decide +kernel
theorem ft12_9 : ((xcl 12).2.1 9).2.2 = ("I", false) := by decide +kernel
theorem fk12_10 : (xfk 12 10).1 = 0 := by decide +kernel
theorem ft12_10 : ((xcl 12).2.1 10).2.2 = ("I", false) := by decide +kernel
theorem fk12_11 : (xfk 12 11).1 = 0 := by decide +kernel
theorem ft12_11 : ((xcl 12).2.1 11).2.2 = ("I", false) := by decide +kernel
theorem fk12_12 : (xfk 12 12).1 = 0 := by decide +kernel
theorem ft12_12 : ((xcl 12).2.1 12).2.2 = ("I", false) := by decide +kernel
theorem fk12_13 : (xfk 12 13).1 = 0 := by decide +kernel
theorem ft12_13 : ((xcl 12).2.1 13).2.2 = ("I", false) := by decide +kernel
theorem fk12_14 : (xfk 12 14).1 = 0 := by decide +kernel
theorem ft12_14 : ((xcl 12).2.1 14).2.2 = ("I", false) := by decide +kernel
theorem fk12_15 : xfk 12 15 = (3, 53, 1, 0) := by decide +kernel
theorem fk12_16 : (xfk 12 16).1 = 0 := by decide +kernel
theorem ft12_16 : ((xcl 12).2.1 16).2.2 = ("I", false) := by decide +kernel
theorem fk12_17 : xfk 12 17 = (3, 54, 1, 0) := by decide +kernel
theorem fk12_18 : (xfk 12 18).1 = 0 := by decide +kernel
theorem ft12_18 : ((xcl 12).2.1 18).2.2 = ("I", false) := by decide +kernel
theorem fk12_19 : xfk 12 19 = (3, 55, 1, 0) := by decide +kernel
theorem fk12_20 : xfk 12 20 = (3, 56, 1, 0) := by decide +kernel
theorem fk12_21 : (xfk 12 21).1 = 0 := by decide +kernel
theorem ft12_21 : ((xcl 12).2.1 21).2.2 = ("I", false) := by decide +kernel
theorem fk12_22 : (xfk 12 22).1 = 0 := by decide +kernel
theorem ft12_22 : ((xcl 12).2.1 22).2.2 = ("I", false) := by decide +kernel
theorem fk12_23 : xfk 12 23 = (3, 57, 1, 0) := by decide +kernel
theorem fk12_24 : (xfk 12 24).1 = 0 := by decide +kernel
theorem ft12_24 : ((xcl 12).2.1 24).2.2 = ("I", false) := by decide +kernel
theorem fk12_25 : xfk 12 25 = (3, 58, 1, 0) := by decide +kernel
theorem fk12_26 : xfk 12 26 = (3, 59, 1, 0) := by decide +kernel
theorem fk12_27 : xfk 12 27 = (3, 60, 1, 0) := by decide +kernel
theorem fk12_28 : (xfk 12 28).1 = 0 := by decide +kernel
theorem ft12_28 : ((xcl 12).2.1 28).2.2 = ("I", false) := by decide +kernel
theorem fk12_29 : (xfk 12 29).1 = 0 := by decide +kernel
theorem ft12_29 : ((xcl 12).2.1 29).2.2 = ("I", false) := by decide +kernel
theorem fk12_30 : (xfk 12 30).1 = 0 := by decide +kernel
theorem ft12_30 : ((xcl 12).2.1 30).2.2 = ("I", false) := by decide +kernel
theorem fk12_31 : xfk 12 31 = (3, 61, 1, 0) := by decide +kernel
theorem fk12_32 : xfk 12 32 = (3, 62, 1, 0) := by decide +kernel
theorem fk12_33 : xfk 12 33 = (3, 63, 1, 0) := by decide +kernel
theorem fk12_34 : xfk 12 34 = (3, 64, 1, 0) := by decide +kernel
theorem fk12_35 : xfk 12 35 = (3, 65, 1, 0) := by decide +kernel
theorem fk12_36 : (xfk 12 36).1 = 1 := by decide +kernel
theorem ft12_36 : ((xcl 12).2.1 36).2.2 = ("J", false) := by decide +kernel
theorem fk12_37 : xfk 12 37 = (3, 66, 1, 0) := by decide +kernel
theorem fk12_38 : xfk 12 38 = (3, 67, 1, 0) := by decide +kernel
theorem fk12_39 : xfk 12 39 = (3, 68, 1, 0) := by decide +kernel
theorem fk12_40 : xfk 12 40 = (3, 69, 1, 0) := by decide +kernel
theorem ak13 : xak 13 = (0, 8, 0, 0) := by decide +kernel
theorem ak14 : xak 14 = (0, 4, 0, 0) := by decide +kernel
theorem ak15 : xak 15 = (0, 256, 0, 0) := by decide +kernel
theorem ak16 : xak 16 = (3, 256, 0, 0) := by decide +kernel
theorem ak17 : xak 17 = (6, 20, 6, 5) := by decide +kernel
theorem ak18 : xak 18 = (0, 400, 0, 0) := by decide +kernel
theorem ak19 : xak 19 = (2, 64, 0, 0) := by decide +kernel
theorem ak20 : xak 20 = (0, 10, 0, 0) := by decide +kernel
theorem ak21 : xak 21 = (0, 10, 0, 0) := by decide +kernel
theorem ak22 : xak 22 = (0, 8, 0, 0) := by decide +kernel
theorem ak23 : xak 23 = (0, 256, 0, 0) := by decide +kernel
theorem ak24 : xak 24 = (0, 256, 0, 0) := by decide +kernel
theorem ak25 : xak 25 = (0, 256, 0, 0) := by decide +kernel
theorem ak26 : xak 26 = (3, 256, 0, 0) := by decide +kernel
theorem ak27 : xak 27 = (3, 256, 0, 0) := by decide +kernel
theorem ak28 : xak 28 = (0, 8, 0, 0) := by decide +kernel
theorem ak29 : xak 29 = (0, 8, 0, 0) := by decide +kernel
theorem ak30 : xak 30 = (0, 8, 0, 0) := by decide +kernel
theorem ak31 : xak 31 = (0, 8, 0, 0) := by decide +kernel
theorem ak32 : xak 32 = (0, 8, 0, 0) := by decide +kernel
theorem ak33 : xak 33 = (1, 400, 0, 0) := by decide +kernel
theorem ak34 : xak 34 = (0, 401, 0, 0) := by decide +kernel
theorem ak35 : xak 35 = (0, 401, 0, 0) := by decide +kernel
theorem ak36 : xak 36 = (0, 401, 0, 0) := by decide +kernel
theorem ak37 : xak 37 = (0, 8, 0, 0) := by decide +kernel
theorem ak38 : xak 38 = (0, 8, 0, 0) := by decide +kernel
theorem ak39 : xak 39 = (0, 8, 0, 0) := by decide +kernel
theorem ak40 : xak 40 = (0, 8, 0, 0) := by decide +kernel
theorem ak41 : xak 41 = (0, 4, 0, 0) := by decide +kernel
theorem ak42 : xak 42 = (2, 12, 0, 0) := by decide +kernel
theorem ak43 : xak 43 = (4, 6, 2, 0) := by decide +kernel
theorem ak44 : xak 44 = (5, 4, 4, 1) := by decide +kernel
theorem ak45 : xak 45 = (3, 4, 0, 0) := by decide +kernel
theorem ak46 : xak 46 = (0, 427, 0, 0) := by decide +kernel
theorem ak47 : xak 47 = (1, 400, 0, 0) := by decide +kernel
theorem ak48 : xak 48 = (0, 2400, 0, 0) := by decide +kernel
theorem ak49 : xak 49 = (0, 7, 0, 0) := by decide +kernel
theorem ak50 : xak 50 = (0, 288, 0, 0) := by decide +kernel
theorem ak51 : xak 51 = (0, 6, 0, 0) := by decide +kernel
theorem ak52 : xak 52 = (0, 80, 0, 0) := by decide +kernel
theorem ak53 : xak 53 = (0, 400, 0, 0) := by decide +kernel
theorem ak54 : xak 54 = (2, 64, 0, 0) := by decide +kernel
theorem ak55 : xak 55 = (2, 12, 0, 0) := by decide +kernel
theorem ak56 : xak 56 = (0, 101, 0, 0) := by decide +kernel
theorem ak57 : xak 57 = (0, 680, 0, 0) := by decide +kernel
theorem ak58 : xak 58 = (0, 34, 0, 0) := by decide +kernel
theorem ak59 : xak 59 = (0, 9, 0, 0) := by decide +kernel
theorem ak60 : xak 60 = (0, 8, 0, 0) := by decide +kernel
theorem ak61 : xak 61 = (0, 9, 0, 0) := by decide +kernel
theorem ak62 : xak 62 = (0, 8, 0, 0) := by decide +kernel
theorem ak63 : xak 63 = (0, 256, 0, 0) := by decide +kernel
theorem ak64 : xak 64 = (3, 7, 0, 0) := by decide +kernel
theorem ak65 : xak 65 = (0, 427, 0, 0) := by decide +kernel
theorem ak66 : xak 66 = (0, 404, 0, 0) := by decide +kernel
theorem ak67 : xak 67 = (0, 4, 0, 0) := by decide +kernel
theorem ak68 : xak 68 = (0, 4, 0, 0) := by decide +kernel
theorem ak69 : xak 69 = (3, 4, 0, 0) := by decide +kernel
theorem ky0 : xkey 0 = 0 := by decide +kernel
theorem mx0 : xmaxL 0 = 6 := by decide +kernel
set_option maxRecDepth 20000 in
theorem rt0 : xret 0 = none := rfl
theorem st0 : xstat 0 = false := by decide +kernel
theorem na0 : 2 = xnarg 0 := by decide +kernel
theorem cn0 : (xcl 0).1 = (xname 0).cls := by decide +kernel
theorem ky1 : xkey 1 = 0 := by decide +kernel
theorem mx1 : xmaxL 1 = 5 := by decide +kernel
set_option maxRecDepth 20000 in
theorem rt1 : xret 1 = (some FieldType.int) := rfl
theorem st1 : xstat 1 = false := by decide +kernel
theorem na1 : 3 = xnarg 1 := by decide +kernel
theorem cn1 : (xcl 0).1 = (xname 1).cls := by decide +kernel
theorem ky2 : xkey 2 = 0 := by decide +kernel
theorem mx2 : xmaxL 2 = 4 := by decide +kernel
set_option maxRecDepth 20000 in
theorem rt2 : xret 2 = (some FieldType.int) := rfl
theorem st2 : xstat 2 = false := by decide +kernel
theorem na2 : 1 = xnarg 2 := by decide +kernel
theorem cn2 : (xcl 0).1 = (xname 2).cls := by decide +kernel
theorem ky3 : xkey 3 = 0 := by decide +kernel
theorem mx3 : xmaxL 3 = 4 := by decide +kernel
set_option maxRecDepth 20000 in
theorem rt3 : xret 3 = (some FieldType.boolean) := rfl
theorem st3 : xstat 3 = false := by decide +kernel
theorem na3 : 2 = xnarg 3 := by decide +kernel
theorem cn3 : (xcl 0).1 = (xname 3).cls := by decide +kernel
theorem ky4 : xkey 4 = 0 := by decide +kernel
theorem mx4 : xmaxL 4 = 7 := by decide +kernel
set_option maxRecDepth 20000 in
theorem rt4 : xret 4 = (some FieldType.int) := rfl
theorem st4 : xstat 4 = false := by decide +kernel
theorem na4 : 2 = xnarg 4 := by decide +kernel
theorem cn4 : (xcl 0).1 = (xname 4).cls := by decide +kernel
theorem ky5 : xkey 5 = 1 := by decide +kernel
theorem mx5 : xmaxL 5 = 1 := by decide +kernel
set_option maxRecDepth 20000 in
theorem rt5 : xret 5 = none := rfl
theorem st5 : xstat 5 = false := by decide +kernel
theorem na5 : 0 = xnarg 5 := by decide +kernel
theorem cn5 : (xcl 1).1 = (xname 5).cls := by decide +kernel
theorem ky6 : xkey 6 = 1 := by decide +kernel
theorem mx6 : xmaxL 6 = 2 := by decide +kernel
set_option maxRecDepth 20000 in
theorem rt6 : xret 6 = none := rfl
theorem st6 : xstat 6 = false := by decide +kernel
theorem na6 : 1 = xnarg 6 := by decide +kernel
theorem cn6 : (xcl 1).1 = (xname 6).cls := by decide +kernel
theorem ky7 : xkey 7 = 1 := by decide +kernel
theorem mx7 : xmaxL 7 = 2 := by decide +kernel
set_option maxRecDepth 20000 in
theorem rt7 : xret 7 = none := rfl
theorem st7 : xstat 7 = false := by decide +kernel
theorem na7 : 1 = xnarg 7 := by decide +kernel
theorem cn7 : (xcl 1).1 = (xname 7).cls := by decide +kernel
theorem ky8 : xkey 8 = 2 := by decide +kernel
theorem mx8 : xmaxL 8 = 1 := by decide +kernel
set_option maxRecDepth 20000 in
theorem rt8 : xret 8 = none := rfl
theorem st8 : xstat 8 = false := by decide +kernel
theorem na8 : 0 = xnarg 8 := by decide +kernel
theorem cn8 : (xcl 2).1 = (xname 8).cls := by decide +kernel
theorem ky9 : xkey 9 = 2 := by decide +kernel
theorem mx9 : xmaxL 9 = 2 := by decide +kernel
set_option maxRecDepth 20000 in
theorem rt9 : xret 9 = none := rfl
theorem st9 : xstat 9 = false := by decide +kernel
theorem na9 : 1 = xnarg 9 := by decide +kernel
theorem cn9 : (xcl 2).1 = (xname 9).cls := by decide +kernel
theorem ky10 : xkey 10 = 2 := by decide +kernel
theorem mx10 : xmaxL 10 = 5 := by decide +kernel
set_option maxRecDepth 20000 in
theorem rt10 : xret 10 = (some FieldType.long) := rfl
theorem st10 : xstat 10 = false := by decide +kernel
theorem na10 : 1 = xnarg 10 := by decide +kernel
theorem cn10 : (xcl 2).1 = (xname 10).cls := by decide +kernel
theorem ky11 : xkey 11 = 2 := by decide +kernel
theorem mx11 : xmaxL 11 = 2 := by decide +kernel
set_option maxRecDepth 20000 in
theorem rt11 : xret 11 = (some FieldType.long) := rfl
theorem st11 : xstat 11 = true := by decide +kernel
theorem na11 : 2 = xnarg 11 := by decide +kernel
theorem ky12 : xkey 12 = 2 := by decide +kernel
theorem mx12 : xmaxL 12 = 5 := by decide +kernel
set_option maxRecDepth 20000 in
theorem rt12 : xret 12 = (some FieldType.long) := rfl
theorem st12 : xstat 12 = true := by decide +kernel
theorem na12 : 3 = xnarg 12 := by decide +kernel
theorem ky13 : xkey 13 = 3 := by decide +kernel
theorem mx13 : xmaxL 13 = 4 := by decide +kernel
set_option maxRecDepth 20000 in
theorem rt13 : xret 13 = (some FieldType.int) := rfl
theorem st13 : xstat 13 = false := by decide +kernel
theorem na13 : 1 = xnarg 13 := by decide +kernel
theorem cn13 : (xcl 3).1 = (xname 13).cls := by decide +kernel
theorem ky14 : xkey 14 = 3 := by decide +kernel
theorem mx14 : xmaxL 14 = 1 := by decide +kernel
set_option maxRecDepth 20000 in
theorem rt14 : xret 14 = none := rfl
theorem st14 : xstat 14 = false := by decide +kernel
theorem na14 : 0 = xnarg 14 := by decide +kernel
theorem cn14 : (xcl 3).1 = (xname 14).cls := by decide +kernel
theorem ky15 : xkey 15 = 3 := by decide +kernel
theorem mx15 : xmaxL 15 = 3 := by decide +kernel
set_option maxRecDepth 20000 in
theorem rt15 : xret 15 = none := rfl
theorem st15 : xstat 15 = false := by decide +kernel
theorem na15 : 1 = xnarg 15 := by decide +kernel
theorem cn15 : (xcl 3).1 = (xname 15).cls := by decide +kernel
theorem ky16 : xkey 16 = 3 := by decide +kernel
theorem mx16 : xmaxL 16 = 3 := by decide +kernel
set_option maxRecDepth 20000 in
theorem rt16 : xret 16 = none := rfl
theorem st16 : xstat 16 = false := by decide +kernel
theorem na16 : 1 = xnarg 16 := by decide +kernel
theorem cn16 : (xcl 3).1 = (xname 16).cls := by decide +kernel
theorem ky17 : xkey 17 = 3 := by decide +kernel
theorem mx17 : xmaxL 17 = 3 := by decide +kernel
set_option maxRecDepth 20000 in
theorem rt17 : xret 17 = none := rfl
theorem st17 : xstat 17 = false := by decide +kernel
theorem na17 : 1 = xnarg 17 := by decide +kernel
theorem cn17 : (xcl 3).1 = (xname 17).cls := by decide +kernel
theorem ky18 : xkey 18 = 3 := by decide +kernel
theorem mx18 : xmaxL 18 = 1 := by decide +kernel
set_option maxRecDepth 20000 in
theorem rt18 : xret 18 = none := rfl
theorem st18 : xstat 18 = false := by decide +kernel
theorem na18 : 0 = xnarg 18 := by decide +kernel
theorem cn18 : (xcl 3).1 = (xname 18).cls := by decide +kernel
theorem ky19 : xkey 19 = 3 := by decide +kernel
theorem mx19 : xmaxL 19 = 2 := by decide +kernel
set_option maxRecDepth 20000 in
theorem rt19 : xret 19 = none := rfl
theorem st19 : xstat 19 = false := by decide +kernel
theorem na19 : 0 = xnarg 19 := by decide +kernel
theorem cn19 : (xcl 3).1 = (xname 19).cls := by decide +kernel
theorem ky20 : xkey 20 = 3 := by decide +kernel
theorem mx20 : xmaxL 20 = 1 := by decide +kernel
set_option maxRecDepth 20000 in
theorem rt20 : xret 20 = (some FieldType.int) := rfl
theorem st20 : xstat 20 = false := by decide +kernel
theorem na20 : 0 = xnarg 20 := by decide +kernel
theorem cn20 : (xcl 3).1 = (xname 20).cls := by decide +kernel
theorem ky21 : xkey 21 = 3 := by decide +kernel
theorem mx21 : xmaxL 21 = 3 := by decide +kernel
set_option maxRecDepth 20000 in
theorem rt21 : xret 21 = none := rfl
theorem st21 : xstat 21 = false := by decide +kernel
theorem na21 : 0 = xnarg 21 := by decide +kernel
theorem cn21 : (xcl 3).1 = (xname 21).cls := by decide +kernel
theorem ky22 : xkey 22 = 3 := by decide +kernel
theorem mx22 : xmaxL 22 = 3 := by decide +kernel
set_option maxRecDepth 20000 in
theorem rt22 : xret 22 = none := rfl
theorem st22 : xstat 22 = false := by decide +kernel
theorem na22 : 0 = xnarg 22 := by decide +kernel
theorem cn22 : (xcl 3).1 = (xname 22).cls := by decide +kernel
theorem ky23 : xkey 23 = 3 := by decide +kernel
theorem mx23 : xmaxL 23 = 3 := by decide +kernel
set_option maxRecDepth 20000 in
theorem rt23 : xret 23 = none := rfl
theorem st23 : xstat 23 = false := by decide +kernel
theorem na23 : 0 = xnarg 23 := by decide +kernel
theorem cn23 : (xcl 3).1 = (xname 23).cls := by decide +kernel
theorem ky24 : xkey 24 = 4 := by decide +kernel
theorem mx24 : xmaxL 24 = 2 := by decide +kernel
set_option maxRecDepth 20000 in
theorem rt24 : xret 24 = none := rfl
theorem st24 : xstat 24 = false := by decide +kernel
theorem na24 : 1 = xnarg 24 := by decide +kernel
theorem cn24 : (xcl 4).1 = (xname 24).cls := by decide +kernel
theorem ky25 : xkey 25 = 4 := by decide +kernel
theorem mx25 : xmaxL 25 = 3 := by decide +kernel
set_option maxRecDepth 20000 in
theorem rt25 : xret 25 = none := rfl
theorem st25 : xstat 25 = false := by decide +kernel
theorem na25 : 2 = xnarg 25 := by decide +kernel
theorem cn25 : (xcl 4).1 = (xname 25).cls := by decide +kernel
theorem ky26 : xkey 26 = 4 := by decide +kernel
theorem mx26 : xmaxL 26 = 3 := by decide +kernel
set_option maxRecDepth 20000 in
theorem rt26 : xret 26 = (some FieldType.int) := rfl
theorem st26 : xstat 26 = false := by decide +kernel
theorem na26 : 0 = xnarg 26 := by decide +kernel
theorem cn26 : (xcl 4).1 = (xname 26).cls := by decide +kernel
theorem ky27 : xkey 27 = 4 := by decide +kernel
theorem mx27 : xmaxL 27 = 4 := by decide +kernel
set_option maxRecDepth 20000 in
theorem rt27 : xret 27 = (some FieldType.boolean) := rfl
theorem st27 : xstat 27 = false := by decide +kernel
theorem na27 : 2 = xnarg 27 := by decide +kernel
theorem cn27 : (xcl 4).1 = (xname 27).cls := by decide +kernel
theorem ky28 : xkey 28 = 5 := by decide +kernel
theorem mx28 : xmaxL 28 = 2 := by decide +kernel
set_option maxRecDepth 20000 in
theorem rt28 : xret 28 = (some FieldType.boolean) := rfl
theorem st28 : xstat 28 = true := by decide +kernel
theorem na28 : 2 = xnarg 28 := by decide +kernel
theorem ky29 : xkey 29 = 5 := by decide +kernel
theorem mx29 : xmaxL 29 = 4 := by decide +kernel
set_option maxRecDepth 20000 in
theorem rt29 : xret 29 = none := rfl
theorem st29 : xstat 29 = true := by decide +kernel
theorem na29 : 2 = xnarg 29 := by decide +kernel
theorem ky30 : xkey 30 = 5 := by decide +kernel
theorem mx30 : xmaxL 30 = 3 := by decide +kernel
set_option maxRecDepth 20000 in
theorem rt30 : xret 30 = none := rfl
theorem st30 : xstat 30 = false := by decide +kernel
theorem na30 : 2 = xnarg 30 := by decide +kernel
theorem cn30 : (xcl 5).1 = (xname 30).cls := by decide +kernel
theorem ky31 : xkey 31 = 5 := by decide +kernel
theorem mx31 : xmaxL 31 = 7 := by decide +kernel
set_option maxRecDepth 20000 in
theorem rt31 : xret 31 = none := rfl
theorem st31 : xstat 31 = false := by decide +kernel
theorem na31 : 2 = xnarg 31 := by decide +kernel
theorem cn31 : (xcl 5).1 = (xname 31).cls := by decide +kernel
theorem ky32 : xkey 32 = 5 := by decide +kernel
theorem mx32 : xmaxL 32 = 3 := by decide +kernel
set_option maxRecDepth 20000 in
theorem rt32 : xret 32 = none := rfl
theorem st32 : xstat 32 = false := by decide +kernel
theorem na32 : 0 = xnarg 32 := by decide +kernel
theorem cn32 : (xcl 5).1 = (xname 32).cls := by decide +kernel
theorem ky33 : xkey 33 = 5 := by decide +kernel
theorem mx33 : xmaxL 33 = 2 := by decide +kernel
set_option maxRecDepth 20000 in
theorem rt33 : xret 33 = (some FieldType.boolean) := rfl
theorem st33 : xstat 33 = false := by decide +kernel
theorem na33 : 1 = xnarg 33 := by decide +kernel
theorem cn33 : (xcl 5).1 = (xname 33).cls := by decide +kernel
theorem ky34 : xkey 34 = 5 := by decide +kernel
theorem mx34 : xmaxL 34 = 4 := by decide +kernel
set_option maxRecDepth 20000 in
theorem rt34 : xret 34 = (some FieldType.boolean) := rfl
theorem st34 : xstat 34 = false := by decide +kernel
theorem na34 : 3 = xnarg 34 := by decide +kernel
theorem cn34 : (xcl 5).1 = (xname 34).cls := by decide +kernel
theorem ky35 : xkey 35 = 5 := by decide +kernel
theorem mx35 : xmaxL 35 = 4 := by decide +kernel
set_option maxRecDepth 20000 in
theorem rt35 : xret 35 = none := rfl
theorem st35 : xstat 35 = false := by decide +kernel
theorem na35 : 1 = xnarg 35 := by decide +kernel
theorem cn35 : (xcl 5).1 = (xname 35).cls := by decide +kernel
theorem ky36 : xkey 36 = 5 := by decide +kernel
theorem mx36 : xmaxL 36 = 6 := by decide +kernel
set_option maxRecDepth 20000 in
theorem rt36 : xret 36 = none := rfl
theorem st36 : xstat 36 = false := by decide +kernel
theorem na36 : 1 = xnarg 36 := by decide +kernel
theorem cn36 : (xcl 5).1 = (xname 36).cls := by decide +kernel
theorem ky37 : xkey 37 = 5 := by decide +kernel
theorem mx37 : xmaxL 37 = 3 := by decide +kernel
set_option maxRecDepth 20000 in
theorem rt37 : xret 37 = none := rfl
theorem st37 : xstat 37 = false := by decide +kernel
theorem na37 : 1 = xnarg 37 := by decide +kernel
theorem cn37 : (xcl 5).1 = (xname 37).cls := by decide +kernel
theorem ky38 : xkey 38 = 5 := by decide +kernel
theorem mx38 : xmaxL 38 = 3 := by decide +kernel
set_option maxRecDepth 20000 in
theorem rt38 : xret 38 = none := rfl
theorem st38 : xstat 38 = false := by decide +kernel
theorem na38 : 2 = xnarg 38 := by decide +kernel
theorem cn38 : (xcl 5).1 = (xname 38).cls := by decide +kernel
theorem ky39 : xkey 39 = 5 := by decide +kernel
theorem mx39 : xmaxL 39 = 5 := by decide +kernel
set_option maxRecDepth 20000 in
theorem rt39 : xret 39 = (some FieldType.int) := rfl
theorem st39 : xstat 39 = false := by decide +kernel
theorem na39 : 2 = xnarg 39 := by decide +kernel
theorem cn39 : (xcl 5).1 = (xname 39).cls := by decide +kernel
theorem ky40 : xkey 40 = 5 := by decide +kernel
theorem mx40 : xmaxL 40 = 4 := by decide +kernel
set_option maxRecDepth 20000 in
theorem rt40 : xret 40 = (some FieldType.int) := rfl
theorem st40 : xstat 40 = true := by decide +kernel
theorem na40 : 2 = xnarg 40 := by decide +kernel
theorem ky41 : xkey 41 = 5 := by decide +kernel
theorem mx41 : xmaxL 41 = 5 := by decide +kernel
set_option maxRecDepth 20000 in
theorem rt41 : xret 41 = (some FieldType.int) := rfl
theorem st41 : xstat 41 = false := by decide +kernel
theorem na41 : 2 = xnarg 41 := by decide +kernel
theorem cn41 : (xcl 5).1 = (xname 41).cls := by decide +kernel
theorem ky42 : xkey 42 = 5 := by decide +kernel
theorem mx42 : xmaxL 42 = 5 := by decide +kernel
set_option maxRecDepth 20000 in
theorem rt42 : xret 42 = (some FieldType.int) := rfl
theorem st42 : xstat 42 = false := by decide +kernel
theorem na42 : 1 = xnarg 42 := by decide +kernel
theorem cn42 : (xcl 5).1 = (xname 42).cls := by decide +kernel
theorem ky43 : xkey 43 = 5 := by decide +kernel
theorem mx43 : xmaxL 43 = 5 := by decide +kernel
set_option maxRecDepth 20000 in
theorem rt43 : xret 43 = none := rfl
theorem st43 : xstat 43 = false := by decide +kernel
theorem na43 : 2 = xnarg 43 := by decide +kernel
theorem cn43 : (xcl 5).1 = (xname 43).cls := by decide +kernel
theorem ky44 : xkey 44 = 5 := by decide +kernel
theorem mx44 : xmaxL 44 = 3 := by decide +kernel
set_option maxRecDepth 20000 in
theorem rt44 : xret 44 = none := rfl
theorem st44 : xstat 44 = false := by decide +kernel
theorem na44 : 2 = xnarg 44 := by decide +kernel
theorem cn44 : (xcl 5).1 = (xname 44).cls := by decide +kernel
theorem ky45 : xkey 45 = 6 := by decide +kernel
theorem mx45 : xmaxL 45 = 3 := by decide +kernel
set_option maxRecDepth 20000 in
theorem rt45 : xret 45 = none := rfl
theorem st45 : xstat 45 = false := by decide +kernel
theorem na45 : 1 = xnarg 45 := by decide +kernel
theorem cn45 : (xcl 6).1 = (xname 45).cls := by decide +kernel
theorem ky46 : xkey 46 = 6 := by decide +kernel
theorem mx46 : xmaxL 46 = 2 := by decide +kernel
set_option maxRecDepth 20000 in
theorem rt46 : xret 46 = none := rfl
theorem st46 : xstat 46 = false := by decide +kernel
theorem na46 : 1 = xnarg 46 := by decide +kernel
theorem cn46 : (xcl 6).1 = (xname 46).cls := by decide +kernel
theorem ky47 : xkey 47 = 6 := by decide +kernel
theorem mx47 : xmaxL 47 = 2 := by decide +kernel
set_option maxRecDepth 20000 in
theorem rt47 : xret 47 = (some FieldType.boolean) := rfl
theorem st47 : xstat 47 = false := by decide +kernel
theorem na47 : 1 = xnarg 47 := by decide +kernel
theorem cn47 : (xcl 6).1 = (xname 47).cls := by decide +kernel
theorem ky48 : xkey 48 = 6 := by decide +kernel
theorem mx48 : xmaxL 48 = 2 := by decide +kernel
set_option maxRecDepth 20000 in
theorem rt48 : xret 48 = (some FieldType.boolean) := rfl
theorem st48 : xstat 48 = false := by decide +kernel
theorem na48 : 1 = xnarg 48 := by decide +kernel
theorem cn48 : (xcl 6).1 = (xname 48).cls := by decide +kernel
theorem ky49 : xkey 49 = 6 := by decide +kernel
theorem mx49 : xmaxL 49 = 2 := by decide +kernel
set_option maxRecDepth 20000 in
theorem rt49 : xret 49 = (some FieldType.boolean) := rfl
theorem st49 : xstat 49 = false := by decide +kernel
theorem na49 : 1 = xnarg 49 := by decide +kernel
theorem cn49 : (xcl 6).1 = (xname 49).cls := by decide +kernel
theorem ky50 : xkey 50 = 6 := by decide +kernel
theorem mx50 : xmaxL 50 = 2 := by decide +kernel
set_option maxRecDepth 20000 in
theorem rt50 : xret 50 = (some FieldType.int) := rfl
theorem st50 : xstat 50 = false := by decide +kernel
theorem na50 : 1 = xnarg 50 := by decide +kernel
theorem cn50 : (xcl 6).1 = (xname 50).cls := by decide +kernel
theorem ky51 : xkey 51 = 6 := by decide +kernel
theorem mx51 : xmaxL 51 = 3 := by decide +kernel
set_option maxRecDepth 20000 in
theorem rt51 : xret 51 = (some FieldType.int) := rfl
theorem st51 : xstat 51 = false := by decide +kernel
theorem na51 : 0 = xnarg 51 := by decide +kernel
theorem cn51 : (xcl 6).1 = (xname 51).cls := by decide +kernel
theorem ky52 : xkey 52 = 6 := by decide +kernel
theorem mx52 : xmaxL 52 = 4 := by decide +kernel
set_option maxRecDepth 20000 in
theorem rt52 : xret 52 = (some FieldType.int) := rfl
theorem st52 : xstat 52 = false := by decide +kernel
theorem na52 : 1 = xnarg 52 := by decide +kernel
theorem cn52 : (xcl 6).1 = (xname 52).cls := by decide +kernel
theorem ky53 : xkey 53 = 6 := by decide +kernel
theorem mx53 : xmaxL 53 = 4 := by decide +kernel
set_option maxRecDepth 20000 in
theorem rt53 : xret 53 = (some FieldType.int) := rfl
theorem st53 : xstat 53 = false := by decide +kernel
theorem na53 : 1 = xnarg 53 := by decide +kernel
theorem cn53 : (xcl 6).1 = (xname 53).cls := by decide +kernel
theorem ky54 : xkey 54 = 6 := by decide +kernel
theorem mx54 : xmaxL 54 = 2 := by decide +kernel
set_option maxRecDepth 20000 in
theorem rt54 : xret 54 = none := rfl
theorem st54 : xstat 54 = false := by decide +kernel
theorem na54 : 1 = xnarg 54 := by decide +kernel
theorem cn54 : (xcl 6).1 = (xname 54).cls := by decide +kernel
theorem ky55 : xkey 55 = 6 := by decide +kernel
theorem mx55 : xmaxL 55 = 3 := by decide +kernel
set_option maxRecDepth 20000 in
theorem rt55 : xret 55 = none := rfl
theorem st55 : xstat 55 = false := by decide +kernel
theorem na55 : 2 = xnarg 55 := by decide +kernel
theorem cn55 : (xcl 6).1 = (xname 55).cls := by decide +kernel
theorem ky56 : xkey 56 = 7 := by decide +kernel
theorem mx56 : xmaxL 56 = 2 := by decide +kernel
set_option maxRecDepth 20000 in
theorem rt56 : xret 56 = (some FieldType.boolean) := rfl
theorem st56 : xstat 56 = false := by decide +kernel
theorem na56 : 1 = xnarg 56 := by decide +kernel
theorem cn56 : (xcl 7).1 = (xname 56).cls := by decide +kernel
theorem ky57 : xkey 57 = 7 := by decide +kernel
theorem mx57 : xmaxL 57 = 3 := by decide +kernel
set_option maxRecDepth 20000 in
theorem rt57 : xret 57 = none := rfl
theorem st57 : xstat 57 = false := by decide +kernel
theorem na57 : 1 = xnarg 57 := by decide +kernel
theorem cn57 : (xcl 7).1 = (xname 57).cls := by decide +kernel
theorem ky58 : xkey 58 = 7 := by decide +kernel
theorem mx58 : xmaxL 58 = 2 := by decide +kernel
set_option maxRecDepth 20000 in
theorem rt58 : xret 58 = (some FieldType.int) := rfl
theorem st58 : xstat 58 = false := by decide +kernel
theorem na58 : 1 = xnarg 58 := by decide +kernel
theorem cn58 : (xcl 7).1 = (xname 58).cls := by decide +kernel
theorem ky59 : xkey 59 = 7 := by decide +kernel
theorem mx59 : xmaxL 59 = 2 := by decide +kernel
set_option maxRecDepth 20000 in
theorem rt59 : xret 59 = (some FieldType.boolean) := rfl
theorem st59 : xstat 59 = false := by decide +kernel
theorem na59 : 1 = xnarg 59 := by decide +kernel
theorem cn59 : (xcl 7).1 = (xname 59).cls := by decide +kernel
theorem ky60 : xkey 60 = 7 := by decide +kernel
theorem mx60 : xmaxL 60 = 2 := by decide +kernel
set_option maxRecDepth 20000 in
theorem rt60 : xret 60 = (some FieldType.boolean) := rfl
theorem st60 : xstat 60 = false := by decide +kernel
theorem na60 : 1 = xnarg 60 := by decide +kernel
theorem cn60 : (xcl 7).1 = (xname 60).cls := by decide +kernel
theorem ky61 : xkey 61 = 7 := by decide +kernel
theorem mx61 : xmaxL 61 = 3 := by decide +kernel
set_option maxRecDepth 20000 in
theorem rt61 : xret 61 = none := rfl
theorem st61 : xstat 61 = false := by decide +kernel
theorem na61 : 0 = xnarg 61 := by decide +kernel
theorem cn61 : (xcl 7).1 = (xname 61).cls := by decide +kernel
theorem ky62 : xkey 62 = 7 := by decide +kernel
theorem mx62 : xmaxL 62 = 4 := by decide +kernel
set_option maxRecDepth 20000 in
theorem rt62 : xret 62 = (some FieldType.int) := rfl
theorem st62 : xstat 62 = false := by decide +kernel
theorem na62 : 1 = xnarg 62 := by decide +kernel
theorem cn62 : (xcl 7).1 = (xname 62).cls := by decide +kernel
theorem ky63 : xkey 63 = 7 := by decide +kernel
theorem mx63 : xmaxL 63 = 2 := by decide +kernel
set_option maxRecDepth 20000 in
theorem rt63 : xret 63 = (some FieldType.boolean) := rfl
theorem st63 : xstat 63 = false := by decide +kernel
theorem na63 : 1 = xnarg 63 := by decide +kernel
theorem cn63 : (xcl 7).1 = (xname 63).cls := by decide +kernel
theorem ky64 : xkey 64 = 7 := by decide +kernel
theorem mx64 : xmaxL 64 = 4 := by decide +kernel
set_option maxRecDepth 20000 in
theorem rt64 : xret 64 = none := rfl
theorem st64 : xstat 64 = false := by decide +kernel
theorem na64 : 3 = xnarg 64 := by decide +kernel
theorem cn64 : (xcl 7).1 = (xname 64).cls := by decide +kernel
theorem ky65 : xkey 65 = 7 := by decide +kernel
theorem mx65 : xmaxL 65 = 5 := by decide +kernel
set_option maxRecDepth 20000 in
theorem rt65 : xret 65 = (some FieldType.int) := rfl
theorem st65 : xstat 65 = false := by decide +kernel
theorem na65 : 2 = xnarg 65 := by decide +kernel
theorem cn65 : (xcl 7).1 = (xname 65).cls := by decide +kernel
theorem ky66 : xkey 66 = 7 := by decide +kernel
theorem mx66 : xmaxL 66 = 6 := by decide +kernel
set_option maxRecDepth 20000 in
theorem rt66 : xret 66 = (some FieldType.int) := rfl
theorem st66 : xstat 66 = false := by decide +kernel
theorem na66 : 2 = xnarg 66 := by decide +kernel
theorem cn66 : (xcl 7).1 = (xname 66).cls := by decide +kernel
theorem ky67 : xkey 67 = 7 := by decide +kernel
theorem mx67 : xmaxL 67 = 5 := by decide +kernel
set_option maxRecDepth 20000 in
theorem rt67 : xret 67 = (some FieldType.boolean) := rfl
theorem st67 : xstat 67 = false := by decide +kernel
theorem na67 : 3 = xnarg 67 := by decide +kernel
theorem cn67 : (xcl 7).1 = (xname 67).cls := by decide +kernel
theorem ky68 : xkey 68 = 7 := by decide +kernel
theorem mx68 : xmaxL 68 = 1 := by decide +kernel
set_option maxRecDepth 20000 in
theorem rt68 : xret 68 = none := rfl
theorem st68 : xstat 68 = false := by decide +kernel
theorem na68 : 0 = xnarg 68 := by decide +kernel
theorem cn68 : (xcl 7).1 = (xname 68).cls := by decide +kernel
theorem ky69 : xkey 69 = 7 := by decide +kernel
theorem mx69 : xmaxL 69 = 1 := by decide +kernel
set_option maxRecDepth 20000 in
theorem rt69 : xret 69 = (some FieldType.boolean) := rfl
theorem st69 : xstat 69 = false := by decide +kernel
theorem na69 : 0 = xnarg 69 := by decide +kernel
theorem cn69 : (xcl 7).1 = (xname 69).cls := by decide +kernel
theorem ky70 : xkey 70 = 7 := by decide +kernel
theorem mx70 : xmaxL 70 = 2 := by decide +kernel
set_option maxRecDepth 20000 in
theorem rt70 : xret 70 = none := rfl
theorem st70 : xstat 70 = false := by decide +kernel
theorem na70 : 1 = xnarg 70 := by decide +kernel
theorem cn70 : (xcl 7).1 = (xname 70).cls := by decide +kernel
theorem ky71 : xkey 71 = 7 := by decide +kernel
theorem mx71 : xmaxL 71 = 2 := by decide +kernel
set_option maxRecDepth 20000 in
theorem rt71 : xret 71 = (some FieldType.boolean) := rfl
theorem st71 : xstat 71 = false := by decide +kernel
theorem na71 : 1 = xnarg 71 := by decide +kernel
theorem cn71 : (xcl 7).1 = (xname 71).cls := by decide +kernel
theorem ky72 : xkey 72 = 7 := by decide +kernel
theorem mx72 : xmaxL 72 = 2 := by decide +kernel
set_option maxRecDepth 20000 in
theorem rt72 : xret 72 = (some FieldType.boolean) := rfl
theorem st72 : xstat 72 = false := by decide +kernel
theorem na72 : 1 = xnarg 72 := by decide +kernel
theorem cn72 : (xcl 7).1 = (xname 72).cls := by decide +kernel
theorem ky73 : xkey 73 = 7 := by decide +kernel
theorem mx73 : xmaxL 73 = 1 := by decide +kernel
set_option maxRecDepth 20000 in
theorem rt73 : xret 73 = (some FieldType.boolean) := rfl
theorem st73 : xstat 73 = false := by decide +kernel
theorem na73 : 0 = xnarg 73 := by decide +kernel
theorem cn73 : (xcl 7).1 = (xname 73).cls := by decide +kernel
theorem ky74 : xkey 74 = 8 := by decide +kernel
theorem mx74 : xmaxL 74 = 2 := by decide +kernel
set_option maxRecDepth 20000 in
theorem rt74 : xret 74 = none := rfl
theorem st74 : xstat 74 = false := by decide +kernel
theorem na74 : 0 = xnarg 74 := by decide +kernel
theorem cn74 : (xcl 8).1 = (xname 74).cls := by decide +kernel
theorem ky75 : xkey 75 = 8 := by decide +kernel
theorem mx75 : xmaxL 75 = 2 := by decide +kernel
set_option maxRecDepth 20000 in
theorem rt75 : xret 75 = none := rfl
theorem st75 : xstat 75 = false := by decide +kernel
theorem na75 : 1 = xnarg 75 := by decide +kernel
theorem cn75 : (xcl 8).1 = (xname 75).cls := by decide +kernel
theorem ky76 : xkey 76 = 8 := by decide +kernel
theorem mx76 : xmaxL 76 = 2 := by decide +kernel
set_option maxRecDepth 20000 in
theorem rt76 : xret 76 = (some FieldType.boolean) := rfl
theorem st76 : xstat 76 = false := by decide +kernel
theorem na76 : 1 = xnarg 76 := by decide +kernel
theorem cn76 : (xcl 8).1 = (xname 76).cls := by decide +kernel
theorem ky77 : xkey 77 = 8 := by decide +kernel
theorem mx77 : xmaxL 77 = 4 := by decide +kernel
set_option maxRecDepth 20000 in
theorem rt77 : xret 77 = (some FieldType.int) := rfl
theorem st77 : xstat 77 = false := by decide +kernel
theorem na77 : 1 = xnarg 77 := by decide +kernel
theorem cn77 : (xcl 8).1 = (xname 77).cls := by decide +kernel
theorem ky78 : xkey 78 = 9 := by decide +kernel
theorem mx78 : xmaxL 78 = 3 := by decide +kernel
set_option maxRecDepth 20000 in
theorem rt78 : xret 78 = (some FieldType.int) := rfl
theorem st78 : xstat 78 = false := by decide +kernel
theorem na78 : 0 = xnarg 78 := by decide +kernel
theorem cn78 : (xcl 9).1 = (xname 78).cls := by decide +kernel
theorem ky79 : xkey 79 = 9 := by decide +kernel
theorem mx79 : xmaxL 79 = 2 := by decide +kernel
set_option maxRecDepth 20000 in
theorem rt79 : xret 79 = none := rfl
theorem st79 : xstat 79 = false := by decide +kernel
theorem na79 : 0 = xnarg 79 := by decide +kernel
theorem cn79 : (xcl 9).1 = (xname 79).cls := by decide +kernel
theorem ky80 : xkey 80 = 9 := by decide +kernel
theorem mx80 : xmaxL 80 = 2 := by decide +kernel
set_option maxRecDepth 20000 in
theorem rt80 : xret 80 = (some FieldType.boolean) := rfl
theorem st80 : xstat 80 = false := by decide +kernel
theorem na80 : 1 = xnarg 80 := by decide +kernel
theorem cn80 : (xcl 9).1 = (xname 80).cls := by decide +kernel
theorem ky81 : xkey 81 = 9 := by decide +kernel
theorem mx81 : xmaxL 81 = 4 := by decide +kernel
set_option maxRecDepth 20000 in
theorem rt81 : xret 81 = (some FieldType.int) := rfl
theorem st81 : xstat 81 = false := by decide +kernel
theorem na81 : 2 = xnarg 81 := by decide +kernel
theorem cn81 : (xcl 9).1 = (xname 81).cls := by decide +kernel
theorem ky82 : xkey 82 = 9 := by decide +kernel
theorem mx82 : xmaxL 82 = 4 := by decide +kernel
set_option maxRecDepth 20000 in
theorem rt82 : xret 82 = none := rfl
theorem st82 : xstat 82 = false := by decide +kernel
theorem na82 : 0 = xnarg 82 := by decide +kernel
theorem cn82 : (xcl 9).1 = (xname 82).cls := by decide +kernel
theorem ky83 : xkey 83 = 9 := by decide +kernel
theorem mx83 : xmaxL 83 = 3 := by decide +kernel
set_option maxRecDepth 20000 in
theorem rt83 : xret 83 = none := rfl
theorem st83 : xstat 83 = false := by decide +kernel
theorem na83 : 0 = xnarg 83 := by decide +kernel
theorem cn83 : (xcl 9).1 = (xname 83).cls := by decide +kernel
theorem ky84 : xkey 84 = 9 := by decide +kernel
theorem mx84 : xmaxL 84 = 2 := by decide +kernel
set_option maxRecDepth 20000 in
theorem rt84 : xret 84 = none := rfl
theorem st84 : xstat 84 = false := by decide +kernel
theorem na84 : 0 = xnarg 84 := by decide +kernel
theorem cn84 : (xcl 9).1 = (xname 84).cls := by decide +kernel
theorem ky85 : xkey 85 = 10 := by decide +kernel
theorem mx85 : xmaxL 85 = 4 := by decide +kernel
set_option maxRecDepth 20000 in
theorem rt85 : xret 85 = none := rfl
theorem st85 : xstat 85 = false := by decide +kernel
theorem na85 : 3 = xnarg 85 := by decide +kernel
theorem cn85 : (xcl 10).1 = (xname 85).cls := by decide +kernel
theorem ky86 : xkey 86 = 10 := by decide +kernel
theorem mx86 : xmaxL 86 = 3 := by decide +kernel
set_option maxRecDepth 20000 in
theorem rt86 : xret 86 = none := rfl
theorem st86 : xstat 86 = false := by decide +kernel
theorem na86 : 2 = xnarg 86 := by decide +kernel
theorem cn86 : (xcl 10).1 = (xname 86).cls := by decide +kernel
theorem ky87 : xkey 87 = 10 := by decide +kernel
theorem mx87 : xmaxL 87 = 2 := by decide +kernel
set_option maxRecDepth 20000 in
theorem rt87 : xret 87 = (some FieldType.int) := rfl
theorem st87 : xstat 87 = false := by decide +kernel
theorem na87 : 0 = xnarg 87 := by decide +kernel
theorem cn87 : (xcl 10).1 = (xname 87).cls := by decide +kernel
theorem ky88 : xkey 88 = 10 := by decide +kernel
theorem mx88 : xmaxL 88 = 3 := by decide +kernel
set_option maxRecDepth 20000 in
theorem rt88 : xret 88 = (some FieldType.int) := rfl
theorem st88 : xstat 88 = false := by decide +kernel
theorem na88 : 0 = xnarg 88 := by decide +kernel
theorem cn88 : (xcl 10).1 = (xname 88).cls := by decide +kernel
theorem ky89 : xkey 89 = 10 := by decide +kernel
theorem mx89 : xmaxL 89 = 1 := by decide +kernel
set_option maxRecDepth 20000 in
theorem rt89 : xret 89 = (some FieldType.int) := rfl
theorem st89 : xstat 89 = true := by decide +kernel
theorem na89 : 1 = xnarg 89 := by decide +kernel
theorem ky90 : xkey 90 = 10 := by decide +kernel
theorem mx90 : xmaxL 90 = 8 := by decide +kernel
set_option maxRecDepth 20000 in
theorem rt90 : xret 90 = (some FieldType.int) := rfl
theorem st90 : xstat 90 = false := by decide +kernel
theorem na90 : 1 = xnarg 90 := by decide +kernel
theorem cn90 : (xcl 10).1 = (xname 90).cls := by decide +kernel
theorem ky91 : xkey 91 = 10 := by decide +kernel
theorem mx91 : xmaxL 91 = 2 := by decide +kernel
set_option maxRecDepth 20000 in
theorem rt91 : xret 91 = none := rfl
theorem st91 : xstat 91 = false := by decide +kernel
theorem na91 : 1 = xnarg 91 := by decide +kernel
theorem cn91 : (xcl 10).1 = (xname 91).cls := by decide +kernel
theorem ky92 : xkey 92 = 10 := by decide +kernel
theorem mx92 : xmaxL 92 = 2 := by decide +kernel
set_option maxRecDepth 20000 in
theorem rt92 : xret 92 = none := rfl
theorem st92 : xstat 92 = false := by decide +kernel
theorem na92 : 1 = xnarg 92 := by decide +kernel
theorem cn92 : (xcl 10).1 = (xname 92).cls := by decide +kernel
theorem ky93 : xkey 93 = 10 := by decide +kernel
theorem mx93 : xmaxL 93 = 7 := by decide +kernel
set_option maxRecDepth 20000 in
theorem rt93 : xret 93 = (some FieldType.int) := rfl
theorem st93 : xstat 93 = false := by decide +kernel
theorem na93 : 1 = xnarg 93 := by decide +kernel
theorem cn93 : (xcl 10).1 = (xname 93).cls := by decide +kernel
theorem ky94 : xkey 94 = 11 := by decide +kernel
theorem mx94 : xmaxL 94 = 6 := by decide +kernel
set_option maxRecDepth 20000 in
theorem rt94 : xret 94 = (some FieldType.int) := rfl
theorem st94 : xstat 94 = false := by decide +kernel
theorem na94 : 5 = xnarg 94 := by decide +kernel
theorem cn94 : (xcl 11).1 = (xname 94).cls := by decide +kernel
theorem ky95 : xkey 95 = 11 := by decide +kernel
theorem mx95 : xmaxL 95 = 2 := by decide +kernel
set_option maxRecDepth 20000 in
theorem rt95 : xret 95 = (some FieldType.int) := rfl
theorem st95 : xstat 95 = false := by decide +kernel
theorem na95 : 1 = xnarg 95 := by decide +kernel
theorem cn95 : (xcl 11).1 = (xname 95).cls := by decide +kernel
theorem ky96 : xkey 96 = 11 := by decide +kernel
theorem mx96 : xmaxL 96 = 2 := by decide +kernel
set_option maxRecDepth 20000 in
theorem rt96 : xret 96 = (some FieldType.int) := rfl
theorem st96 : xstat 96 = false := by decide +kernel
theorem na96 : 0 = xnarg 96 := by decide +kernel
theorem cn96 : (xcl 11).1 = (xname 96).cls := by decide +kernel
theorem ky97 : xkey 97 = 11 := by decide +kernel
theorem mx97 : xmaxL 97 = 2 := by decide +kernel
set_option maxRecDepth 20000 in
theorem rt97 : xret 97 = (some FieldType.int) := rfl
theorem st97 : xstat 97 = false := by decide +kernel
theorem na97 : 0 = xnarg 97 := by decide +kernel
theorem cn97 : (xcl 11).1 = (xname 97).cls := by decide +kernel
theorem ky98 : xkey 98 = 11 := by decide +kernel
theorem mx98 : xmaxL 98 = 3 := by decide +kernel
set_option maxRecDepth 20000 in
theorem rt98 : xret 98 = (some FieldType.int) := rfl
theorem st98 : xstat 98 = false := by decide +kernel
theorem na98 : 1 = xnarg 98 := by decide +kernel
theorem cn98 : (xcl 11).1 = (xname 98).cls := by decide +kernel
theorem ky99 : xkey 99 = 11 := by decide +kernel
theorem mx99 : xmaxL 99 = 3 := by decide +kernel
set_option maxRecDepth 20000 in
theorem rt99 : xret 99 = (some FieldType.int) := rfl
theorem st99 : xstat 99 = false := by decide +kernel
theorem na99 : 2 = xnarg 99 := by decide +kernel
theorem cn99 : (xcl 11).1 = (xname 99).cls := by decide +kernel
theorem ky100 : xkey 100 = 11 := by decide +kernel
theorem mx100 : xmaxL 100 = 2 := by decide +kernel
set_option maxRecDepth 20000 in
theorem rt100 : xret 100 = (some FieldType.int) := rfl
theorem st100 : xstat 100 = false := by decide +kernel
theorem na100 : 1 = xnarg 100 := by decide +kernel
theorem cn100 : (xcl 11).1 = (xname 100).cls := by decide +kernel
theorem ky101 : xkey 101 = 11 := by decide +kernel
theorem mx101 : xmaxL 101 = 2 := by decide +kernel
set_option maxRecDepth 20000 in
theorem rt101 : xret 101 = (some FieldType.int) := rfl
theorem st101 : xstat 101 = false := by decide +kernel
theorem na101 : 0 = xnarg 101 := by decide +kernel
theorem cn101 : (xcl 11).1 = (xname 101).cls := by decide +kernel
theorem ky102 : xkey 102 = 11 := by decide +kernel
theorem mx102 : xmaxL 102 = 2 := by decide +kernel
set_option maxRecDepth 20000 in
theorem rt102 : xret 102 = (some FieldType.int) := rfl
theorem st102 : xstat 102 = false := by decide +kernel
theorem na102 : 1 = xnarg 102 := by decide +kernel
theorem cn102 : (xcl 11).1 = (xname 102).cls := by decide +kernel
theorem ky103 : xkey 103 = 11 := by decide +kernel
theorem mx103 : xmaxL 103 = 2 := by decide +kernel
set_option maxRecDepth 20000 in
theorem rt103 : xret 103 = (some FieldType.int) := rfl
theorem st103 : xstat 103 = false := by decide +kernel
theorem na103 : 1 = xnarg 103 := by decide +kernel
theorem cn103 : (xcl 11).1 = (xname 103).cls := by decide +kernel
theorem ky104 : xkey 104 = 11 := by decide +kernel
theorem mx104 : xmaxL 104 = 3 := by decide +kernel
set_option maxRecDepth 20000 in
theorem rt104 : xret 104 = (some FieldType.int) := rfl
theorem st104 : xstat 104 = false := by decide +kernel
theorem na104 : 2 = xnarg 104 := by decide +kernel
theorem cn104 : (xcl 11).1 = (xname 104).cls := by decide +kernel
theorem ky105 : xkey 105 = 11 := by decide +kernel
theorem mx105 : xmaxL 105 = 4 := by decide +kernel
set_option maxRecDepth 20000 in
theorem rt105 : xret 105 = (some FieldType.int) := rfl
theorem st105 : xstat 105 = false := by decide +kernel
theorem na105 : 2 = xnarg 105 := by decide +kernel
theorem cn105 : (xcl 11).1 = (xname 105).cls := by decide +kernel
theorem ky106 : xkey 106 = 11 := by decide +kernel
theorem mx106 : xmaxL 106 = 1 := by decide +kernel
set_option maxRecDepth 20000 in
theorem rt106 : xret 106 = (some FieldType.int) := rfl
theorem st106 : xstat 106 = false := by decide +kernel
theorem na106 : 0 = xnarg 106 := by decide +kernel
theorem cn106 : (xcl 11).1 = (xname 106).cls := by decide +kernel
theorem ky107 : xkey 107 = 11 := by decide +kernel
theorem mx107 : xmaxL 107 = 4 := by decide +kernel
set_option maxRecDepth 20000 in
theorem rt107 : xret 107 = (some FieldType.int) := rfl
theorem st107 : xstat 107 = false := by decide +kernel
theorem na107 : 2 = xnarg 107 := by decide +kernel
theorem cn107 : (xcl 11).1 = (xname 107).cls := by decide +kernel
theorem ky108 : xkey 108 = 11 := by decide +kernel
theorem mx108 : xmaxL 108 = 5 := by decide +kernel
set_option maxRecDepth 20000 in
theorem rt108 : xret 108 = (some FieldType.int) := rfl
theorem st108 : xstat 108 = false := by decide +kernel
theorem na108 : 2 = xnarg 108 := by decide +kernel
theorem cn108 : (xcl 11).1 = (xname 108).cls := by decide +kernel
theorem ky109 : xkey 109 = 11 := by decide +kernel
theorem mx109 : xmaxL 109 = 5 := by decide +kernel
set_option maxRecDepth 20000 in
theorem rt109 : xret 109 = (some FieldType.int) := rfl
theorem st109 : xstat 109 = false := by decide +kernel
theorem na109 : 1 = xnarg 109 := by decide +kernel
theorem cn109 : (xcl 11).1 = (xname 109).cls := by decide +kernel
theorem ky110 : xkey 110 = 11 := by decide +kernel
theorem mx110 : xmaxL 110 = 4 := by decide +kernel
set_option maxRecDepth 20000 in
theorem rt110 : xret 110 = (some FieldType.int) := rfl
theorem st110 : xstat 110 = false := by decide +kernel
theorem na110 : 1 = xnarg 110 := by decide +kernel
theorem cn110 : (xcl 11).1 = (xname 110).cls := by decide +kernel
theorem ky111 : xkey 111 = 11 := by decide +kernel
theorem mx111 : xmaxL 111 = 3 := by decide +kernel
set_option maxRecDepth 20000 in
theorem rt111 : xret 111 = (some FieldType.int) := rfl
theorem st111 : xstat 111 = false := by decide +kernel
theorem na111 : 1 = xnarg 111 := by decide +kernel
theorem cn111 : (xcl 11).1 = (xname 111).cls := by decide +kernel
theorem ky112 : xkey 112 = 11 := by decide +kernel
theorem mx112 : xmaxL 112 = 2 := by decide +kernel
set_option maxRecDepth 20000 in
theorem rt112 : xret 112 = (some FieldType.int) := rfl
theorem st112 : xstat 112 = false := by decide +kernel
theorem na112 : 1 = xnarg 112 := by decide +kernel
theorem cn112 : (xcl 11).1 = (xname 112).cls := by decide +kernel
theorem ky113 : xkey 113 = 11 := by decide +kernel
theorem mx113 : xmaxL 113 = 2 := by decide +kernel
set_option maxRecDepth 20000 in
theorem rt113 : xret 113 = (some FieldType.int) := rfl
theorem st113 : xstat 113 = false := by decide +kernel
theorem na113 : 1 = xnarg 113 := by decide +kernel
theorem cn113 : (xcl 11).1 = (xname 113).cls := by decide +kernel
theorem ky114 : xkey 114 = 11 := by decide +kernel
theorem mx114 : xmaxL 114 = 1 := by decide +kernel
set_option maxRecDepth 20000 in
theorem rt114 : xret 114 = (some FieldType.int) := rfl
theorem st114 : xstat 114 = false := by decide +kernel
theorem na114 : 0 = xnarg 114 := by decide +kernel
theorem cn114 : (xcl 11).1 = (xname 114).cls := by decide +kernel
theorem ky115 : xkey 115 = 11 := by decide +kernel
theorem mx115 : xmaxL 115 = 3 := by decide +kernel
set_option maxRecDepth 20000 in
theorem rt115 : xret 115 = (some FieldType.int) := rfl
theorem st115 : xstat 115 = false := by decide +kernel
theorem na115 : 1 = xnarg 115 := by decide +kernel
theorem cn115 : (xcl 11).1 = (xname 115).cls := by decide +kernel
theorem ky116 : xkey 116 = 11 := by decide +kernel
theorem mx116 : xmaxL 116 = 2 := by decide +kernel
set_option maxRecDepth 20000 in
theorem rt116 : xret 116 = (some FieldType.int) := rfl
theorem st116 : xstat 116 = false := by decide +kernel
theorem na116 : 1 = xnarg 116 := by decide +kernel
theorem cn116 : (xcl 11).1 = (xname 116).cls := by decide +kernel
theorem ky117 : xkey 117 = 11 := by decide +kernel
theorem mx117 : xmaxL 117 = 3 := by decide +kernel
set_option maxRecDepth 20000 in
theorem rt117 : xret 117 = (some FieldType.int) := rfl
theorem st117 : xstat 117 = false := by decide +kernel
theorem na117 : 1 = xnarg 117 := by decide +kernel
theorem cn117 : (xcl 11).1 = (xname 117).cls := by decide +kernel
theorem ky118 : xkey 118 = 11 := by decide +kernel
theorem mx118 : xmaxL 118 = 2 := by decide +kernel
set_option maxRecDepth 20000 in
theorem rt118 : xret 118 = (some FieldType.int) := rfl
theorem st118 : xstat 118 = false := by decide +kernel
theorem na118 : 1 = xnarg 118 := by decide +kernel
theorem cn118 : (xcl 11).1 = (xname 118).cls := by decide +kernel
theorem ky119 : xkey 119 = 11 := by decide +kernel
theorem mx119 : xmaxL 119 = 4 := by decide +kernel
set_option maxRecDepth 20000 in
theorem rt119 : xret 119 = (some FieldType.int) := rfl
theorem st119 : xstat 119 = false := by decide +kernel
theorem na119 : 2 = xnarg 119 := by decide +kernel
theorem cn119 : (xcl 11).1 = (xname 119).cls := by decide +kernel
theorem ky120 : xkey 120 = 11 := by decide +kernel
theorem mx120 : xmaxL 120 = 3 := by decide +kernel
set_option maxRecDepth 20000 in
theorem rt120 : xret 120 = (some FieldType.int) := rfl
theorem st120 : xstat 120 = false := by decide +kernel
theorem na120 : 2 = xnarg 120 := by decide +kernel
theorem cn120 : (xcl 11).1 = (xname 120).cls := by decide +kernel
theorem ky121 : xkey 121 = 11 := by decide +kernel
theorem mx121 : xmaxL 121 = 6 := by decide +kernel
set_option maxRecDepth 20000 in
theorem rt121 : xret 121 = (some FieldType.int) := rfl
theorem st121 : xstat 121 = false := by decide +kernel
theorem na121 : 2 = xnarg 121 := by decide +kernel
theorem cn121 : (xcl 11).1 = (xname 121).cls := by decide +kernel
theorem ky122 : xkey 122 = 11 := by decide +kernel
theorem mx122 : xmaxL 122 = 5 := by decide +kernel
set_option maxRecDepth 20000 in
theorem rt122 : xret 122 = (some FieldType.int) := rfl
theorem st122 : xstat 122 = false := by decide +kernel
theorem na122 : 1 = xnarg 122 := by decide +kernel
theorem cn122 : (xcl 11).1 = (xname 122).cls := by decide +kernel
theorem ky123 : xkey 123 = 11 := by decide +kernel
theorem mx123 : xmaxL 123 = 4 := by decide +kernel
set_option maxRecDepth 20000 in
theorem rt123 : xret 123 = (some FieldType.int) := rfl
theorem st123 : xstat 123 = false := by decide +kernel
theorem na123 : 1 = xnarg 123 := by decide +kernel
theorem cn123 : (xcl 11).1 = (xname 123).cls := by decide +kernel
theorem ky124 : xkey 124 = 11 := by decide +kernel
theorem mx124 : xmaxL 124 = 3 := by decide +kernel
set_option maxRecDepth 20000 in
theorem rt124 : xret 124 = (some FieldType.int) := rfl
theorem st124 : xstat 124 = false := by decide +kernel
theorem na124 : 1 = xnarg 124 := by decide +kernel
theorem cn124 : (xcl 11).1 = (xname 124).cls := by decide +kernel
theorem ky125 : xkey 125 = 11 := by decide +kernel
theorem mx125 : xmaxL 125 = 6 := by decide +kernel
set_option maxRecDepth 20000 in
theorem rt125 : xret 125 = (some FieldType.int) := rfl
theorem st125 : xstat 125 = false := by decide +kernel
theorem na125 : 2 = xnarg 125 := by decide +kernel
theorem cn125 : (xcl 11).1 = (xname 125).cls := by decide +kernel
theorem ky126 : xkey 126 = 11 := by decide +kernel
theorem mx126 : xmaxL 126 = 2 := by decide +kernel
set_option maxRecDepth 20000 in
theorem rt126 : xret 126 = (some FieldType.int) := rfl
theorem st126 : xstat 126 = false := by decide +kernel
theorem na126 : 1 = xnarg 126 := by decide +kernel
theorem cn126 : (xcl 11).1 = (xname 126).cls := by decide +kernel
theorem ky127 : xkey 127 = 11 := by decide +kernel
theorem mx127 : xmaxL 127 = 2 := by decide +kernel
set_option maxRecDepth 20000 in
theorem rt127 : xret 127 = (some FieldType.int) := rfl
theorem st127 : xstat 127 = false := by decide +kernel
theorem na127 : 1 = xnarg 127 := by decide +kernel
theorem cn127 : (xcl 11).1 = (xname 127).cls := by decide +kernel
theorem ky128 : xkey 128 = 11 := by decide +kernel
theorem mx128 : xmaxL 128 = 2 := by decide +kernel
set_option maxRecDepth 20000 in
theorem rt128 : xret 128 = (some FieldType.int) := rfl
theorem st128 : xstat 128 = false := by decide +kernel
theorem na128 : 1 = xnarg 128 := by decide +kernel
theorem cn128 : (xcl 11).1 = (xname 128).cls := by decide +kernel
theorem ky129 : xkey 129 = 11 := by decide +kernel
theorem mx129 : xmaxL 129 = 2 := by decide +kernel
set_option maxRecDepth 20000 in
theorem rt129 : xret 129 = (some FieldType.int) := rfl
theorem st129 : xstat 129 = false := by decide +kernel
theorem na129 : 1 = xnarg 129 := by decide +kernel
theorem cn129 : (xcl 11).1 = (xname 129).cls := by decide +kernel
theorem ky130 : xkey 130 = 11 := by decide +kernel
theorem mx130 : xmaxL 130 = 2 := by decide +kernel
set_option maxRecDepth 20000 in
theorem rt130 : xret 130 = (some (FieldType.object "BeanTrug$Rule")) := rfl
theorem st130 : xstat 130 = false := by decide +kernel
theorem na130 : 1 = xnarg 130 := by decide +kernel
theorem cn130 : (xcl 11).1 = (xname 130).cls := by decide +kernel
theorem ky131 : xkey 131 = 11 := by decide +kernel
theorem mx131 : xmaxL 131 = 1 := by decide +kernel
set_option maxRecDepth 20000 in
theorem rt131 : xret 131 = none := rfl
theorem st131 : xstat 131 = false := by decide +kernel
theorem na131 : 0 = xnarg 131 := by decide +kernel
theorem cn131 : (xcl 11).1 = (xname 131).cls := by decide +kernel
theorem ky132 : xkey 132 = 11 := by decide +kernel
theorem mx132 : xmaxL 132 = 2 := by decide +kernel
set_option maxRecDepth 20000 in
theorem rt132 : xret 132 = none := rfl
theorem st132 : xstat 132 = false := by decide +kernel
theorem na132 : 1 = xnarg 132 := by decide +kernel
theorem cn132 : (xcl 11).1 = (xname 132).cls := by decide +kernel
theorem ky133 : xkey 133 = 11 := by decide +kernel
theorem mx133 : xmaxL 133 = 5 := by decide +kernel
set_option maxRecDepth 20000 in
theorem rt133 : xret 133 = (some FieldType.boolean) := rfl
theorem st133 : xstat 133 = false := by decide +kernel
theorem na133 : 2 = xnarg 133 := by decide +kernel
theorem cn133 : (xcl 11).1 = (xname 133).cls := by decide +kernel
theorem ky134 : xkey 134 = 11 := by decide +kernel
theorem mx134 : xmaxL 134 = 10 := by decide +kernel
set_option maxRecDepth 20000 in
theorem rt134 : xret 134 = (some FieldType.int) := rfl
theorem st134 : xstat 134 = false := by decide +kernel
theorem na134 : 3 = xnarg 134 := by decide +kernel
theorem cn134 : (xcl 11).1 = (xname 134).cls := by decide +kernel
theorem ky135 : xkey 135 = 11 := by decide +kernel
theorem mx135 : xmaxL 135 = 3 := by decide +kernel
set_option maxRecDepth 20000 in
theorem rt135 : xret 135 = (some FieldType.boolean) := rfl
theorem st135 : xstat 135 = false := by decide +kernel
theorem na135 : 0 = xnarg 135 := by decide +kernel
theorem cn135 : (xcl 11).1 = (xname 135).cls := by decide +kernel
theorem ky136 : xkey 136 = 11 := by decide +kernel
theorem mx136 : xmaxL 136 = 3 := by decide +kernel
set_option maxRecDepth 20000 in
theorem rt136 : xret 136 = none := rfl
theorem st136 : xstat 136 = false := by decide +kernel
theorem na136 : 1 = xnarg 136 := by decide +kernel
theorem cn136 : (xcl 11).1 = (xname 136).cls := by decide +kernel
theorem ky137 : xkey 137 = 11 := by decide +kernel
theorem mx137 : xmaxL 137 = 6 := by decide +kernel
set_option maxRecDepth 20000 in
theorem rt137 : xret 137 = (some FieldType.int) := rfl
theorem st137 : xstat 137 = false := by decide +kernel
theorem na137 : 1 = xnarg 137 := by decide +kernel
theorem cn137 : (xcl 11).1 = (xname 137).cls := by decide +kernel
theorem ky138 : xkey 138 = 11 := by decide +kernel
theorem mx138 : xmaxL 138 = 7 := by decide +kernel
set_option maxRecDepth 20000 in
theorem rt138 : xret 138 = (some FieldType.int) := rfl
theorem st138 : xstat 138 = false := by decide +kernel
theorem na138 : 2 = xnarg 138 := by decide +kernel
theorem cn138 : (xcl 11).1 = (xname 138).cls := by decide +kernel
theorem ky139 : xkey 139 = 12 := by decide +kernel
theorem mx139 : xmaxL 139 = 6 := by decide +kernel
set_option maxRecDepth 20000 in
theorem rt139 : xret 139 = (some FieldType.boolean) := rfl
theorem st139 : xstat 139 = true := by decide +kernel
theorem na139 : 3 = xnarg 139 := by decide +kernel
theorem ky140 : xkey 140 = 12 := by decide +kernel
theorem mx140 : xmaxL 140 = 2 := by decide +kernel
set_option maxRecDepth 20000 in
theorem rt140 : xret 140 = (some FieldType.boolean) := rfl
theorem st140 : xstat 140 = true := by decide +kernel
theorem na140 : 2 = xnarg 140 := by decide +kernel
theorem ky141 : xkey 141 = 12 := by decide +kernel
theorem mx141 : xmaxL 141 = 3 := by decide +kernel
set_option maxRecDepth 20000 in
theorem rt141 : xret 141 = (some FieldType.int) := rfl
theorem st141 : xstat 141 = true := by decide +kernel
theorem na141 : 1 = xnarg 141 := by decide +kernel
theorem ky142 : xkey 142 = 12 := by decide +kernel
theorem mx142 : xmaxL 142 = 3 := by decide +kernel
set_option maxRecDepth 20000 in
theorem rt142 : xret 142 = none := rfl
theorem st142 : xstat 142 = false := by decide +kernel
theorem na142 : 1 = xnarg 142 := by decide +kernel
theorem cn142 : (xcl 12).1 = (xname 142).cls := by decide +kernel
theorem ky143 : xkey 143 = 12 := by decide +kernel
theorem mx143 : xmaxL 143 = 6 := by decide +kernel
set_option maxRecDepth 20000 in
theorem rt143 : xret 143 = (some FieldType.int) := rfl
theorem st143 : xstat 143 = false := by decide +kernel
theorem na143 : 5 = xnarg 143 := by decide +kernel
theorem cn143 : (xcl 12).1 = (xname 143).cls := by decide +kernel
theorem ky144 : xkey 144 = 12 := by decide +kernel
theorem mx144 : xmaxL 144 = 2 := by decide +kernel
set_option maxRecDepth 20000 in
theorem rt144 : xret 144 = (some FieldType.int) := rfl
theorem st144 : xstat 144 = false := by decide +kernel
theorem na144 : 1 = xnarg 144 := by decide +kernel
theorem cn144 : (xcl 12).1 = (xname 144).cls := by decide +kernel
theorem ky145 : xkey 145 = 12 := by decide +kernel
theorem mx145 : xmaxL 145 = 3 := by decide +kernel
set_option maxRecDepth 20000 in
theorem rt145 : xret 145 = (some FieldType.boolean) := rfl
theorem st145 : xstat 145 = false := by decide +kernel
theorem na145 : 2 = xnarg 145 := by decide +kernel
theorem cn145 : (xcl 12).1 = (xname 145).cls := by decide +kernel
theorem ky146 : xkey 146 = 12 := by decide +kernel
theorem mx146 : xmaxL 146 = 1 := by decide +kernel
set_option maxRecDepth 20000 in
theorem rt146 : xret 146 = (some FieldType.int) := rfl
theorem st146 : xstat 146 = false := by decide +kernel
theorem na146 : 0 = xnarg 146 := by decide +kernel
theorem cn146 : (xcl 12).1 = (xname 146).cls := by decide +kernel
theorem ky147 : xkey 147 = 12 := by decide +kernel
theorem mx147 : xmaxL 147 = 2 := by decide +kernel
set_option maxRecDepth 20000 in
theorem rt147 : xret 147 = (some FieldType.boolean) := rfl
theorem st147 : xstat 147 = false := by decide +kernel
theorem na147 : 1 = xnarg 147 := by decide +kernel
theorem cn147 : (xcl 12).1 = (xname 147).cls := by decide +kernel
theorem ky148 : xkey 148 = 12 := by decide +kernel
theorem mx148 : xmaxL 148 = 2 := by decide +kernel
set_option maxRecDepth 20000 in
theorem rt148 : xret 148 = (some FieldType.boolean) := rfl
theorem st148 : xstat 148 = false := by decide +kernel
theorem na148 : 1 = xnarg 148 := by decide +kernel
theorem cn148 : (xcl 12).1 = (xname 148).cls := by decide +kernel
theorem ky149 : xkey 149 = 12 := by decide +kernel
theorem mx149 : xmaxL 149 = 6 := by decide +kernel
set_option maxRecDepth 20000 in
theorem rt149 : xret 149 = (some FieldType.boolean) := rfl
theorem st149 : xstat 149 = false := by decide +kernel
theorem na149 : 1 = xnarg 149 := by decide +kernel
theorem cn149 : (xcl 12).1 = (xname 149).cls := by decide +kernel
theorem ky150 : xkey 150 = 12 := by decide +kernel
theorem mx150 : xmaxL 150 = 1 := by decide +kernel
set_option maxRecDepth 20000 in
theorem rt150 : xret 150 = none := rfl
theorem st150 : xstat 150 = false := by decide +kernel
theorem na150 : 0 = xnarg 150 := by decide +kernel
theorem cn150 : (xcl 12).1 = (xname 150).cls := by decide +kernel
theorem ky151 : xkey 151 = 12 := by decide +kernel
theorem mx151 : xmaxL 151 = 3 := by decide +kernel
set_option maxRecDepth 20000 in
theorem rt151 : xret 151 = (some FieldType.boolean) := rfl
theorem st151 : xstat 151 = false := by decide +kernel
theorem na151 : 1 = xnarg 151 := by decide +kernel
theorem cn151 : (xcl 12).1 = (xname 151).cls := by decide +kernel
theorem ky152 : xkey 152 = 12 := by decide +kernel
theorem mx152 : xmaxL 152 = 5 := by decide +kernel
set_option maxRecDepth 20000 in
theorem rt152 : xret 152 = (some FieldType.boolean) := rfl
theorem st152 : xstat 152 = false := by decide +kernel
theorem na152 : 2 = xnarg 152 := by decide +kernel
theorem cn152 : (xcl 12).1 = (xname 152).cls := by decide +kernel
theorem ky153 : xkey 153 = 12 := by decide +kernel
theorem mx153 : xmaxL 153 = 1 := by decide +kernel
set_option maxRecDepth 20000 in
theorem rt153 : xret 153 = (some FieldType.int) := rfl
theorem st153 : xstat 153 = false := by decide +kernel
theorem na153 : 0 = xnarg 153 := by decide +kernel
theorem cn153 : (xcl 12).1 = (xname 153).cls := by decide +kernel
theorem ky154 : xkey 154 = 12 := by decide +kernel
theorem mx154 : xmaxL 154 = 3 := by decide +kernel
set_option maxRecDepth 20000 in
theorem rt154 : xret 154 = none := rfl
theorem st154 : xstat 154 = false := by decide +kernel
theorem na154 : 2 = xnarg 154 := by decide +kernel
theorem cn154 : (xcl 12).1 = (xname 154).cls := by decide +kernel
theorem ky155 : xkey 155 = 12 := by decide +kernel
theorem mx155 : xmaxL 155 = 2 := by decide +kernel
set_option maxRecDepth 20000 in
theorem rt155 : xret 155 = (some FieldType.boolean) := rfl
theorem st155 : xstat 155 = false := by decide +kernel
theorem na155 : 1 = xnarg 155 := by decide +kernel
theorem cn155 : (xcl 12).1 = (xname 155).cls := by decide +kernel
theorem ky156 : xkey 156 = 12 := by decide +kernel
theorem mx156 : xmaxL 156 = 2 := by decide +kernel
set_option maxRecDepth 20000 in
theorem rt156 : xret 156 = (some FieldType.boolean) := rfl
theorem st156 : xstat 156 = false := by decide +kernel
theorem na156 : 1 = xnarg 156 := by decide +kernel
theorem cn156 : (xcl 12).1 = (xname 156).cls := by decide +kernel
theorem ky157 : xkey 157 = 12 := by decide +kernel
theorem mx157 : xmaxL 157 = 1 := by decide +kernel
set_option maxRecDepth 20000 in
theorem rt157 : xret 157 = (some FieldType.int) := rfl
theorem st157 : xstat 157 = true := by decide +kernel
theorem na157 : 1 = xnarg 157 := by decide +kernel
theorem ky158 : xkey 158 = 12 := by decide +kernel
theorem mx158 : xmaxL 158 = 2 := by decide +kernel
set_option maxRecDepth 20000 in
theorem rt158 : xret 158 = none := rfl
theorem st158 : xstat 158 = false := by decide +kernel
theorem na158 : 1 = xnarg 158 := by decide +kernel
theorem cn158 : (xcl 12).1 = (xname 158).cls := by decide +kernel
theorem ky159 : xkey 159 = 12 := by decide +kernel
theorem mx159 : xmaxL 159 = 3 := by decide +kernel
set_option maxRecDepth 20000 in
theorem rt159 : xret 159 = (some FieldType.boolean) := rfl
theorem st159 : xstat 159 = false := by decide +kernel
theorem na159 : 0 = xnarg 159 := by decide +kernel
theorem cn159 : (xcl 12).1 = (xname 159).cls := by decide +kernel
theorem ky160 : xkey 160 = 12 := by decide +kernel
theorem mx160 : xmaxL 160 = 2 := by decide +kernel
set_option maxRecDepth 20000 in
theorem rt160 : xret 160 = (some FieldType.boolean) := rfl
theorem st160 : xstat 160 = false := by decide +kernel
theorem na160 : 0 = xnarg 160 := by decide +kernel
theorem cn160 : (xcl 12).1 = (xname 160).cls := by decide +kernel
theorem ky161 : xkey 161 = 12 := by decide +kernel
theorem mx161 : xmaxL 161 = 2 := by decide +kernel
set_option maxRecDepth 20000 in
theorem rt161 : xret 161 = (some FieldType.boolean) := rfl
theorem st161 : xstat 161 = false := by decide +kernel
theorem na161 : 0 = xnarg 161 := by decide +kernel
theorem cn161 : (xcl 12).1 = (xname 161).cls := by decide +kernel
theorem ky162 : xkey 162 = 12 := by decide +kernel
theorem mx162 : xmaxL 162 = 5 := by decide +kernel
set_option maxRecDepth 20000 in
theorem rt162 : xret 162 = (some FieldType.boolean) := rfl
theorem st162 : xstat 162 = false := by decide +kernel
theorem na162 : 0 = xnarg 162 := by decide +kernel
theorem cn162 : (xcl 12).1 = (xname 162).cls := by decide +kernel
theorem ky163 : xkey 163 = 12 := by decide +kernel
theorem mx163 : xmaxL 163 = 3 := by decide +kernel
set_option maxRecDepth 20000 in
theorem rt163 : xret 163 = (some FieldType.boolean) := rfl
theorem st163 : xstat 163 = false := by decide +kernel
theorem na163 : 0 = xnarg 163 := by decide +kernel
theorem cn163 : (xcl 12).1 = (xname 163).cls := by decide +kernel
theorem ky164 : xkey 164 = 12 := by decide +kernel
theorem mx164 : xmaxL 164 = 2 := by decide +kernel
set_option maxRecDepth 20000 in
theorem rt164 : xret 164 = (some FieldType.boolean) := rfl
theorem st164 : xstat 164 = false := by decide +kernel
theorem na164 : 0 = xnarg 164 := by decide +kernel
theorem cn164 : (xcl 12).1 = (xname 164).cls := by decide +kernel
theorem ky165 : xkey 165 = 12 := by decide +kernel
theorem mx165 : xmaxL 165 = 1 := by decide +kernel
set_option maxRecDepth 20000 in
theorem rt165 : xret 165 = none := rfl
theorem st165 : xstat 165 = false := by decide +kernel
theorem na165 : 0 = xnarg 165 := by decide +kernel
theorem cn165 : (xcl 12).1 = (xname 165).cls := by decide +kernel
theorem ky166 : xkey 166 = 12 := by decide +kernel
theorem mx166 : xmaxL 166 = 3 := by decide +kernel
set_option maxRecDepth 20000 in
theorem rt166 : xret 166 = (some FieldType.boolean) := rfl
theorem st166 : xstat 166 = false := by decide +kernel
theorem na166 : 0 = xnarg 166 := by decide +kernel
theorem cn166 : (xcl 12).1 = (xname 166).cls := by decide +kernel
theorem ky167 : xkey 167 = 12 := by decide +kernel
theorem mx167 : xmaxL 167 = 2 := by decide +kernel
set_option maxRecDepth 20000 in
theorem rt167 : xret 167 = (some FieldType.boolean) := rfl
theorem st167 : xstat 167 = false := by decide +kernel
theorem na167 : 0 = xnarg 167 := by decide +kernel
theorem cn167 : (xcl 12).1 = (xname 167).cls := by decide +kernel
theorem ky168 : xkey 168 = 12 := by decide +kernel
theorem mx168 : xmaxL 168 = 4 := by decide +kernel
set_option maxRecDepth 20000 in
theorem rt168 : xret 168 = (some FieldType.boolean) := rfl
theorem st168 : xstat 168 = false := by decide +kernel
theorem na168 : 3 = xnarg 168 := by decide +kernel
theorem cn168 : (xcl 12).1 = (xname 168).cls := by decide +kernel
theorem ky169 : xkey 169 = 12 := by decide +kernel
theorem mx169 : xmaxL 169 = 2 := by decide +kernel
set_option maxRecDepth 20000 in
theorem rt169 : xret 169 = (some FieldType.boolean) := rfl
theorem st169 : xstat 169 = false := by decide +kernel
theorem na169 : 1 = xnarg 169 := by decide +kernel
theorem cn169 : (xcl 12).1 = (xname 169).cls := by decide +kernel
theorem ky170 : xkey 170 = 12 := by decide +kernel
theorem mx170 : xmaxL 170 = 3 := by decide +kernel
set_option maxRecDepth 20000 in
theorem rt170 : xret 170 = (some FieldType.boolean) := rfl
theorem st170 : xstat 170 = false := by decide +kernel
theorem na170 : 1 = xnarg 170 := by decide +kernel
theorem cn170 : (xcl 12).1 = (xname 170).cls := by decide +kernel
theorem ky171 : xkey 171 = 12 := by decide +kernel
theorem mx171 : xmaxL 171 = 3 := by decide +kernel
set_option maxRecDepth 20000 in
theorem rt171 : xret 171 = (some FieldType.boolean) := rfl
theorem st171 : xstat 171 = false := by decide +kernel
theorem na171 : 0 = xnarg 171 := by decide +kernel
theorem cn171 : (xcl 12).1 = (xname 171).cls := by decide +kernel
theorem ky172 : xkey 172 = 12 := by decide +kernel
theorem mx172 : xmaxL 172 = 2 := by decide +kernel
set_option maxRecDepth 20000 in
theorem rt172 : xret 172 = (some FieldType.boolean) := rfl
theorem st172 : xstat 172 = false := by decide +kernel
theorem na172 : 1 = xnarg 172 := by decide +kernel
theorem cn172 : (xcl 12).1 = (xname 172).cls := by decide +kernel
theorem ky173 : xkey 173 = 12 := by decide +kernel
theorem mx173 : xmaxL 173 = 2 := by decide +kernel
set_option maxRecDepth 20000 in
theorem rt173 : xret 173 = (some FieldType.boolean) := rfl
theorem st173 : xstat 173 = false := by decide +kernel
theorem na173 : 1 = xnarg 173 := by decide +kernel
theorem cn173 : (xcl 12).1 = (xname 173).cls := by decide +kernel
theorem ky174 : xkey 174 = 12 := by decide +kernel
theorem mx174 : xmaxL 174 = 1 := by decide +kernel
set_option maxRecDepth 20000 in
theorem rt174 : xret 174 = (some FieldType.boolean) := rfl
theorem st174 : xstat 174 = false := by decide +kernel
theorem na174 : 0 = xnarg 174 := by decide +kernel
theorem cn174 : (xcl 12).1 = (xname 174).cls := by decide +kernel
theorem ky175 : xkey 175 = 12 := by decide +kernel
theorem mx175 : xmaxL 175 = 3 := by decide +kernel
set_option maxRecDepth 20000 in
theorem rt175 : xret 175 = (some FieldType.boolean) := rfl
theorem st175 : xstat 175 = false := by decide +kernel
theorem na175 : 0 = xnarg 175 := by decide +kernel
theorem cn175 : (xcl 12).1 = (xname 175).cls := by decide +kernel
theorem ky176 : xkey 176 = 12 := by decide +kernel
theorem mx176 : xmaxL 176 = 2 := by decide +kernel
set_option maxRecDepth 20000 in
theorem rt176 : xret 176 = (some FieldType.boolean) := rfl
theorem st176 : xstat 176 = false := by decide +kernel
theorem na176 : 0 = xnarg 176 := by decide +kernel
theorem cn176 : (xcl 12).1 = (xname 176).cls := by decide +kernel
theorem ky177 : xkey 177 = 12 := by decide +kernel
theorem mx177 : xmaxL 177 = 1 := by decide +kernel
set_option maxRecDepth 20000 in
theorem rt177 : xret 177 = (some FieldType.int) := rfl
theorem st177 : xstat 177 = false := by decide +kernel
theorem na177 : 0 = xnarg 177 := by decide +kernel
theorem cn177 : (xcl 12).1 = (xname 177).cls := by decide +kernel
theorem ky178 : xkey 178 = 12 := by decide +kernel
theorem mx178 : xmaxL 178 = 2 := by decide +kernel
set_option maxRecDepth 20000 in
theorem rt178 : xret 178 = (some FieldType.int) := rfl
theorem st178 : xstat 178 = false := by decide +kernel
theorem na178 : 0 = xnarg 178 := by decide +kernel
theorem cn178 : (xcl 12).1 = (xname 178).cls := by decide +kernel
theorem ky179 : xkey 179 = 12 := by decide +kernel
theorem mx179 : xmaxL 179 = 2 := by decide +kernel
set_option maxRecDepth 20000 in
theorem rt179 : xret 179 = (some FieldType.boolean) := rfl
theorem st179 : xstat 179 = false := by decide +kernel
theorem na179 : 1 = xnarg 179 := by decide +kernel
theorem cn179 : (xcl 12).1 = (xname 179).cls := by decide +kernel
theorem ky180 : xkey 180 = 12 := by decide +kernel
theorem mx180 : xmaxL 180 = 3 := by decide +kernel
set_option maxRecDepth 20000 in
theorem rt180 : xret 180 = none := rfl
theorem st180 : xstat 180 = false := by decide +kernel
theorem na180 : 1 = xnarg 180 := by decide +kernel
theorem cn180 : (xcl 12).1 = (xname 180).cls := by decide +kernel
theorem ky181 : xkey 181 = 12 := by decide +kernel
theorem mx181 : xmaxL 181 = 1 := by decide +kernel
set_option maxRecDepth 20000 in
theorem rt181 : xret 181 = (some FieldType.long) := rfl
theorem st181 : xstat 181 = false := by decide +kernel
theorem na181 : 0 = xnarg 181 := by decide +kernel
theorem cn181 : (xcl 12).1 = (xname 181).cls := by decide +kernel
theorem ky182 : xkey 182 = 12 := by decide +kernel
theorem mx182 : xmaxL 182 = 5 := by decide +kernel
set_option maxRecDepth 20000 in
theorem rt182 : xret 182 = (some FieldType.long) := rfl
theorem st182 : xstat 182 = true := by decide +kernel
theorem na182 : 3 = xnarg 182 := by decide +kernel
theorem ky183 : xkey 183 = 12 := by decide +kernel
theorem mx183 : xmaxL 183 = 11 := by decide +kernel
set_option maxRecDepth 20000 in
theorem rt183 : xret 183 = (some FieldType.long) := rfl
theorem st183 : xstat 183 = false := by decide +kernel
theorem na183 : 3 = xnarg 183 := by decide +kernel
theorem cn183 : (xcl 12).1 = (xname 183).cls := by decide +kernel
theorem ky184 : xkey 184 = 12 := by decide +kernel
theorem mx184 : xmaxL 184 = 1 := by decide +kernel
set_option maxRecDepth 20000 in
theorem rt184 : xret 184 = (some FieldType.boolean) := rfl
theorem st184 : xstat 184 = false := by decide +kernel
theorem na184 : 0 = xnarg 184 := by decide +kernel
theorem cn184 : (xcl 12).1 = (xname 184).cls := by decide +kernel
theorem ky185 : xkey 185 = 12 := by decide +kernel
theorem mx185 : xmaxL 185 = 2 := by decide +kernel
set_option maxRecDepth 20000 in
theorem rt185 : xret 185 = (some FieldType.boolean) := rfl
theorem st185 : xstat 185 = false := by decide +kernel
theorem na185 : 1 = xnarg 185 := by decide +kernel
theorem cn185 : (xcl 12).1 = (xname 185).cls := by decide +kernel
theorem ky186 : xkey 186 = 12 := by decide +kernel
theorem mx186 : xmaxL 186 = 2 := by decide +kernel
set_option maxRecDepth 20000 in
theorem rt186 : xret 186 = (some FieldType.boolean) := rfl
theorem st186 : xstat 186 = false := by decide +kernel
theorem na186 : 1 = xnarg 186 := by decide +kernel
theorem cn186 : (xcl 12).1 = (xname 186).cls := by decide +kernel
theorem ky187 : xkey 187 = 12 := by decide +kernel
theorem mx187 : xmaxL 187 = 3 := by decide +kernel
set_option maxRecDepth 20000 in
theorem rt187 : xret 187 = (some FieldType.int) := rfl
theorem st187 : xstat 187 = false := by decide +kernel
theorem na187 : 0 = xnarg 187 := by decide +kernel
theorem cn187 : (xcl 12).1 = (xname 187).cls := by decide +kernel
theorem ky188 : xkey 188 = 12 := by decide +kernel
theorem mx188 : xmaxL 188 = 2 := by decide +kernel
set_option maxRecDepth 20000 in
theorem rt188 : xret 188 = (some FieldType.boolean) := rfl
theorem st188 : xstat 188 = false := by decide +kernel
theorem na188 : 1 = xnarg 188 := by decide +kernel
theorem cn188 : (xcl 12).1 = (xname 188).cls := by decide +kernel
theorem ky189 : xkey 189 = 12 := by decide +kernel
theorem mx189 : xmaxL 189 = 3 := by decide +kernel
set_option maxRecDepth 20000 in
theorem rt189 : xret 189 = (some FieldType.int) := rfl
theorem st189 : xstat 189 = false := by decide +kernel
theorem na189 : 0 = xnarg 189 := by decide +kernel
theorem cn189 : (xcl 12).1 = (xname 189).cls := by decide +kernel
theorem ky190 : xkey 190 = 12 := by decide +kernel
theorem mx190 : xmaxL 190 = 5 := by decide +kernel
set_option maxRecDepth 20000 in
theorem rt190 : xret 190 = (some FieldType.int) := rfl
theorem st190 : xstat 190 = false := by decide +kernel
theorem na190 : 2 = xnarg 190 := by decide +kernel
theorem cn190 : (xcl 12).1 = (xname 190).cls := by decide +kernel
theorem ky191 : xkey 191 = 12 := by decide +kernel
theorem mx191 : xmaxL 191 = 3 := by decide +kernel
set_option maxRecDepth 20000 in
theorem rt191 : xret 191 = (some FieldType.int) := rfl
theorem st191 : xstat 191 = false := by decide +kernel
theorem na191 : 0 = xnarg 191 := by decide +kernel
theorem cn191 : (xcl 12).1 = (xname 191).cls := by decide +kernel
theorem ky192 : xkey 192 = 12 := by decide +kernel
theorem mx192 : xmaxL 192 = 1 := by decide +kernel
set_option maxRecDepth 20000 in
theorem rt192 : xret 192 = (some FieldType.int) := rfl
theorem st192 : xstat 192 = false := by decide +kernel
theorem na192 : 0 = xnarg 192 := by decide +kernel
theorem cn192 : (xcl 12).1 = (xname 192).cls := by decide +kernel
theorem ky193 : xkey 193 = 12 := by decide +kernel
theorem mx193 : xmaxL 193 = 1 := by decide +kernel
set_option maxRecDepth 20000 in
theorem rt193 : xret 193 = (some FieldType.int) := rfl
theorem st193 : xstat 193 = false := by decide +kernel
theorem na193 : 0 = xnarg 193 := by decide +kernel
theorem cn193 : (xcl 12).1 = (xname 193).cls := by decide +kernel
theorem ky194 : xkey 194 = 12 := by decide +kernel
theorem mx194 : xmaxL 194 = 2 := by decide +kernel
set_option maxRecDepth 20000 in
theorem rt194 : xret 194 = none := rfl
theorem st194 : xstat 194 = false := by decide +kernel
theorem na194 : 0 = xnarg 194 := by decide +kernel
theorem cn194 : (xcl 12).1 = (xname 194).cls := by decide +kernel
theorem ky195 : xkey 195 = 12 := by decide +kernel
theorem mx195 : xmaxL 195 = 3 := by decide +kernel
set_option maxRecDepth 20000 in
theorem rt195 : xret 195 = (some FieldType.int) := rfl
theorem st195 : xstat 195 = false := by decide +kernel
theorem na195 : 1 = xnarg 195 := by decide +kernel
theorem cn195 : (xcl 12).1 = (xname 195).cls := by decide +kernel
theorem ky196 : xkey 196 = 12 := by decide +kernel
theorem mx196 : xmaxL 196 = 3 := by decide +kernel
set_option maxRecDepth 20000 in
theorem rt196 : xret 196 = (some FieldType.int) := rfl
theorem st196 : xstat 196 = false := by decide +kernel
theorem na196 : 2 = xnarg 196 := by decide +kernel
theorem cn196 : (xcl 12).1 = (xname 196).cls := by decide +kernel
theorem ky197 : xkey 197 = 12 := by decide +kernel
theorem mx197 : xmaxL 197 = 2 := by decide +kernel
set_option maxRecDepth 20000 in
theorem rt197 : xret 197 = (some FieldType.int) := rfl
theorem st197 : xstat 197 = false := by decide +kernel
theorem na197 : 1 = xnarg 197 := by decide +kernel
theorem cn197 : (xcl 12).1 = (xname 197).cls := by decide +kernel
theorem ky198 : xkey 198 = 12 := by decide +kernel
theorem mx198 : xmaxL 198 = 4 := by decide +kernel
set_option maxRecDepth 20000 in
theorem rt198 : xret 198 = (some FieldType.long) := rfl
theorem st198 : xstat 198 = false := by decide +kernel
theorem na198 : 1 = xnarg 198 := by decide +kernel
theorem cn198 : (xcl 12).1 = (xname 198).cls := by decide +kernel
theorem ky199 : xkey 199 = 12 := by decide +kernel
theorem mx199 : xmaxL 199 = 4 := by decide +kernel
set_option maxRecDepth 20000 in
theorem rt199 : xret 199 = (some FieldType.long) := rfl
theorem st199 : xstat 199 = false := by decide +kernel
theorem na199 : 1 = xnarg 199 := by decide +kernel
theorem cn199 : (xcl 12).1 = (xname 199).cls := by decide +kernel
theorem ky200 : xkey 200 = 12 := by decide +kernel
theorem mx200 : xmaxL 200 = 7 := by decide +kernel
set_option maxRecDepth 20000 in
theorem rt200 : xret 200 = (some FieldType.int) := rfl
theorem st200 : xstat 200 = false := by decide +kernel
theorem na200 : 0 = xnarg 200 := by decide +kernel
theorem cn200 : (xcl 12).1 = (xname 200).cls := by decide +kernel
theorem ky201 : xkey 201 = 12 := by decide +kernel
theorem mx201 : xmaxL 201 = 3 := by decide +kernel
set_option maxRecDepth 20000 in
theorem rt201 : xret 201 = none := rfl
theorem st201 : xstat 201 = false := by decide +kernel
theorem na201 : 1 = xnarg 201 := by decide +kernel
theorem cn201 : (xcl 12).1 = (xname 201).cls := by decide +kernel
theorem ky202 : xkey 202 = 12 := by decide +kernel
theorem mx202 : xmaxL 202 = 2 := by decide +kernel
set_option maxRecDepth 20000 in
theorem rt202 : xret 202 = none := rfl
theorem st202 : xstat 202 = false := by decide +kernel
theorem na202 : 1 = xnarg 202 := by decide +kernel
theorem cn202 : (xcl 12).1 = (xname 202).cls := by decide +kernel
theorem ky203 : xkey 203 = 12 := by decide +kernel
theorem mx203 : xmaxL 203 = 2 := by decide +kernel
set_option maxRecDepth 20000 in
theorem rt203 : xret 203 = (some FieldType.int) := rfl
theorem st203 : xstat 203 = false := by decide +kernel
theorem na203 : 0 = xnarg 203 := by decide +kernel
theorem cn203 : (xcl 12).1 = (xname 203).cls := by decide +kernel
theorem ky204 : xkey 204 = 12 := by decide +kernel
theorem mx204 : xmaxL 204 = 3 := by decide +kernel
set_option maxRecDepth 20000 in
theorem rt204 : xret 204 = none := rfl
theorem st204 : xstat 204 = false := by decide +kernel
theorem na204 : 1 = xnarg 204 := by decide +kernel
theorem cn204 : (xcl 12).1 = (xname 204).cls := by decide +kernel
theorem ky205 : xkey 205 = 12 := by decide +kernel
theorem mx205 : xmaxL 205 = 2 := by decide +kernel
set_option maxRecDepth 20000 in
theorem rt205 : xret 205 = none := rfl
theorem st205 : xstat 205 = false := by decide +kernel
theorem na205 : 0 = xnarg 205 := by decide +kernel
theorem cn205 : (xcl 12).1 = (xname 205).cls := by decide +kernel
theorem ky206 : xkey 206 = 12 := by decide +kernel
theorem mx206 : xmaxL 206 = 2 := by decide +kernel
set_option maxRecDepth 20000 in
theorem rt206 : xret 206 = (some FieldType.int) := rfl
theorem st206 : xstat 206 = false := by decide +kernel
theorem na206 : 0 = xnarg 206 := by decide +kernel
theorem cn206 : (xcl 12).1 = (xname 206).cls := by decide +kernel
theorem ky207 : xkey 207 = 12 := by decide +kernel
theorem mx207 : xmaxL 207 = 2 := by decide +kernel
set_option maxRecDepth 20000 in
theorem rt207 : xret 207 = (some FieldType.int) := rfl
theorem st207 : xstat 207 = false := by decide +kernel
theorem na207 : 0 = xnarg 207 := by decide +kernel
theorem cn207 : (xcl 12).1 = (xname 207).cls := by decide +kernel
theorem ky208 : xkey 208 = 12 := by decide +kernel
theorem mx208 : xmaxL 208 = 2 := by decide +kernel
set_option maxRecDepth 20000 in
theorem rt208 : xret 208 = (some FieldType.int) := rfl
theorem st208 : xstat 208 = false := by decide +kernel
theorem na208 : 1 = xnarg 208 := by decide +kernel
theorem cn208 : (xcl 12).1 = (xname 208).cls := by decide +kernel
theorem ky209 : xkey 209 = 12 := by decide +kernel
theorem mx209 : xmaxL 209 = 2 := by decide +kernel
set_option maxRecDepth 20000 in
theorem rt209 : xret 209 = (some FieldType.int) := rfl
theorem st209 : xstat 209 = false := by decide +kernel
theorem na209 : 1 = xnarg 209 := by decide +kernel
theorem cn209 : (xcl 12).1 = (xname 209).cls := by decide +kernel
theorem ky210 : xkey 210 = 12 := by decide +kernel
theorem mx210 : xmaxL 210 = 3 := by decide +kernel
set_option maxRecDepth 20000 in
theorem rt210 : xret 210 = (some FieldType.int) := rfl
theorem st210 : xstat 210 = false := by decide +kernel
theorem na210 : 2 = xnarg 210 := by decide +kernel
theorem cn210 : (xcl 12).1 = (xname 210).cls := by decide +kernel
theorem ky211 : xkey 211 = 12 := by decide +kernel
theorem mx211 : xmaxL 211 = 4 := by decide +kernel
set_option maxRecDepth 20000 in
theorem rt211 : xret 211 = (some FieldType.int) := rfl
theorem st211 : xstat 211 = false := by decide +kernel
theorem na211 : 2 = xnarg 211 := by decide +kernel
theorem cn211 : (xcl 12).1 = (xname 211).cls := by decide +kernel
theorem ky212 : xkey 212 = 12 := by decide +kernel
theorem mx212 : xmaxL 212 = 2 := by decide +kernel
set_option maxRecDepth 20000 in
theorem rt212 : xret 212 = none := rfl
theorem st212 : xstat 212 = false := by decide +kernel
theorem na212 : 0 = xnarg 212 := by decide +kernel
theorem cn212 : (xcl 12).1 = (xname 212).cls := by decide +kernel
theorem ky213 : xkey 213 = 12 := by decide +kernel
theorem mx213 : xmaxL 213 = 2 := by decide +kernel
set_option maxRecDepth 20000 in
theorem rt213 : xret 213 = none := rfl
theorem st213 : xstat 213 = false := by decide +kernel
theorem na213 : 0 = xnarg 213 := by decide +kernel
theorem cn213 : (xcl 12).1 = (xname 213).cls := by decide +kernel
theorem ky214 : xkey 214 = 12 := by decide +kernel
theorem mx214 : xmaxL 214 = 4 := by decide +kernel
set_option maxRecDepth 20000 in
theorem rt214 : xret 214 = (some FieldType.int) := rfl
theorem st214 : xstat 214 = false := by decide +kernel
theorem na214 : 2 = xnarg 214 := by decide +kernel
theorem cn214 : (xcl 12).1 = (xname 214).cls := by decide +kernel
theorem ky215 : xkey 215 = 12 := by decide +kernel
theorem mx215 : xmaxL 215 = 5 := by decide +kernel
set_option maxRecDepth 20000 in
theorem rt215 : xret 215 = (some FieldType.int) := rfl
theorem st215 : xstat 215 = false := by decide +kernel
theorem na215 : 2 = xnarg 215 := by decide +kernel
theorem cn215 : (xcl 12).1 = (xname 215).cls := by decide +kernel
theorem ky216 : xkey 216 = 12 := by decide +kernel
theorem mx216 : xmaxL 216 = 7 := by decide +kernel
set_option maxRecDepth 20000 in
theorem rt216 : xret 216 = (some FieldType.int) := rfl
theorem st216 : xstat 216 = false := by decide +kernel
theorem na216 : 1 = xnarg 216 := by decide +kernel
theorem cn216 : (xcl 12).1 = (xname 216).cls := by decide +kernel
theorem ky217 : xkey 217 = 12 := by decide +kernel
theorem mx217 : xmaxL 217 = 3 := by decide +kernel
set_option maxRecDepth 20000 in
theorem rt217 : xret 217 = (some FieldType.boolean) := rfl
theorem st217 : xstat 217 = false := by decide +kernel
theorem na217 : 1 = xnarg 217 := by decide +kernel
theorem cn217 : (xcl 12).1 = (xname 217).cls := by decide +kernel
theorem ky218 : xkey 218 = 12 := by decide +kernel
theorem mx218 : xmaxL 218 = 5 := by decide +kernel
set_option maxRecDepth 20000 in
theorem rt218 : xret 218 = (some FieldType.int) := rfl
theorem st218 : xstat 218 = false := by decide +kernel
theorem na218 : 2 = xnarg 218 := by decide +kernel
theorem cn218 : (xcl 12).1 = (xname 218).cls := by decide +kernel
theorem ky219 : xkey 219 = 12 := by decide +kernel
theorem mx219 : xmaxL 219 = 5 := by decide +kernel
set_option maxRecDepth 20000 in
theorem rt219 : xret 219 = none := rfl
theorem st219 : xstat 219 = false := by decide +kernel
theorem na219 : 1 = xnarg 219 := by decide +kernel
theorem cn219 : (xcl 12).1 = (xname 219).cls := by decide +kernel
theorem ky220 : xkey 220 = 12 := by decide +kernel
theorem mx220 : xmaxL 220 = 2 := by decide +kernel
set_option maxRecDepth 20000 in
theorem rt220 : xret 220 = none := rfl
theorem st220 : xstat 220 = false := by decide +kernel
theorem na220 : 0 = xnarg 220 := by decide +kernel
theorem cn220 : (xcl 12).1 = (xname 220).cls := by decide +kernel
theorem ky221 : xkey 221 = 12 := by decide +kernel
theorem mx221 : xmaxL 221 = 2 := by decide +kernel
set_option maxRecDepth 20000 in
theorem rt221 : xret 221 = (some FieldType.int) := rfl
theorem st221 : xstat 221 = false := by decide +kernel
theorem na221 : 1 = xnarg 221 := by decide +kernel
theorem cn221 : (xcl 12).1 = (xname 221).cls := by decide +kernel
theorem ky222 : xkey 222 = 12 := by decide +kernel
theorem mx222 : xmaxL 222 = 3 := by decide +kernel
set_option maxRecDepth 20000 in
theorem rt222 : xret 222 = (some FieldType.boolean) := rfl
theorem st222 : xstat 222 = false := by decide +kernel
theorem na222 : 1 = xnarg 222 := by decide +kernel
theorem cn222 : (xcl 12).1 = (xname 222).cls := by decide +kernel
theorem ky223 : xkey 223 = 12 := by decide +kernel
theorem mx223 : xmaxL 223 = 6 := by decide +kernel
set_option maxRecDepth 20000 in
theorem rt223 : xret 223 = (some FieldType.int) := rfl
theorem st223 : xstat 223 = false := by decide +kernel
theorem na223 : 1 = xnarg 223 := by decide +kernel
theorem cn223 : (xcl 12).1 = (xname 223).cls := by decide +kernel
theorem ky224 : xkey 224 = 12 := by decide +kernel
theorem mx224 : xmaxL 224 = 7 := by decide +kernel
set_option maxRecDepth 20000 in
theorem rt224 : xret 224 = (some FieldType.int) := rfl
theorem st224 : xstat 224 = false := by decide +kernel
theorem na224 : 1 = xnarg 224 := by decide +kernel
theorem cn224 : (xcl 12).1 = (xname 224).cls := by decide +kernel
theorem ky225 : xkey 225 = 12 := by decide +kernel
theorem mx225 : xmaxL 225 = 1 := by decide +kernel
set_option maxRecDepth 20000 in
theorem rt225 : xret 225 = (some FieldType.int) := rfl
theorem st225 : xstat 225 = false := by decide +kernel
theorem na225 : 0 = xnarg 225 := by decide +kernel
theorem cn225 : (xcl 12).1 = (xname 225).cls := by decide +kernel
theorem ky226 : xkey 226 = 12 := by decide +kernel
theorem mx226 : xmaxL 226 = 5 := by decide +kernel
set_option maxRecDepth 20000 in
theorem rt226 : xret 226 = (some FieldType.int) := rfl
theorem st226 : xstat 226 = false := by decide +kernel
theorem na226 : 1 = xnarg 226 := by decide +kernel
theorem cn226 : (xcl 12).1 = (xname 226).cls := by decide +kernel
theorem ky227 : xkey 227 = 12 := by decide +kernel
theorem mx227 : xmaxL 227 = 3 := by decide +kernel
set_option maxRecDepth 20000 in
theorem rt227 : xret 227 = (some FieldType.boolean) := rfl
theorem st227 : xstat 227 = false := by decide +kernel
theorem na227 : 1 = xnarg 227 := by decide +kernel
theorem cn227 : (xcl 12).1 = (xname 227).cls := by decide +kernel
theorem ky228 : xkey 228 = 12 := by decide +kernel
theorem mx228 : xmaxL 228 = 4 := by decide +kernel
set_option maxRecDepth 20000 in
theorem rt228 : xret 228 = (some FieldType.int) := rfl
theorem st228 : xstat 228 = false := by decide +kernel
theorem na228 : 1 = xnarg 228 := by decide +kernel
theorem cn228 : (xcl 12).1 = (xname 228).cls := by decide +kernel
theorem ky229 : xkey 229 = 12 := by decide +kernel
theorem mx229 : xmaxL 229 = 4 := by decide +kernel
set_option maxRecDepth 20000 in
theorem rt229 : xret 229 = (some FieldType.boolean) := rfl
theorem st229 : xstat 229 = false := by decide +kernel
theorem na229 : 1 = xnarg 229 := by decide +kernel
theorem cn229 : (xcl 12).1 = (xname 229).cls := by decide +kernel
theorem ky230 : xkey 230 = 12 := by decide +kernel
theorem mx230 : xmaxL 230 = 3 := by decide +kernel
set_option maxRecDepth 20000 in
theorem rt230 : xret 230 = (some FieldType.int) := rfl
theorem st230 : xstat 230 = false := by decide +kernel
theorem na230 : 0 = xnarg 230 := by decide +kernel
theorem cn230 : (xcl 12).1 = (xname 230).cls := by decide +kernel
theorem ky231 : xkey 231 = 12 := by decide +kernel
theorem mx231 : xmaxL 231 = 5 := by decide +kernel
set_option maxRecDepth 20000 in
theorem rt231 : xret 231 = (some FieldType.int) := rfl
theorem st231 : xstat 231 = false := by decide +kernel
theorem na231 : 0 = xnarg 231 := by decide +kernel
theorem cn231 : (xcl 12).1 = (xname 231).cls := by decide +kernel
theorem ky232 : xkey 232 = 12 := by decide +kernel
theorem mx232 : xmaxL 232 = 3 := by decide +kernel
set_option maxRecDepth 20000 in
theorem rt232 : xret 232 = (some FieldType.int) := rfl
theorem st232 : xstat 232 = false := by decide +kernel
theorem na232 : 1 = xnarg 232 := by decide +kernel
theorem cn232 : (xcl 12).1 = (xname 232).cls := by decide +kernel
theorem ky233 : xkey 233 = 12 := by decide +kernel
theorem mx233 : xmaxL 233 = 6 := by decide +kernel
set_option maxRecDepth 20000 in
theorem rt233 : xret 233 = (some FieldType.int) := rfl
theorem st233 : xstat 233 = false := by decide +kernel
theorem na233 : 1 = xnarg 233 := by decide +kernel
theorem cn233 : (xcl 12).1 = (xname 233).cls := by decide +kernel
theorem ky234 : xkey 234 = 12 := by decide +kernel
theorem mx234 : xmaxL 234 = 4 := by decide +kernel
set_option maxRecDepth 20000 in
theorem rt234 : xret 234 = (some FieldType.int) := rfl
theorem st234 : xstat 234 = false := by decide +kernel
theorem na234 : 1 = xnarg 234 := by decide +kernel
theorem cn234 : (xcl 12).1 = (xname 234).cls := by decide +kernel
theorem ky235 : xkey 235 = 12 := by decide +kernel
theorem mx235 : xmaxL 235 = 5 := by decide +kernel
set_option maxRecDepth 20000 in
theorem rt235 : xret 235 = (some FieldType.int) := rfl
theorem st235 : xstat 235 = false := by decide +kernel
theorem na235 : 1 = xnarg 235 := by decide +kernel
theorem cn235 : (xcl 12).1 = (xname 235).cls := by decide +kernel
theorem ky236 : xkey 236 = 12 := by decide +kernel
theorem mx236 : xmaxL 236 = 5 := by decide +kernel
set_option maxRecDepth 20000 in
theorem rt236 : xret 236 = (some FieldType.int) := rfl
theorem st236 : xstat 236 = false := by decide +kernel
theorem na236 : 1 = xnarg 236 := by decide +kernel
theorem cn236 : (xcl 12).1 = (xname 236).cls := by decide +kernel
theorem ky237 : xkey 237 = 12 := by decide +kernel
theorem mx237 : xmaxL 237 = 2 := by decide +kernel
set_option maxRecDepth 20000 in
theorem rt237 : xret 237 = (some FieldType.int) := rfl
theorem st237 : xstat 237 = false := by decide +kernel
theorem na237 : 1 = xnarg 237 := by decide +kernel
theorem cn237 : (xcl 12).1 = (xname 237).cls := by decide +kernel
theorem ky238 : xkey 238 = 12 := by decide +kernel
theorem mx238 : xmaxL 238 = 9 := by decide +kernel
set_option maxRecDepth 20000 in
theorem rt238 : xret 238 = (some FieldType.int) := rfl
theorem st238 : xstat 238 = false := by decide +kernel
theorem na238 : 2 = xnarg 238 := by decide +kernel
theorem cn238 : (xcl 12).1 = (xname 238).cls := by decide +kernel
theorem ky239 : xkey 239 = 12 := by decide +kernel
theorem mx239 : xmaxL 239 = 4 := by decide +kernel
set_option maxRecDepth 20000 in
theorem rt239 : xret 239 = (some FieldType.int) := rfl
theorem st239 : xstat 239 = false := by decide +kernel
theorem na239 : 2 = xnarg 239 := by decide +kernel
theorem cn239 : (xcl 12).1 = (xname 239).cls := by decide +kernel
theorem ky240 : xkey 240 = 12 := by decide +kernel
theorem mx240 : xmaxL 240 = 4 := by decide +kernel
set_option maxRecDepth 20000 in
theorem rt240 : xret 240 = (some FieldType.boolean) := rfl
theorem st240 : xstat 240 = false := by decide +kernel
theorem na240 : 2 = xnarg 240 := by decide +kernel
theorem cn240 : (xcl 12).1 = (xname 240).cls := by decide +kernel
theorem ky241 : xkey 241 = 12 := by decide +kernel
theorem mx241 : xmaxL 241 = 5 := by decide +kernel
set_option maxRecDepth 20000 in
theorem rt241 : xret 241 = (some FieldType.boolean) := rfl
theorem st241 : xstat 241 = false := by decide +kernel
theorem na241 : 1 = xnarg 241 := by decide +kernel
theorem cn241 : (xcl 12).1 = (xname 241).cls := by decide +kernel
theorem ky242 : xkey 242 = 12 := by decide +kernel
theorem mx242 : xmaxL 242 = 3 := by decide +kernel
set_option maxRecDepth 20000 in
theorem rt242 : xret 242 = none := rfl
theorem st242 : xstat 242 = false := by decide +kernel
theorem na242 : 0 = xnarg 242 := by decide +kernel
theorem cn242 : (xcl 12).1 = (xname 242).cls := by decide +kernel
theorem ky243 : xkey 243 = 12 := by decide +kernel
theorem mx243 : xmaxL 243 = 5 := by decide +kernel
set_option maxRecDepth 20000 in
theorem rt243 : xret 243 = (some FieldType.int) := rfl
theorem st243 : xstat 243 = false := by decide +kernel
theorem na243 : 1 = xnarg 243 := by decide +kernel
theorem cn243 : (xcl 12).1 = (xname 243).cls := by decide +kernel
theorem ky244 : xkey 244 = 12 := by decide +kernel
theorem mx244 : xmaxL 244 = 6 := by decide +kernel
set_option maxRecDepth 20000 in
theorem rt244 : xret 244 = (some FieldType.int) := rfl
theorem st244 : xstat 244 = false := by decide +kernel
theorem na244 : 1 = xnarg 244 := by decide +kernel
theorem cn244 : (xcl 12).1 = (xname 244).cls := by decide +kernel
theorem ky245 : xkey 245 = 12 := by decide +kernel
theorem mx245 : xmaxL 245 = 6 := by decide +kernel
set_option maxRecDepth 20000 in
theorem rt245 : xret 245 = (some FieldType.int) := rfl
theorem st245 : xstat 245 = false := by decide +kernel
theorem na245 : 1 = xnarg 245 := by decide +kernel
theorem cn245 : (xcl 12).1 = (xname 245).cls := by decide +kernel
theorem ky246 : xkey 246 = 12 := by decide +kernel
theorem mx246 : xmaxL 246 = 7 := by decide +kernel
set_option maxRecDepth 20000 in
theorem rt246 : xret 246 = (some FieldType.int) := rfl
theorem st246 : xstat 246 = false := by decide +kernel
theorem na246 : 2 = xnarg 246 := by decide +kernel
theorem cn246 : (xcl 12).1 = (xname 246).cls := by decide +kernel
theorem ky247 : xkey 247 = 12 := by decide +kernel
theorem mx247 : xmaxL 247 = 3 := by decide +kernel
set_option maxRecDepth 20000 in
theorem rt247 : xret 247 = (some FieldType.int) := rfl
theorem st247 : xstat 247 = false := by decide +kernel
theorem na247 : 1 = xnarg 247 := by decide +kernel
theorem cn247 : (xcl 12).1 = (xname 247).cls := by decide +kernel
theorem ky248 : xkey 248 = 12 := by decide +kernel
theorem mx248 : xmaxL 248 = 2 := by decide +kernel
set_option maxRecDepth 20000 in
theorem rt248 : xret 248 = (some FieldType.int) := rfl
theorem st248 : xstat 248 = false := by decide +kernel
theorem na248 : 1 = xnarg 248 := by decide +kernel
theorem cn248 : (xcl 12).1 = (xname 248).cls := by decide +kernel
theorem ky249 : xkey 249 = 12 := by decide +kernel
theorem mx249 : xmaxL 249 = 4 := by decide +kernel
set_option maxRecDepth 20000 in
theorem rt249 : xret 249 = (some FieldType.int) := rfl
theorem st249 : xstat 249 = true := by decide +kernel
theorem na249 : 2 = xnarg 249 := by decide +kernel
theorem ky250 : xkey 250 = 12 := by decide +kernel
theorem mx250 : xmaxL 250 = 6 := by decide +kernel
set_option maxRecDepth 20000 in
theorem rt250 : xret 250 = (some FieldType.int) := rfl
theorem st250 : xstat 250 = false := by decide +kernel
theorem na250 : 2 = xnarg 250 := by decide +kernel
theorem cn250 : (xcl 12).1 = (xname 250).cls := by decide +kernel
theorem ky251 : xkey 251 = 12 := by decide +kernel
theorem mx251 : xmaxL 251 = 2 := by decide +kernel
set_option maxRecDepth 20000 in
theorem rt251 : xret 251 = (some FieldType.int) := rfl
theorem st251 : xstat 251 = false := by decide +kernel
theorem na251 : 1 = xnarg 251 := by decide +kernel
theorem cn251 : (xcl 12).1 = (xname 251).cls := by decide +kernel
theorem ky252 : xkey 252 = 12 := by decide +kernel
theorem mx252 : xmaxL 252 = 3 := by decide +kernel
set_option maxRecDepth 20000 in
theorem rt252 : xret 252 = (some FieldType.int) := rfl
theorem st252 : xstat 252 = false := by decide +kernel
theorem na252 : 1 = xnarg 252 := by decide +kernel
theorem cn252 : (xcl 12).1 = (xname 252).cls := by decide +kernel
theorem ky253 : xkey 253 = 12 := by decide +kernel
theorem mx253 : xmaxL 253 = 3 := by decide +kernel
set_option maxRecDepth 20000 in
theorem rt253 : xret 253 = (some FieldType.int) := rfl
theorem st253 : xstat 253 = false := by decide +kernel
theorem na253 : 1 = xnarg 253 := by decide +kernel
theorem cn253 : (xcl 12).1 = (xname 253).cls := by decide +kernel
theorem ky254 : xkey 254 = 13 := by decide +kernel
theorem mx254 : xmaxL 254 = 2 := by decide +kernel
set_option maxRecDepth 20000 in
theorem rt254 : xret 254 = (some FieldType.int) := rfl
theorem st254 : xstat 254 = true := by decide +kernel
theorem na254 : 1 = xnarg 254 := by decide +kernel
theorem ky255 : xkey 255 = 13 := by decide +kernel
theorem mx255 : xmaxL 255 = 1 := by decide +kernel
set_option maxRecDepth 20000 in
theorem rt255 : xret 255 = (some FieldType.int) := rfl
theorem st255 : xstat 255 = true := by decide +kernel
theorem na255 : 1 = xnarg 255 := by decide +kernel
theorem ky256 : xkey 256 = 14 := by decide +kernel
theorem mx256 : xmaxL 256 = 2 := by decide +kernel
set_option maxRecDepth 20000 in
theorem rt256 : xret 256 = (some FieldType.int) := rfl
theorem st256 : xstat 256 = true := by decide +kernel
theorem na256 : 2 = xnarg 256 := by decide +kernel
theorem ky257 : xkey 257 = 14 := by decide +kernel
theorem mx257 : xmaxL 257 = 2 := by decide +kernel
set_option maxRecDepth 20000 in
theorem rt257 : xret 257 = (some FieldType.int) := rfl
theorem st257 : xstat 257 = true := by decide +kernel
theorem na257 : 2 = xnarg 257 := by decide +kernel
theorem cs13_264 : Cond.constant "java/lang/Integer" 264 (65536) ∈ lw_tbl := xt4 (List.mem_of_getElem? (i := 62) rfl)
theorem cs13_265 : Cond.constant "java/lang/Integer" 265 (1431655765) ∈ lw_tbl := xt4 (List.mem_of_getElem? (i := 74) rfl)
theorem cs13_266 : Cond.constant "java/lang/Integer" 266 (858993459) ∈ lw_tbl := xt4 (List.mem_of_getElem? (i := 75) rfl)
theorem cs13_267 : Cond.constant "java/lang/Integer" 267 (252645135) ∈ lw_tbl := xt4 (List.mem_of_getElem? (i := 76) rfl)
theorem cs10_134 : Cond.constant "BeanTrug$Walk" 134 (65536) ∈ lw_tbl := xt5 (List.mem_of_getElem? (i := 133) rfl)
theorem cs12_172 : Cond.constant "BeanTrugModel" 172 (99999) ∈ lw_tbl := xt6 (List.mem_of_getElem? (i := 152) rfl)
theorem cl10_128 : Cond.constantLong "BeanTrug$Walk" 128 (1103515245) ∈ lw_tbl := xt5 (List.mem_of_getElem? (i := 130) rfl)
theorem cl10_130 : Cond.constantLong "BeanTrug$Walk" 130 (12345) ∈ lw_tbl := xt5 (List.mem_of_getElem? (i := 131) rfl)
theorem cl10_132 : Cond.constantLong "BeanTrug$Walk" 132 (2147483647) ∈ lw_tbl := xt5 (List.mem_of_getElem? (i := 132) rfl)
theorem cl12_228 : Cond.constantLong "BeanTrugModel" 228 (1953658215) ∈ lw_tbl := xt6 (List.mem_of_getElem? (i := 80) rfl)
theorem cl12_128 : Cond.constantLong "BeanTrugModel" 128 (126922498666359) ∈ lw_tbl := xt6 (List.mem_of_getElem? (i := 89) rfl)
theorem cl12_236 : Cond.constantLong "BeanTrugModel" 236 (504363246962) ∈ lw_tbl := xt6 (List.mem_of_getElem? (i := 90) rfl)
theorem cl12_244 : Cond.constantLong "BeanTrugModel" 244 (27973166868030834) ∈ lw_tbl := xt6 (List.mem_of_getElem? (i := 91) rfl)
theorem cl12_249 : Cond.constantLong "BeanTrugModel" 249 (1818846836) ∈ lw_tbl := xt6 (List.mem_of_getElem? (i := 92) rfl)
theorem cl12_130 : Cond.constantLong "BeanTrugModel" 130 (131277443786868) ∈ lw_tbl := xt6 (List.mem_of_getElem? (i := 165) rfl)
theorem cl12_132 : Cond.constantLong "BeanTrugModel" 132 (1953066341) ∈ lw_tbl := xt6 (List.mem_of_getElem? (i := 166) rfl)
theorem cl12_134 : Cond.constantLong "BeanTrugModel" 134 (1684366704) ∈ lw_tbl := xt6 (List.mem_of_getElem? (i := 167) rfl)
theorem cl12_136 : Cond.constantLong "BeanTrugModel" 136 (1870030194) ∈ lw_tbl := xt6 (List.mem_of_getElem? (i := 168) rfl)
theorem cl12_138 : Cond.constantLong "BeanTrugModel" 138 (1835101817) ∈ lw_tbl := xt6 (List.mem_of_getElem? (i := 169) rfl)
theorem cl12_140 : Cond.constantLong "BeanTrugModel" 140 (465726042981) ∈ lw_tbl := xt6 (List.mem_of_getElem? (i := 170) rfl)
theorem cl12_142 : Cond.constantLong "BeanTrugModel" 142 (1818584692) ∈ lw_tbl := xt6 (List.mem_of_getElem? (i := 171) rfl)
theorem cl12_144 : Cond.constantLong "BeanTrugModel" 144 (1819238756) ∈ lw_tbl := xt6 (List.mem_of_getElem? (i := 172) rfl)
theorem cl12_146 : Cond.constantLong "BeanTrugModel" 146 (1919251316) ∈ lw_tbl := xt6 (List.mem_of_getElem? (i := 173) rfl)
theorem cl12_148 : Cond.constantLong "BeanTrugModel" 148 (120299592184933) ∈ lw_tbl := xt6 (List.mem_of_getElem? (i := 174) rfl)
theorem cl12_150 : Cond.constantLong "BeanTrugModel" 150 (1937007984) ∈ lw_tbl := xt6 (List.mem_of_getElem? (i := 175) rfl)
theorem cl12_216 : Cond.constantLong "BeanTrugModel" 216 (26982) ∈ lw_tbl := xt6 (List.mem_of_getElem? (i := 176) rfl)
theorem cl12_192 : Cond.constantLong "BeanTrugModel" 192 (7237492) ∈ lw_tbl := xt6 (List.mem_of_getElem? (i := 189) rfl)
theorem cl12_212 : Cond.constantLong "BeanTrugModel" 212 (6385252) ∈ lw_tbl := xt6 (List.mem_of_getElem? (i := 213) rfl)
theorem cl12_214 : Cond.constantLong "BeanTrugModel" 214 (28530) ∈ lw_tbl := xt6 (List.mem_of_getElem? (i := 214) rfl)
theorem cl12_355 : Cond.constantLong "BeanTrugModel" 355 (60) ∈ lw_tbl := xt7 (List.mem_of_getElem? (i := 104) rfl)
theorem cl12_357 : Cond.constantLong "BeanTrugModel" 357 (20) ∈ lw_tbl := xt7 (List.mem_of_getElem? (i := 113) rfl)
theorem cl12_359 : Cond.constantLong "BeanTrugModel" 359 (100) ∈ lw_tbl := xt7 (List.mem_of_getElem? (i := 118) rfl)
theorem cl12_361 : Cond.constantLong "BeanTrugModel" 361 (3) ∈ lw_tbl := xt7 (List.mem_of_getElem? (i := 119) rfl)
theorem cl12_372 : Cond.constantLong "BeanTrugModel" 372 (2) ∈ lw_tbl := xt7 (List.mem_of_getElem? (i := 140) rfl)
theorem cl12_392 : Cond.constantLong "BeanTrugModel" 392 (-2) ∈ lw_tbl := xt7 (List.mem_of_getElem? (i := 145) rfl)
theorem cl12_394 : Cond.constantLong "BeanTrugModel" 394 (7) ∈ lw_tbl := xt7 (List.mem_of_getElem? (i := 146) rfl)
theorem cl12_414 : Cond.constantLong "BeanTrugModel" 414 (-1) ∈ lw_tbl := xt7 (List.mem_of_getElem? (i := 195) rfl)
theorem cl12_419 : Cond.constantLong "BeanTrugModel" 419 (200) ∈ lw_tbl := xt7 (List.mem_of_getElem? (i := 216) rfl)
theorem cl12_424 : Cond.constantLong "BeanTrugModel" 424 (9999) ∈ lw_tbl := xt7 (List.mem_of_getElem? (i := 229) rfl)
theorem cl12_448 : Cond.constantLong "BeanTrugModel" 448 (1103515245) ∈ lw_tbl := xt8 (List.mem_of_getElem? (i := 38) rfl)
theorem cl12_450 : Cond.constantLong "BeanTrugModel" 450 (12345) ∈ lw_tbl := xt8 (List.mem_of_getElem? (i := 39) rfl)
theorem cl12_452 : Cond.constantLong "BeanTrugModel" 452 (2147483648) ∈ lw_tbl := xt8 (List.mem_of_getElem? (i := 40) rfl)
theorem cl12_454 : Cond.constantLong "BeanTrugModel" 454 (65536) ∈ lw_tbl := xt8 (List.mem_of_getElem? (i := 41) rfl)
theorem cp8_44 : Cond.methodLink (xon 8) 44 arraycopyName ∈ lw_tbl := xt3 (List.mem_of_getElem? (i := 149) rfl)
theorem cp6_43 : Cond.methodLink (xon 6) 43 arraycopyName ∈ lw_tbl := xt3 (List.mem_of_getElem? (i := 156) rfl)
theorem cp0_41 : Cond.methodLink (xon 0) 41 arraycopyName ∈ lw_tbl := xt5 (List.mem_of_getElem? (i := 17) rfl)
theorem cp4_49 : Cond.methodLink (xon 4) 49 arraycopyName ∈ lw_tbl := xt5 (List.mem_of_getElem? (i := 153) rfl)
theorem cpw : Cond.native arraycopyName ∈ lw_tbl ∧ Cond.static arraycopyName ∈ lw_tbl ∧ Cond.initialized "java/lang/System" ∈ lw_tbl := ⟨xt3 (List.mem_of_getElem? (i := 151) rfl), xt3 (List.mem_of_getElem? (i := 150) rfl), xt1 (List.mem_of_getElem? (i := 18) rfl)⟩
theorem xlk_out {l : List (Int × Int)} {d k : Int} : (∀ q ∈ l, q.1 ≠ k) → Op.lookupswitch.offset l d k = d := by
  induction l with
  | nil => intro _; rfl
  | cons a l ih =>
    intro h
    obtain ⟨v, o⟩ := a
    rw [Op.lookupswitch.offset_cons, if_neg (h (v, o) List.mem_cons_self)]
    exact ih (fun q hq => h q (List.mem_cons_of_mem _ hq))
theorem xlk_ne {a w : Int32} {v o : Int} (hw : Int32.ofInt v = w) (h : ¬ a = w) : ((v, o) : Int × Int).1 ≠ a.toInt := fun e => h (by rw [← hw]; exact (Int32.ofInt_toInt a).symm.trans (congrArg Int32.ofInt e.symm))
theorem xsl_len {g : xG} : ∀ (as : List xV), (lg_sl (as.map (xcv g))).length = (as.map xcat).sum
  | [] => rfl
  | v :: vs => by
    have ih := xsl_len (g := g) vs
    unfold lg_sl at ih ⊢
    rw [List.map_cons, List.flatMap_cons, List.length_append, ih, xcv_cat, List.map_cons, List.sum_cons]
    rcases v with x | x | ⟨c, o⟩ <;> rfl
theorem xC_of2 {g : xG} {l : Launch} {d y n : Nat} {h h' : xH} {r : Option xV} {as : List xV} (hy : y < xnM) (hm : xmaxL y = n) (hsz : (as.map xcat).sum ≤ n) (k : xEv g l d y 0 (xargs 0 as) [] h r h') : xC g l d y as h r h' := xC_of hy (by rw [xsl_len, hm]; exact hsz) k
section XE2
variable {g : xG} {l : Launch} {d y pc o : Nat} {ls : List (Nat × xV)} {st : List xV} {h h' h2 : xH} {r : Option xV}
theorem xe_callv1 {n idx y2 pl c i d2 : Nat} {as st0 : List xV} {v : xV} (hd : decode (xcode y) pc = .ok (.invokevirtual idx, 3)) (ho : xkey y = o) (hn : xmlT[n]? = some (o, idx, y2, pl)) (hs : xstat y2 = false) (hc : c < 13) (hcn : (xcl c).1 = (xname y2).cls) (hst : st0 = as.reverse ++ xr c (some i) :: st) (hlen : as.length = xnarg y2) (hw : (st.map xcat).sum ≤ 8) (hdd : d2 + 1 ≤ d) (C : xC g l d2 y2 (xr c (some i) :: as) h (some v) h2) (k : xEv g l d y (pc + 3) ls (v :: st) h2 r h') : xEv g l d y pc ls st0 h r h' := xe_callv hd ho hn hs hc hcn hst hlen hw hdd C k
theorem xe_callv0 {n idx y2 pl c i d2 : Nat} {as st0 : List xV} (hd : decode (xcode y) pc = .ok (.invokevirtual idx, 3)) (ho : xkey y = o) (hn : xmlT[n]? = some (o, idx, y2, pl)) (hs : xstat y2 = false) (hc : c < 13) (hcn : (xcl c).1 = (xname y2).cls) (hst : st0 = as.reverse ++ xr c (some i) :: st) (hlen : as.length = xnarg y2) (hw : (st.map xcat).sum ≤ 8) (hdd : d2 + 1 ≤ d) (C : xC g l d2 y2 (xr c (some i) :: as) h none h2) (k : xEv g l d y (pc + 3) ls st h2 r h') : xEv g l d y pc ls st0 h r h' := xe_callv hd ho hn hs hc hcn hst hlen hw hdd C k
theorem xe_calls1 {n idx y2 pl d2 : Nat} {as st0 : List xV} {v : xV} (hd : decode (xcode y) pc = .ok (.invokestatic idx, 3)) (ho : xkey y = o) (hn : xmlT[n]? = some (o, idx, y2, pl)) (hs : xstat y2 = true) (hst : st0 = as.reverse ++ st) (hlen : as.length = xnarg y2) (hw : (st.map xcat).sum ≤ 8) (hdd : d2 + 1 ≤ d) (C : xC g l d2 y2 as h (some v) h2) (k : xEv g l d y (pc + 3) ls (v :: st) h2 r h') : xEv g l d y pc ls st0 h r h' := xe_calls hd ho hn hs hst hlen hw hdd C k
theorem xe_calls0 {n idx y2 pl d2 : Nat} {as st0 : List xV} (hd : decode (xcode y) pc = .ok (.invokestatic idx, 3)) (ho : xkey y = o) (hn : xmlT[n]? = some (o, idx, y2, pl)) (hs : xstat y2 = true) (hst : st0 = as.reverse ++ st) (hlen : as.length = xnarg y2) (hw : (st.map xcat).sum ≤ 8) (hdd : d2 + 1 ≤ d) (C : xC g l d2 y2 as h none h2) (k : xEv g l d y (pc + 3) ls st h2 r h') : xEv g l d y pc ls st0 h r h' := xe_calls hd ho hn hs hst hlen hw hdd C k
end XE2
