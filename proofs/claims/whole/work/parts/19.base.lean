/-! what the methods' functions rest on -/
theorem xst_some {α β : Type} {a : α} {f : α → Option β} {r : β} (h : xst a f = some r) : ∃ b, b = a ∧ f b = some r := ⟨a, rfl, h⟩
section XE2
variable {X : XX} {d m pc : Nat} {ls st : List Value} {I I' : XI} {L L' : XL} {r : Option Value} {x : Int32} {a b c nx : Nat}
theorem xeidiv {y z : Int32} (hop : xop m pc = (.idiv, x, a, b, c, nx)) (hy : (!decide (y = 0)) = true) (k : xEv X d m nx ls (.int (z / y) :: st) I L r I' L') : xEv X d m pc ls (.int y :: .int z :: st) I L r I' L' :=
  xe1 hop (by have hy' : ¬ y = 0 := by simpa using hy
              simp only [xs1, if_neg hy']) k
theorem xeirem {y z : Int32} (hop : xop m pc = (.irem, x, a, b, c, nx)) (hy : (!decide (y = 0)) = true) (k : xEv X d m nx ls (.int (z - z / y * y) :: st) I L r I' L') : xEv X d m pc ls (.int y :: .int z :: st) I L r I' L' :=
  xe1 hop (by have hy' : ¬ y = 0 := by simpa using hy
              simp only [xs1, if_neg hy']) k
theorem xetabO {y l32 h32 : Int32} {dd lo hi : Int} {offs : Array Int} (hop : xop m pc = (.tableswitch dd lo hi offs, x, a, b, c, nx)) (hlo : l32.toInt = lo) (hhi : h32.toInt = hi) (hc : y < l32 ∨ h32 < y) (k : xEv X d m a ls st I L r I' L') : xEv X d m pc ls (.int y :: st) I L r I' L' :=
  xetab hop (by
    have hc' : y.toInt < lo ∨ hi < y.toInt := by
      rw [← hlo, ← hhi]
      exact hc.imp Int32.lt_iff_toInt_lt.mp Int32.lt_iff_toInt_lt.mp
    simp only [xjmp, if_pos hc']) k
theorem xetabI {y q : Int32} {dd lo hi : Int} {offs : Array Int} {pc' : Nat} (hop : xop m pc = (.tableswitch dd lo hi offs, x, a, b, c, nx)) (hy : y = q) (hj : xjmp (.tableswitch dd lo hi offs) a nx pc (.int q :: st) = some (pc', st)) (k : xEv X d m pc' ls st I L r I' L') : xEv X d m pc ls (.int y :: st) I L r I' L' := by
  subst hy
  exact xetab hop hj k
end XE2
theorem xsh0 : xSH[0]? = some (16, 11, [some 1, some 6, some 17, some 26, some 28, some 30, some 32, some 33, some 37, some 38, some 127]) := rfl
theorem xsh1 : xSH[1]? = some (15, 5, [some 2, none, some 3, some 4, some 5]) := rfl
theorem xsh2 : xSH[2]? = some (1, 2000, []) := rfl
theorem xsh3 : xSH[3]? = some (0, 401, []) := rfl
theorem xsh4 : xSH[4]? = some (0, 401, []) := rfl
theorem xsh5 : xSH[5]? = some (0, 401, []) := rfl
theorem xsh6 : xSH[6]? = some (11, 10, [some 1, some 7, none, none, none, none, none, none, none, some 16]) := rfl
theorem xsh7 : xSH[7]? = some (14, 9, [none, none, none, none, none, some 8, some 9, some 10, some 11]) := rfl
theorem xsh8 : xSH[8]? = some (0, 30, []) := rfl
theorem xsh9 : xSH[9]? = some (0, 120, []) := rfl
theorem xsh10 : xSH[10]? = some (0, 20, []) := rfl
theorem xsh11 : xSH[11]? = some (8, 5, [some 12, none, some 13, some 14, some 15]) := rfl
theorem xsh12 : xSH[12]? = some (0, 420, []) := rfl
theorem xsh13 : xSH[13]? = some (0, 4, []) := rfl
theorem xsh14 : xSH[14]? = some (0, 9, []) := rfl
theorem xsh15 : xSH[15]? = some (0, 32, []) := rfl
theorem xsh16 : xSH[16]? = some (0, 5, []) := rfl
theorem xsh17 : xSH[17]? = some (14, 9, [none, none, none, none, none, some 18, some 19, some 20, some 21]) := rfl
theorem xsh18 : xSH[18]? = some (0, 30, []) := rfl
theorem xsh19 : xSH[19]? = some (0, 120, []) := rfl
theorem xsh20 : xSH[20]? = some (0, 20, []) := rfl
theorem xsh21 : xSH[21]? = some (8, 5, [some 22, none, some 23, some 24, some 25]) := rfl
theorem xsh22 : xSH[22]? = some (0, 420, []) := rfl
theorem xsh23 : xSH[23]? = some (0, 4, []) := rfl
theorem xsh24 : xSH[24]? = some (0, 9, []) := rfl
theorem xsh25 : xSH[25]? = some (0, 32, []) := rfl
theorem xsh26 : xSH[26]? = some (13, 4, [some 27, none, none, none]) := rfl
theorem xsh27 : xSH[27]? = some (0, 30, []) := rfl
theorem xsh28 : xSH[28]? = some (13, 4, [some 29, none, none, none]) := rfl
theorem xsh29 : xSH[29]? = some (0, 30, []) := rfl
theorem xsh30 : xSH[30]? = some (5, 2, [some 17, some 31]) := rfl
theorem xsh31 : xSH[31]? = some (0, 30, []) := rfl
theorem xsh32 : xSH[32]? = some (12, 3, [some 17, some 30, some 21]) := rfl
theorem xsh33 : xSH[33]? = some (10, 7, [some 17, some 30, some 32, some 34, none, some 35, some 36]) := rfl
theorem xsh34 : xSH[34]? = some (0, 30, []) := rfl
theorem xsh35 : xSH[35]? = some (0, 64, []) := rfl
theorem xsh36 : xSH[36]? = some (0, 64, []) := rfl
theorem xsh37 : xSH[37]? = some (6, 3, [some 17, some 30, some 32]) := rfl
theorem xsh38 : xSH[38]? = some (9, 5, [some 39, none, none, some 40, none]) := rfl
theorem xsh39 : xSH[39]? = some (4, 40, [some 41, some 43, some 45, some 47, some 49, some 51, some 53, some 55, some 57, some 59, some 61, some 63, some 65, some 67, some 69, some 71, some 73, some 75, some 77, some 79, some 81, some 83, some 85, some 87, some 89, some 91, some 93, some 95, some 97, some 99, some 101, some 103, some 105, some 107, some 109, some 111, some 113, some 115, some 117, some 119]) := rfl
theorem xsh40 : xSH[40]? = some (4, 3, [some 121, some 123, some 125]) := rfl
theorem xsh41 : xSH[41]? = some (13, 4, [some 42, none, none, none]) := rfl
theorem xsh42 : xSH[42]? = some (0, 30, []) := rfl
theorem xsh43 : xSH[43]? = some (13, 4, [some 44, none, none, none]) := rfl
theorem xsh44 : xSH[44]? = some (0, 30, []) := rfl
theorem xsh45 : xSH[45]? = some (13, 4, [some 46, none, none, none]) := rfl
theorem xsh46 : xSH[46]? = some (0, 30, []) := rfl
theorem xsh47 : xSH[47]? = some (13, 4, [some 48, none, none, none]) := rfl
theorem xsh48 : xSH[48]? = some (0, 30, []) := rfl
theorem xsh49 : xSH[49]? = some (13, 4, [some 50, none, none, none]) := rfl
theorem xsh50 : xSH[50]? = some (0, 30, []) := rfl
theorem xsh51 : xSH[51]? = some (13, 4, [some 52, none, none, none]) := rfl
theorem xsh52 : xSH[52]? = some (0, 30, []) := rfl
theorem xsh53 : xSH[53]? = some (13, 4, [some 54, none, none, none]) := rfl
theorem xsh54 : xSH[54]? = some (0, 30, []) := rfl
theorem xsh55 : xSH[55]? = some (13, 4, [some 56, none, none, none]) := rfl
theorem xsh56 : xSH[56]? = some (0, 30, []) := rfl
theorem xsh57 : xSH[57]? = some (13, 4, [some 58, none, none, none]) := rfl
theorem xsh58 : xSH[58]? = some (0, 30, []) := rfl
theorem xsh59 : xSH[59]? = some (13, 4, [some 60, none, none, none]) := rfl
theorem xsh60 : xSH[60]? = some (0, 30, []) := rfl
theorem xsh61 : xSH[61]? = some (13, 4, [some 62, none, none, none]) := rfl
theorem xsh62 : xSH[62]? = some (0, 30, []) := rfl
theorem xsh63 : xSH[63]? = some (13, 4, [some 64, none, none, none]) := rfl
theorem xsh64 : xSH[64]? = some (0, 30, []) := rfl
theorem xsh65 : xSH[65]? = some (13, 4, [some 66, none, none, none]) := rfl
theorem xsh66 : xSH[66]? = some (0, 30, []) := rfl
theorem xsh67 : xSH[67]? = some (13, 4, [some 68, none, none, none]) := rfl
theorem xsh68 : xSH[68]? = some (0, 30, []) := rfl
theorem xsh69 : xSH[69]? = some (13, 4, [some 70, none, none, none]) := rfl
theorem xsh70 : xSH[70]? = some (0, 30, []) := rfl
theorem xsh71 : xSH[71]? = some (13, 4, [some 72, none, none, none]) := rfl
theorem xsh72 : xSH[72]? = some (0, 30, []) := rfl
theorem xsh73 : xSH[73]? = some (13, 4, [some 74, none, none, none]) := rfl
theorem xsh74 : xSH[74]? = some (0, 30, []) := rfl
theorem xsh75 : xSH[75]? = some (13, 4, [some 76, none, none, none]) := rfl
theorem xsh76 : xSH[76]? = some (0, 30, []) := rfl
theorem xsh77 : xSH[77]? = some (13, 4, [some 78, none, none, none]) := rfl
theorem xsh78 : xSH[78]? = some (0, 30, []) := rfl
theorem xsh79 : xSH[79]? = some (13, 4, [some 80, none, none, none]) := rfl
theorem xsh80 : xSH[80]? = some (0, 30, []) := rfl
theorem xsh81 : xSH[81]? = some (13, 4, [some 82, none, none, none]) := rfl
theorem xsh82 : xSH[82]? = some (0, 30, []) := rfl
theorem xsh83 : xSH[83]? = some (13, 4, [some 84, none, none, none]) := rfl
theorem xsh84 : xSH[84]? = some (0, 30, []) := rfl
theorem xsh85 : xSH[85]? = some (13, 4, [some 86, none, none, none]) := rfl
theorem xsh86 : xSH[86]? = some (0, 30, []) := rfl
theorem xsh87 : xSH[87]? = some (13, 4, [some 88, none, none, none]) := rfl
theorem xsh88 : xSH[88]? = some (0, 30, []) := rfl
theorem xsh89 : xSH[89]? = some (13, 4, [some 90, none, none, none]) := rfl
theorem xsh90 : xSH[90]? = some (0, 30, []) := rfl
theorem xsh91 : xSH[91]? = some (13, 4, [some 92, none, none, none]) := rfl
theorem xsh92 : xSH[92]? = some (0, 30, []) := rfl
theorem xsh93 : xSH[93]? = some (13, 4, [some 94, none, none, none]) := rfl
theorem xsh94 : xSH[94]? = some (0, 30, []) := rfl
theorem xsh95 : xSH[95]? = some (13, 4, [some 96, none, none, none]) := rfl
theorem xsh96 : xSH[96]? = some (0, 30, []) := rfl
theorem xsh97 : xSH[97]? = some (13, 4, [some 98, none, none, none]) := rfl
theorem xsh98 : xSH[98]? = some (0, 30, []) := rfl
theorem xsh99 : xSH[99]? = some (13, 4, [some 100, none, none, none]) := rfl
theorem xsh100 : xSH[100]? = some (0, 30, []) := rfl
theorem xsh101 : xSH[101]? = some (13, 4, [some 102, none, none, none]) := rfl
theorem xsh102 : xSH[102]? = some (0, 30, []) := rfl
theorem xsh103 : xSH[103]? = some (13, 4, [some 104, none, none, none]) := rfl
theorem xsh104 : xSH[104]? = some (0, 30, []) := rfl
theorem xsh105 : xSH[105]? = some (13, 4, [some 106, none, none, none]) := rfl
theorem xsh106 : xSH[106]? = some (0, 30, []) := rfl
theorem xsh107 : xSH[107]? = some (13, 4, [some 108, none, none, none]) := rfl
theorem xsh108 : xSH[108]? = some (0, 30, []) := rfl
theorem xsh109 : xSH[109]? = some (13, 4, [some 110, none, none, none]) := rfl
theorem xsh110 : xSH[110]? = some (0, 30, []) := rfl
theorem xsh111 : xSH[111]? = some (13, 4, [some 112, none, none, none]) := rfl
theorem xsh112 : xSH[112]? = some (0, 30, []) := rfl
theorem xsh113 : xSH[113]? = some (13, 4, [some 114, none, none, none]) := rfl
theorem xsh114 : xSH[114]? = some (0, 30, []) := rfl
theorem xsh115 : xSH[115]? = some (13, 4, [some 116, none, none, none]) := rfl
theorem xsh116 : xSH[116]? = some (0, 30, []) := rfl
theorem xsh117 : xSH[117]? = some (13, 4, [some 118, none, none, none]) := rfl
theorem xsh118 : xSH[118]? = some (0, 30, []) := rfl
theorem xsh119 : xSH[119]? = some (13, 4, [some 120, none, none, none]) := rfl
theorem xsh120 : xSH[120]? = some (0, 30, []) := rfl
theorem xsh121 : xSH[121]? = some (13, 4, [some 122, none, none, none]) := rfl
theorem xsh122 : xSH[122]? = some (0, 30, []) := rfl
theorem xsh123 : xSH[123]? = some (13, 4, [some 124, none, none, none]) := rfl
theorem xsh124 : xSH[124]? = some (0, 30, []) := rfl
theorem xsh125 : xSH[125]? = some (13, 4, [some 126, none, none, none]) := rfl
theorem xsh126 : xSH[126]? = some (0, 30, []) := rfl
theorem xsh127 : xSH[127]? = some (7, 5, [some 17, some 128, some 129, none, some 130]) := rfl
theorem xsh128 : xSH[128]? = some (0, 20, []) := rfl
theorem xsh129 : xSH[129]? = some (0, 20, []) := rfl
theorem xsh130 : xSH[130]? = some (0, 7, []) := rfl
theorem xsh131 : xSH[131]? = some (17, 65, [none, some 132, none, some 133, none, some 134, some 135, some 136, some 137, some 138, none, none, none, none, none, none, none, none, none, none, none, some 139, some 140, some 141, some 142, some 143, some 144, some 145, some 146, some 147, some 148, some 149, some 150, some 151, none, some 152, some 153, some 154, some 155, some 156, none, some 157, some 158, some 159, none, some 160, some 161, none, some 162, some 163, none, some 164, none, some 165, none, some 166, some 167, some 168, some 169, none, some 170, some 171, some 172, some 173, some 174]) := rfl
theorem xsh132 : xSH[132]? = some (1, 2000, []) := rfl
theorem xsh133 : xSH[133]? = some (1, 2000, []) := rfl
theorem xsh134 : xSH[134]? = some (0, 403, []) := rfl
theorem xsh135 : xSH[135]? = some (0, 403, []) := rfl
theorem xsh136 : xSH[136]? = some (0, 403, []) := rfl
theorem xsh137 : xSH[137]? = some (3, 403, []) := rfl
theorem xsh138 : xSH[138]? = some (3, 21, []) := rfl
theorem xsh139 : xSH[139]? = some (3, 5, []) := rfl
theorem xsh140 : xSH[140]? = some (0, 2, []) := rfl
theorem xsh141 : xSH[141]? = some (0, 2, []) := rfl
theorem xsh142 : xSH[142]? = some (0, 60, []) := rfl
theorem xsh143 : xSH[143]? = some (0, 240, []) := rfl
theorem xsh144 : xSH[144]? = some (0, 2, []) := rfl
theorem xsh145 : xSH[145]? = some (0, 80, []) := rfl
theorem xsh146 : xSH[146]? = some (0, 2, []) := rfl
theorem xsh147 : xSH[147]? = some (0, 40, []) := rfl
theorem xsh148 : xSH[148]? = some (0, 2, []) := rfl
theorem xsh149 : xSH[149]? = some (0, 2, []) := rfl
theorem xsh150 : xSH[150]? = some (0, 8, []) := rfl
theorem xsh151 : xSH[151]? = some (0, 8, []) := rfl
theorem xsh152 : xSH[152]? = some (2, 260, []) := rfl
theorem xsh153 : xSH[153]? = some (0, 260, []) := rfl
theorem xsh154 : xSH[154]? = some (0, 260, []) := rfl
theorem xsh155 : xSH[155]? = some (0, 260, []) := rfl
theorem xsh156 : xSH[156]? = some (0, 260, []) := rfl
theorem xsh157 : xSH[157]? = some (0, 840, []) := rfl
theorem xsh158 : xSH[158]? = some (0, 840, []) := rfl
theorem xsh159 : xSH[159]? = some (0, 64, []) := rfl
theorem xsh160 : xSH[160]? = some (0, 9, []) := rfl
theorem xsh161 : xSH[161]? = some (0, 400, []) := rfl
theorem xsh162 : xSH[162]? = some (0, 33, []) := rfl
theorem xsh163 : xSH[163]? = some (0, 33, []) := rfl
theorem xsh164 : xSH[164]? = some (0, 30, []) := rfl
theorem xsh165 : xSH[165]? = some (2, 30, []) := rfl
theorem xsh166 : xSH[166]? = some (0, 1320, []) := rfl
theorem xsh167 : xSH[167]? = some (0, 30, []) := rfl
theorem xsh168 : xSH[168]? = some (0, 64, []) := rfl
theorem xsh169 : xSH[169]? = some (0, 64, []) := rfl
theorem xsh170 : xSH[170]? = some (0, 20, []) := rfl
theorem xsh171 : xSH[171]? = some (0, 20, []) := rfl
theorem xsh172 : xSH[172]? = some (0, 28, []) := rfl
theorem xsh173 : xSH[173]? = some (2, 3, []) := rfl
theorem xsh174 : xSH[174]? = some (0, 99, []) := rfl
def xisSt (S : Nat) : Prop := xSH[S]? = some (13, 4, [some (S + 1), none, none, none]) ∧ xSH[S + 1]? = some (0, 30, [])
def xisLw (W : Nat) : Prop := xSH[W]? = some (8, 5, [some (W + 1), none, some (W + 2), some (W + 3), some (W + 4)]) ∧ xSH[W + 1]? = some (0, 420, []) ∧ xSH[W + 2]? = some (0, 4, []) ∧ xSH[W + 3]? = some (0, 9, []) ∧ xSH[W + 4]? = some (0, 32, [])
def xisTb (T : Nat) : Prop := xSH[T]? = some (14, 9, [none, none, none, none, none, some (T + 1), some (T + 2), some (T + 3), some (T + 4)]) ∧ xSH[T + 1]? = some (0, 30, []) ∧ xSH[T + 2]? = some (0, 120, []) ∧ xSH[T + 3]? = some (0, 20, []) ∧ xisLw (T + 4)
theorem xis7 : xisTb 7 := ⟨rfl, rfl, rfl, rfl, rfl, rfl, rfl, rfl, rfl⟩
theorem xis11 : xisLw 11 := ⟨rfl, rfl, rfl, rfl, rfl⟩
theorem xis17 : xisTb 17 := ⟨rfl, rfl, rfl, rfl, rfl, rfl, rfl, rfl, rfl⟩
theorem xis21 : xisLw 21 := ⟨rfl, rfl, rfl, rfl, rfl⟩
theorem xis26 : xisSt 26 := ⟨rfl, rfl⟩
theorem xis28 : xisSt 28 := ⟨rfl, rfl⟩
theorem xis41 : xisSt 41 := ⟨rfl, rfl⟩
theorem xis43 : xisSt 43 := ⟨rfl, rfl⟩
theorem xis45 : xisSt 45 := ⟨rfl, rfl⟩
theorem xis47 : xisSt 47 := ⟨rfl, rfl⟩
theorem xis49 : xisSt 49 := ⟨rfl, rfl⟩
theorem xis51 : xisSt 51 := ⟨rfl, rfl⟩
theorem xis53 : xisSt 53 := ⟨rfl, rfl⟩
theorem xis55 : xisSt 55 := ⟨rfl, rfl⟩
theorem xis57 : xisSt 57 := ⟨rfl, rfl⟩
theorem xis59 : xisSt 59 := ⟨rfl, rfl⟩
theorem xis61 : xisSt 61 := ⟨rfl, rfl⟩
theorem xis63 : xisSt 63 := ⟨rfl, rfl⟩
theorem xis65 : xisSt 65 := ⟨rfl, rfl⟩
theorem xis67 : xisSt 67 := ⟨rfl, rfl⟩
theorem xis69 : xisSt 69 := ⟨rfl, rfl⟩
theorem xis71 : xisSt 71 := ⟨rfl, rfl⟩
theorem xis73 : xisSt 73 := ⟨rfl, rfl⟩
theorem xis75 : xisSt 75 := ⟨rfl, rfl⟩
theorem xis77 : xisSt 77 := ⟨rfl, rfl⟩
theorem xis79 : xisSt 79 := ⟨rfl, rfl⟩
theorem xis81 : xisSt 81 := ⟨rfl, rfl⟩
theorem xis83 : xisSt 83 := ⟨rfl, rfl⟩
theorem xis85 : xisSt 85 := ⟨rfl, rfl⟩
theorem xis87 : xisSt 87 := ⟨rfl, rfl⟩
theorem xis89 : xisSt 89 := ⟨rfl, rfl⟩
theorem xis91 : xisSt 91 := ⟨rfl, rfl⟩
theorem xis93 : xisSt 93 := ⟨rfl, rfl⟩
theorem xis95 : xisSt 95 := ⟨rfl, rfl⟩
theorem xis97 : xisSt 97 := ⟨rfl, rfl⟩
theorem xis99 : xisSt 99 := ⟨rfl, rfl⟩
theorem xis101 : xisSt 101 := ⟨rfl, rfl⟩
theorem xis103 : xisSt 103 := ⟨rfl, rfl⟩
theorem xis105 : xisSt 105 := ⟨rfl, rfl⟩
theorem xis107 : xisSt 107 := ⟨rfl, rfl⟩
theorem xis109 : xisSt 109 := ⟨rfl, rfl⟩
theorem xis111 : xisSt 111 := ⟨rfl, rfl⟩
theorem xis113 : xisSt 113 := ⟨rfl, rfl⟩
theorem xis115 : xisSt 115 := ⟨rfl, rfl⟩
theorem xis117 : xisSt 117 := ⟨rfl, rfl⟩
theorem xis119 : xisSt 119 := ⟨rfl, rfl⟩
theorem xis121 : xisSt 121 := ⟨rfl, rfl⟩
theorem xis123 : xisSt 123 := ⟨rfl, rfl⟩
theorem xis125 : xisSt 125 := ⟨rfl, rfl⟩
theorem xisA39 {j S : Nat} (h : xrf 39 j = some S) : xisSt S := by
  unfold xrf at h
  rw [xsh39] at h
  match j with
  | 0 => cases h; exact xis41
  | 1 => cases h; exact xis43
  | 2 => cases h; exact xis45
  | 3 => cases h; exact xis47
  | 4 => cases h; exact xis49
  | 5 => cases h; exact xis51
  | 6 => cases h; exact xis53
  | 7 => cases h; exact xis55
  | 8 => cases h; exact xis57
  | 9 => cases h; exact xis59
  | 10 => cases h; exact xis61
  | 11 => cases h; exact xis63
  | 12 => cases h; exact xis65
  | 13 => cases h; exact xis67
  | 14 => cases h; exact xis69
  | 15 => cases h; exact xis71
  | 16 => cases h; exact xis73
  | 17 => cases h; exact xis75
  | 18 => cases h; exact xis77
  | 19 => cases h; exact xis79
  | 20 => cases h; exact xis81
  | 21 => cases h; exact xis83
  | 22 => cases h; exact xis85
  | 23 => cases h; exact xis87
  | 24 => cases h; exact xis89
  | 25 => cases h; exact xis91
  | 26 => cases h; exact xis93
  | 27 => cases h; exact xis95
  | 28 => cases h; exact xis97
  | 29 => cases h; exact xis99
  | 30 => cases h; exact xis101
  | 31 => cases h; exact xis103
  | 32 => cases h; exact xis105
  | 33 => cases h; exact xis107
  | 34 => cases h; exact xis109
  | 35 => cases h; exact xis111
  | 36 => cases h; exact xis113
  | 37 => cases h; exact xis115
  | 38 => cases h; exact xis117
  | 39 => cases h; exact xis119
  | j + 40 => cases h
theorem xisA40 {j S : Nat} (h : xrf 40 j = some S) : xisSt S := by
  unfold xrf at h
  rw [xsh40] at h
  match j with
  | 0 => cases h; exact xis121
  | 1 => cases h; exact xis123
  | 2 => cases h; exact xis125
  | j + 3 => cases h
