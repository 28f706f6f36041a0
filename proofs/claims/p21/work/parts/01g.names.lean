set_option maxRecDepth 20000 in
theorem gqL_workshop_wsL_step_r1 : GoodIn wsL_workshop wsL_step_r1 := goodIn_sub (
  List.forall_mem_cons.mpr ⟨List.mem_of_getElem? (i := 66) rfl, 
  List.forall_mem_cons.mpr ⟨List.mem_of_getElem? (i := 67) rfl, 
  List.forall_mem_cons.mpr ⟨List.mem_of_getElem? (i := 68) rfl, 
  List.forall_mem_cons.mpr ⟨List.mem_of_getElem? (i := 3) rfl, 
  List.forall_mem_cons.mpr ⟨List.mem_of_getElem? (i := 69) rfl, 
  List.forall_mem_cons.mpr ⟨List.mem_of_getElem? (i := 70) rfl, 
  List.forall_mem_cons.mpr ⟨List.mem_of_getElem? (i := 71) rfl, 
  List.forall_mem_cons.mpr ⟨List.mem_of_getElem? (i := 15) rfl, 
  List.forall_mem_cons.mpr ⟨List.mem_of_getElem? (i := 16) rfl, 
  List.forall_mem_cons.mpr ⟨List.mem_of_getElem? (i := 72) rfl, 
  List.forall_mem_cons.mpr ⟨List.mem_of_getElem? (i := 73) rfl, 
  List.forall_mem_cons.mpr ⟨List.mem_of_getElem? (i := 74) rfl, 
  List.forall_mem_cons.mpr ⟨List.mem_of_getElem? (i := 32) rfl, 
  List.forall_mem_cons.mpr ⟨List.mem_of_getElem? (i := 14) rfl, 
  List.forall_mem_cons.mpr ⟨List.mem_of_getElem? (i := 33) rfl, 
  List.forall_mem_cons.mpr ⟨List.mem_of_getElem? (i := 34) rfl, 
  List.forall_mem_cons.mpr ⟨List.mem_of_getElem? (i := 35) rfl, 
  List.forall_mem_cons.mpr ⟨List.mem_of_getElem? (i := 36) rfl, 
  List.forall_mem_cons.mpr ⟨List.mem_of_getElem? (i := 37) rfl, 
  List.forall_mem_cons.mpr ⟨List.mem_of_getElem? (i := 38) rfl, 
  List.forall_mem_cons.mpr ⟨List.mem_of_getElem? (i := 39) rfl, 
  List.forall_mem_cons.mpr ⟨List.mem_of_getElem? (i := 40) rfl, 
  List.forall_mem_cons.mpr ⟨List.mem_of_getElem? (i := 41) rfl, 
  List.forall_mem_cons.mpr ⟨List.mem_of_getElem? (i := 42) rfl, fun _ h => (List.not_mem_nil h).elim⟩⟩⟩⟩⟩⟩⟩⟩⟩⟩⟩⟩⟩⟩⟩⟩⟩⟩⟩⟩⟩⟩⟩⟩) (by decide +kernel)
set_option maxRecDepth 20000 in
theorem gqL_workshop_wsL_step_r2 : GoodIn wsL_workshop wsL_step_r2 := goodIn_sub (
  List.forall_mem_cons.mpr ⟨List.mem_of_getElem? (i := 43) rfl, 
  List.forall_mem_cons.mpr ⟨List.mem_of_getElem? (i := 44) rfl, 
  List.forall_mem_cons.mpr ⟨List.mem_of_getElem? (i := 45) rfl, 
  List.forall_mem_cons.mpr ⟨List.mem_of_getElem? (i := 30) rfl, 
  List.forall_mem_cons.mpr ⟨List.mem_of_getElem? (i := 75) rfl, 
  List.forall_mem_cons.mpr ⟨List.mem_of_getElem? (i := 76) rfl, 
  List.forall_mem_cons.mpr ⟨List.mem_of_getElem? (i := 77) rfl, 
  List.forall_mem_cons.mpr ⟨List.mem_of_getElem? (i := 78) rfl, 
  List.forall_mem_cons.mpr ⟨List.mem_of_getElem? (i := 18) rfl, 
  List.forall_mem_cons.mpr ⟨List.mem_of_getElem? (i := 79) rfl, 
  List.forall_mem_cons.mpr ⟨List.mem_of_getElem? (i := 80) rfl, 
  List.forall_mem_cons.mpr ⟨List.mem_of_getElem? (i := 81) rfl, 
  List.forall_mem_cons.mpr ⟨List.mem_of_getElem? (i := 82) rfl, 
  List.forall_mem_cons.mpr ⟨List.mem_of_getElem? (i := 83) rfl, 
  List.forall_mem_cons.mpr ⟨List.mem_of_getElem? (i := 84) rfl, 
  List.forall_mem_cons.mpr ⟨List.mem_of_getElem? (i := 85) rfl, 
  List.forall_mem_cons.mpr ⟨List.mem_of_getElem? (i := 86) rfl, 
  List.forall_mem_cons.mpr ⟨List.mem_of_getElem? (i := 87) rfl, 
  List.forall_mem_cons.mpr ⟨List.mem_of_getElem? (i := 88) rfl, 
  List.forall_mem_cons.mpr ⟨List.mem_of_getElem? (i := 89) rfl, 
  List.forall_mem_cons.mpr ⟨List.mem_of_getElem? (i := 90) rfl, 
  List.forall_mem_cons.mpr ⟨List.mem_of_getElem? (i := 91) rfl, 
  List.forall_mem_cons.mpr ⟨List.mem_of_getElem? (i := 92) rfl, 
  List.forall_mem_cons.mpr ⟨List.mem_of_getElem? (i := 93) rfl, fun _ h => (List.not_mem_nil h).elim⟩⟩⟩⟩⟩⟩⟩⟩⟩⟩⟩⟩⟩⟩⟩⟩⟩⟩⟩⟩⟩⟩⟩⟩) (by decide +kernel)
set_option maxRecDepth 20000 in
theorem gqL_workshop_wsL_step_r3 : GoodIn wsL_workshop wsL_step_r3 := goodIn_sub (
  List.forall_mem_cons.mpr ⟨List.mem_of_getElem? (i := 58) rfl, 
  List.forall_mem_cons.mpr ⟨List.mem_of_getElem? (i := 94) rfl, 
  List.forall_mem_cons.mpr ⟨List.mem_of_getElem? (i := 4) rfl, 
  List.forall_mem_cons.mpr ⟨List.mem_of_getElem? (i := 95) rfl, 
  List.forall_mem_cons.mpr ⟨List.mem_of_getElem? (i := 96) rfl, 
  List.forall_mem_cons.mpr ⟨List.mem_of_getElem? (i := 97) rfl, 
  List.forall_mem_cons.mpr ⟨List.mem_of_getElem? (i := 98) rfl, 
  List.forall_mem_cons.mpr ⟨List.mem_of_getElem? (i := 99) rfl, 
  List.forall_mem_cons.mpr ⟨List.mem_of_getElem? (i := 100) rfl, 
  List.forall_mem_cons.mpr ⟨List.mem_of_getElem? (i := 101) rfl, 
  List.forall_mem_cons.mpr ⟨List.mem_of_getElem? (i := 102) rfl, 
  List.forall_mem_cons.mpr ⟨List.mem_of_getElem? (i := 103) rfl, 
  List.forall_mem_cons.mpr ⟨List.mem_of_getElem? (i := 104) rfl, 
  List.forall_mem_cons.mpr ⟨List.mem_of_getElem? (i := 105) rfl, 
  List.forall_mem_cons.mpr ⟨List.mem_of_getElem? (i := 106) rfl, 
  List.forall_mem_cons.mpr ⟨List.mem_of_getElem? (i := 107) rfl, 
  List.forall_mem_cons.mpr ⟨List.mem_of_getElem? (i := 108) rfl, 
  List.forall_mem_cons.mpr ⟨List.mem_of_getElem? (i := 109) rfl, 
  List.forall_mem_cons.mpr ⟨List.mem_of_getElem? (i := 110) rfl, 
  List.forall_mem_cons.mpr ⟨List.mem_of_getElem? (i := 111) rfl, 
  List.forall_mem_cons.mpr ⟨List.mem_of_getElem? (i := 112) rfl, 
  List.forall_mem_cons.mpr ⟨List.mem_of_getElem? (i := 113) rfl, 
  List.forall_mem_cons.mpr ⟨List.mem_of_getElem? (i := 114) rfl, 
  List.forall_mem_cons.mpr ⟨List.mem_of_getElem? (i := 115) rfl, fun _ h => (List.not_mem_nil h).elim⟩⟩⟩⟩⟩⟩⟩⟩⟩⟩⟩⟩⟩⟩⟩⟩⟩⟩⟩⟩⟩⟩⟩⟩) (by decide +kernel)
set_option maxRecDepth 20000 in
theorem gqL_workshop_wsL_step_r4 : GoodIn wsL_workshop wsL_step_r4 := goodIn_sub (
  List.forall_mem_cons.mpr ⟨List.mem_of_getElem? (i := 116) rfl, 
  List.forall_mem_cons.mpr ⟨List.mem_of_getElem? (i := 117) rfl, 
  List.forall_mem_cons.mpr ⟨List.mem_of_getElem? (i := 118) rfl, 
  List.forall_mem_cons.mpr ⟨List.mem_of_getElem? (i := 119) rfl, 
  List.forall_mem_cons.mpr ⟨List.mem_of_getElem? (i := 120) rfl, 
  List.forall_mem_cons.mpr ⟨List.mem_of_getElem? (i := 121) rfl, 
  List.forall_mem_cons.mpr ⟨List.mem_of_getElem? (i := 122) rfl, 
  List.forall_mem_cons.mpr ⟨List.mem_of_getElem? (i := 123) rfl, 
  List.forall_mem_cons.mpr ⟨List.mem_of_getElem? (i := 124) rfl, 
  List.forall_mem_cons.mpr ⟨List.mem_of_getElem? (i := 125) rfl, 
  List.forall_mem_cons.mpr ⟨List.mem_of_getElem? (i := 126) rfl, 
  List.forall_mem_cons.mpr ⟨List.mem_of_getElem? (i := 127) rfl, 
  List.forall_mem_cons.mpr ⟨List.mem_of_getElem? (i := 128) rfl, 
  List.forall_mem_cons.mpr ⟨List.mem_of_getElem? (i := 129) rfl, 
  List.forall_mem_cons.mpr ⟨List.mem_of_getElem? (i := 130) rfl, 
  List.forall_mem_cons.mpr ⟨List.mem_of_getElem? (i := 131) rfl, 
  List.forall_mem_cons.mpr ⟨List.mem_of_getElem? (i := 132) rfl, 
  List.forall_mem_cons.mpr ⟨List.mem_of_getElem? (i := 133) rfl, 
  List.forall_mem_cons.mpr ⟨List.mem_of_getElem? (i := 134) rfl, 
  List.forall_mem_cons.mpr ⟨List.mem_of_getElem? (i := 135) rfl, 
  List.forall_mem_cons.mpr ⟨List.mem_of_getElem? (i := 136) rfl, 
  List.forall_mem_cons.mpr ⟨List.mem_of_getElem? (i := 137) rfl, 
  List.forall_mem_cons.mpr ⟨List.mem_of_getElem? (i := 138) rfl, 
  List.forall_mem_cons.mpr ⟨List.mem_of_getElem? (i := 139) rfl, fun _ h => (List.not_mem_nil h).elim⟩⟩⟩⟩⟩⟩⟩⟩⟩⟩⟩⟩⟩⟩⟩⟩⟩⟩⟩⟩⟩⟩⟩⟩) (by decide +kernel)
set_option maxRecDepth 20000 in
theorem gqL_workshop_wsL_step_r5 : GoodIn wsL_workshop wsL_step_r5 := goodIn_sub (
  List.forall_mem_cons.mpr ⟨List.mem_of_getElem? (i := 140) rfl, 
  List.forall_mem_cons.mpr ⟨List.mem_of_getElem? (i := 141) rfl, 
  List.forall_mem_cons.mpr ⟨List.mem_of_getElem? (i := 142) rfl, 
  List.forall_mem_cons.mpr ⟨List.mem_of_getElem? (i := 143) rfl, 
  List.forall_mem_cons.mpr ⟨List.mem_of_getElem? (i := 144) rfl, 
  List.forall_mem_cons.mpr ⟨List.mem_of_getElem? (i := 145) rfl, 
  List.forall_mem_cons.mpr ⟨List.mem_of_getElem? (i := 146) rfl, 
  List.forall_mem_cons.mpr ⟨List.mem_of_getElem? (i := 147) rfl, 
  List.forall_mem_cons.mpr ⟨List.mem_of_getElem? (i := 148) rfl, 
  List.forall_mem_cons.mpr ⟨List.mem_of_getElem? (i := 149) rfl, 
  List.forall_mem_cons.mpr ⟨List.mem_of_getElem? (i := 150) rfl, 
  List.forall_mem_cons.mpr ⟨List.mem_of_getElem? (i := 151) rfl, 
  List.forall_mem_cons.mpr ⟨List.mem_of_getElem? (i := 152) rfl, 
  List.forall_mem_cons.mpr ⟨List.mem_of_getElem? (i := 153) rfl, 
  List.forall_mem_cons.mpr ⟨List.mem_of_getElem? (i := 154) rfl, 
  List.forall_mem_cons.mpr ⟨List.mem_of_getElem? (i := 155) rfl, 
  List.forall_mem_cons.mpr ⟨List.mem_of_getElem? (i := 156) rfl, 
  List.forall_mem_cons.mpr ⟨List.mem_of_getElem? (i := 157) rfl, 
  List.forall_mem_cons.mpr ⟨List.mem_of_getElem? (i := 158) rfl, 
  List.forall_mem_cons.mpr ⟨List.mem_of_getElem? (i := 159) rfl, 
  List.forall_mem_cons.mpr ⟨List.mem_of_getElem? (i := 160) rfl, 
  List.forall_mem_cons.mpr ⟨List.mem_of_getElem? (i := 161) rfl, 
  List.forall_mem_cons.mpr ⟨List.mem_of_getElem? (i := 162) rfl, 
  List.forall_mem_cons.mpr ⟨List.mem_of_getElem? (i := 163) rfl, fun _ h => (List.not_mem_nil h).elim⟩⟩⟩⟩⟩⟩⟩⟩⟩⟩⟩⟩⟩⟩⟩⟩⟩⟩⟩⟩⟩⟩⟩⟩) (by decide +kernel)
set_option maxRecDepth 20000 in
theorem gqL_workshop_wsL_step_r6 : GoodIn wsL_workshop wsL_step_r6 := goodIn_sub (
  List.forall_mem_cons.mpr ⟨List.mem_of_getElem? (i := 164) rfl, 
  List.forall_mem_cons.mpr ⟨List.mem_of_getElem? (i := 165) rfl, 
  List.forall_mem_cons.mpr ⟨List.mem_of_getElem? (i := 166) rfl, 
  List.forall_mem_cons.mpr ⟨List.mem_of_getElem? (i := 167) rfl, 
  List.forall_mem_cons.mpr ⟨List.mem_of_getElem? (i := 168) rfl, 
  List.forall_mem_cons.mpr ⟨List.mem_of_getElem? (i := 169) rfl, 
  List.forall_mem_cons.mpr ⟨List.mem_of_getElem? (i := 170) rfl, 
  List.forall_mem_cons.mpr ⟨List.mem_of_getElem? (i := 171) rfl, 
  List.forall_mem_cons.mpr ⟨List.mem_of_getElem? (i := 172) rfl, 
  List.forall_mem_cons.mpr ⟨List.mem_of_getElem? (i := 173) rfl, 
  List.forall_mem_cons.mpr ⟨List.mem_of_getElem? (i := 174) rfl, 
  List.forall_mem_cons.mpr ⟨List.mem_of_getElem? (i := 175) rfl, 
  List.forall_mem_cons.mpr ⟨List.mem_of_getElem? (i := 176) rfl, 
  List.forall_mem_cons.mpr ⟨List.mem_of_getElem? (i := 177) rfl, 
  List.forall_mem_cons.mpr ⟨List.mem_of_getElem? (i := 26) rfl, 
  List.forall_mem_cons.mpr ⟨List.mem_of_getElem? (i := 178) rfl, 
  List.forall_mem_cons.mpr ⟨List.mem_of_getElem? (i := 179) rfl, 
  List.forall_mem_cons.mpr ⟨List.mem_of_getElem? (i := 180) rfl, 
  List.forall_mem_cons.mpr ⟨List.mem_of_getElem? (i := 10) rfl, 
  List.forall_mem_cons.mpr ⟨List.mem_of_getElem? (i := 11) rfl, 
  List.forall_mem_cons.mpr ⟨List.mem_of_getElem? (i := 181) rfl, 
  List.forall_mem_cons.mpr ⟨List.mem_of_getElem? (i := 182) rfl, 
  List.forall_mem_cons.mpr ⟨List.mem_of_getElem? (i := 25) rfl, 
  List.forall_mem_cons.mpr ⟨List.mem_of_getElem? (i := 183) rfl, fun _ h => (List.not_mem_nil h).elim⟩⟩⟩⟩⟩⟩⟩⟩⟩⟩⟩⟩⟩⟩⟩⟩⟩⟩⟩⟩⟩⟩⟩⟩) (by decide +kernel)
set_option maxRecDepth 20000 in
theorem gqL_workshop_wsL_step_r7 : GoodIn wsL_workshop wsL_step_r7 := goodIn_sub (
  List.forall_mem_cons.mpr ⟨List.mem_of_getElem? (i := 184) rfl, 
  List.forall_mem_cons.mpr ⟨List.mem_of_getElem? (i := 55) rfl, 
  List.forall_mem_cons.mpr ⟨List.mem_of_getElem? (i := 185) rfl, 
  List.forall_mem_cons.mpr ⟨List.mem_of_getElem? (i := 186) rfl, 
  List.forall_mem_cons.mpr ⟨List.mem_of_getElem? (i := 187) rfl, 
  List.forall_mem_cons.mpr ⟨List.mem_of_getElem? (i := 188) rfl, 
  List.forall_mem_cons.mpr ⟨List.mem_of_getElem? (i := 189) rfl, 
  List.forall_mem_cons.mpr ⟨List.mem_of_getElem? (i := 190) rfl, 
  List.forall_mem_cons.mpr ⟨List.mem_of_getElem? (i := 191) rfl, 
  List.forall_mem_cons.mpr ⟨List.mem_of_getElem? (i := 192) rfl, 
  List.forall_mem_cons.mpr ⟨List.mem_of_getElem? (i := 193) rfl, 
  List.forall_mem_cons.mpr ⟨List.mem_of_getElem? (i := 194) rfl, 
  List.forall_mem_cons.mpr ⟨List.mem_of_getElem? (i := 195) rfl, 
  List.forall_mem_cons.mpr ⟨List.mem_of_getElem? (i := 196) rfl, 
  List.forall_mem_cons.mpr ⟨List.mem_of_getElem? (i := 197) rfl, 
  List.forall_mem_cons.mpr ⟨List.mem_of_getElem? (i := 198) rfl, 
  List.forall_mem_cons.mpr ⟨List.mem_of_getElem? (i := 199) rfl, 
  List.forall_mem_cons.mpr ⟨List.mem_of_getElem? (i := 200) rfl, 
  List.forall_mem_cons.mpr ⟨List.mem_of_getElem? (i := 201) rfl, 
  List.forall_mem_cons.mpr ⟨List.mem_of_getElem? (i := 202) rfl, 
  List.forall_mem_cons.mpr ⟨List.mem_of_getElem? (i := 203) rfl, 
  List.forall_mem_cons.mpr ⟨List.mem_of_getElem? (i := 204) rfl, 
  List.forall_mem_cons.mpr ⟨List.mem_of_getElem? (i := 205) rfl, 
  List.forall_mem_cons.mpr ⟨List.mem_of_getElem? (i := 206) rfl, fun _ h => (List.not_mem_nil h).elim⟩⟩⟩⟩⟩⟩⟩⟩⟩⟩⟩⟩⟩⟩⟩⟩⟩⟩⟩⟩⟩⟩⟩⟩) (by decide +kernel)
set_option maxRecDepth 20000 in
theorem gqL_workshop_wsL_step_r8 : GoodIn wsL_workshop wsL_step_r8 := goodIn_sub (
  List.forall_mem_cons.mpr ⟨List.mem_of_getElem? (i := 207) rfl, 
  List.forall_mem_cons.mpr ⟨List.mem_of_getElem? (i := 208) rfl, 
  List.forall_mem_cons.mpr ⟨List.mem_of_getElem? (i := 209) rfl, 
  List.forall_mem_cons.mpr ⟨List.mem_of_getElem? (i := 210) rfl, 
  List.forall_mem_cons.mpr ⟨List.mem_of_getElem? (i := 211) rfl, 
  List.forall_mem_cons.mpr ⟨List.mem_of_getElem? (i := 212) rfl, 
  List.forall_mem_cons.mpr ⟨List.mem_of_getElem? (i := 213) rfl, 
  List.forall_mem_cons.mpr ⟨List.mem_of_getElem? (i := 214) rfl, 
  List.forall_mem_cons.mpr ⟨List.mem_of_getElem? (i := 215) rfl, 
  List.forall_mem_cons.mpr ⟨List.mem_of_getElem? (i := 216) rfl, 
  List.forall_mem_cons.mpr ⟨List.mem_of_getElem? (i := 217) rfl, 
  List.forall_mem_cons.mpr ⟨List.mem_of_getElem? (i := 218) rfl, 
  List.forall_mem_cons.mpr ⟨List.mem_of_getElem? (i := 219) rfl, 
  List.forall_mem_cons.mpr ⟨List.mem_of_getElem? (i := 220) rfl, 
  List.forall_mem_cons.mpr ⟨List.mem_of_getElem? (i := 221) rfl, 
  List.forall_mem_cons.mpr ⟨List.mem_of_getElem? (i := 222) rfl, 
  List.forall_mem_cons.mpr ⟨List.mem_of_getElem? (i := 223) rfl, 
  List.forall_mem_cons.mpr ⟨List.mem_of_getElem? (i := 224) rfl, 
  List.forall_mem_cons.mpr ⟨List.mem_of_getElem? (i := 225) rfl, 
  List.forall_mem_cons.mpr ⟨List.mem_of_getElem? (i := 226) rfl, 
  List.forall_mem_cons.mpr ⟨List.mem_of_getElem? (i := 227) rfl, 
  List.forall_mem_cons.mpr ⟨List.mem_of_getElem? (i := 228) rfl, 
  List.forall_mem_cons.mpr ⟨List.mem_of_getElem? (i := 229) rfl, 
  List.forall_mem_cons.mpr ⟨List.mem_of_getElem? (i := 230) rfl, fun _ h => (List.not_mem_nil h).elim⟩⟩⟩⟩⟩⟩⟩⟩⟩⟩⟩⟩⟩⟩⟩⟩⟩⟩⟩⟩⟩⟩⟩⟩) (by decide +kernel)
set_option maxRecDepth 20000 in
theorem gqL_workshop_wsL_step_r9 : GoodIn wsL_workshop wsL_step_r9 := goodIn_sub (
  List.forall_mem_cons.mpr ⟨List.mem_of_getElem? (i := 231) rfl, 
  List.forall_mem_cons.mpr ⟨List.mem_of_getElem? (i := 232) rfl, 
  List.forall_mem_cons.mpr ⟨List.mem_of_getElem? (i := 233) rfl, 
  List.forall_mem_cons.mpr ⟨List.mem_of_getElem? (i := 234) rfl, 
  List.forall_mem_cons.mpr ⟨List.mem_of_getElem? (i := 235) rfl, 
  List.forall_mem_cons.mpr ⟨List.mem_of_getElem? (i := 236) rfl, 
  List.forall_mem_cons.mpr ⟨List.mem_of_getElem? (i := 237) rfl, 
  List.forall_mem_cons.mpr ⟨List.mem_of_getElem? (i := 238) rfl, 
  List.forall_mem_cons.mpr ⟨List.mem_of_getElem? (i := 239) rfl, 
  List.forall_mem_cons.mpr ⟨List.mem_of_getElem? (i := 240) rfl, 
  List.forall_mem_cons.mpr ⟨List.mem_of_getElem? (i := 241) rfl, 
  List.forall_mem_cons.mpr ⟨List.mem_of_getElem? (i := 242) rfl, 
  List.forall_mem_cons.mpr ⟨List.mem_of_getElem? (i := 243) rfl, 
  List.forall_mem_cons.mpr ⟨List.mem_of_getElem? (i := 244) rfl, 
  List.forall_mem_cons.mpr ⟨List.mem_of_getElem? (i := 245) rfl, 
  List.forall_mem_cons.mpr ⟨List.mem_of_getElem? (i := 17) rfl, 
  List.forall_mem_cons.mpr ⟨List.mem_of_getElem? (i := 246) rfl, 
  List.forall_mem_cons.mpr ⟨List.mem_of_getElem? (i := 247) rfl, 
  List.forall_mem_cons.mpr ⟨List.mem_of_getElem? (i := 248) rfl, 
  List.forall_mem_cons.mpr ⟨List.mem_of_getElem? (i := 249) rfl, 
  List.forall_mem_cons.mpr ⟨List.mem_of_getElem? (i := 250) rfl, 
  List.forall_mem_cons.mpr ⟨List.mem_of_getElem? (i := 251) rfl, 
  List.forall_mem_cons.mpr ⟨List.mem_of_getElem? (i := 252) rfl, 
  List.forall_mem_cons.mpr ⟨List.mem_of_getElem? (i := 253) rfl, fun _ h => (List.not_mem_nil h).elim⟩⟩⟩⟩⟩⟩⟩⟩⟩⟩⟩⟩⟩⟩⟩⟩⟩⟩⟩⟩⟩⟩⟩⟩) (by decide +kernel)
set_option maxRecDepth 20000 in
theorem gqL_workshop_wsL_step_r10 : GoodIn wsL_workshop wsL_step_r10 := goodIn_sub (
  List.forall_mem_cons.mpr ⟨List.mem_of_getElem? (i := 254) rfl, 
  List.forall_mem_cons.mpr ⟨List.mem_of_getElem? (i := 255) rfl, 
  List.forall_mem_cons.mpr ⟨List.mem_of_getElem? (i := 256) rfl, 
  List.forall_mem_cons.mpr ⟨List.mem_of_getElem? (i := 257) rfl, 
  List.forall_mem_cons.mpr ⟨List.mem_of_getElem? (i := 258) rfl, 
  List.forall_mem_cons.mpr ⟨List.mem_of_getElem? (i := 259) rfl, 
  List.forall_mem_cons.mpr ⟨List.mem_of_getElem? (i := 260) rfl, 
  List.forall_mem_cons.mpr ⟨List.mem_of_getElem? (i := 261) rfl, 
  List.forall_mem_cons.mpr ⟨List.mem_of_getElem? (i := 262) rfl, 
  List.forall_mem_cons.mpr ⟨List.mem_of_getElem? (i := 263) rfl, 
  List.forall_mem_cons.mpr ⟨List.mem_of_getElem? (i := 264) rfl, 
  List.forall_mem_cons.mpr ⟨List.mem_of_getElem? (i := 265) rfl, 
  List.forall_mem_cons.mpr ⟨List.mem_of_getElem? (i := 266) rfl, 
  List.forall_mem_cons.mpr ⟨List.mem_of_getElem? (i := 267) rfl, 
  List.forall_mem_cons.mpr ⟨List.mem_of_getElem? (i := 268) rfl, 
  List.forall_mem_cons.mpr ⟨List.mem_of_getElem? (i := 269) rfl, 
  List.forall_mem_cons.mpr ⟨List.mem_of_getElem? (i := 270) rfl, 
  List.forall_mem_cons.mpr ⟨List.mem_of_getElem? (i := 22) rfl, 
  List.forall_mem_cons.mpr ⟨List.mem_of_getElem? (i := 271) rfl, 
  List.forall_mem_cons.mpr ⟨List.mem_of_getElem? (i := 21) rfl, 
  List.forall_mem_cons.mpr ⟨List.mem_of_getElem? (i := 272) rfl, 
  List.forall_mem_cons.mpr ⟨List.mem_of_getElem? (i := 273) rfl, 
  List.forall_mem_cons.mpr ⟨List.mem_of_getElem? (i := 274) rfl, 
  List.forall_mem_cons.mpr ⟨List.mem_of_getElem? (i := 275) rfl, fun _ h => (List.not_mem_nil h).elim⟩⟩⟩⟩⟩⟩⟩⟩⟩⟩⟩⟩⟩⟩⟩⟩⟩⟩⟩⟩⟩⟩⟩⟩) (by decide +kernel)
set_option maxRecDepth 20000 in
theorem gqL_workshop_wsL_step_r11 : GoodIn wsL_workshop wsL_step_r11 := goodIn_sub (
  List.forall_mem_cons.mpr ⟨List.mem_of_getElem? (i := 276) rfl, 
  List.forall_mem_cons.mpr ⟨List.mem_of_getElem? (i := 277) rfl, 
  List.forall_mem_cons.mpr ⟨List.mem_of_getElem? (i := 50) rfl, 
  List.forall_mem_cons.mpr ⟨List.mem_of_getElem? (i := 51) rfl, 
  List.forall_mem_cons.mpr ⟨List.mem_of_getElem? (i := 49) rfl, 
  List.forall_mem_cons.mpr ⟨List.mem_of_getElem? (i := 278) rfl, 
  List.forall_mem_cons.mpr ⟨List.mem_of_getElem? (i := 279) rfl, 
  List.forall_mem_cons.mpr ⟨List.mem_of_getElem? (i := 280) rfl, 
  List.forall_mem_cons.mpr ⟨List.mem_of_getElem? (i := 281) rfl, 
  List.forall_mem_cons.mpr ⟨List.mem_of_getElem? (i := 282) rfl, 
  List.forall_mem_cons.mpr ⟨List.mem_of_getElem? (i := 283) rfl, 
  List.forall_mem_cons.mpr ⟨List.mem_of_getElem? (i := 284) rfl, 
  List.forall_mem_cons.mpr ⟨List.mem_of_getElem? (i := 285) rfl, 
  List.forall_mem_cons.mpr ⟨List.mem_of_getElem? (i := 286) rfl, 
  List.forall_mem_cons.mpr ⟨List.mem_of_getElem? (i := 287) rfl, 
  List.forall_mem_cons.mpr ⟨List.mem_of_getElem? (i := 288) rfl, 
  List.forall_mem_cons.mpr ⟨List.mem_of_getElem? (i := 289) rfl, 
  List.forall_mem_cons.mpr ⟨List.mem_of_getElem? (i := 290) rfl, 
  List.forall_mem_cons.mpr ⟨List.mem_of_getElem? (i := 291) rfl, 
  List.forall_mem_cons.mpr ⟨List.mem_of_getElem? (i := 292) rfl, 
  List.forall_mem_cons.mpr ⟨List.mem_of_getElem? (i := 293) rfl, 
  List.forall_mem_cons.mpr ⟨List.mem_of_getElem? (i := 294) rfl, 
  List.forall_mem_cons.mpr ⟨List.mem_of_getElem? (i := 295) rfl, 
  List.forall_mem_cons.mpr ⟨List.mem_of_getElem? (i := 296) rfl, fun _ h => (List.not_mem_nil h).elim⟩⟩⟩⟩⟩⟩⟩⟩⟩⟩⟩⟩⟩⟩⟩⟩⟩⟩⟩⟩⟩⟩⟩⟩) (by decide +kernel)
set_option maxRecDepth 20000 in
theorem gqL_workshop_wsL_step_r12 : GoodIn wsL_workshop wsL_step_r12 := goodIn_sub (
  List.forall_mem_cons.mpr ⟨List.mem_of_getElem? (i := 297) rfl, 
  List.forall_mem_cons.mpr ⟨List.mem_of_getElem? (i := 298) rfl, 
  List.forall_mem_cons.mpr ⟨List.mem_of_getElem? (i := 299) rfl, 
  List.forall_mem_cons.mpr ⟨List.mem_of_getElem? (i := 300) rfl, 
  List.forall_mem_cons.mpr ⟨List.mem_of_getElem? (i := 301) rfl, 
  List.forall_mem_cons.mpr ⟨List.mem_of_getElem? (i := 302) rfl, 
  List.forall_mem_cons.mpr ⟨List.mem_of_getElem? (i := 303) rfl, 
  List.forall_mem_cons.mpr ⟨List.mem_of_getElem? (i := 304) rfl, 
  List.forall_mem_cons.mpr ⟨List.mem_of_getElem? (i := 305) rfl, 
  List.forall_mem_cons.mpr ⟨List.mem_of_getElem? (i := 306) rfl, 
  List.forall_mem_cons.mpr ⟨List.mem_of_getElem? (i := 307) rfl, 
  List.forall_mem_cons.mpr ⟨List.mem_of_getElem? (i := 308) rfl, 
  List.forall_mem_cons.mpr ⟨List.mem_of_getElem? (i := 309) rfl, 
  List.forall_mem_cons.mpr ⟨List.mem_of_getElem? (i := 310) rfl, 
  List.forall_mem_cons.mpr ⟨List.mem_of_getElem? (i := 311) rfl, 
  List.forall_mem_cons.mpr ⟨List.mem_of_getElem? (i := 312) rfl, 
  List.forall_mem_cons.mpr ⟨List.mem_of_getElem? (i := 313) rfl, 
  List.forall_mem_cons.mpr ⟨List.mem_of_getElem? (i := 314) rfl, 
  List.forall_mem_cons.mpr ⟨List.mem_of_getElem? (i := 315) rfl, 
  List.forall_mem_cons.mpr ⟨List.mem_of_getElem? (i := 316) rfl, 
  List.forall_mem_cons.mpr ⟨List.mem_of_getElem? (i := 317) rfl, 
  List.forall_mem_cons.mpr ⟨List.mem_of_getElem? (i := 318) rfl, 
  List.forall_mem_cons.mpr ⟨List.mem_of_getElem? (i := 319) rfl, 
  List.forall_mem_cons.mpr ⟨List.mem_of_getElem? (i := 320) rfl, fun _ h => (List.not_mem_nil h).elim⟩⟩⟩⟩⟩⟩⟩⟩⟩⟩⟩⟩⟩⟩⟩⟩⟩⟩⟩⟩⟩⟩⟩⟩) (by decide +kernel)
set_option maxRecDepth 20000 in
theorem gqL_workshop_wsL_step_r13 : GoodIn wsL_workshop wsL_step_r13 := goodIn_sub (
  List.forall_mem_cons.mpr ⟨List.mem_of_getElem? (i := 321) rfl, fun _ h => (List.not_mem_nil h).elim⟩) (by decide +kernel)
set_option maxRecDepth 20000 in
theorem gqL_workshop_L_step_all : GoodIn wsL_workshop (Cond.code yL_step cL_step 12 (some .boolean) :: ((wsL_step_r1 ++ (wsL_step_r2 ++ (wsL_step_r3 ++ (wsL_step_r4 ++ (wsL_step_r5 ++ (wsL_step_r6 ++ (wsL_step_r7 ++ (wsL_step_r8 ++ (wsL_step_r9 ++ (wsL_step_r10 ++ (wsL_step_r11 ++ (wsL_step_r12 ++ wsL_step_r13)))))))))))) ++ wsX40 ++ wsX00 ++ wsX10 ++ wsX30 ++ wsX20)) := fun w h => (List.mem_cons.mp h).elim (fun e => by rw [e]; exact ⟨List.mem_of_getElem? (i := 65) rfl, good_of_word (by decide +kernel)⟩) ((goodIn_app (goodIn_app (goodIn_app (goodIn_app (goodIn_app (goodIn_app gqL_workshop_wsL_step_r1 (goodIn_app gqL_workshop_wsL_step_r2 (goodIn_app gqL_workshop_wsL_step_r3 (goodIn_app gqL_workshop_wsL_step_r4 (goodIn_app gqL_workshop_wsL_step_r5 (goodIn_app gqL_workshop_wsL_step_r6 (goodIn_app gqL_workshop_wsL_step_r7 (goodIn_app gqL_workshop_wsL_step_r8 (goodIn_app gqL_workshop_wsL_step_r9 (goodIn_app gqL_workshop_wsL_step_r10 (goodIn_app gqL_workshop_wsL_step_r11 (goodIn_app gqL_workshop_wsL_step_r12 gqL_workshop_wsL_step_r13)))))))))))) (goodIn_sub (ws := wsX40) (fun w h => List.mem_cons_of_mem _ (List.mem_append_left _ (List.mem_append_left _ (List.mem_append_left _ (List.mem_append_left _ (List.mem_append_left _ (List.mem_append_left _ (List.mem_append_left _ (List.mem_append_right _ h))))))))) (by decide +kernel))) (goodIn_sub (ws := wsX00) (fun w h => List.mem_cons_of_mem _ (List.mem_append_left _ (List.mem_append_left _ (List.mem_append_left _ (List.mem_append_left _ (List.mem_append_left _ (List.mem_append_left _ (List.mem_append_right _ h)))))))) (by decide +kernel))) (goodIn_sub (ws := wsX10) (fun w h => List.mem_cons_of_mem _ (List.mem_append_left _ (List.mem_append_left _ (List.mem_append_left _ (List.mem_append_right _ h))))) (by decide +kernel))) (goodIn_sub (ws := wsX30) (fun w h => List.mem_cons_of_mem _ (List.mem_append_left _ (List.mem_append_left _ (List.mem_append_left _ (List.mem_append_left _ (List.mem_append_right _ h)))))) (by decide +kernel))) (goodIn_sub (ws := wsX20) (fun w h => List.mem_cons_of_mem _ (List.mem_append_left _ (List.mem_append_left _ (List.mem_append_left _ (List.mem_append_left _ (List.mem_append_left _ (List.mem_append_right _ h))))))) (by decide +kernel))) w)
set_option maxRecDepth 20000 in
theorem ggL_workshop_L_step : GoodIn wsL_workshop wsL_step := goodIn_ca (goodIn_ca (goodIn_ca (gqL_workshop_L_step_all) (goodIn_sub (fun _ h => List.mem_cons_of_mem _ (List.mem_append_left _ (List.mem_append_left _ (List.mem_append_right _ h)))) (by decide +kernel))) (goodIn_sub (fun _ h => List.mem_cons_of_mem _ (List.mem_append_left _ (List.mem_append_right _ h))) (by decide +kernel))) (goodIn_sub (fun _ h => List.mem_cons_of_mem _ (List.mem_append_right _ h)) (by decide +kernel))
set_option maxRecDepth 20000 in
theorem gL_workshop_L_step : GoodIn wsL_workshop (va_wsS RL 122 yL_step wsL_step) := goodIn_app (goodIn_of _ (by decide +kernel)) ggL_workshop_L_step
set_option maxRecDepth 20000 in
theorem ggL_workshop_L_isBoard : GoodIn wsL_workshop wsL_isBoard := goodIn_ca (goodIn_ca (goodIn_r _ [324, 325, 326, 327, 3, 328, 16, 82, 14, 83, 84, 36, 85, 86, 87, 88, 89, 90, 91, 329, 330, 331, 332, 18, 95, 96, 58, 97, 98, 99, 100, 101, 102, 103, 104, 105, 106, 107, 108, 109, 219, 220, 221, 222, 120, 121, 122, 123, 124, 125, 129, 130, 131, 30, 132, 133, 134, 39, 40, 41, 227, 228, 229, 230, 15, 249, 250, 251, 252, 207, 208, 209, 210, 145, 146, 147, 148, 152, 153, 154, 155, 156, 157, 158, 159, 37, 38, 35, 218, 333, 334, 335, 336, 278, 279, 280, 164, 165, 166, 167, 337, 338, 339, 340, 138, 139, 140, 141, 142, 143, 144, 149, 150, 151, 160, 161, 162, 163, 223, 224, 225, 226, 70, 71, 215, 25, 216, 195, 196, 197, 198, 199, 200, 201, 202, 203, 204, 205, 135, 136, 137, 206, 217, 350, 351, 352, 353, 354, 355, 356, 357, 358, 359, 360] (by decide +kernel) (by decide +kernel)) (goodIn_sub (fun _ h => List.mem_cons_of_mem _ (List.mem_append_right _ h)) (by decide +kernel))) (goodIn_sub (fun _ h => List.mem_cons_of_mem _ (List.mem_append_left _ (List.mem_append_left _ (List.mem_append_right _ h)))) (by decide +kernel))
set_option maxRecDepth 20000 in
theorem gL_workshop_L_isBoard : GoodIn wsL_workshop (va_wsS RL 126 yL_isBoard wsL_isBoard) := goodIn_app (goodIn_of _ (by decide +kernel)) ggL_workshop_L_isBoard
set_option maxRecDepth 20000 in
theorem ggL_workshop_L_canBe : GoodIn wsL_workshop wsL_canBe := goodIn_ca (goodIn_ca (goodIn_r _ [343, 231, 232, 233, 3, 234, 16, 120, 121, 122, 123, 124, 125, 82, 14, 83, 84, 36, 85, 86, 87, 88, 89, 90, 91, 126, 127, 128, 70, 71, 202, 203, 204, 164, 165, 166, 167, 145, 146, 147, 148, 30, 132, 133, 134, 39, 40, 41, 205, 135, 136, 137, 206, 207, 208, 209, 210, 129, 130, 131, 152, 153, 154, 155, 156, 157, 158, 159, 37, 38, 35, 160, 161, 162, 163, 149, 150, 151, 95, 96, 58, 97, 98, 99, 100, 101, 102, 103, 104, 105, 106, 107, 108, 109, 350, 351, 352, 353, 354, 355, 356, 357, 358, 359, 360] (by decide +kernel) (by decide +kernel)) (goodIn_sub (fun _ h => List.mem_cons_of_mem _ (List.mem_append_right _ h)) (by decide +kernel))) (goodIn_sub (fun _ h => List.mem_cons_of_mem _ (List.mem_append_left _ (List.mem_append_left _ (List.mem_append_right _ h)))) (by decide +kernel))
set_option maxRecDepth 20000 in
theorem gL_workshop_L_canBe : GoodIn wsL_workshop (va_wsS RL 130 yL_canBe wsL_canBe) := goodIn_app (goodIn_of _ (by decide +kernel)) ggL_workshop_L_canBe
set_option maxRecDepth 20000 in
theorem ggL_workshop_L_isHidden : GoodIn wsL_workshop wsL_isHidden := goodIn_ca (goodIn_r _ [346, 260, 261, 262, 3, 263, 16, 120, 121, 122, 123, 124, 125, 82, 14, 83, 84, 36, 85, 86, 87, 88, 89, 90, 91, 264, 265, 266, 145, 146, 147, 148, 30, 149, 150, 151, 152, 153, 154, 155, 156, 157, 158, 159, 37, 38, 35, 164, 165, 166, 167, 133, 134, 39, 40, 41, 104, 105, 58, 106, 249, 250, 251, 252, 207, 208, 209, 210, 129, 130, 131, 132, 218, 350, 351, 352, 353, 354, 355, 356, 357, 358, 359, 360] (by decide +kernel) (by decide +kernel)) (goodIn_sub (fun _ h => List.mem_cons_of_mem _ (List.mem_append_right _ h)) (by decide +kernel))
set_option maxRecDepth 20000 in
theorem gL_workshop_L_isHidden : GoodIn wsL_workshop (va_wsS RL 133 yL_isHidden wsL_isHidden) := goodIn_app (goodIn_of _ (by decide +kernel)) ggL_workshop_L_isHidden
set_option maxRecDepth 20000 in
theorem ggL_workshop_L_areShapes : GoodIn wsL_workshop wsL_areShapes := goodIn_ca (goodIn_r _ [349, 267, 268, 269, 3, 270, 22, 16, 120, 121, 122, 123, 124, 125, 82, 14, 83, 84, 36, 85, 86, 87, 88, 89, 90, 91, 271, 21, 272, 273, 274, 275, 276, 277, 50, 51, 49, 129, 130, 131, 30, 132, 133, 134, 39, 40, 41, 207, 208, 209, 210, 145, 146, 147, 148, 152, 153, 154, 155, 156, 157, 158, 159, 37, 38, 35, 278, 279, 280, 164, 165, 166, 167, 281, 282, 283, 149, 150, 151, 284, 285, 286, 287, 98, 99, 58, 100, 101, 102, 103, 104, 105, 106, 288, 289, 290, 291, 292, 293, 294, 107, 108, 109, 350, 351, 352, 353, 354, 355, 361, 362, 363, 356, 357, 358, 359, 360] (by decide +kernel) (by decide +kernel)) (goodIn_sub (fun _ h => List.mem_cons_of_mem _ (List.mem_append_right _ h)) (by decide +kernel))
set_option maxRecDepth 20000 in
theorem gL_workshop_L_areShapes : GoodIn wsL_workshop (va_wsS RL 135 yL_areShapes wsL_areShapes) := goodIn_app (goodIn_of _ (by decide +kernel)) ggL_workshop_L_areShapes
theorem dL_workshop_0 : decode cL_workshop 0 = .ok (.new 29, 3) := by decide +kernel
theorem dL_workshop_3 : decode cL_workshop 3 = .ok (.dup, 1) := by decide +kernel
theorem dL_workshop_4 : decode cL_workshop 4 = .ok (.invokespecial 117, 3) := by decide +kernel
theorem dL_workshop_7 : decode cL_workshop 7 = .ok (.astore_n 2, 1) := by decide +kernel
theorem dL_workshop_8 : decode cL_workshop 8 = .ok (.bipush 12, 2) := by decide +kernel
theorem dL_workshop_10 : decode cL_workshop 10 = .ok (.newarray .int, 2) := by decide +kernel
theorem dL_workshop_12 : decode cL_workshop 12 = .ok (.astore_n 3, 1) := by decide +kernel
theorem dL_workshop_13 : decode cL_workshop 13 = .ok (.bipush 12, 2) := by decide +kernel
theorem dL_workshop_15 : decode cL_workshop 15 = .ok (.newarray .int, 2) := by decide +kernel
theorem dL_workshop_17 : decode cL_workshop 17 = .ok (.astore 4, 2) := by decide +kernel
theorem dL_workshop_19 : decode cL_workshop 19 = .ok (.iconst 3, 1) := by decide +kernel
theorem dL_workshop_20 : decode cL_workshop 20 = .ok (.newarray .int, 2) := by decide +kernel
theorem dL_workshop_22 : decode cL_workshop 22 = .ok (.astore 5, 2) := by decide +kernel
theorem dL_workshop_24 : decode cL_workshop 24 = .ok (.bipush 12, 2) := by decide +kernel
theorem dL_workshop_26 : decode cL_workshop 26 = .ok (.newarray .int, 2) := by decide +kernel
theorem dL_workshop_28 : decode cL_workshop 28 = .ok (.astore 6, 2) := by decide +kernel
theorem dL_workshop_30 : decode cL_workshop 30 = .ok (.aload 5, 2) := by decide +kernel
theorem dL_workshop_32 : decode cL_workshop 32 = .ok (.iconst 0, 1) := by decide +kernel
theorem dL_workshop_33 : decode cL_workshop 33 = .ok (.iconst 3, 1) := by decide +kernel
theorem dL_workshop_34 : decode cL_workshop 34 = .ok (.iastore, 1) := by decide +kernel
theorem dL_workshop_35 : decode cL_workshop 35 = .ok (.aload 5, 2) := by decide +kernel
theorem dL_workshop_37 : decode cL_workshop 37 = .ok (.iconst 1, 1) := by decide +kernel
theorem dL_workshop_38 : decode cL_workshop 38 = .ok (.iconst 3, 1) := by decide +kernel
theorem dL_workshop_39 : decode cL_workshop 39 = .ok (.iastore, 1) := by decide +kernel
theorem dL_workshop_40 : decode cL_workshop 40 = .ok (.iconst 0, 1) := by decide +kernel
theorem dL_workshop_41 : decode cL_workshop 41 = .ok (.istore 7, 2) := by decide +kernel
theorem dL_workshop_43 : decode cL_workshop 43 = .ok (.iload 7, 2) := by decide +kernel
theorem dL_workshop_45 : decode cL_workshop 45 = .ok (.bipush 40, 2) := by decide +kernel
theorem dL_workshop_47 : decode cL_workshop 47 = .ok (.if_icmp .ge 226, 3) := by decide +kernel
theorem dL_workshop_50 : decode cL_workshop 50 = .ok (.aload_n 0, 1) := by decide +kernel
theorem dL_workshop_51 : decode cL_workshop 51 = .ok (.iload_n 1, 1) := by decide +kernel
theorem dL_workshop_52 : decode cL_workshop 52 = .ok (.iconst 3, 1) := by decide +kernel
theorem dL_workshop_53 : decode cL_workshop 53 = .ok (.iload 7, 2) := by decide +kernel
theorem dL_workshop_55 : decode cL_workshop 55 = .ok (.imul, 1) := by decide +kernel
theorem dL_workshop_56 : decode cL_workshop 56 = .ok (.iadd, 1) := by decide +kernel
theorem dL_workshop_57 : decode cL_workshop 57 = .ok (.iconst 1, 1) := by decide +kernel
theorem dL_workshop_58 : decode cL_workshop 58 = .ok (.iadd, 1) := by decide +kernel
theorem dL_workshop_59 : decode cL_workshop 59 = .ok (.ldc 118, 2) := by decide +kernel
theorem dL_workshop_61 : decode cL_workshop 61 = .ok (.invokestatic 119, 3) := by decide +kernel
theorem dL_workshop_64 : decode cL_workshop 64 = .ok (.istore 8, 2) := by decide +kernel
theorem dL_workshop_66 : decode cL_workshop 66 = .ok (.aload_n 0, 1) := by decide +kernel
theorem dL_workshop_67 : decode cL_workshop 67 = .ok (.iload_n 1, 1) := by decide +kernel
theorem dL_workshop_68 : decode cL_workshop 68 = .ok (.iconst 3, 1) := by decide +kernel
theorem dL_workshop_69 : decode cL_workshop 69 = .ok (.iload 7, 2) := by decide +kernel
theorem dL_workshop_71 : decode cL_workshop 71 = .ok (.imul, 1) := by decide +kernel
theorem dL_workshop_72 : decode cL_workshop 72 = .ok (.iadd, 1) := by decide +kernel
theorem dL_workshop_73 : decode cL_workshop 73 = .ok (.iconst 2, 1) := by decide +kernel
theorem dL_workshop_74 : decode cL_workshop 74 = .ok (.iadd, 1) := by decide +kernel
theorem dL_workshop_75 : decode cL_workshop 75 = .ok (.ldc 118, 2) := by decide +kernel
theorem dL_workshop_77 : decode cL_workshop 77 = .ok (.invokestatic 119, 3) := by decide +kernel
theorem dL_workshop_80 : decode cL_workshop 80 = .ok (.istore 9, 2) := by decide +kernel
theorem dL_workshop_82 : decode cL_workshop 82 = .ok (.iload 7, 2) := by decide +kernel
theorem dL_workshop_84 : decode cL_workshop 84 = .ok (.ifCond .ne 7, 3) := by decide +kernel
theorem dL_workshop_87 : decode cL_workshop 87 = .ok (.iconst 0, 1) := by decide +kernel
theorem dL_workshop_88 : decode cL_workshop 88 = .ok (.goto 52, 3) := by decide +kernel
theorem dL_workshop_91 : decode cL_workshop 91 = .ok (.iload 7, 2) := by decide +kernel
theorem dL_workshop_93 : decode cL_workshop 93 = .ok (.iconst 1, 1) := by decide +kernel
theorem dL_workshop_94 : decode cL_workshop 94 = .ok (.if_icmp .ne 7, 3) := by decide +kernel
theorem dL_workshop_97 : decode cL_workshop 97 = .ok (.iconst 3, 1) := by decide +kernel
theorem dL_workshop_98 : decode cL_workshop 98 = .ok (.goto 42, 3) := by decide +kernel
theorem dL_workshop_101 : decode cL_workshop 101 = .ok (.aload_n 0, 1) := by decide +kernel
theorem dL_workshop_102 : decode cL_workshop 102 = .ok (.iload_n 1, 1) := by decide +kernel
theorem dL_workshop_103 : decode cL_workshop 103 = .ok (.iconst 3, 1) := by decide +kernel
theorem dL_workshop_104 : decode cL_workshop 104 = .ok (.iload 7, 2) := by decide +kernel
theorem dL_workshop_106 : decode cL_workshop 106 = .ok (.imul, 1) := by decide +kernel
theorem dL_workshop_107 : decode cL_workshop 107 = .ok (.iadd, 1) := by decide +kernel
theorem dL_workshop_108 : decode cL_workshop 108 = .ok (.iload 9, 2) := by decide +kernel
theorem dL_workshop_110 : decode cL_workshop 110 = .ok (.bipush 9, 2) := by decide +kernel
theorem dL_workshop_112 : decode cL_workshop 112 = .ok (.irem, 1) := by decide +kernel
theorem dL_workshop_113 : decode cL_workshop 113 = .ok (.ifCond .ne 8, 3) := by decide +kernel
theorem dL_workshop_116 : decode cL_workshop 116 = .ok (.bipush 16, 2) := by decide +kernel
theorem dL_workshop_118 : decode cL_workshop 118 = .ok (.goto 5, 3) := by decide +kernel
theorem dL_workshop_121 : decode cL_workshop 121 = .ok (.bipush 15, 2) := by decide +kernel
theorem dL_workshop_123 : decode cL_workshop 123 = .ok (.invokestatic 119, 3) := by decide +kernel
theorem dL_workshop_126 : decode cL_workshop 126 = .ok (.iload 9, 2) := by decide +kernel
theorem dL_workshop_128 : decode cL_workshop 128 = .ok (.bipush 9, 2) := by decide +kernel
theorem dL_workshop_130 : decode cL_workshop 130 = .ok (.irem, 1) := by decide +kernel
theorem dL_workshop_131 : decode cL_workshop 131 = .ok (.ifCond .ne 7, 3) := by decide +kernel
theorem dL_workshop_134 : decode cL_workshop 134 = .ok (.iconst 0, 1) := by decide +kernel
theorem dL_workshop_135 : decode cL_workshop 135 = .ok (.goto 4, 3) := by decide +kernel
theorem dL_workshop_138 : decode cL_workshop 138 = .ok (.iconst 1, 1) := by decide +kernel
theorem dL_workshop_139 : decode cL_workshop 139 = .ok (.iadd, 1) := by decide +kernel
theorem dL_workshop_140 : decode cL_workshop 140 = .ok (.istore 10, 2) := by decide +kernel
theorem dL_workshop_142 : decode cL_workshop 142 = .ok (.aload_n 2, 1) := by decide +kernel
theorem dL_workshop_143 : decode cL_workshop 143 = .ok (.iload 10, 2) := by decide +kernel
theorem dL_workshop_145 : decode cL_workshop 145 = .ok (.iload 8, 2) := by decide +kernel
theorem dL_workshop_147 : decode cL_workshop 147 = .ok (.iload 7, 2) := by decide +kernel
theorem dL_workshop_149 : decode cL_workshop 149 = .ok (.iconst 1, 1) := by decide +kernel
theorem dL_workshop_150 : decode cL_workshop 150 = .ok (.if_icmp .ne 12, 3) := by decide +kernel
theorem dL_workshop_153 : decode cL_workshop 153 = .ok (.iload 9, 2) := by decide +kernel
theorem dL_workshop_155 : decode cL_workshop 155 = .ok (.iconst 3, 1) := by decide +kernel
theorem dL_workshop_156 : decode cL_workshop 156 = .ok (.idiv, 1) := by decide +kernel
theorem dL_workshop_157 : decode cL_workshop 157 = .ok (.iconst 3, 1) := by decide +kernel
theorem dL_workshop_158 : decode cL_workshop 158 = .ok (.imul, 1) := by decide +kernel
theorem dL_workshop_159 : decode cL_workshop 159 = .ok (.goto 5, 3) := by decide +kernel
theorem dL_workshop_162 : decode cL_workshop 162 = .ok (.iload 9, 2) := by decide +kernel
theorem dL_workshop_164 : decode cL_workshop 164 = .ok (.aload_n 3, 1) := by decide +kernel
theorem dL_workshop_165 : decode cL_workshop 165 = .ok (.aload 4, 2) := by decide +kernel
theorem dL_workshop_167 : decode cL_workshop 167 = .ok (.aload 5, 2) := by decide +kernel
theorem dL_workshop_169 : decode cL_workshop 169 = .ok (.aload 6, 2) := by decide +kernel
theorem dL_workshop_171 : decode cL_workshop 171 = .ok (.invokestatic 122, 3) := by decide +kernel
theorem dL_workshop_174 : decode cL_workshop 174 = .ok (.ifCond .eq 15, 3) := by decide +kernel
theorem dL_workshop_177 : decode cL_workshop 177 = .ok (.aload_n 2, 1) := by decide +kernel
theorem dL_workshop_178 : decode cL_workshop 178 = .ok (.aload_n 3, 1) := by decide +kernel
theorem dL_workshop_179 : decode cL_workshop 179 = .ok (.aload 4, 2) := by decide +kernel
theorem dL_workshop_181 : decode cL_workshop 181 = .ok (.aload 5, 2) := by decide +kernel
theorem dL_workshop_183 : decode cL_workshop 183 = .ok (.invokestatic 126, 3) := by decide +kernel
theorem dL_workshop_186 : decode cL_workshop 186 = .ok (.ifCond .ne 5, 3) := by decide +kernel
theorem dL_workshop_189 : decode cL_workshop 189 = .ok (.iconst 0, 1) := by decide +kernel
theorem dL_workshop_190 : decode cL_workshop 190 = .ok (.ireturn, 1) := by decide +kernel
theorem dL_workshop_191 : decode cL_workshop 191 = .ok (.iload 9, 2) := by decide +kernel
theorem dL_workshop_193 : decode cL_workshop 193 = .ok (.bipush 7, 2) := by decide +kernel
theorem dL_workshop_195 : decode cL_workshop 195 = .ok (.idiv, 1) := by decide +kernel
theorem dL_workshop_196 : decode cL_workshop 196 = .ok (.aload 5, 2) := by decide +kernel
theorem dL_workshop_198 : decode cL_workshop 198 = .ok (.iconst 0, 1) := by decide +kernel
theorem dL_workshop_199 : decode cL_workshop 199 = .ok (.iaload, 1) := by decide +kernel
theorem dL_workshop_200 : decode cL_workshop 200 = .ok (.aload 5, 2) := by decide +kernel
theorem dL_workshop_202 : decode cL_workshop 202 = .ok (.iconst 1, 1) := by decide +kernel
theorem dL_workshop_203 : decode cL_workshop 203 = .ok (.iaload, 1) := by decide +kernel
theorem dL_workshop_204 : decode cL_workshop 204 = .ok (.imul, 1) := by decide +kernel
theorem dL_workshop_205 : decode cL_workshop 205 = .ok (.irem, 1) := by decide +kernel
theorem dL_workshop_206 : decode cL_workshop 206 = .ok (.istore 11, 2) := by decide +kernel
theorem dL_workshop_208 : decode cL_workshop 208 = .ok (.aload_n 2, 1) := by decide +kernel
theorem dL_workshop_209 : decode cL_workshop 209 = .ok (.aload_n 3, 1) := by decide +kernel
theorem dL_workshop_210 : decode cL_workshop 210 = .ok (.aload 5, 2) := by decide +kernel
theorem dL_workshop_212 : decode cL_workshop 212 = .ok (.iload 11, 2) := by decide +kernel
theorem dL_workshop_214 : decode cL_workshop 214 = .ok (.invokestatic 130, 3) := by decide +kernel
theorem dL_workshop_217 : decode cL_workshop 217 = .ok (.ifCond .eq 48, 3) := by decide +kernel
theorem dL_workshop_220 : decode cL_workshop 220 = .ok (.aload_n 2, 1) := by decide +kernel
theorem dL_workshop_221 : decode cL_workshop 221 = .ok (.aload_n 3, 1) := by decide +kernel
theorem dL_workshop_222 : decode cL_workshop 222 = .ok (.aload 5, 2) := by decide +kernel
theorem dL_workshop_224 : decode cL_workshop 224 = .ok (.iload 11, 2) := by decide +kernel
theorem dL_workshop_226 : decode cL_workshop 226 = .ok (.invokestatic 133, 3) := by decide +kernel
theorem dL_workshop_229 : decode cL_workshop 229 = .ok (.ifCond .eq 36, 3) := by decide +kernel
theorem dL_workshop_232 : decode cL_workshop 232 = .ok (.aload 5, 2) := by decide +kernel
theorem dL_workshop_234 : decode cL_workshop 234 = .ok (.iconst 0, 1) := by decide +kernel
theorem dL_workshop_235 : decode cL_workshop 235 = .ok (.iaload, 1) := by decide +kernel
theorem dL_workshop_236 : decode cL_workshop 236 = .ok (.aload 5, 2) := by decide +kernel
theorem dL_workshop_238 : decode cL_workshop 238 = .ok (.iconst 1, 1) := by decide +kernel
theorem dL_workshop_239 : decode cL_workshop 239 = .ok (.iaload, 1) := by decide +kernel
theorem dL_workshop_240 : decode cL_workshop 240 = .ok (.imul, 1) := by decide +kernel
theorem dL_workshop_241 : decode cL_workshop 241 = .ok (.bipush 9, 2) := by decide +kernel
theorem dL_workshop_243 : decode cL_workshop 243 = .ok (.if_icmp .le 10, 3) := by decide +kernel
theorem dL_workshop_246 : decode cL_workshop 246 = .ok (.iload 7, 2) := by decide +kernel
theorem dL_workshop_248 : decode cL_workshop 248 = .ok (.iconst 5, 1) := by decide +kernel
theorem dL_workshop_249 : decode cL_workshop 249 = .ok (.irem, 1) := by decide +kernel
theorem dL_workshop_250 : decode cL_workshop 250 = .ok (.ifCond .ne 17, 3) := by decide +kernel
theorem dL_workshop_253 : decode cL_workshop 253 = .ok (.aload_n 2, 1) := by decide +kernel
theorem dL_workshop_254 : decode cL_workshop 254 = .ok (.aload_n 3, 1) := by decide +kernel
theorem dL_workshop_255 : decode cL_workshop 255 = .ok (.aload 5, 2) := by decide +kernel
theorem dL_workshop_257 : decode cL_workshop 257 = .ok (.iload 11, 2) := by decide +kernel
theorem dL_workshop_259 : decode cL_workshop 259 = .ok (.invokestatic 135, 3) := by decide +kernel
theorem dL_workshop_262 : decode cL_workshop 262 = .ok (.ifCond .ne 5, 3) := by decide +kernel
theorem dL_workshop_265 : decode cL_workshop 265 = .ok (.iconst 0, 1) := by decide +kernel
theorem dL_workshop_266 : decode cL_workshop 266 = .ok (.ireturn, 1) := by decide +kernel
theorem dL_workshop_267 : decode cL_workshop 267 = .ok (.iinc 7 1, 3) := by decide +kernel
theorem dL_workshop_270 : decode cL_workshop 270 = .ok (.goto (-227), 3) := by decide +kernel
theorem dL_workshop_273 : decode cL_workshop 273 = .ok (.iconst 1, 1) := by decide +kernel
theorem dL_workshop_274 : decode cL_workshop 274 = .ok (.ireturn, 1) := by decide +kernel
