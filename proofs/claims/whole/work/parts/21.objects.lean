/-! the objects that the two constructors make, by number (laid by program) -/
def S0_0 : List AO := [(11, 19, [1, 24, 29, 36, 59, 64, 3000, 71, 78, 192, 193, 194, 195, 204, 208, 210, 212, 231, 236]), (0, 10, [3000, 2, 3, 4, 5, 6, 7, 8, 9, 10]), (100, 13, []), (100, 13, []), (100, 13, []), (100, 13, []), (100, 13, []), (100, 13, []), (100, 13, []), (100, 13, []), (102, 13, [11, 12, 13, 14, 15, 16, 17, 18, 19, 20, 21, 22, 23]), (100, 13, []), (100, 13, []), (100, 13, []), (100, 13, []), (100, 13, []), (100, 13, []), (100, 13, []), (100, 13, []), (100, 13, []), (100, 13, []), (100, 13, []), (100, 13, []), (100, 13, []), (3, 4, [25, 26, 27, 28]), (100, 4, []), (100, 4, []), (100, 4, []), (100, 3, []), (8, 2, [30, 31]), (100, 4, []), (102, 4, [32, 33, 34, 35]), (100, 12, []), (100, 12, []), (100, 12, []), (100, 12, []), (0, 10, [3000, 37, 38, 39, 40, 41, 42, 43, 44, 45]), (100, 13, []), (100, 13, []), (100, 13, []), (100, 13, []), (100, 13, []), (100, 13, []), (100, 13, []), (100, 13, []), (102, 13, [46, 47, 48, 49, 50, 51, 52, 53, 54, 55, 56, 57, 58]), (100, 13, []), (100, 13, []), (100, 13, []), (100, 13, []), (100, 13, []), (100, 13, []), (100, 13, []), (100, 13, []), (100, 13, []), (100, 13, []), (100, 13, []), (100, 13, []), (100, 13, []), (3, 4, [60, 61, 62, 63]), (100, 4, []), (100, 4, []), (100, 4, [])]
def S0_1 : List AO := [(100, 3, []), (8, 2, [65, 66]), (100, 4, []), (102, 4, [67, 68, 69, 70]), (100, 12, []), (100, 12, []), (100, 12, []), (100, 12, []), (8, 2, [72, 73]), (100, 4, []), (102, 4, [74, 75, 76, 77]), (100, 12, []), (100, 12, []), (100, 12, []), (100, 12, []), (9, 3, [79, 3000, 3000]), (103, 16, [80, 87, 94, 101, 108, 115, 122, 129, 136, 143, 150, 157, 164, 171, 178, 185]), (8, 2, [81, 82]), (100, 4, []), (102, 4, [83, 84, 85, 86]), (100, 12, []), (100, 12, []), (100, 12, []), (100, 12, []), (8, 2, [88, 89]), (100, 4, []), (102, 4, [90, 91, 92, 93]), (100, 12, []), (100, 12, []), (100, 12, []), (100, 12, []), (8, 2, [95, 96]), (100, 4, []), (102, 4, [97, 98, 99, 100]), (100, 12, []), (100, 12, []), (100, 12, []), (100, 12, []), (8, 2, [102, 103]), (100, 4, []), (102, 4, [104, 105, 106, 107]), (100, 12, []), (100, 12, []), (100, 12, []), (100, 12, []), (8, 2, [109, 110]), (100, 4, []), (102, 4, [111, 112, 113, 114]), (100, 12, []), (100, 12, []), (100, 12, []), (100, 12, []), (8, 2, [116, 117]), (100, 4, []), (102, 4, [118, 119, 120, 121]), (100, 12, []), (100, 12, []), (100, 12, []), (100, 12, []), (8, 2, [123, 124]), (100, 4, []), (102, 4, [125, 126, 127, 128]), (100, 12, [])]
def S0_2 : List AO := [(100, 12, []), (100, 12, []), (100, 12, []), (8, 2, [130, 131]), (100, 4, []), (102, 4, [132, 133, 134, 135]), (100, 12, []), (100, 12, []), (100, 12, []), (100, 12, []), (8, 2, [137, 138]), (100, 4, []), (102, 4, [139, 140, 141, 142]), (100, 12, []), (100, 12, []), (100, 12, []), (100, 12, []), (8, 2, [144, 145]), (100, 4, []), (102, 4, [146, 147, 148, 149]), (100, 12, []), (100, 12, []), (100, 12, []), (100, 12, []), (8, 2, [151, 152]), (100, 4, []), (102, 4, [153, 154, 155, 156]), (100, 12, []), (100, 12, []), (100, 12, []), (100, 12, []), (8, 2, [158, 159]), (100, 4, []), (102, 4, [160, 161, 162, 163]), (100, 12, []), (100, 12, []), (100, 12, []), (100, 12, []), (8, 2, [165, 166]), (100, 4, []), (102, 4, [167, 168, 169, 170]), (100, 12, []), (100, 12, []), (100, 12, []), (100, 12, []), (8, 2, [172, 173]), (100, 4, []), (102, 4, [174, 175, 176, 177]), (100, 12, []), (100, 12, []), (100, 12, []), (100, 12, []), (8, 2, [179, 180]), (100, 4, []), (102, 4, [181, 182, 183, 184]), (100, 12, []), (100, 12, []), (100, 12, []), (100, 12, []), (8, 2, [186, 187]), (100, 4, []), (102, 4, [188, 189, 190, 191]), (100, 12, [])]
def S0_3 : List AO := [(100, 12, []), (100, 12, []), (100, 12, []), (6, 10, [1, 3000, 3000, 3000, 3000, 3000, 3000, 3000, 3000, 3000]), (4, 3, [1, 24, 192]), (1, 6, [1, 24, 3000, 3000, 3000, 3000]), (5, 12, [29, 193, 196, 197, 3000, 3000, 3000, 3000, 3000, 3000, 3000, 3000]), (100, 4, []), (8, 2, [198, 199]), (100, 4, []), (102, 4, [200, 201, 202, 203]), (100, 12, []), (100, 12, []), (100, 12, []), (100, 12, []), (2, 9, [1, 29, 193, 205, 206, 207, 3000, 3000, 3000]), (100, 4, []), (100, 4, []), (100, 4, []), (10, 2, [209, 3000]), (101, 160, []), (10, 2, [211, 3000]), (101, 64, []), (7, 4, [208, 3000, 3000, 213]), (102, 17, [214, 215, 216, 217, 218, 219, 220, 221, 222, 223, 224, 225, 226, 227, 228, 229, 230]), (100, 7, []), (100, 7, []), (100, 7, []), (100, 7, []), (100, 7, []), (100, 7, []), (100, 7, []), (100, 7, []), (100, 7, []), (100, 7, []), (100, 7, []), (100, 7, []), (100, 7, []), (100, 7, []), (100, 7, []), (100, 7, []), (100, 7, []), (102, 4, [232, 233, 234, 235]), (100, 40, []), (100, 40, []), (100, 40, []), (100, 40, []), (100, 4, []), (12, 35, [238, 239, 3000, 240, 3000, 241, 242, 243, 3000, 3000, 3000, 3000, 3000, 244, 245, 246, 3000, 3000, 3000, 3000, 247, 248, 3000, 3000, 3000, 3000, 3000, 3000, 3000, 249, 3000, 3000, 3000, 250, 251]), (100, 166, []), (100, 166, []), (100, 832, []), (100, 52, []), (100, 52, []), (100, 14, []), (100, 160, []), (100, 140, []), (100, 160, []), (100, 52, []), (100, 12, []), (100, 4, []), (100, 4, []), (100, 160, [])]
def S0 : List AO := S0_0 ++ (S0_1 ++ (S0_2 ++ (S0_3)))
theorem s0_0 : S0[0]? = some (11, 19, [1, 24, 29, 36, 59, 64, 3000, 71, 78, 192, 193, 194, 195, 204, 208, 210, 212, 231, 236]) := rfl
theorem s0_1 : S0[1]? = some (0, 10, [3000, 2, 3, 4, 5, 6, 7, 8, 9, 10]) := rfl
theorem s0_2 : S0[2]? = some (100, 13, []) := rfl
theorem s0_3 : S0[3]? = some (100, 13, []) := rfl
theorem s0_4 : S0[4]? = some (100, 13, []) := rfl
theorem s0_5 : S0[5]? = some (100, 13, []) := rfl
theorem s0_6 : S0[6]? = some (100, 13, []) := rfl
theorem s0_7 : S0[7]? = some (100, 13, []) := rfl
theorem s0_8 : S0[8]? = some (100, 13, []) := rfl
theorem s0_9 : S0[9]? = some (100, 13, []) := rfl
theorem s0_10 : S0[10]? = some (102, 13, [11, 12, 13, 14, 15, 16, 17, 18, 19, 20, 21, 22, 23]) := rfl
theorem s0_11 : S0[11]? = some (100, 13, []) := rfl
theorem s0_12 : S0[12]? = some (100, 13, []) := rfl
theorem s0_13 : S0[13]? = some (100, 13, []) := rfl
theorem s0_14 : S0[14]? = some (100, 13, []) := rfl
theorem s0_15 : S0[15]? = some (100, 13, []) := rfl
theorem s0_16 : S0[16]? = some (100, 13, []) := rfl
theorem s0_17 : S0[17]? = some (100, 13, []) := rfl
theorem s0_18 : S0[18]? = some (100, 13, []) := rfl
theorem s0_19 : S0[19]? = some (100, 13, []) := rfl
theorem s0_20 : S0[20]? = some (100, 13, []) := rfl
theorem s0_21 : S0[21]? = some (100, 13, []) := rfl
theorem s0_22 : S0[22]? = some (100, 13, []) := rfl
theorem s0_23 : S0[23]? = some (100, 13, []) := rfl
theorem s0_24 : S0[24]? = some (3, 4, [25, 26, 27, 28]) := rfl
theorem s0_25 : S0[25]? = some (100, 4, []) := rfl
theorem s0_26 : S0[26]? = some (100, 4, []) := rfl
theorem s0_27 : S0[27]? = some (100, 4, []) := rfl
theorem s0_28 : S0[28]? = some (100, 3, []) := rfl
theorem s0_36 : S0[36]? = some (0, 10, [3000, 37, 38, 39, 40, 41, 42, 43, 44, 45]) := rfl
theorem s0_37 : S0[37]? = some (100, 13, []) := rfl
theorem s0_59 : S0[59]? = some (3, 4, [60, 61, 62, 63]) := rfl
theorem s0_60 : S0[60]? = some (100, 4, []) := rfl
theorem s0_61 : S0[61]? = some (100, 4, []) := rfl
theorem s0_62 : S0[62]? = some (100, 4, []) := rfl
theorem s0_63 : S0[63]? = some (100, 3, []) := rfl
theorem s0_64 : S0[64]? = some (8, 2, [65, 66]) := rfl
theorem s0_65 : S0[65]? = some (100, 4, []) := rfl
theorem s0_66 : S0[66]? = some (102, 4, [67, 68, 69, 70]) := rfl
theorem s0_67 : S0[67]? = some (100, 12, []) := rfl
theorem s0_68 : S0[68]? = some (100, 12, []) := rfl
theorem s0_69 : S0[69]? = some (100, 12, []) := rfl
theorem s0_70 : S0[70]? = some (100, 12, []) := rfl
theorem s0_71 : S0[71]? = some (8, 2, [72, 73]) := rfl
theorem s0_72 : S0[72]? = some (100, 4, []) := rfl
theorem s0_73 : S0[73]? = some (102, 4, [74, 75, 76, 77]) := rfl
theorem s0_74 : S0[74]? = some (100, 12, []) := rfl
theorem s0_75 : S0[75]? = some (100, 12, []) := rfl
theorem s0_76 : S0[76]? = some (100, 12, []) := rfl
theorem s0_77 : S0[77]? = some (100, 12, []) := rfl
theorem s0_78 : S0[78]? = some (9, 3, [79, 3000, 3000]) := rfl
theorem s0_79 : S0[79]? = some (103, 16, [80, 87, 94, 101, 108, 115, 122, 129, 136, 143, 150, 157, 164, 171, 178, 185]) := rfl
set_option maxRecDepth 10000 in
theorem s0_192 : S0[192]? = some (6, 10, [1, 3000, 3000, 3000, 3000, 3000, 3000, 3000, 3000, 3000]) := rfl
set_option maxRecDepth 10000 in
theorem s0_193 : S0[193]? = some (4, 3, [1, 24, 192]) := rfl
set_option maxRecDepth 10000 in
theorem s0_194 : S0[194]? = some (1, 6, [1, 24, 3000, 3000, 3000, 3000]) := rfl
set_option maxRecDepth 10000 in
theorem s0_195 : S0[195]? = some (5, 12, [29, 193, 196, 197, 3000, 3000, 3000, 3000, 3000, 3000, 3000, 3000]) := rfl
set_option maxRecDepth 10000 in
theorem s0_196 : S0[196]? = some (100, 4, []) := rfl
set_option maxRecDepth 10000 in
theorem s0_197 : S0[197]? = some (8, 2, [198, 199]) := rfl
set_option maxRecDepth 10000 in
theorem s0_198 : S0[198]? = some (100, 4, []) := rfl
set_option maxRecDepth 10000 in
theorem s0_199 : S0[199]? = some (102, 4, [200, 201, 202, 203]) := rfl
set_option maxRecDepth 10000 in
theorem s0_200 : S0[200]? = some (100, 12, []) := rfl
set_option maxRecDepth 10000 in
theorem s0_201 : S0[201]? = some (100, 12, []) := rfl
set_option maxRecDepth 10000 in
theorem s0_202 : S0[202]? = some (100, 12, []) := rfl
set_option maxRecDepth 10000 in
theorem s0_203 : S0[203]? = some (100, 12, []) := rfl
set_option maxRecDepth 10000 in
theorem s0_204 : S0[204]? = some (2, 9, [1, 29, 193, 205, 206, 207, 3000, 3000, 3000]) := rfl
set_option maxRecDepth 10000 in
theorem s0_205 : S0[205]? = some (100, 4, []) := rfl
set_option maxRecDepth 10000 in
theorem s0_206 : S0[206]? = some (100, 4, []) := rfl
set_option maxRecDepth 10000 in
theorem s0_207 : S0[207]? = some (100, 4, []) := rfl
set_option maxRecDepth 10000 in
theorem s0_208 : S0[208]? = some (10, 2, [209, 3000]) := rfl
set_option maxRecDepth 10000 in
theorem s0_209 : S0[209]? = some (101, 160, []) := rfl
set_option maxRecDepth 10000 in
theorem s0_210 : S0[210]? = some (10, 2, [211, 3000]) := rfl
set_option maxRecDepth 10000 in
theorem s0_211 : S0[211]? = some (101, 64, []) := rfl
set_option maxRecDepth 10000 in
theorem s0_212 : S0[212]? = some (7, 4, [208, 3000, 3000, 213]) := rfl
set_option maxRecDepth 10000 in
theorem s0_213 : S0[213]? = some (102, 17, [214, 215, 216, 217, 218, 219, 220, 221, 222, 223, 224, 225, 226, 227, 228, 229, 230]) := rfl
set_option maxRecDepth 10000 in
theorem s0_214 : S0[214]? = some (100, 7, []) := rfl
set_option maxRecDepth 10000 in
theorem s0_215 : S0[215]? = some (100, 7, []) := rfl
set_option maxRecDepth 10000 in
theorem s0_216 : S0[216]? = some (100, 7, []) := rfl
set_option maxRecDepth 10000 in
theorem s0_217 : S0[217]? = some (100, 7, []) := rfl
set_option maxRecDepth 10000 in
theorem s0_218 : S0[218]? = some (100, 7, []) := rfl
set_option maxRecDepth 10000 in
theorem s0_219 : S0[219]? = some (100, 7, []) := rfl
set_option maxRecDepth 10000 in
theorem s0_220 : S0[220]? = some (100, 7, []) := rfl
set_option maxRecDepth 10000 in
theorem s0_221 : S0[221]? = some (100, 7, []) := rfl
set_option maxRecDepth 10000 in
theorem s0_222 : S0[222]? = some (100, 7, []) := rfl
set_option maxRecDepth 10000 in
theorem s0_223 : S0[223]? = some (100, 7, []) := rfl
set_option maxRecDepth 10000 in
theorem s0_224 : S0[224]? = some (100, 7, []) := rfl
set_option maxRecDepth 10000 in
theorem s0_225 : S0[225]? = some (100, 7, []) := rfl
set_option maxRecDepth 10000 in
theorem s0_226 : S0[226]? = some (100, 7, []) := rfl
set_option maxRecDepth 10000 in
theorem s0_227 : S0[227]? = some (100, 7, []) := rfl
set_option maxRecDepth 10000 in
theorem s0_228 : S0[228]? = some (100, 7, []) := rfl
set_option maxRecDepth 10000 in
theorem s0_229 : S0[229]? = some (100, 7, []) := rfl
set_option maxRecDepth 10000 in
theorem s0_230 : S0[230]? = some (100, 7, []) := rfl
set_option maxRecDepth 10000 in
theorem s0_231 : S0[231]? = some (102, 4, [232, 233, 234, 235]) := rfl
set_option maxRecDepth 10000 in
theorem s0_232 : S0[232]? = some (100, 40, []) := rfl
set_option maxRecDepth 10000 in
theorem s0_233 : S0[233]? = some (100, 40, []) := rfl
set_option maxRecDepth 10000 in
theorem s0_234 : S0[234]? = some (100, 40, []) := rfl
set_option maxRecDepth 10000 in
theorem s0_235 : S0[235]? = some (100, 40, []) := rfl
set_option maxRecDepth 10000 in
theorem s0_236 : S0[236]? = some (100, 4, []) := rfl
set_option maxRecDepth 10000 in
theorem s0_237 : S0[237]? = some (12, 35, [238, 239, 3000, 240, 3000, 241, 242, 243, 3000, 3000, 3000, 3000, 3000, 244, 245, 246, 3000, 3000, 3000, 3000, 247, 248, 3000, 3000, 3000, 3000, 3000, 3000, 3000, 249, 3000, 3000, 3000, 250, 251]) := rfl
set_option maxRecDepth 10000 in
theorem s0_238 : S0[238]? = some (100, 166, []) := rfl
set_option maxRecDepth 10000 in
theorem s0_239 : S0[239]? = some (100, 166, []) := rfl
set_option maxRecDepth 10000 in
theorem s0_240 : S0[240]? = some (100, 832, []) := rfl
set_option maxRecDepth 10000 in
theorem s0_241 : S0[241]? = some (100, 52, []) := rfl
set_option maxRecDepth 10000 in
theorem s0_242 : S0[242]? = some (100, 52, []) := rfl
set_option maxRecDepth 10000 in
theorem s0_243 : S0[243]? = some (100, 14, []) := rfl
set_option maxRecDepth 10000 in
theorem s0_244 : S0[244]? = some (100, 160, []) := rfl
set_option maxRecDepth 10000 in
theorem s0_245 : S0[245]? = some (100, 140, []) := rfl
set_option maxRecDepth 10000 in
theorem s0_246 : S0[246]? = some (100, 160, []) := rfl
set_option maxRecDepth 10000 in
theorem s0_247 : S0[247]? = some (100, 52, []) := rfl
set_option maxRecDepth 10000 in
theorem s0_248 : S0[248]? = some (100, 12, []) := rfl
set_option maxRecDepth 10000 in
theorem s0_249 : S0[249]? = some (100, 4, []) := rfl
set_option maxRecDepth 10000 in
theorem s0_250 : S0[250]? = some (100, 4, []) := rfl
set_option maxRecDepth 10000 in
theorem s0_251 : S0[251]? = some (100, 160, []) := rfl
def rdIds : List Nat := [29, 64, 71, 80, 87, 94, 101, 108, 115, 122, 129, 136, 143, 150, 157, 164, 171, 178, 185, 197]
def isRd (r : Nat) : Prop := r ∈ rdIds
theorem rd_all : rdIds.all (fun r => decide (S0[r]? = some (8, 2, [r + 1, r + 2]) ∧ S0[r + 1]? = some (100, 4, []) ∧ S0[r + 2]? = some (102, 4, [r + 3, r + 4, r + 5, r + 6]) ∧ S0[r + 3]? = some (100, 12, []) ∧ S0[r + 4]? = some (100, 12, []) ∧ S0[r + 5]? = some (100, 12, []) ∧ S0[r + 6]? = some (100, 12, []) ∧ r + 6 < 1000)) = true := by decide +kernel
theorem rd_of {r : Nat} (h : isRd r) : S0[r]? = some (8, 2, [r + 1, r + 2]) ∧ S0[r + 1]? = some (100, 4, []) ∧ S0[r + 2]? = some (102, 4, [r + 3, r + 4, r + 5, r + 6]) ∧ S0[r + 3]? = some (100, 12, []) ∧ S0[r + 4]? = some (100, 12, []) ∧ S0[r + 5]? = some (100, 12, []) ∧ S0[r + 6]? = some (100, 12, []) ∧ r + 6 < 1000 := of_decide_eq_true (List.all_eq_true.mp rd_all r h)
theorem rd_0 {r : Nat} (h : isRd r) : S0[r]? = some (8, 2, [r + 1, r + 2]) := (rd_of h).1
theorem rd_1 {r : Nat} (h : isRd r) : S0[r + 1]? = some (100, 4, []) := (rd_of h).2.1
theorem rd_2 {r : Nat} (h : isRd r) : S0[r + 2]? = some (102, 4, [r + 3, r + 4, r + 5, r + 6]) := (rd_of h).2.2.1
theorem rd_lt {r : Nat} (h : isRd r) : r + 6 < 1000 := (rd_of h).2.2.2.2.2.2.2
theorem rd_3 {r i : Nat} (h : isRd r) (hi : i < 4) : S0[r + 3 + i]? = some (100, 12, []) := by
  obtain ⟨-, -, -, h3, h4, h5, h6, -⟩ := rd_of h
  rcases (show i = 0 ∨ i = 1 ∨ i = 2 ∨ i = 3 by omega) with rfl | rfl | rfl | rfl
  · exact h3
  · exact h4
  · exact h5
  · exact h6
theorem rd_row {r i : Nat} (hi : i < 4) : [r + 3, r + 4, r + 5, r + 6][i]? = some (r + 3 + i) := by
  rcases (show i = 0 ∨ i = 1 ∨ i = 2 ∨ i = 3 by omega) with rfl | rfl | rfl | rfl <;> rfl
def isBk (r : Nat) : Prop := r = 1 ∨ r = 36
theorem bk_1 {r : Nat} (h : isBk r) : S0[r + 1]? = some (100, 13, []) := by rcases h with rfl | rfl <;> rfl
theorem bk_2 {r : Nat} (h : isBk r) : S0[r + 2]? = some (100, 13, []) := by rcases h with rfl | rfl <;> rfl
theorem bk_3 {r : Nat} (h : isBk r) : S0[r + 3]? = some (100, 13, []) := by rcases h with rfl | rfl <;> rfl
theorem bk_4 {r : Nat} (h : isBk r) : S0[r + 4]? = some (100, 13, []) := by rcases h with rfl | rfl <;> rfl
theorem bk_5 {r : Nat} (h : isBk r) : S0[r + 5]? = some (100, 13, []) := by rcases h with rfl | rfl <;> rfl
theorem bk_6 {r : Nat} (h : isBk r) : S0[r + 6]? = some (100, 13, []) := by rcases h with rfl | rfl <;> rfl
theorem bk_7 {r : Nat} (h : isBk r) : S0[r + 7]? = some (100, 13, []) := by rcases h with rfl | rfl <;> rfl
theorem bk_8 {r : Nat} (h : isBk r) : S0[r + 8]? = some (100, 13, []) := by rcases h with rfl | rfl <;> rfl
theorem bk_0 {r : Nat} (h : isBk r) : S0[r]? = some (0, 10, [3000, r + 1, r + 2, r + 3, r + 4, r + 5, r + 6, r + 7, r + 8, r + 9]) := by rcases h with rfl | rfl <;> rfl
theorem bk_9 {r : Nat} (h : isBk r) : S0[r + 9]? = some (102, 13, (List.range 13).map (fun i => r + 10 + i)) := by rcases h with rfl | rfl <;> rfl
theorem bk_lt {r : Nat} (h : isBk r) : r + 22 < 1000 := by rcases h with rfl | rfl <;> decide
theorem bk_10 {r i : Nat} (h : isBk r) (hi : i < 13) : S0[r + 10 + i]? = some (100, 13, []) := by
  have h1 : ∀ i, i < 13 → S0[1 + 10 + i]? = some (100, 13, []) := by decide +kernel
  have h2 : ∀ i, i < 13 → S0[36 + 10 + i]? = some (100, 13, []) := by decide +kernel
  rcases h with rfl | rfl
  · exact h1 i hi
  · exact h2 i hi
theorem rg_row {b n i : Nat} (hi : i < n) : ((List.range n).map (fun i => b + i))[i]? = some (b + i) := by
  rw [List.getElem?_map, List.getElem?_range hi]; rfl
def isFl (r : Nat) : Prop := r = 24 ∨ r = 59
theorem fl_0 {r : Nat} (h : isFl r) : S0[r]? = some (3, 4, [r + 1, r + 2, r + 3, r + 4]) := by rcases h with rfl | rfl <;> rfl
theorem fl_1 {r : Nat} (h : isFl r) : S0[r + 1]? = some (100, 4, []) := by rcases h with rfl | rfl <;> rfl
theorem fl_2 {r : Nat} (h : isFl r) : S0[r + 2]? = some (100, 4, []) := by rcases h with rfl | rfl <;> rfl
theorem fl_3 {r : Nat} (h : isFl r) : S0[r + 3]? = some (100, 4, []) := by rcases h with rfl | rfl <;> rfl
theorem fl_4 {r : Nat} (h : isFl r) : S0[r + 4]? = some (100, 3, []) := by rcases h with rfl | rfl <;> rfl
theorem fl_lt {r : Nat} (h : isFl r) : r + 4 < 1000 := by rcases h with rfl | rfl <;> decide
theorem q231 {i : Nat} (hi : i < 4) : S0[232 + i]? = some (100, 40, []) := by
  have h1 : ∀ i, i < 4 → S0[232 + i]? = some (100, 40, []) := by decide +kernel
  exact h1 i hi
theorem q213 {i : Nat} (hi : i < 17) : S0[214 + i]? = some (100, 7, []) := by
  have h1 : ∀ i, i < 17 → S0[214 + i]? = some (100, 7, []) := by decide +kernel
  exact h1 i hi
theorem q79 {i : Nat} (hi : i < 16) : isRd (80 + 7 * i) := by
  have h1 : ∀ i, i < 16 → 80 + 7 * i ∈ rdIds := by decide +kernel
  exact h1 i hi
theorem rw231 {i : Nat} (hi : i < 4) : [232, 233, 234, 235][i]? = some (232 + i) := by
  rcases (show i = 0 ∨ i = 1 ∨ i = 2 ∨ i = 3 by omega) with rfl | rfl | rfl | rfl <;> rfl
theorem rw213 {i : Nat} (hi : i < 17) : [214, 215, 216, 217, 218, 219, 220, 221, 222, 223, 224, 225, 226, 227, 228, 229, 230][i]? = some (214 + i) := by
  have h1 : ∀ i, i < 17 → [214, 215, 216, 217, 218, 219, 220, 221, 222, 223, 224, 225, 226, 227, 228, 229, 230][i]? = some (214 + i) := by decide +kernel
  exact h1 i hi
theorem rw79 {i : Nat} (hi : i < 16) : [80, 87, 94, 101, 108, 115, 122, 129, 136, 143, 150, 157, 164, 171, 178, 185][i]? = some (80 + 7 * i) := by
  have h1 : ∀ i, i < 16 → [80, 87, 94, 101, 108, 115, 122, 129, 136, 143, 150, 157, 164, 171, 178, 185][i]? = some (80 + 7 * i) := by decide +kernel
  exact h1 i hi
