set_option maxRecDepth 100000 in
set_option maxHeartbeats 4000000 in
theorem iX12_0 {h : zMm} {Q : Option Value → zSh → zMm → Prop} (kk : RR mX12_init 0 0 4 [some (.ref 81)] [] zc_109 h Q) : RR mX12_init 0 0 0 [some (.ref 81)] [] zc_109 h Q := by
  refine r_aload_n (pc := 0) (a := 81) dX12_init_0 rfl ?_
  refine r_objInit (pc := 1) ml_X12_1 obj_i obj_c dX12_init_1 (by decide) (by decide) ?_
  exact kk
def zc_110 : zSh := zc_109 ++ [(20, 320, [])]
def zc_111 : zSh := zc_110.set 81 (12, 51, [some 82, none, none, none, none, none, none, none, none, none, none, none, none, none, none, none, none, none, none, none, none, none, none, none, none, none, none, none, none, none, none, none, none, none, none, none, none, none, none, none, none, none, none, none, none, none, none, none, none, none, none])
set_option maxRecDepth 100000 in
set_option maxHeartbeats 4000000 in
theorem iX12_1 {h : zMm} {Q : Option Value → zSh → zMm → Prop} (kk : RR mX12_init 1 320 13 [some (.ref 81)] [] zc_111 (zN h 82) Q) : RR mX12_init 0 0 4 [some (.ref 81)] [] zc_109 h Q := by
  refine r_aload_n (pc := 4) (a := 81) dX12_init_4 rfl ?_
  refine r_sipush (pc := 5) (x := 320) dX12_init_5 (by decide) ?_
  refine q_newa_int (pc := 8) (x := 320) (N := 320) ac_int dX12_init_8 rfl (by decide) (S' := zc_110) rfl (a := 82) (by decide +kernel) (by decide) (by decide) (by decide) ?_
  refine q_putR (pc := 10) (o := 81) (b := 82) (ci := 12) (f := 0) (N := 51) (rf := [none, none, none, none, none, none, none, none, none, none, none, none, none, none, none, none, none, none, none, none, none, none, none, none, none, none, none, none, none, none, none, none, none, none, none, none, none, none, none, none, none, none, none, none, none, none, none, none, none, none, none]) fl_X12_7 (Or.inr ⟨_, rfl⟩) ⟨_, _, _, rfl, rfl⟩ rfl dX12_init_10 (by decide +kernel) (Nat.le_of_ble_eq_true rfl) (S' := zc_111) rfl ?_
  exact kk
def zc_112 : zSh := zc_111 ++ [(20, 11, [])]
def zc_113 : zSh := zc_112.set 81 (12, 51, [some 82, none, none, none, none, none, none, none, none, some 83, none, none, none, none, none, none, none, none, none, none, none, none, none, none, none, none, none, none, none, none, none, none, none, none, none, none, none, none, none, none, none, none, none, none, none, none, none, none, none, none, none])
set_option maxRecDepth 100000 in
set_option maxHeartbeats 4000000 in
theorem iX12_2 {h : zMm} {Q : Option Value → zSh → zMm → Prop} (kk : RR mX12_init 2 331 80 [some (.ref 81)] [] zc_113 (zU (zU (zU (zU (zU (zU (zU (zU (zU (zU (zU (zN h 83) 83 0 0) 83 1 6) 83 2 10) 83 3 15) 83 4 18) 83 5 23) 83 6 27) 83 7 30) 83 8 34) 83 9 37) 83 10 40) Q) : RR mX12_init 1 320 13 [some (.ref 81)] [] zc_111 h Q := by
  refine r_aload_n (pc := 13) (a := 81) dX12_init_13 rfl ?_
  refine r_bipush (pc := 14) (x := 11) dX12_init_14 (by decide) ?_
  refine q_newa_int (pc := 16) (x := 11) (N := 11) ac_int dX12_init_16 rfl (by decide) (S' := zc_112) rfl (a := 83) (by decide +kernel) (by decide) (by decide) (by decide) ?_
  refine r_dup (pc := 18) rfl dX12_init_18 ?_
  refine r_iconst (pc := 19) dX12_init_19 ?_
  refine r_iconst (pc := 20) dX12_init_20 ?_
  refine r_iast (pc := 21) (a := 83) (N := 11) (rf := []) (i := 0) (x := 0) dX12_init_21 (by decide +kernel) (by decide) ?_
  refine r_dup (pc := 22) rfl dX12_init_22 ?_
  refine r_iconst (pc := 23) dX12_init_23 ?_
  refine r_bipush (pc := 24) (x := 6) dX12_init_24 (by decide) ?_
  refine r_iast (pc := 26) (a := 83) (N := 11) (rf := []) (i := 1) (x := 6) dX12_init_26 (by decide +kernel) (by decide) ?_
  refine r_dup (pc := 27) rfl dX12_init_27 ?_
  refine r_iconst (pc := 28) dX12_init_28 ?_
  refine r_bipush (pc := 29) (x := 10) dX12_init_29 (by decide) ?_
  refine r_iast (pc := 31) (a := 83) (N := 11) (rf := []) (i := 2) (x := 10) dX12_init_31 (by decide +kernel) (by decide) ?_
  refine r_dup (pc := 32) rfl dX12_init_32 ?_
  refine r_iconst (pc := 33) dX12_init_33 ?_
  refine r_bipush (pc := 34) (x := 15) dX12_init_34 (by decide) ?_
  refine r_iast (pc := 36) (a := 83) (N := 11) (rf := []) (i := 3) (x := 15) dX12_init_36 (by decide +kernel) (by decide) ?_
  refine r_dup (pc := 37) rfl dX12_init_37 ?_
  refine r_iconst (pc := 38) dX12_init_38 ?_
  refine r_bipush (pc := 39) (x := 18) dX12_init_39 (by decide) ?_
  refine r_iast (pc := 41) (a := 83) (N := 11) (rf := []) (i := 4) (x := 18) dX12_init_41 (by decide +kernel) (by decide) ?_
  refine r_dup (pc := 42) rfl dX12_init_42 ?_
  refine r_iconst (pc := 43) dX12_init_43 ?_
  refine r_bipush (pc := 44) (x := 23) dX12_init_44 (by decide) ?_
  refine r_iast (pc := 46) (a := 83) (N := 11) (rf := []) (i := 5) (x := 23) dX12_init_46 (by decide +kernel) (by decide) ?_
  refine r_dup (pc := 47) rfl dX12_init_47 ?_
  refine r_bipush (pc := 48) (x := 6) dX12_init_48 (by decide) ?_
  refine r_bipush (pc := 50) (x := 27) dX12_init_50 (by decide) ?_
  refine r_iast (pc := 52) (a := 83) (N := 11) (rf := []) (i := 6) (x := 27) dX12_init_52 (by decide +kernel) (by decide) ?_
  refine r_dup (pc := 53) rfl dX12_init_53 ?_
  refine r_bipush (pc := 54) (x := 7) dX12_init_54 (by decide) ?_
  refine r_bipush (pc := 56) (x := 30) dX12_init_56 (by decide) ?_
  refine r_iast (pc := 58) (a := 83) (N := 11) (rf := []) (i := 7) (x := 30) dX12_init_58 (by decide +kernel) (by decide) ?_
  refine r_dup (pc := 59) rfl dX12_init_59 ?_
  refine r_bipush (pc := 60) (x := 8) dX12_init_60 (by decide) ?_
  refine r_bipush (pc := 62) (x := 34) dX12_init_62 (by decide) ?_
  refine r_iast (pc := 64) (a := 83) (N := 11) (rf := []) (i := 8) (x := 34) dX12_init_64 (by decide +kernel) (by decide) ?_
  refine r_dup (pc := 65) rfl dX12_init_65 ?_
  refine r_bipush (pc := 66) (x := 9) dX12_init_66 (by decide) ?_
  refine r_bipush (pc := 68) (x := 37) dX12_init_68 (by decide) ?_
  refine r_iast (pc := 70) (a := 83) (N := 11) (rf := []) (i := 9) (x := 37) dX12_init_70 (by decide +kernel) (by decide) ?_
  refine r_dup (pc := 71) rfl dX12_init_71 ?_
  refine r_bipush (pc := 72) (x := 10) dX12_init_72 (by decide) ?_
  refine r_bipush (pc := 74) (x := 40) dX12_init_74 (by decide) ?_
  refine r_iast (pc := 76) (a := 83) (N := 11) (rf := []) (i := 10) (x := 40) dX12_init_76 (by decide +kernel) (by decide) ?_
  refine q_putR (pc := 77) (o := 81) (b := 83) (ci := 12) (f := 9) (N := 51) (rf := [some 82, none, none, none, none, none, none, none, none, none, none, none, none, none, none, none, none, none, none, none, none, none, none, none, none, none, none, none, none, none, none, none, none, none, none, none, none, none, none, none, none, none, none, none, none, none, none, none, none, none, none]) fl_X12_13 (Or.inr ⟨_, rfl⟩) ⟨_, _, _, rfl, rfl⟩ rfl dX12_init_77 (by decide +kernel) (Nat.le_of_ble_eq_true rfl) (S' := zc_113) rfl ?_
  exact kk
def zc_114 : zSh := zc_113 ++ [(20, 40, [])]
def zc_115 : zSh := zc_114.set 81 (12, 51, [some 82, none, none, none, none, none, none, none, none, some 83, some 84, none, none, none, none, none, none, none, none, none, none, none, none, none, none, none, none, none, none, none, none, none, none, none, none, none, none, none, none, none, none, none, none, none, none, none, none, none, none, none, none])
set_option maxRecDepth 100000 in
set_option maxHeartbeats 4000000 in
theorem iX12_3 {h : zMm} {Q : Option Value → zSh → zMm → Prop} (kk : RR mX12_init 3 371 322 [some (.ref 81)] [] zc_115 (zU (zU (zU (zU (zU (zU (zU (zU (zU (zU (zU (zU (zU (zU (zU (zU (zU (zU (zU (zU (zU (zU (zU (zU (zU (zU (zU (zU (zU (zU (zU (zU (zU (zU (zU (zU (zU (zU (zU (zU (zN h 84) 84 0 115) 84 1 111) 84 2 99) 84 3 107) 84 4 101) 84 5 116) 84 6 116) 84 7 117) 84 8 114) 84 9 110) 84 10 99) 84 11 108) 84 12 105) 84 13 109) 84 14 98) 84 15 98) 84 16 97) 84 17 103) 84 18 101) 84 19 109) 84 20 112) 84 21 116) 84 22 121) 84 23 99) 84 24 111) 84 25 114) 84 26 100) 84 27 100) 84 28 101) 84 29 119) 84 30 104) 84 31 105) 84 32 103) 84 33 104) 84 34 114) 84 35 111) 84 36 119) 84 37 115) 84 38 117) 84 39 110) Q) : RR mX12_init 2 331 80 [some (.ref 81)] [] zc_113 h Q := by
  refine r_aload_n (pc := 80) (a := 81) dX12_init_80 rfl ?_
  refine r_bipush (pc := 81) (x := 40) dX12_init_81 (by decide) ?_
  refine q_newa_int (pc := 83) (x := 40) (N := 40) ac_int dX12_init_83 rfl (by decide) (S' := zc_114) rfl (a := 84) (by decide +kernel) (by decide) (by decide) (by decide) ?_
  refine r_dup (pc := 85) rfl dX12_init_85 ?_
  refine r_iconst (pc := 86) dX12_init_86 ?_
  refine r_bipush (pc := 87) (x := 115) dX12_init_87 (by decide) ?_
  refine r_iast (pc := 89) (a := 84) (N := 40) (rf := []) (i := 0) (x := 115) dX12_init_89 (by decide +kernel) (by decide) ?_
  refine r_dup (pc := 90) rfl dX12_init_90 ?_
  refine r_iconst (pc := 91) dX12_init_91 ?_
  refine r_bipush (pc := 92) (x := 111) dX12_init_92 (by decide) ?_
  refine r_iast (pc := 94) (a := 84) (N := 40) (rf := []) (i := 1) (x := 111) dX12_init_94 (by decide +kernel) (by decide) ?_
  refine r_dup (pc := 95) rfl dX12_init_95 ?_
  refine r_iconst (pc := 96) dX12_init_96 ?_
  refine r_bipush (pc := 97) (x := 99) dX12_init_97 (by decide) ?_
  refine r_iast (pc := 99) (a := 84) (N := 40) (rf := []) (i := 2) (x := 99) dX12_init_99 (by decide +kernel) (by decide) ?_
  refine r_dup (pc := 100) rfl dX12_init_100 ?_
  refine r_iconst (pc := 101) dX12_init_101 ?_
  refine r_bipush (pc := 102) (x := 107) dX12_init_102 (by decide) ?_
  refine r_iast (pc := 104) (a := 84) (N := 40) (rf := []) (i := 3) (x := 107) dX12_init_104 (by decide +kernel) (by decide) ?_
  refine r_dup (pc := 105) rfl dX12_init_105 ?_
  refine r_iconst (pc := 106) dX12_init_106 ?_
  refine r_bipush (pc := 107) (x := 101) dX12_init_107 (by decide) ?_
  refine r_iast (pc := 109) (a := 84) (N := 40) (rf := []) (i := 4) (x := 101) dX12_init_109 (by decide +kernel) (by decide) ?_
  refine r_dup (pc := 110) rfl dX12_init_110 ?_
  refine r_iconst (pc := 111) dX12_init_111 ?_
  refine r_bipush (pc := 112) (x := 116) dX12_init_112 (by decide) ?_
  refine r_iast (pc := 114) (a := 84) (N := 40) (rf := []) (i := 5) (x := 116) dX12_init_114 (by decide +kernel) (by decide) ?_
  refine r_dup (pc := 115) rfl dX12_init_115 ?_
  refine r_bipush (pc := 116) (x := 6) dX12_init_116 (by decide) ?_
  refine r_bipush (pc := 118) (x := 116) dX12_init_118 (by decide) ?_
  refine r_iast (pc := 120) (a := 84) (N := 40) (rf := []) (i := 6) (x := 116) dX12_init_120 (by decide +kernel) (by decide) ?_
  refine r_dup (pc := 121) rfl dX12_init_121 ?_
  refine r_bipush (pc := 122) (x := 7) dX12_init_122 (by decide) ?_
  refine r_bipush (pc := 124) (x := 117) dX12_init_124 (by decide) ?_
  refine r_iast (pc := 126) (a := 84) (N := 40) (rf := []) (i := 7) (x := 117) dX12_init_126 (by decide +kernel) (by decide) ?_
  refine r_dup (pc := 127) rfl dX12_init_127 ?_
  refine r_bipush (pc := 128) (x := 8) dX12_init_128 (by decide) ?_
  refine r_bipush (pc := 130) (x := 114) dX12_init_130 (by decide) ?_
  refine r_iast (pc := 132) (a := 84) (N := 40) (rf := []) (i := 8) (x := 114) dX12_init_132 (by decide +kernel) (by decide) ?_
  refine r_dup (pc := 133) rfl dX12_init_133 ?_
  refine r_bipush (pc := 134) (x := 9) dX12_init_134 (by decide) ?_
  refine r_bipush (pc := 136) (x := 110) dX12_init_136 (by decide) ?_
  refine r_iast (pc := 138) (a := 84) (N := 40) (rf := []) (i := 9) (x := 110) dX12_init_138 (by decide +kernel) (by decide) ?_
  refine r_dup (pc := 139) rfl dX12_init_139 ?_
  refine r_bipush (pc := 140) (x := 10) dX12_init_140 (by decide) ?_
  refine r_bipush (pc := 142) (x := 99) dX12_init_142 (by decide) ?_
  refine r_iast (pc := 144) (a := 84) (N := 40) (rf := []) (i := 10) (x := 99) dX12_init_144 (by decide +kernel) (by decide) ?_
  refine r_dup (pc := 145) rfl dX12_init_145 ?_
  refine r_bipush (pc := 146) (x := 11) dX12_init_146 (by decide) ?_
  refine r_bipush (pc := 148) (x := 108) dX12_init_148 (by decide) ?_
  refine r_iast (pc := 150) (a := 84) (N := 40) (rf := []) (i := 11) (x := 108) dX12_init_150 (by decide +kernel) (by decide) ?_
  refine r_dup (pc := 151) rfl dX12_init_151 ?_
  refine r_bipush (pc := 152) (x := 12) dX12_init_152 (by decide) ?_
  refine r_bipush (pc := 154) (x := 105) dX12_init_154 (by decide) ?_
  refine r_iast (pc := 156) (a := 84) (N := 40) (rf := []) (i := 12) (x := 105) dX12_init_156 (by decide +kernel) (by decide) ?_
  refine r_dup (pc := 157) rfl dX12_init_157 ?_
  refine r_bipush (pc := 158) (x := 13) dX12_init_158 (by decide) ?_
  refine r_bipush (pc := 160) (x := 109) dX12_init_160 (by decide) ?_
  refine r_iast (pc := 162) (a := 84) (N := 40) (rf := []) (i := 13) (x := 109) dX12_init_162 (by decide +kernel) (by decide) ?_
  refine r_dup (pc := 163) rfl dX12_init_163 ?_
  refine r_bipush (pc := 164) (x := 14) dX12_init_164 (by decide) ?_
  refine r_bipush (pc := 166) (x := 98) dX12_init_166 (by decide) ?_
  refine r_iast (pc := 168) (a := 84) (N := 40) (rf := []) (i := 14) (x := 98) dX12_init_168 (by decide +kernel) (by decide) ?_
  refine r_dup (pc := 169) rfl dX12_init_169 ?_
  refine r_bipush (pc := 170) (x := 15) dX12_init_170 (by decide) ?_
  refine r_bipush (pc := 172) (x := 98) dX12_init_172 (by decide) ?_
  refine r_iast (pc := 174) (a := 84) (N := 40) (rf := []) (i := 15) (x := 98) dX12_init_174 (by decide +kernel) (by decide) ?_
  refine r_dup (pc := 175) rfl dX12_init_175 ?_
  refine r_bipush (pc := 176) (x := 16) dX12_init_176 (by decide) ?_
  refine r_bipush (pc := 178) (x := 97) dX12_init_178 (by decide) ?_
  refine r_iast (pc := 180) (a := 84) (N := 40) (rf := []) (i := 16) (x := 97) dX12_init_180 (by decide +kernel) (by decide) ?_
  refine r_dup (pc := 181) rfl dX12_init_181 ?_
  refine r_bipush (pc := 182) (x := 17) dX12_init_182 (by decide) ?_
  refine r_bipush (pc := 184) (x := 103) dX12_init_184 (by decide) ?_
  refine r_iast (pc := 186) (a := 84) (N := 40) (rf := []) (i := 17) (x := 103) dX12_init_186 (by decide +kernel) (by decide) ?_
  refine r_dup (pc := 187) rfl dX12_init_187 ?_
  refine r_bipush (pc := 188) (x := 18) dX12_init_188 (by decide) ?_
  refine r_bipush (pc := 190) (x := 101) dX12_init_190 (by decide) ?_
  refine r_iast (pc := 192) (a := 84) (N := 40) (rf := []) (i := 18) (x := 101) dX12_init_192 (by decide +kernel) (by decide) ?_
  refine r_dup (pc := 193) rfl dX12_init_193 ?_
  refine r_bipush (pc := 194) (x := 19) dX12_init_194 (by decide) ?_
  refine r_bipush (pc := 196) (x := 109) dX12_init_196 (by decide) ?_
  refine r_iast (pc := 198) (a := 84) (N := 40) (rf := []) (i := 19) (x := 109) dX12_init_198 (by decide +kernel) (by decide) ?_
  refine r_dup (pc := 199) rfl dX12_init_199 ?_
  refine r_bipush (pc := 200) (x := 20) dX12_init_200 (by decide) ?_
  refine r_bipush (pc := 202) (x := 112) dX12_init_202 (by decide) ?_
  refine r_iast (pc := 204) (a := 84) (N := 40) (rf := []) (i := 20) (x := 112) dX12_init_204 (by decide +kernel) (by decide) ?_
  refine r_dup (pc := 205) rfl dX12_init_205 ?_
  refine r_bipush (pc := 206) (x := 21) dX12_init_206 (by decide) ?_
  refine r_bipush (pc := 208) (x := 116) dX12_init_208 (by decide) ?_
  refine r_iast (pc := 210) (a := 84) (N := 40) (rf := []) (i := 21) (x := 116) dX12_init_210 (by decide +kernel) (by decide) ?_
  refine r_dup (pc := 211) rfl dX12_init_211 ?_
  refine r_bipush (pc := 212) (x := 22) dX12_init_212 (by decide) ?_
  refine r_bipush (pc := 214) (x := 121) dX12_init_214 (by decide) ?_
  refine r_iast (pc := 216) (a := 84) (N := 40) (rf := []) (i := 22) (x := 121) dX12_init_216 (by decide +kernel) (by decide) ?_
  refine r_dup (pc := 217) rfl dX12_init_217 ?_
  refine r_bipush (pc := 218) (x := 23) dX12_init_218 (by decide) ?_
  refine r_bipush (pc := 220) (x := 99) dX12_init_220 (by decide) ?_
  refine r_iast (pc := 222) (a := 84) (N := 40) (rf := []) (i := 23) (x := 99) dX12_init_222 (by decide +kernel) (by decide) ?_
  refine r_dup (pc := 223) rfl dX12_init_223 ?_
  refine r_bipush (pc := 224) (x := 24) dX12_init_224 (by decide) ?_
  refine r_bipush (pc := 226) (x := 111) dX12_init_226 (by decide) ?_
  refine r_iast (pc := 228) (a := 84) (N := 40) (rf := []) (i := 24) (x := 111) dX12_init_228 (by decide +kernel) (by decide) ?_
  refine r_dup (pc := 229) rfl dX12_init_229 ?_
  refine r_bipush (pc := 230) (x := 25) dX12_init_230 (by decide) ?_
  refine r_bipush (pc := 232) (x := 114) dX12_init_232 (by decide) ?_
  refine r_iast (pc := 234) (a := 84) (N := 40) (rf := []) (i := 25) (x := 114) dX12_init_234 (by decide +kernel) (by decide) ?_
  refine r_dup (pc := 235) rfl dX12_init_235 ?_
  refine r_bipush (pc := 236) (x := 26) dX12_init_236 (by decide) ?_
  refine r_bipush (pc := 238) (x := 100) dX12_init_238 (by decide) ?_
  refine r_iast (pc := 240) (a := 84) (N := 40) (rf := []) (i := 26) (x := 100) dX12_init_240 (by decide +kernel) (by decide) ?_
  refine r_dup (pc := 241) rfl dX12_init_241 ?_
  refine r_bipush (pc := 242) (x := 27) dX12_init_242 (by decide) ?_
  refine r_bipush (pc := 244) (x := 100) dX12_init_244 (by decide) ?_
  refine r_iast (pc := 246) (a := 84) (N := 40) (rf := []) (i := 27) (x := 100) dX12_init_246 (by decide +kernel) (by decide) ?_
  refine r_dup (pc := 247) rfl dX12_init_247 ?_
  refine r_bipush (pc := 248) (x := 28) dX12_init_248 (by decide) ?_
  refine r_bipush (pc := 250) (x := 101) dX12_init_250 (by decide) ?_
  refine r_iast (pc := 252) (a := 84) (N := 40) (rf := []) (i := 28) (x := 101) dX12_init_252 (by decide +kernel) (by decide) ?_
  refine r_dup (pc := 253) rfl dX12_init_253 ?_
  refine r_bipush (pc := 254) (x := 29) dX12_init_254 (by decide) ?_
  refine r_bipush (pc := 256) (x := 119) dX12_init_256 (by decide) ?_
  refine r_iast (pc := 258) (a := 84) (N := 40) (rf := []) (i := 29) (x := 119) dX12_init_258 (by decide +kernel) (by decide) ?_
  refine r_dup (pc := 259) rfl dX12_init_259 ?_
  refine r_bipush (pc := 260) (x := 30) dX12_init_260 (by decide) ?_
  refine r_bipush (pc := 262) (x := 104) dX12_init_262 (by decide) ?_
  refine r_iast (pc := 264) (a := 84) (N := 40) (rf := []) (i := 30) (x := 104) dX12_init_264 (by decide +kernel) (by decide) ?_
  refine r_dup (pc := 265) rfl dX12_init_265 ?_
  refine r_bipush (pc := 266) (x := 31) dX12_init_266 (by decide) ?_
  refine r_bipush (pc := 268) (x := 105) dX12_init_268 (by decide) ?_
  refine r_iast (pc := 270) (a := 84) (N := 40) (rf := []) (i := 31) (x := 105) dX12_init_270 (by decide +kernel) (by decide) ?_
  refine r_dup (pc := 271) rfl dX12_init_271 ?_
  refine r_bipush (pc := 272) (x := 32) dX12_init_272 (by decide) ?_
  refine r_bipush (pc := 274) (x := 103) dX12_init_274 (by decide) ?_
  refine r_iast (pc := 276) (a := 84) (N := 40) (rf := []) (i := 32) (x := 103) dX12_init_276 (by decide +kernel) (by decide) ?_
  refine r_dup (pc := 277) rfl dX12_init_277 ?_
  refine r_bipush (pc := 278) (x := 33) dX12_init_278 (by decide) ?_
  refine r_bipush (pc := 280) (x := 104) dX12_init_280 (by decide) ?_
  refine r_iast (pc := 282) (a := 84) (N := 40) (rf := []) (i := 33) (x := 104) dX12_init_282 (by decide +kernel) (by decide) ?_
  refine r_dup (pc := 283) rfl dX12_init_283 ?_
  refine r_bipush (pc := 284) (x := 34) dX12_init_284 (by decide) ?_
  refine r_bipush (pc := 286) (x := 114) dX12_init_286 (by decide) ?_
  refine r_iast (pc := 288) (a := 84) (N := 40) (rf := []) (i := 34) (x := 114) dX12_init_288 (by decide +kernel) (by decide) ?_
  refine r_dup (pc := 289) rfl dX12_init_289 ?_
  refine r_bipush (pc := 290) (x := 35) dX12_init_290 (by decide) ?_
  refine r_bipush (pc := 292) (x := 111) dX12_init_292 (by decide) ?_
  refine r_iast (pc := 294) (a := 84) (N := 40) (rf := []) (i := 35) (x := 111) dX12_init_294 (by decide +kernel) (by decide) ?_
  refine r_dup (pc := 295) rfl dX12_init_295 ?_
  refine r_bipush (pc := 296) (x := 36) dX12_init_296 (by decide) ?_
  refine r_bipush (pc := 298) (x := 119) dX12_init_298 (by decide) ?_
  refine r_iast (pc := 300) (a := 84) (N := 40) (rf := []) (i := 36) (x := 119) dX12_init_300 (by decide +kernel) (by decide) ?_
  refine r_dup (pc := 301) rfl dX12_init_301 ?_
  refine r_bipush (pc := 302) (x := 37) dX12_init_302 (by decide) ?_
  refine r_bipush (pc := 304) (x := 115) dX12_init_304 (by decide) ?_
  refine r_iast (pc := 306) (a := 84) (N := 40) (rf := []) (i := 37) (x := 115) dX12_init_306 (by decide +kernel) (by decide) ?_
  refine r_dup (pc := 307) rfl dX12_init_307 ?_
  refine r_bipush (pc := 308) (x := 38) dX12_init_308 (by decide) ?_
  refine r_bipush (pc := 310) (x := 117) dX12_init_310 (by decide) ?_
  refine r_iast (pc := 312) (a := 84) (N := 40) (rf := []) (i := 38) (x := 117) dX12_init_312 (by decide +kernel) (by decide) ?_
  refine r_dup (pc := 313) rfl dX12_init_313 ?_
  refine r_bipush (pc := 314) (x := 39) dX12_init_314 (by decide) ?_
  refine r_bipush (pc := 316) (x := 110) dX12_init_316 (by decide) ?_
  refine r_iast (pc := 318) (a := 84) (N := 40) (rf := []) (i := 39) (x := 110) dX12_init_318 (by decide +kernel) (by decide) ?_
  refine q_putR (pc := 319) (o := 81) (b := 84) (ci := 12) (f := 10) (N := 51) (rf := [some 82, none, none, none, none, none, none, none, none, some 83, none, none, none, none, none, none, none, none, none, none, none, none, none, none, none, none, none, none, none, none, none, none, none, none, none, none, none, none, none, none, none, none, none, none, none, none, none, none, none, none, none]) fl_X12_16 (Or.inr ⟨_, rfl⟩) ⟨_, _, _, rfl, rfl⟩ rfl dX12_init_319 (by decide +kernel) (Nat.le_of_ble_eq_true rfl) (S' := zc_115) rfl ?_
  exact kk
def zc_116 : zSh := zc_115 ++ [(20, 8, [])]
def zc_117 : zSh := zc_116.set 81 (12, 51, [some 82, none, none, none, none, none, none, none, none, some 83, some 84, some 85, none, none, none, none, none, none, none, none, none, none, none, none, none, none, none, none, none, none, none, none, none, none, none, none, none, none, none, none, none, none, none, none, none, none, none, none, none, none, none])
set_option maxRecDepth 100000 in
set_option maxHeartbeats 4000000 in
theorem iX12_4 {h : zMm} {Q : Option Value → zSh → zMm → Prop} (kk : RR mX12_init 4 379 364 [some (.ref 81)] [] zc_117 (zU (zU (zU (zU (zU (zU (zU (zU (zN h 85) 85 0 0) 85 1 0) 85 2 1) 85 3 1) 85 4 0) 85 5 1) 85 6 0) 85 7 0) Q) : RR mX12_init 3 371 322 [some (.ref 81)] [] zc_115 h Q := by
  refine r_aload_n (pc := 322) (a := 81) dX12_init_322 rfl ?_
  refine r_bipush (pc := 323) (x := 8) dX12_init_323 (by decide) ?_
  refine q_newa_int (pc := 325) (x := 8) (N := 8) ac_int dX12_init_325 rfl (by decide) (S' := zc_116) rfl (a := 85) (by decide +kernel) (by decide) (by decide) (by decide) ?_
  refine r_dup (pc := 327) rfl dX12_init_327 ?_
  refine r_iconst (pc := 328) dX12_init_328 ?_
  refine r_iconst (pc := 329) dX12_init_329 ?_
  refine r_iast (pc := 330) (a := 85) (N := 8) (rf := []) (i := 0) (x := 0) dX12_init_330 (by decide +kernel) (by decide) ?_
  refine r_dup (pc := 331) rfl dX12_init_331 ?_
  refine r_iconst (pc := 332) dX12_init_332 ?_
  refine r_iconst (pc := 333) dX12_init_333 ?_
  refine r_iast (pc := 334) (a := 85) (N := 8) (rf := []) (i := 1) (x := 0) dX12_init_334 (by decide +kernel) (by decide) ?_
  refine r_dup (pc := 335) rfl dX12_init_335 ?_
  refine r_iconst (pc := 336) dX12_init_336 ?_
  refine r_iconst (pc := 337) dX12_init_337 ?_
  refine r_iast (pc := 338) (a := 85) (N := 8) (rf := []) (i := 2) (x := 1) dX12_init_338 (by decide +kernel) (by decide) ?_
  refine r_dup (pc := 339) rfl dX12_init_339 ?_
  refine r_iconst (pc := 340) dX12_init_340 ?_
  refine r_iconst (pc := 341) dX12_init_341 ?_
  refine r_iast (pc := 342) (a := 85) (N := 8) (rf := []) (i := 3) (x := 1) dX12_init_342 (by decide +kernel) (by decide) ?_
  refine r_dup (pc := 343) rfl dX12_init_343 ?_
  refine r_iconst (pc := 344) dX12_init_344 ?_
  refine r_iconst (pc := 345) dX12_init_345 ?_
  refine r_iast (pc := 346) (a := 85) (N := 8) (rf := []) (i := 4) (x := 0) dX12_init_346 (by decide +kernel) (by decide) ?_
  refine r_dup (pc := 347) rfl dX12_init_347 ?_
  refine r_iconst (pc := 348) dX12_init_348 ?_
  refine r_iconst (pc := 349) dX12_init_349 ?_
  refine r_iast (pc := 350) (a := 85) (N := 8) (rf := []) (i := 5) (x := 1) dX12_init_350 (by decide +kernel) (by decide) ?_
  refine r_dup (pc := 351) rfl dX12_init_351 ?_
  refine r_bipush (pc := 352) (x := 6) dX12_init_352 (by decide) ?_
  refine r_iconst (pc := 354) dX12_init_354 ?_
  refine r_iast (pc := 355) (a := 85) (N := 8) (rf := []) (i := 6) (x := 0) dX12_init_355 (by decide +kernel) (by decide) ?_
  refine r_dup (pc := 356) rfl dX12_init_356 ?_
  refine r_bipush (pc := 357) (x := 7) dX12_init_357 (by decide) ?_
  refine r_iconst (pc := 359) dX12_init_359 ?_
  refine r_iast (pc := 360) (a := 85) (N := 8) (rf := []) (i := 7) (x := 0) dX12_init_360 (by decide +kernel) (by decide) ?_
  refine q_putR (pc := 361) (o := 81) (b := 85) (ci := 12) (f := 11) (N := 51) (rf := [some 82, none, none, none, none, none, none, none, none, some 83, some 84, none, none, none, none, none, none, none, none, none, none, none, none, none, none, none, none, none, none, none, none, none, none, none, none, none, none, none, none, none, none, none, none, none, none, none, none, none, none, none, none]) fl_X12_19 (Or.inr ⟨_, rfl⟩) ⟨_, _, _, rfl, rfl⟩ rfl dX12_init_361 (by decide +kernel) (Nat.le_of_ble_eq_true rfl) (S' := zc_117) rfl ?_
  exact kk
def zc_118 : zSh := zc_117 ++ [(20, 8, [])]
def zc_119 : zSh := zc_118.set 81 (12, 51, [some 82, none, none, none, none, none, none, none, none, some 83, some 84, some 85, some 86, none, none, none, none, none, none, none, none, none, none, none, none, none, none, none, none, none, none, none, none, none, none, none, none, none, none, none, none, none, none, none, none, none, none, none, none, none, none])
set_option maxRecDepth 100000 in
set_option maxHeartbeats 4000000 in
theorem iX12_5 {h : zMm} {Q : Option Value → zSh → zMm → Prop} (kk : RR mX12_init 5 387 414 [some (.ref 81)] [] zc_119 (zU (zU (zU (zU (zU (zU (zU (zU (zN h 86) 86 0 35) 86 1 3) 86 2 4) 86 3 200) 86 4 9) 86 5 99) 86 6 999) 86 7 60) Q) : RR mX12_init 4 379 364 [some (.ref 81)] [] zc_117 h Q := by
  refine r_aload_n (pc := 364) (a := 81) dX12_init_364 rfl ?_
  refine r_bipush (pc := 365) (x := 8) dX12_init_365 (by decide) ?_
  refine q_newa_int (pc := 367) (x := 8) (N := 8) ac_int dX12_init_367 rfl (by decide) (S' := zc_118) rfl (a := 86) (by decide +kernel) (by decide) (by decide) (by decide) ?_
  refine r_dup (pc := 369) rfl dX12_init_369 ?_
  refine r_iconst (pc := 370) dX12_init_370 ?_
  refine r_bipush (pc := 371) (x := 35) dX12_init_371 (by decide) ?_
  refine r_iast (pc := 373) (a := 86) (N := 8) (rf := []) (i := 0) (x := 35) dX12_init_373 (by decide +kernel) (by decide) ?_
  refine r_dup (pc := 374) rfl dX12_init_374 ?_
  refine r_iconst (pc := 375) dX12_init_375 ?_
  refine r_iconst (pc := 376) dX12_init_376 ?_
  refine r_iast (pc := 377) (a := 86) (N := 8) (rf := []) (i := 1) (x := 3) dX12_init_377 (by decide +kernel) (by decide) ?_
  refine r_dup (pc := 378) rfl dX12_init_378 ?_
  refine r_iconst (pc := 379) dX12_init_379 ?_
  refine r_iconst (pc := 380) dX12_init_380 ?_
  refine r_iast (pc := 381) (a := 86) (N := 8) (rf := []) (i := 2) (x := 4) dX12_init_381 (by decide +kernel) (by decide) ?_
  refine r_dup (pc := 382) rfl dX12_init_382 ?_
  refine r_iconst (pc := 383) dX12_init_383 ?_
  refine r_sipush (pc := 384) (x := 200) dX12_init_384 (by decide) ?_
  refine r_iast (pc := 387) (a := 86) (N := 8) (rf := []) (i := 3) (x := 200) dX12_init_387 (by decide +kernel) (by decide) ?_
  refine r_dup (pc := 388) rfl dX12_init_388 ?_
  refine r_iconst (pc := 389) dX12_init_389 ?_
  refine r_bipush (pc := 390) (x := 9) dX12_init_390 (by decide) ?_
  refine r_iast (pc := 392) (a := 86) (N := 8) (rf := []) (i := 4) (x := 9) dX12_init_392 (by decide +kernel) (by decide) ?_
  refine r_dup (pc := 393) rfl dX12_init_393 ?_
  refine r_iconst (pc := 394) dX12_init_394 ?_
  refine r_bipush (pc := 395) (x := 99) dX12_init_395 (by decide) ?_
  refine r_iast (pc := 397) (a := 86) (N := 8) (rf := []) (i := 5) (x := 99) dX12_init_397 (by decide +kernel) (by decide) ?_
  refine r_dup (pc := 398) rfl dX12_init_398 ?_
  refine r_bipush (pc := 399) (x := 6) dX12_init_399 (by decide) ?_
  refine r_sipush (pc := 401) (x := 999) dX12_init_401 (by decide) ?_
  refine r_iast (pc := 404) (a := 86) (N := 8) (rf := []) (i := 6) (x := 999) dX12_init_404 (by decide +kernel) (by decide) ?_
  refine r_dup (pc := 405) rfl dX12_init_405 ?_
  refine r_bipush (pc := 406) (x := 7) dX12_init_406 (by decide) ?_
  refine r_bipush (pc := 408) (x := 60) dX12_init_408 (by decide) ?_
  refine r_iast (pc := 410) (a := 86) (N := 8) (rf := []) (i := 7) (x := 60) dX12_init_410 (by decide +kernel) (by decide) ?_
  refine q_putR (pc := 411) (o := 81) (b := 86) (ci := 12) (f := 12) (N := 51) (rf := [some 82, none, none, none, none, none, none, none, none, some 83, some 84, some 85, none, none, none, none, none, none, none, none, none, none, none, none, none, none, none, none, none, none, none, none, none, none, none, none, none, none, none, none, none, none, none, none, none, none, none, none, none, none, none]) fl_X12_22 (Or.inr ⟨_, rfl⟩) ⟨_, _, _, rfl, rfl⟩ rfl dX12_init_411 (by decide +kernel) (Nat.le_of_ble_eq_true rfl) (S' := zc_119) rfl ?_
  exact kk
def zc_120 : zSh := zc_119 ++ [(20, 8, [])]
def zc_121 : zSh := zc_120.set 81 (12, 51, [some 82, none, none, none, none, none, none, none, none, some 83, some 84, some 85, some 86, some 87, none, none, none, none, none, none, none, none, none, none, none, none, none, none, none, none, none, none, none, none, none, none, none, none, none, none, none, none, none, none, none, none, none, none, none, none, none])
set_option maxRecDepth 100000 in
set_option maxHeartbeats 4000000 in
theorem iX12_6 {h : zMm} {Q : Option Value → zSh → zMm → Prop} (kk : RR mX12_init 6 395 458 [some (.ref 81)] [] zc_121 (zU (zU (zU (zU (zU (zU (zU (zU (zN h 87) 87 0 0) 87 1 1) 87 2 2) 87 3 30) 87 4 2) 87 5 20) 87 6 0) 87 7 3) Q) : RR mX12_init 5 387 414 [some (.ref 81)] [] zc_119 h Q := by
  refine r_aload_n (pc := 414) (a := 81) dX12_init_414 rfl ?_
  refine r_bipush (pc := 415) (x := 8) dX12_init_415 (by decide) ?_
  refine q_newa_int (pc := 417) (x := 8) (N := 8) ac_int dX12_init_417 rfl (by decide) (S' := zc_120) rfl (a := 87) (by decide +kernel) (by decide) (by decide) (by decide) ?_
  refine r_dup (pc := 419) rfl dX12_init_419 ?_
  refine r_iconst (pc := 420) dX12_init_420 ?_
  refine r_iconst (pc := 421) dX12_init_421 ?_
  refine r_iast (pc := 422) (a := 87) (N := 8) (rf := []) (i := 0) (x := 0) dX12_init_422 (by decide +kernel) (by decide) ?_
  refine r_dup (pc := 423) rfl dX12_init_423 ?_
  refine r_iconst (pc := 424) dX12_init_424 ?_
  refine r_iconst (pc := 425) dX12_init_425 ?_
  refine r_iast (pc := 426) (a := 87) (N := 8) (rf := []) (i := 1) (x := 1) dX12_init_426 (by decide +kernel) (by decide) ?_
  refine r_dup (pc := 427) rfl dX12_init_427 ?_
  refine r_iconst (pc := 428) dX12_init_428 ?_
  refine r_iconst (pc := 429) dX12_init_429 ?_
  refine r_iast (pc := 430) (a := 87) (N := 8) (rf := []) (i := 2) (x := 2) dX12_init_430 (by decide +kernel) (by decide) ?_
  refine r_dup (pc := 431) rfl dX12_init_431 ?_
  refine r_iconst (pc := 432) dX12_init_432 ?_
  refine r_bipush (pc := 433) (x := 30) dX12_init_433 (by decide) ?_
  refine r_iast (pc := 435) (a := 87) (N := 8) (rf := []) (i := 3) (x := 30) dX12_init_435 (by decide +kernel) (by decide) ?_
  refine r_dup (pc := 436) rfl dX12_init_436 ?_
  refine r_iconst (pc := 437) dX12_init_437 ?_
  refine r_iconst (pc := 438) dX12_init_438 ?_
  refine r_iast (pc := 439) (a := 87) (N := 8) (rf := []) (i := 4) (x := 2) dX12_init_439 (by decide +kernel) (by decide) ?_
  refine r_dup (pc := 440) rfl dX12_init_440 ?_
  refine r_iconst (pc := 441) dX12_init_441 ?_
  refine r_bipush (pc := 442) (x := 20) dX12_init_442 (by decide) ?_
  refine r_iast (pc := 444) (a := 87) (N := 8) (rf := []) (i := 5) (x := 20) dX12_init_444 (by decide +kernel) (by decide) ?_
  refine r_dup (pc := 445) rfl dX12_init_445 ?_
  refine r_bipush (pc := 446) (x := 6) dX12_init_446 (by decide) ?_
  refine r_iconst (pc := 448) dX12_init_448 ?_
  refine r_iast (pc := 449) (a := 87) (N := 8) (rf := []) (i := 6) (x := 0) dX12_init_449 (by decide +kernel) (by decide) ?_
  refine r_dup (pc := 450) rfl dX12_init_450 ?_
  refine r_bipush (pc := 451) (x := 7) dX12_init_451 (by decide) ?_
  refine r_iconst (pc := 453) dX12_init_453 ?_
  refine r_iast (pc := 454) (a := 87) (N := 8) (rf := []) (i := 7) (x := 3) dX12_init_454 (by decide +kernel) (by decide) ?_
  refine q_putR (pc := 455) (o := 81) (b := 87) (ci := 12) (f := 13) (N := 51) (rf := [some 82, none, none, none, none, none, none, none, none, some 83, some 84, some 85, some 86, none, none, none, none, none, none, none, none, none, none, none, none, none, none, none, none, none, none, none, none, none, none, none, none, none, none, none, none, none, none, none, none, none, none, none, none, none, none]) fl_X12_25 (Or.inr ⟨_, rfl⟩) ⟨_, _, _, rfl, rfl⟩ rfl dX12_init_455 (by decide +kernel) (Nat.le_of_ble_eq_true rfl) (S' := zc_121) rfl ?_
  exact kk
def zc_122 : zSh := zc_121 ++ [(20, 8, [])]
def zc_123 : zSh := zc_122.set 81 (12, 51, [some 82, none, none, none, none, none, none, none, none, some 83, some 84, some 85, some 86, some 87, some 88, none, none, none, none, none, none, none, none, none, none, none, none, none, none, none, none, none, none, none, none, none, none, none, none, none, none, none, none, none, none, none, none, none, none, none, none])
set_option maxRecDepth 100000 in
set_option maxHeartbeats 4000000 in
theorem iX12_7 {h : zMm} {Q : Option Value → zSh → zMm → Prop} (kk : RR mX12_init 7 403 502 [some (.ref 81)] [] zc_123 (zU (zU (zU (zU (zU (zU (zU (zU (zN h 88) 88 0 0) 88 1 1) 88 2 2) 88 3 30) 88 4 2) 88 5 20) 88 6 0) 88 7 3) Q) : RR mX12_init 6 395 458 [some (.ref 81)] [] zc_121 h Q := by
  refine r_aload_n (pc := 458) (a := 81) dX12_init_458 rfl ?_
  refine r_bipush (pc := 459) (x := 8) dX12_init_459 (by decide) ?_
  refine q_newa_int (pc := 461) (x := 8) (N := 8) ac_int dX12_init_461 rfl (by decide) (S' := zc_122) rfl (a := 88) (by decide +kernel) (by decide) (by decide) (by decide) ?_
  refine r_dup (pc := 463) rfl dX12_init_463 ?_
  refine r_iconst (pc := 464) dX12_init_464 ?_
  refine r_iconst (pc := 465) dX12_init_465 ?_
  refine r_iast (pc := 466) (a := 88) (N := 8) (rf := []) (i := 0) (x := 0) dX12_init_466 (by decide +kernel) (by decide) ?_
  refine r_dup (pc := 467) rfl dX12_init_467 ?_
  refine r_iconst (pc := 468) dX12_init_468 ?_
  refine r_iconst (pc := 469) dX12_init_469 ?_
  refine r_iast (pc := 470) (a := 88) (N := 8) (rf := []) (i := 1) (x := 1) dX12_init_470 (by decide +kernel) (by decide) ?_
  refine r_dup (pc := 471) rfl dX12_init_471 ?_
  refine r_iconst (pc := 472) dX12_init_472 ?_
  refine r_iconst (pc := 473) dX12_init_473 ?_
  refine r_iast (pc := 474) (a := 88) (N := 8) (rf := []) (i := 2) (x := 2) dX12_init_474 (by decide +kernel) (by decide) ?_
  refine r_dup (pc := 475) rfl dX12_init_475 ?_
  refine r_iconst (pc := 476) dX12_init_476 ?_
  refine r_bipush (pc := 477) (x := 30) dX12_init_477 (by decide) ?_
  refine r_iast (pc := 479) (a := 88) (N := 8) (rf := []) (i := 3) (x := 30) dX12_init_479 (by decide +kernel) (by decide) ?_
  refine r_dup (pc := 480) rfl dX12_init_480 ?_
  refine r_iconst (pc := 481) dX12_init_481 ?_
  refine r_iconst (pc := 482) dX12_init_482 ?_
  refine r_iast (pc := 483) (a := 88) (N := 8) (rf := []) (i := 4) (x := 2) dX12_init_483 (by decide +kernel) (by decide) ?_
  refine r_dup (pc := 484) rfl dX12_init_484 ?_
  refine r_iconst (pc := 485) dX12_init_485 ?_
  refine r_bipush (pc := 486) (x := 20) dX12_init_486 (by decide) ?_
  refine r_iast (pc := 488) (a := 88) (N := 8) (rf := []) (i := 5) (x := 20) dX12_init_488 (by decide +kernel) (by decide) ?_
  refine r_dup (pc := 489) rfl dX12_init_489 ?_
  refine r_bipush (pc := 490) (x := 6) dX12_init_490 (by decide) ?_
  refine r_iconst (pc := 492) dX12_init_492 ?_
  refine r_iast (pc := 493) (a := 88) (N := 8) (rf := []) (i := 6) (x := 0) dX12_init_493 (by decide +kernel) (by decide) ?_
  refine r_dup (pc := 494) rfl dX12_init_494 ?_
  refine r_bipush (pc := 495) (x := 7) dX12_init_495 (by decide) ?_
  refine r_iconst (pc := 497) dX12_init_497 ?_
  refine r_iast (pc := 498) (a := 88) (N := 8) (rf := []) (i := 7) (x := 3) dX12_init_498 (by decide +kernel) (by decide) ?_
  refine q_putR (pc := 499) (o := 81) (b := 88) (ci := 12) (f := 14) (N := 51) (rf := [some 82, none, none, none, none, none, none, none, none, some 83, some 84, some 85, some 86, some 87, none, none, none, none, none, none, none, none, none, none, none, none, none, none, none, none, none, none, none, none, none, none, none, none, none, none, none, none, none, none, none, none, none, none, none, none, none]) fl_X12_28 (Or.inr ⟨_, rfl⟩) ⟨_, _, _, rfl, rfl⟩ rfl dX12_init_499 (by decide +kernel) (Nat.le_of_ble_eq_true rfl) (S' := zc_123) rfl ?_
  exact kk
def zc_124 : zSh := zc_123 ++ [(20, 8, [])]
def zc_125 : zSh := zc_124.set 81 (12, 51, [some 82, none, none, none, none, none, none, none, none, some 83, some 84, some 85, some 86, some 87, some 88, some 89, none, none, none, none, none, none, none, none, none, none, none, none, none, none, none, none, none, none, none, none, none, none, none, none, none, none, none, none, none, none, none, none, none, none, none])
set_option maxRecDepth 100000 in
set_option maxHeartbeats 4000000 in
theorem iX12_8 {h : zMm} {Q : Option Value → zSh → zMm → Prop} (kk : RR mX12_init 8 411 510 [some (.ref 81)] [] zc_125 (zN h 89) Q) : RR mX12_init 7 403 502 [some (.ref 81)] [] zc_123 h Q := by
  refine r_aload_n (pc := 502) (a := 81) dX12_init_502 rfl ?_
  refine r_bipush (pc := 503) (x := 8) dX12_init_503 (by decide) ?_
  refine q_newa_int (pc := 505) (x := 8) (N := 8) ac_int dX12_init_505 rfl (by decide) (S' := zc_124) rfl (a := 89) (by decide +kernel) (by decide) (by decide) (by decide) ?_
  refine q_putR (pc := 507) (o := 81) (b := 89) (ci := 12) (f := 15) (N := 51) (rf := [some 82, none, none, none, none, none, none, none, none, some 83, some 84, some 85, some 86, some 87, some 88, none, none, none, none, none, none, none, none, none, none, none, none, none, none, none, none, none, none, none, none, none, none, none, none, none, none, none, none, none, none, none, none, none, none, none, none]) fl_X12_31 (Or.inr ⟨_, rfl⟩) ⟨_, _, _, rfl, rfl⟩ rfl dX12_init_507 (by decide +kernel) (Nat.le_of_ble_eq_true rfl) (S' := zc_125) rfl ?_
  exact kk
def zc_126 : zSh := zc_125 ++ [(20, 36, [])]
def zc_127 : zSh := zc_126.set 81 (12, 51, [some 82, none, none, none, none, none, none, none, none, some 83, some 84, some 85, some 86, some 87, some 88, some 89, some 90, none, none, none, none, none, none, none, none, none, none, none, none, none, none, none, none, none, none, none, none, none, none, none, none, none, none, none, none, none, none, none, none, none, none])
set_option maxRecDepth 100000 in
set_option maxHeartbeats 4000000 in
theorem iX12_9 {h : zMm} {Q : Option Value → zSh → zMm → Prop} (kk : RR mX12_init 9 447 518 [some (.ref 81)] [] zc_127 (zN h 90) Q) : RR mX12_init 8 411 510 [some (.ref 81)] [] zc_125 h Q := by
  refine r_aload_n (pc := 510) (a := 81) dX12_init_510 rfl ?_
  refine r_bipush (pc := 511) (x := 36) dX12_init_511 (by decide) ?_
  refine q_newa_int (pc := 513) (x := 36) (N := 36) ac_int dX12_init_513 rfl (by decide) (S' := zc_126) rfl (a := 90) (by decide +kernel) (by decide) (by decide) (by decide) ?_
  refine q_putR (pc := 515) (o := 81) (b := 90) (ci := 12) (f := 16) (N := 51) (rf := [some 82, none, none, none, none, none, none, none, none, some 83, some 84, some 85, some 86, some 87, some 88, some 89, none, none, none, none, none, none, none, none, none, none, none, none, none, none, none, none, none, none, none, none, none, none, none, none, none, none, none, none, none, none, none, none, none, none, none]) fl_X12_34 (Or.inr ⟨_, rfl⟩) ⟨_, _, _, rfl, rfl⟩ rfl dX12_init_515 (by decide +kernel) (Nat.le_of_ble_eq_true rfl) (S' := zc_127) rfl ?_
  exact kk
def zc_128 : zSh := zc_127 ++ [(20, 36, [])]
def zc_129 : zSh := zc_128.set 81 (12, 51, [some 82, none, none, none, none, none, none, none, none, some 83, some 84, some 85, some 86, some 87, some 88, some 89, some 90, some 91, none, none, none, none, none, none, none, none, none, none, none, none, none, none, none, none, none, none, none, none, none, none, none, none, none, none, none, none, none, none, none, none, none])
set_option maxRecDepth 100000 in
set_option maxHeartbeats 4000000 in
theorem iX12_10 {h : zMm} {Q : Option Value → zSh → zMm → Prop} (kk : RR mX12_init 10 483 526 [some (.ref 81)] [] zc_129 (zN h 91) Q) : RR mX12_init 9 447 518 [some (.ref 81)] [] zc_127 h Q := by
  refine r_aload_n (pc := 518) (a := 81) dX12_init_518 rfl ?_
  refine r_bipush (pc := 519) (x := 36) dX12_init_519 (by decide) ?_
  refine q_newa_int (pc := 521) (x := 36) (N := 36) ac_int dX12_init_521 rfl (by decide) (S' := zc_128) rfl (a := 91) (by decide +kernel) (by decide) (by decide) (by decide) ?_
  refine q_putR (pc := 523) (o := 81) (b := 91) (ci := 12) (f := 17) (N := 51) (rf := [some 82, none, none, none, none, none, none, none, none, some 83, some 84, some 85, some 86, some 87, some 88, some 89, some 90, none, none, none, none, none, none, none, none, none, none, none, none, none, none, none, none, none, none, none, none, none, none, none, none, none, none, none, none, none, none, none, none, none, none]) fl_X12_37 (Or.inr ⟨_, rfl⟩) ⟨_, _, _, rfl, rfl⟩ rfl dX12_init_523 (by decide +kernel) (Nat.le_of_ble_eq_true rfl) (S' := zc_129) rfl ?_
  exact kk
def zc_130 : zSh := zc_129 ++ [(20, 600, [])]
def zc_131 : zSh := zc_130.set 81 (12, 51, [some 82, none, none, none, none, none, none, none, none, some 83, some 84, some 85, some 86, some 87, some 88, some 89, some 90, some 91, none, none, some 92, none, none, none, none, none, none, none, none, none, none, none, none, none, none, none, none, none, none, none, none, none, none, none, none, none, none, none, none, none, none])
set_option maxRecDepth 100000 in
set_option maxHeartbeats 4000000 in
theorem iX12_11 {h : zMm} {Q : Option Value → zSh → zMm → Prop} (kk : RR mX12_init 11 1083 535 [some (.ref 81)] [] zc_131 (zN h 92) Q) : RR mX12_init 10 483 526 [some (.ref 81)] [] zc_129 h Q := by
  refine r_aload_n (pc := 526) (a := 81) dX12_init_526 rfl ?_
  refine r_sipush (pc := 527) (x := 600) dX12_init_527 (by decide) ?_
  refine q_newa_int (pc := 530) (x := 600) (N := 600) ac_int dX12_init_530 rfl (by decide) (S' := zc_130) rfl (a := 92) (by decide +kernel) (by decide) (by decide) (by decide) ?_
  refine q_putR (pc := 532) (o := 81) (b := 92) (ci := 12) (f := 20) (N := 51) (rf := [some 82, none, none, none, none, none, none, none, none, some 83, some 84, some 85, some 86, some 87, some 88, some 89, some 90, some 91, none, none, none, none, none, none, none, none, none, none, none, none, none, none, none, none, none, none, none, none, none, none, none, none, none, none, none, none, none, none, none, none, none]) fl_X12_40 (Or.inr ⟨_, rfl⟩) ⟨_, _, _, rfl, rfl⟩ rfl dX12_init_532 (by decide +kernel) (Nat.le_of_ble_eq_true rfl) (S' := zc_131) rfl ?_
  exact kk
def zc_132 : zSh := zc_131 ++ [(20, 10, [])]
def zc_133 : zSh := zc_132.set 81 (12, 51, [some 82, none, none, none, none, none, none, none, none, some 83, some 84, some 85, some 86, some 87, some 88, some 89, some 90, some 91, none, none, some 92, none, some 93, none, none, none, none, none, none, none, none, none, none, none, none, none, none, none, none, none, none, none, none, none, none, none, none, none, none, none, none])
set_option maxRecDepth 100000 in
set_option maxHeartbeats 4000000 in
theorem iX12_12 {h : zMm} {Q : Option Value → zSh → zMm → Prop} (kk : RR mX12_init 12 1093 543 [some (.ref 81)] [] zc_133 (zN h 93) Q) : RR mX12_init 11 1083 535 [some (.ref 81)] [] zc_131 h Q := by
  refine r_aload_n (pc := 535) (a := 81) dX12_init_535 rfl ?_
  refine r_bipush (pc := 536) (x := 10) dX12_init_536 (by decide) ?_
  refine q_newa_int (pc := 538) (x := 10) (N := 10) ac_int dX12_init_538 rfl (by decide) (S' := zc_132) rfl (a := 93) (by decide +kernel) (by decide) (by decide) (by decide) ?_
  refine q_putR (pc := 540) (o := 81) (b := 93) (ci := 12) (f := 22) (N := 51) (rf := [some 82, none, none, none, none, none, none, none, none, some 83, some 84, some 85, some 86, some 87, some 88, some 89, some 90, some 91, none, none, some 92, none, none, none, none, none, none, none, none, none, none, none, none, none, none, none, none, none, none, none, none, none, none, none, none, none, none, none, none, none, none]) fl_X12_43 (Or.inr ⟨_, rfl⟩) ⟨_, _, _, rfl, rfl⟩ rfl dX12_init_540 (by decide +kernel) (Nat.le_of_ble_eq_true rfl) (S' := zc_133) rfl ?_
  exact kk
def zc_134 : zSh := zc_133 ++ [(20, 36, [])]
def zc_135 : zSh := zc_134.set 81 (12, 51, [some 82, none, none, none, none, none, none, none, none, some 83, some 84, some 85, some 86, some 87, some 88, some 89, some 90, some 91, none, none, some 92, none, some 93, some 94, none, none, none, none, none, none, none, none, none, none, none, none, none, none, none, none, none, none, none, none, none, none, none, none, none, none, none])
set_option maxRecDepth 100000 in
set_option maxHeartbeats 4000000 in
theorem iX12_13 {h : zMm} {Q : Option Value → zSh → zMm → Prop} (kk : RR mX12_init 13 1129 551 [some (.ref 81)] [] zc_135 (zN h 94) Q) : RR mX12_init 12 1093 543 [some (.ref 81)] [] zc_133 h Q := by
  refine r_aload_n (pc := 543) (a := 81) dX12_init_543 rfl ?_
  refine r_bipush (pc := 544) (x := 36) dX12_init_544 (by decide) ?_
  refine q_newa_int (pc := 546) (x := 36) (N := 36) ac_int dX12_init_546 rfl (by decide) (S' := zc_134) rfl (a := 94) (by decide +kernel) (by decide) (by decide) (by decide) ?_
  refine q_putR (pc := 548) (o := 81) (b := 94) (ci := 12) (f := 23) (N := 51) (rf := [some 82, none, none, none, none, none, none, none, none, some 83, some 84, some 85, some 86, some 87, some 88, some 89, some 90, some 91, none, none, some 92, none, some 93, none, none, none, none, none, none, none, none, none, none, none, none, none, none, none, none, none, none, none, none, none, none, none, none, none, none, none, none]) fl_X12_46 (Or.inr ⟨_, rfl⟩) ⟨_, _, _, rfl, rfl⟩ rfl dX12_init_548 (by decide +kernel) (Nat.le_of_ble_eq_true rfl) (S' := zc_135) rfl ?_
  exact kk
def zc_136 : zSh := zc_135 ++ [(20, 36, [])]
def zc_137 : zSh := zc_136.set 81 (12, 51, [some 82, none, none, none, none, none, none, none, none, some 83, some 84, some 85, some 86, some 87, some 88, some 89, some 90, some 91, none, none, some 92, none, some 93, some 94, some 95, none, none, none, none, none, none, none, none, none, none, none, none, none, none, none, none, none, none, none, none, none, none, none, none, none, none])
set_option maxRecDepth 100000 in
set_option maxHeartbeats 4000000 in
theorem iX12_14 {h : zMm} {Q : Option Value → zSh → zMm → Prop} (kk : RR mX12_init 14 1165 559 [some (.ref 81)] [] zc_137 (zN h 95) Q) : RR mX12_init 13 1129 551 [some (.ref 81)] [] zc_135 h Q := by
  refine r_aload_n (pc := 551) (a := 81) dX12_init_551 rfl ?_
  refine r_bipush (pc := 552) (x := 36) dX12_init_552 (by decide) ?_
  refine q_newa_int (pc := 554) (x := 36) (N := 36) ac_int dX12_init_554 rfl (by decide) (S' := zc_136) rfl (a := 95) (by decide +kernel) (by decide) (by decide) (by decide) ?_
  refine q_putR (pc := 556) (o := 81) (b := 95) (ci := 12) (f := 24) (N := 51) (rf := [some 82, none, none, none, none, none, none, none, none, some 83, some 84, some 85, some 86, some 87, some 88, some 89, some 90, some 91, none, none, some 92, none, some 93, some 94, none, none, none, none, none, none, none, none, none, none, none, none, none, none, none, none, none, none, none, none, none, none, none, none, none, none, none]) fl_X12_49 (Or.inr ⟨_, rfl⟩) ⟨_, _, _, rfl, rfl⟩ rfl dX12_init_556 (by decide +kernel) (Nat.le_of_ble_eq_true rfl) (S' := zc_137) rfl ?_
  exact kk
def zc_138 : zSh := zc_137 ++ [(20, 121, [])]
def zc_139 : zSh := zc_138.set 81 (12, 51, [some 82, none, none, none, none, none, none, none, none, some 83, some 84, some 85, some 86, some 87, some 88, some 89, some 90, some 91, none, none, some 92, none, some 93, some 94, some 95, some 96, none, none, none, none, none, none, none, none, none, none, none, none, none, none, none, none, none, none, none, none, none, none, none, none, none])
set_option maxRecDepth 100000 in
set_option maxHeartbeats 4000000 in
theorem iX12_15 {h : zMm} {Q : Option Value → zSh → zMm → Prop} (kk : RR mX12_init 15 1286 567 [some (.ref 81)] [] zc_139 (zN h 96) Q) : RR mX12_init 14 1165 559 [some (.ref 81)] [] zc_137 h Q := by
  refine r_aload_n (pc := 559) (a := 81) dX12_init_559 rfl ?_
  refine r_bipush (pc := 560) (x := 121) dX12_init_560 (by decide) ?_
  refine q_newa_int (pc := 562) (x := 121) (N := 121) ac_int dX12_init_562 rfl (by decide) (S' := zc_138) rfl (a := 96) (by decide +kernel) (by decide) (by decide) (by decide) ?_
  refine q_putR (pc := 564) (o := 81) (b := 96) (ci := 12) (f := 25) (N := 51) (rf := [some 82, none, none, none, none, none, none, none, none, some 83, some 84, some 85, some 86, some 87, some 88, some 89, some 90, some 91, none, none, some 92, none, some 93, some 94, some 95, none, none, none, none, none, none, none, none, none, none, none, none, none, none, none, none, none, none, none, none, none, none, none, none, none, none]) fl_X12_52 (Or.inr ⟨_, rfl⟩) ⟨_, _, _, rfl, rfl⟩ rfl dX12_init_564 (by decide +kernel) (Nat.le_of_ble_eq_true rfl) (S' := zc_139) rfl ?_
  exact kk
def zc_140 : zSh := zc_139 ++ [(20, 121, [])]
def zc_141 : zSh := zc_140.set 81 (12, 51, [some 82, none, none, none, none, none, none, none, none, some 83, some 84, some 85, some 86, some 87, some 88, some 89, some 90, some 91, none, none, some 92, none, some 93, some 94, some 95, some 96, some 97, none, none, none, none, none, none, none, none, none, none, none, none, none, none, none, none, none, none, none, none, none, none, none, none])
set_option maxRecDepth 100000 in
set_option maxHeartbeats 4000000 in
theorem iX12_16 {h : zMm} {Q : Option Value → zSh → zMm → Prop} (kk : RR mX12_init 16 1407 575 [some (.ref 81)] [] zc_141 (zN h 97) Q) : RR mX12_init 15 1286 567 [some (.ref 81)] [] zc_139 h Q := by
  refine r_aload_n (pc := 567) (a := 81) dX12_init_567 rfl ?_
  refine r_bipush (pc := 568) (x := 121) dX12_init_568 (by decide) ?_
  refine q_newa_int (pc := 570) (x := 121) (N := 121) ac_int dX12_init_570 rfl (by decide) (S' := zc_140) rfl (a := 97) (by decide +kernel) (by decide) (by decide) (by decide) ?_
  refine q_putR (pc := 572) (o := 81) (b := 97) (ci := 12) (f := 26) (N := 51) (rf := [some 82, none, none, none, none, none, none, none, none, some 83, some 84, some 85, some 86, some 87, some 88, some 89, some 90, some 91, none, none, some 92, none, some 93, some 94, some 95, some 96, none, none, none, none, none, none, none, none, none, none, none, none, none, none, none, none, none, none, none, none, none, none, none, none, none]) fl_X12_55 (Or.inr ⟨_, rfl⟩) ⟨_, _, _, rfl, rfl⟩ rfl dX12_init_572 (by decide +kernel) (Nat.le_of_ble_eq_true rfl) (S' := zc_141) rfl ?_
  exact kk
def zc_142 : zSh := zc_141 ++ [(20, 36, [])]
def zc_143 : zSh := zc_142.set 81 (12, 51, [some 82, none, none, none, none, none, none, none, none, some 83, some 84, some 85, some 86, some 87, some 88, some 89, some 90, some 91, none, none, some 92, none, some 93, some 94, some 95, some 96, some 97, none, none, none, none, none, some 98, none, none, none, none, none, none, none, none, none, none, none, none, none, none, none, none, none, none])
set_option maxRecDepth 100000 in
set_option maxHeartbeats 4000000 in
theorem iX12_17 {h : zMm} {Q : Option Value → zSh → zMm → Prop} (kk : RR mX12_init 17 1443 583 [some (.ref 81)] [] zc_143 (zN h 98) Q) : RR mX12_init 16 1407 575 [some (.ref 81)] [] zc_141 h Q := by
  refine r_aload_n (pc := 575) (a := 81) dX12_init_575 rfl ?_
  refine r_bipush (pc := 576) (x := 36) dX12_init_576 (by decide) ?_
  refine q_newa_int (pc := 578) (x := 36) (N := 36) ac_int dX12_init_578 rfl (by decide) (S' := zc_142) rfl (a := 98) (by decide +kernel) (by decide) (by decide) (by decide) ?_
  refine q_putR (pc := 580) (o := 81) (b := 98) (ci := 12) (f := 32) (N := 51) (rf := [some 82, none, none, none, none, none, none, none, none, some 83, some 84, some 85, some 86, some 87, some 88, some 89, some 90, some 91, none, none, some 92, none, some 93, some 94, some 95, some 96, some 97, none, none, none, none, none, none, none, none, none, none, none, none, none, none, none, none, none, none, none, none, none, none, none, none]) fl_X12_58 (Or.inr ⟨_, rfl⟩) ⟨_, _, _, rfl, rfl⟩ rfl dX12_init_580 (by decide +kernel) (Nat.le_of_ble_eq_true rfl) (S' := zc_143) rfl ?_
  exact kk
def zc_144 : zSh := zc_143 ++ [(20, 18432, [])]
def zc_145 : zSh := zc_144.set 81 (12, 51, [some 82, none, none, none, none, none, none, none, none, some 83, some 84, some 85, some 86, some 87, some 88, some 89, some 90, some 91, none, none, some 92, none, some 93, some 94, some 95, some 96, some 97, none, none, none, none, none, some 98, some 99, none, none, none, none, none, none, none, none, none, none, none, none, none, none, none, none, none])
set_option maxRecDepth 100000 in
set_option maxHeartbeats 4000000 in
theorem iX12_18 {h : zMm} {Q : Option Value → zSh → zMm → Prop} (kk : RR mX12_init 18 19875 592 [some (.ref 81)] [] zc_145 (zN h 99) Q) : RR mX12_init 17 1443 583 [some (.ref 81)] [] zc_143 h Q := by
  refine r_aload_n (pc := 583) (a := 81) dX12_init_583 rfl ?_
  refine r_sipush (pc := 584) (x := 18432) dX12_init_584 (by decide) ?_
  refine q_newa_int (pc := 587) (x := 18432) (N := 18432) ac_int dX12_init_587 rfl (by decide) (S' := zc_144) rfl (a := 99) (by decide +kernel) (by decide) (by decide) (by decide) ?_
  refine q_putR (pc := 589) (o := 81) (b := 99) (ci := 12) (f := 33) (N := 51) (rf := [some 82, none, none, none, none, none, none, none, none, some 83, some 84, some 85, some 86, some 87, some 88, some 89, some 90, some 91, none, none, some 92, none, some 93, some 94, some 95, some 96, some 97, none, none, none, none, none, some 98, none, none, none, none, none, none, none, none, none, none, none, none, none, none, none, none, none, none]) fl_X12_61 (Or.inr ⟨_, rfl⟩) ⟨_, _, _, rfl, rfl⟩ rfl dX12_init_589 (by decide +kernel) (Nat.le_of_ble_eq_true rfl) (S' := zc_145) rfl ?_
  exact kk
def zc_146 : zSh := zc_145 ++ [(20, 1000, [])]
def zc_147 : zSh := zc_146.set 81 (12, 51, [some 82, none, none, none, none, none, none, none, none, some 83, some 84, some 85, some 86, some 87, some 88, some 89, some 90, some 91, none, none, some 92, none, some 93, some 94, some 95, some 96, some 97, none, none, none, none, none, some 98, some 99, none, some 100, none, none, none, none, none, none, none, none, none, none, none, none, none, none, none])
set_option maxRecDepth 100000 in
set_option maxHeartbeats 4000000 in
theorem iX12_19 {h : zMm} {Q : Option Value → zSh → zMm → Prop} (kk : RR mX12_init 19 20875 601 [some (.ref 81)] [] zc_147 (zN h 100) Q) : RR mX12_init 18 19875 592 [some (.ref 81)] [] zc_145 h Q := by
  refine r_aload_n (pc := 592) (a := 81) dX12_init_592 rfl ?_
  refine r_sipush (pc := 593) (x := 1000) dX12_init_593 (by decide) ?_
  refine q_newa_int (pc := 596) (x := 1000) (N := 1000) ac_int dX12_init_596 rfl (by decide) (S' := zc_146) rfl (a := 100) (by decide +kernel) (by decide) (by decide) (by decide) ?_
  refine q_putR (pc := 598) (o := 81) (b := 100) (ci := 12) (f := 35) (N := 51) (rf := [some 82, none, none, none, none, none, none, none, none, some 83, some 84, some 85, some 86, some 87, some 88, some 89, some 90, some 91, none, none, some 92, none, some 93, some 94, some 95, some 96, some 97, none, none, none, none, none, some 98, some 99, none, none, none, none, none, none, none, none, none, none, none, none, none, none, none, none, none]) fl_X12_64 (Or.inr ⟨_, rfl⟩) ⟨_, _, _, rfl, rfl⟩ rfl dX12_init_598 (by decide +kernel) (Nat.le_of_ble_eq_true rfl) (S' := zc_147) rfl ?_
  exact kk
def zc_148 : zSh := zc_147 ++ [(20, 36, [])]
def zc_149 : zSh := zc_148.set 81 (12, 51, [some 82, none, none, none, none, none, none, none, none, some 83, some 84, some 85, some 86, some 87, some 88, some 89, some 90, some 91, none, none, some 92, none, some 93, some 94, some 95, some 96, some 97, none, none, none, none, none, some 98, some 99, none, some 100, none, none, some 101, none, none, none, none, none, none, none, none, none, none, none, none])
set_option maxRecDepth 100000 in
set_option maxHeartbeats 4000000 in
theorem iX12_20 {h : zMm} {Q : Option Value → zSh → zMm → Prop} (kk : RR mX12_init 20 20911 609 [some (.ref 81)] [] zc_149 (zN h 101) Q) : RR mX12_init 19 20875 601 [some (.ref 81)] [] zc_147 h Q := by
  refine r_aload_n (pc := 601) (a := 81) dX12_init_601 rfl ?_
  refine r_bipush (pc := 602) (x := 36) dX12_init_602 (by decide) ?_
  refine q_newa_int (pc := 604) (x := 36) (N := 36) ac_int dX12_init_604 rfl (by decide) (S' := zc_148) rfl (a := 101) (by decide +kernel) (by decide) (by decide) (by decide) ?_
  refine q_putR (pc := 606) (o := 81) (b := 101) (ci := 12) (f := 38) (N := 51) (rf := [some 82, none, none, none, none, none, none, none, none, some 83, some 84, some 85, some 86, some 87, some 88, some 89, some 90, some 91, none, none, some 92, none, some 93, some 94, some 95, some 96, some 97, none, none, none, none, none, some 98, some 99, none, some 100, none, none, none, none, none, none, none, none, none, none, none, none, none, none, none]) fl_X12_67 (Or.inr ⟨_, rfl⟩) ⟨_, _, _, rfl, rfl⟩ rfl dX12_init_606 (by decide +kernel) (Nat.le_of_ble_eq_true rfl) (S' := zc_149) rfl ?_
  exact kk
def zc_150 : zSh := zc_149 ++ [(21, 144, [])]
def zc_151 : zSh := zc_150.set 81 (12, 51, [some 82, none, none, none, none, none, none, none, none, some 83, some 84, some 85, some 86, some 87, some 88, some 89, some 90, some 91, none, none, some 92, none, some 93, some 94, some 95, some 96, some 97, none, none, none, none, none, some 98, some 99, none, some 100, none, none, some 101, none, none, none, none, none, some 102, none, none, none, none, none, none])
set_option maxRecDepth 100000 in
set_option maxHeartbeats 4000000 in
theorem iX12_21 {h : zMm} {Q : Option Value → zSh → zMm → Prop} (kk : RR mX12_init 21 21055 618 [some (.ref 81)] [] zc_151 (zN h 102) Q) : RR mX12_init 20 20911 609 [some (.ref 81)] [] zc_149 h Q := by
  refine r_aload_n (pc := 609) (a := 81) dX12_init_609 rfl ?_
  refine r_sipush (pc := 610) (x := 144) dX12_init_610 (by decide) ?_
  refine q_newa_long (pc := 613) (x := 144) (N := 144) ac_long dX12_init_613 rfl (by decide) (S' := zc_150) rfl (a := 102) (by decide +kernel) (by decide) (by decide) (by decide) ?_
  refine q_putR (pc := 615) (o := 81) (b := 102) (ci := 12) (f := 44) (N := 51) (rf := [some 82, none, none, none, none, none, none, none, none, some 83, some 84, some 85, some 86, some 87, some 88, some 89, some 90, some 91, none, none, some 92, none, some 93, some 94, some 95, some 96, some 97, none, none, none, none, none, some 98, some 99, none, some 100, none, none, some 101, none, none, none, none, none, none, none, none, none, none, none, none]) fl_X12_70 (Or.inr ⟨_, rfl⟩) ⟨_, _, _, rfl, rfl⟩ rfl dX12_init_615 (by decide +kernel) (Nat.le_of_ble_eq_true rfl) (S' := zc_151) rfl ?_
  exact kk
def zc_152 : zSh := zc_151 ++ [(21, 144, [])]
def zc_153 : zSh := zc_152.set 81 (12, 51, [some 82, none, none, none, none, none, none, none, none, some 83, some 84, some 85, some 86, some 87, some 88, some 89, some 90, some 91, none, none, some 92, none, some 93, some 94, some 95, some 96, some 97, none, none, none, none, none, some 98, some 99, none, some 100, none, none, some 101, none, none, none, none, none, some 102, some 103, none, none, none, none, none])
set_option maxRecDepth 100000 in
set_option maxHeartbeats 4000000 in
theorem iX12_22 {h : zMm} {Q : Option Value → zSh → zMm → Prop} (kk : RR mX12_init 22 21199 627 [some (.ref 81)] [] zc_153 (zN h 103) Q) : RR mX12_init 21 21055 618 [some (.ref 81)] [] zc_151 h Q := by
  refine r_aload_n (pc := 618) (a := 81) dX12_init_618 rfl ?_
  refine r_sipush (pc := 619) (x := 144) dX12_init_619 (by decide) ?_
  refine q_newa_long (pc := 622) (x := 144) (N := 144) ac_long dX12_init_622 rfl (by decide) (S' := zc_152) rfl (a := 103) (by decide +kernel) (by decide) (by decide) (by decide) ?_
  refine q_putR (pc := 624) (o := 81) (b := 103) (ci := 12) (f := 45) (N := 51) (rf := [some 82, none, none, none, none, none, none, none, none, some 83, some 84, some 85, some 86, some 87, some 88, some 89, some 90, some 91, none, none, some 92, none, some 93, some 94, some 95, some 96, some 97, none, none, none, none, none, some 98, some 99, none, some 100, none, none, some 101, none, none, none, none, none, some 102, none, none, none, none, none, none]) fl_X12_74 (Or.inr ⟨_, rfl⟩) ⟨_, _, _, rfl, rfl⟩ rfl dX12_init_624 (by decide +kernel) (Nat.le_of_ble_eq_true rfl) (S' := zc_153) rfl ?_
  exact kk
def zc_154 : zSh := zc_153 ++ [(23, 2, [])]
def zc_155 : zSh := zc_154.set 81 (12, 51, [some 82, none, none, none, none, none, none, none, none, some 83, some 84, some 85, some 86, some 87, some 88, some 89, some 90, some 91, none, none, some 92, none, some 93, some 94, some 95, some 96, some 97, none, none, none, none, none, some 98, some 99, none, some 100, none, none, some 101, none, none, none, none, none, some 102, some 103, some 104, none, none, none, none])
set_option maxRecDepth 100000 in
set_option maxHeartbeats 4000000 in
theorem iX12_23 {h : zMm} {Q : Option Value → zSh → zMm → Prop} (kk : RR mX12_init 23 21201 634 [some (.ref 81)] [] zc_155 (zN h 104) Q) : RR mX12_init 22 21199 627 [some (.ref 81)] [] zc_153 h Q := by
  refine r_aload_n (pc := 627) (a := 81) dX12_init_627 rfl ?_
  refine r_iconst (pc := 628) dX12_init_628 ?_
  refine q_newa_boolean (pc := 629) (x := 2) (N := 2) ac_boolean dX12_init_629 rfl (by decide) (S' := zc_154) rfl (a := 104) (by decide +kernel) (by decide) (by decide) (by decide) ?_
  refine q_putR (pc := 631) (o := 81) (b := 104) (ci := 12) (f := 46) (N := 51) (rf := [some 82, none, none, none, none, none, none, none, none, some 83, some 84, some 85, some 86, some 87, some 88, some 89, some 90, some 91, none, none, some 92, none, some 93, some 94, some 95, some 96, some 97, none, none, none, none, none, some 98, some 99, none, some 100, none, none, some 101, none, none, none, none, none, some 102, some 103, none, none, none, none, none]) fl_X12_77 (Or.inr ⟨_, rfl⟩) ⟨_, _, _, rfl, rfl⟩ rfl dX12_init_631 (by decide +kernel) (Nat.le_of_ble_eq_true rfl) (S' := zc_155) rfl ?_
  exact kk
def zc_156 : zSh := zc_155 ++ [(20, 4, [])]
def zc_157 : zSh := zc_156.set 81 (12, 51, [some 82, none, none, none, none, none, none, none, none, some 83, some 84, some 85, some 86, some 87, some 88, some 89, some 90, some 91, none, none, some 92, none, some 93, some 94, some 95, some 96, some 97, none, none, none, none, none, some 98, some 99, none, some 100, none, none, some 101, none, none, none, none, none, some 102, some 103, some 104, some 105, none, none, none])
set_option maxRecDepth 100000 in
set_option maxHeartbeats 4000000 in
theorem iX12_24 {h : zMm} {Q : Option Value → zSh → zMm → Prop} (kk : RR mX12_init 24 21205 661 [some (.ref 81)] [] zc_157 (zU (zU (zU (zU (zN h 105) 105 0 (-4)) 105 1 (-4)) 105 2 (-4)) 105 3 (-4)) Q) : RR mX12_init 23 21201 634 [some (.ref 81)] [] zc_155 h Q := by
  refine r_aload_n (pc := 634) (a := 81) dX12_init_634 rfl ?_
  refine r_iconst (pc := 635) dX12_init_635 ?_
  refine q_newa_int (pc := 636) (x := 4) (N := 4) ac_int dX12_init_636 rfl (by decide) (S' := zc_156) rfl (a := 105) (by decide +kernel) (by decide) (by decide) (by decide) ?_
  refine r_dup (pc := 638) rfl dX12_init_638 ?_
  refine r_iconst (pc := 639) dX12_init_639 ?_
  refine r_bipush (pc := 640) (x := (-4)) dX12_init_640 (by decide) ?_
  refine r_iast (pc := 642) (a := 105) (N := 4) (rf := []) (i := 0) (x := (-4)) dX12_init_642 (by decide +kernel) (by decide) ?_
  refine r_dup (pc := 643) rfl dX12_init_643 ?_
  refine r_iconst (pc := 644) dX12_init_644 ?_
  refine r_bipush (pc := 645) (x := (-4)) dX12_init_645 (by decide) ?_
  refine r_iast (pc := 647) (a := 105) (N := 4) (rf := []) (i := 1) (x := (-4)) dX12_init_647 (by decide +kernel) (by decide) ?_
  refine r_dup (pc := 648) rfl dX12_init_648 ?_
  refine r_iconst (pc := 649) dX12_init_649 ?_
  refine r_bipush (pc := 650) (x := (-4)) dX12_init_650 (by decide) ?_
  refine r_iast (pc := 652) (a := 105) (N := 4) (rf := []) (i := 2) (x := (-4)) dX12_init_652 (by decide +kernel) (by decide) ?_
  refine r_dup (pc := 653) rfl dX12_init_653 ?_
  refine r_iconst (pc := 654) dX12_init_654 ?_
  refine r_bipush (pc := 655) (x := (-4)) dX12_init_655 (by decide) ?_
  refine r_iast (pc := 657) (a := 105) (N := 4) (rf := []) (i := 3) (x := (-4)) dX12_init_657 (by decide +kernel) (by decide) ?_
  refine q_putR (pc := 658) (o := 81) (b := 105) (ci := 12) (f := 47) (N := 51) (rf := [some 82, none, none, none, none, none, none, none, none, some 83, some 84, some 85, some 86, some 87, some 88, some 89, some 90, some 91, none, none, some 92, none, some 93, some 94, some 95, some 96, some 97, none, none, none, none, none, some 98, some 99, none, some 100, none, none, some 101, none, none, none, none, none, some 102, some 103, some 104, none, none, none, none]) fl_X12_81 (Or.inr ⟨_, rfl⟩) ⟨_, _, _, rfl, rfl⟩ rfl dX12_init_658 (by decide +kernel) (Nat.le_of_ble_eq_true rfl) (S' := zc_157) rfl ?_
  exact kk
def zc_158 : zSh := zc_157 ++ [(20, 4, [])]
def zc_159 : zSh := zc_158.set 81 (12, 51, [some 82, none, none, none, none, none, none, none, none, some 83, some 84, some 85, some 86, some 87, some 88, some 89, some 90, some 91, none, none, some 92, none, some 93, some 94, some 95, some 96, some 97, none, none, none, none, none, some 98, some 99, none, some 100, none, none, some 101, none, none, none, none, none, some 102, some 103, some 104, some 105, some 106, none, none])
set_option maxRecDepth 100000 in
set_option maxHeartbeats 4000000 in
theorem iX12_25 {h : zMm} {Q : Option Value → zSh → zMm → Prop} (kk : RR mX12_init 25 21209 668 [some (.ref 81)] [] zc_159 (zN h 106) Q) : RR mX12_init 24 21205 661 [some (.ref 81)] [] zc_157 h Q := by
  refine r_aload_n (pc := 661) (a := 81) dX12_init_661 rfl ?_
  refine r_iconst (pc := 662) dX12_init_662 ?_
  refine q_newa_int (pc := 663) (x := 4) (N := 4) ac_int dX12_init_663 rfl (by decide) (S' := zc_158) rfl (a := 106) (by decide +kernel) (by decide) (by decide) (by decide) ?_
  refine q_putR (pc := 665) (o := 81) (b := 106) (ci := 12) (f := 48) (N := 51) (rf := [some 82, none, none, none, none, none, none, none, none, some 83, some 84, some 85, some 86, some 87, some 88, some 89, some 90, some 91, none, none, some 92, none, some 93, some 94, some 95, some 96, some 97, none, none, none, none, none, some 98, some 99, none, some 100, none, none, some 101, none, none, none, none, none, some 102, some 103, some 104, some 105, none, none, none]) fl_X12_84 (Or.inr ⟨_, rfl⟩) ⟨_, _, _, rfl, rfl⟩ rfl dX12_init_665 (by decide +kernel) (Nat.le_of_ble_eq_true rfl) (S' := zc_159) rfl ?_
  exact kk
def zc_160 : zSh := zc_159 ++ [(20, 192, [])]
def zc_161 : zSh := zc_160.set 81 (12, 51, [some 82, none, none, none, none, none, none, none, none, some 83, some 84, some 85, some 86, some 87, some 88, some 89, some 90, some 91, none, none, some 92, none, some 93, some 94, some 95, some 96, some 97, none, none, none, none, none, some 98, some 99, none, some 100, none, none, some 101, none, none, none, none, none, some 102, some 103, some 104, some 105, some 106, some 107, none])
def zNewX12 (h h' : zMm) : Prop := (∀ a, a < 82 → h' a = h a) ∧ mC h' ∧ (∀ r : Int, 0 ≤ r → r ≤ 7 → h' 88 r = ([0, 1, 2, 30, 2, 20, 0, 3] : List Int).getD r.toNat 0) ∧ (∀ i : Int, h' 92 i = 0) ∧ (∀ i : Int, h' 104 i = 0) ∧ (∀ k : Nat, k < 4 → h' 105 k = -4 ∧ h' 106 k = 0) ∧ ∀ i : Int, h' 107 i = 0

set_option maxRecDepth 100000 in
set_option maxHeartbeats 4000000 in
theorem iX12 {h : zMm} {K : zMm → Prop} (hK : ∀ h', zNewX12 h h' → K h') : zCC mX12_init [.ref 81] zc_109 h (zQv zc_161 K) := by
  show RR mX12_init 0 0 0 [some (.ref 81)] [] zc_109 h _
  refine iX12_0 ?_
  refine iX12_1 ?_
  refine iX12_2 ?_
  refine iX12_3 ?_
  refine iX12_4 ?_
  refine iX12_5 ?_
  refine iX12_6 ?_
  refine iX12_7 ?_
  refine iX12_8 ?_
  refine iX12_9 ?_
  refine iX12_10 ?_
  refine iX12_11 ?_
  refine iX12_12 ?_
  refine iX12_13 ?_
  refine iX12_14 ?_
  refine iX12_15 ?_
  refine iX12_16 ?_
  refine iX12_17 ?_
  refine iX12_18 ?_
  refine iX12_19 ?_
  refine iX12_20 ?_
  refine iX12_21 ?_
  refine iX12_22 ?_
  refine iX12_23 ?_
  refine iX12_24 ?_
  refine iX12_25 ?_
  refine r_aload_n (pc := 668) (a := 81) dX12_init_668 rfl ?_
  refine r_sipush (pc := 669) (x := 192) dX12_init_669 (by decide) ?_
  refine q_newa_int (pc := 672) (x := 192) (N := 192) ac_int dX12_init_672 rfl (by decide) (S' := zc_160) rfl (a := 107) (by decide +kernel) (by decide) (by decide) (by decide) ?_
  refine q_putR (pc := 674) (o := 81) (b := 107) (ci := 12) (f := 49) (N := 51) (rf := [some 82, none, none, none, none, none, none, none, none, some 83, some 84, some 85, some 86, some 87, some 88, some 89, some 90, some 91, none, none, some 92, none, some 93, some 94, some 95, some 96, some 97, none, none, none, none, none, some 98, some 99, none, some 100, none, none, some 101, none, none, none, none, none, some 102, some 103, some 104, some 105, some 106, none, none]) fl_X12_87 (Or.inr ⟨_, rfl⟩) ⟨_, _, _, rfl, rfl⟩ rfl dX12_init_674 (by decide +kernel) (Nat.le_of_ble_eq_true rfl) (S' := zc_161) rfl ?_
  refine r_ret (st := []) (pc := 677) dX12_init_677 rfl rfl (by decide) ⟨rfl, rfl, ?_⟩
  refine hK _ ⟨fun a ha => ?_, ⟨fun i i0 i1 => ?_, fun i i0 i1 => ?_, fun i i0 i1 => ⟨?_, ?_, ?_⟩⟩, fun i i0 i1 => ?_, fun i => rfl, fun i => rfl, fun k hk => ⟨?_, rfl⟩, fun i => rfl⟩
  · repeat (first | rw [zU_off a (by omega)] | rw [zN_off a (by omega)])
  · rcases (show i = 0 ∨ i = 1 ∨ i = 2 ∨ i = 3 ∨ i = 4 ∨ i = 5 ∨ i = 6 ∨ i = 7 ∨ i = 8 ∨ i = 9 ∨ i = 10 by omega) with rfl | rfl | rfl | rfl | rfl | rfl | rfl | rfl | rfl | rfl | rfl <;> rfl
  · rcases (show i = 0 ∨ i = 1 ∨ i = 2 ∨ i = 3 ∨ i = 4 ∨ i = 5 ∨ i = 6 ∨ i = 7 ∨ i = 8 ∨ i = 9 ∨ 10 ≤ i by omega) with rfl | rfl | rfl | rfl | rfl | rfl | rfl | rfl | rfl | rfl | c1
    all_goals first | rfl | skip
    rcases (show i = 10 ∨ i = 11 ∨ i = 12 ∨ i = 13 ∨ i = 14 ∨ i = 15 ∨ i = 16 ∨ i = 17 ∨ i = 18 ∨ i = 19 ∨ 20 ≤ i by omega) with rfl | rfl | rfl | rfl | rfl | rfl | rfl | rfl | rfl | rfl | c1
    all_goals first | rfl | skip
    rcases (show i = 20 ∨ i = 21 ∨ i = 22 ∨ i = 23 ∨ i = 24 ∨ i = 25 ∨ i = 26 ∨ i = 27 ∨ i = 28 ∨ i = 29 ∨ 30 ≤ i by omega) with rfl | rfl | rfl | rfl | rfl | rfl | rfl | rfl | rfl | rfl | c1
    all_goals first | rfl | skip
    rcases (show i = 30 ∨ i = 31 ∨ i = 32 ∨ i = 33 ∨ i = 34 ∨ i = 35 ∨ i = 36 ∨ i = 37 ∨ i = 38 ∨ i = 39 by omega) with rfl | rfl | rfl | rfl | rfl | rfl | rfl | rfl | rfl | rfl
    all_goals rfl
  · rcases (show i = 0 ∨ i = 1 ∨ i = 2 ∨ i = 3 ∨ i = 4 ∨ i = 5 ∨ i = 6 ∨ i = 7 by omega) with rfl | rfl | rfl | rfl | rfl | rfl | rfl | rfl <;> rfl
  · rcases (show i = 0 ∨ i = 1 ∨ i = 2 ∨ i = 3 ∨ i = 4 ∨ i = 5 ∨ i = 6 ∨ i = 7 by omega) with rfl | rfl | rfl | rfl | rfl | rfl | rfl | rfl <;> rfl
  · rcases (show i = 0 ∨ i = 1 ∨ i = 2 ∨ i = 3 ∨ i = 4 ∨ i = 5 ∨ i = 6 ∨ i = 7 by omega) with rfl | rfl | rfl | rfl | rfl | rfl | rfl | rfl <;> rfl
  · rcases (show i = 0 ∨ i = 1 ∨ i = 2 ∨ i = 3 ∨ i = 4 ∨ i = 5 ∨ i = 6 ∨ i = 7 by omega) with rfl | rfl | rfl | rfl | rfl | rfl | rfl | rfl <;> rfl
  · rcases (show k = 0 ∨ k = 1 ∨ k = 2 ∨ k = 3 by omega) with rfl | rfl | rfl | rfl <;> rfl
theorem zc_end : zc_161 = zS0 := by decide +kernel
