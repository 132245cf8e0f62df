theorem memr {big ws : List Cond} (ps : List Nat) (hp : ws = ps.filterMap (fun i => big[i]?)) : ∀ w ∈ ws, w ∈ big := by
  intro w hw
  rw [hp] at hw
  obtain ⟨i, -, hi⟩ := List.mem_filterMap.mp hw
  exact List.mem_of_getElem? hi
theorem mcons {a : Cond} {l big : List Cond} (h : a ∈ big) (h2 : ∀ w ∈ l, w ∈ big) : ∀ w ∈ a :: l, w ∈ big := fun w hw => (List.mem_cons.mp hw).elim (fun e => e ▸ h) (h2 w)
theorem memapp {a b big : List Cond} (h1 : ∀ w ∈ a, w ∈ big) (h2 : ∀ w ∈ b, w ∈ big) : ∀ w ∈ a ++ b, w ∈ big := fun w h => (List.mem_append.mp h).elim (h1 w) (h2 w)
theorem mnil {big : List Cond} : ∀ w ∈ ([] : List Cond), w ∈ big := fun _ h => absurd h List.not_mem_nil
set_option maxRecDepth 20000 in
theorem tw_64 : Cond.code yX6_init cX6_init 1 none ∈ lw_tbl := List.mem_of_getElem? (i := 64) (by decide +kernel)
set_option maxRecDepth 20000 in
theorem tw_73 : Cond.methodLink RX2 3 objectInit ∈ lw_tbl := List.mem_of_getElem? (i := 73) (by decide +kernel)
set_option maxRecDepth 20000 in
theorem tw_72 : Cond.code yX2_init cX2_init 1 none ∈ lw_tbl := List.mem_of_getElem? (i := 72) (by decide +kernel)
set_option maxRecDepth 20000 in
theorem tw_71 : Cond.instanceMethod yX2_init ∈ lw_tbl := List.mem_of_getElem? (i := 71) (by decide +kernel)
set_option maxRecDepth 20000 in
theorem tw_220 : Cond.fieldLink RX6 41 "HeirsInsulted" "keptReading" "I" ∈ lw_tbl := List.mem_of_getElem? (i := 220) (by decide +kernel)
set_option maxRecDepth 20000 in
theorem tw_219 : Cond.fieldLink RX6 37 "HeirsInsulted" "readings" "I" ∈ lw_tbl := List.mem_of_getElem? (i := 219) (by decide +kernel)
set_option maxRecDepth 20000 in
theorem tw_218 : Cond.fieldLink RX6 33 "HeirsInsulted" "kept" "LHeirsInsulted$Standing;" ∈ lw_tbl := List.mem_of_getElem? (i := 218) (by decide +kernel)
set_option maxRecDepth 20000 in
theorem tw_50 : Cond.initialized RX4 ∈ lw_tbl := List.mem_of_getElem? (i := 50) (by decide +kernel)
set_option maxRecDepth 20000 in
theorem tw_106 : Cond.instantiable RX4 9 ∈ lw_tbl := List.mem_of_getElem? (i := 106) (by decide +kernel)
set_option maxRecDepth 20000 in
theorem tw_213 : Cond.classLink RX6 30 RX4 ∈ lw_tbl := List.mem_of_getElem? (i := 213) (by decide +kernel)
set_option maxRecDepth 20000 in
theorem tw_217 : Cond.fieldLink RX6 26 "HeirsInsulted" "found" "LHeirsInsulted$Ends;" ∈ lw_tbl := List.mem_of_getElem? (i := 217) (by decide +kernel)
set_option maxRecDepth 20000 in
theorem tw_52 : Cond.initialized RX0 ∈ lw_tbl := List.mem_of_getElem? (i := 52) (by decide +kernel)
set_option maxRecDepth 20000 in
theorem tw_180 : Cond.instantiable RX0 7 ∈ lw_tbl := List.mem_of_getElem? (i := 180) (by decide +kernel)
set_option maxRecDepth 20000 in
theorem tw_179 : Cond.classLink RX6 23 RX0 ∈ lw_tbl := List.mem_of_getElem? (i := 179) (by decide +kernel)
set_option maxRecDepth 20000 in
theorem tw_216 : Cond.fieldLink RX6 19 "HeirsInsulted" "estate" "LHeirsInsulted$Estate;" ∈ lw_tbl := List.mem_of_getElem? (i := 216) (by decide +kernel)
set_option maxRecDepth 20000 in
theorem tw_49 : Cond.initialized RX1 ∈ lw_tbl := List.mem_of_getElem? (i := 49) (by decide +kernel)
set_option maxRecDepth 20000 in
theorem tw_98 : Cond.instantiable RX1 3 ∈ lw_tbl := List.mem_of_getElem? (i := 98) (by decide +kernel)
set_option maxRecDepth 20000 in
theorem tw_97 : Cond.classLink RX6 16 RX1 ∈ lw_tbl := List.mem_of_getElem? (i := 97) (by decide +kernel)
set_option maxRecDepth 20000 in
theorem tw_215 : Cond.fieldLink RX6 12 "HeirsInsulted" "page" "LHeirsInsulted$Page;" ∈ lw_tbl := List.mem_of_getElem? (i := 215) (by decide +kernel)
set_option maxRecDepth 20000 in
theorem tw_46 : Cond.initialized RX2 ∈ lw_tbl := List.mem_of_getElem? (i := 46) (by decide +kernel)
set_option maxRecDepth 20000 in
theorem tw_69 : Cond.instantiable RX2 2 ∈ lw_tbl := List.mem_of_getElem? (i := 69) (by decide +kernel)
set_option maxRecDepth 20000 in
theorem tw_68 : Cond.classLink RX6 9 RX2 ∈ lw_tbl := List.mem_of_getElem? (i := 68) (by decide +kernel)
set_option maxRecDepth 20000 in
theorem tw_67 : Cond.code objectInit ⟨#[0xb1]⟩ 1 none ∈ lw_tbl := List.mem_of_getElem? (i := 67) (by decide +kernel)
set_option maxRecDepth 20000 in
theorem tw_66 : Cond.instanceMethod objectInit ∈ lw_tbl := List.mem_of_getElem? (i := 66) (by decide +kernel)
set_option maxRecDepth 20000 in
theorem tw_65 : Cond.methodLink RX6 3 objectInit ∈ lw_tbl := List.mem_of_getElem? (i := 65) (by decide +kernel)
set_option maxRecDepth 20000 in
theorem tw_109 : Cond.code yX4_init cX4_init 1 none ∈ lw_tbl := List.mem_of_getElem? (i := 109) (by decide +kernel)
set_option maxRecDepth 20000 in
theorem tw_108 : Cond.instanceMethod yX4_init ∈ lw_tbl := List.mem_of_getElem? (i := 108) (by decide +kernel)
set_option maxRecDepth 20000 in
theorem tw_104 : Cond.methodLink RX1 11 yX3_init ∈ lw_tbl := List.mem_of_getElem? (i := 104) (by decide +kernel)
set_option maxRecDepth 20000 in
theorem tw_166 : Cond.fieldLink RX1 23 "HeirsInsulted$Estate" "now" "LHeirsInsulted$Standing;" ∈ lw_tbl := List.mem_of_getElem? (i := 166) (by decide +kernel)
set_option maxRecDepth 20000 in
theorem tw_105 : Cond.classLink RX1 20 RX4 ∈ lw_tbl := List.mem_of_getElem? (i := 105) (by decide +kernel)
set_option maxRecDepth 20000 in
theorem tw_164 : Cond.fieldLink RX1 14 "HeirsInsulted$Estate" "kinds" "LHeirsInsulted$Row;" ∈ lw_tbl := List.mem_of_getElem? (i := 164) (by decide +kernel)
set_option maxRecDepth 20000 in
theorem tw_103 : Cond.classLink RX1 9 RX3 ∈ lw_tbl := List.mem_of_getElem? (i := 103) (by decide +kernel)
set_option maxRecDepth 20000 in
theorem tw_102 : Cond.methodLink RX1 3 objectInit ∈ lw_tbl := List.mem_of_getElem? (i := 102) (by decide +kernel)
set_option maxRecDepth 20000 in
theorem tw_101 : Cond.code yX1_init cX1_init 1 none ∈ lw_tbl := List.mem_of_getElem? (i := 101) (by decide +kernel)
set_option maxRecDepth 20000 in
theorem tw_100 : Cond.instanceMethod yX1_init ∈ lw_tbl := List.mem_of_getElem? (i := 100) (by decide +kernel)
set_option maxRecDepth 20000 in
theorem tw_83 : Cond.fieldLink RX3 13 "HeirsInsulted$Row" "cells" "[I" ∈ lw_tbl := List.mem_of_getElem? (i := 83) (by decide +kernel)
set_option maxRecDepth 20000 in
theorem tw_87 : Cond.arrayClass .int ∈ lw_tbl := List.mem_of_getElem? (i := 87) (by decide +kernel)
set_option maxRecDepth 20000 in
theorem tw_82 : Cond.code Lib.Math.max.name Lib.Math.max.code 2 (some .int) ∈ lw_tbl := List.mem_of_getElem? (i := 82) (by decide +kernel)
set_option maxRecDepth 20000 in
theorem tw_48 : Cond.initialized "java/lang/Math" ∈ lw_tbl := List.mem_of_getElem? (i := 48) (by decide +kernel)
set_option maxRecDepth 20000 in
theorem tw_81 : Cond.static Lib.Math.max.name ∈ lw_tbl := List.mem_of_getElem? (i := 81) (by decide +kernel)
set_option maxRecDepth 20000 in
theorem tw_80 : Cond.methodLink RX3 7 Lib.Math.max.name ∈ lw_tbl := List.mem_of_getElem? (i := 80) (by decide +kernel)
set_option maxRecDepth 20000 in
theorem tw_79 : Cond.methodLink RX3 1 objectInit ∈ lw_tbl := List.mem_of_getElem? (i := 79) (by decide +kernel)
set_option maxRecDepth 20000 in
theorem tw_78 : Cond.code yX3_init cX3_init 2 none ∈ lw_tbl := List.mem_of_getElem? (i := 78) (by decide +kernel)
set_option maxRecDepth 20000 in
theorem tw_77 : Cond.instanceMethod yX3_init ∈ lw_tbl := List.mem_of_getElem? (i := 77) (by decide +kernel)
set_option maxRecDepth 20000 in
theorem tw_76 : Cond.methodLink RX2 11 yX3_init ∈ lw_tbl := List.mem_of_getElem? (i := 76) (by decide +kernel)
set_option maxRecDepth 20000 in
theorem tw_88 : Cond.fieldLink RX2 14 "HeirsInsulted$Page" "codes" "LHeirsInsulted$Row;" ∈ lw_tbl := List.mem_of_getElem? (i := 88) (by decide +kernel)
set_option maxRecDepth 20000 in
theorem tw_47 : Cond.initialized RX3 ∈ lw_tbl := List.mem_of_getElem? (i := 47) (by decide +kernel)
set_option maxRecDepth 20000 in
theorem tw_75 : Cond.instantiable RX3 1 ∈ lw_tbl := List.mem_of_getElem? (i := 75) (by decide +kernel)
set_option maxRecDepth 20000 in
theorem tw_74 : Cond.classLink RX2 9 RX3 ∈ lw_tbl := List.mem_of_getElem? (i := 74) (by decide +kernel)
set_option maxRecDepth 20000 in
theorem tw_186 : Cond.methodLink RX0 11 yX3_init ∈ lw_tbl := List.mem_of_getElem? (i := 186) (by decide +kernel)
set_option maxRecDepth 20000 in
theorem tw_188 : Cond.fieldLink RX0 20 "HeirsInsulted$Ends" "steps" "LHeirsInsulted$Row;" ∈ lw_tbl := List.mem_of_getElem? (i := 188) (by decide +kernel)
set_option maxRecDepth 20000 in
theorem tw_187 : Cond.fieldLink RX0 14 "HeirsInsulted$Ends" "lies" "LHeirsInsulted$Row;" ∈ lw_tbl := List.mem_of_getElem? (i := 187) (by decide +kernel)
set_option maxRecDepth 20000 in
theorem tw_185 : Cond.classLink RX0 9 RX3 ∈ lw_tbl := List.mem_of_getElem? (i := 185) (by decide +kernel)
set_option maxRecDepth 20000 in
theorem tw_184 : Cond.methodLink RX0 3 objectInit ∈ lw_tbl := List.mem_of_getElem? (i := 184) (by decide +kernel)
set_option maxRecDepth 20000 in
theorem tw_183 : Cond.code yX0_init cX0_init 1 none ∈ lw_tbl := List.mem_of_getElem? (i := 183) (by decide +kernel)
set_option maxRecDepth 20000 in
theorem tw_182 : Cond.instanceMethod yX0_init ∈ lw_tbl := List.mem_of_getElem? (i := 182) (by decide +kernel)
set_option maxRecDepth 20000 in
theorem tw_122 : Cond.methodLink RX4 20 yX3_init ∈ lw_tbl := List.mem_of_getElem? (i := 122) (by decide +kernel)
set_option maxRecDepth 20000 in
theorem tw_117 : Cond.fieldLink RX5 9 "HeirsInsulted$Table" "cells" "[I" ∈ lw_tbl := List.mem_of_getElem? (i := 117) (by decide +kernel)
set_option maxRecDepth 20000 in
theorem tw_116 : Cond.methodLink RX5 3 objectInit ∈ lw_tbl := List.mem_of_getElem? (i := 116) (by decide +kernel)
set_option maxRecDepth 20000 in
theorem tw_115 : Cond.code yX5_init cX5_init 1 none ∈ lw_tbl := List.mem_of_getElem? (i := 115) (by decide +kernel)
set_option maxRecDepth 20000 in
theorem tw_114 : Cond.instanceMethod yX5_init ∈ lw_tbl := List.mem_of_getElem? (i := 114) (by decide +kernel)
set_option maxRecDepth 20000 in
theorem tw_134 : Cond.fieldLink RX4 36 "HeirsInsulted$Standing" "heardMore" "LHeirsInsulted$Row;" ∈ lw_tbl := List.mem_of_getElem? (i := 134) (by decide +kernel)
set_option maxRecDepth 20000 in
theorem tw_132 : Cond.fieldLink RX4 33 "HeirsInsulted$Standing" "heardOther" "LHeirsInsulted$Row;" ∈ lw_tbl := List.mem_of_getElem? (i := 132) (by decide +kernel)
set_option maxRecDepth 20000 in
theorem tw_130 : Cond.fieldLink RX4 30 "HeirsInsulted$Standing" "heardThing" "LHeirsInsulted$Row;" ∈ lw_tbl := List.mem_of_getElem? (i := 130) (by decide +kernel)
set_option maxRecDepth 20000 in
theorem tw_128 : Cond.fieldLink RX4 27 "HeirsInsulted$Standing" "heardOf" "LHeirsInsulted$Row;" ∈ lw_tbl := List.mem_of_getElem? (i := 128) (by decide +kernel)
set_option maxRecDepth 20000 in
theorem tw_126 : Cond.fieldLink RX4 23 "HeirsInsulted$Standing" "made" "LHeirsInsulted$Row;" ∈ lw_tbl := List.mem_of_getElem? (i := 126) (by decide +kernel)
set_option maxRecDepth 20000 in
theorem tw_121 : Cond.classLink RX4 18 RX3 ∈ lw_tbl := List.mem_of_getElem? (i := 121) (by decide +kernel)
set_option maxRecDepth 20000 in
theorem tw_123 : Cond.fieldLink RX4 12 "HeirsInsulted$Standing" "worths" "LHeirsInsulted$Table;" ∈ lw_tbl := List.mem_of_getElem? (i := 123) (by decide +kernel)
set_option maxRecDepth 20000 in
theorem tw_51 : Cond.initialized RX5 ∈ lw_tbl := List.mem_of_getElem? (i := 51) (by decide +kernel)
set_option maxRecDepth 20000 in
theorem tw_112 : Cond.instantiable RX5 1 ∈ lw_tbl := List.mem_of_getElem? (i := 112) (by decide +kernel)
set_option maxRecDepth 20000 in
theorem tw_111 : Cond.classLink RX4 9 RX5 ∈ lw_tbl := List.mem_of_getElem? (i := 111) (by decide +kernel)
set_option maxRecDepth 20000 in
theorem tw_110 : Cond.methodLink RX4 3 objectInit ∈ lw_tbl := List.mem_of_getElem? (i := 110) (by decide +kernel)
set_option maxRecDepth 20000 in
theorem tw_62 : Cond.methodLink RL 9 yX6_init ∈ lw_tbl := List.mem_of_getElem? (i := 62) (by decide +kernel)
set_option maxRecDepth 20000 in
theorem tw_237 : Cond.code yX6_letter cX6_letter 2 (some .int) ∈ lw_tbl := List.mem_of_getElem? (i := 237) (by decide +kernel)
set_option maxRecDepth 20000 in
theorem tw_245 : Cond.code yX3_set cX3_set 3 none ∈ lw_tbl := List.mem_of_getElem? (i := 245) (by decide +kernel)
set_option maxRecDepth 20000 in
theorem tw_244 : Cond.selects RX3 yX3_set yX3_set ∈ lw_tbl := List.mem_of_getElem? (i := 244) (by decide +kernel)
set_option maxRecDepth 20000 in
theorem tw_243 : Cond.instanceMethod yX3_set ∈ lw_tbl := List.mem_of_getElem? (i := 243) (by decide +kernel)
set_option maxRecDepth 20000 in
theorem tw_242 : Cond.methodLink RX2 24 yX3_set ∈ lw_tbl := List.mem_of_getElem? (i := 242) (by decide +kernel)
set_option maxRecDepth 20000 in
theorem tw_90 : Cond.fieldLink RX2 20 "HeirsInsulted$Page" "letters" "I" ∈ lw_tbl := List.mem_of_getElem? (i := 90) (by decide +kernel)
set_option maxRecDepth 20000 in
theorem tw_241 : Cond.code yX2_write cX2_write 2 none ∈ lw_tbl := List.mem_of_getElem? (i := 241) (by decide +kernel)
set_option maxRecDepth 20000 in
theorem tw_240 : Cond.selects RX2 yX2_write yX2_write ∈ lw_tbl := List.mem_of_getElem? (i := 240) (by decide +kernel)
set_option maxRecDepth 20000 in
theorem tw_239 : Cond.instanceMethod yX2_write ∈ lw_tbl := List.mem_of_getElem? (i := 239) (by decide +kernel)
set_option maxRecDepth 20000 in
theorem tw_238 : Cond.methodLink RX6 47 yX2_write ∈ lw_tbl := List.mem_of_getElem? (i := 238) (by decide +kernel)
set_option maxRecDepth 20000 in
theorem tw_234 : Cond.methodLink RL 13 yX6_letter ∈ lw_tbl := List.mem_of_getElem? (i := 234) (by decide +kernel)
set_option maxRecDepth 20000 in
theorem tw_235 : Cond.instanceMethod yX6_letter ∈ lw_tbl := List.mem_of_getElem? (i := 235) (by decide +kernel)
set_option maxRecDepth 20000 in
theorem tw_236 : Cond.selects RX6 yX6_letter yX6_letter ∈ lw_tbl := List.mem_of_getElem? (i := 236) (by decide +kernel)
set_option maxRecDepth 20000 in
theorem tw_45 : Cond.initialized RX6 ∈ lw_tbl := List.mem_of_getElem? (i := 45) (by decide +kernel)
set_option maxRecDepth 20000 in
theorem tw_249 : Cond.code yX6_blank cX6_blank 2 (some .int) ∈ lw_tbl := List.mem_of_getElem? (i := 249) (by decide +kernel)
set_option maxRecDepth 20000 in
theorem tw_246 : Cond.methodLink RL 18 yX6_blank ∈ lw_tbl := List.mem_of_getElem? (i := 246) (by decide +kernel)
set_option maxRecDepth 20000 in
theorem tw_247 : Cond.instanceMethod yX6_blank ∈ lw_tbl := List.mem_of_getElem? (i := 247) (by decide +kernel)
set_option maxRecDepth 20000 in
theorem tw_248 : Cond.selects RX6 yX6_blank yX6_blank ∈ lw_tbl := List.mem_of_getElem? (i := 248) (by decide +kernel)
set_option maxRecDepth 20000 in
theorem tw_253 : Cond.code yX6_fault cX6_fault 1 (some .int) ∈ lw_tbl := List.mem_of_getElem? (i := 253) (by decide +kernel)
set_option maxRecDepth 20000 in
theorem tw_54 : Cond.initialized RJ0 ∈ lw_tbl := List.mem_of_getElem? (i := 54) (by decide +kernel)
set_option maxRecDepth 20000 in
theorem tw_271 : Cond.selects RJ0 yJ0_indexOf_0f7a4 yJ0_indexOf_0f7a4 ∈ lw_tbl := List.mem_of_getElem? (i := 271) (by decide +kernel)
set_option maxRecDepth 20000 in
theorem tw_270 : Cond.instanceMethod yJ0_indexOf_0f7a4 ∈ lw_tbl := List.mem_of_getElem? (i := 270) (by decide +kernel)
set_option maxRecDepth 20000 in
theorem tw_269 : Cond.methodLink RX2 45 yJ0_indexOf_0f7a4 ∈ lw_tbl := List.mem_of_getElem? (i := 269) (by decide +kernel)
set_option maxRecDepth 20000 in
theorem tw_267 : Cond.code yX2_kindCalled cX2_kindCalled 1 (some .int) ∈ lw_tbl := List.mem_of_getElem? (i := 267) (by decide +kernel)
set_option maxRecDepth 20000 in
theorem tw_266 : Cond.static yX2_kindCalled ∈ lw_tbl := List.mem_of_getElem? (i := 266) (by decide +kernel)
set_option maxRecDepth 20000 in
theorem tw_265 : Cond.methodLink RX2 40 yX2_kindCalled ∈ lw_tbl := List.mem_of_getElem? (i := 265) (by decide +kernel)
set_option maxRecDepth 20000 in
theorem tw_264 : Cond.code yX2_fits cX2_fits 3 (some .boolean) ∈ lw_tbl := List.mem_of_getElem? (i := 264) (by decide +kernel)
set_option maxRecDepth 20000 in
theorem tw_263 : Cond.static yX2_fits ∈ lw_tbl := List.mem_of_getElem? (i := 263) (by decide +kernel)
set_option maxRecDepth 20000 in
theorem tw_262 : Cond.methodLink RX2 32 yX2_fits ∈ lw_tbl := List.mem_of_getElem? (i := 262) (by decide +kernel)
set_option maxRecDepth 20000 in
theorem tw_261 : Cond.code yX3_get cX3_get 2 (some .int) ∈ lw_tbl := List.mem_of_getElem? (i := 261) (by decide +kernel)
set_option maxRecDepth 20000 in
theorem tw_260 : Cond.selects RX3 yX3_get yX3_get ∈ lw_tbl := List.mem_of_getElem? (i := 260) (by decide +kernel)
set_option maxRecDepth 20000 in
theorem tw_259 : Cond.instanceMethod yX3_get ∈ lw_tbl := List.mem_of_getElem? (i := 259) (by decide +kernel)
set_option maxRecDepth 20000 in
theorem tw_258 : Cond.methodLink RX2 28 yX3_get ∈ lw_tbl := List.mem_of_getElem? (i := 258) (by decide +kernel)
set_option maxRecDepth 20000 in
theorem tw_257 : Cond.code yX2_firstFault cX2_firstFault 2 (some .int) ∈ lw_tbl := List.mem_of_getElem? (i := 257) (by decide +kernel)
set_option maxRecDepth 20000 in
theorem tw_256 : Cond.selects RX2 yX2_firstFault yX2_firstFault ∈ lw_tbl := List.mem_of_getElem? (i := 256) (by decide +kernel)
set_option maxRecDepth 20000 in
theorem tw_255 : Cond.instanceMethod yX2_firstFault ∈ lw_tbl := List.mem_of_getElem? (i := 255) (by decide +kernel)
set_option maxRecDepth 20000 in
theorem tw_254 : Cond.methodLink RX6 51 yX2_firstFault ∈ lw_tbl := List.mem_of_getElem? (i := 254) (by decide +kernel)
set_option maxRecDepth 20000 in
theorem tw_293 : Cond.code yJ1_indexOf_4cfef cJ1_indexOf_4cfef 4 (some .int) ∈ lw_tbl := List.mem_of_getElem? (i := 293) (by decide +kernel)
set_option maxRecDepth 20000 in
theorem tw_55 : Cond.initialized RJ1 ∈ lw_tbl := List.mem_of_getElem? (i := 55) (by decide +kernel)
set_option maxRecDepth 20000 in
theorem tw_292 : Cond.static yJ1_indexOf_4cfef ∈ lw_tbl := List.mem_of_getElem? (i := 292) (by decide +kernel)
set_option maxRecDepth 20000 in
theorem tw_291 : Cond.methodLink RJ0 637 yJ1_indexOf_4cfef ∈ lw_tbl := List.mem_of_getElem? (i := 291) (by decide +kernel)
set_option maxRecDepth 20000 in
theorem tw_290 : Cond.code yJ0_coder_7d493 cJ0_coder_7d493 1 (some .byte) ∈ lw_tbl := List.mem_of_getElem? (i := 290) (by decide +kernel)
set_option maxRecDepth 20000 in
theorem tw_289 : Cond.selects RJ0 yJ0_coder_7d493 yJ0_coder_7d493 ∈ lw_tbl := List.mem_of_getElem? (i := 289) (by decide +kernel)
set_option maxRecDepth 20000 in
theorem tw_288 : Cond.instanceMethod yJ0_coder_7d493 ∈ lw_tbl := List.mem_of_getElem? (i := 288) (by decide +kernel)
set_option maxRecDepth 20000 in
theorem tw_287 : Cond.methodLink RJ0 335 yJ0_coder_7d493 ∈ lw_tbl := List.mem_of_getElem? (i := 287) (by decide +kernel)
set_option maxRecDepth 20000 in
theorem tw_286 : Cond.code yJ0_length_8abf5 cJ0_length_8abf5 1 (some .int) ∈ lw_tbl := List.mem_of_getElem? (i := 286) (by decide +kernel)
set_option maxRecDepth 20000 in
theorem tw_285 : Cond.selects RJ0 yJ0_length_8abf5 yJ0_length_8abf5 ∈ lw_tbl := List.mem_of_getElem? (i := 285) (by decide +kernel)
set_option maxRecDepth 20000 in
theorem tw_284 : Cond.instanceMethod yJ0_length_8abf5 ∈ lw_tbl := List.mem_of_getElem? (i := 284) (by decide +kernel)
set_option maxRecDepth 20000 in
theorem tw_283 : Cond.methodLink RJ0 505 yJ0_length_8abf5 ∈ lw_tbl := List.mem_of_getElem? (i := 283) (by decide +kernel)
set_option maxRecDepth 20000 in
theorem tw_1011 : Cond.fieldLink RJ0 15 "java/lang/String" "coder" "B" ∈ lw_tbl := List.mem_of_getElem? (i := 1011) (by decide +kernel)
set_option maxRecDepth 20000 in
theorem tw_281 : Cond.fieldLink RJ0 38 "java/lang/String" "COMPACT_STRINGS" "Z" ∈ lw_tbl := List.mem_of_getElem? (i := 281) (by decide +kernel)
set_option maxRecDepth 20000 in
theorem tw_280 : Cond.code yJ0_isLatin1_aae02 cJ0_isLatin1_aae02 1 (some .boolean) ∈ lw_tbl := List.mem_of_getElem? (i := 280) (by decide +kernel)
set_option maxRecDepth 20000 in
theorem tw_279 : Cond.selects RJ0 yJ0_isLatin1_aae02 yJ0_isLatin1_aae02 ∈ lw_tbl := List.mem_of_getElem? (i := 279) (by decide +kernel)
set_option maxRecDepth 20000 in
theorem tw_278 : Cond.instanceMethod yJ0_isLatin1_aae02 ∈ lw_tbl := List.mem_of_getElem? (i := 278) (by decide +kernel)
set_option maxRecDepth 20000 in
theorem tw_277 : Cond.methodLink RJ0 492 yJ0_isLatin1_aae02 ∈ lw_tbl := List.mem_of_getElem? (i := 277) (by decide +kernel)
set_option maxRecDepth 20000 in
theorem tw_1012 : Cond.fieldLink RJ0 9 "java/lang/String" "value" "[B" ∈ lw_tbl := List.mem_of_getElem? (i := 1012) (by decide +kernel)
set_option maxRecDepth 20000 in
theorem tw_276 : Cond.code yJ0_indexOf_7cf53 cJ0_indexOf_7cf53 3 (some .int) ∈ lw_tbl := List.mem_of_getElem? (i := 276) (by decide +kernel)
set_option maxRecDepth 20000 in
theorem tw_275 : Cond.selects RJ0 yJ0_indexOf_7cf53 yJ0_indexOf_7cf53 ∈ lw_tbl := List.mem_of_getElem? (i := 275) (by decide +kernel)
set_option maxRecDepth 20000 in
theorem tw_274 : Cond.instanceMethod yJ0_indexOf_7cf53 ∈ lw_tbl := List.mem_of_getElem? (i := 274) (by decide +kernel)
set_option maxRecDepth 20000 in
theorem tw_273 : Cond.methodLink RJ0 633 yJ0_indexOf_7cf53 ∈ lw_tbl := List.mem_of_getElem? (i := 273) (by decide +kernel)
set_option maxRecDepth 20000 in
theorem tw_272 : Cond.code yJ0_indexOf_0f7a4 cJ0_indexOf_0f7a4 2 (some .int) ∈ lw_tbl := List.mem_of_getElem? (i := 272) (by decide +kernel)
set_option maxRecDepth 20000 in
theorem tw_313 : Cond.methodLink RJ2 96 yJ2_checkBoundsBeginEnd_d044e ∈ lw_tbl := List.mem_of_getElem? (i := 313) (by decide +kernel)
set_option maxRecDepth 20000 in
theorem tw_312 : Cond.code yJ2_indexOfChar_4cfef cJ2_indexOfChar_4cfef 4 (some .int) ∈ lw_tbl := List.mem_of_getElem? (i := 312) (by decide +kernel)
set_option maxRecDepth 20000 in
theorem tw_311 : Cond.static yJ2_indexOfChar_4cfef ∈ lw_tbl := List.mem_of_getElem? (i := 311) (by decide +kernel)
set_option maxRecDepth 20000 in
theorem tw_310 : Cond.methodLink RJ2 228 yJ2_indexOfChar_4cfef ∈ lw_tbl := List.mem_of_getElem? (i := 310) (by decide +kernel)
set_option maxRecDepth 20000 in
theorem tw_309 : Cond.constant RJ2 227 (65536) ∈ lw_tbl := List.mem_of_getElem? (i := 309) (by decide +kernel)
set_option maxRecDepth 20000 in
theorem tw_308 : Cond.methodLink RJ2 183 Lib.Math.min.name ∈ lw_tbl := List.mem_of_getElem? (i := 308) (by decide +kernel)
set_option maxRecDepth 20000 in
theorem tw_307 : Cond.methodLink RJ2 224 Lib.Math.max.name ∈ lw_tbl := List.mem_of_getElem? (i := 307) (by decide +kernel)
set_option maxRecDepth 20000 in
theorem tw_306 : Cond.code yJ2_indexOf_4cfef cJ2_indexOf_4cfef 4 (some .int) ∈ lw_tbl := List.mem_of_getElem? (i := 306) (by decide +kernel)
set_option maxRecDepth 20000 in
theorem tw_56 : Cond.initialized RJ2 ∈ lw_tbl := List.mem_of_getElem? (i := 56) (by decide +kernel)
set_option maxRecDepth 20000 in
theorem tw_305 : Cond.static yJ2_indexOf_4cfef ∈ lw_tbl := List.mem_of_getElem? (i := 305) (by decide +kernel)
set_option maxRecDepth 20000 in
theorem tw_304 : Cond.methodLink RJ0 640 yJ2_indexOf_4cfef ∈ lw_tbl := List.mem_of_getElem? (i := 304) (by decide +kernel)
set_option maxRecDepth 20000 in
theorem tw_303 : Cond.code yJ1_indexOfChar_4cfef cJ1_indexOfChar_4cfef 6 (some .int) ∈ lw_tbl := List.mem_of_getElem? (i := 303) (by decide +kernel)
set_option maxRecDepth 20000 in
theorem tw_302 : Cond.static yJ1_indexOfChar_4cfef ∈ lw_tbl := List.mem_of_getElem? (i := 302) (by decide +kernel)
set_option maxRecDepth 20000 in
theorem tw_301 : Cond.methodLink RJ1 95 yJ1_indexOfChar_4cfef ∈ lw_tbl := List.mem_of_getElem? (i := 301) (by decide +kernel)
set_option maxRecDepth 20000 in
theorem tw_296 : Cond.code yJ1_canEncode_9a6ad cJ1_canEncode_9a6ad 1 (some .boolean) ∈ lw_tbl := List.mem_of_getElem? (i := 296) (by decide +kernel)
set_option maxRecDepth 20000 in
theorem tw_295 : Cond.static yJ1_canEncode_9a6ad ∈ lw_tbl := List.mem_of_getElem? (i := 295) (by decide +kernel)
set_option maxRecDepth 20000 in
theorem tw_294 : Cond.methodLink RJ1 88 yJ1_canEncode_9a6ad ∈ lw_tbl := List.mem_of_getElem? (i := 294) (by decide +kernel)
set_option maxRecDepth 20000 in
theorem tw_300 : Cond.code Lib.Math.min.name Lib.Math.min.code 2 (some .int) ∈ lw_tbl := List.mem_of_getElem? (i := 300) (by decide +kernel)
set_option maxRecDepth 20000 in
theorem tw_299 : Cond.static Lib.Math.min.name ∈ lw_tbl := List.mem_of_getElem? (i := 299) (by decide +kernel)
set_option maxRecDepth 20000 in
theorem tw_298 : Cond.methodLink RJ1 38 Lib.Math.min.name ∈ lw_tbl := List.mem_of_getElem? (i := 298) (by decide +kernel)
set_option maxRecDepth 20000 in
theorem tw_297 : Cond.methodLink RJ1 92 Lib.Math.max.name ∈ lw_tbl := List.mem_of_getElem? (i := 297) (by decide +kernel)
set_option maxRecDepth 20000 in
theorem tw_340 : Cond.static yJ2_indexOfSupplementary_4cfef ∈ lw_tbl := List.mem_of_getElem? (i := 340) (by decide +kernel)
set_option maxRecDepth 20000 in
theorem tw_339 : Cond.methodLink RJ2 232 yJ2_indexOfSupplementary_4cfef ∈ lw_tbl := List.mem_of_getElem? (i := 339) (by decide +kernel)
set_option maxRecDepth 20000 in
theorem tw_337 : Cond.fieldLink RJ2 63 "java/lang/StringUTF16" "LO_BYTE_SHIFT" "I" ∈ lw_tbl := List.mem_of_getElem? (i := 337) (by decide +kernel)
set_option maxRecDepth 20000 in
theorem tw_335 : Cond.fieldLink RJ2 59 "java/lang/StringUTF16" "HI_BYTE_SHIFT" "I" ∈ lw_tbl := List.mem_of_getElem? (i := 335) (by decide +kernel)
set_option maxRecDepth 20000 in
theorem tw_333 : Cond.fieldLink RJ2 44 "java/lang/StringUTF16" "$assertionsDisabled" "Z" ∈ lw_tbl := List.mem_of_getElem? (i := 333) (by decide +kernel)
set_option maxRecDepth 20000 in
theorem tw_332 : Cond.code yJ2_getChar_3b067 cJ2_getChar_3b067 2 (some .char) ∈ lw_tbl := List.mem_of_getElem? (i := 332) (by decide +kernel)
set_option maxRecDepth 20000 in
theorem tw_331 : Cond.static yJ2_getChar_3b067 ∈ lw_tbl := List.mem_of_getElem? (i := 331) (by decide +kernel)
set_option maxRecDepth 20000 in
theorem tw_330 : Cond.methodLink RJ2 71 yJ2_getChar_3b067 ∈ lw_tbl := List.mem_of_getElem? (i := 330) (by decide +kernel)
set_option maxRecDepth 20000 in
theorem tw_329 : Cond.code yJ2_indexOfCharUnsafe_4cfef cJ2_indexOfCharUnsafe_4cfef 5 (some .int) ∈ lw_tbl := List.mem_of_getElem? (i := 329) (by decide +kernel)
set_option maxRecDepth 20000 in
theorem tw_328 : Cond.static yJ2_indexOfCharUnsafe_4cfef ∈ lw_tbl := List.mem_of_getElem? (i := 328) (by decide +kernel)
set_option maxRecDepth 20000 in
theorem tw_327 : Cond.methodLink RJ2 244 yJ2_indexOfCharUnsafe_4cfef ∈ lw_tbl := List.mem_of_getElem? (i := 327) (by decide +kernel)
set_option maxRecDepth 20000 in
theorem tw_326 : Cond.code yJ3_checkFromToIndex_8c36e cJ3_checkFromToIndex_8c36e 4 (some .int) ∈ lw_tbl := List.mem_of_getElem? (i := 326) (by decide +kernel)
set_option maxRecDepth 20000 in
theorem tw_57 : Cond.initialized RJ3 ∈ lw_tbl := List.mem_of_getElem? (i := 57) (by decide +kernel)
set_option maxRecDepth 20000 in
theorem tw_325 : Cond.static yJ3_checkFromToIndex_8c36e ∈ lw_tbl := List.mem_of_getElem? (i := 325) (by decide +kernel)
set_option maxRecDepth 20000 in
theorem tw_324 : Cond.methodLink RJ0 1062 yJ3_checkFromToIndex_8c36e ∈ lw_tbl := List.mem_of_getElem? (i := 324) (by decide +kernel)
set_option maxRecDepth 20000 in
theorem tw_322 : Cond.fieldLink RJ0 1053 "jdk/internal/util/Preconditions" "SIOOBE_FORMATTER" "Ljava/util/function/BiFunction;" ∈ lw_tbl := List.mem_of_getElem? (i := 322) (by decide +kernel)
set_option maxRecDepth 20000 in
theorem tw_321 : Cond.code yJ0_checkBoundsBeginEnd_23922 cJ0_checkBoundsBeginEnd_23922 3 none ∈ lw_tbl := List.mem_of_getElem? (i := 321) (by decide +kernel)
set_option maxRecDepth 20000 in
theorem tw_320 : Cond.static yJ0_checkBoundsBeginEnd_23922 ∈ lw_tbl := List.mem_of_getElem? (i := 320) (by decide +kernel)
set_option maxRecDepth 20000 in
theorem tw_319 : Cond.methodLink RJ2 241 yJ0_checkBoundsBeginEnd_23922 ∈ lw_tbl := List.mem_of_getElem? (i := 319) (by decide +kernel)
set_option maxRecDepth 20000 in
theorem tw_318 : Cond.code yJ2_length_9d52b cJ2_length_9d52b 1 (some .int) ∈ lw_tbl := List.mem_of_getElem? (i := 318) (by decide +kernel)
set_option maxRecDepth 20000 in
theorem tw_317 : Cond.static yJ2_length_9d52b ∈ lw_tbl := List.mem_of_getElem? (i := 317) (by decide +kernel)
set_option maxRecDepth 20000 in
theorem tw_316 : Cond.methodLink RJ2 48 yJ2_length_9d52b ∈ lw_tbl := List.mem_of_getElem? (i := 316) (by decide +kernel)
set_option maxRecDepth 20000 in
theorem tw_315 : Cond.code yJ2_checkBoundsBeginEnd_d044e cJ2_checkBoundsBeginEnd_d044e 3 none ∈ lw_tbl := List.mem_of_getElem? (i := 315) (by decide +kernel)
set_option maxRecDepth 20000 in
theorem tw_314 : Cond.static yJ2_checkBoundsBeginEnd_d044e ∈ lw_tbl := List.mem_of_getElem? (i := 314) (by decide +kernel)
set_option maxRecDepth 20000 in
theorem tw_352 : Cond.constant RJ11 76 (56320) ∈ lw_tbl := List.mem_of_getElem? (i := 352) (by decide +kernel)
set_option maxRecDepth 20000 in
theorem tw_351 : Cond.code yJ11_lowSurrogate_5068e cJ11_lowSurrogate_5068e 1 (some .char) ∈ lw_tbl := List.mem_of_getElem? (i := 351) (by decide +kernel)
set_option maxRecDepth 20000 in
theorem tw_350 : Cond.static yJ11_lowSurrogate_5068e ∈ lw_tbl := List.mem_of_getElem? (i := 350) (by decide +kernel)
set_option maxRecDepth 20000 in
theorem tw_349 : Cond.methodLink RJ2 161 yJ11_lowSurrogate_5068e ∈ lw_tbl := List.mem_of_getElem? (i := 349) (by decide +kernel)
set_option maxRecDepth 20000 in
theorem tw_348 : Cond.constant RJ11 110 (55232) ∈ lw_tbl := List.mem_of_getElem? (i := 348) (by decide +kernel)
set_option maxRecDepth 20000 in
theorem tw_347 : Cond.code yJ11_highSurrogate_5068e cJ11_highSurrogate_5068e 1 (some .char) ∈ lw_tbl := List.mem_of_getElem? (i := 347) (by decide +kernel)
set_option maxRecDepth 20000 in
theorem tw_346 : Cond.static yJ11_highSurrogate_5068e ∈ lw_tbl := List.mem_of_getElem? (i := 346) (by decide +kernel)
set_option maxRecDepth 20000 in
theorem tw_345 : Cond.methodLink RJ2 157 yJ11_highSurrogate_5068e ∈ lw_tbl := List.mem_of_getElem? (i := 345) (by decide +kernel)
set_option maxRecDepth 20000 in
theorem tw_344 : Cond.code yJ11_isValidCodePoint_9a6ad cJ11_isValidCodePoint_9a6ad 2 (some .boolean) ∈ lw_tbl := List.mem_of_getElem? (i := 344) (by decide +kernel)
set_option maxRecDepth 20000 in
theorem tw_58 : Cond.initialized RJ11 ∈ lw_tbl := List.mem_of_getElem? (i := 58) (by decide +kernel)
set_option maxRecDepth 20000 in
theorem tw_343 : Cond.static yJ11_isValidCodePoint_9a6ad ∈ lw_tbl := List.mem_of_getElem? (i := 343) (by decide +kernel)
set_option maxRecDepth 20000 in
theorem tw_342 : Cond.methodLink RJ2 164 yJ11_isValidCodePoint_9a6ad ∈ lw_tbl := List.mem_of_getElem? (i := 342) (by decide +kernel)
set_option maxRecDepth 20000 in
theorem tw_341 : Cond.code yJ2_indexOfSupplementary_4cfef cJ2_indexOfSupplementary_4cfef 7 (some .int) ∈ lw_tbl := List.mem_of_getElem? (i := 341) (by decide +kernel)
set_option maxRecDepth 20000 in
theorem tw_250 : Cond.methodLink RL 23 yX6_fault ∈ lw_tbl := List.mem_of_getElem? (i := 250) (by decide +kernel)
set_option maxRecDepth 20000 in
theorem tw_251 : Cond.instanceMethod yX6_fault ∈ lw_tbl := List.mem_of_getElem? (i := 251) (by decide +kernel)
set_option maxRecDepth 20000 in
theorem tw_252 : Cond.selects RX6 yX6_fault yX6_fault ∈ lw_tbl := List.mem_of_getElem? (i := 252) (by decide +kernel)
set_option maxRecDepth 20000 in
theorem tw_357 : Cond.code yX6_will cX6_will 2 (some .int) ∈ lw_tbl := List.mem_of_getElem? (i := 357) (by decide +kernel)
set_option maxRecDepth 20000 in
theorem tw_362 : Cond.methodLink RX2 36 yX2_firstFault ∈ lw_tbl := List.mem_of_getElem? (i := 362) (by decide +kernel)
set_option maxRecDepth 20000 in
theorem tw_361 : Cond.code yX2_heirsNamed cX2_heirsNamed 3 (some .int) ∈ lw_tbl := List.mem_of_getElem? (i := 361) (by decide +kernel)
set_option maxRecDepth 20000 in
theorem tw_360 : Cond.selects RX2 yX2_heirsNamed yX2_heirsNamed ∈ lw_tbl := List.mem_of_getElem? (i := 360) (by decide +kernel)
set_option maxRecDepth 20000 in
theorem tw_359 : Cond.instanceMethod yX2_heirsNamed ∈ lw_tbl := List.mem_of_getElem? (i := 359) (by decide +kernel)
set_option maxRecDepth 20000 in
theorem tw_358 : Cond.methodLink RX6 55 yX2_heirsNamed ∈ lw_tbl := List.mem_of_getElem? (i := 358) (by decide +kernel)
set_option maxRecDepth 20000 in
theorem tw_366 : Cond.code yX1_takeFrom cX1_takeFrom 5 none ∈ lw_tbl := List.mem_of_getElem? (i := 366) (by decide +kernel)
set_option maxRecDepth 20000 in
theorem tw_365 : Cond.selects RX1 yX1_takeFrom yX1_takeFrom ∈ lw_tbl := List.mem_of_getElem? (i := 365) (by decide +kernel)
set_option maxRecDepth 20000 in
theorem tw_364 : Cond.instanceMethod yX1_takeFrom ∈ lw_tbl := List.mem_of_getElem? (i := 364) (by decide +kernel)
set_option maxRecDepth 20000 in
theorem tw_363 : Cond.methodLink RX6 58 yX1_takeFrom ∈ lw_tbl := List.mem_of_getElem? (i := 363) (by decide +kernel)
set_option maxRecDepth 20000 in
theorem tw_382 : Cond.selects RX4 yX4_forgetAll yX4_forgetAll ∈ lw_tbl := List.mem_of_getElem? (i := 382) (by decide +kernel)
set_option maxRecDepth 20000 in
theorem tw_381 : Cond.instanceMethod yX4_forgetAll ∈ lw_tbl := List.mem_of_getElem? (i := 381) (by decide +kernel)
set_option maxRecDepth 20000 in
theorem tw_380 : Cond.methodLink RX1 55 yX4_forgetAll ∈ lw_tbl := List.mem_of_getElem? (i := 380) (by decide +kernel)
set_option maxRecDepth 20000 in
theorem tw_379 : Cond.code yX5_put cX5_put 5 none ∈ lw_tbl := List.mem_of_getElem? (i := 379) (by decide +kernel)
set_option maxRecDepth 20000 in
theorem tw_378 : Cond.selects RX5 yX5_put yX5_put ∈ lw_tbl := List.mem_of_getElem? (i := 378) (by decide +kernel)
set_option maxRecDepth 20000 in
theorem tw_377 : Cond.instanceMethod yX5_put ∈ lw_tbl := List.mem_of_getElem? (i := 377) (by decide +kernel)
set_option maxRecDepth 20000 in
theorem tw_376 : Cond.methodLink RX1 49 yX5_put ∈ lw_tbl := List.mem_of_getElem? (i := 376) (by decide +kernel)
set_option maxRecDepth 20000 in
theorem tw_375 : Cond.code yX2_digitOf cX2_digitOf 3 (some .int) ∈ lw_tbl := List.mem_of_getElem? (i := 375) (by decide +kernel)
set_option maxRecDepth 20000 in
theorem tw_374 : Cond.selects RX2 yX2_digitOf yX2_digitOf ∈ lw_tbl := List.mem_of_getElem? (i := 374) (by decide +kernel)
set_option maxRecDepth 20000 in
theorem tw_373 : Cond.instanceMethod yX2_digitOf ∈ lw_tbl := List.mem_of_getElem? (i := 373) (by decide +kernel)
set_option maxRecDepth 20000 in
theorem tw_372 : Cond.methodLink RX1 45 yX2_digitOf ∈ lw_tbl := List.mem_of_getElem? (i := 372) (by decide +kernel)
set_option maxRecDepth 20000 in
theorem tw_371 : Cond.methodLink RX1 37 yX3_set ∈ lw_tbl := List.mem_of_getElem? (i := 371) (by decide +kernel)
set_option maxRecDepth 20000 in
theorem tw_370 : Cond.code yX2_kindOf cX2_kindOf 2 (some .int) ∈ lw_tbl := List.mem_of_getElem? (i := 370) (by decide +kernel)
set_option maxRecDepth 20000 in
theorem tw_369 : Cond.selects RX2 yX2_kindOf yX2_kindOf ∈ lw_tbl := List.mem_of_getElem? (i := 369) (by decide +kernel)
set_option maxRecDepth 20000 in
theorem tw_368 : Cond.instanceMethod yX2_kindOf ∈ lw_tbl := List.mem_of_getElem? (i := 368) (by decide +kernel)
set_option maxRecDepth 20000 in
theorem tw_367 : Cond.methodLink RX1 31 yX2_kindOf ∈ lw_tbl := List.mem_of_getElem? (i := 367) (by decide +kernel)
set_option maxRecDepth 20000 in
theorem tw_169 : Cond.fieldLink RX1 27 "HeirsInsulted$Estate" "heirs" "I" ∈ lw_tbl := List.mem_of_getElem? (i := 169) (by decide +kernel)
set_option maxRecDepth 20000 in
theorem tw_402 : Cond.methodLink RX1 71 yX1_saidAs ∈ lw_tbl := List.mem_of_getElem? (i := 402) (by decide +kernel)
set_option maxRecDepth 20000 in
theorem tw_401 : Cond.code yX5_at cX5_at 4 (some .int) ∈ lw_tbl := List.mem_of_getElem? (i := 401) (by decide +kernel)
set_option maxRecDepth 20000 in
theorem tw_400 : Cond.selects RX5 yX5_at yX5_at ∈ lw_tbl := List.mem_of_getElem? (i := 400) (by decide +kernel)
set_option maxRecDepth 20000 in
theorem tw_399 : Cond.instanceMethod yX5_at ∈ lw_tbl := List.mem_of_getElem? (i := 399) (by decide +kernel)
set_option maxRecDepth 20000 in
theorem tw_398 : Cond.methodLink RX1 68 yX5_at ∈ lw_tbl := List.mem_of_getElem? (i := 398) (by decide +kernel)
set_option maxRecDepth 20000 in
theorem tw_397 : Cond.methodLink RX1 65 yX3_get ∈ lw_tbl := List.mem_of_getElem? (i := 397) (by decide +kernel)
set_option maxRecDepth 20000 in
theorem tw_396 : Cond.code yX1_saidBy cX1_saidBy 5 (some .int) ∈ lw_tbl := List.mem_of_getElem? (i := 396) (by decide +kernel)
set_option maxRecDepth 20000 in
theorem tw_395 : Cond.selects RX1 yX1_saidBy yX1_saidBy ∈ lw_tbl := List.mem_of_getElem? (i := 395) (by decide +kernel)
set_option maxRecDepth 20000 in
theorem tw_394 : Cond.instanceMethod yX1_saidBy ∈ lw_tbl := List.mem_of_getElem? (i := 394) (by decide +kernel)
set_option maxRecDepth 20000 in
theorem tw_393 : Cond.methodLink RX1 81 yX1_saidBy ∈ lw_tbl := List.mem_of_getElem? (i := 393) (by decide +kernel)
set_option maxRecDepth 20000 in
theorem tw_392 : Cond.code yX1_leastSaid cX1_leastSaid 7 (some .int) ∈ lw_tbl := List.mem_of_getElem? (i := 392) (by decide +kernel)
set_option maxRecDepth 20000 in
theorem tw_0 : Cond.selects RX1 yX1_leastSaid yX1_leastSaid ∈ lw_tbl := List.mem_of_getElem? (i := 0) (by decide +kernel)
set_option maxRecDepth 20000 in
theorem tw_391 : Cond.instanceMethod yX1_leastSaid ∈ lw_tbl := List.mem_of_getElem? (i := 391) (by decide +kernel)
set_option maxRecDepth 20000 in
theorem tw_389 : Cond.methodLink RX1 75 yX1_leastSaid ∈ lw_tbl := List.mem_of_getElem? (i := 389) (by decide +kernel)
set_option maxRecDepth 20000 in
theorem tw_388 : Cond.code yX1_dealt cX1_dealt 5 (some .int) ∈ lw_tbl := List.mem_of_getElem? (i := 388) (by decide +kernel)
set_option maxRecDepth 20000 in
theorem tw_387 : Cond.selects RX1 yX1_dealt yX1_dealt ∈ lw_tbl := List.mem_of_getElem? (i := 387) (by decide +kernel)
set_option maxRecDepth 20000 in
theorem tw_386 : Cond.instanceMethod yX1_dealt ∈ lw_tbl := List.mem_of_getElem? (i := 386) (by decide +kernel)
set_option maxRecDepth 20000 in
theorem tw_385 : Cond.methodLink RX1 58 yX1_dealt ∈ lw_tbl := List.mem_of_getElem? (i := 385) (by decide +kernel)
set_option maxRecDepth 20000 in
theorem tw_384 : Cond.methodLink RX4 39 yX3_set ∈ lw_tbl := List.mem_of_getElem? (i := 384) (by decide +kernel)
set_option maxRecDepth 20000 in
theorem tw_142 : Cond.fieldLink RX4 47 "HeirsInsulted$Standing" "heard" "I" ∈ lw_tbl := List.mem_of_getElem? (i := 142) (by decide +kernel)
set_option maxRecDepth 20000 in
theorem tw_140 : Cond.fieldLink RX4 43 "HeirsInsulted$Standing" "changes" "I" ∈ lw_tbl := List.mem_of_getElem? (i := 140) (by decide +kernel)
set_option maxRecDepth 20000 in
theorem tw_383 : Cond.code yX4_forgetAll cX4_forgetAll 2 none ∈ lw_tbl := List.mem_of_getElem? (i := 383) (by decide +kernel)
set_option maxRecDepth 20000 in
theorem tw_408 : Cond.code yX1_placed cX1_placed 5 (some .int) ∈ lw_tbl := List.mem_of_getElem? (i := 408) (by decide +kernel)
set_option maxRecDepth 20000 in
theorem tw_1 : Cond.selects RX1 yX1_placed yX1_placed ∈ lw_tbl := List.mem_of_getElem? (i := 1) (by decide +kernel)
set_option maxRecDepth 20000 in
theorem tw_407 : Cond.instanceMethod yX1_placed ∈ lw_tbl := List.mem_of_getElem? (i := 407) (by decide +kernel)
set_option maxRecDepth 20000 in
theorem tw_405 : Cond.methodLink RX1 78 yX1_placed ∈ lw_tbl := List.mem_of_getElem? (i := 405) (by decide +kernel)
set_option maxRecDepth 20000 in
theorem tw_404 : Cond.code yX1_saidAs cX1_saidAs 3 (some .int) ∈ lw_tbl := List.mem_of_getElem? (i := 404) (by decide +kernel)
set_option maxRecDepth 20000 in
theorem tw_403 : Cond.static yX1_saidAs ∈ lw_tbl := List.mem_of_getElem? (i := 403) (by decide +kernel)
set_option maxRecDepth 20000 in
theorem tw_354 : Cond.methodLink RL 27 yX6_will ∈ lw_tbl := List.mem_of_getElem? (i := 354) (by decide +kernel)
set_option maxRecDepth 20000 in
theorem tw_355 : Cond.instanceMethod yX6_will ∈ lw_tbl := List.mem_of_getElem? (i := 355) (by decide +kernel)
set_option maxRecDepth 20000 in
theorem tw_356 : Cond.selects RX6 yX6_will yX6_will ∈ lw_tbl := List.mem_of_getElem? (i := 356) (by decide +kernel)
set_option maxRecDepth 20000 in
theorem tw_412 : Cond.code yX6_about cX6_about 3 (some .int) ∈ lw_tbl := List.mem_of_getElem? (i := 412) (by decide +kernel)
set_option maxRecDepth 20000 in
theorem tw_421 : Cond.methodLink RX6 82 yX1_saidBy ∈ lw_tbl := List.mem_of_getElem? (i := 421) (by decide +kernel)
set_option maxRecDepth 20000 in
theorem tw_420 : Cond.methodLink RX6 76 yX5_at ∈ lw_tbl := List.mem_of_getElem? (i := 420) (by decide +kernel)
set_option maxRecDepth 20000 in
theorem tw_419 : Cond.code yX6_isThing cX6_isThing 1 (some .boolean) ∈ lw_tbl := List.mem_of_getElem? (i := 419) (by decide +kernel)
set_option maxRecDepth 20000 in
theorem tw_418 : Cond.static yX6_isThing ∈ lw_tbl := List.mem_of_getElem? (i := 418) (by decide +kernel)
set_option maxRecDepth 20000 in
theorem tw_417 : Cond.methodLink RX6 66 yX6_isThing ∈ lw_tbl := List.mem_of_getElem? (i := 417) (by decide +kernel)
set_option maxRecDepth 20000 in
theorem tw_416 : Cond.code yX1_knows cX1_knows 2 (some .boolean) ∈ lw_tbl := List.mem_of_getElem? (i := 416) (by decide +kernel)
set_option maxRecDepth 20000 in
theorem tw_415 : Cond.selects RX1 yX1_knows yX1_knows ∈ lw_tbl := List.mem_of_getElem? (i := 415) (by decide +kernel)
set_option maxRecDepth 20000 in
theorem tw_414 : Cond.instanceMethod yX1_knows ∈ lw_tbl := List.mem_of_getElem? (i := 414) (by decide +kernel)
set_option maxRecDepth 20000 in
theorem tw_413 : Cond.methodLink RX6 62 yX1_knows ∈ lw_tbl := List.mem_of_getElem? (i := 413) (by decide +kernel)
set_option maxRecDepth 20000 in
theorem tw_436 : Cond.instanceMethod yX1_worthIn ∈ lw_tbl := List.mem_of_getElem? (i := 436) (by decide +kernel)
set_option maxRecDepth 20000 in
theorem tw_435 : Cond.methodLink RX1 90 yX1_worthIn ∈ lw_tbl := List.mem_of_getElem? (i := 435) (by decide +kernel)
set_option maxRecDepth 20000 in
theorem tw_434 : Cond.code yX1_isContent cX1_isContent 3 (some .boolean) ∈ lw_tbl := List.mem_of_getElem? (i := 434) (by decide +kernel)
set_option maxRecDepth 20000 in
theorem tw_433 : Cond.selects RX1 yX1_isContent yX1_isContent ∈ lw_tbl := List.mem_of_getElem? (i := 433) (by decide +kernel)
set_option maxRecDepth 20000 in
theorem tw_432 : Cond.instanceMethod yX1_isContent ∈ lw_tbl := List.mem_of_getElem? (i := 432) (by decide +kernel)
set_option maxRecDepth 20000 in
theorem tw_431 : Cond.methodLink RX6 101 yX1_isContent ∈ lw_tbl := List.mem_of_getElem? (i := 431) (by decide +kernel)
set_option maxRecDepth 20000 in
theorem tw_430 : Cond.code yX1_thingIn cX1_thingIn 3 (some .int) ∈ lw_tbl := List.mem_of_getElem? (i := 430) (by decide +kernel)
set_option maxRecDepth 20000 in
theorem tw_429 : Cond.selects RX1 yX1_thingIn yX1_thingIn ∈ lw_tbl := List.mem_of_getElem? (i := 429) (by decide +kernel)
set_option maxRecDepth 20000 in
theorem tw_428 : Cond.instanceMethod yX1_thingIn ∈ lw_tbl := List.mem_of_getElem? (i := 428) (by decide +kernel)
set_option maxRecDepth 20000 in
theorem tw_427 : Cond.methodLink RX1 84 yX1_thingIn ∈ lw_tbl := List.mem_of_getElem? (i := 427) (by decide +kernel)
set_option maxRecDepth 20000 in
theorem tw_426 : Cond.code yX1_thingOf cX1_thingOf 2 (some .int) ∈ lw_tbl := List.mem_of_getElem? (i := 426) (by decide +kernel)
set_option maxRecDepth 20000 in
theorem tw_425 : Cond.selects RX1 yX1_thingOf yX1_thingOf ∈ lw_tbl := List.mem_of_getElem? (i := 425) (by decide +kernel)
set_option maxRecDepth 20000 in
theorem tw_424 : Cond.instanceMethod yX1_thingOf ∈ lw_tbl := List.mem_of_getElem? (i := 424) (by decide +kernel)
set_option maxRecDepth 20000 in
theorem tw_423 : Cond.methodLink RX6 95 yX1_thingOf ∈ lw_tbl := List.mem_of_getElem? (i := 423) (by decide +kernel)
set_option maxRecDepth 20000 in
theorem tw_422 : Cond.methodLink RX6 89 yX3_get ∈ lw_tbl := List.mem_of_getElem? (i := 422) (by decide +kernel)
set_option maxRecDepth 20000 in
theorem tw_438 : Cond.code yX1_worthIn cX1_worthIn 3 (some .int) ∈ lw_tbl := List.mem_of_getElem? (i := 438) (by decide +kernel)
set_option maxRecDepth 20000 in
theorem tw_437 : Cond.selects RX1 yX1_worthIn yX1_worthIn ∈ lw_tbl := List.mem_of_getElem? (i := 437) (by decide +kernel)
set_option maxRecDepth 20000 in
theorem tw_409 : Cond.methodLink RL 31 yX6_about ∈ lw_tbl := List.mem_of_getElem? (i := 409) (by decide +kernel)
set_option maxRecDepth 20000 in
theorem tw_410 : Cond.instanceMethod yX6_about ∈ lw_tbl := List.mem_of_getElem? (i := 410) (by decide +kernel)
set_option maxRecDepth 20000 in
theorem tw_411 : Cond.selects RX6 yX6_about yX6_about ∈ lw_tbl := List.mem_of_getElem? (i := 411) (by decide +kernel)
set_option maxRecDepth 20000 in
theorem tw_442 : Cond.code yX6_as cX6_as 3 (some .int) ∈ lw_tbl := List.mem_of_getElem? (i := 442) (by decide +kernel)
set_option maxRecDepth 20000 in
theorem tw_445 : Cond.code yX6_isA cX6_isA 2 (some .boolean) ∈ lw_tbl := List.mem_of_getElem? (i := 445) (by decide +kernel)
set_option maxRecDepth 20000 in
theorem tw_444 : Cond.static yX6_isA ∈ lw_tbl := List.mem_of_getElem? (i := 444) (by decide +kernel)
set_option maxRecDepth 20000 in
theorem tw_443 : Cond.methodLink RX6 108 yX6_isA ∈ lw_tbl := List.mem_of_getElem? (i := 443) (by decide +kernel)
set_option maxRecDepth 20000 in
theorem tw_439 : Cond.methodLink RL 36 yX6_as ∈ lw_tbl := List.mem_of_getElem? (i := 439) (by decide +kernel)
set_option maxRecDepth 20000 in
theorem tw_440 : Cond.instanceMethod yX6_as ∈ lw_tbl := List.mem_of_getElem? (i := 440) (by decide +kernel)
set_option maxRecDepth 20000 in
theorem tw_441 : Cond.selects RX6 yX6_as yX6_as ∈ lw_tbl := List.mem_of_getElem? (i := 441) (by decide +kernel)
set_option maxRecDepth 20000 in
theorem tw_449 : Cond.code yX6_has cX6_has 2 (some .int) ∈ lw_tbl := List.mem_of_getElem? (i := 449) (by decide +kernel)
set_option maxRecDepth 20000 in
theorem tw_454 : Cond.methodLink RX1 87 yX1_thingOf ∈ lw_tbl := List.mem_of_getElem? (i := 454) (by decide +kernel)
set_option maxRecDepth 20000 in
theorem tw_453 : Cond.code yX1_ownerOf cX1_ownerOf 3 (some .int) ∈ lw_tbl := List.mem_of_getElem? (i := 453) (by decide +kernel)
set_option maxRecDepth 20000 in
theorem tw_452 : Cond.selects RX1 yX1_ownerOf yX1_ownerOf ∈ lw_tbl := List.mem_of_getElem? (i := 452) (by decide +kernel)
set_option maxRecDepth 20000 in
theorem tw_451 : Cond.instanceMethod yX1_ownerOf ∈ lw_tbl := List.mem_of_getElem? (i := 451) (by decide +kernel)
set_option maxRecDepth 20000 in
theorem tw_450 : Cond.methodLink RX6 114 yX1_ownerOf ∈ lw_tbl := List.mem_of_getElem? (i := 450) (by decide +kernel)
set_option maxRecDepth 20000 in
theorem tw_446 : Cond.methodLink RL 40 yX6_has ∈ lw_tbl := List.mem_of_getElem? (i := 446) (by decide +kernel)
set_option maxRecDepth 20000 in
theorem tw_447 : Cond.instanceMethod yX6_has ∈ lw_tbl := List.mem_of_getElem? (i := 447) (by decide +kernel)
set_option maxRecDepth 20000 in
theorem tw_448 : Cond.selects RX6 yX6_has yX6_has ∈ lw_tbl := List.mem_of_getElem? (i := 448) (by decide +kernel)
set_option maxRecDepth 20000 in
theorem tw_458 : Cond.code yX6_worth cX6_worth 5 (some .int) ∈ lw_tbl := List.mem_of_getElem? (i := 458) (by decide +kernel)
set_option maxRecDepth 20000 in
theorem tw_459 : Cond.methodLink RX6 117 yX5_put ∈ lw_tbl := List.mem_of_getElem? (i := 459) (by decide +kernel)
set_option maxRecDepth 20000 in
theorem tw_455 : Cond.methodLink RL 44 yX6_worth ∈ lw_tbl := List.mem_of_getElem? (i := 455) (by decide +kernel)
set_option maxRecDepth 20000 in
theorem tw_456 : Cond.instanceMethod yX6_worth ∈ lw_tbl := List.mem_of_getElem? (i := 456) (by decide +kernel)
set_option maxRecDepth 20000 in
theorem tw_457 : Cond.selects RX6 yX6_worth yX6_worth ∈ lw_tbl := List.mem_of_getElem? (i := 457) (by decide +kernel)
set_option maxRecDepth 20000 in
theorem tw_463 : Cond.code yX6_deal cX6_deal 2 (some .int) ∈ lw_tbl := List.mem_of_getElem? (i := 463) (by decide +kernel)
set_option maxRecDepth 20000 in
theorem tw_464 : Cond.methodLink RX6 121 yX1_dealt ∈ lw_tbl := List.mem_of_getElem? (i := 464) (by decide +kernel)
set_option maxRecDepth 20000 in
theorem tw_468 : Cond.code yX1_unlikeIn cX1_unlikeIn 5 (some .int) ∈ lw_tbl := List.mem_of_getElem? (i := 468) (by decide +kernel)
set_option maxRecDepth 20000 in
theorem tw_467 : Cond.selects RX1 yX1_unlikeIn yX1_unlikeIn ∈ lw_tbl := List.mem_of_getElem? (i := 467) (by decide +kernel)
set_option maxRecDepth 20000 in
theorem tw_466 : Cond.instanceMethod yX1_unlikeIn ∈ lw_tbl := List.mem_of_getElem? (i := 466) (by decide +kernel)
set_option maxRecDepth 20000 in
theorem tw_465 : Cond.methodLink RX6 124 yX1_unlikeIn ∈ lw_tbl := List.mem_of_getElem? (i := 465) (by decide +kernel)
set_option maxRecDepth 20000 in
theorem tw_460 : Cond.methodLink RL 49 yX6_deal ∈ lw_tbl := List.mem_of_getElem? (i := 460) (by decide +kernel)
set_option maxRecDepth 20000 in
theorem tw_461 : Cond.instanceMethod yX6_deal ∈ lw_tbl := List.mem_of_getElem? (i := 461) (by decide +kernel)
set_option maxRecDepth 20000 in
theorem tw_462 : Cond.selects RX6 yX6_deal yX6_deal ∈ lw_tbl := List.mem_of_getElem? (i := 462) (by decide +kernel)
set_option maxRecDepth 20000 in
theorem tw_472 : Cond.code yX6_may cX6_may 3 (some .int) ∈ lw_tbl := List.mem_of_getElem? (i := 472) (by decide +kernel)
set_option maxRecDepth 20000 in
theorem tw_480 : Cond.code yX1_mayIn cX1_mayIn 8 (some .int) ∈ lw_tbl := List.mem_of_getElem? (i := 480) (by decide +kernel)
set_option maxRecDepth 20000 in
theorem tw_479 : Cond.selects RX1 yX1_mayIn yX1_mayIn ∈ lw_tbl := List.mem_of_getElem? (i := 479) (by decide +kernel)
set_option maxRecDepth 20000 in
theorem tw_478 : Cond.instanceMethod yX1_mayIn ∈ lw_tbl := List.mem_of_getElem? (i := 478) (by decide +kernel)
set_option maxRecDepth 20000 in
theorem tw_477 : Cond.methodLink RX6 130 yX1_mayIn ∈ lw_tbl := List.mem_of_getElem? (i := 477) (by decide +kernel)
set_option maxRecDepth 20000 in
theorem tw_476 : Cond.code yX6_areTwo cX6_areTwo 3 (some .boolean) ∈ lw_tbl := List.mem_of_getElem? (i := 476) (by decide +kernel)
set_option maxRecDepth 20000 in
theorem tw_2 : Cond.selects RX6 yX6_areTwo yX6_areTwo ∈ lw_tbl := List.mem_of_getElem? (i := 2) (by decide +kernel)
set_option maxRecDepth 20000 in
theorem tw_475 : Cond.instanceMethod yX6_areTwo ∈ lw_tbl := List.mem_of_getElem? (i := 475) (by decide +kernel)
set_option maxRecDepth 20000 in
theorem tw_473 : Cond.methodLink RX6 127 yX6_areTwo ∈ lw_tbl := List.mem_of_getElem? (i := 473) (by decide +kernel)
set_option maxRecDepth 20000 in
theorem tw_469 : Cond.methodLink RL 53 yX6_may ∈ lw_tbl := List.mem_of_getElem? (i := 469) (by decide +kernel)
set_option maxRecDepth 20000 in
theorem tw_470 : Cond.instanceMethod yX6_may ∈ lw_tbl := List.mem_of_getElem? (i := 470) (by decide +kernel)
set_option maxRecDepth 20000 in
theorem tw_471 : Cond.selects RX6 yX6_may yX6_may ∈ lw_tbl := List.mem_of_getElem? (i := 471) (by decide +kernel)
set_option maxRecDepth 20000 in
theorem tw_484 : Cond.code yX6_change cX6_change 3 (some .int) ∈ lw_tbl := List.mem_of_getElem? (i := 484) (by decide +kernel)
set_option maxRecDepth 20000 in
theorem tw_488 : Cond.code yX1_changed cX1_changed 4 (some .int) ∈ lw_tbl := List.mem_of_getElem? (i := 488) (by decide +kernel)
set_option maxRecDepth 20000 in
theorem tw_487 : Cond.selects RX1 yX1_changed yX1_changed ∈ lw_tbl := List.mem_of_getElem? (i := 487) (by decide +kernel)
set_option maxRecDepth 20000 in
theorem tw_486 : Cond.instanceMethod yX1_changed ∈ lw_tbl := List.mem_of_getElem? (i := 486) (by decide +kernel)
set_option maxRecDepth 20000 in
theorem tw_485 : Cond.methodLink RX6 134 yX1_changed ∈ lw_tbl := List.mem_of_getElem? (i := 485) (by decide +kernel)
set_option maxRecDepth 20000 in
theorem tw_493 : Cond.methodLink RX4 50 yX3_get ∈ lw_tbl := List.mem_of_getElem? (i := 493) (by decide +kernel)
set_option maxRecDepth 20000 in
theorem tw_492 : Cond.code yX4_noteChange cX4_noteChange 3 none ∈ lw_tbl := List.mem_of_getElem? (i := 492) (by decide +kernel)
set_option maxRecDepth 20000 in
theorem tw_491 : Cond.selects RX4 yX4_noteChange yX4_noteChange ∈ lw_tbl := List.mem_of_getElem? (i := 491) (by decide +kernel)
set_option maxRecDepth 20000 in
theorem tw_490 : Cond.instanceMethod yX4_noteChange ∈ lw_tbl := List.mem_of_getElem? (i := 490) (by decide +kernel)
set_option maxRecDepth 20000 in
theorem tw_489 : Cond.methodLink RX6 137 yX4_noteChange ∈ lw_tbl := List.mem_of_getElem? (i := 489) (by decide +kernel)
set_option maxRecDepth 20000 in
theorem tw_481 : Cond.methodLink RL 57 yX6_change ∈ lw_tbl := List.mem_of_getElem? (i := 481) (by decide +kernel)
set_option maxRecDepth 20000 in
theorem tw_482 : Cond.instanceMethod yX6_change ∈ lw_tbl := List.mem_of_getElem? (i := 482) (by decide +kernel)
set_option maxRecDepth 20000 in
theorem tw_483 : Cond.selects RX6 yX6_change yX6_change ∈ lw_tbl := List.mem_of_getElem? (i := 483) (by decide +kernel)
set_option maxRecDepth 20000 in
theorem tw_497 : Cond.code yX6_ends cX6_ends 2 (some .int) ∈ lw_tbl := List.mem_of_getElem? (i := 497) (by decide +kernel)
set_option maxRecDepth 20000 in
theorem tw_507 : Cond.methodLink RX0 69 yX3_set ∈ lw_tbl := List.mem_of_getElem? (i := 507) (by decide +kernel)
set_option maxRecDepth 20000 in
theorem tw_506 : Cond.methodLink RX0 45 yX3_get ∈ lw_tbl := List.mem_of_getElem? (i := 506) (by decide +kernel)
set_option maxRecDepth 20000 in
theorem tw_505 : Cond.code yX0_reach cX0_reach 4 none ∈ lw_tbl := List.mem_of_getElem? (i := 505) (by decide +kernel)
set_option maxRecDepth 20000 in
theorem tw_3 : Cond.selects RX0 yX0_reach yX0_reach ∈ lw_tbl := List.mem_of_getElem? (i := 3) (by decide +kernel)
set_option maxRecDepth 20000 in
theorem tw_504 : Cond.instanceMethod yX0_reach ∈ lw_tbl := List.mem_of_getElem? (i := 504) (by decide +kernel)
set_option maxRecDepth 20000 in
theorem tw_502 : Cond.methodLink RX0 41 yX0_reach ∈ lw_tbl := List.mem_of_getElem? (i := 502) (by decide +kernel)
set_option maxRecDepth 20000 in
theorem tw_190 : Cond.fieldLink RX0 27 "HeirsInsulted$Ends" "number" "I" ∈ lw_tbl := List.mem_of_getElem? (i := 190) (by decide +kernel)
set_option maxRecDepth 20000 in
theorem tw_189 : Cond.fieldLink RX0 23 "HeirsInsulted$Ends" "reached" "I" ∈ lw_tbl := List.mem_of_getElem? (i := 189) (by decide +kernel)
set_option maxRecDepth 20000 in
theorem tw_501 : Cond.code yX0_seek cX0_seek 3 none ∈ lw_tbl := List.mem_of_getElem? (i := 501) (by decide +kernel)
set_option maxRecDepth 20000 in
theorem tw_500 : Cond.selects RX0 yX0_seek yX0_seek ∈ lw_tbl := List.mem_of_getElem? (i := 500) (by decide +kernel)
set_option maxRecDepth 20000 in
theorem tw_499 : Cond.instanceMethod yX0_seek ∈ lw_tbl := List.mem_of_getElem? (i := 499) (by decide +kernel)
set_option maxRecDepth 20000 in
theorem tw_498 : Cond.methodLink RX6 144 yX0_seek ∈ lw_tbl := List.mem_of_getElem? (i := 498) (by decide +kernel)
set_option maxRecDepth 20000 in
theorem tw_512 : Cond.methodLink RX0 62 yX1_mayIn ∈ lw_tbl := List.mem_of_getElem? (i := 512) (by decide +kernel)
set_option maxRecDepth 20000 in
theorem tw_511 : Cond.code yX0_goesOn cX0_goesOn 7 (some .boolean) ∈ lw_tbl := List.mem_of_getElem? (i := 511) (by decide +kernel)
set_option maxRecDepth 20000 in
theorem tw_4 : Cond.selects RX0 yX0_goesOn yX0_goesOn ∈ lw_tbl := List.mem_of_getElem? (i := 4) (by decide +kernel)
set_option maxRecDepth 20000 in
theorem tw_510 : Cond.instanceMethod yX0_goesOn ∈ lw_tbl := List.mem_of_getElem? (i := 510) (by decide +kernel)
set_option maxRecDepth 20000 in
theorem tw_508 : Cond.methodLink RX0 49 yX0_goesOn ∈ lw_tbl := List.mem_of_getElem? (i := 508) (by decide +kernel)
set_option maxRecDepth 20000 in
theorem tw_518 : Cond.methodLink RX0 56 yX0_noteEnd ∈ lw_tbl := List.mem_of_getElem? (i := 518) (by decide +kernel)
set_option maxRecDepth 20000 in
theorem tw_517 : Cond.code yX1_sumOf cX1_sumOf 4 (some .int) ∈ lw_tbl := List.mem_of_getElem? (i := 517) (by decide +kernel)
set_option maxRecDepth 20000 in
theorem tw_516 : Cond.selects RX1 yX1_sumOf yX1_sumOf ∈ lw_tbl := List.mem_of_getElem? (i := 516) (by decide +kernel)
set_option maxRecDepth 20000 in
theorem tw_515 : Cond.instanceMethod yX1_sumOf ∈ lw_tbl := List.mem_of_getElem? (i := 515) (by decide +kernel)
set_option maxRecDepth 20000 in
theorem tw_514 : Cond.methodLink RX0 53 yX1_sumOf ∈ lw_tbl := List.mem_of_getElem? (i := 514) (by decide +kernel)
set_option maxRecDepth 20000 in
theorem tw_513 : Cond.methodLink RX0 66 yX1_changed ∈ lw_tbl := List.mem_of_getElem? (i := 513) (by decide +kernel)
set_option maxRecDepth 20000 in
theorem tw_196 : Cond.fieldLink RX0 87 "HeirsInsulted$Ends" "fewest" "I" ∈ lw_tbl := List.mem_of_getElem? (i := 196) (by decide +kernel)
set_option maxRecDepth 20000 in
theorem tw_523 : Cond.methodLink RX0 84 Lib.Math.min.name ∈ lw_tbl := List.mem_of_getElem? (i := 523) (by decide +kernel)
set_option maxRecDepth 20000 in
theorem tw_194 : Cond.fieldLink RX0 81 "HeirsInsulted$Ends" "least" "I" ∈ lw_tbl := List.mem_of_getElem? (i := 194) (by decide +kernel)
set_option maxRecDepth 20000 in
theorem tw_522 : Cond.methodLink RX0 75 Lib.Math.max.name ∈ lw_tbl := List.mem_of_getElem? (i := 522) (by decide +kernel)
set_option maxRecDepth 20000 in
theorem tw_192 : Cond.fieldLink RX0 72 "HeirsInsulted$Ends" "greatest" "I" ∈ lw_tbl := List.mem_of_getElem? (i := 192) (by decide +kernel)
set_option maxRecDepth 20000 in
theorem tw_521 : Cond.code yX0_noteEnd cX0_noteEnd 3 none ∈ lw_tbl := List.mem_of_getElem? (i := 521) (by decide +kernel)
set_option maxRecDepth 20000 in
theorem tw_5 : Cond.selects RX0 yX0_noteEnd yX0_noteEnd ∈ lw_tbl := List.mem_of_getElem? (i := 5) (by decide +kernel)
set_option maxRecDepth 20000 in
theorem tw_520 : Cond.instanceMethod yX0_noteEnd ∈ lw_tbl := List.mem_of_getElem? (i := 520) (by decide +kernel)
set_option maxRecDepth 20000 in
theorem tw_494 : Cond.methodLink RL 61 yX6_ends ∈ lw_tbl := List.mem_of_getElem? (i := 494) (by decide +kernel)
set_option maxRecDepth 20000 in
theorem tw_495 : Cond.instanceMethod yX6_ends ∈ lw_tbl := List.mem_of_getElem? (i := 495) (by decide +kernel)
set_option maxRecDepth 20000 in
theorem tw_496 : Cond.selects RX6 yX6_ends yX6_ends ∈ lw_tbl := List.mem_of_getElem? (i := 496) (by decide +kernel)
set_option maxRecDepth 20000 in
theorem tw_527 : Cond.code yX6_served cX6_served 8 (some .int) ∈ lw_tbl := List.mem_of_getElem? (i := 527) (by decide +kernel)
set_option maxRecDepth 20000 in
theorem tw_528 : Cond.methodLink RX6 160 yX3_set ∈ lw_tbl := List.mem_of_getElem? (i := 528) (by decide +kernel)
set_option maxRecDepth 20000 in
theorem tw_529 : Cond.methodLink RX6 163 yX1_worthIn ∈ lw_tbl := List.mem_of_getElem? (i := 529) (by decide +kernel)
set_option maxRecDepth 20000 in
theorem tw_524 : Cond.methodLink RL 65 yX6_served ∈ lw_tbl := List.mem_of_getElem? (i := 524) (by decide +kernel)
set_option maxRecDepth 20000 in
theorem tw_525 : Cond.instanceMethod yX6_served ∈ lw_tbl := List.mem_of_getElem? (i := 525) (by decide +kernel)
set_option maxRecDepth 20000 in
theorem tw_526 : Cond.selects RX6 yX6_served yX6_served ∈ lw_tbl := List.mem_of_getElem? (i := 526) (by decide +kernel)
set_option maxRecDepth 20000 in
theorem tw_533 : Cond.code yX6_worst cX6_worst 5 (some .int) ∈ lw_tbl := List.mem_of_getElem? (i := 533) (by decide +kernel)
set_option maxRecDepth 20000 in
theorem tw_545 : Cond.constant RJ6 265 (1431655765) ∈ lw_tbl := List.mem_of_getElem? (i := 545) (by decide +kernel)
set_option maxRecDepth 20000 in
theorem tw_544 : Cond.code yJ6_bitCount_0f7a4 cJ6_bitCount_0f7a4 1 (some .int) ∈ lw_tbl := List.mem_of_getElem? (i := 544) (by decide +kernel)
set_option maxRecDepth 20000 in
theorem tw_59 : Cond.initialized RJ6 ∈ lw_tbl := List.mem_of_getElem? (i := 59) (by decide +kernel)
set_option maxRecDepth 20000 in
theorem tw_543 : Cond.static yJ6_bitCount_0f7a4 ∈ lw_tbl := List.mem_of_getElem? (i := 543) (by decide +kernel)
set_option maxRecDepth 20000 in
theorem tw_542 : Cond.methodLink RX1 104 yJ6_bitCount_0f7a4 ∈ lw_tbl := List.mem_of_getElem? (i := 542) (by decide +kernel)
set_option maxRecDepth 20000 in
theorem tw_541 : Cond.code yX1_isParted cX1_isParted 4 (some .boolean) ∈ lw_tbl := List.mem_of_getElem? (i := 541) (by decide +kernel)
set_option maxRecDepth 20000 in
theorem tw_6 : Cond.selects RX1 yX1_isParted yX1_isParted ∈ lw_tbl := List.mem_of_getElem? (i := 6) (by decide +kernel)
set_option maxRecDepth 20000 in
theorem tw_540 : Cond.instanceMethod yX1_isParted ∈ lw_tbl := List.mem_of_getElem? (i := 540) (by decide +kernel)
set_option maxRecDepth 20000 in
theorem tw_538 : Cond.methodLink RX1 97 yX1_isParted ∈ lw_tbl := List.mem_of_getElem? (i := 538) (by decide +kernel)
set_option maxRecDepth 20000 in
theorem tw_537 : Cond.code yX1_worstLie cX1_worstLie 4 (some .int) ∈ lw_tbl := List.mem_of_getElem? (i := 537) (by decide +kernel)
set_option maxRecDepth 20000 in
theorem tw_536 : Cond.selects RX1 yX1_worstLie yX1_worstLie ∈ lw_tbl := List.mem_of_getElem? (i := 536) (by decide +kernel)
set_option maxRecDepth 20000 in
theorem tw_535 : Cond.instanceMethod yX1_worstLie ∈ lw_tbl := List.mem_of_getElem? (i := 535) (by decide +kernel)
set_option maxRecDepth 20000 in
theorem tw_534 : Cond.methodLink RX6 166 yX1_worstLie ∈ lw_tbl := List.mem_of_getElem? (i := 534) (by decide +kernel)
set_option maxRecDepth 20000 in
theorem tw_550 : Cond.methodLink RX6 172 yX1_sumOf ∈ lw_tbl := List.mem_of_getElem? (i := 550) (by decide +kernel)
set_option maxRecDepth 20000 in
theorem tw_549 : Cond.methodLink RX6 169 yX1_thingIn ∈ lw_tbl := List.mem_of_getElem? (i := 549) (by decide +kernel)
set_option maxRecDepth 20000 in
theorem tw_548 : Cond.methodLink RX1 101 yX1_sumOf ∈ lw_tbl := List.mem_of_getElem? (i := 548) (by decide +kernel)
set_option maxRecDepth 20000 in
theorem tw_547 : Cond.constant RJ6 267 (252645135) ∈ lw_tbl := List.mem_of_getElem? (i := 547) (by decide +kernel)
set_option maxRecDepth 20000 in
theorem tw_546 : Cond.constant RJ6 266 (858993459) ∈ lw_tbl := List.mem_of_getElem? (i := 546) (by decide +kernel)
set_option maxRecDepth 20000 in
theorem tw_530 : Cond.methodLink RL 69 yX6_worst ∈ lw_tbl := List.mem_of_getElem? (i := 530) (by decide +kernel)
set_option maxRecDepth 20000 in
theorem tw_531 : Cond.instanceMethod yX6_worst ∈ lw_tbl := List.mem_of_getElem? (i := 531) (by decide +kernel)
set_option maxRecDepth 20000 in
theorem tw_532 : Cond.selects RX6 yX6_worst yX6_worst ∈ lw_tbl := List.mem_of_getElem? (i := 532) (by decide +kernel)
set_option maxRecDepth 20000 in
theorem tw_554 : Cond.code yX6_hear cX6_hear 5 (some .int) ∈ lw_tbl := List.mem_of_getElem? (i := 554) (by decide +kernel)
set_option maxRecDepth 20000 in
theorem tw_558 : Cond.code yX4_noteHeard cX4_noteHeard 5 none ∈ lw_tbl := List.mem_of_getElem? (i := 558) (by decide +kernel)
set_option maxRecDepth 20000 in
theorem tw_557 : Cond.selects RX4 yX4_noteHeard yX4_noteHeard ∈ lw_tbl := List.mem_of_getElem? (i := 557) (by decide +kernel)
set_option maxRecDepth 20000 in
theorem tw_556 : Cond.instanceMethod yX4_noteHeard ∈ lw_tbl := List.mem_of_getElem? (i := 556) (by decide +kernel)
set_option maxRecDepth 20000 in
theorem tw_555 : Cond.methodLink RX6 178 yX4_noteHeard ∈ lw_tbl := List.mem_of_getElem? (i := 555) (by decide +kernel)
set_option maxRecDepth 20000 in
theorem tw_551 : Cond.methodLink RL 73 yX6_hear ∈ lw_tbl := List.mem_of_getElem? (i := 551) (by decide +kernel)
set_option maxRecDepth 20000 in
theorem tw_552 : Cond.instanceMethod yX6_hear ∈ lw_tbl := List.mem_of_getElem? (i := 552) (by decide +kernel)
set_option maxRecDepth 20000 in
theorem tw_553 : Cond.selects RX6 yX6_hear yX6_hear ∈ lw_tbl := List.mem_of_getElem? (i := 553) (by decide +kernel)
set_option maxRecDepth 20000 in
theorem tw_562 : Cond.code yX6_forget cX6_forget 2 (some .int) ∈ lw_tbl := List.mem_of_getElem? (i := 562) (by decide +kernel)
set_option maxRecDepth 20000 in
theorem tw_559 : Cond.methodLink RL 78 yX6_forget ∈ lw_tbl := List.mem_of_getElem? (i := 559) (by decide +kernel)
set_option maxRecDepth 20000 in
theorem tw_560 : Cond.instanceMethod yX6_forget ∈ lw_tbl := List.mem_of_getElem? (i := 560) (by decide +kernel)
set_option maxRecDepth 20000 in
theorem tw_561 : Cond.selects RX6 yX6_forget yX6_forget ∈ lw_tbl := List.mem_of_getElem? (i := 561) (by decide +kernel)
set_option maxRecDepth 20000 in
theorem tw_566 : Cond.code yX6_truths cX6_truths 5 (some .int) ∈ lw_tbl := List.mem_of_getElem? (i := 566) (by decide +kernel)
set_option maxRecDepth 20000 in
theorem tw_570 : Cond.code yX1_wouldBeSo cX1_wouldBeSo 10 (some .boolean) ∈ lw_tbl := List.mem_of_getElem? (i := 570) (by decide +kernel)
set_option maxRecDepth 20000 in
theorem tw_569 : Cond.selects RX1 yX1_wouldBeSo yX1_wouldBeSo ∈ lw_tbl := List.mem_of_getElem? (i := 569) (by decide +kernel)
set_option maxRecDepth 20000 in
theorem tw_568 : Cond.instanceMethod yX1_wouldBeSo ∈ lw_tbl := List.mem_of_getElem? (i := 568) (by decide +kernel)
set_option maxRecDepth 20000 in
theorem tw_567 : Cond.methodLink RX6 182 yX1_wouldBeSo ∈ lw_tbl := List.mem_of_getElem? (i := 567) (by decide +kernel)
set_option maxRecDepth 20000 in
theorem tw_563 : Cond.methodLink RL 82 yX6_truths ∈ lw_tbl := List.mem_of_getElem? (i := 563) (by decide +kernel)
set_option maxRecDepth 20000 in
theorem tw_564 : Cond.instanceMethod yX6_truths ∈ lw_tbl := List.mem_of_getElem? (i := 564) (by decide +kernel)
set_option maxRecDepth 20000 in
theorem tw_565 : Cond.selects RX6 yX6_truths yX6_truths ∈ lw_tbl := List.mem_of_getElem? (i := 565) (by decide +kernel)
set_option maxRecDepth 20000 in
theorem tw_574 : Cond.code yX6_ask cX6_ask 8 (some .int) ∈ lw_tbl := List.mem_of_getElem? (i := 574) (by decide +kernel)
set_option maxRecDepth 20000 in
theorem tw_575 : Cond.methodLink RX6 186 yX6_truths ∈ lw_tbl := List.mem_of_getElem? (i := 575) (by decide +kernel)
set_option maxRecDepth 20000 in
theorem tw_579 : Cond.methodLink RX6 239 yJ6_bitCount_0f7a4 ∈ lw_tbl := List.mem_of_getElem? (i := 579) (by decide +kernel)
set_option maxRecDepth 20000 in
theorem tw_580 : Cond.methodLink RX6 244 Lib.Math.max.name ∈ lw_tbl := List.mem_of_getElem? (i := 580) (by decide +kernel)
set_option maxRecDepth 20000 in
theorem tw_578 : Cond.code yX6_leftAtWorst cX6_leftAtWorst 3 (some .int) ∈ lw_tbl := List.mem_of_getElem? (i := 578) (by decide +kernel)
set_option maxRecDepth 20000 in
theorem tw_577 : Cond.static yX6_leftAtWorst ∈ lw_tbl := List.mem_of_getElem? (i := 577) (by decide +kernel)
set_option maxRecDepth 20000 in
theorem tw_576 : Cond.methodLink RX6 189 yX6_leftAtWorst ∈ lw_tbl := List.mem_of_getElem? (i := 576) (by decide +kernel)
set_option maxRecDepth 20000 in
theorem tw_571 : Cond.methodLink RL 86 yX6_ask ∈ lw_tbl := List.mem_of_getElem? (i := 571) (by decide +kernel)
set_option maxRecDepth 20000 in
theorem tw_572 : Cond.instanceMethod yX6_ask ∈ lw_tbl := List.mem_of_getElem? (i := 572) (by decide +kernel)
set_option maxRecDepth 20000 in
theorem tw_573 : Cond.selects RX6 yX6_ask yX6_ask ∈ lw_tbl := List.mem_of_getElem? (i := 573) (by decide +kernel)
set_option maxRecDepth 20000 in
theorem tw_584 : Cond.code yX6_years cX6_years 10 (some .int) ∈ lw_tbl := List.mem_of_getElem? (i := 584) (by decide +kernel)
set_option maxRecDepth 20000 in
theorem tw_594 : Cond.constant RX6 255 (65536) ∈ lw_tbl := List.mem_of_getElem? (i := 594) (by decide +kernel)
set_option maxRecDepth 20000 in
theorem tw_593 : Cond.code yX6_drawn cX6_drawn 2 (some .int) ∈ lw_tbl := List.mem_of_getElem? (i := 593) (by decide +kernel)
set_option maxRecDepth 20000 in
theorem tw_592 : Cond.static yX6_drawn ∈ lw_tbl := List.mem_of_getElem? (i := 592) (by decide +kernel)
set_option maxRecDepth 20000 in
theorem tw_591 : Cond.methodLink RX6 195 yX6_drawn ∈ lw_tbl := List.mem_of_getElem? (i := 591) (by decide +kernel)
set_option maxRecDepth 20000 in
theorem tw_590 : Cond.constantLong RX6 253 (2147483647) ∈ lw_tbl := List.mem_of_getElem? (i := 590) (by decide +kernel)
set_option maxRecDepth 20000 in
theorem tw_589 : Cond.constantLong RX6 251 (12345) ∈ lw_tbl := List.mem_of_getElem? (i := 589) (by decide +kernel)
set_option maxRecDepth 20000 in
theorem tw_588 : Cond.constantLong RX6 249 (1103515245) ∈ lw_tbl := List.mem_of_getElem? (i := 588) (by decide +kernel)
set_option maxRecDepth 20000 in
theorem tw_587 : Cond.code yX6_nextSeed cX6_nextSeed 1 (some .int) ∈ lw_tbl := List.mem_of_getElem? (i := 587) (by decide +kernel)
set_option maxRecDepth 20000 in
theorem tw_586 : Cond.static yX6_nextSeed ∈ lw_tbl := List.mem_of_getElem? (i := 586) (by decide +kernel)
set_option maxRecDepth 20000 in
theorem tw_585 : Cond.methodLink RX6 192 yX6_nextSeed ∈ lw_tbl := List.mem_of_getElem? (i := 585) (by decide +kernel)
set_option maxRecDepth 20000 in
theorem tw_599 : Cond.methodLink RX1 93 yX1_isContent ∈ lw_tbl := List.mem_of_getElem? (i := 599) (by decide +kernel)
set_option maxRecDepth 20000 in
theorem tw_598 : Cond.code yX1_contentIn cX1_contentIn 4 (some .int) ∈ lw_tbl := List.mem_of_getElem? (i := 598) (by decide +kernel)
set_option maxRecDepth 20000 in
theorem tw_597 : Cond.selects RX1 yX1_contentIn yX1_contentIn ∈ lw_tbl := List.mem_of_getElem? (i := 597) (by decide +kernel)
set_option maxRecDepth 20000 in
theorem tw_596 : Cond.instanceMethod yX1_contentIn ∈ lw_tbl := List.mem_of_getElem? (i := 596) (by decide +kernel)
set_option maxRecDepth 20000 in
theorem tw_595 : Cond.methodLink RX6 198 yX1_contentIn ∈ lw_tbl := List.mem_of_getElem? (i := 595) (by decide +kernel)
set_option maxRecDepth 20000 in
theorem tw_581 : Cond.methodLink RL 90 yX6_years ∈ lw_tbl := List.mem_of_getElem? (i := 581) (by decide +kernel)
set_option maxRecDepth 20000 in
theorem tw_582 : Cond.instanceMethod yX6_years ∈ lw_tbl := List.mem_of_getElem? (i := 582) (by decide +kernel)
set_option maxRecDepth 20000 in
theorem tw_583 : Cond.selects RX6 yX6_years yX6_years ∈ lw_tbl := List.mem_of_getElem? (i := 583) (by decide +kernel)
set_option maxRecDepth 20000 in
theorem tw_603 : Cond.code yX6_image cX6_image 1 (some .int) ∈ lw_tbl := List.mem_of_getElem? (i := 603) (by decide +kernel)
set_option maxRecDepth 20000 in
theorem tw_611 : Cond.code yX5_takeFrom cX5_takeFrom 3 none ∈ lw_tbl := List.mem_of_getElem? (i := 611) (by decide +kernel)
set_option maxRecDepth 20000 in
theorem tw_610 : Cond.selects RX5 yX5_takeFrom yX5_takeFrom ∈ lw_tbl := List.mem_of_getElem? (i := 610) (by decide +kernel)
set_option maxRecDepth 20000 in
theorem tw_609 : Cond.instanceMethod yX5_takeFrom ∈ lw_tbl := List.mem_of_getElem? (i := 609) (by decide +kernel)
set_option maxRecDepth 20000 in
theorem tw_608 : Cond.methodLink RX4 54 yX5_takeFrom ∈ lw_tbl := List.mem_of_getElem? (i := 608) (by decide +kernel)
set_option maxRecDepth 20000 in
theorem tw_138 : Cond.fieldLink RX4 61 "HeirsInsulted$Standing" "lie" "I" ∈ lw_tbl := List.mem_of_getElem? (i := 138) (by decide +kernel)
set_option maxRecDepth 20000 in
theorem tw_607 : Cond.code yX4_takeFrom cX4_takeFrom 2 none ∈ lw_tbl := List.mem_of_getElem? (i := 607) (by decide +kernel)
set_option maxRecDepth 20000 in
theorem tw_606 : Cond.selects RX4 yX4_takeFrom yX4_takeFrom ∈ lw_tbl := List.mem_of_getElem? (i := 606) (by decide +kernel)
set_option maxRecDepth 20000 in
theorem tw_605 : Cond.instanceMethod yX4_takeFrom ∈ lw_tbl := List.mem_of_getElem? (i := 605) (by decide +kernel)
set_option maxRecDepth 20000 in
theorem tw_604 : Cond.methodLink RX6 201 yX4_takeFrom ∈ lw_tbl := List.mem_of_getElem? (i := 604) (by decide +kernel)
set_option maxRecDepth 20000 in
theorem tw_615 : Cond.code yX3_takeFrom cX3_takeFrom 3 none ∈ lw_tbl := List.mem_of_getElem? (i := 615) (by decide +kernel)
set_option maxRecDepth 20000 in
theorem tw_614 : Cond.selects RX3 yX3_takeFrom yX3_takeFrom ∈ lw_tbl := List.mem_of_getElem? (i := 614) (by decide +kernel)
set_option maxRecDepth 20000 in
theorem tw_613 : Cond.instanceMethod yX3_takeFrom ∈ lw_tbl := List.mem_of_getElem? (i := 613) (by decide +kernel)
set_option maxRecDepth 20000 in
theorem tw_612 : Cond.methodLink RX4 58 yX3_takeFrom ∈ lw_tbl := List.mem_of_getElem? (i := 612) (by decide +kernel)
set_option maxRecDepth 20000 in
theorem tw_600 : Cond.methodLink RL 94 yX6_image ∈ lw_tbl := List.mem_of_getElem? (i := 600) (by decide +kernel)
set_option maxRecDepth 20000 in
theorem tw_601 : Cond.instanceMethod yX6_image ∈ lw_tbl := List.mem_of_getElem? (i := 601) (by decide +kernel)
set_option maxRecDepth 20000 in
theorem tw_602 : Cond.selects RX6 yX6_image yX6_image ∈ lw_tbl := List.mem_of_getElem? (i := 602) (by decide +kernel)
set_option maxRecDepth 20000 in
theorem tw_619 : Cond.code yX6_restore cX6_restore 1 (some .int) ∈ lw_tbl := List.mem_of_getElem? (i := 619) (by decide +kernel)
set_option maxRecDepth 20000 in
theorem tw_616 : Cond.methodLink RL 98 yX6_restore ∈ lw_tbl := List.mem_of_getElem? (i := 616) (by decide +kernel)
set_option maxRecDepth 20000 in
theorem tw_617 : Cond.instanceMethod yX6_restore ∈ lw_tbl := List.mem_of_getElem? (i := 617) (by decide +kernel)
set_option maxRecDepth 20000 in
theorem tw_618 : Cond.selects RX6 yX6_restore yX6_restore ∈ lw_tbl := List.mem_of_getElem? (i := 618) (by decide +kernel)
set_option maxRecDepth 20000 in
theorem tw_623 : Cond.code yX6_count cX6_count 2 (some .int) ∈ lw_tbl := List.mem_of_getElem? (i := 623) (by decide +kernel)
set_option maxRecDepth 20000 in
theorem tw_620 : Cond.methodLink RL 102 yX6_count ∈ lw_tbl := List.mem_of_getElem? (i := 620) (by decide +kernel)
set_option maxRecDepth 20000 in
theorem tw_621 : Cond.instanceMethod yX6_count ∈ lw_tbl := List.mem_of_getElem? (i := 621) (by decide +kernel)
set_option maxRecDepth 20000 in
theorem tw_622 : Cond.selects RX6 yX6_count yX6_count ∈ lw_tbl := List.mem_of_getElem? (i := 622) (by decide +kernel)
set_option maxRecDepth 20000 in
theorem tw_627 : Cond.code yX6_digest cX6_digest 4 (some .long) ∈ lw_tbl := List.mem_of_getElem? (i := 627) (by decide +kernel)
set_option maxRecDepth 20000 in
theorem tw_629 : Cond.methodLink RX6 206 yX6_has ∈ lw_tbl := List.mem_of_getElem? (i := 629) (by decide +kernel)
set_option maxRecDepth 20000 in
theorem tw_628 : Cond.constantLong RX6 204 (907) ∈ lw_tbl := List.mem_of_getElem? (i := 628) (by decide +kernel)
set_option maxRecDepth 20000 in
theorem tw_634 : Cond.methodLink RX6 213 yX6_ends ∈ lw_tbl := List.mem_of_getElem? (i := 634) (by decide +kernel)
set_option maxRecDepth 20000 in
theorem tw_633 : Cond.constantLong RX6 228 (31) ∈ lw_tbl := List.mem_of_getElem? (i := 633) (by decide +kernel)
set_option maxRecDepth 20000 in
theorem tw_632 : Cond.code yX6_with cX6_with 3 (some .long) ∈ lw_tbl := List.mem_of_getElem? (i := 632) (by decide +kernel)
set_option maxRecDepth 20000 in
theorem tw_631 : Cond.static yX6_with ∈ lw_tbl := List.mem_of_getElem? (i := 631) (by decide +kernel)
set_option maxRecDepth 20000 in
theorem tw_630 : Cond.methodLink RX6 209 yX6_with ∈ lw_tbl := List.mem_of_getElem? (i := 630) (by decide +kernel)
set_option maxRecDepth 20000 in
theorem tw_635 : Cond.methodLink RX6 216 yX6_worst ∈ lw_tbl := List.mem_of_getElem? (i := 635) (by decide +kernel)
set_option maxRecDepth 20000 in
theorem tw_640 : Cond.methodLink RX6 230 yX6_about ∈ lw_tbl := List.mem_of_getElem? (i := 640) (by decide +kernel)
set_option maxRecDepth 20000 in
theorem tw_639 : Cond.code yX6_withHeir cX6_withHeir 7 (some .long) ∈ lw_tbl := List.mem_of_getElem? (i := 639) (by decide +kernel)
set_option maxRecDepth 20000 in
theorem tw_7 : Cond.selects RX6 yX6_withHeir yX6_withHeir ∈ lw_tbl := List.mem_of_getElem? (i := 7) (by decide +kernel)
set_option maxRecDepth 20000 in
theorem tw_638 : Cond.instanceMethod yX6_withHeir ∈ lw_tbl := List.mem_of_getElem? (i := 638) (by decide +kernel)
set_option maxRecDepth 20000 in
theorem tw_636 : Cond.methodLink RX6 219 yX6_withHeir ∈ lw_tbl := List.mem_of_getElem? (i := 636) (by decide +kernel)
set_option maxRecDepth 20000 in
theorem tw_641 : Cond.methodLink RX6 233 yX6_served ∈ lw_tbl := List.mem_of_getElem? (i := 641) (by decide +kernel)
set_option maxRecDepth 20000 in
theorem tw_643 : Cond.methodLink RX6 225 yX6_count ∈ lw_tbl := List.mem_of_getElem? (i := 643) (by decide +kernel)
set_option maxRecDepth 20000 in
theorem tw_642 : Cond.methodLink RX6 236 yX6_ask ∈ lw_tbl := List.mem_of_getElem? (i := 642) (by decide +kernel)
set_option maxRecDepth 20000 in
theorem tw_624 : Cond.methodLink RL 106 yX6_digest ∈ lw_tbl := List.mem_of_getElem? (i := 624) (by decide +kernel)
set_option maxRecDepth 20000 in
theorem tw_625 : Cond.instanceMethod yX6_digest ∈ lw_tbl := List.mem_of_getElem? (i := 625) (by decide +kernel)
set_option maxRecDepth 20000 in
theorem tw_626 : Cond.selects RX6 yX6_digest yX6_digest ∈ lw_tbl := List.mem_of_getElem? (i := 626) (by decide +kernel)
set_option maxRecDepth 20000 in
theorem tw_648 : Cond.code yX7_init cX7_init 1 none ∈ lw_tbl := List.mem_of_getElem? (i := 648) (by decide +kernel)
set_option maxRecDepth 20000 in
theorem tw_682 : Cond.fieldLink RX7 65 "HeirsInsultedModel" "keptTwo" "[I" ∈ lw_tbl := List.mem_of_getElem? (i := 682) (by decide +kernel)
set_option maxRecDepth 20000 in
theorem tw_681 : Cond.fieldLink RX7 62 "HeirsInsultedModel" "keptOne" "[I" ∈ lw_tbl := List.mem_of_getElem? (i := 681) (by decide +kernel)
set_option maxRecDepth 20000 in
theorem tw_680 : Cond.fieldLink RX7 59 "HeirsInsultedModel" "keptHeir" "[I" ∈ lw_tbl := List.mem_of_getElem? (i := 680) (by decide +kernel)
set_option maxRecDepth 20000 in
theorem tw_679 : Cond.fieldLink RX7 56 "HeirsInsultedModel" "keptChangesOf" "[I" ∈ lw_tbl := List.mem_of_getElem? (i := 679) (by decide +kernel)
set_option maxRecDepth 20000 in
theorem tw_678 : Cond.fieldLink RX7 53 "HeirsInsultedModel" "keptThing" "[I" ∈ lw_tbl := List.mem_of_getElem? (i := 678) (by decide +kernel)
set_option maxRecDepth 20000 in
theorem tw_677 : Cond.fieldLink RX7 50 "HeirsInsultedModel" "keptWorth" "[I" ∈ lw_tbl := List.mem_of_getElem? (i := 677) (by decide +kernel)
set_option maxRecDepth 20000 in
theorem tw_672 : Cond.fieldLink RX7 47 "HeirsInsultedModel" "saved" "[I" ∈ lw_tbl := List.mem_of_getElem? (i := 672) (by decide +kernel)
set_option maxRecDepth 20000 in
theorem tw_666 : Cond.fieldLink RX7 44 "HeirsInsultedModel" "farOf" "[I" ∈ lw_tbl := List.mem_of_getElem? (i := 666) (by decide +kernel)
set_option maxRecDepth 20000 in
theorem tw_665 : Cond.fieldLink RX7 41 "HeirsInsultedModel" "dealt" "[I" ∈ lw_tbl := List.mem_of_getElem? (i := 665) (by decide +kernel)
set_option maxRecDepth 20000 in
theorem tw_664 : Cond.fieldLink RX7 38 "HeirsInsultedModel" "says" "[I" ∈ lw_tbl := List.mem_of_getElem? (i := 664) (by decide +kernel)
set_option maxRecDepth 20000 in
theorem tw_663 : Cond.fieldLink RX7 34 "HeirsInsultedModel" "page" "[B" ∈ lw_tbl := List.mem_of_getElem? (i := 663) (by decide +kernel)
set_option maxRecDepth 20000 in
theorem tw_353 : Cond.arrayClass .byte ∈ lw_tbl := List.mem_of_getElem? (i := 353) (by decide +kernel)
set_option maxRecDepth 20000 in
theorem tw_661 : Cond.fieldLink RX7 31 "HeirsInsultedModel" "heardMore" "[I" ∈ lw_tbl := List.mem_of_getElem? (i := 661) (by decide +kernel)
set_option maxRecDepth 20000 in
theorem tw_660 : Cond.fieldLink RX7 28 "HeirsInsultedModel" "heardTwo" "[I" ∈ lw_tbl := List.mem_of_getElem? (i := 660) (by decide +kernel)
set_option maxRecDepth 20000 in
theorem tw_659 : Cond.fieldLink RX7 25 "HeirsInsultedModel" "heardOne" "[I" ∈ lw_tbl := List.mem_of_getElem? (i := 659) (by decide +kernel)
set_option maxRecDepth 20000 in
theorem tw_658 : Cond.fieldLink RX7 22 "HeirsInsultedModel" "heardHeir" "[I" ∈ lw_tbl := List.mem_of_getElem? (i := 658) (by decide +kernel)
set_option maxRecDepth 20000 in
theorem tw_655 : Cond.fieldLink RX7 19 "HeirsInsultedModel" "changesOf" "[I" ∈ lw_tbl := List.mem_of_getElem? (i := 655) (by decide +kernel)
set_option maxRecDepth 20000 in
theorem tw_654 : Cond.fieldLink RX7 16 "HeirsInsultedModel" "thingOf" "[I" ∈ lw_tbl := List.mem_of_getElem? (i := 654) (by decide +kernel)
set_option maxRecDepth 20000 in
theorem tw_653 : Cond.fieldLink RX7 13 "HeirsInsultedModel" "worthOf" "[I" ∈ lw_tbl := List.mem_of_getElem? (i := 653) (by decide +kernel)
set_option maxRecDepth 20000 in
theorem tw_652 : Cond.fieldLink RX7 7 "HeirsInsultedModel" "kindOf" "[I" ∈ lw_tbl := List.mem_of_getElem? (i := 652) (by decide +kernel)
set_option maxRecDepth 20000 in
theorem tw_649 : Cond.methodLink RX7 1 objectInit ∈ lw_tbl := List.mem_of_getElem? (i := 649) (by decide +kernel)
set_option maxRecDepth 20000 in
theorem tw_683 : Cond.fieldLink RX7 68 "HeirsInsultedModel" "keptMore" "[I" ∈ lw_tbl := List.mem_of_getElem? (i := 683) (by decide +kernel)
set_option maxRecDepth 20000 in
theorem tw_646 : Cond.methodLink RL 12 yX7_init ∈ lw_tbl := List.mem_of_getElem? (i := 646) (by decide +kernel)
set_option maxRecDepth 20000 in
theorem tw_759 : Cond.code yX7_letter cX7_letter 2 (some .int) ∈ lw_tbl := List.mem_of_getElem? (i := 759) (by decide +kernel)
set_option maxRecDepth 20000 in
theorem tw_762 : Cond.code yX7_within cX7_within 3 (some .boolean) ∈ lw_tbl := List.mem_of_getElem? (i := 762) (by decide +kernel)
set_option maxRecDepth 20000 in
theorem tw_53 : Cond.initialized RX7 ∈ lw_tbl := List.mem_of_getElem? (i := 53) (by decide +kernel)
set_option maxRecDepth 20000 in
theorem tw_761 : Cond.static yX7_within ∈ lw_tbl := List.mem_of_getElem? (i := 761) (by decide +kernel)
set_option maxRecDepth 20000 in
theorem tw_760 : Cond.methodLink RX7 71 yX7_within ∈ lw_tbl := List.mem_of_getElem? (i := 760) (by decide +kernel)
set_option maxRecDepth 20000 in
theorem tw_662 : Cond.fieldLink RX7 75 "HeirsInsultedModel" "pageLength" "I" ∈ lw_tbl := List.mem_of_getElem? (i := 662) (by decide +kernel)
set_option maxRecDepth 20000 in
theorem tw_756 : Cond.methodLink RL 17 yX7_letter ∈ lw_tbl := List.mem_of_getElem? (i := 756) (by decide +kernel)
set_option maxRecDepth 20000 in
theorem tw_757 : Cond.instanceMethod yX7_letter ∈ lw_tbl := List.mem_of_getElem? (i := 757) (by decide +kernel)
set_option maxRecDepth 20000 in
theorem tw_758 : Cond.selects RX7 yX7_letter yX7_letter ∈ lw_tbl := List.mem_of_getElem? (i := 758) (by decide +kernel)
set_option maxRecDepth 20000 in
theorem tw_766 : Cond.code yX7_blank cX7_blank 2 (some .int) ∈ lw_tbl := List.mem_of_getElem? (i := 766) (by decide +kernel)
set_option maxRecDepth 20000 in
theorem tw_763 : Cond.methodLink RL 22 yX7_blank ∈ lw_tbl := List.mem_of_getElem? (i := 763) (by decide +kernel)
set_option maxRecDepth 20000 in
theorem tw_764 : Cond.instanceMethod yX7_blank ∈ lw_tbl := List.mem_of_getElem? (i := 764) (by decide +kernel)
set_option maxRecDepth 20000 in
theorem tw_765 : Cond.selects RX7 yX7_blank yX7_blank ∈ lw_tbl := List.mem_of_getElem? (i := 765) (by decide +kernel)
set_option maxRecDepth 20000 in
theorem tw_770 : Cond.code yX7_fault cX7_fault 1 (some .int) ∈ lw_tbl := List.mem_of_getElem? (i := 770) (by decide +kernel)
set_option maxRecDepth 20000 in
theorem tw_781 : Cond.code yX7_kindBy cX7_kindBy 1 (some .int) ∈ lw_tbl := List.mem_of_getElem? (i := 781) (by decide +kernel)
set_option maxRecDepth 20000 in
theorem tw_780 : Cond.static yX7_kindBy ∈ lw_tbl := List.mem_of_getElem? (i := 780) (by decide +kernel)
set_option maxRecDepth 20000 in
theorem tw_779 : Cond.methodLink RX7 79 yX7_kindBy ∈ lw_tbl := List.mem_of_getElem? (i := 779) (by decide +kernel)
set_option maxRecDepth 20000 in
theorem tw_778 : Cond.code yX7_isGood cX7_isGood 4 (some .boolean) ∈ lw_tbl := List.mem_of_getElem? (i := 778) (by decide +kernel)
set_option maxRecDepth 20000 in
theorem tw_9 : Cond.selects RX7 yX7_isGood yX7_isGood ∈ lw_tbl := List.mem_of_getElem? (i := 9) (by decide +kernel)
set_option maxRecDepth 20000 in
theorem tw_777 : Cond.instanceMethod yX7_isGood ∈ lw_tbl := List.mem_of_getElem? (i := 777) (by decide +kernel)
set_option maxRecDepth 20000 in
theorem tw_775 : Cond.methodLink RX7 83 yX7_isGood ∈ lw_tbl := List.mem_of_getElem? (i := 775) (by decide +kernel)
set_option maxRecDepth 20000 in
theorem tw_774 : Cond.code yX7_faultNow cX7_faultNow 2 (some .int) ∈ lw_tbl := List.mem_of_getElem? (i := 774) (by decide +kernel)
set_option maxRecDepth 20000 in
theorem tw_8 : Cond.selects RX7 yX7_faultNow yX7_faultNow ∈ lw_tbl := List.mem_of_getElem? (i := 8) (by decide +kernel)
set_option maxRecDepth 20000 in
theorem tw_773 : Cond.instanceMethod yX7_faultNow ∈ lw_tbl := List.mem_of_getElem? (i := 773) (by decide +kernel)
set_option maxRecDepth 20000 in
theorem tw_771 : Cond.methodLink RX7 87 yX7_faultNow ∈ lw_tbl := List.mem_of_getElem? (i := 771) (by decide +kernel)
set_option maxRecDepth 20000 in
theorem tw_767 : Cond.methodLink RL 26 yX7_fault ∈ lw_tbl := List.mem_of_getElem? (i := 767) (by decide +kernel)
set_option maxRecDepth 20000 in
theorem tw_768 : Cond.instanceMethod yX7_fault ∈ lw_tbl := List.mem_of_getElem? (i := 768) (by decide +kernel)
set_option maxRecDepth 20000 in
theorem tw_769 : Cond.selects RX7 yX7_fault yX7_fault ∈ lw_tbl := List.mem_of_getElem? (i := 769) (by decide +kernel)
set_option maxRecDepth 20000 in
theorem tw_785 : Cond.code yX7_will cX7_will 4 (some .int) ∈ lw_tbl := List.mem_of_getElem? (i := 785) (by decide +kernel)
set_option maxRecDepth 20000 in
theorem tw_657 : Cond.fieldLink RX7 100 "HeirsInsultedModel" "heard" "I" ∈ lw_tbl := List.mem_of_getElem? (i := 657) (by decide +kernel)
set_option maxRecDepth 20000 in
theorem tw_656 : Cond.fieldLink RX7 97 "HeirsInsultedModel" "changes" "I" ∈ lw_tbl := List.mem_of_getElem? (i := 656) (by decide +kernel)
set_option maxRecDepth 20000 in
theorem tw_650 : Cond.fieldLink RX7 94 "HeirsInsultedModel" "wills" "I" ∈ lw_tbl := List.mem_of_getElem? (i := 650) (by decide +kernel)
set_option maxRecDepth 20000 in
theorem tw_651 : Cond.fieldLink RX7 91 "HeirsInsultedModel" "heirs" "I" ∈ lw_tbl := List.mem_of_getElem? (i := 651) (by decide +kernel)
set_option maxRecDepth 20000 in
theorem tw_804 : Cond.code yX7_isIn cX7_isIn 2 (some .boolean) ∈ lw_tbl := List.mem_of_getElem? (i := 804) (by decide +kernel)
set_option maxRecDepth 20000 in
theorem tw_803 : Cond.static yX7_isIn ∈ lw_tbl := List.mem_of_getElem? (i := 803) (by decide +kernel)
set_option maxRecDepth 20000 in
theorem tw_802 : Cond.methodLink RX7 113 yX7_isIn ∈ lw_tbl := List.mem_of_getElem? (i := 802) (by decide +kernel)
set_option maxRecDepth 20000 in
theorem tw_801 : Cond.code yX7_saysBy cX7_saysBy 4 (some .int) ∈ lw_tbl := List.mem_of_getElem? (i := 801) (by decide +kernel)
set_option maxRecDepth 20000 in
theorem tw_13 : Cond.selects RX7 yX7_saysBy yX7_saysBy ∈ lw_tbl := List.mem_of_getElem? (i := 13) (by decide +kernel)
set_option maxRecDepth 20000 in
theorem tw_800 : Cond.instanceMethod yX7_saysBy ∈ lw_tbl := List.mem_of_getElem? (i := 800) (by decide +kernel)
set_option maxRecDepth 20000 in
theorem tw_798 : Cond.methodLink RX7 106 yX7_saysBy ∈ lw_tbl := List.mem_of_getElem? (i := 798) (by decide +kernel)
set_option maxRecDepth 20000 in
theorem tw_797 : Cond.code yX7_laySays cX7_laySays 3 none ∈ lw_tbl := List.mem_of_getElem? (i := 797) (by decide +kernel)
set_option maxRecDepth 20000 in
theorem tw_12 : Cond.selects RX7 yX7_laySays yX7_laySays ∈ lw_tbl := List.mem_of_getElem? (i := 12) (by decide +kernel)
set_option maxRecDepth 20000 in
theorem tw_796 : Cond.instanceMethod yX7_laySays ∈ lw_tbl := List.mem_of_getElem? (i := 796) (by decide +kernel)
set_option maxRecDepth 20000 in
theorem tw_794 : Cond.methodLink RX7 110 yX7_laySays ∈ lw_tbl := List.mem_of_getElem? (i := 794) (by decide +kernel)
set_option maxRecDepth 20000 in
theorem tw_793 : Cond.code yX7_layDeal cX7_layDeal 6 none ∈ lw_tbl := List.mem_of_getElem? (i := 793) (by decide +kernel)
set_option maxRecDepth 20000 in
theorem tw_11 : Cond.selects RX7 yX7_layDeal yX7_layDeal ∈ lw_tbl := List.mem_of_getElem? (i := 11) (by decide +kernel)
set_option maxRecDepth 20000 in
theorem tw_792 : Cond.instanceMethod yX7_layDeal ∈ lw_tbl := List.mem_of_getElem? (i := 792) (by decide +kernel)
set_option maxRecDepth 20000 in
theorem tw_790 : Cond.methodLink RX7 117 yX7_layDeal ∈ lw_tbl := List.mem_of_getElem? (i := 790) (by decide +kernel)
set_option maxRecDepth 20000 in
theorem tw_789 : Cond.code yX7_dealNow cX7_dealNow 3 (some .int) ∈ lw_tbl := List.mem_of_getElem? (i := 789) (by decide +kernel)
set_option maxRecDepth 20000 in
theorem tw_10 : Cond.selects RX7 yX7_dealNow yX7_dealNow ∈ lw_tbl := List.mem_of_getElem? (i := 10) (by decide +kernel)
set_option maxRecDepth 20000 in
theorem tw_788 : Cond.instanceMethod yX7_dealNow ∈ lw_tbl := List.mem_of_getElem? (i := 788) (by decide +kernel)
set_option maxRecDepth 20000 in
theorem tw_786 : Cond.methodLink RX7 103 yX7_dealNow ∈ lw_tbl := List.mem_of_getElem? (i := 786) (by decide +kernel)
set_option maxRecDepth 20000 in
theorem tw_782 : Cond.methodLink RL 30 yX7_will ∈ lw_tbl := List.mem_of_getElem? (i := 782) (by decide +kernel)
set_option maxRecDepth 20000 in
theorem tw_783 : Cond.instanceMethod yX7_will ∈ lw_tbl := List.mem_of_getElem? (i := 783) (by decide +kernel)
set_option maxRecDepth 20000 in
theorem tw_784 : Cond.selects RX7 yX7_will yX7_will ∈ lw_tbl := List.mem_of_getElem? (i := 784) (by decide +kernel)
set_option maxRecDepth 20000 in
theorem tw_808 : Cond.code yX7_about cX7_about 4 (some .int) ∈ lw_tbl := List.mem_of_getElem? (i := 808) (by decide +kernel)
set_option maxRecDepth 20000 in
theorem tw_820 : Cond.code yX7_saysNow cX7_saysNow 3 (some .int) ∈ lw_tbl := List.mem_of_getElem? (i := 820) (by decide +kernel)
set_option maxRecDepth 20000 in
theorem tw_16 : Cond.selects RX7 yX7_saysNow yX7_saysNow ∈ lw_tbl := List.mem_of_getElem? (i := 16) (by decide +kernel)
set_option maxRecDepth 20000 in
theorem tw_819 : Cond.instanceMethod yX7_saysNow ∈ lw_tbl := List.mem_of_getElem? (i := 819) (by decide +kernel)
set_option maxRecDepth 20000 in
theorem tw_817 : Cond.methodLink RX7 120 yX7_saysNow ∈ lw_tbl := List.mem_of_getElem? (i := 817) (by decide +kernel)
set_option maxRecDepth 20000 in
theorem tw_816 : Cond.code yX7_heirNow cX7_heirNow 3 (some .int) ∈ lw_tbl := List.mem_of_getElem? (i := 816) (by decide +kernel)
set_option maxRecDepth 20000 in
theorem tw_15 : Cond.selects RX7 yX7_heirNow yX7_heirNow ∈ lw_tbl := List.mem_of_getElem? (i := 15) (by decide +kernel)
set_option maxRecDepth 20000 in
theorem tw_815 : Cond.instanceMethod yX7_heirNow ∈ lw_tbl := List.mem_of_getElem? (i := 815) (by decide +kernel)
set_option maxRecDepth 20000 in
theorem tw_813 : Cond.methodLink RX7 129 yX7_heirNow ∈ lw_tbl := List.mem_of_getElem? (i := 813) (by decide +kernel)
set_option maxRecDepth 20000 in
theorem tw_812 : Cond.code yX7_isHeir cX7_isHeir 2 (some .boolean) ∈ lw_tbl := List.mem_of_getElem? (i := 812) (by decide +kernel)
set_option maxRecDepth 20000 in
theorem tw_14 : Cond.selects RX7 yX7_isHeir yX7_isHeir ∈ lw_tbl := List.mem_of_getElem? (i := 14) (by decide +kernel)
set_option maxRecDepth 20000 in
theorem tw_811 : Cond.instanceMethod yX7_isHeir ∈ lw_tbl := List.mem_of_getElem? (i := 811) (by decide +kernel)
set_option maxRecDepth 20000 in
theorem tw_809 : Cond.methodLink RX7 126 yX7_isHeir ∈ lw_tbl := List.mem_of_getElem? (i := 809) (by decide +kernel)
set_option maxRecDepth 20000 in
theorem tw_824 : Cond.code yX7_isContent cX7_isContent 2 (some .boolean) ∈ lw_tbl := List.mem_of_getElem? (i := 824) (by decide +kernel)
set_option maxRecDepth 20000 in
theorem tw_17 : Cond.selects RX7 yX7_isContent yX7_isContent ∈ lw_tbl := List.mem_of_getElem? (i := 17) (by decide +kernel)
set_option maxRecDepth 20000 in
theorem tw_823 : Cond.instanceMethod yX7_isContent ∈ lw_tbl := List.mem_of_getElem? (i := 823) (by decide +kernel)
set_option maxRecDepth 20000 in
theorem tw_821 : Cond.methodLink RX7 123 yX7_isContent ∈ lw_tbl := List.mem_of_getElem? (i := 821) (by decide +kernel)
set_option maxRecDepth 20000 in
theorem tw_805 : Cond.methodLink RL 35 yX7_about ∈ lw_tbl := List.mem_of_getElem? (i := 805) (by decide +kernel)
set_option maxRecDepth 20000 in
theorem tw_806 : Cond.instanceMethod yX7_about ∈ lw_tbl := List.mem_of_getElem? (i := 806) (by decide +kernel)
set_option maxRecDepth 20000 in
theorem tw_807 : Cond.selects RX7 yX7_about yX7_about ∈ lw_tbl := List.mem_of_getElem? (i := 807) (by decide +kernel)
set_option maxRecDepth 20000 in
theorem tw_828 : Cond.code yX7_as cX7_as 4 (some .int) ∈ lw_tbl := List.mem_of_getElem? (i := 828) (by decide +kernel)
set_option maxRecDepth 20000 in
theorem tw_825 : Cond.methodLink RL 39 yX7_as ∈ lw_tbl := List.mem_of_getElem? (i := 825) (by decide +kernel)
set_option maxRecDepth 20000 in
theorem tw_826 : Cond.instanceMethod yX7_as ∈ lw_tbl := List.mem_of_getElem? (i := 826) (by decide +kernel)
set_option maxRecDepth 20000 in
theorem tw_827 : Cond.selects RX7 yX7_as yX7_as ∈ lw_tbl := List.mem_of_getElem? (i := 827) (by decide +kernel)
set_option maxRecDepth 20000 in
theorem tw_832 : Cond.code yX7_has cX7_has 2 (some .int) ∈ lw_tbl := List.mem_of_getElem? (i := 832) (by decide +kernel)
set_option maxRecDepth 20000 in
theorem tw_840 : Cond.code yX7_whoHas cX7_whoHas 4 (some .int) ∈ lw_tbl := List.mem_of_getElem? (i := 840) (by decide +kernel)
set_option maxRecDepth 20000 in
theorem tw_19 : Cond.selects RX7 yX7_whoHas yX7_whoHas ∈ lw_tbl := List.mem_of_getElem? (i := 19) (by decide +kernel)
set_option maxRecDepth 20000 in
theorem tw_839 : Cond.instanceMethod yX7_whoHas ∈ lw_tbl := List.mem_of_getElem? (i := 839) (by decide +kernel)
set_option maxRecDepth 20000 in
theorem tw_837 : Cond.methodLink RX7 135 yX7_whoHas ∈ lw_tbl := List.mem_of_getElem? (i := 837) (by decide +kernel)
set_option maxRecDepth 20000 in
theorem tw_836 : Cond.code yX7_isThing cX7_isThing 2 (some .boolean) ∈ lw_tbl := List.mem_of_getElem? (i := 836) (by decide +kernel)
set_option maxRecDepth 20000 in
theorem tw_18 : Cond.selects RX7 yX7_isThing yX7_isThing ∈ lw_tbl := List.mem_of_getElem? (i := 18) (by decide +kernel)
set_option maxRecDepth 20000 in
theorem tw_835 : Cond.instanceMethod yX7_isThing ∈ lw_tbl := List.mem_of_getElem? (i := 835) (by decide +kernel)
set_option maxRecDepth 20000 in
theorem tw_833 : Cond.methodLink RX7 132 yX7_isThing ∈ lw_tbl := List.mem_of_getElem? (i := 833) (by decide +kernel)
set_option maxRecDepth 20000 in
theorem tw_829 : Cond.methodLink RL 43 yX7_has ∈ lw_tbl := List.mem_of_getElem? (i := 829) (by decide +kernel)
set_option maxRecDepth 20000 in
theorem tw_830 : Cond.instanceMethod yX7_has ∈ lw_tbl := List.mem_of_getElem? (i := 830) (by decide +kernel)
set_option maxRecDepth 20000 in
theorem tw_831 : Cond.selects RX7 yX7_has yX7_has ∈ lw_tbl := List.mem_of_getElem? (i := 831) (by decide +kernel)
set_option maxRecDepth 20000 in
theorem tw_844 : Cond.code yX7_worth cX7_worth 5 (some .int) ∈ lw_tbl := List.mem_of_getElem? (i := 844) (by decide +kernel)
set_option maxRecDepth 20000 in
theorem tw_841 : Cond.methodLink RL 48 yX7_worth ∈ lw_tbl := List.mem_of_getElem? (i := 841) (by decide +kernel)
set_option maxRecDepth 20000 in
theorem tw_842 : Cond.instanceMethod yX7_worth ∈ lw_tbl := List.mem_of_getElem? (i := 842) (by decide +kernel)
set_option maxRecDepth 20000 in
theorem tw_843 : Cond.selects RX7 yX7_worth yX7_worth ∈ lw_tbl := List.mem_of_getElem? (i := 843) (by decide +kernel)
set_option maxRecDepth 20000 in
theorem tw_848 : Cond.code yX7_deal cX7_deal 1 (some .int) ∈ lw_tbl := List.mem_of_getElem? (i := 848) (by decide +kernel)
set_option maxRecDepth 20000 in
theorem tw_845 : Cond.methodLink RL 52 yX7_deal ∈ lw_tbl := List.mem_of_getElem? (i := 845) (by decide +kernel)
set_option maxRecDepth 20000 in
theorem tw_846 : Cond.instanceMethod yX7_deal ∈ lw_tbl := List.mem_of_getElem? (i := 846) (by decide +kernel)
set_option maxRecDepth 20000 in
theorem tw_847 : Cond.selects RX7 yX7_deal yX7_deal ∈ lw_tbl := List.mem_of_getElem? (i := 847) (by decide +kernel)
set_option maxRecDepth 20000 in
theorem tw_852 : Cond.code yX7_may cX7_may 3 (some .int) ∈ lw_tbl := List.mem_of_getElem? (i := 852) (by decide +kernel)
set_option maxRecDepth 20000 in
theorem tw_860 : Cond.code yX7_mayNow cX7_mayNow 4 (some .int) ∈ lw_tbl := List.mem_of_getElem? (i := 860) (by decide +kernel)
set_option maxRecDepth 20000 in
theorem tw_21 : Cond.selects RX7 yX7_mayNow yX7_mayNow ∈ lw_tbl := List.mem_of_getElem? (i := 21) (by decide +kernel)
set_option maxRecDepth 20000 in
theorem tw_859 : Cond.instanceMethod yX7_mayNow ∈ lw_tbl := List.mem_of_getElem? (i := 859) (by decide +kernel)
set_option maxRecDepth 20000 in
theorem tw_857 : Cond.methodLink RX7 148 yX7_mayNow ∈ lw_tbl := List.mem_of_getElem? (i := 857) (by decide +kernel)
set_option maxRecDepth 20000 in
theorem tw_856 : Cond.code yX7_areTwo cX7_areTwo 3 (some .boolean) ∈ lw_tbl := List.mem_of_getElem? (i := 856) (by decide +kernel)
set_option maxRecDepth 20000 in
theorem tw_20 : Cond.selects RX7 yX7_areTwo yX7_areTwo ∈ lw_tbl := List.mem_of_getElem? (i := 20) (by decide +kernel)
set_option maxRecDepth 20000 in
theorem tw_855 : Cond.instanceMethod yX7_areTwo ∈ lw_tbl := List.mem_of_getElem? (i := 855) (by decide +kernel)
set_option maxRecDepth 20000 in
theorem tw_853 : Cond.methodLink RX7 145 yX7_areTwo ∈ lw_tbl := List.mem_of_getElem? (i := 853) (by decide +kernel)
set_option maxRecDepth 20000 in
theorem tw_868 : Cond.code yX7_isWished cX7_isWished 5 (some .boolean) ∈ lw_tbl := List.mem_of_getElem? (i := 868) (by decide +kernel)
set_option maxRecDepth 20000 in
theorem tw_23 : Cond.selects RX7 yX7_isWished yX7_isWished ∈ lw_tbl := List.mem_of_getElem? (i := 23) (by decide +kernel)
set_option maxRecDepth 20000 in
theorem tw_867 : Cond.instanceMethod yX7_isWished ∈ lw_tbl := List.mem_of_getElem? (i := 867) (by decide +kernel)
set_option maxRecDepth 20000 in
theorem tw_865 : Cond.methodLink RX7 142 yX7_isWished ∈ lw_tbl := List.mem_of_getElem? (i := 865) (by decide +kernel)
set_option maxRecDepth 20000 in
theorem tw_864 : Cond.code yX7_isAllowed cX7_isAllowed 5 (some .boolean) ∈ lw_tbl := List.mem_of_getElem? (i := 864) (by decide +kernel)
set_option maxRecDepth 20000 in
theorem tw_22 : Cond.selects RX7 yX7_isAllowed yX7_isAllowed ∈ lw_tbl := List.mem_of_getElem? (i := 22) (by decide +kernel)
set_option maxRecDepth 20000 in
theorem tw_863 : Cond.instanceMethod yX7_isAllowed ∈ lw_tbl := List.mem_of_getElem? (i := 863) (by decide +kernel)
set_option maxRecDepth 20000 in
theorem tw_861 : Cond.methodLink RX7 138 yX7_isAllowed ∈ lw_tbl := List.mem_of_getElem? (i := 861) (by decide +kernel)
set_option maxRecDepth 20000 in
theorem tw_849 : Cond.methodLink RL 56 yX7_may ∈ lw_tbl := List.mem_of_getElem? (i := 849) (by decide +kernel)
set_option maxRecDepth 20000 in
theorem tw_850 : Cond.instanceMethod yX7_may ∈ lw_tbl := List.mem_of_getElem? (i := 850) (by decide +kernel)
set_option maxRecDepth 20000 in
theorem tw_851 : Cond.selects RX7 yX7_may yX7_may ∈ lw_tbl := List.mem_of_getElem? (i := 851) (by decide +kernel)
set_option maxRecDepth 20000 in
theorem tw_872 : Cond.code yX7_change cX7_change 4 (some .int) ∈ lw_tbl := List.mem_of_getElem? (i := 872) (by decide +kernel)
set_option maxRecDepth 20000 in
theorem tw_869 : Cond.methodLink RL 60 yX7_change ∈ lw_tbl := List.mem_of_getElem? (i := 869) (by decide +kernel)
set_option maxRecDepth 20000 in
theorem tw_870 : Cond.instanceMethod yX7_change ∈ lw_tbl := List.mem_of_getElem? (i := 870) (by decide +kernel)
set_option maxRecDepth 20000 in
theorem tw_871 : Cond.selects RX7 yX7_change yX7_change ∈ lw_tbl := List.mem_of_getElem? (i := 871) (by decide +kernel)
set_option maxRecDepth 20000 in
theorem tw_876 : Cond.code yX7_ends cX7_ends 2 (some .int) ∈ lw_tbl := List.mem_of_getElem? (i := 876) (by decide +kernel)
set_option maxRecDepth 20000 in
theorem tw_889 : Cond.constant RX7 163 (268435456) ∈ lw_tbl := List.mem_of_getElem? (i := 889) (by decide +kernel)
set_option maxRecDepth 20000 in
theorem tw_884 : Cond.code yX7_layEnds cX7_layEnds 4 none ∈ lw_tbl := List.mem_of_getElem? (i := 884) (by decide +kernel)
set_option maxRecDepth 20000 in
theorem tw_25 : Cond.selects RX7 yX7_layEnds yX7_layEnds ∈ lw_tbl := List.mem_of_getElem? (i := 25) (by decide +kernel)
set_option maxRecDepth 20000 in
theorem tw_883 : Cond.instanceMethod yX7_layEnds ∈ lw_tbl := List.mem_of_getElem? (i := 883) (by decide +kernel)
set_option maxRecDepth 20000 in
theorem tw_881 : Cond.methodLink RX7 176 yX7_layEnds ∈ lw_tbl := List.mem_of_getElem? (i := 881) (by decide +kernel)
set_option maxRecDepth 20000 in
theorem tw_670 : Cond.fieldLink RX7 167 "HeirsInsultedModel" "endFew" "I" ∈ lw_tbl := List.mem_of_getElem? (i := 670) (by decide +kernel)
set_option maxRecDepth 20000 in
theorem tw_669 : Cond.fieldLink RX7 164 "HeirsInsultedModel" "endLeast" "I" ∈ lw_tbl := List.mem_of_getElem? (i := 669) (by decide +kernel)
set_option maxRecDepth 20000 in
theorem tw_668 : Cond.fieldLink RX7 160 "HeirsInsultedModel" "endMost" "I" ∈ lw_tbl := List.mem_of_getElem? (i := 668) (by decide +kernel)
set_option maxRecDepth 20000 in
theorem tw_667 : Cond.fieldLink RX7 157 "HeirsInsultedModel" "endMany" "I" ∈ lw_tbl := List.mem_of_getElem? (i := 667) (by decide +kernel)
set_option maxRecDepth 20000 in
theorem tw_880 : Cond.code yX7_endsNow cX7_endsNow 2 (some .int) ∈ lw_tbl := List.mem_of_getElem? (i := 880) (by decide +kernel)
set_option maxRecDepth 20000 in
theorem tw_24 : Cond.selects RX7 yX7_endsNow yX7_endsNow ∈ lw_tbl := List.mem_of_getElem? (i := 24) (by decide +kernel)
set_option maxRecDepth 20000 in
theorem tw_879 : Cond.instanceMethod yX7_endsNow ∈ lw_tbl := List.mem_of_getElem? (i := 879) (by decide +kernel)
set_option maxRecDepth 20000 in
theorem tw_877 : Cond.methodLink RX7 179 yX7_endsNow ∈ lw_tbl := List.mem_of_getElem? (i := 877) (by decide +kernel)
set_option maxRecDepth 20000 in
theorem tw_896 : Cond.code yX7_figure cX7_figure 2 (some .int) ∈ lw_tbl := List.mem_of_getElem? (i := 896) (by decide +kernel)
set_option maxRecDepth 20000 in
theorem tw_895 : Cond.static yX7_figure ∈ lw_tbl := List.mem_of_getElem? (i := 895) (by decide +kernel)
set_option maxRecDepth 20000 in
theorem tw_894 : Cond.methodLink RX7 151 yX7_figure ∈ lw_tbl := List.mem_of_getElem? (i := 894) (by decide +kernel)
set_option maxRecDepth 20000 in
theorem tw_893 : Cond.code yX7_goChanges cX7_goChanges 10 (some .int) ∈ lw_tbl := List.mem_of_getElem? (i := 893) (by decide +kernel)
set_option maxRecDepth 20000 in
theorem tw_27 : Cond.selects RX7 yX7_goChanges yX7_goChanges ∈ lw_tbl := List.mem_of_getElem? (i := 27) (by decide +kernel)
set_option maxRecDepth 20000 in
theorem tw_892 : Cond.instanceMethod yX7_goChanges ∈ lw_tbl := List.mem_of_getElem? (i := 892) (by decide +kernel)
set_option maxRecDepth 20000 in
theorem tw_890 : Cond.methodLink RX7 170 yX7_goChanges ∈ lw_tbl := List.mem_of_getElem? (i := 890) (by decide +kernel)
set_option maxRecDepth 20000 in
theorem tw_888 : Cond.code yX7_wayNow cX7_wayNow 3 (some .int) ∈ lw_tbl := List.mem_of_getElem? (i := 888) (by decide +kernel)
set_option maxRecDepth 20000 in
theorem tw_26 : Cond.selects RX7 yX7_wayNow yX7_wayNow ∈ lw_tbl := List.mem_of_getElem? (i := 26) (by decide +kernel)
set_option maxRecDepth 20000 in
theorem tw_887 : Cond.instanceMethod yX7_wayNow ∈ lw_tbl := List.mem_of_getElem? (i := 887) (by decide +kernel)
set_option maxRecDepth 20000 in
theorem tw_885 : Cond.methodLink RX7 154 yX7_wayNow ∈ lw_tbl := List.mem_of_getElem? (i := 885) (by decide +kernel)
set_option maxRecDepth 20000 in
theorem tw_900 : Cond.code yX7_sumBy cX7_sumBy 4 (some .int) ∈ lw_tbl := List.mem_of_getElem? (i := 900) (by decide +kernel)
set_option maxRecDepth 20000 in
theorem tw_28 : Cond.selects RX7 yX7_sumBy yX7_sumBy ∈ lw_tbl := List.mem_of_getElem? (i := 28) (by decide +kernel)
set_option maxRecDepth 20000 in
theorem tw_899 : Cond.instanceMethod yX7_sumBy ∈ lw_tbl := List.mem_of_getElem? (i := 899) (by decide +kernel)
set_option maxRecDepth 20000 in
theorem tw_897 : Cond.methodLink RX7 173 yX7_sumBy ∈ lw_tbl := List.mem_of_getElem? (i := 897) (by decide +kernel)
set_option maxRecDepth 20000 in
theorem tw_873 : Cond.methodLink RL 64 yX7_ends ∈ lw_tbl := List.mem_of_getElem? (i := 873) (by decide +kernel)
set_option maxRecDepth 20000 in
theorem tw_874 : Cond.instanceMethod yX7_ends ∈ lw_tbl := List.mem_of_getElem? (i := 874) (by decide +kernel)
set_option maxRecDepth 20000 in
theorem tw_875 : Cond.selects RX7 yX7_ends yX7_ends ∈ lw_tbl := List.mem_of_getElem? (i := 875) (by decide +kernel)
set_option maxRecDepth 20000 in
theorem tw_904 : Cond.code yX7_served cX7_served 3 (some .int) ∈ lw_tbl := List.mem_of_getElem? (i := 904) (by decide +kernel)
set_option maxRecDepth 20000 in
theorem tw_908 : Cond.code yX7_servedNow cX7_servedNow 8 (some .int) ∈ lw_tbl := List.mem_of_getElem? (i := 908) (by decide +kernel)
set_option maxRecDepth 20000 in
theorem tw_29 : Cond.selects RX7 yX7_servedNow yX7_servedNow ∈ lw_tbl := List.mem_of_getElem? (i := 29) (by decide +kernel)
set_option maxRecDepth 20000 in
theorem tw_907 : Cond.instanceMethod yX7_servedNow ∈ lw_tbl := List.mem_of_getElem? (i := 907) (by decide +kernel)
set_option maxRecDepth 20000 in
theorem tw_905 : Cond.methodLink RX7 182 yX7_servedNow ∈ lw_tbl := List.mem_of_getElem? (i := 905) (by decide +kernel)
set_option maxRecDepth 20000 in
theorem tw_901 : Cond.methodLink RL 68 yX7_served ∈ lw_tbl := List.mem_of_getElem? (i := 901) (by decide +kernel)
set_option maxRecDepth 20000 in
theorem tw_902 : Cond.instanceMethod yX7_served ∈ lw_tbl := List.mem_of_getElem? (i := 902) (by decide +kernel)
set_option maxRecDepth 20000 in
theorem tw_903 : Cond.selects RX7 yX7_served yX7_served ∈ lw_tbl := List.mem_of_getElem? (i := 903) (by decide +kernel)
set_option maxRecDepth 20000 in
theorem tw_912 : Cond.code yX7_worst cX7_worst 2 (some .int) ∈ lw_tbl := List.mem_of_getElem? (i := 912) (by decide +kernel)
set_option maxRecDepth 20000 in
theorem tw_924 : Cond.code yX7_thingBy cX7_thingBy 3 (some .int) ∈ lw_tbl := List.mem_of_getElem? (i := 924) (by decide +kernel)
set_option maxRecDepth 20000 in
theorem tw_32 : Cond.selects RX7 yX7_thingBy yX7_thingBy ∈ lw_tbl := List.mem_of_getElem? (i := 32) (by decide +kernel)
set_option maxRecDepth 20000 in
theorem tw_923 : Cond.instanceMethod yX7_thingBy ∈ lw_tbl := List.mem_of_getElem? (i := 923) (by decide +kernel)
set_option maxRecDepth 20000 in
theorem tw_921 : Cond.methodLink RX7 185 yX7_thingBy ∈ lw_tbl := List.mem_of_getElem? (i := 921) (by decide +kernel)
set_option maxRecDepth 20000 in
theorem tw_920 : Cond.code yX7_worstBy cX7_worstBy 6 (some .int) ∈ lw_tbl := List.mem_of_getElem? (i := 920) (by decide +kernel)
set_option maxRecDepth 20000 in
theorem tw_31 : Cond.selects RX7 yX7_worstBy yX7_worstBy ∈ lw_tbl := List.mem_of_getElem? (i := 31) (by decide +kernel)
set_option maxRecDepth 20000 in
theorem tw_919 : Cond.instanceMethod yX7_worstBy ∈ lw_tbl := List.mem_of_getElem? (i := 919) (by decide +kernel)
set_option maxRecDepth 20000 in
theorem tw_917 : Cond.methodLink RX7 188 yX7_worstBy ∈ lw_tbl := List.mem_of_getElem? (i := 917) (by decide +kernel)
set_option maxRecDepth 20000 in
theorem tw_916 : Cond.code yX7_worstNow cX7_worstNow 6 (some .int) ∈ lw_tbl := List.mem_of_getElem? (i := 916) (by decide +kernel)
set_option maxRecDepth 20000 in
theorem tw_30 : Cond.selects RX7 yX7_worstNow yX7_worstNow ∈ lw_tbl := List.mem_of_getElem? (i := 30) (by decide +kernel)
set_option maxRecDepth 20000 in
theorem tw_915 : Cond.instanceMethod yX7_worstNow ∈ lw_tbl := List.mem_of_getElem? (i := 915) (by decide +kernel)
set_option maxRecDepth 20000 in
theorem tw_913 : Cond.methodLink RX7 191 yX7_worstNow ∈ lw_tbl := List.mem_of_getElem? (i := 913) (by decide +kernel)
set_option maxRecDepth 20000 in
theorem tw_909 : Cond.methodLink RL 72 yX7_worst ∈ lw_tbl := List.mem_of_getElem? (i := 909) (by decide +kernel)
set_option maxRecDepth 20000 in
theorem tw_910 : Cond.instanceMethod yX7_worst ∈ lw_tbl := List.mem_of_getElem? (i := 910) (by decide +kernel)
set_option maxRecDepth 20000 in
theorem tw_911 : Cond.selects RX7 yX7_worst yX7_worst ∈ lw_tbl := List.mem_of_getElem? (i := 911) (by decide +kernel)
set_option maxRecDepth 20000 in
theorem tw_928 : Cond.code yX7_hear cX7_hear 5 (some .int) ∈ lw_tbl := List.mem_of_getElem? (i := 928) (by decide +kernel)
set_option maxRecDepth 20000 in
theorem tw_925 : Cond.methodLink RL 77 yX7_hear ∈ lw_tbl := List.mem_of_getElem? (i := 925) (by decide +kernel)
set_option maxRecDepth 20000 in
theorem tw_926 : Cond.instanceMethod yX7_hear ∈ lw_tbl := List.mem_of_getElem? (i := 926) (by decide +kernel)
set_option maxRecDepth 20000 in
theorem tw_927 : Cond.selects RX7 yX7_hear yX7_hear ∈ lw_tbl := List.mem_of_getElem? (i := 927) (by decide +kernel)
set_option maxRecDepth 20000 in
theorem tw_932 : Cond.code yX7_forget cX7_forget 2 (some .int) ∈ lw_tbl := List.mem_of_getElem? (i := 932) (by decide +kernel)
set_option maxRecDepth 20000 in
theorem tw_929 : Cond.methodLink RL 81 yX7_forget ∈ lw_tbl := List.mem_of_getElem? (i := 929) (by decide +kernel)
set_option maxRecDepth 20000 in
theorem tw_930 : Cond.instanceMethod yX7_forget ∈ lw_tbl := List.mem_of_getElem? (i := 930) (by decide +kernel)
set_option maxRecDepth 20000 in
theorem tw_931 : Cond.selects RX7 yX7_forget yX7_forget ∈ lw_tbl := List.mem_of_getElem? (i := 931) (by decide +kernel)
set_option maxRecDepth 20000 in
theorem tw_936 : Cond.code yX7_truths cX7_truths 3 (some .int) ∈ lw_tbl := List.mem_of_getElem? (i := 936) (by decide +kernel)
set_option maxRecDepth 20000 in
theorem tw_944 : Cond.code yX7_couldBe cX7_couldBe 7 (some .boolean) ∈ lw_tbl := List.mem_of_getElem? (i := 944) (by decide +kernel)
set_option maxRecDepth 20000 in
theorem tw_34 : Cond.selects RX7 yX7_couldBe yX7_couldBe ∈ lw_tbl := List.mem_of_getElem? (i := 34) (by decide +kernel)
set_option maxRecDepth 20000 in
theorem tw_943 : Cond.instanceMethod yX7_couldBe ∈ lw_tbl := List.mem_of_getElem? (i := 943) (by decide +kernel)
set_option maxRecDepth 20000 in
theorem tw_941 : Cond.methodLink RX7 198 yX7_couldBe ∈ lw_tbl := List.mem_of_getElem? (i := 941) (by decide +kernel)
set_option maxRecDepth 20000 in
theorem tw_940 : Cond.code yX7_truthsNow cX7_truthsNow 5 (some .int) ∈ lw_tbl := List.mem_of_getElem? (i := 940) (by decide +kernel)
set_option maxRecDepth 20000 in
theorem tw_33 : Cond.selects RX7 yX7_truthsNow yX7_truthsNow ∈ lw_tbl := List.mem_of_getElem? (i := 33) (by decide +kernel)
set_option maxRecDepth 20000 in
theorem tw_939 : Cond.instanceMethod yX7_truthsNow ∈ lw_tbl := List.mem_of_getElem? (i := 939) (by decide +kernel)
set_option maxRecDepth 20000 in
theorem tw_937 : Cond.methodLink RX7 201 yX7_truthsNow ∈ lw_tbl := List.mem_of_getElem? (i := 937) (by decide +kernel)
set_option maxRecDepth 20000 in
theorem tw_948 : Cond.code yX7_worthIf cX7_worthIf 5 (some .int) ∈ lw_tbl := List.mem_of_getElem? (i := 948) (by decide +kernel)
set_option maxRecDepth 20000 in
theorem tw_35 : Cond.selects RX7 yX7_worthIf yX7_worthIf ∈ lw_tbl := List.mem_of_getElem? (i := 35) (by decide +kernel)
set_option maxRecDepth 20000 in
theorem tw_947 : Cond.instanceMethod yX7_worthIf ∈ lw_tbl := List.mem_of_getElem? (i := 947) (by decide +kernel)
set_option maxRecDepth 20000 in
theorem tw_945 : Cond.methodLink RX7 194 yX7_worthIf ∈ lw_tbl := List.mem_of_getElem? (i := 945) (by decide +kernel)
set_option maxRecDepth 20000 in
theorem tw_933 : Cond.methodLink RL 85 yX7_truths ∈ lw_tbl := List.mem_of_getElem? (i := 933) (by decide +kernel)
set_option maxRecDepth 20000 in
theorem tw_934 : Cond.instanceMethod yX7_truths ∈ lw_tbl := List.mem_of_getElem? (i := 934) (by decide +kernel)
set_option maxRecDepth 20000 in
theorem tw_935 : Cond.selects RX7 yX7_truths yX7_truths ∈ lw_tbl := List.mem_of_getElem? (i := 935) (by decide +kernel)
set_option maxRecDepth 20000 in
theorem tw_952 : Cond.code yX7_ask cX7_ask 3 (some .int) ∈ lw_tbl := List.mem_of_getElem? (i := 952) (by decide +kernel)
set_option maxRecDepth 20000 in
theorem tw_956 : Cond.code yX7_askNow cX7_askNow 11 (some .int) ∈ lw_tbl := List.mem_of_getElem? (i := 956) (by decide +kernel)
set_option maxRecDepth 20000 in
theorem tw_36 : Cond.selects RX7 yX7_askNow yX7_askNow ∈ lw_tbl := List.mem_of_getElem? (i := 36) (by decide +kernel)
set_option maxRecDepth 20000 in
theorem tw_955 : Cond.instanceMethod yX7_askNow ∈ lw_tbl := List.mem_of_getElem? (i := 955) (by decide +kernel)
set_option maxRecDepth 20000 in
theorem tw_953 : Cond.methodLink RX7 204 yX7_askNow ∈ lw_tbl := List.mem_of_getElem? (i := 953) (by decide +kernel)
set_option maxRecDepth 20000 in
theorem tw_949 : Cond.methodLink RL 89 yX7_ask ∈ lw_tbl := List.mem_of_getElem? (i := 949) (by decide +kernel)
set_option maxRecDepth 20000 in
theorem tw_950 : Cond.instanceMethod yX7_ask ∈ lw_tbl := List.mem_of_getElem? (i := 950) (by decide +kernel)
set_option maxRecDepth 20000 in
theorem tw_951 : Cond.selects RX7 yX7_ask yX7_ask ∈ lw_tbl := List.mem_of_getElem? (i := 951) (by decide +kernel)
set_option maxRecDepth 20000 in
theorem tw_960 : Cond.code yX7_years cX7_years 4 (some .int) ∈ lw_tbl := List.mem_of_getElem? (i := 960) (by decide +kernel)
set_option maxRecDepth 20000 in
theorem tw_972 : Cond.constantLong RX7 217 (65536) ∈ lw_tbl := List.mem_of_getElem? (i := 972) (by decide +kernel)
set_option maxRecDepth 20000 in
theorem tw_971 : Cond.constantLong RX7 215 (2147483647) ∈ lw_tbl := List.mem_of_getElem? (i := 971) (by decide +kernel)
set_option maxRecDepth 20000 in
theorem tw_970 : Cond.constantLong RX7 213 (12345) ∈ lw_tbl := List.mem_of_getElem? (i := 970) (by decide +kernel)
set_option maxRecDepth 20000 in
theorem tw_969 : Cond.constantLong RX7 207 (1103515245) ∈ lw_tbl := List.mem_of_getElem? (i := 969) (by decide +kernel)
set_option maxRecDepth 20000 in
theorem tw_968 : Cond.code yX7_draw cX7_draw 2 (some .int) ∈ lw_tbl := List.mem_of_getElem? (i := 968) (by decide +kernel)
set_option maxRecDepth 20000 in
theorem tw_38 : Cond.selects RX7 yX7_draw yX7_draw ∈ lw_tbl := List.mem_of_getElem? (i := 38) (by decide +kernel)
set_option maxRecDepth 20000 in
theorem tw_967 : Cond.instanceMethod yX7_draw ∈ lw_tbl := List.mem_of_getElem? (i := 967) (by decide +kernel)
set_option maxRecDepth 20000 in
theorem tw_965 : Cond.methodLink RX7 219 yX7_draw ∈ lw_tbl := List.mem_of_getElem? (i := 965) (by decide +kernel)
set_option maxRecDepth 20000 in
theorem tw_671 : Cond.fieldLink RX7 209 "HeirsInsultedModel" "seedNow" "J" ∈ lw_tbl := List.mem_of_getElem? (i := 671) (by decide +kernel)
set_option maxRecDepth 20000 in
theorem tw_964 : Cond.code yX7_yearsNow cX7_yearsNow 9 (some .int) ∈ lw_tbl := List.mem_of_getElem? (i := 964) (by decide +kernel)
set_option maxRecDepth 20000 in
theorem tw_37 : Cond.selects RX7 yX7_yearsNow yX7_yearsNow ∈ lw_tbl := List.mem_of_getElem? (i := 37) (by decide +kernel)
set_option maxRecDepth 20000 in
theorem tw_963 : Cond.instanceMethod yX7_yearsNow ∈ lw_tbl := List.mem_of_getElem? (i := 963) (by decide +kernel)
set_option maxRecDepth 20000 in
theorem tw_961 : Cond.methodLink RX7 225 yX7_yearsNow ∈ lw_tbl := List.mem_of_getElem? (i := 961) (by decide +kernel)
set_option maxRecDepth 20000 in
theorem tw_976 : Cond.code yX7_contentMany cX7_contentMany 3 (some .int) ∈ lw_tbl := List.mem_of_getElem? (i := 976) (by decide +kernel)
set_option maxRecDepth 20000 in
theorem tw_39 : Cond.selects RX7 yX7_contentMany yX7_contentMany ∈ lw_tbl := List.mem_of_getElem? (i := 39) (by decide +kernel)
set_option maxRecDepth 20000 in
theorem tw_975 : Cond.instanceMethod yX7_contentMany ∈ lw_tbl := List.mem_of_getElem? (i := 975) (by decide +kernel)
set_option maxRecDepth 20000 in
theorem tw_973 : Cond.methodLink RX7 222 yX7_contentMany ∈ lw_tbl := List.mem_of_getElem? (i := 973) (by decide +kernel)
set_option maxRecDepth 20000 in
theorem tw_957 : Cond.methodLink RL 93 yX7_years ∈ lw_tbl := List.mem_of_getElem? (i := 957) (by decide +kernel)
set_option maxRecDepth 20000 in
theorem tw_958 : Cond.instanceMethod yX7_years ∈ lw_tbl := List.mem_of_getElem? (i := 958) (by decide +kernel)
set_option maxRecDepth 20000 in
theorem tw_959 : Cond.selects RX7 yX7_years yX7_years ∈ lw_tbl := List.mem_of_getElem? (i := 959) (by decide +kernel)
set_option maxRecDepth 20000 in
theorem tw_980 : Cond.code yX7_image cX7_image 2 (some .int) ∈ lw_tbl := List.mem_of_getElem? (i := 980) (by decide +kernel)
set_option maxRecDepth 20000 in
theorem tw_676 : Cond.fieldLink RX7 239 "HeirsInsultedModel" "keptHeard" "I" ∈ lw_tbl := List.mem_of_getElem? (i := 676) (by decide +kernel)
set_option maxRecDepth 20000 in
theorem tw_675 : Cond.fieldLink RX7 236 "HeirsInsultedModel" "keptChanges" "I" ∈ lw_tbl := List.mem_of_getElem? (i := 675) (by decide +kernel)
set_option maxRecDepth 20000 in
theorem tw_674 : Cond.fieldLink RX7 233 "HeirsInsultedModel" "keptWill" "I" ∈ lw_tbl := List.mem_of_getElem? (i := 674) (by decide +kernel)
set_option maxRecDepth 20000 in
theorem tw_673 : Cond.fieldLink RX7 229 "HeirsInsultedModel" "isKept" "Z" ∈ lw_tbl := List.mem_of_getElem? (i := 673) (by decide +kernel)
set_option maxRecDepth 20000 in
theorem tw_977 : Cond.methodLink RL 97 yX7_image ∈ lw_tbl := List.mem_of_getElem? (i := 977) (by decide +kernel)
set_option maxRecDepth 20000 in
theorem tw_978 : Cond.instanceMethod yX7_image ∈ lw_tbl := List.mem_of_getElem? (i := 978) (by decide +kernel)
set_option maxRecDepth 20000 in
theorem tw_979 : Cond.selects RX7 yX7_image yX7_image ∈ lw_tbl := List.mem_of_getElem? (i := 979) (by decide +kernel)
set_option maxRecDepth 20000 in
theorem tw_984 : Cond.code yX7_restore cX7_restore 2 (some .int) ∈ lw_tbl := List.mem_of_getElem? (i := 984) (by decide +kernel)
set_option maxRecDepth 20000 in
theorem tw_981 : Cond.methodLink RL 101 yX7_restore ∈ lw_tbl := List.mem_of_getElem? (i := 981) (by decide +kernel)
set_option maxRecDepth 20000 in
theorem tw_982 : Cond.instanceMethod yX7_restore ∈ lw_tbl := List.mem_of_getElem? (i := 982) (by decide +kernel)
set_option maxRecDepth 20000 in
theorem tw_983 : Cond.selects RX7 yX7_restore yX7_restore ∈ lw_tbl := List.mem_of_getElem? (i := 983) (by decide +kernel)
set_option maxRecDepth 20000 in
theorem tw_988 : Cond.code yX7_count cX7_count 2 (some .int) ∈ lw_tbl := List.mem_of_getElem? (i := 988) (by decide +kernel)
set_option maxRecDepth 20000 in
theorem tw_992 : Cond.code yX7_howMany cX7_howMany 2 (some .int) ∈ lw_tbl := List.mem_of_getElem? (i := 992) (by decide +kernel)
set_option maxRecDepth 20000 in
theorem tw_40 : Cond.selects RX7 yX7_howMany yX7_howMany ∈ lw_tbl := List.mem_of_getElem? (i := 40) (by decide +kernel)
set_option maxRecDepth 20000 in
theorem tw_991 : Cond.instanceMethod yX7_howMany ∈ lw_tbl := List.mem_of_getElem? (i := 991) (by decide +kernel)
set_option maxRecDepth 20000 in
theorem tw_989 : Cond.methodLink RX7 242 yX7_howMany ∈ lw_tbl := List.mem_of_getElem? (i := 989) (by decide +kernel)
set_option maxRecDepth 20000 in
theorem tw_985 : Cond.methodLink RL 105 yX7_count ∈ lw_tbl := List.mem_of_getElem? (i := 985) (by decide +kernel)
set_option maxRecDepth 20000 in
theorem tw_986 : Cond.instanceMethod yX7_count ∈ lw_tbl := List.mem_of_getElem? (i := 986) (by decide +kernel)
set_option maxRecDepth 20000 in
theorem tw_987 : Cond.selects RX7 yX7_count yX7_count ∈ lw_tbl := List.mem_of_getElem? (i := 987) (by decide +kernel)
set_option maxRecDepth 20000 in
theorem tw_996 : Cond.code yX7_digest cX7_digest 2 (some .long) ∈ lw_tbl := List.mem_of_getElem? (i := 996) (by decide +kernel)
set_option maxRecDepth 20000 in
theorem tw_1006 : Cond.constantLong RX7 245 (31) ∈ lw_tbl := List.mem_of_getElem? (i := 1006) (by decide +kernel)
set_option maxRecDepth 20000 in
theorem tw_1005 : Cond.code yX7_mix cX7_mix 3 none ∈ lw_tbl := List.mem_of_getElem? (i := 1005) (by decide +kernel)
set_option maxRecDepth 20000 in
theorem tw_42 : Cond.selects RX7 yX7_mix yX7_mix ∈ lw_tbl := List.mem_of_getElem? (i := 42) (by decide +kernel)
set_option maxRecDepth 20000 in
theorem tw_1004 : Cond.instanceMethod yX7_mix ∈ lw_tbl := List.mem_of_getElem? (i := 1004) (by decide +kernel)
set_option maxRecDepth 20000 in
theorem tw_1002 : Cond.methodLink RX7 250 yX7_mix ∈ lw_tbl := List.mem_of_getElem? (i := 1002) (by decide +kernel)
set_option maxRecDepth 20000 in
theorem tw_1001 : Cond.code yX7_mixWill cX7_mixWill 2 none ∈ lw_tbl := List.mem_of_getElem? (i := 1001) (by decide +kernel)
set_option maxRecDepth 20000 in
theorem tw_41 : Cond.selects RX7 yX7_mixWill yX7_mixWill ∈ lw_tbl := List.mem_of_getElem? (i := 41) (by decide +kernel)
set_option maxRecDepth 20000 in
theorem tw_1000 : Cond.instanceMethod yX7_mixWill ∈ lw_tbl := List.mem_of_getElem? (i := 1000) (by decide +kernel)
set_option maxRecDepth 20000 in
theorem tw_998 : Cond.methodLink RX7 256 yX7_mixWill ∈ lw_tbl := List.mem_of_getElem? (i := 998) (by decide +kernel)
set_option maxRecDepth 20000 in
theorem tw_684 : Cond.fieldLink RX7 247 "HeirsInsultedModel" "h" "J" ∈ lw_tbl := List.mem_of_getElem? (i := 684) (by decide +kernel)
set_option maxRecDepth 20000 in
theorem tw_997 : Cond.constantLong RX7 254 (907) ∈ lw_tbl := List.mem_of_getElem? (i := 997) (by decide +kernel)
set_option maxRecDepth 20000 in
theorem tw_1010 : Cond.code yX7_mixHeir cX7_mixHeir 3 none ∈ lw_tbl := List.mem_of_getElem? (i := 1010) (by decide +kernel)
set_option maxRecDepth 20000 in
theorem tw_43 : Cond.selects RX7 yX7_mixHeir yX7_mixHeir ∈ lw_tbl := List.mem_of_getElem? (i := 43) (by decide +kernel)
set_option maxRecDepth 20000 in
theorem tw_1009 : Cond.instanceMethod yX7_mixHeir ∈ lw_tbl := List.mem_of_getElem? (i := 1009) (by decide +kernel)
set_option maxRecDepth 20000 in
theorem tw_1007 : Cond.methodLink RX7 259 yX7_mixHeir ∈ lw_tbl := List.mem_of_getElem? (i := 1007) (by decide +kernel)
set_option maxRecDepth 20000 in
theorem tw_993 : Cond.methodLink RL 110 yX7_digest ∈ lw_tbl := List.mem_of_getElem? (i := 993) (by decide +kernel)
set_option maxRecDepth 20000 in
theorem tw_994 : Cond.instanceMethod yX7_digest ∈ lw_tbl := List.mem_of_getElem? (i := 994) (by decide +kernel)
set_option maxRecDepth 20000 in
theorem tw_995 : Cond.selects RX7 yX7_digest yX7_digest ∈ lw_tbl := List.mem_of_getElem? (i := 995) (by decide +kernel)
set_option maxRecDepth 20000 in
theorem tw_60 : Cond.classLink RL 7 RX6 ∈ lw_tbl := List.mem_of_getElem? (i := 60) (by decide +kernel)
set_option maxRecDepth 20000 in
theorem tw_644 : Cond.classLink RL 10 RX7 ∈ lw_tbl := List.mem_of_getElem? (i := 644) (by decide +kernel)
set_option maxRecDepth 20000 in
theorem tw_61 : Cond.instantiable RX6 6 ∈ lw_tbl := List.mem_of_getElem? (i := 61) (by decide +kernel)
set_option maxRecDepth 20000 in
theorem tw_645 : Cond.instantiable RX7 35 ∈ lw_tbl := List.mem_of_getElem? (i := 645) (by decide +kernel)
set_option maxRecDepth 20000 in
theorem tw_63 : Cond.instanceMethod yX6_init ∈ lw_tbl := List.mem_of_getElem? (i := 63) (by decide +kernel)
set_option maxRecDepth 20000 in
theorem tw_647 : Cond.instanceMethod yX7_init ∈ lw_tbl := List.mem_of_getElem? (i := 647) (by decide +kernel)
set_option maxRecDepth 20000 in
theorem tw_268 : Cond.stringRef RX2 43 "hspla" ∈ lw_tbl := List.mem_of_getElem? (i := 268) (by decide +kernel)
set_option maxRecDepth 20000 in
theorem ml_wsX6_init_r1 : ∀ w ∈ wsX6_init_r1, w ∈ lw_tbl := (mcons tw_65 (mcons tw_66 (mcons tw_67 (mcons tw_68 (mcons tw_69 (mcons tw_46 (mcons tw_215 (mcons tw_97 (mcons tw_98 (mcons tw_49 (mcons tw_216 (mcons tw_179 (mcons tw_180 (mcons tw_52 (mcons tw_217 (mcons tw_213 (mcons tw_106 (mcons tw_50 (mcons tw_218 (mcons tw_219 (mcons tw_220 (mcons tw_71 (mcons tw_72 (mcons tw_73 mnil))))))))))))))))))))))))
set_option maxRecDepth 20000 in
theorem ml_wsX6_init_r2 : ∀ w ∈ wsX6_init_r2, w ∈ lw_tbl := (mcons tw_74 (mcons tw_75 (mcons tw_47 (mcons tw_88 (mcons tw_76 (mcons tw_77 (mcons tw_78 (mcons tw_79 (mcons tw_80 (mcons tw_81 (mcons tw_48 (mcons tw_82 (mcons tw_87 (mcons tw_83 (mcons tw_100 (mcons tw_101 (mcons tw_102 (mcons tw_103 (mcons tw_164 (mcons tw_105 (mcons tw_166 (mcons tw_104 (mcons tw_108 (mcons tw_109 mnil))))))))))))))))))))))))
set_option maxRecDepth 20000 in
theorem ml_wsX6_init_r3 : ∀ w ∈ wsX6_init_r3, w ∈ lw_tbl := (mcons tw_110 (mcons tw_111 (mcons tw_112 (mcons tw_51 (mcons tw_123 (mcons tw_121 (mcons tw_126 (mcons tw_128 (mcons tw_130 (mcons tw_132 (mcons tw_134 (mcons tw_114 (mcons tw_115 (mcons tw_116 (mcons tw_117 (mcons tw_122 (mcons tw_182 (mcons tw_183 (mcons tw_184 (mcons tw_185 (mcons tw_187 (mcons tw_188 (mcons tw_186 mnil)))))))))))))))))))))))
set_option maxRecDepth 20000 in
theorem ml_wsX20 : ∀ w ∈ wsX20, w ∈ lw_tbl := memr [92, 94] (by decide +kernel)
set_option maxRecDepth 20000 in
theorem ml_wsX60 : ∀ w ∈ wsX60, w ∈ lw_tbl := memr [221, 223, 225, 227, 229, 231] (by decide +kernel)
set_option maxRecDepth 20000 in
theorem ml_wsX10 : ∀ w ∈ wsX10, w ∈ lw_tbl := memr [172, 174, 176] (by decide +kernel)
set_option maxRecDepth 20000 in
theorem ml_wsX00 : ∀ w ∈ wsX00, w ∈ lw_tbl := memr [198, 200, 202, 204, 206, 208, 210] (by decide +kernel)
set_option maxRecDepth 20000 in
theorem ml_wsX40 : ∀ w ∈ wsX40, w ∈ lw_tbl := memr [145, 147, 149, 151, 153, 155, 157, 159, 161] (by decide +kernel)
set_option maxRecDepth 20000 in
theorem ml_wsX30 : ∀ w ∈ wsX30, w ∈ lw_tbl := memr [84] (by decide +kernel)
set_option maxRecDepth 20000 in
theorem ml_wsX50 : ∀ w ∈ wsX50, w ∈ lw_tbl := memr [118] (by decide +kernel)
set_option maxRecDepth 20000 in
theorem ml_wsX6_init : ∀ w ∈ wsX6_init, w ∈ lw_tbl := (mcons tw_64 (memapp (memapp (memapp (memapp (memapp (memapp (memapp (memapp ml_wsX6_init_r1 (memapp ml_wsX6_init_r2 ml_wsX6_init_r3)) ml_wsX20) ml_wsX60) ml_wsX10) ml_wsX00) ml_wsX40) ml_wsX30) ml_wsX50))
set_option maxRecDepth 20000 in
theorem ml_wsX6_letter : ∀ w ∈ wsX6_letter, w ∈ lw_tbl := (mcons tw_237 (memapp (memapp (memapp (mcons tw_215 (mcons tw_238 (mcons tw_239 (mcons tw_240 (mcons tw_46 (mcons tw_241 (mcons tw_88 (mcons tw_90 (mcons tw_242 (mcons tw_243 (mcons tw_244 (mcons tw_47 (mcons tw_245 (mcons tw_83 mnil)))))))))))))) ml_wsX60) ml_wsX20) ml_wsX30))
set_option maxRecDepth 20000 in
theorem ml_wsX6_blank : ∀ w ∈ wsX6_blank, w ∈ lw_tbl := (mcons tw_249 (memapp (memapp (mcons tw_215 mnil) ml_wsX60) ml_wsX20))
set_option maxRecDepth 20000 in
theorem ml_wsX6_fault_r1 : ∀ w ∈ wsX6_fault_r1, w ∈ lw_tbl := (mcons tw_215 (mcons tw_254 (mcons tw_255 (mcons tw_256 (mcons tw_46 (mcons tw_257 (mcons tw_90 (mcons tw_88 (mcons tw_258 (mcons tw_259 (mcons tw_260 (mcons tw_47 (mcons tw_261 (mcons tw_83 (mcons tw_262 (mcons tw_263 (mcons tw_264 (mcons tw_265 (mcons tw_266 (mcons tw_267 (mcons tw_269 (mcons tw_270 (mcons tw_271 (mcons tw_54 mnil))))))))))))))))))))))))
set_option maxRecDepth 20000 in
theorem ml_wsX6_fault_r2 : ∀ w ∈ wsX6_fault_r2, w ∈ lw_tbl := (mcons tw_272 (mcons tw_273 (mcons tw_274 (mcons tw_275 (mcons tw_276 (mcons tw_1012 (mcons tw_277 (mcons tw_278 (mcons tw_279 (mcons tw_280 (mcons tw_281 (mcons tw_1011 (mcons tw_283 (mcons tw_284 (mcons tw_285 (mcons tw_286 (mcons tw_287 (mcons tw_288 (mcons tw_289 (mcons tw_290 (mcons tw_291 (mcons tw_292 (mcons tw_55 (mcons tw_293 mnil))))))))))))))))))))))))
set_option maxRecDepth 20000 in
theorem ml_wsX6_fault_r3 : ∀ w ∈ wsX6_fault_r3, w ∈ lw_tbl := (mcons tw_297 (mcons tw_81 (mcons tw_48 (mcons tw_82 (mcons tw_298 (mcons tw_299 (mcons tw_300 (mcons tw_294 (mcons tw_295 (mcons tw_296 (mcons tw_301 (mcons tw_302 (mcons tw_303 (mcons tw_304 (mcons tw_305 (mcons tw_56 (mcons tw_306 (mcons tw_307 (mcons tw_308 (mcons tw_309 (mcons tw_310 (mcons tw_311 (mcons tw_312 (mcons tw_313 mnil))))))))))))))))))))))))
set_option maxRecDepth 20000 in
theorem ml_wsX6_fault_r4 : ∀ w ∈ wsX6_fault_r4, w ∈ lw_tbl := (mcons tw_314 (mcons tw_315 (mcons tw_316 (mcons tw_317 (mcons tw_318 (mcons tw_319 (mcons tw_320 (mcons tw_321 (mcons tw_322 (mcons tw_324 (mcons tw_325 (mcons tw_57 (mcons tw_326 (mcons tw_327 (mcons tw_328 (mcons tw_329 (mcons tw_330 (mcons tw_331 (mcons tw_332 (mcons tw_333 (mcons tw_335 (mcons tw_337 (mcons tw_339 (mcons tw_340 mnil))))))))))))))))))))))))
set_option maxRecDepth 20000 in
theorem ml_wsX6_fault_r5 : ∀ w ∈ wsX6_fault_r5, w ∈ lw_tbl := (mcons tw_341 (mcons tw_342 (mcons tw_343 (mcons tw_58 (mcons tw_344 (mcons tw_345 (mcons tw_346 (mcons tw_347 (mcons tw_348 (mcons tw_349 (mcons tw_350 (mcons tw_351 (mcons tw_352 mnil)))))))))))))
set_option maxRecDepth 20000 in
theorem ml_wsX6_fault : ∀ w ∈ wsX6_fault, w ∈ lw_tbl := (mcons tw_253 (memapp (memapp (memapp (memapp ml_wsX6_fault_r1 (memapp ml_wsX6_fault_r2 (memapp ml_wsX6_fault_r3 (memapp ml_wsX6_fault_r4 ml_wsX6_fault_r5)))) ml_wsX60) ml_wsX20) ml_wsX30))
set_option maxRecDepth 20000 in
theorem ml_wsX6_will_r1 : ∀ w ∈ wsX6_will_r1, w ∈ lw_tbl := (mcons tw_215 (mcons tw_216 (mcons tw_219 (mcons tw_358 (mcons tw_359 (mcons tw_360 (mcons tw_46 (mcons tw_361 (mcons tw_90 (mcons tw_362 (mcons tw_255 (mcons tw_256 (mcons tw_257 (mcons tw_88 (mcons tw_258 (mcons tw_259 (mcons tw_260 (mcons tw_47 (mcons tw_261 (mcons tw_83 (mcons tw_262 (mcons tw_263 (mcons tw_264 (mcons tw_265 mnil))))))))))))))))))))))))
set_option maxRecDepth 20000 in
theorem ml_wsX6_will_r2 : ∀ w ∈ wsX6_will_r2, w ∈ lw_tbl := (mcons tw_266 (mcons tw_267 (mcons tw_269 (mcons tw_270 (mcons tw_271 (mcons tw_54 (mcons tw_272 (mcons tw_273 (mcons tw_274 (mcons tw_275 (mcons tw_276 (mcons tw_1012 (mcons tw_277 (mcons tw_278 (mcons tw_279 (mcons tw_280 (mcons tw_281 (mcons tw_1011 (mcons tw_283 (mcons tw_284 (mcons tw_285 (mcons tw_286 (mcons tw_287 (mcons tw_288 mnil))))))))))))))))))))))))
set_option maxRecDepth 20000 in
theorem ml_wsX6_will_r3 : ∀ w ∈ wsX6_will_r3, w ∈ lw_tbl := (mcons tw_289 (mcons tw_290 (mcons tw_291 (mcons tw_292 (mcons tw_55 (mcons tw_293 (mcons tw_297 (mcons tw_81 (mcons tw_48 (mcons tw_82 (mcons tw_298 (mcons tw_299 (mcons tw_300 (mcons tw_294 (mcons tw_295 (mcons tw_296 (mcons tw_301 (mcons tw_302 (mcons tw_303 (mcons tw_304 (mcons tw_305 (mcons tw_56 (mcons tw_306 (mcons tw_307 mnil))))))))))))))))))))))))
set_option maxRecDepth 20000 in
theorem ml_wsX6_will_r4 : ∀ w ∈ wsX6_will_r4, w ∈ lw_tbl := (mcons tw_308 (mcons tw_309 (mcons tw_310 (mcons tw_311 (mcons tw_312 (mcons tw_313 (mcons tw_314 (mcons tw_315 (mcons tw_316 (mcons tw_317 (mcons tw_318 (mcons tw_319 (mcons tw_320 (mcons tw_321 (mcons tw_322 (mcons tw_324 (mcons tw_325 (mcons tw_57 (mcons tw_326 (mcons tw_327 (mcons tw_328 (mcons tw_329 (mcons tw_330 (mcons tw_331 mnil))))))))))))))))))))))))
set_option maxRecDepth 20000 in
theorem ml_wsX6_will_r5 : ∀ w ∈ wsX6_will_r5, w ∈ lw_tbl := (mcons tw_332 (mcons tw_333 (mcons tw_335 (mcons tw_337 (mcons tw_339 (mcons tw_340 (mcons tw_341 (mcons tw_342 (mcons tw_343 (mcons tw_58 (mcons tw_344 (mcons tw_345 (mcons tw_346 (mcons tw_347 (mcons tw_348 (mcons tw_349 (mcons tw_350 (mcons tw_351 (mcons tw_352 (mcons tw_363 (mcons tw_364 (mcons tw_365 (mcons tw_49 (mcons tw_366 mnil))))))))))))))))))))))))
set_option maxRecDepth 20000 in
theorem ml_wsX6_will_r6 : ∀ w ∈ wsX6_will_r6, w ∈ lw_tbl := (mcons tw_169 (mcons tw_164 (mcons tw_166 (mcons tw_367 (mcons tw_368 (mcons tw_369 (mcons tw_370 (mcons tw_371 (mcons tw_243 (mcons tw_244 (mcons tw_245 (mcons tw_372 (mcons tw_373 (mcons tw_374 (mcons tw_375 (mcons tw_376 (mcons tw_377 (mcons tw_378 (mcons tw_51 (mcons tw_379 (mcons tw_117 (mcons tw_380 (mcons tw_381 (mcons tw_382 mnil))))))))))))))))))))))))
set_option maxRecDepth 20000 in
theorem ml_wsX6_will_r7 : ∀ w ∈ wsX6_will_r7, w ∈ lw_tbl := (mcons tw_50 (mcons tw_383 (mcons tw_126 (mcons tw_140 (mcons tw_142 (mcons tw_384 (mcons tw_385 (mcons tw_386 (mcons tw_387 (mcons tw_388 (mcons tw_389 (mcons tw_391 (mcons tw_0 (mcons tw_392 (mcons tw_393 (mcons tw_394 (mcons tw_395 (mcons tw_396 (mcons tw_397 (mcons tw_398 (mcons tw_399 (mcons tw_400 (mcons tw_401 (mcons tw_402 mnil))))))))))))))))))))))))
set_option maxRecDepth 20000 in
theorem ml_wsX6_will_r8 : ∀ w ∈ wsX6_will_r8, w ∈ lw_tbl := (mcons tw_403 (mcons tw_404 (mcons tw_405 (mcons tw_407 (mcons tw_1 (mcons tw_408 mnil))))))
set_option maxRecDepth 20000 in
theorem ml_wsX6_will : ∀ w ∈ wsX6_will, w ∈ lw_tbl := (mcons tw_357 (memapp (memapp (memapp (memapp (memapp (memapp (memapp ml_wsX6_will_r1 (memapp ml_wsX6_will_r2 (memapp ml_wsX6_will_r3 (memapp ml_wsX6_will_r4 (memapp ml_wsX6_will_r5 (memapp ml_wsX6_will_r6 (memapp ml_wsX6_will_r7 ml_wsX6_will_r8))))))) ml_wsX60) ml_wsX20) ml_wsX30) ml_wsX10) ml_wsX40) ml_wsX50))
set_option maxRecDepth 20000 in
theorem ml_wsX6_about_r1 : ∀ w ∈ wsX6_about_r1, w ∈ lw_tbl := (mcons tw_216 (mcons tw_413 (mcons tw_414 (mcons tw_415 (mcons tw_49 (mcons tw_416 (mcons tw_169 (mcons tw_417 (mcons tw_418 (mcons tw_45 (mcons tw_419 (mcons tw_420 (mcons tw_399 (mcons tw_400 (mcons tw_51 (mcons tw_401 (mcons tw_117 (mcons tw_421 (mcons tw_394 (mcons tw_395 (mcons tw_396 (mcons tw_164 (mcons tw_166 (mcons tw_397 mnil))))))))))))))))))))))))
set_option maxRecDepth 20000 in
theorem ml_wsX6_about_r2 : ∀ w ∈ wsX6_about_r2, w ∈ lw_tbl := (mcons tw_259 (mcons tw_260 (mcons tw_47 (mcons tw_261 (mcons tw_83 (mcons tw_398 (mcons tw_402 (mcons tw_403 (mcons tw_404 (mcons tw_422 (mcons tw_423 (mcons tw_424 (mcons tw_425 (mcons tw_426 (mcons tw_427 (mcons tw_428 (mcons tw_429 (mcons tw_430 (mcons tw_431 (mcons tw_432 (mcons tw_433 (mcons tw_434 (mcons tw_435 (mcons tw_436 mnil))))))))))))))))))))))))
set_option maxRecDepth 20000 in
theorem ml_wsX6_about_r3 : ∀ w ∈ wsX6_about_r3, w ∈ lw_tbl := (mcons tw_437 (mcons tw_438 mnil))
set_option maxRecDepth 20000 in
theorem ml_wsX6_about : ∀ w ∈ wsX6_about, w ∈ lw_tbl := (mcons tw_412 (memapp (memapp (memapp (memapp (memapp (memapp ml_wsX6_about_r1 (memapp ml_wsX6_about_r2 ml_wsX6_about_r3)) ml_wsX60) ml_wsX10) ml_wsX40) ml_wsX50) ml_wsX30))
set_option maxRecDepth 20000 in
theorem ml_wsX6_as : ∀ w ∈ wsX6_as, w ∈ lw_tbl := (mcons tw_442 (memapp (memapp (memapp (mcons tw_216 (mcons tw_413 (mcons tw_414 (mcons tw_415 (mcons tw_49 (mcons tw_416 (mcons tw_169 (mcons tw_422 (mcons tw_259 (mcons tw_260 (mcons tw_47 (mcons tw_261 (mcons tw_83 (mcons tw_443 (mcons tw_444 (mcons tw_45 (mcons tw_445 mnil))))))))))))))))) ml_wsX60) ml_wsX10) ml_wsX30))
set_option maxRecDepth 20000 in
theorem ml_wsX6_has : ∀ w ∈ wsX6_has, w ∈ lw_tbl := (mcons tw_449 (memapp (memapp (memapp (mcons tw_216 (mcons tw_417 (mcons tw_418 (mcons tw_45 (mcons tw_419 (mcons tw_450 (mcons tw_451 (mcons tw_452 (mcons tw_49 (mcons tw_453 (mcons tw_169 (mcons tw_454 (mcons tw_424 (mcons tw_425 (mcons tw_426 (mcons tw_166 (mcons tw_427 (mcons tw_428 (mcons tw_429 (mcons tw_430 mnil)))))))))))))))))))) ml_wsX60) ml_wsX10) ml_wsX40))
set_option maxRecDepth 20000 in
theorem ml_wsX6_worth : ∀ w ∈ wsX6_worth, w ∈ lw_tbl := (mcons tw_458 (memapp (memapp (memapp (memapp (mcons tw_216 (mcons tw_413 (mcons tw_414 (mcons tw_415 (mcons tw_49 (mcons tw_416 (mcons tw_169 (mcons tw_417 (mcons tw_418 (mcons tw_45 (mcons tw_419 (mcons tw_420 (mcons tw_399 (mcons tw_400 (mcons tw_51 (mcons tw_401 (mcons tw_117 (mcons tw_459 (mcons tw_377 (mcons tw_378 (mcons tw_379 mnil))))))))))))))))))))) ml_wsX60) ml_wsX10) ml_wsX40) ml_wsX50))
set_option maxRecDepth 20000 in
theorem ml_wsX6_deal_r1 : ∀ w ∈ wsX6_deal_r1, w ∈ lw_tbl := (mcons tw_216 (mcons tw_464 (mcons tw_386 (mcons tw_387 (mcons tw_49 (mcons tw_388 (mcons tw_169 (mcons tw_389 (mcons tw_391 (mcons tw_0 (mcons tw_392 (mcons tw_393 (mcons tw_394 (mcons tw_395 (mcons tw_396 (mcons tw_164 (mcons tw_166 (mcons tw_397 (mcons tw_259 (mcons tw_260 (mcons tw_47 (mcons tw_261 (mcons tw_83 (mcons tw_398 mnil))))))))))))))))))))))))
set_option maxRecDepth 20000 in
theorem ml_wsX6_deal_r2 : ∀ w ∈ wsX6_deal_r2, w ∈ lw_tbl := (mcons tw_399 (mcons tw_400 (mcons tw_51 (mcons tw_401 (mcons tw_117 (mcons tw_402 (mcons tw_403 (mcons tw_404 (mcons tw_405 (mcons tw_407 (mcons tw_1 (mcons tw_408 (mcons tw_465 (mcons tw_466 (mcons tw_467 (mcons tw_468 (mcons tw_427 (mcons tw_428 (mcons tw_429 (mcons tw_430 mnil))))))))))))))))))))
set_option maxRecDepth 20000 in
theorem ml_wsX6_deal : ∀ w ∈ wsX6_deal, w ∈ lw_tbl := (mcons tw_463 (memapp (memapp (memapp (memapp (memapp (memapp ml_wsX6_deal_r1 ml_wsX6_deal_r2) ml_wsX60) ml_wsX10) ml_wsX40) ml_wsX30) ml_wsX50))
set_option maxRecDepth 20000 in
theorem ml_wsX6_may_r1 : ∀ w ∈ wsX6_may_r1, w ∈ lw_tbl := (mcons tw_216 (mcons tw_473 (mcons tw_475 (mcons tw_2 (mcons tw_45 (mcons tw_476 (mcons tw_413 (mcons tw_414 (mcons tw_415 (mcons tw_49 (mcons tw_416 (mcons tw_169 (mcons tw_477 (mcons tw_478 (mcons tw_479 (mcons tw_480 (mcons tw_166 (mcons tw_427 (mcons tw_428 (mcons tw_429 (mcons tw_430 (mcons tw_393 (mcons tw_394 (mcons tw_395 mnil))))))))))))))))))))))))
set_option maxRecDepth 20000 in
theorem ml_wsX6_may_r2 : ∀ w ∈ wsX6_may_r2, w ∈ lw_tbl := (mcons tw_396 (mcons tw_164 (mcons tw_397 (mcons tw_259 (mcons tw_260 (mcons tw_47 (mcons tw_261 (mcons tw_83 (mcons tw_398 (mcons tw_399 (mcons tw_400 (mcons tw_51 (mcons tw_401 (mcons tw_117 (mcons tw_402 (mcons tw_403 (mcons tw_404 mnil)))))))))))))))))
set_option maxRecDepth 20000 in
theorem ml_wsX6_may : ∀ w ∈ wsX6_may, w ∈ lw_tbl := (mcons tw_472 (memapp (memapp (memapp (memapp (memapp (memapp ml_wsX6_may_r1 ml_wsX6_may_r2) ml_wsX60) ml_wsX10) ml_wsX40) ml_wsX30) ml_wsX50))
set_option maxRecDepth 20000 in
theorem ml_wsX6_change_r1 : ∀ w ∈ wsX6_change_r1, w ∈ lw_tbl := (mcons tw_216 (mcons tw_473 (mcons tw_475 (mcons tw_2 (mcons tw_45 (mcons tw_476 (mcons tw_413 (mcons tw_414 (mcons tw_415 (mcons tw_49 (mcons tw_416 (mcons tw_169 (mcons tw_477 (mcons tw_478 (mcons tw_479 (mcons tw_480 (mcons tw_166 (mcons tw_427 (mcons tw_428 (mcons tw_429 (mcons tw_430 (mcons tw_393 (mcons tw_394 (mcons tw_395 mnil))))))))))))))))))))))))
set_option maxRecDepth 20000 in
theorem ml_wsX6_change_r2 : ∀ w ∈ wsX6_change_r2, w ∈ lw_tbl := (mcons tw_396 (mcons tw_164 (mcons tw_397 (mcons tw_259 (mcons tw_260 (mcons tw_47 (mcons tw_261 (mcons tw_83 (mcons tw_398 (mcons tw_399 (mcons tw_400 (mcons tw_51 (mcons tw_401 (mcons tw_117 (mcons tw_402 (mcons tw_403 (mcons tw_404 (mcons tw_485 (mcons tw_486 (mcons tw_487 (mcons tw_488 (mcons tw_405 (mcons tw_407 (mcons tw_1 mnil))))))))))))))))))))))))
set_option maxRecDepth 20000 in
theorem ml_wsX6_change_r3 : ∀ w ∈ wsX6_change_r3, w ∈ lw_tbl := (mcons tw_408 (mcons tw_489 (mcons tw_490 (mcons tw_491 (mcons tw_50 (mcons tw_492 (mcons tw_126 (mcons tw_140 (mcons tw_493 (mcons tw_384 (mcons tw_243 (mcons tw_244 (mcons tw_245 mnil)))))))))))))
set_option maxRecDepth 20000 in
theorem ml_wsX6_change : ∀ w ∈ wsX6_change, w ∈ lw_tbl := (mcons tw_484 (memapp (memapp (memapp (memapp (memapp (memapp ml_wsX6_change_r1 (memapp ml_wsX6_change_r2 ml_wsX6_change_r3)) ml_wsX60) ml_wsX10) ml_wsX40) ml_wsX30) ml_wsX50))
set_option maxRecDepth 20000 in
theorem ml_wsX6_ends_r1 : ∀ w ∈ wsX6_ends_r1, w ∈ lw_tbl := (mcons tw_216 (mcons tw_217 (mcons tw_498 (mcons tw_499 (mcons tw_500 (mcons tw_52 (mcons tw_501 (mcons tw_189 (mcons tw_190 (mcons tw_187 (mcons tw_188 (mcons tw_502 (mcons tw_504 (mcons tw_3 (mcons tw_505 (mcons tw_506 (mcons tw_259 (mcons tw_260 (mcons tw_47 (mcons tw_261 (mcons tw_83 (mcons tw_507 (mcons tw_243 (mcons tw_244 mnil))))))))))))))))))))))))
set_option maxRecDepth 20000 in
theorem ml_wsX6_ends_r2 : ∀ w ∈ wsX6_ends_r2, w ∈ lw_tbl := (mcons tw_245 (mcons tw_508 (mcons tw_510 (mcons tw_4 (mcons tw_511 (mcons tw_512 (mcons tw_478 (mcons tw_479 (mcons tw_49 (mcons tw_480 (mcons tw_166 (mcons tw_427 (mcons tw_428 (mcons tw_429 (mcons tw_430 (mcons tw_169 (mcons tw_393 (mcons tw_394 (mcons tw_395 (mcons tw_396 (mcons tw_164 (mcons tw_397 (mcons tw_398 (mcons tw_399 mnil))))))))))))))))))))))))
set_option maxRecDepth 20000 in
theorem ml_wsX6_ends_r3 : ∀ w ∈ wsX6_ends_r3, w ∈ lw_tbl := (mcons tw_400 (mcons tw_51 (mcons tw_401 (mcons tw_117 (mcons tw_402 (mcons tw_403 (mcons tw_404 (mcons tw_513 (mcons tw_486 (mcons tw_487 (mcons tw_488 (mcons tw_405 (mcons tw_407 (mcons tw_1 (mcons tw_408 (mcons tw_514 (mcons tw_515 (mcons tw_516 (mcons tw_517 (mcons tw_435 (mcons tw_436 (mcons tw_437 (mcons tw_438 (mcons tw_518 mnil))))))))))))))))))))))))
set_option maxRecDepth 20000 in
theorem ml_wsX6_ends_r4 : ∀ w ∈ wsX6_ends_r4, w ∈ lw_tbl := (mcons tw_520 (mcons tw_5 (mcons tw_521 (mcons tw_192 (mcons tw_522 (mcons tw_81 (mcons tw_48 (mcons tw_82 (mcons tw_194 (mcons tw_523 (mcons tw_299 (mcons tw_300 (mcons tw_196 mnil)))))))))))))
set_option maxRecDepth 20000 in
theorem ml_wsX6_ends : ∀ w ∈ wsX6_ends, w ∈ lw_tbl := (mcons tw_497 (memapp (memapp (memapp (memapp (memapp (memapp (memapp ml_wsX6_ends_r1 (memapp ml_wsX6_ends_r2 (memapp ml_wsX6_ends_r3 ml_wsX6_ends_r4))) ml_wsX60) ml_wsX10) ml_wsX00) ml_wsX40) ml_wsX30) ml_wsX50))
set_option maxRecDepth 20000 in
theorem ml_wsX6_served_r1 : ∀ w ∈ wsX6_served_r1, w ∈ lw_tbl := (mcons tw_216 (mcons tw_413 (mcons tw_414 (mcons tw_415 (mcons tw_49 (mcons tw_416 (mcons tw_169 (mcons tw_422 (mcons tw_259 (mcons tw_260 (mcons tw_47 (mcons tw_261 (mcons tw_83 (mcons tw_528 (mcons tw_243 (mcons tw_244 (mcons tw_245 (mcons tw_464 (mcons tw_386 (mcons tw_387 (mcons tw_388 (mcons tw_389 (mcons tw_391 (mcons tw_0 mnil))))))))))))))))))))))))
set_option maxRecDepth 20000 in
theorem ml_wsX6_served_r2 : ∀ w ∈ wsX6_served_r2, w ∈ lw_tbl := (mcons tw_392 (mcons tw_393 (mcons tw_394 (mcons tw_395 (mcons tw_396 (mcons tw_164 (mcons tw_166 (mcons tw_397 (mcons tw_398 (mcons tw_399 (mcons tw_400 (mcons tw_51 (mcons tw_401 (mcons tw_117 (mcons tw_402 (mcons tw_403 (mcons tw_404 (mcons tw_405 (mcons tw_407 (mcons tw_1 (mcons tw_408 (mcons tw_529 (mcons tw_436 (mcons tw_437 mnil))))))))))))))))))))))))
set_option maxRecDepth 20000 in
theorem ml_wsX6_served_r3 : ∀ w ∈ wsX6_served_r3, w ∈ lw_tbl := (mcons tw_438 (mcons tw_427 (mcons tw_428 (mcons tw_429 (mcons tw_430 mnil)))))
set_option maxRecDepth 20000 in
theorem ml_wsX6_served : ∀ w ∈ wsX6_served, w ∈ lw_tbl := (mcons tw_527 (memapp (memapp (memapp (memapp (memapp (memapp ml_wsX6_served_r1 (memapp ml_wsX6_served_r2 ml_wsX6_served_r3)) ml_wsX60) ml_wsX10) ml_wsX30) ml_wsX40) ml_wsX50))
set_option maxRecDepth 20000 in
theorem ml_wsX6_worst_r1 : ∀ w ∈ wsX6_worst_r1, w ∈ lw_tbl := (mcons tw_216 (mcons tw_413 (mcons tw_414 (mcons tw_415 (mcons tw_49 (mcons tw_416 (mcons tw_169 (mcons tw_534 (mcons tw_535 (mcons tw_536 (mcons tw_537 (mcons tw_538 (mcons tw_540 (mcons tw_6 (mcons tw_541 (mcons tw_427 (mcons tw_428 (mcons tw_429 (mcons tw_430 (mcons tw_542 (mcons tw_543 (mcons tw_59 (mcons tw_544 (mcons tw_545 mnil))))))))))))))))))))))))
set_option maxRecDepth 20000 in
theorem ml_wsX6_worst_r2 : ∀ w ∈ wsX6_worst_r2, w ∈ lw_tbl := (mcons tw_546 (mcons tw_547 (mcons tw_548 (mcons tw_515 (mcons tw_516 (mcons tw_517 (mcons tw_435 (mcons tw_436 (mcons tw_437 (mcons tw_438 (mcons tw_166 (mcons tw_398 (mcons tw_399 (mcons tw_400 (mcons tw_51 (mcons tw_401 (mcons tw_117 (mcons tw_549 (mcons tw_550 mnil)))))))))))))))))))
set_option maxRecDepth 20000 in
theorem ml_wsX6_worst : ∀ w ∈ wsX6_worst, w ∈ lw_tbl := (mcons tw_533 (memapp (memapp (memapp (memapp (memapp ml_wsX6_worst_r1 ml_wsX6_worst_r2) ml_wsX60) ml_wsX10) ml_wsX40) ml_wsX50))
set_option maxRecDepth 20000 in
theorem ml_wsX6_hear_r1 : ∀ w ∈ wsX6_hear_r1, w ∈ lw_tbl := (mcons tw_216 (mcons tw_413 (mcons tw_414 (mcons tw_415 (mcons tw_49 (mcons tw_416 (mcons tw_169 (mcons tw_417 (mcons tw_418 (mcons tw_45 (mcons tw_419 (mcons tw_555 (mcons tw_556 (mcons tw_557 (mcons tw_50 (mcons tw_558 (mcons tw_128 (mcons tw_142 (mcons tw_130 (mcons tw_132 (mcons tw_134 (mcons tw_384 (mcons tw_243 (mcons tw_244 mnil))))))))))))))))))))))))
set_option maxRecDepth 20000 in
theorem ml_wsX6_hear_r2 : ∀ w ∈ wsX6_hear_r2, w ∈ lw_tbl := (mcons tw_47 (mcons tw_245 (mcons tw_83 mnil)))
set_option maxRecDepth 20000 in
theorem ml_wsX6_hear : ∀ w ∈ wsX6_hear, w ∈ lw_tbl := (mcons tw_554 (memapp (memapp (memapp (memapp (memapp ml_wsX6_hear_r1 ml_wsX6_hear_r2) ml_wsX60) ml_wsX10) ml_wsX40) ml_wsX30))
set_option maxRecDepth 20000 in
theorem ml_wsX6_forget : ∀ w ∈ wsX6_forget, w ∈ lw_tbl := (mcons tw_562 (memapp (memapp (memapp (mcons tw_216 mnil) ml_wsX60) ml_wsX10) ml_wsX40))
set_option maxRecDepth 20000 in
theorem ml_wsX6_truths_r1 : ∀ w ∈ wsX6_truths_r1, w ∈ lw_tbl := (mcons tw_216 (mcons tw_413 (mcons tw_414 (mcons tw_415 (mcons tw_49 (mcons tw_416 (mcons tw_169 (mcons tw_417 (mcons tw_418 (mcons tw_45 (mcons tw_419 (mcons tw_567 (mcons tw_568 (mcons tw_569 (mcons tw_570 (mcons tw_166 (mcons tw_397 (mcons tw_259 (mcons tw_260 (mcons tw_47 (mcons tw_261 (mcons tw_83 (mcons tw_398 (mcons tw_399 mnil))))))))))))))))))))))))
set_option maxRecDepth 20000 in
theorem ml_wsX6_truths_r2 : ∀ w ∈ wsX6_truths_r2, w ∈ lw_tbl := (mcons tw_400 (mcons tw_51 (mcons tw_401 (mcons tw_117 mnil))))
set_option maxRecDepth 20000 in
theorem ml_wsX6_truths : ∀ w ∈ wsX6_truths, w ∈ lw_tbl := (mcons tw_566 (memapp (memapp (memapp (memapp (memapp (memapp ml_wsX6_truths_r1 ml_wsX6_truths_r2) ml_wsX60) ml_wsX10) ml_wsX40) ml_wsX30) ml_wsX50))
set_option maxRecDepth 20000 in
theorem ml_wsX6_ask_r1 : ∀ w ∈ wsX6_ask_r1, w ∈ lw_tbl := (mcons tw_216 (mcons tw_413 (mcons tw_414 (mcons tw_415 (mcons tw_49 (mcons tw_416 (mcons tw_169 (mcons tw_417 (mcons tw_418 (mcons tw_45 (mcons tw_419 (mcons tw_575 (mcons tw_564 (mcons tw_565 (mcons tw_566 (mcons tw_567 (mcons tw_568 (mcons tw_569 (mcons tw_570 (mcons tw_166 (mcons tw_397 (mcons tw_259 (mcons tw_260 (mcons tw_47 mnil))))))))))))))))))))))))
set_option maxRecDepth 20000 in
theorem ml_wsX6_ask_r2 : ∀ w ∈ wsX6_ask_r2, w ∈ lw_tbl := (mcons tw_261 (mcons tw_83 (mcons tw_398 (mcons tw_399 (mcons tw_400 (mcons tw_51 (mcons tw_401 (mcons tw_117 (mcons tw_420 (mcons tw_576 (mcons tw_577 (mcons tw_578 (mcons tw_580 (mcons tw_81 (mcons tw_48 (mcons tw_82 (mcons tw_579 (mcons tw_543 (mcons tw_59 (mcons tw_544 (mcons tw_545 (mcons tw_546 (mcons tw_547 mnil)))))))))))))))))))))))
set_option maxRecDepth 20000 in
theorem ml_wsX6_ask : ∀ w ∈ wsX6_ask, w ∈ lw_tbl := (mcons tw_574 (memapp (memapp (memapp (memapp (memapp (memapp ml_wsX6_ask_r1 ml_wsX6_ask_r2) ml_wsX60) ml_wsX10) ml_wsX40) ml_wsX30) ml_wsX50))
set_option maxRecDepth 20000 in
theorem ml_wsX6_years_r1 : ∀ w ∈ wsX6_years_r1, w ∈ lw_tbl := (mcons tw_216 (mcons tw_585 (mcons tw_586 (mcons tw_45 (mcons tw_587 (mcons tw_588 (mcons tw_589 (mcons tw_590 (mcons tw_591 (mcons tw_592 (mcons tw_593 (mcons tw_594 (mcons tw_477 (mcons tw_478 (mcons tw_479 (mcons tw_49 (mcons tw_480 (mcons tw_166 (mcons tw_427 (mcons tw_428 (mcons tw_429 (mcons tw_430 (mcons tw_169 (mcons tw_393 mnil))))))))))))))))))))))))
set_option maxRecDepth 20000 in
theorem ml_wsX6_years_r2 : ∀ w ∈ wsX6_years_r2, w ∈ lw_tbl := (mcons tw_394 (mcons tw_395 (mcons tw_396 (mcons tw_164 (mcons tw_397 (mcons tw_259 (mcons tw_260 (mcons tw_47 (mcons tw_261 (mcons tw_83 (mcons tw_398 (mcons tw_399 (mcons tw_400 (mcons tw_51 (mcons tw_401 (mcons tw_117 (mcons tw_402 (mcons tw_403 (mcons tw_404 (mcons tw_485 (mcons tw_486 (mcons tw_487 (mcons tw_488 (mcons tw_405 mnil))))))))))))))))))))))))
set_option maxRecDepth 20000 in
theorem ml_wsX6_years_r3 : ∀ w ∈ wsX6_years_r3, w ∈ lw_tbl := (mcons tw_407 (mcons tw_1 (mcons tw_408 (mcons tw_595 (mcons tw_596 (mcons tw_597 (mcons tw_598 (mcons tw_599 (mcons tw_432 (mcons tw_433 (mcons tw_434 (mcons tw_435 (mcons tw_436 (mcons tw_437 (mcons tw_438 mnil)))))))))))))))
set_option maxRecDepth 20000 in
theorem ml_wsX6_years : ∀ w ∈ wsX6_years, w ∈ lw_tbl := (mcons tw_584 (memapp (memapp (memapp (memapp (memapp (memapp ml_wsX6_years_r1 (memapp ml_wsX6_years_r2 ml_wsX6_years_r3)) ml_wsX60) ml_wsX10) ml_wsX40) ml_wsX30) ml_wsX50))
set_option maxRecDepth 20000 in
theorem ml_wsX6_image_r1 : ∀ w ∈ wsX6_image_r1, w ∈ lw_tbl := (mcons tw_216 (mcons tw_218 (mcons tw_219 (mcons tw_220 (mcons tw_604 (mcons tw_605 (mcons tw_606 (mcons tw_50 (mcons tw_607 (mcons tw_123 (mcons tw_126 (mcons tw_128 (mcons tw_130 (mcons tw_132 (mcons tw_134 (mcons tw_138 (mcons tw_140 (mcons tw_142 (mcons tw_608 (mcons tw_609 (mcons tw_610 (mcons tw_51 (mcons tw_611 (mcons tw_117 mnil))))))))))))))))))))))))
set_option maxRecDepth 20000 in
theorem ml_wsX6_image_r2 : ∀ w ∈ wsX6_image_r2, w ∈ lw_tbl := (mcons tw_612 (mcons tw_613 (mcons tw_614 (mcons tw_47 (mcons tw_615 (mcons tw_83 mnil))))))
set_option maxRecDepth 20000 in
theorem ml_wsX6_image : ∀ w ∈ wsX6_image, w ∈ lw_tbl := (mcons tw_603 (memapp (memapp (memapp (memapp (memapp (memapp ml_wsX6_image_r1 ml_wsX6_image_r2) ml_wsX60) ml_wsX10) ml_wsX40) ml_wsX50) ml_wsX30))
set_option maxRecDepth 20000 in
theorem ml_wsX6_restore_r1 : ∀ w ∈ wsX6_restore_r1, w ∈ lw_tbl := (mcons tw_220 (mcons tw_219 (mcons tw_216 (mcons tw_218 (mcons tw_604 (mcons tw_605 (mcons tw_606 (mcons tw_50 (mcons tw_607 (mcons tw_123 (mcons tw_126 (mcons tw_128 (mcons tw_130 (mcons tw_132 (mcons tw_134 (mcons tw_138 (mcons tw_140 (mcons tw_142 (mcons tw_608 (mcons tw_609 (mcons tw_610 (mcons tw_51 (mcons tw_611 (mcons tw_117 mnil))))))))))))))))))))))))
set_option maxRecDepth 20000 in
theorem ml_wsX6_restore_r2 : ∀ w ∈ wsX6_restore_r2, w ∈ lw_tbl := (mcons tw_612 (mcons tw_613 (mcons tw_614 (mcons tw_47 (mcons tw_615 (mcons tw_83 mnil))))))
set_option maxRecDepth 20000 in
theorem ml_wsX6_restore : ∀ w ∈ wsX6_restore, w ∈ lw_tbl := (mcons tw_619 (memapp (memapp (memapp (memapp (memapp (memapp ml_wsX6_restore_r1 ml_wsX6_restore_r2) ml_wsX60) ml_wsX10) ml_wsX40) ml_wsX50) ml_wsX30))
set_option maxRecDepth 20000 in
theorem ml_wsX6_count_r1 : ∀ w ∈ wsX6_count_r1, w ∈ lw_tbl := (mcons tw_216 (mcons tw_215 (mcons tw_219 (mcons tw_595 (mcons tw_596 (mcons tw_597 (mcons tw_49 (mcons tw_598 (mcons tw_169 (mcons tw_599 (mcons tw_432 (mcons tw_433 (mcons tw_434 (mcons tw_435 (mcons tw_436 (mcons tw_437 (mcons tw_438 (mcons tw_166 (mcons tw_427 (mcons tw_428 (mcons tw_429 (mcons tw_430 (mcons tw_398 (mcons tw_399 mnil))))))))))))))))))))))))
set_option maxRecDepth 20000 in
theorem ml_wsX6_count_r2 : ∀ w ∈ wsX6_count_r2, w ∈ lw_tbl := (mcons tw_400 (mcons tw_51 (mcons tw_401 (mcons tw_117 (mcons tw_550 (mcons tw_515 (mcons tw_516 (mcons tw_517 mnil))))))))
set_option maxRecDepth 20000 in
theorem ml_wsX6_count : ∀ w ∈ wsX6_count, w ∈ lw_tbl := (mcons tw_623 (memapp (memapp (memapp (memapp (memapp (memapp ml_wsX6_count_r1 ml_wsX6_count_r2) ml_wsX60) ml_wsX10) ml_wsX40) ml_wsX20) ml_wsX50))
set_option maxRecDepth 20000 in
theorem ml_wsX6_digest_r1 : ∀ w ∈ wsX6_digest_r1, w ∈ lw_tbl := (mcons tw_628 (mcons tw_216 (mcons tw_215 (mcons tw_629 (mcons tw_447 (mcons tw_448 (mcons tw_45 (mcons tw_449 (mcons tw_417 (mcons tw_418 (mcons tw_419 (mcons tw_450 (mcons tw_451 (mcons tw_452 (mcons tw_49 (mcons tw_453 (mcons tw_169 (mcons tw_454 (mcons tw_424 (mcons tw_425 (mcons tw_426 (mcons tw_166 (mcons tw_427 (mcons tw_428 mnil))))))))))))))))))))))))
set_option maxRecDepth 20000 in
theorem ml_wsX6_digest_r2 : ∀ w ∈ wsX6_digest_r2, w ∈ lw_tbl := (mcons tw_429 (mcons tw_430 (mcons tw_630 (mcons tw_631 (mcons tw_632 (mcons tw_633 (mcons tw_634 (mcons tw_495 (mcons tw_496 (mcons tw_497 (mcons tw_217 (mcons tw_498 (mcons tw_499 (mcons tw_500 (mcons tw_52 (mcons tw_501 (mcons tw_189 (mcons tw_190 (mcons tw_187 (mcons tw_188 (mcons tw_502 (mcons tw_504 (mcons tw_3 (mcons tw_505 mnil))))))))))))))))))))))))
set_option maxRecDepth 20000 in
theorem ml_wsX6_digest_r3 : ∀ w ∈ wsX6_digest_r3, w ∈ lw_tbl := (mcons tw_506 (mcons tw_259 (mcons tw_260 (mcons tw_47 (mcons tw_261 (mcons tw_83 (mcons tw_507 (mcons tw_243 (mcons tw_244 (mcons tw_245 (mcons tw_508 (mcons tw_510 (mcons tw_4 (mcons tw_511 (mcons tw_512 (mcons tw_478 (mcons tw_479 (mcons tw_480 (mcons tw_393 (mcons tw_394 (mcons tw_395 (mcons tw_396 (mcons tw_164 (mcons tw_397 mnil))))))))))))))))))))))))
set_option maxRecDepth 20000 in
theorem ml_wsX6_digest_r4 : ∀ w ∈ wsX6_digest_r4, w ∈ lw_tbl := (mcons tw_398 (mcons tw_399 (mcons tw_400 (mcons tw_51 (mcons tw_401 (mcons tw_117 (mcons tw_402 (mcons tw_403 (mcons tw_404 (mcons tw_513 (mcons tw_486 (mcons tw_487 (mcons tw_488 (mcons tw_405 (mcons tw_407 (mcons tw_1 (mcons tw_408 (mcons tw_514 (mcons tw_515 (mcons tw_516 (mcons tw_517 (mcons tw_435 (mcons tw_436 (mcons tw_437 mnil))))))))))))))))))))))))
set_option maxRecDepth 20000 in
theorem ml_wsX6_digest_r5 : ∀ w ∈ wsX6_digest_r5, w ∈ lw_tbl := (mcons tw_438 (mcons tw_518 (mcons tw_520 (mcons tw_5 (mcons tw_521 (mcons tw_192 (mcons tw_522 (mcons tw_81 (mcons tw_48 (mcons tw_82 (mcons tw_194 (mcons tw_523 (mcons tw_299 (mcons tw_300 (mcons tw_196 (mcons tw_635 (mcons tw_531 (mcons tw_532 (mcons tw_533 (mcons tw_413 (mcons tw_414 (mcons tw_415 (mcons tw_416 (mcons tw_534 mnil))))))))))))))))))))))))
set_option maxRecDepth 20000 in
theorem ml_wsX6_digest_r6 : ∀ w ∈ wsX6_digest_r6, w ∈ lw_tbl := (mcons tw_535 (mcons tw_536 (mcons tw_537 (mcons tw_538 (mcons tw_540 (mcons tw_6 (mcons tw_541 (mcons tw_542 (mcons tw_543 (mcons tw_59 (mcons tw_544 (mcons tw_545 (mcons tw_546 (mcons tw_547 (mcons tw_548 (mcons tw_549 (mcons tw_550 (mcons tw_636 (mcons tw_638 (mcons tw_7 (mcons tw_639 (mcons tw_640 (mcons tw_410 (mcons tw_411 mnil))))))))))))))))))))))))
set_option maxRecDepth 20000 in
theorem ml_wsX6_digest_r7 : ∀ w ∈ wsX6_digest_r7, w ∈ lw_tbl := (mcons tw_412 (mcons tw_420 (mcons tw_421 (mcons tw_422 (mcons tw_423 (mcons tw_431 (mcons tw_432 (mcons tw_433 (mcons tw_434 (mcons tw_641 (mcons tw_525 (mcons tw_526 (mcons tw_527 (mcons tw_528 (mcons tw_464 (mcons tw_386 (mcons tw_387 (mcons tw_388 (mcons tw_389 (mcons tw_391 (mcons tw_0 (mcons tw_392 (mcons tw_529 (mcons tw_575 mnil))))))))))))))))))))))))
set_option maxRecDepth 20000 in
theorem ml_wsX6_digest_r8 : ∀ w ∈ wsX6_digest_r8, w ∈ lw_tbl := (mcons tw_564 (mcons tw_565 (mcons tw_566 (mcons tw_567 (mcons tw_568 (mcons tw_569 (mcons tw_570 (mcons tw_642 (mcons tw_572 (mcons tw_573 (mcons tw_574 (mcons tw_576 (mcons tw_577 (mcons tw_578 (mcons tw_580 (mcons tw_579 (mcons tw_643 (mcons tw_621 (mcons tw_622 (mcons tw_623 (mcons tw_219 (mcons tw_595 (mcons tw_596 (mcons tw_597 mnil))))))))))))))))))))))))
set_option maxRecDepth 20000 in
theorem ml_wsX6_digest_r9 : ∀ w ∈ wsX6_digest_r9, w ∈ lw_tbl := (mcons tw_598 (mcons tw_599 mnil))
set_option maxRecDepth 20000 in
theorem ml_wsX6_digest : ∀ w ∈ wsX6_digest, w ∈ lw_tbl := (mcons tw_627 (memapp (memapp (memapp (memapp (memapp (memapp (memapp (memapp ml_wsX6_digest_r1 (memapp ml_wsX6_digest_r2 (memapp ml_wsX6_digest_r3 (memapp ml_wsX6_digest_r4 (memapp ml_wsX6_digest_r5 (memapp ml_wsX6_digest_r6 (memapp ml_wsX6_digest_r7 (memapp ml_wsX6_digest_r8 ml_wsX6_digest_r9)))))))) ml_wsX60) ml_wsX10) ml_wsX20) ml_wsX40) ml_wsX00) ml_wsX30) ml_wsX50))
set_option maxRecDepth 20000 in
theorem ml_wsX7_init_r1 : ∀ w ∈ wsX7_init_r1, w ∈ lw_tbl := (mcons tw_649 (mcons tw_66 (mcons tw_67 (mcons tw_87 (mcons tw_652 (mcons tw_653 (mcons tw_654 (mcons tw_655 (mcons tw_658 (mcons tw_659 (mcons tw_660 (mcons tw_661 (mcons tw_353 (mcons tw_663 (mcons tw_664 (mcons tw_665 (mcons tw_666 (mcons tw_672 (mcons tw_677 (mcons tw_678 (mcons tw_679 (mcons tw_680 (mcons tw_681 (mcons tw_682 mnil))))))))))))))))))))))))
set_option maxRecDepth 20000 in
theorem ml_wsX7_init_r2 : ∀ w ∈ wsX7_init_r2, w ∈ lw_tbl := (mcons tw_683 mnil)
set_option maxRecDepth 20000 in
theorem ml_wsX70 : ∀ w ∈ wsX70, w ∈ lw_tbl := memr [685, 687, 689, 691, 693, 695, 697, 699, 701, 703, 705, 707, 709, 711, 713, 715, 717, 719, 721, 723, 725, 727, 729, 731, 733, 735, 737, 739, 741, 743, 745, 747, 749, 751, 753] (by decide +kernel)
set_option maxRecDepth 20000 in
theorem ml_wsX7_init : ∀ w ∈ wsX7_init, w ∈ lw_tbl := (mcons tw_648 (memapp (memapp ml_wsX7_init_r1 ml_wsX7_init_r2) ml_wsX70))
set_option maxRecDepth 20000 in
theorem ml_wsX7_letter : ∀ w ∈ wsX7_letter, w ∈ lw_tbl := (mcons tw_759 (memapp (mcons tw_662 (mcons tw_663 (mcons tw_760 (mcons tw_761 (mcons tw_53 (mcons tw_762 mnil)))))) ml_wsX70))
set_option maxRecDepth 20000 in
theorem ml_wsX7_blank : ∀ w ∈ wsX7_blank, w ∈ lw_tbl := (mcons tw_766 (memapp (mcons tw_662 mnil) ml_wsX70))
set_option maxRecDepth 20000 in
theorem ml_wsX7_fault : ∀ w ∈ wsX7_fault, w ∈ lw_tbl := (mcons tw_770 (memapp (mcons tw_771 (mcons tw_773 (mcons tw_8 (mcons tw_53 (mcons tw_774 (mcons tw_662 (mcons tw_775 (mcons tw_777 (mcons tw_9 (mcons tw_778 (mcons tw_663 (mcons tw_779 (mcons tw_780 (mcons tw_781 (mcons tw_760 (mcons tw_761 (mcons tw_762 mnil))))))))))))))))) ml_wsX70))
set_option maxRecDepth 20000 in
theorem ml_wsX7_will_r1 : ∀ w ∈ wsX7_will_r1, w ∈ lw_tbl := (mcons tw_662 (mcons tw_651 (mcons tw_652 (mcons tw_663 (mcons tw_655 (mcons tw_654 (mcons tw_653 (mcons tw_650 (mcons tw_656 (mcons tw_657 (mcons tw_771 (mcons tw_773 (mcons tw_8 (mcons tw_53 (mcons tw_774 (mcons tw_775 (mcons tw_777 (mcons tw_9 (mcons tw_778 (mcons tw_779 (mcons tw_780 (mcons tw_781 (mcons tw_760 (mcons tw_761 mnil))))))))))))))))))))))))
set_option maxRecDepth 20000 in
theorem ml_wsX7_will_r2 : ∀ w ∈ wsX7_will_r2, w ∈ lw_tbl := (mcons tw_762 (mcons tw_786 (mcons tw_788 (mcons tw_10 (mcons tw_789 (mcons tw_665 (mcons tw_790 (mcons tw_792 (mcons tw_11 (mcons tw_793 (mcons tw_664 (mcons tw_794 (mcons tw_796 (mcons tw_12 (mcons tw_797 (mcons tw_798 (mcons tw_800 (mcons tw_13 (mcons tw_801 (mcons tw_802 (mcons tw_803 (mcons tw_804 mnil))))))))))))))))))))))
set_option maxRecDepth 20000 in
theorem ml_wsX7_will : ∀ w ∈ wsX7_will, w ∈ lw_tbl := (mcons tw_785 (memapp (memapp ml_wsX7_will_r1 ml_wsX7_will_r2) ml_wsX70))
set_option maxRecDepth 20000 in
theorem ml_wsX7_about_r1 : ∀ w ∈ wsX7_about_r1, w ∈ lw_tbl := (mcons tw_760 (mcons tw_761 (mcons tw_53 (mcons tw_762 (mcons tw_809 (mcons tw_811 (mcons tw_14 (mcons tw_812 (mcons tw_651 (mcons tw_813 (mcons tw_815 (mcons tw_15 (mcons tw_816 (mcons tw_653 (mcons tw_652 (mcons tw_654 (mcons tw_655 (mcons tw_817 (mcons tw_819 (mcons tw_16 (mcons tw_820 (mcons tw_664 (mcons tw_794 (mcons tw_796 mnil))))))))))))))))))))))))
set_option maxRecDepth 20000 in
theorem ml_wsX7_about_r2 : ∀ w ∈ wsX7_about_r2, w ∈ lw_tbl := (mcons tw_12 (mcons tw_797 (mcons tw_798 (mcons tw_800 (mcons tw_13 (mcons tw_801 (mcons tw_821 (mcons tw_823 (mcons tw_17 (mcons tw_824 mnil))))))))))
set_option maxRecDepth 20000 in
theorem ml_wsX7_about : ∀ w ∈ wsX7_about, w ∈ lw_tbl := (mcons tw_808 (memapp (memapp ml_wsX7_about_r1 ml_wsX7_about_r2) ml_wsX70))
set_option maxRecDepth 20000 in
theorem ml_wsX7_as : ∀ w ∈ wsX7_as, w ∈ lw_tbl := (mcons tw_828 (memapp (mcons tw_652 (mcons tw_809 (mcons tw_811 (mcons tw_14 (mcons tw_53 (mcons tw_812 (mcons tw_651 (mcons tw_760 (mcons tw_761 (mcons tw_762 mnil)))))))))) ml_wsX70))
set_option maxRecDepth 20000 in
theorem ml_wsX7_has : ∀ w ∈ wsX7_has, w ∈ lw_tbl := (mcons tw_832 (memapp (mcons tw_833 (mcons tw_835 (mcons tw_18 (mcons tw_53 (mcons tw_836 (mcons tw_651 (mcons tw_760 (mcons tw_761 (mcons tw_762 (mcons tw_837 (mcons tw_839 (mcons tw_19 (mcons tw_840 (mcons tw_654 mnil)))))))))))))) ml_wsX70))
set_option maxRecDepth 20000 in
theorem ml_wsX7_worth : ∀ w ∈ wsX7_worth, w ∈ lw_tbl := (mcons tw_844 (memapp (mcons tw_653 (mcons tw_809 (mcons tw_811 (mcons tw_14 (mcons tw_53 (mcons tw_812 (mcons tw_651 (mcons tw_760 (mcons tw_761 (mcons tw_762 (mcons tw_833 (mcons tw_835 (mcons tw_18 (mcons tw_836 mnil)))))))))))))) ml_wsX70))
set_option maxRecDepth 20000 in
theorem ml_wsX7_deal_r1 : ∀ w ∈ wsX7_deal_r1, w ∈ lw_tbl := (mcons tw_651 (mcons tw_786 (mcons tw_788 (mcons tw_10 (mcons tw_53 (mcons tw_789 (mcons tw_654 (mcons tw_665 (mcons tw_790 (mcons tw_792 (mcons tw_11 (mcons tw_793 (mcons tw_664 (mcons tw_794 (mcons tw_796 (mcons tw_12 (mcons tw_797 (mcons tw_798 (mcons tw_800 (mcons tw_13 (mcons tw_801 (mcons tw_653 (mcons tw_652 (mcons tw_802 mnil))))))))))))))))))))))))
set_option maxRecDepth 20000 in
theorem ml_wsX7_deal_r2 : ∀ w ∈ wsX7_deal_r2, w ∈ lw_tbl := (mcons tw_803 (mcons tw_804 mnil))
set_option maxRecDepth 20000 in
theorem ml_wsX7_deal : ∀ w ∈ wsX7_deal, w ∈ lw_tbl := (mcons tw_848 (memapp (memapp ml_wsX7_deal_r1 ml_wsX7_deal_r2) ml_wsX70))
set_option maxRecDepth 20000 in
theorem ml_wsX7_may_r1 : ∀ w ∈ wsX7_may_r1, w ∈ lw_tbl := (mcons tw_853 (mcons tw_855 (mcons tw_20 (mcons tw_53 (mcons tw_856 (mcons tw_809 (mcons tw_811 (mcons tw_14 (mcons tw_812 (mcons tw_651 (mcons tw_760 (mcons tw_761 (mcons tw_762 (mcons tw_857 (mcons tw_859 (mcons tw_21 (mcons tw_860 (mcons tw_654 (mcons tw_794 (mcons tw_796 (mcons tw_12 (mcons tw_797 (mcons tw_664 (mcons tw_798 mnil))))))))))))))))))))))))
set_option maxRecDepth 20000 in
theorem ml_wsX7_may_r2 : ∀ w ∈ wsX7_may_r2, w ∈ lw_tbl := (mcons tw_800 (mcons tw_13 (mcons tw_801 (mcons tw_653 (mcons tw_652 (mcons tw_861 (mcons tw_863 (mcons tw_22 (mcons tw_864 (mcons tw_865 (mcons tw_867 (mcons tw_23 (mcons tw_868 mnil)))))))))))))
set_option maxRecDepth 20000 in
theorem ml_wsX7_may : ∀ w ∈ wsX7_may, w ∈ lw_tbl := (mcons tw_852 (memapp (memapp ml_wsX7_may_r1 ml_wsX7_may_r2) ml_wsX70))
set_option maxRecDepth 20000 in
theorem ml_wsX7_change_r1 : ∀ w ∈ wsX7_change_r1, w ∈ lw_tbl := (mcons tw_654 (mcons tw_655 (mcons tw_656 (mcons tw_853 (mcons tw_855 (mcons tw_20 (mcons tw_53 (mcons tw_856 (mcons tw_809 (mcons tw_811 (mcons tw_14 (mcons tw_812 (mcons tw_651 (mcons tw_760 (mcons tw_761 (mcons tw_762 (mcons tw_857 (mcons tw_859 (mcons tw_21 (mcons tw_860 (mcons tw_794 (mcons tw_796 (mcons tw_12 (mcons tw_797 mnil))))))))))))))))))))))))
set_option maxRecDepth 20000 in
theorem ml_wsX7_change_r2 : ∀ w ∈ wsX7_change_r2, w ∈ lw_tbl := (mcons tw_664 (mcons tw_798 (mcons tw_800 (mcons tw_13 (mcons tw_801 (mcons tw_653 (mcons tw_652 (mcons tw_861 (mcons tw_863 (mcons tw_22 (mcons tw_864 (mcons tw_865 (mcons tw_867 (mcons tw_23 (mcons tw_868 mnil)))))))))))))))
set_option maxRecDepth 20000 in
theorem ml_wsX7_change : ∀ w ∈ wsX7_change, w ∈ lw_tbl := (mcons tw_872 (memapp (memapp ml_wsX7_change_r1 ml_wsX7_change_r2) ml_wsX70))
set_option maxRecDepth 20000 in
theorem ml_wsX7_ends_r1 : ∀ w ∈ wsX7_ends_r1, w ∈ lw_tbl := (mcons tw_651 (mcons tw_760 (mcons tw_761 (mcons tw_53 (mcons tw_762 (mcons tw_877 (mcons tw_879 (mcons tw_24 (mcons tw_880 (mcons tw_667 (mcons tw_668 (mcons tw_669 (mcons tw_670 (mcons tw_881 (mcons tw_883 (mcons tw_25 (mcons tw_884 (mcons tw_666 (mcons tw_889 (mcons tw_794 (mcons tw_796 (mcons tw_12 (mcons tw_797 (mcons tw_664 mnil))))))))))))))))))))))))
set_option maxRecDepth 20000 in
theorem ml_wsX7_ends_r2 : ∀ w ∈ wsX7_ends_r2, w ∈ lw_tbl := (mcons tw_798 (mcons tw_800 (mcons tw_13 (mcons tw_801 (mcons tw_653 (mcons tw_652 (mcons tw_885 (mcons tw_887 (mcons tw_26 (mcons tw_888 (mcons tw_654 (mcons tw_890 (mcons tw_892 (mcons tw_27 (mcons tw_893 (mcons tw_894 (mcons tw_895 (mcons tw_896 (mcons tw_861 (mcons tw_863 (mcons tw_22 (mcons tw_864 (mcons tw_865 (mcons tw_867 mnil))))))))))))))))))))))))
set_option maxRecDepth 20000 in
theorem ml_wsX7_ends_r3 : ∀ w ∈ wsX7_ends_r3, w ∈ lw_tbl := (mcons tw_23 (mcons tw_868 (mcons tw_897 (mcons tw_899 (mcons tw_28 (mcons tw_900 mnil))))))
set_option maxRecDepth 20000 in
theorem ml_wsX7_ends : ∀ w ∈ wsX7_ends, w ∈ lw_tbl := (mcons tw_876 (memapp (memapp ml_wsX7_ends_r1 (memapp ml_wsX7_ends_r2 ml_wsX7_ends_r3)) ml_wsX70))
set_option maxRecDepth 20000 in
theorem ml_wsX7_served_r1 : ∀ w ∈ wsX7_served_r1, w ∈ lw_tbl := (mcons tw_809 (mcons tw_811 (mcons tw_14 (mcons tw_53 (mcons tw_812 (mcons tw_651 (mcons tw_760 (mcons tw_761 (mcons tw_762 (mcons tw_905 (mcons tw_907 (mcons tw_29 (mcons tw_908 (mcons tw_652 (mcons tw_653 (mcons tw_665 (mcons tw_790 (mcons tw_792 (mcons tw_11 (mcons tw_793 (mcons tw_664 (mcons tw_794 (mcons tw_796 (mcons tw_12 mnil))))))))))))))))))))))))
set_option maxRecDepth 20000 in
theorem ml_wsX7_served_r2 : ∀ w ∈ wsX7_served_r2, w ∈ lw_tbl := (mcons tw_797 (mcons tw_798 (mcons tw_800 (mcons tw_13 (mcons tw_801 (mcons tw_802 (mcons tw_803 (mcons tw_804 mnil))))))))
set_option maxRecDepth 20000 in
theorem ml_wsX7_served : ∀ w ∈ wsX7_served, w ∈ lw_tbl := (mcons tw_904 (memapp (memapp ml_wsX7_served_r1 ml_wsX7_served_r2) ml_wsX70))
set_option maxRecDepth 20000 in
theorem ml_wsX7_worst_r1 : ∀ w ∈ wsX7_worst_r1, w ∈ lw_tbl := (mcons tw_651 (mcons tw_760 (mcons tw_761 (mcons tw_53 (mcons tw_762 (mcons tw_913 (mcons tw_915 (mcons tw_30 (mcons tw_916 (mcons tw_889 (mcons tw_917 (mcons tw_919 (mcons tw_31 (mcons tw_920 (mcons tw_653 (mcons tw_921 (mcons tw_923 (mcons tw_32 (mcons tw_924 (mcons tw_802 (mcons tw_803 (mcons tw_804 (mcons tw_809 (mcons tw_811 mnil))))))))))))))))))))))))
set_option maxRecDepth 20000 in
theorem ml_wsX7_worst_r2 : ∀ w ∈ wsX7_worst_r2, w ∈ lw_tbl := (mcons tw_14 (mcons tw_812 mnil))
set_option maxRecDepth 20000 in
theorem ml_wsX7_worst : ∀ w ∈ wsX7_worst, w ∈ lw_tbl := (mcons tw_912 (memapp (memapp ml_wsX7_worst_r1 ml_wsX7_worst_r2) ml_wsX70))
set_option maxRecDepth 20000 in
theorem ml_wsX7_hear : ∀ w ∈ wsX7_hear, w ∈ lw_tbl := (mcons tw_928 (memapp (mcons tw_657 (mcons tw_658 (mcons tw_659 (mcons tw_660 (mcons tw_661 (mcons tw_809 (mcons tw_811 (mcons tw_14 (mcons tw_53 (mcons tw_812 (mcons tw_651 (mcons tw_760 (mcons tw_761 (mcons tw_762 (mcons tw_833 (mcons tw_835 (mcons tw_18 (mcons tw_836 mnil)))))))))))))))))) ml_wsX70))
set_option maxRecDepth 20000 in
theorem ml_wsX7_forget : ∀ w ∈ wsX7_forget, w ∈ lw_tbl := (mcons tw_932 (memapp (mcons tw_657 mnil) ml_wsX70))
set_option maxRecDepth 20000 in
theorem ml_wsX7_truths_r1 : ∀ w ∈ wsX7_truths_r1, w ∈ lw_tbl := (mcons tw_809 (mcons tw_811 (mcons tw_14 (mcons tw_53 (mcons tw_812 (mcons tw_651 (mcons tw_760 (mcons tw_761 (mcons tw_762 (mcons tw_833 (mcons tw_835 (mcons tw_18 (mcons tw_836 (mcons tw_937 (mcons tw_939 (mcons tw_33 (mcons tw_940 (mcons tw_941 (mcons tw_943 (mcons tw_34 (mcons tw_944 (mcons tw_657 (mcons tw_659 (mcons tw_660 mnil))))))))))))))))))))))))
set_option maxRecDepth 20000 in
theorem ml_wsX7_truths_r2 : ∀ w ∈ wsX7_truths_r2, w ∈ lw_tbl := (mcons tw_658 (mcons tw_661 (mcons tw_945 (mcons tw_947 (mcons tw_35 (mcons tw_948 (mcons tw_653 mnil)))))))
set_option maxRecDepth 20000 in
theorem ml_wsX7_truths : ∀ w ∈ wsX7_truths, w ∈ lw_tbl := (mcons tw_936 (memapp (memapp ml_wsX7_truths_r1 ml_wsX7_truths_r2) ml_wsX70))
set_option maxRecDepth 20000 in
theorem ml_wsX7_ask_r1 : ∀ w ∈ wsX7_ask_r1, w ∈ lw_tbl := (mcons tw_809 (mcons tw_811 (mcons tw_14 (mcons tw_53 (mcons tw_812 (mcons tw_651 (mcons tw_760 (mcons tw_761 (mcons tw_762 (mcons tw_833 (mcons tw_835 (mcons tw_18 (mcons tw_836 (mcons tw_953 (mcons tw_955 (mcons tw_36 (mcons tw_956 (mcons tw_889 (mcons tw_653 (mcons tw_937 (mcons tw_939 (mcons tw_33 (mcons tw_940 (mcons tw_941 mnil))))))))))))))))))))))))
set_option maxRecDepth 20000 in
theorem ml_wsX7_ask_r2 : ∀ w ∈ wsX7_ask_r2, w ∈ lw_tbl := (mcons tw_943 (mcons tw_34 (mcons tw_944 (mcons tw_657 (mcons tw_659 (mcons tw_660 (mcons tw_658 (mcons tw_661 (mcons tw_945 (mcons tw_947 (mcons tw_35 (mcons tw_948 (mcons tw_802 (mcons tw_803 (mcons tw_804 mnil)))))))))))))))
set_option maxRecDepth 20000 in
theorem ml_wsX7_ask : ∀ w ∈ wsX7_ask, w ∈ lw_tbl := (mcons tw_952 (memapp (memapp ml_wsX7_ask_r1 ml_wsX7_ask_r2) ml_wsX70))
set_option maxRecDepth 20000 in
theorem ml_wsX7_years_r1 : ∀ w ∈ wsX7_years_r1, w ∈ lw_tbl := (mcons tw_651 (mcons tw_760 (mcons tw_761 (mcons tw_53 (mcons tw_762 (mcons tw_961 (mcons tw_963 (mcons tw_37 (mcons tw_964 (mcons tw_672 (mcons tw_654 (mcons tw_671 (mcons tw_965 (mcons tw_967 (mcons tw_38 (mcons tw_968 (mcons tw_969 (mcons tw_970 (mcons tw_971 (mcons tw_972 (mcons tw_857 (mcons tw_859 (mcons tw_21 (mcons tw_860 mnil))))))))))))))))))))))))
set_option maxRecDepth 20000 in
theorem ml_wsX7_years_r2 : ∀ w ∈ wsX7_years_r2, w ∈ lw_tbl := (mcons tw_794 (mcons tw_796 (mcons tw_12 (mcons tw_797 (mcons tw_664 (mcons tw_798 (mcons tw_800 (mcons tw_13 (mcons tw_801 (mcons tw_653 (mcons tw_652 (mcons tw_861 (mcons tw_863 (mcons tw_22 (mcons tw_864 (mcons tw_865 (mcons tw_867 (mcons tw_23 (mcons tw_868 (mcons tw_973 (mcons tw_975 (mcons tw_39 (mcons tw_976 (mcons tw_821 mnil))))))))))))))))))))))))
set_option maxRecDepth 20000 in
theorem ml_wsX7_years_r3 : ∀ w ∈ wsX7_years_r3, w ∈ lw_tbl := (mcons tw_823 (mcons tw_17 (mcons tw_824 mnil)))
set_option maxRecDepth 20000 in
theorem ml_wsX7_years : ∀ w ∈ wsX7_years, w ∈ lw_tbl := (mcons tw_960 (memapp (memapp ml_wsX7_years_r1 (memapp ml_wsX7_years_r2 ml_wsX7_years_r3)) ml_wsX70))
set_option maxRecDepth 20000 in
theorem ml_wsX7_image : ∀ w ∈ wsX7_image, w ∈ lw_tbl := (mcons tw_980 (memapp (mcons tw_651 (mcons tw_673 (mcons tw_650 (mcons tw_674 (mcons tw_656 (mcons tw_675 (mcons tw_657 (mcons tw_676 (mcons tw_677 (mcons tw_653 (mcons tw_678 (mcons tw_654 (mcons tw_679 (mcons tw_655 (mcons tw_680 (mcons tw_658 (mcons tw_681 (mcons tw_659 (mcons tw_682 (mcons tw_660 (mcons tw_683 (mcons tw_661 mnil)))))))))))))))))))))) ml_wsX70))
set_option maxRecDepth 20000 in
theorem ml_wsX7_restore : ∀ w ∈ wsX7_restore, w ∈ lw_tbl := (mcons tw_984 (memapp (mcons tw_673 (mcons tw_674 (mcons tw_650 (mcons tw_675 (mcons tw_656 (mcons tw_676 (mcons tw_657 (mcons tw_653 (mcons tw_677 (mcons tw_654 (mcons tw_678 (mcons tw_655 (mcons tw_679 (mcons tw_658 (mcons tw_680 (mcons tw_659 (mcons tw_681 (mcons tw_660 (mcons tw_682 (mcons tw_661 (mcons tw_683 mnil))))))))))))))))))))) ml_wsX70))
set_option maxRecDepth 20000 in
theorem ml_wsX7_count_r1 : ∀ w ∈ wsX7_count_r1, w ∈ lw_tbl := (mcons tw_989 (mcons tw_991 (mcons tw_40 (mcons tw_53 (mcons tw_992 (mcons tw_651 (mcons tw_656 (mcons tw_657 (mcons tw_662 (mcons tw_650 (mcons tw_973 (mcons tw_975 (mcons tw_39 (mcons tw_976 (mcons tw_821 (mcons tw_823 (mcons tw_17 (mcons tw_824 (mcons tw_653 (mcons tw_654 (mcons tw_885 (mcons tw_887 (mcons tw_26 (mcons tw_888 mnil))))))))))))))))))))))))
set_option maxRecDepth 20000 in
theorem ml_wsX7_count_r2 : ∀ w ∈ wsX7_count_r2, w ∈ lw_tbl := (mcons tw_897 (mcons tw_899 (mcons tw_28 (mcons tw_900 (mcons tw_894 (mcons tw_895 (mcons tw_896 mnil)))))))
set_option maxRecDepth 20000 in
theorem ml_wsX7_count : ∀ w ∈ wsX7_count, w ∈ lw_tbl := (mcons tw_988 (memapp (memapp ml_wsX7_count_r1 ml_wsX7_count_r2) ml_wsX70))
set_option maxRecDepth 20000 in
theorem ml_wsX7_digest_r1 : ∀ w ∈ wsX7_digest_r1, w ∈ lw_tbl := (mcons tw_997 (mcons tw_684 (mcons tw_651 (mcons tw_662 (mcons tw_663 (mcons tw_998 (mcons tw_1000 (mcons tw_41 (mcons tw_53 (mcons tw_1001 (mcons tw_837 (mcons tw_839 (mcons tw_19 (mcons tw_840 (mcons tw_654 (mcons tw_1002 (mcons tw_1004 (mcons tw_42 (mcons tw_1005 (mcons tw_1006 (mcons tw_877 (mcons tw_879 (mcons tw_24 (mcons tw_880 mnil))))))))))))))))))))))))
set_option maxRecDepth 20000 in
theorem ml_wsX7_digest_r2 : ∀ w ∈ wsX7_digest_r2, w ∈ lw_tbl := (mcons tw_667 (mcons tw_668 (mcons tw_669 (mcons tw_670 (mcons tw_881 (mcons tw_883 (mcons tw_25 (mcons tw_884 (mcons tw_666 (mcons tw_889 (mcons tw_794 (mcons tw_796 (mcons tw_12 (mcons tw_797 (mcons tw_664 (mcons tw_798 (mcons tw_800 (mcons tw_13 (mcons tw_801 (mcons tw_653 (mcons tw_652 (mcons tw_885 (mcons tw_887 (mcons tw_26 mnil))))))))))))))))))))))))
set_option maxRecDepth 20000 in
theorem ml_wsX7_digest_r3 : ∀ w ∈ wsX7_digest_r3, w ∈ lw_tbl := (mcons tw_888 (mcons tw_890 (mcons tw_892 (mcons tw_27 (mcons tw_893 (mcons tw_894 (mcons tw_895 (mcons tw_896 (mcons tw_861 (mcons tw_863 (mcons tw_22 (mcons tw_864 (mcons tw_865 (mcons tw_867 (mcons tw_23 (mcons tw_868 (mcons tw_897 (mcons tw_899 (mcons tw_28 (mcons tw_900 (mcons tw_913 (mcons tw_915 (mcons tw_30 (mcons tw_916 mnil))))))))))))))))))))))))
set_option maxRecDepth 20000 in
theorem ml_wsX7_digest_r4 : ∀ w ∈ wsX7_digest_r4, w ∈ lw_tbl := (mcons tw_917 (mcons tw_919 (mcons tw_31 (mcons tw_920 (mcons tw_921 (mcons tw_923 (mcons tw_32 (mcons tw_924 (mcons tw_802 (mcons tw_803 (mcons tw_804 (mcons tw_809 (mcons tw_811 (mcons tw_14 (mcons tw_812 (mcons tw_760 (mcons tw_761 (mcons tw_762 (mcons tw_1007 (mcons tw_1009 (mcons tw_43 (mcons tw_1010 (mcons tw_813 (mcons tw_815 mnil))))))))))))))))))))))))
set_option maxRecDepth 20000 in
theorem ml_wsX7_digest_r5 : ∀ w ∈ wsX7_digest_r5, w ∈ lw_tbl := (mcons tw_15 (mcons tw_816 (mcons tw_655 (mcons tw_817 (mcons tw_819 (mcons tw_16 (mcons tw_820 (mcons tw_821 (mcons tw_823 (mcons tw_17 (mcons tw_824 (mcons tw_905 (mcons tw_907 (mcons tw_29 (mcons tw_908 (mcons tw_665 (mcons tw_790 (mcons tw_792 (mcons tw_11 (mcons tw_793 (mcons tw_937 (mcons tw_939 (mcons tw_33 (mcons tw_940 mnil))))))))))))))))))))))))
set_option maxRecDepth 20000 in
theorem ml_wsX7_digest_r6 : ∀ w ∈ wsX7_digest_r6, w ∈ lw_tbl := (mcons tw_941 (mcons tw_943 (mcons tw_34 (mcons tw_944 (mcons tw_657 (mcons tw_659 (mcons tw_660 (mcons tw_658 (mcons tw_661 (mcons tw_945 (mcons tw_947 (mcons tw_35 (mcons tw_948 (mcons tw_953 (mcons tw_955 (mcons tw_36 (mcons tw_956 (mcons tw_989 (mcons tw_991 (mcons tw_40 (mcons tw_992 (mcons tw_656 (mcons tw_650 (mcons tw_973 mnil))))))))))))))))))))))))
set_option maxRecDepth 20000 in
theorem ml_wsX7_digest_r7 : ∀ w ∈ wsX7_digest_r7, w ∈ lw_tbl := (mcons tw_975 (mcons tw_39 (mcons tw_976 mnil)))
set_option maxRecDepth 20000 in
theorem ml_wsX7_digest : ∀ w ∈ wsX7_digest, w ∈ lw_tbl := (mcons tw_996 (memapp (memapp ml_wsX7_digest_r1 (memapp ml_wsX7_digest_r2 (memapp ml_wsX7_digest_r3 (memapp ml_wsX7_digest_r4 (memapp ml_wsX7_digest_r5 (memapp ml_wsX7_digest_r6 ml_wsX7_digest_r7)))))) ml_wsX70))
set_option maxRecDepth 20000 in
theorem gT_X6_init : GoodIn lw_tbl wsX6_init := goodIn_sub ml_wsX6_init (by decide +kernel)
set_option maxRecDepth 20000 in
theorem gT_X6_letter : GoodIn lw_tbl (wsV RL 13 RX6 yX6_letter wsX6_letter) := goodIn_sub (memapp (mcons tw_234 (mcons tw_235 (mcons tw_236 (mcons tw_45 mnil)))) ml_wsX6_letter) (by decide +kernel)
set_option maxRecDepth 20000 in
theorem gT_X6_blank : GoodIn lw_tbl (wsV RL 18 RX6 yX6_blank wsX6_blank) := goodIn_sub (memapp (mcons tw_246 (mcons tw_247 (mcons tw_248 (mcons tw_45 mnil)))) ml_wsX6_blank) (by decide +kernel)
set_option maxRecDepth 20000 in
theorem gT_X6_fault : GoodIn lw_tbl (wsV RL 23 RX6 yX6_fault wsX6_fault) := goodIn_sub (memapp (mcons tw_250 (mcons tw_251 (mcons tw_252 (mcons tw_45 mnil)))) ml_wsX6_fault) (by decide +kernel)
set_option maxRecDepth 20000 in
theorem gT_X6_will : GoodIn lw_tbl (wsV RL 27 RX6 yX6_will wsX6_will) := goodIn_sub (memapp (mcons tw_354 (mcons tw_355 (mcons tw_356 (mcons tw_45 mnil)))) ml_wsX6_will) (by decide +kernel)
set_option maxRecDepth 20000 in
theorem gT_X6_about : GoodIn lw_tbl (wsV RL 31 RX6 yX6_about wsX6_about) := goodIn_sub (memapp (mcons tw_409 (mcons tw_410 (mcons tw_411 (mcons tw_45 mnil)))) ml_wsX6_about) (by decide +kernel)
set_option maxRecDepth 20000 in
theorem gT_X6_as : GoodIn lw_tbl (wsV RL 36 RX6 yX6_as wsX6_as) := goodIn_sub (memapp (mcons tw_439 (mcons tw_440 (mcons tw_441 (mcons tw_45 mnil)))) ml_wsX6_as) (by decide +kernel)
set_option maxRecDepth 20000 in
theorem gT_X6_has : GoodIn lw_tbl (wsV RL 40 RX6 yX6_has wsX6_has) := goodIn_sub (memapp (mcons tw_446 (mcons tw_447 (mcons tw_448 (mcons tw_45 mnil)))) ml_wsX6_has) (by decide +kernel)
set_option maxRecDepth 20000 in
theorem gT_X6_worth : GoodIn lw_tbl (wsV RL 44 RX6 yX6_worth wsX6_worth) := goodIn_sub (memapp (mcons tw_455 (mcons tw_456 (mcons tw_457 (mcons tw_45 mnil)))) ml_wsX6_worth) (by decide +kernel)
set_option maxRecDepth 20000 in
theorem gT_X6_deal : GoodIn lw_tbl (wsV RL 49 RX6 yX6_deal wsX6_deal) := goodIn_sub (memapp (mcons tw_460 (mcons tw_461 (mcons tw_462 (mcons tw_45 mnil)))) ml_wsX6_deal) (by decide +kernel)
set_option maxRecDepth 20000 in
theorem gT_X6_may : GoodIn lw_tbl (wsV RL 53 RX6 yX6_may wsX6_may) := goodIn_sub (memapp (mcons tw_469 (mcons tw_470 (mcons tw_471 (mcons tw_45 mnil)))) ml_wsX6_may) (by decide +kernel)
set_option maxRecDepth 20000 in
theorem gT_X6_change : GoodIn lw_tbl (wsV RL 57 RX6 yX6_change wsX6_change) := goodIn_sub (memapp (mcons tw_481 (mcons tw_482 (mcons tw_483 (mcons tw_45 mnil)))) ml_wsX6_change) (by decide +kernel)
set_option maxRecDepth 20000 in
theorem gT_X6_ends : GoodIn lw_tbl (wsV RL 61 RX6 yX6_ends wsX6_ends) := goodIn_sub (memapp (mcons tw_494 (mcons tw_495 (mcons tw_496 (mcons tw_45 mnil)))) ml_wsX6_ends) (by decide +kernel)
set_option maxRecDepth 20000 in
theorem gT_X6_served : GoodIn lw_tbl (wsV RL 65 RX6 yX6_served wsX6_served) := goodIn_sub (memapp (mcons tw_524 (mcons tw_525 (mcons tw_526 (mcons tw_45 mnil)))) ml_wsX6_served) (by decide +kernel)
set_option maxRecDepth 20000 in
theorem gT_X6_worst : GoodIn lw_tbl (wsV RL 69 RX6 yX6_worst wsX6_worst) := goodIn_sub (memapp (mcons tw_530 (mcons tw_531 (mcons tw_532 (mcons tw_45 mnil)))) ml_wsX6_worst) (by decide +kernel)
set_option maxRecDepth 20000 in
theorem gT_X6_hear : GoodIn lw_tbl (wsV RL 73 RX6 yX6_hear wsX6_hear) := goodIn_sub (memapp (mcons tw_551 (mcons tw_552 (mcons tw_553 (mcons tw_45 mnil)))) ml_wsX6_hear) (by decide +kernel)
set_option maxRecDepth 20000 in
theorem gT_X6_forget : GoodIn lw_tbl (wsV RL 78 RX6 yX6_forget wsX6_forget) := goodIn_sub (memapp (mcons tw_559 (mcons tw_560 (mcons tw_561 (mcons tw_45 mnil)))) ml_wsX6_forget) (by decide +kernel)
set_option maxRecDepth 20000 in
theorem gT_X6_truths : GoodIn lw_tbl (wsV RL 82 RX6 yX6_truths wsX6_truths) := goodIn_sub (memapp (mcons tw_563 (mcons tw_564 (mcons tw_565 (mcons tw_45 mnil)))) ml_wsX6_truths) (by decide +kernel)
set_option maxRecDepth 20000 in
theorem gT_X6_ask : GoodIn lw_tbl (wsV RL 86 RX6 yX6_ask wsX6_ask) := goodIn_sub (memapp (mcons tw_571 (mcons tw_572 (mcons tw_573 (mcons tw_45 mnil)))) ml_wsX6_ask) (by decide +kernel)
set_option maxRecDepth 20000 in
theorem gT_X6_years : GoodIn lw_tbl (wsV RL 90 RX6 yX6_years wsX6_years) := goodIn_sub (memapp (mcons tw_581 (mcons tw_582 (mcons tw_583 (mcons tw_45 mnil)))) ml_wsX6_years) (by decide +kernel)
set_option maxRecDepth 20000 in
theorem gT_X6_image : GoodIn lw_tbl (wsV RL 94 RX6 yX6_image wsX6_image) := goodIn_sub (memapp (mcons tw_600 (mcons tw_601 (mcons tw_602 (mcons tw_45 mnil)))) ml_wsX6_image) (by decide +kernel)
set_option maxRecDepth 20000 in
theorem gT_X6_restore : GoodIn lw_tbl (wsV RL 98 RX6 yX6_restore wsX6_restore) := goodIn_sub (memapp (mcons tw_616 (mcons tw_617 (mcons tw_618 (mcons tw_45 mnil)))) ml_wsX6_restore) (by decide +kernel)
set_option maxRecDepth 20000 in
theorem gT_X6_count : GoodIn lw_tbl (wsV RL 102 RX6 yX6_count wsX6_count) := goodIn_sub (memapp (mcons tw_620 (mcons tw_621 (mcons tw_622 (mcons tw_45 mnil)))) ml_wsX6_count) (by decide +kernel)
set_option maxRecDepth 20000 in
theorem gT_X6_digest : GoodIn lw_tbl (wsV RL 106 RX6 yX6_digest wsX6_digest) := goodIn_sub (memapp (mcons tw_624 (mcons tw_625 (mcons tw_626 (mcons tw_45 mnil)))) ml_wsX6_digest) (by decide +kernel)
set_option maxRecDepth 20000 in
theorem gT_X7_init : GoodIn lw_tbl wsX7_init := goodIn_sub ml_wsX7_init (by decide +kernel)
set_option maxRecDepth 20000 in
theorem gT_X7_letter : GoodIn lw_tbl (wsV RL 17 RX7 yX7_letter wsX7_letter) := goodIn_sub (memapp (mcons tw_756 (mcons tw_757 (mcons tw_758 (mcons tw_53 mnil)))) ml_wsX7_letter) (by decide +kernel)
set_option maxRecDepth 20000 in
theorem gT_X7_blank : GoodIn lw_tbl (wsV RL 22 RX7 yX7_blank wsX7_blank) := goodIn_sub (memapp (mcons tw_763 (mcons tw_764 (mcons tw_765 (mcons tw_53 mnil)))) ml_wsX7_blank) (by decide +kernel)
set_option maxRecDepth 20000 in
theorem gT_X7_fault : GoodIn lw_tbl (wsV RL 26 RX7 yX7_fault wsX7_fault) := goodIn_sub (memapp (mcons tw_767 (mcons tw_768 (mcons tw_769 (mcons tw_53 mnil)))) ml_wsX7_fault) (by decide +kernel)
set_option maxRecDepth 20000 in
theorem gT_X7_will : GoodIn lw_tbl (wsV RL 30 RX7 yX7_will wsX7_will) := goodIn_sub (memapp (mcons tw_782 (mcons tw_783 (mcons tw_784 (mcons tw_53 mnil)))) ml_wsX7_will) (by decide +kernel)
set_option maxRecDepth 20000 in
theorem gT_X7_about : GoodIn lw_tbl (wsV RL 35 RX7 yX7_about wsX7_about) := goodIn_sub (memapp (mcons tw_805 (mcons tw_806 (mcons tw_807 (mcons tw_53 mnil)))) ml_wsX7_about) (by decide +kernel)
set_option maxRecDepth 20000 in
theorem gT_X7_as : GoodIn lw_tbl (wsV RL 39 RX7 yX7_as wsX7_as) := goodIn_sub (memapp (mcons tw_825 (mcons tw_826 (mcons tw_827 (mcons tw_53 mnil)))) ml_wsX7_as) (by decide +kernel)
set_option maxRecDepth 20000 in
theorem gT_X7_has : GoodIn lw_tbl (wsV RL 43 RX7 yX7_has wsX7_has) := goodIn_sub (memapp (mcons tw_829 (mcons tw_830 (mcons tw_831 (mcons tw_53 mnil)))) ml_wsX7_has) (by decide +kernel)
set_option maxRecDepth 20000 in
theorem gT_X7_worth : GoodIn lw_tbl (wsV RL 48 RX7 yX7_worth wsX7_worth) := goodIn_sub (memapp (mcons tw_841 (mcons tw_842 (mcons tw_843 (mcons tw_53 mnil)))) ml_wsX7_worth) (by decide +kernel)
set_option maxRecDepth 20000 in
theorem gT_X7_deal : GoodIn lw_tbl (wsV RL 52 RX7 yX7_deal wsX7_deal) := goodIn_sub (memapp (mcons tw_845 (mcons tw_846 (mcons tw_847 (mcons tw_53 mnil)))) ml_wsX7_deal) (by decide +kernel)
set_option maxRecDepth 20000 in
theorem gT_X7_may : GoodIn lw_tbl (wsV RL 56 RX7 yX7_may wsX7_may) := goodIn_sub (memapp (mcons tw_849 (mcons tw_850 (mcons tw_851 (mcons tw_53 mnil)))) ml_wsX7_may) (by decide +kernel)
set_option maxRecDepth 20000 in
theorem gT_X7_change : GoodIn lw_tbl (wsV RL 60 RX7 yX7_change wsX7_change) := goodIn_sub (memapp (mcons tw_869 (mcons tw_870 (mcons tw_871 (mcons tw_53 mnil)))) ml_wsX7_change) (by decide +kernel)
set_option maxRecDepth 20000 in
theorem gT_X7_ends : GoodIn lw_tbl (wsV RL 64 RX7 yX7_ends wsX7_ends) := goodIn_sub (memapp (mcons tw_873 (mcons tw_874 (mcons tw_875 (mcons tw_53 mnil)))) ml_wsX7_ends) (by decide +kernel)
set_option maxRecDepth 20000 in
theorem gT_X7_served : GoodIn lw_tbl (wsV RL 68 RX7 yX7_served wsX7_served) := goodIn_sub (memapp (mcons tw_901 (mcons tw_902 (mcons tw_903 (mcons tw_53 mnil)))) ml_wsX7_served) (by decide +kernel)
set_option maxRecDepth 20000 in
theorem gT_X7_worst : GoodIn lw_tbl (wsV RL 72 RX7 yX7_worst wsX7_worst) := goodIn_sub (memapp (mcons tw_909 (mcons tw_910 (mcons tw_911 (mcons tw_53 mnil)))) ml_wsX7_worst) (by decide +kernel)
set_option maxRecDepth 20000 in
theorem gT_X7_hear : GoodIn lw_tbl (wsV RL 77 RX7 yX7_hear wsX7_hear) := goodIn_sub (memapp (mcons tw_925 (mcons tw_926 (mcons tw_927 (mcons tw_53 mnil)))) ml_wsX7_hear) (by decide +kernel)
set_option maxRecDepth 20000 in
theorem gT_X7_forget : GoodIn lw_tbl (wsV RL 81 RX7 yX7_forget wsX7_forget) := goodIn_sub (memapp (mcons tw_929 (mcons tw_930 (mcons tw_931 (mcons tw_53 mnil)))) ml_wsX7_forget) (by decide +kernel)
set_option maxRecDepth 20000 in
theorem gT_X7_truths : GoodIn lw_tbl (wsV RL 85 RX7 yX7_truths wsX7_truths) := goodIn_sub (memapp (mcons tw_933 (mcons tw_934 (mcons tw_935 (mcons tw_53 mnil)))) ml_wsX7_truths) (by decide +kernel)
set_option maxRecDepth 20000 in
theorem gT_X7_ask : GoodIn lw_tbl (wsV RL 89 RX7 yX7_ask wsX7_ask) := goodIn_sub (memapp (mcons tw_949 (mcons tw_950 (mcons tw_951 (mcons tw_53 mnil)))) ml_wsX7_ask) (by decide +kernel)
set_option maxRecDepth 20000 in
theorem gT_X7_years : GoodIn lw_tbl (wsV RL 93 RX7 yX7_years wsX7_years) := goodIn_sub (memapp (mcons tw_957 (mcons tw_958 (mcons tw_959 (mcons tw_53 mnil)))) ml_wsX7_years) (by decide +kernel)
set_option maxRecDepth 20000 in
theorem gT_X7_image : GoodIn lw_tbl (wsV RL 97 RX7 yX7_image wsX7_image) := goodIn_sub (memapp (mcons tw_977 (mcons tw_978 (mcons tw_979 (mcons tw_53 mnil)))) ml_wsX7_image) (by decide +kernel)
set_option maxRecDepth 20000 in
theorem gT_X7_restore : GoodIn lw_tbl (wsV RL 101 RX7 yX7_restore wsX7_restore) := goodIn_sub (memapp (mcons tw_981 (mcons tw_982 (mcons tw_983 (mcons tw_53 mnil)))) ml_wsX7_restore) (by decide +kernel)
set_option maxRecDepth 20000 in
theorem gT_X7_count : GoodIn lw_tbl (wsV RL 105 RX7 yX7_count wsX7_count) := goodIn_sub (memapp (mcons tw_985 (mcons tw_986 (mcons tw_987 (mcons tw_53 mnil)))) ml_wsX7_count) (by decide +kernel)
set_option maxRecDepth 20000 in
theorem gT_X7_digest : GoodIn lw_tbl (wsV RL 110 RX7 yX7_digest wsX7_digest) := goodIn_sub (memapp (mcons tw_993 (mcons tw_994 (mcons tw_995 (mcons tw_53 mnil)))) ml_wsX7_digest) (by decide +kernel)
def nwFc (q : String × Nat × String × String × String × String) : Cond := .fieldLinkNest q.1 q.2.1 q.2.2.1 q.2.2.2.1 q.2.2.2.2.1 q.2.2.2.2.2
def nwMc (q : String × Nat × MethodName × String) : Cond := .methodLinkNest q.1 q.2.1 q.2.2.1 q.2.2.2
set_option maxRecDepth 20000 in
theorem lin_nwF : ∀ w ∈ nwF.map nwFc, w ∈ lw_tbl := memr [91, 168, 125, 165, 139, 127, 171, 141, 191, 193, 195, 197, 143, 89, 167, 136, 170, 124, 137, 144, 131, 133, 135, 129] (by decide +kernel)
set_option maxRecDepth 20000 in
theorem lin_nwM : ∀ w ∈ nwM.map nwMc, w ∈ lw_tbl := memr [70, 99, 181, 214, 107, 113] (by decide +kernel)
