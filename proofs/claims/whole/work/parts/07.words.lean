theorem mem_r {big : List Cond} (ws : List Cond) (ps : List Nat) (hp : ws = ps.filterMap (fun i => big[i]?)) : ∀ w ∈ ws, w ∈ big := by
  intro w hw
  rw [hp] at hw
  obtain ⟨i, -, hi⟩ := List.mem_filterMap.mp hw
  exact List.mem_of_getElem? hi
/-- the table's words that a callee inherits -/
def gt : List Cond := lw_tbl.filter goodWord
theorem mg {w : Cond} {i : Nat} (h : lw_tbl[i]? = some w) (g : goodWord w = true) : w ∈ gt := List.mem_filter.mpr ⟨List.mem_of_getElem? h, g⟩
theorem gd_all {ws : List Cond} (h : ∀ w ∈ ws, w ∈ gt) : GoodIn gt ws := fun w hw => ⟨h w hw, good_of_word (List.mem_filter.mp (h w hw)).2⟩
theorem gt_of {args : Array Value} {s : State} (h : ∀ w ∈ lw_tbl, w.before args s = true) : ∀ w ∈ gt, w.before args s = true := fun w hw => h w (List.mem_filter.mp hw).1
/-- every method's words: its own code, then the whole table -/
abbrev uw (y : MethodName) (cc : ByteArray) (n : Nat) (r : Option FieldType) : List Cond := .code y cc n r :: gt
theorem gd_uw {y : MethodName} {cc : ByteArray} {n : Nat} {r : Option FieldType} (h : Cond.code y cc n r ∈ gt) : GoodIn gt (uw y cc n r) := gd_all (List.forall_mem_cons.mpr ⟨h, fun _ q => q⟩)
theorem mn_L : Cond.initialized RL ∈ gt := mg (i := 30) (by decide +kernel) rfl
theorem mn_X5 : Cond.initialized RX5 ∈ gt := mg (i := 31) (by decide +kernel) rfl
theorem mn_X4 : Cond.initialized RX4 ∈ gt := mg (i := 32) (by decide +kernel) rfl
theorem mn_X1 : Cond.initialized RX1 ∈ gt := mg (i := 33) (by decide +kernel) rfl
theorem mn_X0 : Cond.initialized RX0 ∈ gt := mg (i := 34) (by decide +kernel) rfl
theorem mn_X2 : Cond.initialized RX2 ∈ gt := mg (i := 35) (by decide +kernel) rfl
theorem mn_X3 : Cond.initialized RX3 ∈ gt := mg (i := 36) (by decide +kernel) rfl
theorem mn_X6 : Cond.initialized RX6 ∈ gt := mg (i := 37) (by decide +kernel) rfl
theorem mn_Math : Cond.initialized "java/lang/Math" ∈ gt := mg (i := 38) (by decide +kernel) rfl
theorem mn_System : Cond.initialized "java/lang/System" ∈ gt := mg (i := 39) (by decide +kernel) rfl
theorem mcl_L_7 : Cond.classLink RL 7 RX5 ∈ gt := mg (i := 40) (by decide +kernel) rfl
theorem mt_X5 : Cond.instantiable RX5 9 ∈ gt := mg (i := 41) (by decide +kernel) rfl
theorem ml_L_9 : Cond.methodLink RL 9 yX5_init ∈ gt := mg (i := 42) (by decide +kernel) rfl
theorem mi_X5_init : Cond.instanceMethod yX5_init ∈ gt := mg (i := 43) (by decide +kernel) rfl
theorem mc_X5_init : Cond.code yX5_init cX5_init 1 none ∈ gt := mg (i := 44) (by decide +kernel) rfl
theorem ml_X5_1 : Cond.methodLink RX5 1 objectInit ∈ gt := mg (i := 45) (by decide +kernel) rfl
theorem mi_Object_init : Cond.instanceMethod objectInit ∈ gt := mg (i := 46) (by decide +kernel) rfl
theorem mc_Object_init : Cond.code objectInit ⟨#[0xb1]⟩ 1 none ∈ gt := mg (i := 47) (by decide +kernel) rfl
theorem mcl_X5_7 : Cond.classLink RX5 7 RX4 ∈ gt := mg (i := 48) (by decide +kernel) rfl
theorem mt_X4 : Cond.instantiable RX4 2 ∈ gt := mg (i := 49) (by decide +kernel) rfl
theorem ml_X5_9 : Cond.methodLinkNest RX5 9 yX4_init "BitBranches" ∈ lw_tbl := List.mem_of_getElem? (i := 50) (by decide +kernel)
theorem mi_X4_init : Cond.instanceMethod yX4_init ∈ gt := mg (i := 51) (by decide +kernel) rfl
theorem mc_X4_init : Cond.code yX4_init cX4_init 1 none ∈ gt := mg (i := 52) (by decide +kernel) rfl
theorem ml_X4_3 : Cond.methodLink RX4 3 objectInit ∈ gt := mg (i := 53) (by decide +kernel) rfl
theorem mf_X4_15 : Cond.fieldLink RX4 15 "BitBranches$Word" "letters" "J" ∈ gt := mg (i := 54) (by decide +kernel) rfl
theorem mf_X4_9 : Cond.fieldLink RX4 9 "BitBranches$Word" "size" "I" ∈ gt := mg (i := 55) (by decide +kernel) rfl
theorem mcl_X5_19 : Cond.classLink RX5 19 RX1 ∈ gt := mg (i := 61) (by decide +kernel) rfl
theorem mt_X1 : Cond.instantiable RX1 4 ∈ gt := mg (i := 62) (by decide +kernel) rfl
theorem ml_X5_21 : Cond.methodLink RX5 21 yX1_init ∈ gt := mg (i := 63) (by decide +kernel) rfl
theorem mi_X1_init : Cond.instanceMethod yX1_init ∈ gt := mg (i := 64) (by decide +kernel) rfl
theorem mc_X1_init : Cond.code yX1_init cX1_init 1 none ∈ gt := mg (i := 65) (by decide +kernel) rfl
theorem ml_X1_3 : Cond.methodLink RX1 3 objectInit ∈ gt := mg (i := 66) (by decide +kernel) rfl
theorem mf_X1_9 : Cond.fieldLink RX1 9 "BitBranches$Keys" "letters" "[J" ∈ gt := mg (i := 67) (by decide +kernel) rfl
theorem mf_X3_29 : Cond.fieldLinkNest RX3 29 "BitBranches$Keys" "letters" "[J" "BitBranches" ∈ lw_tbl := List.mem_of_getElem? (i := 68) (by decide +kernel)
theorem mf_X1_15 : Cond.fieldLink RX1 15 "BitBranches$Keys" "sizes" "[I" ∈ gt := mg (i := 69) (by decide +kernel) rfl
theorem mf_X3_41 : Cond.fieldLinkNest RX3 41 "BitBranches$Keys" "sizes" "[I" "BitBranches" ∈ lw_tbl := List.mem_of_getElem? (i := 70) (by decide +kernel)
theorem mf_X1_19 : Cond.fieldLink RX1 19 "BitBranches$Keys" "worths" "[I" ∈ gt := mg (i := 71) (by decide +kernel) rfl
theorem mf_X3_42 : Cond.fieldLinkNest RX3 42 "BitBranches$Keys" "worths" "[I" "BitBranches" ∈ lw_tbl := List.mem_of_getElem? (i := 72) (by decide +kernel)
theorem mf_X1_22 : Cond.fieldLink RX1 22 "BitBranches$Keys" "count" "I" ∈ gt := mg (i := 73) (by decide +kernel) rfl
theorem mf_X3_32 : Cond.fieldLinkNest RX3 32 "BitBranches$Keys" "count" "I" "BitBranches" ∈ lw_tbl := List.mem_of_getElem? (i := 74) (by decide +kernel)
theorem ma_long : Cond.arrayClass .long ∈ gt := mg (i := 84) (by decide +kernel) rfl
theorem ma_int : Cond.arrayClass .int ∈ gt := mg (i := 85) (by decide +kernel) rfl
theorem mcl_X5_26 : Cond.classLink RX5 26 RX0 ∈ gt := mg (i := 86) (by decide +kernel) rfl
theorem mt_X0 : Cond.instantiable RX0 9 ∈ gt := mg (i := 87) (by decide +kernel) rfl
theorem ml_X5_28 : Cond.methodLink RX5 28 yX0_init ∈ gt := mg (i := 88) (by decide +kernel) rfl
theorem mi_X0_init : Cond.instanceMethod yX0_init ∈ gt := mg (i := 89) (by decide +kernel) rfl
theorem mc_X0_init : Cond.code yX0_init cX0_init 1 none ∈ gt := mg (i := 90) (by decide +kernel) rfl
theorem ml_X0_3 : Cond.methodLink RX0 3 objectInit ∈ gt := mg (i := 91) (by decide +kernel) rfl
theorem mf_X0_9 : Cond.fieldLink RX0 9 "BitBranches$Branches" "bits" "[I" ∈ gt := mg (i := 92) (by decide +kernel) rfl
theorem mf_X0_15 : Cond.fieldLink RX0 15 "BitBranches$Branches" "depths" "[I" ∈ gt := mg (i := 93) (by decide +kernel) rfl
theorem mf_X0_18 : Cond.fieldLink RX0 18 "BitBranches$Branches" "manyBelow" "[I" ∈ gt := mg (i := 94) (by decide +kernel) rfl
theorem mf_X0_21 : Cond.fieldLink RX0 21 "BitBranches$Branches" "manyLeft" "[I" ∈ gt := mg (i := 95) (by decide +kernel) rfl
theorem mf_X0_24 : Cond.fieldLink RX0 24 "BitBranches$Branches" "firsts" "[I" ∈ gt := mg (i := 96) (by decide +kernel) rfl
theorem mf_X0_27 : Cond.fieldLink RX0 27 "BitBranches$Branches" "aboves" "[I" ∈ gt := mg (i := 97) (by decide +kernel) rfl
theorem mf_X0_30 : Cond.fieldLink RX0 30 "BitBranches$Branches" "aboveKeys" "[I" ∈ gt := mg (i := 98) (by decide +kernel) rfl
theorem mf_X0_33 : Cond.fieldLink RX0 33 "BitBranches$Branches" "gaps" "[I" ∈ gt := mg (i := 99) (by decide +kernel) rfl
theorem mf_X0_36 : Cond.fieldLink RX0 36 "BitBranches$Branches" "keyCount" "I" ∈ gt := mg (i := 100) (by decide +kernel) rfl
theorem mcl_X5_33 : Cond.classLink RX5 33 RX2 ∈ gt := mg (i := 120) (by decide +kernel) rfl
theorem mt_X2 : Cond.instantiable RX2 3 ∈ gt := mg (i := 121) (by decide +kernel) rfl
theorem ml_X5_35 : Cond.methodLink RX5 35 yX2_init ∈ gt := mg (i := 122) (by decide +kernel) rfl
theorem mi_X2_init : Cond.instanceMethod yX2_init ∈ gt := mg (i := 123) (by decide +kernel) rfl
theorem mc_X2_init : Cond.code yX2_init cX2_init 1 none ∈ gt := mg (i := 124) (by decide +kernel) rfl
theorem ml_X2_3 : Cond.methodLink RX2 3 objectInit ∈ gt := mg (i := 125) (by decide +kernel) rfl
theorem mcl_X2_9 : Cond.classLink RX2 9 RX3 ∈ gt := mg (i := 126) (by decide +kernel) rfl
theorem mt_X3 : Cond.instantiable RX3 5 ∈ gt := mg (i := 127) (by decide +kernel) rfl
theorem ml_X2_11 : Cond.methodLink RX2 11 yX3_init ∈ gt := mg (i := 128) (by decide +kernel) rfl
theorem mi_X3_init : Cond.instanceMethod yX3_init ∈ gt := mg (i := 129) (by decide +kernel) rfl
theorem mc_X3_init : Cond.code yX3_init cX3_init 2 none ∈ gt := mg (i := 130) (by decide +kernel) rfl
theorem ml_X3_3 : Cond.methodLink RX3 3 objectInit ∈ gt := mg (i := 131) (by decide +kernel) rfl
theorem mf_X3_9 : Cond.fieldLink RX3 9 "BitBranches$Shelf" "places" "I" ∈ gt := mg (i := 132) (by decide +kernel) rfl
theorem mf_X3_15 : Cond.fieldLink RX3 15 "BitBranches$Shelf" "letters" "[J" ∈ gt := mg (i := 133) (by decide +kernel) rfl
theorem mf_X3_19 : Cond.fieldLink RX3 19 "BitBranches$Shelf" "sizes" "[I" ∈ gt := mg (i := 134) (by decide +kernel) rfl
theorem mf_X3_23 : Cond.fieldLink RX3 23 "BitBranches$Shelf" "worths" "[I" ∈ gt := mg (i := 135) (by decide +kernel) rfl
theorem mf_X3_26 : Cond.fieldLink RX3 26 "BitBranches$Shelf" "counts" "[I" ∈ gt := mg (i := 136) (by decide +kernel) rfl
theorem mf_X2_14 : Cond.fieldLink RX2 14 "BitBranches$Past" "shelf" "LBitBranches$Shelf;" ∈ gt := mg (i := 148) (by decide +kernel) rfl
theorem mf_X2_24 : Cond.fieldLink RX2 24 "BitBranches$Past" "next" "I" ∈ gt := mg (i := 149) (by decide +kernel) rfl
theorem mf_X2_20 : Cond.fieldLink RX2 20 "BitBranches$Past" "size" "I" ∈ gt := mg (i := 150) (by decide +kernel) rfl
theorem mcl_X5_40 : Cond.classLink RX5 40 RX3 ∈ gt := mg (i := 158) (by decide +kernel) rfl
theorem ml_X5_42 : Cond.methodLink RX5 42 yX3_init ∈ gt := mg (i := 159) (by decide +kernel) rfl
theorem mf_X5_10 : Cond.fieldLink RX5 10 "BitBranches" "word" "LBitBranches$Word;" ∈ gt := mg (i := 160) (by decide +kernel) rfl
theorem mf_X5_16 : Cond.fieldLink RX5 16 "BitBranches" "drawn" "LBitBranches$Word;" ∈ gt := mg (i := 161) (by decide +kernel) rfl
theorem mf_X5_22 : Cond.fieldLink RX5 22 "BitBranches" "keys" "LBitBranches$Keys;" ∈ gt := mg (i := 162) (by decide +kernel) rfl
theorem mf_X5_29 : Cond.fieldLink RX5 29 "BitBranches" "branches" "LBitBranches$Branches;" ∈ gt := mg (i := 163) (by decide +kernel) rfl
theorem mf_X5_36 : Cond.fieldLink RX5 36 "BitBranches" "past" "LBitBranches$Past;" ∈ gt := mg (i := 164) (by decide +kernel) rfl
theorem mf_X5_45 : Cond.fieldLink RX5 45 "BitBranches" "images" "LBitBranches$Shelf;" ∈ gt := mg (i := 165) (by decide +kernel) rfl
theorem mf_X5_49 : Cond.fieldLink RX5 49 "BitBranches" "imageKept" "[Z" ∈ gt := mg (i := 166) (by decide +kernel) rfl
theorem mf_X5_53 : Cond.fieldLink RX5 53 "BitBranches" "imageSeeds" "[I" ∈ gt := mg (i := 167) (by decide +kernel) rfl
theorem mf_X5_208 : Cond.fieldLink RX5 208 "BitBranches" "theSeed" "I" ∈ gt := mg (i := 168) (by decide +kernel) rfl
theorem ma_boolean : Cond.arrayClass .boolean ∈ gt := mg (i := 188) (by decide +kernel) rfl
theorem ml_L_13 : Cond.methodLink RL 13 yX5_feed ∈ gt := mg (i := 189) (by decide +kernel) rfl
theorem mi_X5_feed : Cond.instanceMethod yX5_feed ∈ gt := mg (i := 190) (by decide +kernel) rfl
theorem mq_X5_feed : Cond.selects RX5 yX5_feed yX5_feed ∈ gt := mg (i := 191) (by decide +kernel) rfl
theorem mc_X5_feed : Cond.code yX5_feed cX5_feed 2 (some .int) ∈ gt := mg (i := 192) (by decide +kernel) rfl
theorem mk_X5_57 : Cond.constant RX5 57 (-1000000002) ∈ gt := mg (i := 193) (by decide +kernel) rfl
theorem ml_X5_58 : Cond.methodLink RX5 58 yX4_size ∈ gt := mg (i := 194) (by decide +kernel) rfl
theorem mi_X4_size : Cond.instanceMethod yX4_size ∈ gt := mg (i := 195) (by decide +kernel) rfl
theorem mq_X4_size : Cond.selects RX4 yX4_size yX4_size ∈ gt := mg (i := 196) (by decide +kernel) rfl
theorem mc_X4_size : Cond.code yX4_size cX4_size 1 (some .int) ∈ gt := mg (i := 197) (by decide +kernel) rfl
theorem mk_X5_62 : Cond.constant RX5 62 (-1000000004) ∈ gt := mg (i := 198) (by decide +kernel) rfl
theorem ml_X5_63 : Cond.methodLink RX5 63 yX4_append ∈ gt := mg (i := 199) (by decide +kernel) rfl
theorem mi_X4_append : Cond.instanceMethod yX4_append ∈ gt := mg (i := 200) (by decide +kernel) rfl
theorem mq_X4_append : Cond.selects RX4 yX4_append yX4_append ∈ gt := mg (i := 201) (by decide +kernel) rfl
theorem mc_X4_append : Cond.code yX4_append cX4_append 2 none ∈ gt := mg (i := 202) (by decide +kernel) rfl
theorem ml_L_18 : Cond.methodLink RL 18 yX5_wipe ∈ gt := mg (i := 203) (by decide +kernel) rfl
theorem mi_X5_wipe : Cond.instanceMethod yX5_wipe ∈ gt := mg (i := 204) (by decide +kernel) rfl
theorem mq_X5_wipe : Cond.selects RX5 yX5_wipe yX5_wipe ∈ gt := mg (i := 205) (by decide +kernel) rfl
theorem mc_X5_wipe : Cond.code yX5_wipe cX5_wipe 2 (some .int) ∈ gt := mg (i := 206) (by decide +kernel) rfl
theorem ml_X5_66 : Cond.methodLink RX5 66 yX4_clear ∈ gt := mg (i := 207) (by decide +kernel) rfl
theorem mi_X4_clear : Cond.instanceMethod yX4_clear ∈ gt := mg (i := 208) (by decide +kernel) rfl
theorem mq_X4_clear : Cond.selects RX4 yX4_clear yX4_clear ∈ gt := mg (i := 209) (by decide +kernel) rfl
theorem mc_X4_clear : Cond.code yX4_clear cX4_clear 1 none ∈ gt := mg (i := 210) (by decide +kernel) rfl
theorem ml_L_23 : Cond.methodLink RL 23 yX5_type ∈ gt := mg (i := 211) (by decide +kernel) rfl
theorem mi_X5_type : Cond.instanceMethod yX5_type ∈ gt := mg (i := 212) (by decide +kernel) rfl
theorem mq_X5_type : Cond.selects RX5 yX5_type yX5_type ∈ gt := mg (i := 213) (by decide +kernel) rfl
theorem mc_X5_type : Cond.code yX5_type cX5_type 2 (some .int) ∈ gt := mg (i := 214) (by decide +kernel) rfl
theorem ml_X5_69 : Cond.methodLink RX5 69 yX1_has ∈ gt := mg (i := 215) (by decide +kernel) rfl
theorem mi_X1_has : Cond.instanceMethod yX1_has ∈ gt := mg (i := 216) (by decide +kernel) rfl
theorem mq_X1_has : Cond.selects RX1 yX1_has yX1_has ∈ gt := mg (i := 217) (by decide +kernel) rfl
theorem mc_X1_has : Cond.code yX1_has cX1_has 2 (some .boolean) ∈ gt := mg (i := 218) (by decide +kernel) rfl
theorem mk_X5_73 : Cond.constant RX5 73 (-1000000001) ∈ gt := mg (i := 219) (by decide +kernel) rfl
theorem ml_X5_74 : Cond.methodLink RX5 74 yX1_lettersOf ∈ gt := mg (i := 220) (by decide +kernel) rfl
theorem mi_X1_lettersOf : Cond.instanceMethod yX1_lettersOf ∈ gt := mg (i := 221) (by decide +kernel) rfl
theorem mq_X1_lettersOf : Cond.selects RX1 yX1_lettersOf yX1_lettersOf ∈ gt := mg (i := 222) (by decide +kernel) rfl
theorem mc_X1_lettersOf : Cond.code yX1_lettersOf cX1_lettersOf 2 (some .long) ∈ gt := mg (i := 223) (by decide +kernel) rfl
theorem ml_X5_78 : Cond.methodLink RX5 78 yX1_sizeOf ∈ gt := mg (i := 224) (by decide +kernel) rfl
theorem mi_X1_sizeOf : Cond.instanceMethod yX1_sizeOf ∈ gt := mg (i := 225) (by decide +kernel) rfl
theorem mq_X1_sizeOf : Cond.selects RX1 yX1_sizeOf yX1_sizeOf ∈ gt := mg (i := 226) (by decide +kernel) rfl
theorem mc_X1_sizeOf : Cond.code yX1_sizeOf cX1_sizeOf 2 (some .int) ∈ gt := mg (i := 227) (by decide +kernel) rfl
theorem ml_X5_82 : Cond.methodLink RX5 82 yX4_become ∈ gt := mg (i := 228) (by decide +kernel) rfl
theorem mi_X4_become : Cond.instanceMethod yX4_become ∈ gt := mg (i := 229) (by decide +kernel) rfl
theorem mq_X4_become : Cond.selects RX4 yX4_become yX4_become ∈ gt := mg (i := 230) (by decide +kernel) rfl
theorem mc_X4_become : Cond.code yX4_become cX4_become 4 none ∈ gt := mg (i := 231) (by decide +kernel) rfl
theorem ml_L_27 : Cond.methodLink RL 27 yX5_told ∈ gt := mg (i := 232) (by decide +kernel) rfl
theorem mi_X5_told : Cond.instanceMethod yX5_told ∈ gt := mg (i := 233) (by decide +kernel) rfl
theorem mq_X5_told : Cond.selects RX5 yX5_told yX5_told ∈ gt := mg (i := 234) (by decide +kernel) rfl
theorem mc_X5_told : Cond.code yX5_told cX5_told 2 (some .int) ∈ gt := mg (i := 235) (by decide +kernel) rfl
theorem ml_X5_86 : Cond.methodLink RX5 86 yX1_count ∈ gt := mg (i := 236) (by decide +kernel) rfl
theorem mi_X1_count : Cond.instanceMethod yX1_count ∈ gt := mg (i := 237) (by decide +kernel) rfl
theorem mq_X1_count : Cond.selects RX1 yX1_count yX1_count ∈ gt := mg (i := 238) (by decide +kernel) rfl
theorem mc_X1_count : Cond.code yX1_count cX1_count 1 (some .int) ∈ gt := mg (i := 239) (by decide +kernel) rfl
theorem ml_X5_89 : Cond.methodLink RX5 89 yX0_count ∈ gt := mg (i := 240) (by decide +kernel) rfl
theorem mi_X0_count : Cond.instanceMethod yX0_count ∈ gt := mg (i := 241) (by decide +kernel) rfl
theorem mq_X0_count : Cond.selects RX0 yX0_count yX0_count ∈ gt := mg (i := 242) (by decide +kernel) rfl
theorem mc_X0_count : Cond.code yX0_count cX0_count 1 (some .int) ∈ gt := mg (i := 243) (by decide +kernel) rfl
theorem ml_X0_40 : Cond.methodLink RX0 40 Lib.Math.max.name ∈ gt := mg (i := 244) (by decide +kernel) rfl
theorem ms_Math_max : Cond.static Lib.Math.max.name ∈ gt := mg (i := 245) (by decide +kernel) rfl
theorem mc_Math_max : Cond.code Lib.Math.max.name Lib.Math.max.code 2 (some .int) ∈ gt := mg (i := 246) (by decide +kernel) rfl
theorem ml_X5_90 : Cond.methodLink RX5 90 yX0_greatestDepth ∈ gt := mg (i := 247) (by decide +kernel) rfl
theorem mi_X0_greatestDepth : Cond.instanceMethod yX0_greatestDepth ∈ gt := mg (i := 248) (by decide +kernel) rfl
theorem mq_X0_greatestDepth : Cond.selects RX0 yX0_greatestDepth yX0_greatestDepth ∈ gt := mg (i := 249) (by decide +kernel) rfl
theorem mc_X0_greatestDepth : Cond.code yX0_greatestDepth cX0_greatestDepth 3 (some .int) ∈ gt := mg (i := 250) (by decide +kernel) rfl
theorem ml_X0_68 : Cond.methodLink RX0 68 yX0_depthOfKey ∈ gt := mg (i := 251) (by decide +kernel) rfl
theorem mi_X0_depthOfKey : Cond.instanceMethod yX0_depthOfKey ∈ gt := mg (i := 252) (by decide +kernel) rfl
theorem mq_X0_depthOfKey : Cond.selects RX0 yX0_depthOfKey yX0_depthOfKey ∈ gt := mg (i := 253) (by decide +kernel) rfl
theorem mc_X0_depthOfKey : Cond.code yX0_depthOfKey cX0_depthOfKey 3 (some .int) ∈ gt := mg (i := 254) (by decide +kernel) rfl
theorem ml_X0_64 : Cond.methodLink RX0 64 yX0_has ∈ gt := mg (i := 255) (by decide +kernel) rfl
theorem mi_X0_has : Cond.instanceMethod yX0_has ∈ gt := mg (i := 256) (by decide +kernel) rfl
theorem mq_X0_has : Cond.selects RX0 yX0_has yX0_has ∈ gt := mg (i := 257) (by decide +kernel) rfl
theorem mc_X0_has : Cond.code yX0_has cX0_has 2 (some .boolean) ∈ gt := mg (i := 258) (by decide +kernel) rfl
theorem ml_X0_46 : Cond.methodLink RX0 46 yX0_count ∈ gt := mg (i := 259) (by decide +kernel) rfl
theorem ml_X5_93 : Cond.methodLink RX5 93 yX0_depthsTogether ∈ gt := mg (i := 260) (by decide +kernel) rfl
theorem mi_X0_depthsTogether : Cond.instanceMethod yX0_depthsTogether ∈ gt := mg (i := 261) (by decide +kernel) rfl
theorem mq_X0_depthsTogether : Cond.selects RX0 yX0_depthsTogether yX0_depthsTogether ∈ gt := mg (i := 262) (by decide +kernel) rfl
theorem mc_X0_depthsTogether : Cond.code yX0_depthsTogether cX0_depthsTogether 3 (some .int) ∈ gt := mg (i := 263) (by decide +kernel) rfl
theorem ml_X5_96 : Cond.methodLink RX5 96 yX1_worthsOf ∈ gt := mg (i := 264) (by decide +kernel) rfl
theorem mi_X1_worthsOf : Cond.instanceMethod yX1_worthsOf ∈ gt := mg (i := 265) (by decide +kernel) rfl
theorem mq_X1_worthsOf : Cond.selects RX1 yX1_worthsOf yX1_worthsOf ∈ gt := mg (i := 266) (by decide +kernel) rfl
theorem mc_X1_worthsOf : Cond.code yX1_worthsOf cX1_worthsOf 5 (some .int) ∈ gt := mg (i := 267) (by decide +kernel) rfl
theorem ml_X5_100 : Cond.methodLink RX5 100 yX0_topBit ∈ gt := mg (i := 268) (by decide +kernel) rfl
theorem mi_X0_topBit : Cond.instanceMethod yX0_topBit ∈ gt := mg (i := 269) (by decide +kernel) rfl
theorem mq_X0_topBit : Cond.selects RX0 yX0_topBit yX0_topBit ∈ gt := mg (i := 270) (by decide +kernel) rfl
theorem mc_X0_topBit : Cond.code yX0_topBit cX0_topBit 1 (some .int) ∈ gt := mg (i := 271) (by decide +kernel) rfl
theorem ml_X5_103 : Cond.methodLink RX5 103 yX0_greatestBit ∈ gt := mg (i := 272) (by decide +kernel) rfl
theorem mi_X0_greatestBit : Cond.instanceMethod yX0_greatestBit ∈ gt := mg (i := 273) (by decide +kernel) rfl
theorem mq_X0_greatestBit : Cond.selects RX0 yX0_greatestBit yX0_greatestBit ∈ gt := mg (i := 274) (by decide +kernel) rfl
theorem mc_X0_greatestBit : Cond.code yX0_greatestBit cX0_greatestBit 3 (some .int) ∈ gt := mg (i := 275) (by decide +kernel) rfl
theorem ml_X5_106 : Cond.methodLink RX5 106 yX1_placeOf ∈ gt := mg (i := 276) (by decide +kernel) rfl
theorem mi_X1_placeOf : Cond.instanceMethod yX1_placeOf ∈ gt := mg (i := 277) (by decide +kernel) rfl
theorem mq_X1_placeOf : Cond.selects RX1 yX1_placeOf yX1_placeOf ∈ gt := mg (i := 278) (by decide +kernel) rfl
theorem mc_X1_placeOf : Cond.code yX1_placeOf cX1_placeOf 4 (some .int) ∈ gt := mg (i := 279) (by decide +kernel) rfl
theorem ml_X1_39 : Cond.methodLink RX1 39 yX1_sharedWith ∈ gt := mg (i := 280) (by decide +kernel) rfl
theorem mi_X1_sharedWith : Cond.instanceMethod yX1_sharedWith ∈ gt := mg (i := 281) (by decide +kernel) rfl
theorem mq_X1_sharedWith : Cond.selects RX1 yX1_sharedWith yX1_sharedWith ∈ gt := mg (i := 282) (by decide +kernel) rfl
theorem mc_X1_sharedWith : Cond.code yX1_sharedWith cX1_sharedWith 3 (some .int) ∈ gt := mg (i := 283) (by decide +kernel) rfl
theorem ml_X1_26 : Cond.methodLink RX1 26 yX4_letters ∈ gt := mg (i := 284) (by decide +kernel) rfl
theorem mi_X4_letters : Cond.instanceMethod yX4_letters ∈ gt := mg (i := 285) (by decide +kernel) rfl
theorem mq_X4_letters : Cond.selects RX4 yX4_letters yX4_letters ∈ gt := mg (i := 286) (by decide +kernel) rfl
theorem mc_X4_letters : Cond.code yX4_letters cX4_letters 1 (some .long) ∈ gt := mg (i := 287) (by decide +kernel) rfl
theorem ml_X1_31 : Cond.methodLink RX1 31 yX4_size ∈ gt := mg (i := 288) (by decide +kernel) rfl
theorem ml_X1_35 : Cond.methodLink RX1 35 yX4_firstUnlikeBit ∈ gt := mg (i := 289) (by decide +kernel) rfl
theorem ms_X4_firstUnlikeBit : Cond.static yX4_firstUnlikeBit ∈ gt := mg (i := 290) (by decide +kernel) rfl
theorem mc_X4_firstUnlikeBit : Cond.code yX4_firstUnlikeBit cX4_firstUnlikeBit 9 (some .int) ∈ gt := mg (i := 291) (by decide +kernel) rfl
theorem ml_X4_27 : Cond.methodLink RX4 27 Lib.Math.min.name ∈ gt := mg (i := 292) (by decide +kernel) rfl
theorem ms_Math_min : Cond.static Lib.Math.min.name ∈ gt := mg (i := 293) (by decide +kernel) rfl
theorem mc_Math_min : Cond.code Lib.Math.min.name Lib.Math.min.code 2 (some .int) ∈ gt := mg (i := 294) (by decide +kernel) rfl
theorem ml_X4_23 : Cond.methodLink RX4 23 yX4_letterOf ∈ gt := mg (i := 295) (by decide +kernel) rfl
theorem ms_X4_letterOf : Cond.static yX4_letterOf ∈ gt := mg (i := 296) (by decide +kernel) rfl
theorem mc_X4_letterOf : Cond.code yX4_letterOf cX4_letterOf 3 (some .int) ∈ gt := mg (i := 297) (by decide +kernel) rfl
theorem ml_X4_33 : Cond.methodLink RX4 33 yX4_zerosAheadOf ∈ gt := mg (i := 298) (by decide +kernel) rfl
theorem ms_X4_zerosAheadOf : Cond.static yX4_zerosAheadOf ∈ gt := mg (i := 299) (by decide +kernel) rfl
theorem mc_X4_zerosAheadOf : Cond.code yX4_zerosAheadOf cX4_zerosAheadOf 3 (some .int) ∈ gt := mg (i := 300) (by decide +kernel) rfl
theorem ml_X1_43 : Cond.methodLink RX1 43 yX4_bitAt ∈ gt := mg (i := 301) (by decide +kernel) rfl
theorem mi_X4_bitAt : Cond.instanceMethod yX4_bitAt ∈ gt := mg (i := 302) (by decide +kernel) rfl
theorem mq_X4_bitAt : Cond.selects RX4 yX4_bitAt yX4_bitAt ∈ gt := mg (i := 303) (by decide +kernel) rfl
theorem mc_X4_bitAt : Cond.code yX4_bitAt cX4_bitAt 2 (some .int) ∈ gt := mg (i := 304) (by decide +kernel) rfl
theorem ml_X4_19 : Cond.methodLink RX4 19 yX4_bitOf ∈ gt := mg (i := 305) (by decide +kernel) rfl
theorem ms_X4_bitOf : Cond.static yX4_bitOf ∈ gt := mg (i := 306) (by decide +kernel) rfl
theorem mc_X4_bitOf : Cond.code yX4_bitOf cX4_bitOf 6 (some .int) ∈ gt := mg (i := 307) (by decide +kernel) rfl
theorem ml_X5_110 : Cond.methodLink RX5 110 yX1_find ∈ gt := mg (i := 308) (by decide +kernel) rfl
theorem mi_X1_find : Cond.instanceMethod yX1_find ∈ gt := mg (i := 309) (by decide +kernel) rfl
theorem mq_X1_find : Cond.selects RX1 yX1_find yX1_find ∈ gt := mg (i := 310) (by decide +kernel) rfl
theorem mc_X1_find : Cond.code yX1_find cX1_find 3 (some .int) ∈ gt := mg (i := 311) (by decide +kernel) rfl
theorem ml_X1_51 : Cond.methodLink RX1 51 yX1_placeOf ∈ gt := mg (i := 312) (by decide +kernel) rfl
theorem ml_X1_55 : Cond.methodLink RX1 55 yX1_isAt ∈ gt := mg (i := 313) (by decide +kernel) rfl
theorem mi_X1_isAt : Cond.instanceMethod yX1_isAt ∈ gt := mg (i := 315) (by decide +kernel) rfl
theorem mc_X1_isAt : Cond.code yX1_isAt cX1_isAt 3 (some .boolean) ∈ gt := mg (i := 316) (by decide +kernel) rfl
theorem ml_X1_47 : Cond.methodLink RX1 47 yX1_has ∈ gt := mg (i := 317) (by decide +kernel) rfl
theorem ml_X5_113 : Cond.methodLink RX5 113 yX2_size ∈ gt := mg (i := 318) (by decide +kernel) rfl
theorem mi_X2_size : Cond.instanceMethod yX2_size ∈ gt := mg (i := 319) (by decide +kernel) rfl
theorem mq_X2_size : Cond.selects RX2 yX2_size yX2_size ∈ gt := mg (i := 320) (by decide +kernel) rfl
theorem mc_X2_size : Cond.code yX2_size cX2_size 1 (some .int) ∈ gt := mg (i := 321) (by decide +kernel) rfl
theorem ml_L_31 : Cond.methodLink RL 31 yX5_key ∈ gt := mg (i := 322) (by decide +kernel) rfl
theorem mi_X5_key : Cond.instanceMethod yX5_key ∈ gt := mg (i := 323) (by decide +kernel) rfl
theorem mq_X5_key : Cond.selects RX5 yX5_key yX5_key ∈ gt := mg (i := 324) (by decide +kernel) rfl
theorem mc_X5_key : Cond.code yX5_key cX5_key 3 (some .int) ∈ gt := mg (i := 325) (by decide +kernel) rfl
theorem ml_X5_114 : Cond.methodLink RX5 114 yX4_letterOf ∈ gt := mg (i := 326) (by decide +kernel) rfl
theorem ml_X5_118 : Cond.methodLink RX5 118 yX1_worthOf ∈ gt := mg (i := 327) (by decide +kernel) rfl
theorem mi_X1_worthOf : Cond.instanceMethod yX1_worthOf ∈ gt := mg (i := 328) (by decide +kernel) rfl
theorem mq_X1_worthOf : Cond.selects RX1 yX1_worthOf yX1_worthOf ∈ gt := mg (i := 329) (by decide +kernel) rfl
theorem mc_X1_worthOf : Cond.code yX1_worthOf cX1_worthOf 2 (some .int) ∈ gt := mg (i := 330) (by decide +kernel) rfl
theorem ml_X5_121 : Cond.methodLink RX5 121 yX0_depthOfKey ∈ gt := mg (i := 331) (by decide +kernel) rfl
theorem ml_X5_124 : Cond.methodLink RX5 124 yX1_sharedWith ∈ gt := mg (i := 332) (by decide +kernel) rfl
theorem ml_X5_128 : Cond.methodLink RX5 128 yX0_greatestDepthWithout ∈ gt := mg (i := 333) (by decide +kernel) rfl
theorem mi_X0_greatestDepthWithout : Cond.instanceMethod yX0_greatestDepthWithout ∈ gt := mg (i := 334) (by decide +kernel) rfl
theorem mq_X0_greatestDepthWithout : Cond.selects RX0 yX0_greatestDepthWithout yX0_greatestDepthWithout ∈ gt := mg (i := 335) (by decide +kernel) rfl
theorem mc_X0_greatestDepthWithout : Cond.code yX0_greatestDepthWithout cX0_greatestDepthWithout 6 (some .int) ∈ gt := mg (i := 336) (by decide +kernel) rfl
theorem ml_X0_72 : Cond.methodLink RX0 72 yX0_isBelow ∈ gt := mg (i := 337) (by decide +kernel) rfl
theorem mi_X0_isBelow : Cond.instanceMethod yX0_isBelow ∈ gt := mg (i := 339) (by decide +kernel) rfl
theorem mc_X0_isBelow : Cond.code yX0_isBelow cX0_isBelow 3 (some .boolean) ∈ gt := mg (i := 340) (by decide +kernel) rfl
theorem ml_L_36 : Cond.methodLink RL 36 yX5_branch ∈ gt := mg (i := 341) (by decide +kernel) rfl
theorem mi_X5_branch : Cond.instanceMethod yX5_branch ∈ gt := mg (i := 342) (by decide +kernel) rfl
theorem mq_X5_branch : Cond.selects RX5 yX5_branch yX5_branch ∈ gt := mg (i := 343) (by decide +kernel) rfl
theorem mc_X5_branch : Cond.code yX5_branch cX5_branch 3 (some .int) ∈ gt := mg (i := 344) (by decide +kernel) rfl
theorem ml_X5_131 : Cond.methodLink RX5 131 yX0_has ∈ gt := mg (i := 345) (by decide +kernel) rfl
theorem ml_X5_132 : Cond.methodLink RX5 132 yX0_bitOf ∈ gt := mg (i := 346) (by decide +kernel) rfl
theorem mi_X0_bitOf : Cond.instanceMethod yX0_bitOf ∈ gt := mg (i := 347) (by decide +kernel) rfl
theorem mq_X0_bitOf : Cond.selects RX0 yX0_bitOf yX0_bitOf ∈ gt := mg (i := 348) (by decide +kernel) rfl
theorem mc_X0_bitOf : Cond.code yX0_bitOf cX0_bitOf 2 (some .int) ∈ gt := mg (i := 349) (by decide +kernel) rfl
theorem ml_X5_135 : Cond.methodLink RX5 135 yX0_depthOf ∈ gt := mg (i := 350) (by decide +kernel) rfl
theorem mi_X0_depthOf : Cond.instanceMethod yX0_depthOf ∈ gt := mg (i := 351) (by decide +kernel) rfl
theorem mq_X0_depthOf : Cond.selects RX0 yX0_depthOf yX0_depthOf ∈ gt := mg (i := 352) (by decide +kernel) rfl
theorem mc_X0_depthOf : Cond.code yX0_depthOf cX0_depthOf 2 (some .int) ∈ gt := mg (i := 353) (by decide +kernel) rfl
theorem ml_X5_138 : Cond.methodLink RX5 138 yX0_keysBelow ∈ gt := mg (i := 354) (by decide +kernel) rfl
theorem mi_X0_keysBelow : Cond.instanceMethod yX0_keysBelow ∈ gt := mg (i := 355) (by decide +kernel) rfl
theorem mq_X0_keysBelow : Cond.selects RX0 yX0_keysBelow yX0_keysBelow ∈ gt := mg (i := 356) (by decide +kernel) rfl
theorem mc_X0_keysBelow : Cond.code yX0_keysBelow cX0_keysBelow 2 (some .int) ∈ gt := mg (i := 357) (by decide +kernel) rfl
theorem ml_X5_141 : Cond.methodLink RX5 141 yX0_keysLeft ∈ gt := mg (i := 358) (by decide +kernel) rfl
theorem mi_X0_keysLeft : Cond.instanceMethod yX0_keysLeft ∈ gt := mg (i := 359) (by decide +kernel) rfl
theorem mq_X0_keysLeft : Cond.selects RX0 yX0_keysLeft yX0_keysLeft ∈ gt := mg (i := 360) (by decide +kernel) rfl
theorem mc_X0_keysLeft : Cond.code yX0_keysLeft cX0_keysLeft 2 (some .int) ∈ gt := mg (i := 361) (by decide +kernel) rfl
theorem ml_X5_144 : Cond.methodLink RX5 144 yX0_firstKey ∈ gt := mg (i := 362) (by decide +kernel) rfl
theorem mi_X0_firstKey : Cond.instanceMethod yX0_firstKey ∈ gt := mg (i := 363) (by decide +kernel) rfl
theorem mq_X0_firstKey : Cond.selects RX0 yX0_firstKey yX0_firstKey ∈ gt := mg (i := 364) (by decide +kernel) rfl
theorem mc_X0_firstKey : Cond.code yX0_firstKey cX0_firstKey 2 (some .int) ∈ gt := mg (i := 365) (by decide +kernel) rfl
theorem ml_X5_147 : Cond.methodLink RX5 147 yX0_aboveOf ∈ gt := mg (i := 366) (by decide +kernel) rfl
theorem mi_X0_aboveOf : Cond.instanceMethod yX0_aboveOf ∈ gt := mg (i := 367) (by decide +kernel) rfl
theorem mq_X0_aboveOf : Cond.selects RX0 yX0_aboveOf yX0_aboveOf ∈ gt := mg (i := 368) (by decide +kernel) rfl
theorem mc_X0_aboveOf : Cond.code yX0_aboveOf cX0_aboveOf 2 (some .int) ∈ gt := mg (i := 369) (by decide +kernel) rfl
theorem ml_L_40 : Cond.methodLink RL 40 yX5_put ∈ gt := mg (i := 370) (by decide +kernel) rfl
theorem mi_X5_put : Cond.instanceMethod yX5_put ∈ gt := mg (i := 371) (by decide +kernel) rfl
theorem mq_X5_put : Cond.selects RX5 yX5_put yX5_put ∈ gt := mg (i := 372) (by decide +kernel) rfl
theorem mc_X5_put : Cond.code yX5_put cX5_put 4 (some .int) ∈ gt := mg (i := 373) (by decide +kernel) rfl
theorem ml_X5_150 : Cond.methodLink RX5 150 yX1_isFull ∈ gt := mg (i := 374) (by decide +kernel) rfl
theorem mi_X1_isFull : Cond.instanceMethod yX1_isFull ∈ gt := mg (i := 375) (by decide +kernel) rfl
theorem mq_X1_isFull : Cond.selects RX1 yX1_isFull yX1_isFull ∈ gt := mg (i := 376) (by decide +kernel) rfl
theorem mc_X1_isFull : Cond.code yX1_isFull cX1_isFull 1 (some .boolean) ∈ gt := mg (i := 377) (by decide +kernel) rfl
theorem ml_X5_154 : Cond.methodLink RX5 154 yX2_remember ∈ gt := mg (i := 378) (by decide +kernel) rfl
theorem mi_X2_remember : Cond.instanceMethod yX2_remember ∈ gt := mg (i := 379) (by decide +kernel) rfl
theorem mq_X2_remember : Cond.selects RX2 yX2_remember yX2_remember ∈ gt := mg (i := 380) (by decide +kernel) rfl
theorem mc_X2_remember : Cond.code yX2_remember cX2_remember 2 none ∈ gt := mg (i := 381) (by decide +kernel) rfl
theorem ml_X2_27 : Cond.methodLink RX2 27 yX3_store ∈ gt := mg (i := 382) (by decide +kernel) rfl
theorem mi_X3_store : Cond.instanceMethod yX3_store ∈ gt := mg (i := 383) (by decide +kernel) rfl
theorem mq_X3_store : Cond.selects RX3 yX3_store yX3_store ∈ gt := mg (i := 384) (by decide +kernel) rfl
theorem mc_X3_store : Cond.code yX3_store cX3_store 4 none ∈ gt := mg (i := 385) (by decide +kernel) rfl
theorem ml_X3_35 : Cond.methodLink RX3 35 arraycopyName ∈ gt := mg (i := 386) (by decide +kernel) rfl
theorem ms_System_arraycopy : Cond.static arraycopyName ∈ gt := mg (i := 387) (by decide +kernel) rfl
theorem mna_System_arraycopy : Cond.native arraycopyName ∈ gt := mg (i := 388) (by decide +kernel) rfl
theorem ml_X2_31 : Cond.methodLink RX2 31 Lib.Math.min.name ∈ gt := mg (i := 389) (by decide +kernel) rfl
theorem ml_X5_158 : Cond.methodLink RX5 158 yX1_set ∈ gt := mg (i := 390) (by decide +kernel) rfl
theorem mi_X1_set : Cond.instanceMethod yX1_set ∈ gt := mg (i := 391) (by decide +kernel) rfl
theorem mq_X1_set : Cond.selects RX1 yX1_set yX1_set ∈ gt := mg (i := 392) (by decide +kernel) rfl
theorem mc_X1_set : Cond.code yX1_set cX1_set 4 none ∈ gt := mg (i := 393) (by decide +kernel) rfl
theorem ml_X1_59 : Cond.methodLink RX1 59 yX1_isFull ∈ gt := mg (i := 394) (by decide +kernel) rfl
theorem ml_X1_63 : Cond.methodLink RX1 63 yX1_insert ∈ gt := mg (i := 395) (by decide +kernel) rfl
theorem mi_X1_insert : Cond.instanceMethod yX1_insert ∈ gt := mg (i := 397) (by decide +kernel) rfl
theorem mc_X1_insert : Cond.code yX1_insert cX1_insert 5 none ∈ gt := mg (i := 398) (by decide +kernel) rfl
theorem ml_X5_162 : Cond.methodLink RX5 162 yX0_grow ∈ gt := mg (i := 399) (by decide +kernel) rfl
theorem mi_X0_grow : Cond.instanceMethod yX0_grow ∈ gt := mg (i := 400) (by decide +kernel) rfl
theorem mq_X0_grow : Cond.selects RX0 yX0_grow yX0_grow ∈ gt := mg (i := 401) (by decide +kernel) rfl
theorem mc_X0_grow : Cond.code yX0_grow cX0_grow 3 none ∈ gt := mg (i := 402) (by decide +kernel) rfl
theorem ml_X0_50 : Cond.methodLink RX0 50 yX1_count ∈ gt := mg (i := 403) (by decide +kernel) rfl
theorem ml_X0_53 : Cond.methodLink RX0 53 yX1_firstUnlike ∈ gt := mg (i := 404) (by decide +kernel) rfl
theorem mi_X1_firstUnlike : Cond.instanceMethod yX1_firstUnlike ∈ gt := mg (i := 405) (by decide +kernel) rfl
theorem mq_X1_firstUnlike : Cond.selects RX1 yX1_firstUnlike yX1_firstUnlike ∈ gt := mg (i := 406) (by decide +kernel) rfl
theorem mc_X1_firstUnlike : Cond.code yX1_firstUnlike cX1_firstUnlike 3 (some .int) ∈ gt := mg (i := 407) (by decide +kernel) rfl
theorem ml_X0_56 : Cond.methodLink RX0 56 yX0_hang ∈ gt := mg (i := 408) (by decide +kernel) rfl
theorem mi_X0_hang : Cond.instanceMethod yX0_hang ∈ gt := mg (i := 410) (by decide +kernel) rfl
theorem mc_X0_hang : Cond.code yX0_hang cX0_hang 5 none ∈ gt := mg (i := 411) (by decide +kernel) rfl
theorem ml_X0_60 : Cond.methodLink RX0 60 yX0_split ∈ gt := mg (i := 412) (by decide +kernel) rfl
theorem mi_X0_split : Cond.instanceMethod yX0_split ∈ gt := mg (i := 414) (by decide +kernel) rfl
theorem mc_X0_split : Cond.code yX0_split cX0_split 4 none ∈ gt := mg (i := 415) (by decide +kernel) rfl
theorem ml_L_44 : Cond.methodLink RL 44 yX5_take ∈ gt := mg (i := 416) (by decide +kernel) rfl
theorem mi_X5_take : Cond.instanceMethod yX5_take ∈ gt := mg (i := 417) (by decide +kernel) rfl
theorem mq_X5_take : Cond.selects RX5 yX5_take yX5_take ∈ gt := mg (i := 418) (by decide +kernel) rfl
theorem mc_X5_take : Cond.code yX5_take cX5_take 3 (some .int) ∈ gt := mg (i := 419) (by decide +kernel) rfl
theorem mk_X5_165 : Cond.constant RX5 165 (-1000000003) ∈ gt := mg (i := 420) (by decide +kernel) rfl
theorem ml_X5_166 : Cond.methodLink RX5 166 yX1_remove ∈ gt := mg (i := 421) (by decide +kernel) rfl
theorem mi_X1_remove : Cond.instanceMethod yX1_remove ∈ gt := mg (i := 422) (by decide +kernel) rfl
theorem mq_X1_remove : Cond.selects RX1 yX1_remove yX1_remove ∈ gt := mg (i := 423) (by decide +kernel) rfl
theorem mc_X1_remove : Cond.code yX1_remove cX1_remove 4 none ∈ gt := mg (i := 424) (by decide +kernel) rfl
theorem ml_L_48 : Cond.methodLink RL 48 yX5_cut ∈ gt := mg (i := 425) (by decide +kernel) rfl
theorem mi_X5_cut : Cond.instanceMethod yX5_cut ∈ gt := mg (i := 426) (by decide +kernel) rfl
theorem mq_X5_cut : Cond.selects RX5 yX5_cut yX5_cut ∈ gt := mg (i := 427) (by decide +kernel) rfl
theorem mc_X5_cut : Cond.code yX5_cut cX5_cut 2 (some .int) ∈ gt := mg (i := 428) (by decide +kernel) rfl
theorem ml_X5_170 : Cond.methodLink RX5 170 yX1_countBelow ∈ gt := mg (i := 429) (by decide +kernel) rfl
theorem mi_X1_countBelow : Cond.instanceMethod yX1_countBelow ∈ gt := mg (i := 430) (by decide +kernel) rfl
theorem mq_X1_countBelow : Cond.selects RX1 yX1_countBelow yX1_countBelow ∈ gt := mg (i := 431) (by decide +kernel) rfl
theorem mc_X1_countBelow : Cond.code yX1_countBelow cX1_countBelow 4 (some .int) ∈ gt := mg (i := 432) (by decide +kernel) rfl
theorem ml_L_52 : Cond.methodLink RL 52 yX5_raise ∈ gt := mg (i := 433) (by decide +kernel) rfl
theorem mi_X5_raise : Cond.instanceMethod yX5_raise ∈ gt := mg (i := 434) (by decide +kernel) rfl
theorem mq_X5_raise : Cond.selects RX5 yX5_raise yX5_raise ∈ gt := mg (i := 435) (by decide +kernel) rfl
theorem mc_X5_raise : Cond.code yX5_raise cX5_raise 3 (some .int) ∈ gt := mg (i := 436) (by decide +kernel) rfl
theorem ml_X5_173 : Cond.methodLink RX5 173 yX1_addWorth ∈ gt := mg (i := 437) (by decide +kernel) rfl
theorem mi_X1_addWorth : Cond.instanceMethod yX1_addWorth ∈ gt := mg (i := 438) (by decide +kernel) rfl
theorem mq_X1_addWorth : Cond.selects RX1 yX1_addWorth yX1_addWorth ∈ gt := mg (i := 439) (by decide +kernel) rfl
theorem mc_X1_addWorth : Cond.code yX1_addWorth cX1_addWorth 5 none ∈ gt := mg (i := 440) (by decide +kernel) rfl
theorem ml_X1_67 : Cond.methodLink RX1 67 Lib.Math.min.name ∈ gt := mg (i := 441) (by decide +kernel) rfl
theorem ml_L_56 : Cond.methodLink RL 56 yX5_drift ∈ gt := mg (i := 442) (by decide +kernel) rfl
theorem mi_X5_drift : Cond.instanceMethod yX5_drift ∈ gt := mg (i := 443) (by decide +kernel) rfl
theorem mq_X5_drift : Cond.selects RX5 yX5_drift yX5_drift ∈ gt := mg (i := 444) (by decide +kernel) rfl
theorem mc_X5_drift : Cond.code yX5_drift cX5_drift 3 (some .int) ∈ gt := mg (i := 445) (by decide +kernel) rfl
theorem ml_X5_177 : Cond.methodLink RX5 177 yX5_deedByDraws ∈ gt := mg (i := 446) (by decide +kernel) rfl
theorem mi_X5_deedByDraws : Cond.instanceMethod yX5_deedByDraws ∈ gt := mg (i := 448) (by decide +kernel) rfl
theorem mc_X5_deedByDraws : Cond.code yX5_deedByDraws cX5_deedByDraws 3 none ∈ gt := mg (i := 449) (by decide +kernel) rfl
theorem ml_X5_221 : Cond.methodLink RX5 221 yX5_drawWord ∈ gt := mg (i := 450) (by decide +kernel) rfl
theorem mi_X5_drawWord : Cond.instanceMethod yX5_drawWord ∈ gt := mg (i := 452) (by decide +kernel) rfl
theorem mc_X5_drawWord : Cond.code yX5_drawWord cX5_drawWord 3 none ∈ gt := mg (i := 453) (by decide +kernel) rfl
theorem ml_X5_224 : Cond.methodLink RX5 224 yX5_nextDraw ∈ gt := mg (i := 454) (by decide +kernel) rfl
theorem mi_X5_nextDraw : Cond.instanceMethod yX5_nextDraw ∈ gt := mg (i := 456) (by decide +kernel) rfl
theorem mc_X5_nextDraw : Cond.code yX5_nextDraw cX5_nextDraw 1 (some .int) ∈ gt := mg (i := 457) (by decide +kernel) rfl
theorem mk_X5_227 : Cond.constantLong RX5 227 (1103515245) ∈ gt := mg (i := 458) (by decide +kernel) rfl
theorem mk_X5_229 : Cond.constantLong RX5 229 (12345) ∈ gt := mg (i := 459) (by decide +kernel) rfl
theorem mk_X5_231 : Cond.constantLong RX5 231 (2147483647) ∈ gt := mg (i := 460) (by decide +kernel) rfl
theorem mk_X5_233 : Cond.constant RX5 233 (65536) ∈ gt := mg (i := 461) (by decide +kernel) rfl
theorem ml_L_60 : Cond.methodLink RL 60 yX5_undo ∈ gt := mg (i := 462) (by decide +kernel) rfl
theorem mi_X5_undo : Cond.instanceMethod yX5_undo ∈ gt := mg (i := 463) (by decide +kernel) rfl
theorem mq_X5_undo : Cond.selects RX5 yX5_undo yX5_undo ∈ gt := mg (i := 464) (by decide +kernel) rfl
theorem mc_X5_undo : Cond.code yX5_undo cX5_undo 2 (some .int) ∈ gt := mg (i := 465) (by decide +kernel) rfl
theorem ml_X5_180 : Cond.methodLink RX5 180 yX2_restore ∈ gt := mg (i := 466) (by decide +kernel) rfl
theorem mi_X2_restore : Cond.instanceMethod yX2_restore ∈ gt := mg (i := 467) (by decide +kernel) rfl
theorem mq_X2_restore : Cond.selects RX2 yX2_restore yX2_restore ∈ gt := mg (i := 468) (by decide +kernel) rfl
theorem mc_X2_restore : Cond.code yX2_restore cX2_restore 3 none ∈ gt := mg (i := 469) (by decide +kernel) rfl
theorem ml_X2_37 : Cond.methodLink RX2 37 yX3_load ∈ gt := mg (i := 470) (by decide +kernel) rfl
theorem mi_X3_load : Cond.instanceMethod yX3_load ∈ gt := mg (i := 471) (by decide +kernel) rfl
theorem mq_X3_load : Cond.selects RX3 yX3_load yX3_load ∈ gt := mg (i := 472) (by decide +kernel) rfl
theorem mc_X3_load : Cond.code yX3_load cX3_load 4 none ∈ gt := mg (i := 473) (by decide +kernel) rfl
theorem ml_L_64 : Cond.methodLink RL 64 yX5_below ∈ gt := mg (i := 474) (by decide +kernel) rfl
theorem mi_X5_below : Cond.instanceMethod yX5_below ∈ gt := mg (i := 475) (by decide +kernel) rfl
theorem mq_X5_below : Cond.selects RX5 yX5_below yX5_below ∈ gt := mg (i := 476) (by decide +kernel) rfl
theorem mc_X5_below : Cond.code yX5_below cX5_below 4 (some .int) ∈ gt := mg (i := 477) (by decide +kernel) rfl
theorem ml_X5_184 : Cond.methodLink RX5 184 yX1_mostWorth ∈ gt := mg (i := 478) (by decide +kernel) rfl
theorem mi_X1_mostWorth : Cond.instanceMethod yX1_mostWorth ∈ gt := mg (i := 479) (by decide +kernel) rfl
theorem mq_X1_mostWorth : Cond.selects RX1 yX1_mostWorth yX1_mostWorth ∈ gt := mg (i := 480) (by decide +kernel) rfl
theorem mc_X1_mostWorth : Cond.code yX1_mostWorth cX1_mostWorth 5 (some .int) ∈ gt := mg (i := 481) (by decide +kernel) rfl
theorem ml_L_68 : Cond.methodLink RL 68 yX5_stem ∈ gt := mg (i := 482) (by decide +kernel) rfl
theorem mi_X5_stem : Cond.instanceMethod yX5_stem ∈ gt := mg (i := 483) (by decide +kernel) rfl
theorem mq_X5_stem : Cond.selects RX5 yX5_stem yX5_stem ∈ gt := mg (i := 484) (by decide +kernel) rfl
theorem mc_X5_stem : Cond.code yX5_stem cX5_stem 1 (some .int) ∈ gt := mg (i := 485) (by decide +kernel) rfl
theorem ml_X5_187 : Cond.methodLink RX5 187 yX1_longestStem ∈ gt := mg (i := 486) (by decide +kernel) rfl
theorem mi_X1_longestStem : Cond.instanceMethod yX1_longestStem ∈ gt := mg (i := 487) (by decide +kernel) rfl
theorem mq_X1_longestStem : Cond.selects RX1 yX1_longestStem yX1_longestStem ∈ gt := mg (i := 488) (by decide +kernel) rfl
theorem mc_X1_longestStem : Cond.code yX1_longestStem cX1_longestStem 5 (some .int) ∈ gt := mg (i := 489) (by decide +kernel) rfl
theorem ml_L_72 : Cond.methodLink RL 72 yX5_beside ∈ gt := mg (i := 490) (by decide +kernel) rfl
theorem mi_X5_beside : Cond.instanceMethod yX5_beside ∈ gt := mg (i := 491) (by decide +kernel) rfl
theorem mq_X5_beside : Cond.selects RX5 yX5_beside yX5_beside ∈ gt := mg (i := 492) (by decide +kernel) rfl
theorem mc_X5_beside : Cond.code yX5_beside cX5_beside 3 (some .int) ∈ gt := mg (i := 493) (by decide +kernel) rfl
theorem ml_X5_190 : Cond.methodLink RX5 190 yX1_orNone ∈ gt := mg (i := 494) (by decide +kernel) rfl
theorem mi_X1_orNone : Cond.instanceMethod yX1_orNone ∈ gt := mg (i := 495) (by decide +kernel) rfl
theorem mq_X1_orNone : Cond.selects RX1 yX1_orNone yX1_orNone ∈ gt := mg (i := 496) (by decide +kernel) rfl
theorem mc_X1_orNone : Cond.code yX1_orNone cX1_orNone 2 (some .int) ∈ gt := mg (i := 497) (by decide +kernel) rfl
theorem ml_L_76 : Cond.methodLink RL 76 yX5_closest ∈ gt := mg (i := 498) (by decide +kernel) rfl
theorem mi_X5_closest : Cond.instanceMethod yX5_closest ∈ gt := mg (i := 499) (by decide +kernel) rfl
theorem mq_X5_closest : Cond.selects RX5 yX5_closest yX5_closest ∈ gt := mg (i := 500) (by decide +kernel) rfl
theorem mc_X5_closest : Cond.code yX5_closest cX5_closest 1 (some .int) ∈ gt := mg (i := 501) (by decide +kernel) rfl
theorem ml_X5_193 : Cond.methodLink RX5 193 yX1_mostShared ∈ gt := mg (i := 502) (by decide +kernel) rfl
theorem mi_X1_mostShared : Cond.instanceMethod yX1_mostShared ∈ gt := mg (i := 503) (by decide +kernel) rfl
theorem mq_X1_mostShared : Cond.selects RX1 yX1_mostShared yX1_mostShared ∈ gt := mg (i := 504) (by decide +kernel) rfl
theorem mc_X1_mostShared : Cond.code yX1_mostShared cX1_mostShared 6 (some .int) ∈ gt := mg (i := 505) (by decide +kernel) rfl
theorem ml_L_80 : Cond.methodLink RL 80 yX5_off ∈ gt := mg (i := 506) (by decide +kernel) rfl
theorem mi_X5_off : Cond.instanceMethod yX5_off ∈ gt := mg (i := 507) (by decide +kernel) rfl
theorem mq_X5_off : Cond.selects RX5 yX5_off yX5_off ∈ gt := mg (i := 508) (by decide +kernel) rfl
theorem mc_X5_off : Cond.code yX5_off cX5_off 3 (some .int) ∈ gt := mg (i := 509) (by decide +kernel) rfl
theorem ml_L_84 : Cond.methodLink RL 84 yX5_blind ∈ gt := mg (i := 510) (by decide +kernel) rfl
theorem mi_X5_blind : Cond.instanceMethod yX5_blind ∈ gt := mg (i := 511) (by decide +kernel) rfl
theorem mq_X5_blind : Cond.selects RX5 yX5_blind yX5_blind ∈ gt := mg (i := 512) (by decide +kernel) rfl
theorem mc_X5_blind : Cond.code yX5_blind cX5_blind 3 (some .int) ∈ gt := mg (i := 513) (by decide +kernel) rfl
theorem ml_X5_196 : Cond.methodLink RX5 196 yX0_keyReachedBy ∈ gt := mg (i := 514) (by decide +kernel) rfl
theorem mi_X0_keyReachedBy : Cond.instanceMethod yX0_keyReachedBy ∈ gt := mg (i := 515) (by decide +kernel) rfl
theorem mq_X0_keyReachedBy : Cond.selects RX0 yX0_keyReachedBy yX0_keyReachedBy ∈ gt := mg (i := 516) (by decide +kernel) rfl
theorem mc_X0_keyReachedBy : Cond.code yX0_keyReachedBy cX0_keyReachedBy 6 (some .int) ∈ gt := mg (i := 517) (by decide +kernel) rfl
theorem ml_X0_76 : Cond.methodLink RX0 76 yX4_bitAt ∈ gt := mg (i := 518) (by decide +kernel) rfl
theorem ml_L_88 : Cond.methodLink RL 88 yX5_way ∈ gt := mg (i := 519) (by decide +kernel) rfl
theorem mi_X5_way : Cond.instanceMethod yX5_way ∈ gt := mg (i := 520) (by decide +kernel) rfl
theorem mq_X5_way : Cond.selects RX5 yX5_way yX5_way ∈ gt := mg (i := 521) (by decide +kernel) rfl
theorem mc_X5_way : Cond.code yX5_way cX5_way 3 (some .int) ∈ gt := mg (i := 522) (by decide +kernel) rfl
theorem ml_X5_199 : Cond.methodLink RX5 199 yX0_onWay ∈ gt := mg (i := 523) (by decide +kernel) rfl
theorem mi_X0_onWay : Cond.instanceMethod yX0_onWay ∈ gt := mg (i := 524) (by decide +kernel) rfl
theorem mq_X0_onWay : Cond.selects RX0 yX0_onWay yX0_onWay ∈ gt := mg (i := 525) (by decide +kernel) rfl
theorem mc_X0_onWay : Cond.code yX0_onWay cX0_onWay 6 (some .int) ∈ gt := mg (i := 526) (by decide +kernel) rfl
theorem ml_L_92 : Cond.methodLink RL 92 yX5_unlike ∈ gt := mg (i := 527) (by decide +kernel) rfl
theorem mi_X5_unlike : Cond.instanceMethod yX5_unlike ∈ gt := mg (i := 528) (by decide +kernel) rfl
theorem mq_X5_unlike : Cond.selects RX5 yX5_unlike yX5_unlike ∈ gt := mg (i := 529) (by decide +kernel) rfl
theorem mc_X5_unlike : Cond.code yX5_unlike cX5_unlike 3 (some .int) ∈ gt := mg (i := 530) (by decide +kernel) rfl
theorem ml_X5_202 : Cond.methodLink RX5 202 yX1_firstUnlike ∈ gt := mg (i := 531) (by decide +kernel) rfl
theorem ml_L_96 : Cond.methodLink RL 96 yX5_bit ∈ gt := mg (i := 532) (by decide +kernel) rfl
theorem mi_X5_bit : Cond.instanceMethod yX5_bit ∈ gt := mg (i := 533) (by decide +kernel) rfl
theorem mq_X5_bit : Cond.selects RX5 yX5_bit yX5_bit ∈ gt := mg (i := 534) (by decide +kernel) rfl
theorem mc_X5_bit : Cond.code yX5_bit cX5_bit 2 (some .int) ∈ gt := mg (i := 535) (by decide +kernel) rfl
theorem ml_X5_205 : Cond.methodLink RX5 205 yX4_bitAt ∈ gt := mg (i := 536) (by decide +kernel) rfl
theorem ml_L_100 : Cond.methodLink RL 100 yX5_seed ∈ gt := mg (i := 537) (by decide +kernel) rfl
theorem mi_X5_seed : Cond.instanceMethod yX5_seed ∈ gt := mg (i := 538) (by decide +kernel) rfl
theorem mq_X5_seed : Cond.selects RX5 yX5_seed yX5_seed ∈ gt := mg (i := 539) (by decide +kernel) rfl
theorem mc_X5_seed : Cond.code yX5_seed cX5_seed 3 (some .int) ∈ gt := mg (i := 540) (by decide +kernel) rfl
theorem ml_L_104 : Cond.methodLink RL 104 yX5_keep ∈ gt := mg (i := 541) (by decide +kernel) rfl
theorem mi_X5_keep : Cond.instanceMethod yX5_keep ∈ gt := mg (i := 542) (by decide +kernel) rfl
theorem mq_X5_keep : Cond.selects RX5 yX5_keep yX5_keep ∈ gt := mg (i := 543) (by decide +kernel) rfl
theorem mc_X5_keep : Cond.code yX5_keep cX5_keep 2 (some .int) ∈ gt := mg (i := 544) (by decide +kernel) rfl
theorem ml_X5_212 : Cond.methodLink RX5 212 yX3_store ∈ gt := mg (i := 545) (by decide +kernel) rfl
theorem ml_X5_215 : Cond.methodLink RX5 215 yX2_forget ∈ gt := mg (i := 546) (by decide +kernel) rfl
theorem mi_X2_forget : Cond.instanceMethod yX2_forget ∈ gt := mg (i := 547) (by decide +kernel) rfl
theorem mq_X2_forget : Cond.selects RX2 yX2_forget yX2_forget ∈ gt := mg (i := 548) (by decide +kernel) rfl
theorem mc_X2_forget : Cond.code yX2_forget cX2_forget 1 none ∈ gt := mg (i := 549) (by decide +kernel) rfl
theorem ml_L_108 : Cond.methodLink RL 108 yX5_goBack ∈ gt := mg (i := 550) (by decide +kernel) rfl
theorem mi_X5_goBack : Cond.instanceMethod yX5_goBack ∈ gt := mg (i := 551) (by decide +kernel) rfl
theorem mq_X5_goBack : Cond.selects RX5 yX5_goBack yX5_goBack ∈ gt := mg (i := 552) (by decide +kernel) rfl
theorem mc_X5_goBack : Cond.code yX5_goBack cX5_goBack 2 (some .int) ∈ gt := mg (i := 553) (by decide +kernel) rfl
theorem ml_X5_218 : Cond.methodLink RX5 218 yX3_load ∈ gt := mg (i := 554) (by decide +kernel) rfl
theorem mcl_L_10 : Cond.classLink RL 10 RX6 ∈ gt := mg (i := 555) (by decide +kernel) rfl
theorem mt_X6 : Cond.instantiable RX6 20 ∈ gt := mg (i := 556) (by decide +kernel) rfl
theorem ml_L_12 : Cond.methodLink RL 12 yX6_init ∈ gt := mg (i := 557) (by decide +kernel) rfl
theorem mi_X6_init : Cond.instanceMethod yX6_init ∈ gt := mg (i := 558) (by decide +kernel) rfl
theorem mc_X6_init : Cond.code yX6_init cX6_init 1 none ∈ gt := mg (i := 559) (by decide +kernel) rfl
theorem ml_X6_1 : Cond.methodLink RX6 1 objectInit ∈ gt := mg (i := 560) (by decide +kernel) rfl
theorem mf_X6_7 : Cond.fieldLink RX6 7 "BitBranchesModel" "now" "[I" ∈ gt := mg (i := 561) (by decide +kernel) rfl
theorem mf_X6_13 : Cond.fieldLink RX6 13 "BitBranchesModel" "past" "[I" ∈ gt := mg (i := 562) (by decide +kernel) rfl
theorem mf_X6_132 : Cond.fieldLink RX6 132 "BitBranchesModel" "undos" "I" ∈ gt := mg (i := 563) (by decide +kernel) rfl
theorem mf_X6_16 : Cond.fieldLink RX6 16 "BitBranchesModel" "images" "[I" ∈ gt := mg (i := 564) (by decide +kernel) rfl
theorem mf_X6_19 : Cond.fieldLink RX6 19 "BitBranchesModel" "isKept" "[Z" ∈ gt := mg (i := 565) (by decide +kernel) rfl
theorem mf_X6_152 : Cond.fieldLink RX6 152 "BitBranchesModel" "seed" "I" ∈ gt := mg (i := 566) (by decide +kernel) rfl
theorem mf_X6_23 : Cond.fieldLink RX6 23 "BitBranchesModel" "word" "[I" ∈ gt := mg (i := 567) (by decide +kernel) rfl
theorem mf_X6_53 : Cond.fieldLink RX6 53 "BitBranchesModel" "length" "I" ∈ gt := mg (i := 568) (by decide +kernel) rfl
theorem mf_X6_26 : Cond.fieldLink RX6 26 "BitBranchesModel" "some" "[I" ∈ gt := mg (i := 569) (by decide +kernel) rfl
theorem mf_X6_100 : Cond.fieldLink RX6 100 "BitBranchesModel" "many" "I" ∈ gt := mg (i := 570) (by decide +kernel) rfl
theorem mf_X6_29 : Cond.fieldLink RX6 29 "BitBranchesModel" "bits" "[I" ∈ gt := mg (i := 571) (by decide +kernel) rfl
theorem mf_X6_32 : Cond.fieldLink RX6 32 "BitBranchesModel" "above" "[I" ∈ gt := mg (i := 572) (by decide +kernel) rfl
theorem mf_X6_35 : Cond.fieldLink RX6 35 "BitBranchesModel" "first" "[I" ∈ gt := mg (i := 573) (by decide +kernel) rfl
theorem mf_X6_38 : Cond.fieldLink RX6 38 "BitBranchesModel" "wide" "[I" ∈ gt := mg (i := 574) (by decide +kernel) rfl
theorem mf_X6_41 : Cond.fieldLink RX6 41 "BitBranchesModel" "left" "[I" ∈ gt := mg (i := 575) (by decide +kernel) rfl
theorem mf_X6_44 : Cond.fieldLink RX6 44 "BitBranchesModel" "up" "[I" ∈ gt := mg (i := 576) (by decide +kernel) rfl
theorem mf_X6_97 : Cond.fieldLink RX6 97 "BitBranchesModel" "branches" "I" ∈ gt := mg (i := 577) (by decide +kernel) rfl
theorem mf_X6_47 : Cond.fieldLink RX6 47 "BitBranchesModel" "waits" "[I" ∈ gt := mg (i := 578) (by decide +kernel) rfl
theorem mf_X6_94 : Cond.fieldLink RX6 94 "BitBranchesModel" "waiting" "I" ∈ gt := mg (i := 579) (by decide +kernel) rfl
theorem mf_X6_50 : Cond.fieldLink RX6 50 "BitBranchesModel" "typed" "[I" ∈ gt := mg (i := 580) (by decide +kernel) rfl
theorem ml_L_17 : Cond.methodLink RL 17 yX6_feed ∈ gt := mg (i := 622) (by decide +kernel) rfl
theorem mi_X6_feed : Cond.instanceMethod yX6_feed ∈ gt := mg (i := 623) (by decide +kernel) rfl
theorem mq_X6_feed : Cond.selects RX6 yX6_feed yX6_feed ∈ gt := mg (i := 624) (by decide +kernel) rfl
theorem mc_X6_feed : Cond.code yX6_feed cX6_feed 2 (some .int) ∈ gt := mg (i := 625) (by decide +kernel) rfl
theorem ml_X6_79 : Cond.methodLink RX6 79 yX6_in ∈ gt := mg (i := 626) (by decide +kernel) rfl
theorem ms_X6_in : Cond.static yX6_in ∈ gt := mg (i := 627) (by decide +kernel) rfl
theorem mc_X6_in : Cond.code yX6_in cX6_in 3 (some .boolean) ∈ gt := mg (i := 628) (by decide +kernel) rfl
theorem mk_X6_83 : Cond.constant RX6 83 (-1000000002) ∈ gt := mg (i := 629) (by decide +kernel) rfl
theorem mk_X6_84 : Cond.constant RX6 84 (-1000000004) ∈ gt := mg (i := 630) (by decide +kernel) rfl
theorem ml_L_22 : Cond.methodLink RL 22 yX6_wipe ∈ gt := mg (i := 631) (by decide +kernel) rfl
theorem mi_X6_wipe : Cond.instanceMethod yX6_wipe ∈ gt := mg (i := 632) (by decide +kernel) rfl
theorem mq_X6_wipe : Cond.selects RX6 yX6_wipe yX6_wipe ∈ gt := mg (i := 633) (by decide +kernel) rfl
theorem mc_X6_wipe : Cond.code yX6_wipe cX6_wipe 2 (some .int) ∈ gt := mg (i := 634) (by decide +kernel) rfl
theorem ml_L_26 : Cond.methodLink RL 26 yX6_type ∈ gt := mg (i := 635) (by decide +kernel) rfl
theorem mi_X6_type : Cond.instanceMethod yX6_type ∈ gt := mg (i := 636) (by decide +kernel) rfl
theorem mq_X6_type : Cond.selects RX6 yX6_type yX6_type ∈ gt := mg (i := 637) (by decide +kernel) rfl
theorem mc_X6_type : Cond.code yX6_type cX6_type 2 (some .int) ∈ gt := mg (i := 638) (by decide +kernel) rfl
theorem ml_X6_85 : Cond.methodLink RX6 85 yX6_isKey ∈ gt := mg (i := 639) (by decide +kernel) rfl
theorem mi_X6_isKey : Cond.instanceMethod yX6_isKey ∈ gt := mg (i := 641) (by decide +kernel) rfl
theorem mc_X6_isKey : Cond.code yX6_isKey cX6_isKey 2 (some .boolean) ∈ gt := mg (i := 642) (by decide +kernel) rfl
theorem mk_X6_89 : Cond.constant RX6 89 (-1000000001) ∈ gt := mg (i := 643) (by decide +kernel) rfl
theorem ml_X6_90 : Cond.methodLink RX6 90 yX6_copies ∈ gt := mg (i := 644) (by decide +kernel) rfl
theorem ms_X6_copies : Cond.static yX6_copies ∈ gt := mg (i := 645) (by decide +kernel) rfl
theorem mc_X6_copies : Cond.code yX6_copies cX6_copies 6 none ∈ gt := mg (i := 646) (by decide +kernel) rfl
theorem ml_L_30 : Cond.methodLink RL 30 yX6_told ∈ gt := mg (i := 647) (by decide +kernel) rfl
theorem mi_X6_told : Cond.instanceMethod yX6_told ∈ gt := mg (i := 648) (by decide +kernel) rfl
theorem mq_X6_told : Cond.selects RX6 yX6_told yX6_told ∈ gt := mg (i := 649) (by decide +kernel) rfl
theorem mc_X6_told : Cond.code yX6_told cX6_told 4 (some .int) ∈ gt := mg (i := 650) (by decide +kernel) rfl
theorem ml_X6_119 : Cond.methodLink RX6 119 yX6_findsBut ∈ gt := mg (i := 651) (by decide +kernel) rfl
theorem mi_X6_findsBut : Cond.instanceMethod yX6_findsBut ∈ gt := mg (i := 653) (by decide +kernel) rfl
theorem mc_X6_findsBut : Cond.code yX6_findsBut cX6_findsBut 3 none ∈ gt := mg (i := 654) (by decide +kernel) rfl
theorem ml_X6_107 : Cond.methodLink RX6 107 yX6_finds ∈ gt := mg (i := 655) (by decide +kernel) rfl
theorem mi_X6_finds : Cond.instanceMethod yX6_finds ∈ gt := mg (i := 657) (by decide +kernel) rfl
theorem mc_X6_finds : Cond.code yX6_finds cX6_finds 7 none ∈ gt := mg (i := 658) (by decide +kernel) rfl
theorem ml_X6_103 : Cond.methodLink RX6 103 yX6_waitsFor ∈ gt := mg (i := 659) (by decide +kernel) rfl
theorem mi_X6_waitsFor : Cond.instanceMethod yX6_waitsFor ∈ gt := mg (i := 661) (by decide +kernel) rfl
theorem mc_X6_waitsFor : Cond.code yX6_waitsFor cX6_waitsFor 5 none ∈ gt := mg (i := 662) (by decide +kernel) rfl
theorem ml_X6_68 : Cond.methodLink RX6 68 yX6_unlikeAt ∈ gt := mg (i := 663) (by decide +kernel) rfl
theorem mi_X6_unlikeAt : Cond.instanceMethod yX6_unlikeAt ∈ gt := mg (i := 665) (by decide +kernel) rfl
theorem mc_X6_unlikeAt : Cond.code yX6_unlikeAt cX6_unlikeAt 4 (some .int) ∈ gt := mg (i := 666) (by decide +kernel) rfl
theorem ml_X6_65 : Cond.methodLink RX6 65 yX6_bitOf ∈ gt := mg (i := 667) (by decide +kernel) rfl
theorem mi_X6_bitOf : Cond.instanceMethod yX6_bitOf ∈ gt := mg (i := 669) (by decide +kernel) rfl
theorem mc_X6_bitOf : Cond.code yX6_bitOf cX6_bitOf 4 (some .int) ∈ gt := mg (i := 670) (by decide +kernel) rfl
theorem ml_X6_57 : Cond.methodLink RX6 57 yX6_sizeOf ∈ gt := mg (i := 671) (by decide +kernel) rfl
theorem mi_X6_sizeOf : Cond.instanceMethod yX6_sizeOf ∈ gt := mg (i := 673) (by decide +kernel) rfl
theorem mc_X6_sizeOf : Cond.code yX6_sizeOf cX6_sizeOf 2 (some .int) ∈ gt := mg (i := 674) (by decide +kernel) rfl
theorem ml_X6_61 : Cond.methodLink RX6 61 yX6_letterOf ∈ gt := mg (i := 675) (by decide +kernel) rfl
theorem mi_X6_letterOf : Cond.instanceMethod yX6_letterOf ∈ gt := mg (i := 677) (by decide +kernel) rfl
theorem mc_X6_letterOf : Cond.code yX6_letterOf cX6_letterOf 3 (some .int) ∈ gt := mg (i := 678) (by decide +kernel) rfl
theorem ml_X6_123 : Cond.methodLink RX6 123 yX6_deepest ∈ gt := mg (i := 679) (by decide +kernel) rfl
theorem mi_X6_deepest : Cond.instanceMethod yX6_deepest ∈ gt := mg (i := 681) (by decide +kernel) rfl
theorem mc_X6_deepest : Cond.code yX6_deepest cX6_deepest 3 (some .int) ∈ gt := mg (i := 682) (by decide +kernel) rfl
theorem ml_X6_113 : Cond.methodLink RX6 113 yX6_depthOf ∈ gt := mg (i := 683) (by decide +kernel) rfl
theorem mi_X6_depthOf : Cond.instanceMethod yX6_depthOf ∈ gt := mg (i := 685) (by decide +kernel) rfl
theorem mc_X6_depthOf : Cond.code yX6_depthOf cX6_depthOf 4 (some .int) ∈ gt := mg (i := 686) (by decide +kernel) rfl
theorem ml_X6_110 : Cond.methodLink RX6 110 yX6_isBelow ∈ gt := mg (i := 687) (by decide +kernel) rfl
theorem mi_X6_isBelow : Cond.instanceMethod yX6_isBelow ∈ gt := mg (i := 689) (by decide +kernel) rfl
theorem mc_X6_isBelow : Cond.code yX6_isBelow cX6_isBelow 3 (some .boolean) ∈ gt := mg (i := 690) (by decide +kernel) rfl
theorem ml_X6_116 : Cond.methodLink RX6 116 yX6_more ∈ gt := mg (i := 691) (by decide +kernel) rfl
theorem ms_X6_more : Cond.static yX6_more ∈ gt := mg (i := 692) (by decide +kernel) rfl
theorem mc_X6_more : Cond.code yX6_more cX6_more 2 (some .int) ∈ gt := mg (i := 693) (by decide +kernel) rfl
theorem ml_X6_126 : Cond.methodLink RX6 126 yX6_sum ∈ gt := mg (i := 694) (by decide +kernel) rfl
theorem mi_X6_sum : Cond.instanceMethod yX6_sum ∈ gt := mg (i := 696) (by decide +kernel) rfl
theorem mc_X6_sum : Cond.code yX6_sum cX6_sum 4 (some .int) ∈ gt := mg (i := 697) (by decide +kernel) rfl
theorem ml_X6_75 : Cond.methodLink RX6 75 yX6_place ∈ gt := mg (i := 698) (by decide +kernel) rfl
theorem mi_X6_place : Cond.instanceMethod yX6_place ∈ gt := mg (i := 700) (by decide +kernel) rfl
theorem mc_X6_place : Cond.code yX6_place cX6_place 2 (some .int) ∈ gt := mg (i := 701) (by decide +kernel) rfl
theorem ml_X6_71 : Cond.methodLink RX6 71 yX6_isLess ∈ gt := mg (i := 702) (by decide +kernel) rfl
theorem mi_X6_isLess : Cond.instanceMethod yX6_isLess ∈ gt := mg (i := 704) (by decide +kernel) rfl
theorem mc_X6_isLess : Cond.code yX6_isLess cX6_isLess 4 (some .boolean) ∈ gt := mg (i := 705) (by decide +kernel) rfl
theorem ml_X6_129 : Cond.methodLink RX6 129 yX6_keyNow ∈ gt := mg (i := 706) (by decide +kernel) rfl
theorem mi_X6_keyNow : Cond.instanceMethod yX6_keyNow ∈ gt := mg (i := 708) (by decide +kernel) rfl
theorem mc_X6_keyNow : Cond.code yX6_keyNow cX6_keyNow 2 (some .int) ∈ gt := mg (i := 709) (by decide +kernel) rfl
theorem ml_L_35 : Cond.methodLink RL 35 yX6_key ∈ gt := mg (i := 710) (by decide +kernel) rfl
theorem mi_X6_key : Cond.instanceMethod yX6_key ∈ gt := mg (i := 711) (by decide +kernel) rfl
theorem mq_X6_key : Cond.selects RX6 yX6_key yX6_key ∈ gt := mg (i := 712) (by decide +kernel) rfl
theorem mc_X6_key : Cond.code yX6_key cX6_key 3 (some .int) ∈ gt := mg (i := 713) (by decide +kernel) rfl
theorem ml_L_39 : Cond.methodLink RL 39 yX6_branch ∈ gt := mg (i := 714) (by decide +kernel) rfl
theorem mi_X6_branch : Cond.instanceMethod yX6_branch ∈ gt := mg (i := 715) (by decide +kernel) rfl
theorem mq_X6_branch : Cond.selects RX6 yX6_branch yX6_branch ∈ gt := mg (i := 716) (by decide +kernel) rfl
theorem mc_X6_branch : Cond.code yX6_branch cX6_branch 3 (some .int) ∈ gt := mg (i := 717) (by decide +kernel) rfl
theorem ml_L_43 : Cond.methodLink RL 43 yX6_put ∈ gt := mg (i := 718) (by decide +kernel) rfl
theorem mi_X6_put : Cond.instanceMethod yX6_put ∈ gt := mg (i := 719) (by decide +kernel) rfl
theorem mq_X6_put : Cond.selects RX6 yX6_put yX6_put ∈ gt := mg (i := 720) (by decide +kernel) rfl
theorem mc_X6_put : Cond.code yX6_put cX6_put 4 (some .int) ∈ gt := mg (i := 721) (by decide +kernel) rfl
theorem ml_X6_139 : Cond.methodLink RX6 139 yX6_notes ∈ gt := mg (i := 722) (by decide +kernel) rfl
theorem mi_X6_notes : Cond.instanceMethod yX6_notes ∈ gt := mg (i := 724) (by decide +kernel) rfl
theorem mc_X6_notes : Cond.code yX6_notes cX6_notes 2 none ∈ gt := mg (i := 725) (by decide +kernel) rfl
theorem ml_X6_142 : Cond.methodLink RX6 142 yX6_puts ∈ gt := mg (i := 726) (by decide +kernel) rfl
theorem mi_X6_puts : Cond.instanceMethod yX6_puts ∈ gt := mg (i := 728) (by decide +kernel) rfl
theorem mc_X6_puts : Cond.code yX6_puts cX6_puts 4 none ∈ gt := mg (i := 729) (by decide +kernel) rfl
theorem ml_X6_135 : Cond.methodLink RX6 135 yX6_moves ∈ gt := mg (i := 730) (by decide +kernel) rfl
theorem mi_X6_moves : Cond.instanceMethod yX6_moves ∈ gt := mg (i := 732) (by decide +kernel) rfl
theorem mc_X6_moves : Cond.code yX6_moves cX6_moves 3 none ∈ gt := mg (i := 733) (by decide +kernel) rfl
theorem ml_L_47 : Cond.methodLink RL 47 yX6_take ∈ gt := mg (i := 734) (by decide +kernel) rfl
theorem mi_X6_take : Cond.instanceMethod yX6_take ∈ gt := mg (i := 735) (by decide +kernel) rfl
theorem mq_X6_take : Cond.selects RX6 yX6_take yX6_take ∈ gt := mg (i := 736) (by decide +kernel) rfl
theorem mc_X6_take : Cond.code yX6_take cX6_take 3 (some .int) ∈ gt := mg (i := 737) (by decide +kernel) rfl
theorem mk_X6_145 : Cond.constant RX6 145 (-1000000003) ∈ gt := mg (i := 738) (by decide +kernel) rfl
theorem ml_X6_146 : Cond.methodLink RX6 146 yX6_takes ∈ gt := mg (i := 739) (by decide +kernel) rfl
theorem mi_X6_takes : Cond.instanceMethod yX6_takes ∈ gt := mg (i := 741) (by decide +kernel) rfl
theorem mc_X6_takes : Cond.code yX6_takes cX6_takes 3 none ∈ gt := mg (i := 742) (by decide +kernel) rfl
theorem ml_L_51 : Cond.methodLink RL 51 yX6_cut ∈ gt := mg (i := 743) (by decide +kernel) rfl
theorem mi_X6_cut : Cond.instanceMethod yX6_cut ∈ gt := mg (i := 744) (by decide +kernel) rfl
theorem mq_X6_cut : Cond.selects RX6 yX6_cut yX6_cut ∈ gt := mg (i := 745) (by decide +kernel) rfl
theorem mc_X6_cut : Cond.code yX6_cut cX6_cut 3 (some .int) ∈ gt := mg (i := 746) (by decide +kernel) rfl
theorem ml_X6_149 : Cond.methodLink RX6 149 yX6_begins ∈ gt := mg (i := 747) (by decide +kernel) rfl
theorem mi_X6_begins : Cond.instanceMethod yX6_begins ∈ gt := mg (i := 749) (by decide +kernel) rfl
theorem mc_X6_begins : Cond.code yX6_begins cX6_begins 5 (some .boolean) ∈ gt := mg (i := 750) (by decide +kernel) rfl
theorem ml_L_55 : Cond.methodLink RL 55 yX6_raise ∈ gt := mg (i := 751) (by decide +kernel) rfl
theorem mi_X6_raise : Cond.instanceMethod yX6_raise ∈ gt := mg (i := 752) (by decide +kernel) rfl
theorem mq_X6_raise : Cond.selects RX6 yX6_raise yX6_raise ∈ gt := mg (i := 753) (by decide +kernel) rfl
theorem mc_X6_raise : Cond.code yX6_raise cX6_raise 5 (some .int) ∈ gt := mg (i := 754) (by decide +kernel) rfl
theorem ml_L_59 : Cond.methodLink RL 59 yX6_drift ∈ gt := mg (i := 755) (by decide +kernel) rfl
theorem mi_X6_drift : Cond.instanceMethod yX6_drift ∈ gt := mg (i := 756) (by decide +kernel) rfl
theorem mq_X6_drift : Cond.selects RX6 yX6_drift yX6_drift ∈ gt := mg (i := 757) (by decide +kernel) rfl
theorem mc_X6_drift : Cond.code yX6_drift cX6_drift 4 (some .int) ∈ gt := mg (i := 758) (by decide +kernel) rfl
theorem ml_X6_165 : Cond.methodLink RX6 165 yX6_drifts ∈ gt := mg (i := 759) (by decide +kernel) rfl
theorem mi_X6_drifts : Cond.instanceMethod yX6_drifts ∈ gt := mg (i := 761) (by decide +kernel) rfl
theorem mc_X6_drifts : Cond.code yX6_drifts cX6_drifts 4 none ∈ gt := mg (i := 762) (by decide +kernel) rfl
theorem ml_X6_162 : Cond.methodLink RX6 162 yX6_draw ∈ gt := mg (i := 763) (by decide +kernel) rfl
theorem mi_X6_draw : Cond.instanceMethod yX6_draw ∈ gt := mg (i := 765) (by decide +kernel) rfl
theorem mc_X6_draw : Cond.code yX6_draw cX6_draw 2 (some .int) ∈ gt := mg (i := 766) (by decide +kernel) rfl
theorem mk_X6_155 : Cond.constantLong RX6 155 (1103515245) ∈ gt := mg (i := 767) (by decide +kernel) rfl
theorem mk_X6_157 : Cond.constantLong RX6 157 (12345) ∈ gt := mg (i := 768) (by decide +kernel) rfl
theorem mk_X6_159 : Cond.constantLong RX6 159 (2147483648) ∈ gt := mg (i := 769) (by decide +kernel) rfl
theorem mk_X6_161 : Cond.constant RX6 161 (65536) ∈ gt := mg (i := 770) (by decide +kernel) rfl
theorem ml_L_63 : Cond.methodLink RL 63 yX6_undo ∈ gt := mg (i := 771) (by decide +kernel) rfl
theorem mi_X6_undo : Cond.instanceMethod yX6_undo ∈ gt := mg (i := 772) (by decide +kernel) rfl
theorem mq_X6_undo : Cond.selects RX6 yX6_undo yX6_undo ∈ gt := mg (i := 773) (by decide +kernel) rfl
theorem mc_X6_undo : Cond.code yX6_undo cX6_undo 2 (some .int) ∈ gt := mg (i := 774) (by decide +kernel) rfl
theorem ml_L_67 : Cond.methodLink RL 67 yX6_below ∈ gt := mg (i := 775) (by decide +kernel) rfl
theorem mi_X6_below : Cond.instanceMethod yX6_below ∈ gt := mg (i := 776) (by decide +kernel) rfl
theorem mq_X6_below : Cond.selects RX6 yX6_below yX6_below ∈ gt := mg (i := 777) (by decide +kernel) rfl
theorem mc_X6_below : Cond.code yX6_below cX6_below 7 (some .int) ∈ gt := mg (i := 778) (by decide +kernel) rfl
theorem ml_L_71 : Cond.methodLink RL 71 yX6_stem ∈ gt := mg (i := 779) (by decide +kernel) rfl
theorem mi_X6_stem : Cond.instanceMethod yX6_stem ∈ gt := mg (i := 780) (by decide +kernel) rfl
theorem mq_X6_stem : Cond.selects RX6 yX6_stem yX6_stem ∈ gt := mg (i := 781) (by decide +kernel) rfl
theorem mc_X6_stem : Cond.code yX6_stem cX6_stem 3 (some .int) ∈ gt := mg (i := 782) (by decide +kernel) rfl
theorem ml_L_75 : Cond.methodLink RL 75 yX6_beside ∈ gt := mg (i := 783) (by decide +kernel) rfl
theorem mi_X6_beside : Cond.instanceMethod yX6_beside ∈ gt := mg (i := 784) (by decide +kernel) rfl
theorem mq_X6_beside : Cond.selects RX6 yX6_beside yX6_beside ∈ gt := mg (i := 785) (by decide +kernel) rfl
theorem mc_X6_beside : Cond.code yX6_beside cX6_beside 4 (some .int) ∈ gt := mg (i := 786) (by decide +kernel) rfl
theorem ml_L_79 : Cond.methodLink RL 79 yX6_closest ∈ gt := mg (i := 787) (by decide +kernel) rfl
theorem mi_X6_closest : Cond.instanceMethod yX6_closest ∈ gt := mg (i := 788) (by decide +kernel) rfl
theorem mq_X6_closest : Cond.selects RX6 yX6_closest yX6_closest ∈ gt := mg (i := 789) (by decide +kernel) rfl
theorem mc_X6_closest : Cond.code yX6_closest cX6_closest 3 (some .int) ∈ gt := mg (i := 790) (by decide +kernel) rfl
theorem ml_L_83 : Cond.methodLink RL 83 yX6_off ∈ gt := mg (i := 791) (by decide +kernel) rfl
theorem mi_X6_off : Cond.instanceMethod yX6_off ∈ gt := mg (i := 792) (by decide +kernel) rfl
theorem mq_X6_off : Cond.selects RX6 yX6_off yX6_off ∈ gt := mg (i := 793) (by decide +kernel) rfl
theorem mc_X6_off : Cond.code yX6_off cX6_off 2 (some .int) ∈ gt := mg (i := 794) (by decide +kernel) rfl
theorem ml_X6_168 : Cond.methodLink RX6 168 yX6_closest ∈ gt := mg (i := 795) (by decide +kernel) rfl
theorem ml_L_87 : Cond.methodLink RL 87 yX6_blind ∈ gt := mg (i := 796) (by decide +kernel) rfl
theorem mi_X6_blind : Cond.instanceMethod yX6_blind ∈ gt := mg (i := 797) (by decide +kernel) rfl
theorem mq_X6_blind : Cond.selects RX6 yX6_blind yX6_blind ∈ gt := mg (i := 798) (by decide +kernel) rfl
theorem mc_X6_blind : Cond.code yX6_blind cX6_blind 7 (some .int) ∈ gt := mg (i := 799) (by decide +kernel) rfl
theorem ml_L_91 : Cond.methodLink RL 91 yX6_way ∈ gt := mg (i := 800) (by decide +kernel) rfl
theorem mi_X6_way : Cond.instanceMethod yX6_way ∈ gt := mg (i := 801) (by decide +kernel) rfl
theorem mq_X6_way : Cond.selects RX6 yX6_way yX6_way ∈ gt := mg (i := 802) (by decide +kernel) rfl
theorem mc_X6_way : Cond.code yX6_way cX6_way 5 (some .int) ∈ gt := mg (i := 803) (by decide +kernel) rfl
theorem ml_L_95 : Cond.methodLink RL 95 yX6_unlike ∈ gt := mg (i := 804) (by decide +kernel) rfl
theorem mi_X6_unlike : Cond.instanceMethod yX6_unlike ∈ gt := mg (i := 805) (by decide +kernel) rfl
theorem mq_X6_unlike : Cond.selects RX6 yX6_unlike yX6_unlike ∈ gt := mg (i := 806) (by decide +kernel) rfl
theorem mc_X6_unlike : Cond.code yX6_unlike cX6_unlike 3 (some .int) ∈ gt := mg (i := 807) (by decide +kernel) rfl
theorem ml_L_99 : Cond.methodLink RL 99 yX6_bit ∈ gt := mg (i := 808) (by decide +kernel) rfl
theorem mi_X6_bit : Cond.instanceMethod yX6_bit ∈ gt := mg (i := 809) (by decide +kernel) rfl
theorem mq_X6_bit : Cond.selects RX6 yX6_bit yX6_bit ∈ gt := mg (i := 810) (by decide +kernel) rfl
theorem mc_X6_bit : Cond.code yX6_bit cX6_bit 2 (some .int) ∈ gt := mg (i := 811) (by decide +kernel) rfl
theorem ml_L_103 : Cond.methodLink RL 103 yX6_seed ∈ gt := mg (i := 812) (by decide +kernel) rfl
theorem mi_X6_seed : Cond.instanceMethod yX6_seed ∈ gt := mg (i := 813) (by decide +kernel) rfl
theorem mq_X6_seed : Cond.selects RX6 yX6_seed yX6_seed ∈ gt := mg (i := 814) (by decide +kernel) rfl
theorem mc_X6_seed : Cond.code yX6_seed cX6_seed 3 (some .int) ∈ gt := mg (i := 815) (by decide +kernel) rfl
theorem ml_L_107 : Cond.methodLink RL 107 yX6_keep ∈ gt := mg (i := 816) (by decide +kernel) rfl
theorem mi_X6_keep : Cond.instanceMethod yX6_keep ∈ gt := mg (i := 817) (by decide +kernel) rfl
theorem mq_X6_keep : Cond.selects RX6 yX6_keep yX6_keep ∈ gt := mg (i := 818) (by decide +kernel) rfl
theorem mc_X6_keep : Cond.code yX6_keep cX6_keep 2 (some .int) ∈ gt := mg (i := 819) (by decide +kernel) rfl
theorem ml_L_111 : Cond.methodLink RL 111 yX6_goBack ∈ gt := mg (i := 820) (by decide +kernel) rfl
theorem mi_X6_goBack : Cond.instanceMethod yX6_goBack ∈ gt := mg (i := 821) (by decide +kernel) rfl
theorem mq_X6_goBack : Cond.selects RX6 yX6_goBack yX6_goBack ∈ gt := mg (i := 822) (by decide +kernel) rfl
theorem mc_X6_goBack : Cond.code yX6_goBack cX6_goBack 2 (some .int) ∈ gt := mg (i := 823) (by decide +kernel) rfl
theorem mq_X1_isAt : Cond.selects RX1 yX1_isAt yX1_isAt ∈ gt := mg (i := 0) (by decide +kernel) rfl
theorem mq_X0_isBelow : Cond.selects RX0 yX0_isBelow yX0_isBelow ∈ gt := mg (i := 1) (by decide +kernel) rfl
theorem mq_X1_insert : Cond.selects RX1 yX1_insert yX1_insert ∈ gt := mg (i := 2) (by decide +kernel) rfl
theorem mq_X0_hang : Cond.selects RX0 yX0_hang yX0_hang ∈ gt := mg (i := 3) (by decide +kernel) rfl
theorem mq_X0_split : Cond.selects RX0 yX0_split yX0_split ∈ gt := mg (i := 4) (by decide +kernel) rfl
theorem mq_X5_deedByDraws : Cond.selects RX5 yX5_deedByDraws yX5_deedByDraws ∈ gt := mg (i := 5) (by decide +kernel) rfl
theorem mq_X5_drawWord : Cond.selects RX5 yX5_drawWord yX5_drawWord ∈ gt := mg (i := 6) (by decide +kernel) rfl
theorem mq_X5_nextDraw : Cond.selects RX5 yX5_nextDraw yX5_nextDraw ∈ gt := mg (i := 7) (by decide +kernel) rfl
theorem mq_X6_isKey : Cond.selects RX6 yX6_isKey yX6_isKey ∈ gt := mg (i := 8) (by decide +kernel) rfl
theorem mq_X6_findsBut : Cond.selects RX6 yX6_findsBut yX6_findsBut ∈ gt := mg (i := 9) (by decide +kernel) rfl
theorem mq_X6_finds : Cond.selects RX6 yX6_finds yX6_finds ∈ gt := mg (i := 10) (by decide +kernel) rfl
theorem mq_X6_waitsFor : Cond.selects RX6 yX6_waitsFor yX6_waitsFor ∈ gt := mg (i := 11) (by decide +kernel) rfl
theorem mq_X6_unlikeAt : Cond.selects RX6 yX6_unlikeAt yX6_unlikeAt ∈ gt := mg (i := 12) (by decide +kernel) rfl
theorem mq_X6_bitOf : Cond.selects RX6 yX6_bitOf yX6_bitOf ∈ gt := mg (i := 13) (by decide +kernel) rfl
theorem mq_X6_sizeOf : Cond.selects RX6 yX6_sizeOf yX6_sizeOf ∈ gt := mg (i := 14) (by decide +kernel) rfl
theorem mq_X6_letterOf : Cond.selects RX6 yX6_letterOf yX6_letterOf ∈ gt := mg (i := 15) (by decide +kernel) rfl
theorem mq_X6_deepest : Cond.selects RX6 yX6_deepest yX6_deepest ∈ gt := mg (i := 16) (by decide +kernel) rfl
theorem mq_X6_depthOf : Cond.selects RX6 yX6_depthOf yX6_depthOf ∈ gt := mg (i := 17) (by decide +kernel) rfl
theorem mq_X6_isBelow : Cond.selects RX6 yX6_isBelow yX6_isBelow ∈ gt := mg (i := 18) (by decide +kernel) rfl
theorem mq_X6_sum : Cond.selects RX6 yX6_sum yX6_sum ∈ gt := mg (i := 19) (by decide +kernel) rfl
theorem mq_X6_place : Cond.selects RX6 yX6_place yX6_place ∈ gt := mg (i := 20) (by decide +kernel) rfl
theorem mq_X6_isLess : Cond.selects RX6 yX6_isLess yX6_isLess ∈ gt := mg (i := 21) (by decide +kernel) rfl
theorem mq_X6_keyNow : Cond.selects RX6 yX6_keyNow yX6_keyNow ∈ gt := mg (i := 22) (by decide +kernel) rfl
theorem mq_X6_notes : Cond.selects RX6 yX6_notes yX6_notes ∈ gt := mg (i := 23) (by decide +kernel) rfl
theorem mq_X6_puts : Cond.selects RX6 yX6_puts yX6_puts ∈ gt := mg (i := 24) (by decide +kernel) rfl
theorem mq_X6_moves : Cond.selects RX6 yX6_moves yX6_moves ∈ gt := mg (i := 25) (by decide +kernel) rfl
theorem mq_X6_takes : Cond.selects RX6 yX6_takes yX6_takes ∈ gt := mg (i := 26) (by decide +kernel) rfl
theorem mq_X6_begins : Cond.selects RX6 yX6_begins yX6_begins ∈ gt := mg (i := 27) (by decide +kernel) rfl
theorem mq_X6_drifts : Cond.selects RX6 yX6_drifts yX6_drifts ∈ gt := mg (i := 28) (by decide +kernel) rfl
theorem mq_X6_draw : Cond.selects RX6 yX6_draw yX6_draw ∈ gt := mg (i := 29) (by decide +kernel) rfl
theorem inX0 : ∀ w ∈ u_ws RX0 TX0 9, w ∈ gt := fun w h => List.mem_filter.mpr ⟨mem_r (u_ws RX0 TX0 9) [101, 103, 105, 107, 109, 111, 113, 115, 117] (by decide +kernel) w h, List.all_eq_true.mp (show (u_ws RX0 TX0 9).all goodWord = true by decide +kernel) w h⟩
theorem inX1 : ∀ w ∈ u_ws RX1 TX1 4, w ∈ gt := fun w h => List.mem_filter.mpr ⟨mem_r (u_ws RX1 TX1 4) [75, 77, 79, 81] (by decide +kernel) w h, List.all_eq_true.mp (show (u_ws RX1 TX1 4).all goodWord = true by decide +kernel) w h⟩
theorem inX2 : ∀ w ∈ u_ws RX2 TX2 3, w ∈ gt := fun w h => List.mem_filter.mpr ⟨mem_r (u_ws RX2 TX2 3) [151, 153, 155] (by decide +kernel) w h, List.all_eq_true.mp (show (u_ws RX2 TX2 3).all goodWord = true by decide +kernel) w h⟩
theorem inX3 : ∀ w ∈ u_ws RX3 TX3 5, w ∈ gt := fun w h => List.mem_filter.mpr ⟨mem_r (u_ws RX3 TX3 5) [137, 139, 141, 143, 145] (by decide +kernel) w h, List.all_eq_true.mp (show (u_ws RX3 TX3 5).all goodWord = true by decide +kernel) w h⟩
theorem inX4 : ∀ w ∈ u_ws RX4 TX4 2, w ∈ gt := fun w h => List.mem_filter.mpr ⟨mem_r (u_ws RX4 TX4 2) [56, 58] (by decide +kernel) w h, List.all_eq_true.mp (show (u_ws RX4 TX4 2).all goodWord = true by decide +kernel) w h⟩
theorem inX5 : ∀ w ∈ u_ws RX5 TX5 9, w ∈ gt := fun w h => List.mem_filter.mpr ⟨mem_r (u_ws RX5 TX5 9) [169, 171, 173, 175, 177, 179, 181, 183, 185] (by decide +kernel) w h, List.all_eq_true.mp (show (u_ws RX5 TX5 9).all goodWord = true by decide +kernel) w h⟩
theorem inX6 : ∀ w ∈ u_ws RX6 TX6 20, w ∈ gt := fun w h => List.mem_filter.mpr ⟨mem_r (u_ws RX6 TX6 20) [581, 583, 585, 587, 589, 591, 593, 595, 597, 599, 601, 603, 605, 607, 609, 611, 613, 615, 617, 619] (by decide +kernel) w h, List.all_eq_true.mp (show (u_ws RX6 TX6 20).all goodWord = true by decide +kernel) w h⟩
