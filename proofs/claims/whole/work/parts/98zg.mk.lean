/-! the constructors of the class, but DogLeases' own -/
def TYg (g : ClassId × ClassId × ClassId) : List (ClassId × FieldType) := [(g.1, .int), (g.2.1, .byte), (g.2.2, .long)]
theorem nw_0 : (.methodLink RX0 3 Lib.objectInit : Cond) ∈ GG := gg_2 (List.mem_of_getElem? (i := 34) (by decide +kernel)) (by decide +kernel)
theorem nw_1 : (.instanceMethod Lib.objectInit : Cond) ∈ GG := gg_1 (List.mem_of_getElem? (i := 31) (by decide +kernel)) (by decide +kernel)
theorem nw_2 : (.code Lib.objectInit ⟨#[0xb1]⟩ 1 none : Cond) ∈ GG := gg_1 (List.mem_of_getElem? (i := 32) (by decide +kernel)) (by decide +kernel)
theorem nw_3 : (.arrayClass .int : Cond) ∈ GG := gg_1 (List.mem_of_getElem? (i := 96) (by decide +kernel)) (by decide +kernel)
theorem nw_4 : (.fieldLink RX0 9 (TX0 0).1 (TX0 0).2.1 (TX0 0).2.2.1 : Cond) ∈ GG := gg_2 (List.mem_of_getElem? (i := 35) (by decide +kernel)) (by decide +kernel)
theorem nw_5 : (.fieldLink RX0 15 (TX0 1).1 (TX0 1).2.1 (TX0 1).2.2.1 : Cond) ∈ GG := gg_2 (List.mem_of_getElem? (i := 36) (by decide +kernel)) (by decide +kernel)
theorem nw_6 : (.fieldLink RX0 19 (TX0 2).1 (TX0 2).2.1 (TX0 2).2.2.1 : Cond) ∈ GG := gg_2 (List.mem_of_getElem? (i := 37) (by decide +kernel)) (by decide +kernel)
theorem nw_7 : (.code yX0_init cX0_init 1 none : Cond) ∈ GG := gg_2 (List.mem_of_getElem? (i := 33) (by decide +kernel)) (by decide +kernel)
theorem nw_8 : (.initialized RX0 : Cond) ∈ GG := gg_1 (List.mem_of_getElem? (i := 10) (by decide +kernel)) (by decide +kernel)
theorem nw_9 : (.instanceMethod yX0_init : Cond) ∈ GG := gg_2 (List.mem_of_getElem? (i := 32) (by decide +kernel)) (by decide +kernel)
theorem nw_10 : (.methodLink RX6 3 Lib.objectInit : Cond) ∈ GG := gg_2 (List.mem_of_getElem? (i := 51) (by decide +kernel)) (by decide +kernel)
theorem nw_11 : (.fieldLink RX6 11 (TX6 0).1 (TX6 0).2.1 (TX6 0).2.2.1 : Cond) ∈ GG := gg_2 (List.mem_of_getElem? (i := 52) (by decide +kernel)) (by decide +kernel)
theorem nw_12 : (.fieldLink RX6 15 (TX6 1).1 (TX6 1).2.1 (TX6 1).2.2.1 : Cond) ∈ GG := gg_2 (List.mem_of_getElem? (i := 53) (by decide +kernel)) (by decide +kernel)
theorem nw_13 : (.code yX6_init cX6_init 1 none : Cond) ∈ GG := gg_2 (List.mem_of_getElem? (i := 50) (by decide +kernel)) (by decide +kernel)
theorem nw_14 : (.initialized RX6 : Cond) ∈ GG := gg_1 (List.mem_of_getElem? (i := 11) (by decide +kernel)) (by decide +kernel)
theorem nw_15 : (.instanceMethod yX6_init : Cond) ∈ GG := gg_2 (List.mem_of_getElem? (i := 49) (by decide +kernel)) (by decide +kernel)
theorem nw_16 : (.methodLink RX4 3 Lib.objectInit : Cond) ∈ GG := gg_1 (List.mem_of_getElem? (i := 85) (by decide +kernel)) (by decide +kernel)
theorem nw_17 : (.fieldLink RX4 9 (TX4 0).1 (TX4 0).2.1 (TX4 0).2.2.1 : Cond) ∈ GG := gg_1 (List.mem_of_getElem? (i := 86) (by decide +kernel)) (by decide +kernel)
theorem nw_18 : (.fieldLink RX4 15 (TX4 1).1 (TX4 1).2.1 (TX4 1).2.2.1 : Cond) ∈ GG := gg_1 (List.mem_of_getElem? (i := 87) (by decide +kernel)) (by decide +kernel)
theorem nw_19 : (.fieldLink RX4 18 (TX4 2).1 (TX4 2).2.1 (TX4 2).2.2.1 : Cond) ∈ GG := gg_1 (List.mem_of_getElem? (i := 88) (by decide +kernel)) (by decide +kernel)
theorem nw_20 : (.code yX4_init cX4_init 1 none : Cond) ∈ GG := gg_1 (List.mem_of_getElem? (i := 84) (by decide +kernel)) (by decide +kernel)
theorem nw_21 : (.initialized RX4 : Cond) ∈ GG := gg_1 (List.mem_of_getElem? (i := 5) (by decide +kernel)) (by decide +kernel)
theorem nw_22 : (.instanceMethod yX4_init : Cond) ∈ GG := gg_1 (List.mem_of_getElem? (i := 83) (by decide +kernel)) (by decide +kernel)
theorem nw_23 : (.methodLink RX1 3 Lib.objectInit : Cond) ∈ GG := gg_2 (List.mem_of_getElem? (i := 28) (by decide +kernel)) (by decide +kernel)
theorem nw_24 : (.fieldLink RX1 9 (TX1 0).1 (TX1 0).2.1 (TX1 0).2.2.1 : Cond) ∈ GG := gg_2 (List.mem_of_getElem? (i := 61) (by decide +kernel)) (by decide +kernel)
theorem nw_25 : (.classLink RX1 15 RX0 : Cond) ∈ GG := gg_2 (List.mem_of_getElem? (i := 29) (by decide +kernel)) (by decide +kernel)
theorem nw_26 : (.instantiable RX0 3 : Cond) ∈ GG := gg_2 (List.mem_of_getElem? (i := 30) (by decide +kernel)) (by decide +kernel)
theorem nw_27 : (.fieldLink RX1 18 (TX1 1).1 (TX1 1).2.1 (TX1 1).2.2.1 : Cond) ∈ GG := gg_2 (List.mem_of_getElem? (i := 63) (by decide +kernel)) (by decide +kernel)
theorem nw_28 : (.classLink RX1 22 RX6 : Cond) ∈ GG := gg_2 (List.mem_of_getElem? (i := 46) (by decide +kernel)) (by decide +kernel)
theorem nw_29 : (.instantiable RX6 2 : Cond) ∈ GG := gg_2 (List.mem_of_getElem? (i := 47) (by decide +kernel)) (by decide +kernel)
theorem nw_30 : (.fieldLink RX1 25 (TX1 2).1 (TX1 2).2.1 (TX1 2).2.2.1 : Cond) ∈ GG := gg_2 (List.mem_of_getElem? (i := 65) (by decide +kernel)) (by decide +kernel)
theorem nw_31 : (.fieldLink RX1 29 (TX1 3).1 (TX1 3).2.1 (TX1 3).2.2.1 : Cond) ∈ GG := gg_2 (List.mem_of_getElem? (i := 67) (by decide +kernel)) (by decide +kernel)
theorem nw_32 : (.code yX1_init cX1_init 1 none : Cond) ∈ GG := gg_2 (List.mem_of_getElem? (i := 27) (by decide +kernel)) (by decide +kernel)
theorem nw_33 : (.initialized RX1 : Cond) ∈ GG := gg_1 (List.mem_of_getElem? (i := 9) (by decide +kernel)) (by decide +kernel)
theorem nw_34 : (.instanceMethod yX1_init : Cond) ∈ GG := gg_2 (List.mem_of_getElem? (i := 26) (by decide +kernel)) (by decide +kernel)
theorem nw_35 : (.methodLink RX2 3 Lib.objectInit : Cond) ∈ GG := gg_1 (List.mem_of_getElem? (i := 134) (by decide +kernel)) (by decide +kernel)
theorem nw_36 : (.fieldLink RX2 9 (TX2 0).1 (TX2 0).2.1 (TX2 0).2.2.1 : Cond) ∈ GG := gg_1 (List.mem_of_getElem? (i := 137) (by decide +kernel)) (by decide +kernel)
theorem nw_37 : (.fieldLink RX2 15 (TX2 1).1 (TX2 1).2.1 (TX2 1).2.2.1 : Cond) ∈ GG := gg_1 (List.mem_of_getElem? (i := 141) (by decide +kernel)) (by decide +kernel)
theorem nw_38 : (.fieldLink RX2 18 (TX2 2).1 (TX2 2).2.1 (TX2 2).2.2.1 : Cond) ∈ GG := gg_1 (List.mem_of_getElem? (i := 145) (by decide +kernel)) (by decide +kernel)
theorem nw_39 : (.fieldLink RX2 21 (TX2 3).1 (TX2 3).2.1 (TX2 3).2.2.1 : Cond) ∈ GG := gg_1 (List.mem_of_getElem? (i := 149) (by decide +kernel)) (by decide +kernel)
theorem nw_40 : (.fieldLink RX2 25 (TX2 4).1 (TX2 4).2.1 (TX2 4).2.2.1 : Cond) ∈ GG := gg_1 (List.mem_of_getElem? (i := 153) (by decide +kernel)) (by decide +kernel)
theorem nw_41 : (.fieldLink RX2 28 (TX2 5).1 (TX2 5).2.1 (TX2 5).2.2.1 : Cond) ∈ GG := gg_1 (List.mem_of_getElem? (i := 157) (by decide +kernel)) (by decide +kernel)
theorem nw_42 : (.fieldLink RX2 31 (TX2 6).1 (TX2 6).2.1 (TX2 6).2.2.1 : Cond) ∈ GG := gg_1 (List.mem_of_getElem? (i := 161) (by decide +kernel)) (by decide +kernel)
theorem nw_43 : (.classLink RX2 34 RX4 : Cond) ∈ GG := gg_1 (List.mem_of_getElem? (i := 135) (by decide +kernel)) (by decide +kernel)
theorem nw_44 : (.instantiable RX4 3 : Cond) ∈ GG := gg_1 (List.mem_of_getElem? (i := 81) (by decide +kernel)) (by decide +kernel)
theorem nw_45 : (.fieldLink RX2 37 (TX2 7).1 (TX2 7).2.1 (TX2 7).2.2.1 : Cond) ∈ GG := gg_1 (List.mem_of_getElem? (i := 165) (by decide +kernel)) (by decide +kernel)
theorem nw_46 : (.fieldLink RX2 41 (TX2 8).1 (TX2 8).2.1 (TX2 8).2.2.1 : Cond) ∈ GG := gg_1 (List.mem_of_getElem? (i := 168) (by decide +kernel)) (by decide +kernel)
theorem nw_47 : (.fieldLink RX2 44 (TX2 9).1 (TX2 9).2.1 (TX2 9).2.2.1 : Cond) ∈ GG := gg_1 (List.mem_of_getElem? (i := 171) (by decide +kernel)) (by decide +kernel)
theorem nw_48 : (.code yX2_init cX2_init 1 none : Cond) ∈ GG := gg_1 (List.mem_of_getElem? (i := 133) (by decide +kernel)) (by decide +kernel)
theorem nw_49 : (.initialized RX2 : Cond) ∈ GG := gg_1 (List.mem_of_getElem? (i := 6) (by decide +kernel)) (by decide +kernel)
theorem nw_50 : (.instanceMethod yX2_init : Cond) ∈ GG := gg_1 (List.mem_of_getElem? (i := 132) (by decide +kernel)) (by decide +kernel)
theorem nw_51 : (.methodLink RX9 3 Lib.objectInit : Cond) ∈ GG := gg_1 (List.mem_of_getElem? (i := 50) (by decide +kernel)) (by decide +kernel)
theorem nw_52 : (.arrayClass .byte : Cond) ∈ GG := gg_1 (List.mem_of_getElem? (i := 79) (by decide +kernel)) (by decide +kernel)
theorem nw_53 : (.fieldLink RX9 9 (TX9 0).1 (TX9 0).2.1 (TX9 0).2.2.1 : Cond) ∈ GG := gg_1 (List.mem_of_getElem? (i := 51) (by decide +kernel)) (by decide +kernel)
theorem nw_54 : (.fieldLink RX9 15 (TX9 1).1 (TX9 1).2.1 (TX9 1).2.2.1 : Cond) ∈ GG := gg_1 (List.mem_of_getElem? (i := 52) (by decide +kernel)) (by decide +kernel)
theorem nw_55 : (.fieldLink RX9 19 (TX9 2).1 (TX9 2).2.1 (TX9 2).2.2.1 : Cond) ∈ GG := gg_1 (List.mem_of_getElem? (i := 54) (by decide +kernel)) (by decide +kernel)
theorem nw_56 : (.fieldLink RX9 22 (TX9 3).1 (TX9 3).2.1 (TX9 3).2.2.1 : Cond) ∈ GG := gg_1 (List.mem_of_getElem? (i := 55) (by decide +kernel)) (by decide +kernel)
theorem nw_57 : (.fieldLink RX9 25 (TX9 4).1 (TX9 4).2.1 (TX9 4).2.2.1 : Cond) ∈ GG := gg_1 (List.mem_of_getElem? (i := 57) (by decide +kernel)) (by decide +kernel)
theorem nw_58 : (.fieldLink RX9 28 (TX9 5).1 (TX9 5).2.1 (TX9 5).2.2.1 : Cond) ∈ GG := gg_1 (List.mem_of_getElem? (i := 58) (by decide +kernel)) (by decide +kernel)
theorem nw_59 : (.fieldLink RX9 31 (TX9 6).1 (TX9 6).2.1 (TX9 6).2.2.1 : Cond) ∈ GG := gg_1 (List.mem_of_getElem? (i := 61) (by decide +kernel)) (by decide +kernel)
theorem nw_60 : (.code yX9_init cX9_init 1 none : Cond) ∈ GG := gg_1 (List.mem_of_getElem? (i := 49) (by decide +kernel)) (by decide +kernel)
theorem nw_61 : (.initialized RX9 : Cond) ∈ GG := gg_1 (List.mem_of_getElem? (i := 4) (by decide +kernel)) (by decide +kernel)
theorem nw_62 : (.instanceMethod yX9_init : Cond) ∈ GG := gg_1 (List.mem_of_getElem? (i := 48) (by decide +kernel)) (by decide +kernel)
theorem nw_63 : (.methodLink RX5 3 Lib.objectInit : Cond) ∈ GG := gg_1 (List.mem_of_getElem? (i := 44) (by decide +kernel)) (by decide +kernel)
theorem nw_64 : (.classLink RX5 9 RX9 : Cond) ∈ GG := gg_1 (List.mem_of_getElem? (i := 45) (by decide +kernel)) (by decide +kernel)
theorem nw_65 : (.instantiable RX9 7 : Cond) ∈ GG := gg_1 (List.mem_of_getElem? (i := 46) (by decide +kernel)) (by decide +kernel)
theorem nw_66 : (.fieldLink RX5 12 (TX5 0).1 (TX5 0).2.1 (TX5 0).2.2.1 : Cond) ∈ GG := gg_1 (List.mem_of_getElem? (i := 97) (by decide +kernel)) (by decide +kernel)
theorem nw_67 : (.classLink RX5 18 RX4 : Cond) ∈ GG := gg_1 (List.mem_of_getElem? (i := 80) (by decide +kernel)) (by decide +kernel)
theorem nw_68 : (.fieldLink RX5 21 (TX5 1).1 (TX5 1).2.1 (TX5 1).2.2.1 : Cond) ∈ GG := gg_1 (List.mem_of_getElem? (i := 99) (by decide +kernel)) (by decide +kernel)
theorem nw_69 : (.fieldLink RX5 25 (TX5 2).1 (TX5 2).2.1 (TX5 2).2.2.1 : Cond) ∈ GG := gg_1 (List.mem_of_getElem? (i := 100) (by decide +kernel)) (by decide +kernel)
theorem nw_70 : (.fieldLink RX5 29 (TX5 3).1 (TX5 3).2.1 (TX5 3).2.2.1 : Cond) ∈ GG := gg_1 (List.mem_of_getElem? (i := 101) (by decide +kernel)) (by decide +kernel)
theorem nw_71 : (.fieldLink RX5 33 (TX5 4).1 (TX5 4).2.1 (TX5 4).2.2.1 : Cond) ∈ GG := gg_1 (List.mem_of_getElem? (i := 102) (by decide +kernel)) (by decide +kernel)
theorem nw_72 : (.fieldLink RX5 37 (TX5 5).1 (TX5 5).2.1 (TX5 5).2.2.1 : Cond) ∈ GG := gg_1 (List.mem_of_getElem? (i := 103) (by decide +kernel)) (by decide +kernel)
theorem nw_73 : (.fieldLink RX5 40 (TX5 6).1 (TX5 6).2.1 (TX5 6).2.2.1 : Cond) ∈ GG := gg_1 (List.mem_of_getElem? (i := 104) (by decide +kernel)) (by decide +kernel)
theorem nw_74 : (.fieldLink RX5 43 (TX5 7).1 (TX5 7).2.1 (TX5 7).2.2.1 : Cond) ∈ GG := gg_1 (List.mem_of_getElem? (i := 105) (by decide +kernel)) (by decide +kernel)
theorem nw_75 : (.fieldLink RX5 46 (TX5 8).1 (TX5 8).2.1 (TX5 8).2.2.1 : Cond) ∈ GG := gg_1 (List.mem_of_getElem? (i := 106) (by decide +kernel)) (by decide +kernel)
theorem nw_76 : (.fieldLink RX5 49 (TX5 9).1 (TX5 9).2.1 (TX5 9).2.2.1 : Cond) ∈ GG := gg_1 (List.mem_of_getElem? (i := 107) (by decide +kernel)) (by decide +kernel)
theorem nw_77 : (.code yX5_init cX5_init 1 none : Cond) ∈ GG := gg_1 (List.mem_of_getElem? (i := 43) (by decide +kernel)) (by decide +kernel)
theorem nw_78 : (.initialized RX5 : Cond) ∈ GG := gg_1 (List.mem_of_getElem? (i := 3) (by decide +kernel)) (by decide +kernel)
theorem nw_79 : (.instanceMethod yX5_init : Cond) ∈ GG := gg_1 (List.mem_of_getElem? (i := 42) (by decide +kernel)) (by decide +kernel)
theorem nw_80 : (.methodLink RX3 3 Lib.objectInit : Cond) ∈ GG := gg_1 (List.mem_of_getElem? (i := 38) (by decide +kernel)) (by decide +kernel)
theorem nw_81 : (.classLink RX3 9 RX5 : Cond) ∈ GG := gg_1 (List.mem_of_getElem? (i := 39) (by decide +kernel)) (by decide +kernel)
theorem nw_82 : (.instantiable RX5 10 : Cond) ∈ GG := gg_1 (List.mem_of_getElem? (i := 40) (by decide +kernel)) (by decide +kernel)
theorem nw_83 : (.fieldLink RX3 12 (TX3 0).1 (TX3 0).2.1 (TX3 0).2.2.1 : Cond) ∈ GG := gg_1 (List.mem_of_getElem? (i := 195) (by decide +kernel)) (by decide +kernel)
theorem nw_84 : (.fieldLink RX3 18 (TX5 0).1 (TX5 0).2.1 (TX5 0).2.2.1 : Cond) ∈ GG := gg_1 (List.mem_of_getElem? (i := 98) (by decide +kernel)) (by decide +kernel)
theorem nw_85 : (.fieldLink RX3 22 (TX3 1).1 (TX3 1).2.1 (TX3 1).2.2.1 : Cond) ∈ GG := gg_1 (List.mem_of_getElem? (i := 197) (by decide +kernel)) (by decide +kernel)
theorem nw_86 : (.classLink RX3 23 RX2 : Cond) ∈ GG := gg_1 (List.mem_of_getElem? (i := 129) (by decide +kernel)) (by decide +kernel)
theorem nw_87 : (.instantiable RX2 10 : Cond) ∈ GG := gg_1 (List.mem_of_getElem? (i := 130) (by decide +kernel)) (by decide +kernel)
theorem nw_88 : (.fieldLink RX3 26 (TX3 2).1 (TX3 2).2.1 (TX3 2).2.2.1 : Cond) ∈ GG := gg_1 (List.mem_of_getElem? (i := 198) (by decide +kernel)) (by decide +kernel)
theorem nw_89 : (.fieldLink RX3 30 (TX3 3).1 (TX3 3).2.1 (TX3 3).2.2.1 : Cond) ∈ GG := gg_1 (List.mem_of_getElem? (i := 200) (by decide +kernel)) (by decide +kernel)
theorem nw_90 : (.fieldLink RX3 34 (TX3 4).1 (TX3 4).2.1 (TX3 4).2.2.1 : Cond) ∈ GG := gg_1 (List.mem_of_getElem? (i := 201) (by decide +kernel)) (by decide +kernel)
theorem nw_91 : (.code yX3_init cX3_init 1 none : Cond) ∈ GG := gg_1 (List.mem_of_getElem? (i := 37) (by decide +kernel)) (by decide +kernel)
theorem nw_92 : (.initialized RX3 : Cond) ∈ GG := gg_1 (List.mem_of_getElem? (i := 2) (by decide +kernel)) (by decide +kernel)
theorem nw_93 : (.instanceMethod yX3_init : Cond) ∈ GG := gg_1 (List.mem_of_getElem? (i := 36) (by decide +kernel)) (by decide +kernel)
theorem nw_94 : (.methodLink RX7 3 Lib.objectInit : Cond) ∈ GG := gg_2 (List.mem_of_getElem? (i := 3) (by decide +kernel)) (by decide +kernel)
theorem nw_95 : (.fieldLink RX7 9 (TX7 0).1 (TX7 0).2.1 (TX7 0).2.2.1 : Cond) ∈ GG := gg_2 (List.mem_of_getElem? (i := 4) (by decide +kernel)) (by decide +kernel)
theorem nw_96 : (.fieldLink RX7 15 (TX7 1).1 (TX7 1).2.1 (TX7 1).2.2.1 : Cond) ∈ GG := gg_2 (List.mem_of_getElem? (i := 5) (by decide +kernel)) (by decide +kernel)
theorem nw_97 : (.fieldLink RX7 18 (TX7 2).1 (TX7 2).2.1 (TX7 2).2.2.1 : Cond) ∈ GG := gg_2 (List.mem_of_getElem? (i := 6) (by decide +kernel)) (by decide +kernel)
theorem nw_98 : (.fieldLink RX7 21 (TX7 3).1 (TX7 3).2.1 (TX7 3).2.2.1 : Cond) ∈ GG := gg_2 (List.mem_of_getElem? (i := 7) (by decide +kernel)) (by decide +kernel)
theorem nw_99 : (.fieldLink RX7 25 (TX7 4).1 (TX7 4).2.1 (TX7 4).2.2.1 : Cond) ∈ GG := gg_2 (List.mem_of_getElem? (i := 8) (by decide +kernel)) (by decide +kernel)
theorem nw_100 : (.fieldLink RX7 28 (TX7 5).1 (TX7 5).2.1 (TX7 5).2.2.1 : Cond) ∈ GG := gg_2 (List.mem_of_getElem? (i := 9) (by decide +kernel)) (by decide +kernel)
theorem nw_101 : (.code yX7_init cX7_init 1 none : Cond) ∈ GG := gg_2 (List.mem_of_getElem? (i := 2) (by decide +kernel)) (by decide +kernel)
theorem nw_102 : (.initialized RX7 : Cond) ∈ GG := gg_1 (List.mem_of_getElem? (i := 8) (by decide +kernel)) (by decide +kernel)
theorem nw_103 : (.instanceMethod yX7_init : Cond) ∈ GG := gg_2 (List.mem_of_getElem? (i := 1) (by decide +kernel)) (by decide +kernel)
theorem nw_104 : (.methodLink RX8 3 Lib.objectInit : Cond) ∈ GG := gg_1 (List.mem_of_getElem? (i := 218) (by decide +kernel)) (by decide +kernel)
theorem nw_105 : (.classLink RX8 9 RX2 : Cond) ∈ GG := gg_1 (List.mem_of_getElem? (i := 219) (by decide +kernel)) (by decide +kernel)
theorem nw_106 : (.fieldLink RX8 12 (TX8 0).1 (TX8 0).2.1 (TX8 0).2.2.1 : Cond) ∈ GG := gg_1 (List.mem_of_getElem? (i := 221) (by decide +kernel)) (by decide +kernel)
theorem nw_107 : (.fieldLink RX8 18 (TX8 1).1 (TX8 1).2.1 (TX8 1).2.2.1 : Cond) ∈ GG := gg_1 (List.mem_of_getElem? (i := 223) (by decide +kernel)) (by decide +kernel)
theorem nw_108 : (.fieldLink RX8 22 (TX8 2).1 (TX8 2).2.1 (TX8 2).2.2.1 : Cond) ∈ GG := gg_1 (List.mem_of_getElem? (i := 224) (by decide +kernel)) (by decide +kernel)
theorem nw_109 : (.fieldLink RX8 25 (TX8 3).1 (TX8 3).2.1 (TX8 3).2.2.1 : Cond) ∈ GG := gg_1 (List.mem_of_getElem? (i := 225) (by decide +kernel)) (by decide +kernel)
theorem nw_110 : (.fieldLink RX8 28 (TX8 4).1 (TX8 4).2.1 (TX8 4).2.2.1 : Cond) ∈ GG := gg_1 (List.mem_of_getElem? (i := 226) (by decide +kernel)) (by decide +kernel)
theorem nw_111 : (.code yX8_init cX8_init 1 none : Cond) ∈ GG := gg_1 (List.mem_of_getElem? (i := 217) (by decide +kernel)) (by decide +kernel)
theorem nw_112 : (.initialized RX8 : Cond) ∈ GG := gg_1 (List.mem_of_getElem? (i := 7) (by decide +kernel)) (by decide +kernel)
theorem nw_113 : (.instanceMethod yX8_init : Cond) ∈ GG := gg_1 (List.mem_of_getElem? (i := 216) (by decide +kernel)) (by decide +kernel)
def w_X0 (g : ClassId × ClassId × ClassId) (f : Nat → Nat) : va_W := [(f 0, .inr (0, [.ref (f 1), .int 0, .int 0])), (f 1, .inl (g.1, 2560, .inl (fun _ => 0)))]
theorem df_X0 : ∀ j, j < 3 → defaultValue (tyX0 j) = vp_V [.null, .int 0, .int 0] j := by decide +kernel
theorem yn_X0 : YN yX0_init cX0_init := ⟨nw_7, nw_8, nw_9, rfl, by decide, by decide, by decide +kernel⟩
def rm_X0_init : Room := { frames := 1, cells := 1, slots := 2560, locals := 12 }
set_option maxHeartbeats 4000000 in
set_option maxRecDepth 100000 in
theorem c_X0_init {l : Launch} {D : va_G} {g : ClassId × ClassId × ClassId} : CN l D (TYg g) yX0_init cX0_init rm_X0_init (.inr (0, [.null, .int 0, .int 0])) (w_X0 g) 1 2560 := by
  refine mk_CN (by decide +kernel) rfl (fun p e s m args below meth c A ls q X hmn I hl => ?_)
  refine lv_aload_n X.1 X.2.1 dX0_init_0 rfl (lv_at hl 0 rfl) ?_
  refine n_obj X hl nw_0 nw_1 nw_2 (Nat.le_of_ble_eq_true rfl) (Nat.le_of_ble_eq_true rfl) dX0_init_1 ?_
  refine lv_aload_n X.1 X.2.1 dX0_init_4 rfl (lv_at hl 0 rfl) ?_
  refine lv_sipush (v := 2560) X.1 X.2.1 dX0_init_5 (by decide) ?_
  refine n_arr (at0 := .int) (ty := .int) (N := 2560) (a0 := (2560, .inl (fun _ => 0))) X I (t0 := 0) rfl rfl (fun _ h => h) nw_3 (fun _ => rfl) (by decide) (by decide) (Nat.le_of_ble_eq_true rfl) (Nat.le_of_ble_eq_true rfl) (Nat.le_of_ble_eq_true rfl) dX0_init_8 (fun a0 H I => ?_)
  have I : LI D (TYg g) A s _ _ [(q, .inr (0, [.null, .int 0, .int 0])), (a0, .inl (g.1, 2560, .inl (fun _ => 0)))] := I
  refine n_putF X hmn I (q0 := 0) (ci := 0) rfl rfl inGX0 tyX0 tyX0_ok nmX0 0 (by decide) nw_4 rfl rfl rfl rfl (Nat.le_of_ble_eq_true rfl) dX0_init_10 (fun H _ I => ?_)
  have I : LI D (TYg g) A s _ _ [(q, .inr (0, [.ref a0, .int 0, .int 0])), (a0, .inl (g.1, 2560, .inl (fun _ => 0)))] := I
  refine lv_aload_n X.1 X.2.1 dX0_init_13 rfl (lv_at hl 0 rfl) ?_
  refine lv_iconst (v := 0) X.1 X.2.1 dX0_init_14 (by decide) ?_
  refine n_put X I (q0 := 0) (ci := 0) rfl rfl inGX0 tyX0 tyX0_ok nmX0 1 (by decide) nw_5 rfl rfl rfl (Nat.le_of_ble_eq_true rfl) dX0_init_15 (fun H _ I => ?_)
  have I : LI D (TYg g) A s _ _ [(q, .inr (0, [.ref a0, .int 0, .int 0])), (a0, .inl (g.1, 2560, .inl (fun _ => 0)))] := I
  refine lv_aload_n X.1 X.2.1 dX0_init_18 rfl (lv_at hl 0 rfl) ?_
  refine lv_iconst (v := 0) X.1 X.2.1 dX0_init_19 (by decide) ?_
  refine n_put X I (q0 := 0) (ci := 0) rfl rfl inGX0 tyX0 tyX0_ok nmX0 2 (by decide) nw_6 rfl rfl rfl (Nat.le_of_ble_eq_true rfl) dX0_init_20 (fun H _ I => ?_)
  have I : LI D (TYg g) A s _ _ [(q, .inr (0, [.ref a0, .int 0, .int 0])), (a0, .inl (g.1, 2560, .inl (fun _ => 0)))] := I
  exact n_ret X I (w1 := w_X0 g) (fun k => ([q, a0] : List Nat).getD k 0) rfl [0, 1] rfl rfl (by decide) dX0_init_23
def w_X6 (g : ClassId × ClassId × ClassId) (f : Nat → Nat) : va_W := [(f 0, .inr (6, [.ref (f 1), .int 0])), (f 1, .inl (g.1, 32, .inl (fun _ => 0)))]
theorem df_X6 : ∀ j, j < 2 → defaultValue (tyX6 j) = vp_V [.null, .int 0] j := by decide +kernel
theorem yn_X6 : YN yX6_init cX6_init := ⟨nw_13, nw_14, nw_15, rfl, by decide, by decide, by decide +kernel⟩
def rm_X6_init : Room := { frames := 1, cells := 1, slots := 32, locals := 12 }
set_option maxHeartbeats 4000000 in
set_option maxRecDepth 100000 in
theorem c_X6_init {l : Launch} {D : va_G} {g : ClassId × ClassId × ClassId} : CN l D (TYg g) yX6_init cX6_init rm_X6_init (.inr (6, [.null, .int 0])) (w_X6 g) 1 32 := by
  refine mk_CN (by decide +kernel) rfl (fun p e s m args below meth c A ls q X hmn I hl => ?_)
  refine lv_aload_n X.1 X.2.1 dX6_init_0 rfl (lv_at hl 0 rfl) ?_
  refine n_obj X hl nw_10 nw_1 nw_2 (Nat.le_of_ble_eq_true rfl) (Nat.le_of_ble_eq_true rfl) dX6_init_1 ?_
  refine lv_aload_n X.1 X.2.1 dX6_init_4 rfl (lv_at hl 0 rfl) ?_
  refine lv_bipush (v := 32) X.1 X.2.1 dX6_init_5 (by decide) ?_
  refine n_arr (at0 := .int) (ty := .int) (N := 32) (a0 := (32, .inl (fun _ => 0))) X I (t0 := 0) rfl rfl (fun _ h => h) nw_3 (fun _ => rfl) (by decide) (by decide) (Nat.le_of_ble_eq_true rfl) (Nat.le_of_ble_eq_true rfl) (Nat.le_of_ble_eq_true rfl) dX6_init_7 (fun a0 H I => ?_)
  have I : LI D (TYg g) A s _ _ [(q, .inr (6, [.null, .int 0])), (a0, .inl (g.1, 32, .inl (fun _ => 0)))] := I
  refine n_putF X hmn I (q0 := 0) (ci := 6) rfl rfl inGX6 tyX6 tyX6_ok nmX6 0 (by decide) nw_11 rfl rfl rfl rfl (Nat.le_of_ble_eq_true rfl) dX6_init_9 (fun H _ I => ?_)
  have I : LI D (TYg g) A s _ _ [(q, .inr (6, [.ref a0, .int 0])), (a0, .inl (g.1, 32, .inl (fun _ => 0)))] := I
  refine lv_aload_n X.1 X.2.1 dX6_init_12 rfl (lv_at hl 0 rfl) ?_
  refine lv_iconst (v := 0) X.1 X.2.1 dX6_init_13 (by decide) ?_
  refine n_put X I (q0 := 0) (ci := 6) rfl rfl inGX6 tyX6 tyX6_ok nmX6 1 (by decide) nw_12 rfl rfl rfl (Nat.le_of_ble_eq_true rfl) dX6_init_14 (fun H _ I => ?_)
  have I : LI D (TYg g) A s _ _ [(q, .inr (6, [.ref a0, .int 0])), (a0, .inl (g.1, 32, .inl (fun _ => 0)))] := I
  exact n_ret X I (w1 := w_X6 g) (fun k => ([q, a0] : List Nat).getD k 0) rfl [0, 1] rfl rfl (by decide) dX6_init_17
def w_X4 (g : ClassId × ClassId × ClassId) (f : Nat → Nat) : va_W := [(f 0, .inr (4, [.ref (f 1), .ref (f 2), .int 0])), (f 1, .inl (g.1, 700, .inl (fun _ => 0))), (f 2, .inl (g.1, 64, .inl (fun _ => 0)))]
theorem df_X4 : ∀ j, j < 3 → defaultValue (tyX4 j) = vp_V [.null, .null, .int 0] j := by decide +kernel
theorem yn_X4 : YN yX4_init cX4_init := ⟨nw_20, nw_21, nw_22, rfl, by decide, by decide, by decide +kernel⟩
def rm_X4_init : Room := { frames := 1, cells := 2, slots := 764, locals := 12 }
set_option maxHeartbeats 4000000 in
set_option maxRecDepth 100000 in
theorem c_X4_init {l : Launch} {D : va_G} {g : ClassId × ClassId × ClassId} : CN l D (TYg g) yX4_init cX4_init rm_X4_init (.inr (4, [.null, .null, .int 0])) (w_X4 g) 2 764 := by
  refine mk_CN (by decide +kernel) rfl (fun p e s m args below meth c A ls q X hmn I hl => ?_)
  refine lv_aload_n X.1 X.2.1 dX4_init_0 rfl (lv_at hl 0 rfl) ?_
  refine n_obj X hl nw_16 nw_1 nw_2 (Nat.le_of_ble_eq_true rfl) (Nat.le_of_ble_eq_true rfl) dX4_init_1 ?_
  refine lv_aload_n X.1 X.2.1 dX4_init_4 rfl (lv_at hl 0 rfl) ?_
  refine lv_sipush (v := 700) X.1 X.2.1 dX4_init_5 (by decide) ?_
  refine n_arr (at0 := .int) (ty := .int) (N := 700) (a0 := (700, .inl (fun _ => 0))) X I (t0 := 0) rfl rfl (fun _ h => h) nw_3 (fun _ => rfl) (by decide) (by decide) (Nat.le_of_ble_eq_true rfl) (Nat.le_of_ble_eq_true rfl) (Nat.le_of_ble_eq_true rfl) dX4_init_8 (fun a0 H I => ?_)
  have I : LI D (TYg g) A s _ _ [(q, .inr (4, [.null, .null, .int 0])), (a0, .inl (g.1, 700, .inl (fun _ => 0)))] := I
  refine n_putF X hmn I (q0 := 0) (ci := 4) rfl rfl inGX4 tyX4 tyX4_ok nmX4 0 (by decide) nw_17 rfl rfl rfl rfl (Nat.le_of_ble_eq_true rfl) dX4_init_10 (fun H _ I => ?_)
  have I : LI D (TYg g) A s _ _ [(q, .inr (4, [.ref a0, .null, .int 0])), (a0, .inl (g.1, 700, .inl (fun _ => 0)))] := I
  refine lv_aload_n X.1 X.2.1 dX4_init_13 rfl (lv_at hl 0 rfl) ?_
  refine lv_bipush (v := 64) X.1 X.2.1 dX4_init_14 (by decide) ?_
  refine n_arr (at0 := .int) (ty := .int) (N := 64) (a0 := (64, .inl (fun _ => 0))) X I (t0 := 0) rfl rfl (fun _ h => h) nw_3 (fun _ => rfl) (by decide) (by decide) (Nat.le_of_ble_eq_true rfl) (Nat.le_of_ble_eq_true rfl) (Nat.le_of_ble_eq_true rfl) dX4_init_16 (fun a1 H I => ?_)
  have I : LI D (TYg g) A s _ _ [(q, .inr (4, [.ref a0, .null, .int 0])), (a0, .inl (g.1, 700, .inl (fun _ => 0))), (a1, .inl (g.1, 64, .inl (fun _ => 0)))] := I
  refine n_putF X hmn I (q0 := 0) (ci := 4) rfl rfl inGX4 tyX4 tyX4_ok nmX4 1 (by decide) nw_18 rfl rfl rfl rfl (Nat.le_of_ble_eq_true rfl) dX4_init_18 (fun H _ I => ?_)
  have I : LI D (TYg g) A s _ _ [(q, .inr (4, [.ref a0, .ref a1, .int 0])), (a0, .inl (g.1, 700, .inl (fun _ => 0))), (a1, .inl (g.1, 64, .inl (fun _ => 0)))] := I
  refine lv_aload_n X.1 X.2.1 dX4_init_21 rfl (lv_at hl 0 rfl) ?_
  refine lv_iconst (v := 0) X.1 X.2.1 dX4_init_22 (by decide) ?_
  refine n_put X I (q0 := 0) (ci := 4) rfl rfl inGX4 tyX4 tyX4_ok nmX4 2 (by decide) nw_19 rfl rfl rfl (Nat.le_of_ble_eq_true rfl) dX4_init_23 (fun H _ I => ?_)
  have I : LI D (TYg g) A s _ _ [(q, .inr (4, [.ref a0, .ref a1, .int 0])), (a0, .inl (g.1, 700, .inl (fun _ => 0))), (a1, .inl (g.1, 64, .inl (fun _ => 0)))] := I
  exact n_ret X I (w1 := w_X4 g) (fun k => ([q, a0, a1] : List Nat).getD k 0) rfl [0, 1, 2] rfl rfl (by decide) dX4_init_26
def w_X1 (g : ClassId × ClassId × ClassId) (f : Nat → Nat) : va_W := [(f 0, .inr (1, [.ref (f 1), .ref (f 2), .ref (f 4), .ref (f 6)])), (f 1, .inl (g.1, 64, .inl (fun _ => 0))), (f 2, .inr (0, [.ref (f 3), .int 0, .int 0])), (f 3, .inl (g.1, 2560, .inl (fun _ => 0))), (f 4, .inr (6, [.ref (f 5), .int 0])), (f 5, .inl (g.1, 32, .inl (fun _ => 0))), (f 6, .inl (g.1, 3, .inl (fun _ => 0)))]
theorem df_X1 : ∀ j, j < 4 → defaultValue (tyX1 j) = vp_V [.null, .null, .null, .null] j := by decide +kernel
theorem yn_X1 : YN yX1_init cX1_init := ⟨nw_32, nw_33, nw_34, rfl, by decide, by decide, by decide +kernel⟩
def rm_X1_init : Room := { frames := 2, cells := 6, slots := 2664, locals := 32 }
set_option maxHeartbeats 4000000 in
set_option maxRecDepth 100000 in
theorem c_X1_init {l : Launch} {D : va_G} {g : ClassId × ClassId × ClassId} : CN l D (TYg g) yX1_init cX1_init rm_X1_init (.inr (1, [.null, .null, .null, .null])) (w_X1 g) 6 2664 := by
  refine mk_CN (by decide +kernel) rfl (fun p e s m args below meth c A ls q X hmn I hl => ?_)
  refine lv_aload_n X.1 X.2.1 dX1_init_0 rfl (lv_at hl 0 rfl) ?_
  refine n_obj X hl nw_23 nw_1 nw_2 (Nat.le_of_ble_eq_true rfl) (Nat.le_of_ble_eq_true rfl) dX1_init_1 ?_
  refine lv_aload_n X.1 X.2.1 dX1_init_4 rfl (lv_at hl 0 rfl) ?_
  refine lv_bipush (v := 64) X.1 X.2.1 dX1_init_5 (by decide) ?_
  refine n_arr (at0 := .int) (ty := .int) (N := 64) (a0 := (64, .inl (fun _ => 0))) X I (t0 := 0) rfl rfl (fun _ h => h) nw_3 (fun _ => rfl) (by decide) (by decide) (Nat.le_of_ble_eq_true rfl) (Nat.le_of_ble_eq_true rfl) (Nat.le_of_ble_eq_true rfl) dX1_init_7 (fun a0 H I => ?_)
  have I : LI D (TYg g) A s _ _ [(q, .inr (1, [.null, .null, .null, .null])), (a0, .inl (g.1, 64, .inl (fun _ => 0)))] := I
  refine n_putF X hmn I (q0 := 0) (ci := 1) rfl rfl inGX1 tyX1 tyX1_ok nmX1 0 (by decide) nw_24 rfl rfl rfl rfl (Nat.le_of_ble_eq_true rfl) dX1_init_9 (fun H _ I => ?_)
  have I : LI D (TYg g) A s _ _ [(q, .inr (1, [.ref a0, .null, .null, .null])), (a0, .inl (g.1, 64, .inl (fun _ => 0)))] := I
  refine lv_aload_n X.1 X.2.1 dX1_init_12 rfl (lv_at hl 0 rfl) ?_
  refine n_new X I inGX0 tyX0 tyX0_ok nw_25 nw_26 nw_8 (ci := 0) rfl (fs := [.null, .int 0, .int 0]) df_X0 (Nat.le_of_ble_eq_true rfl) (Nat.le_of_ble_eq_true rfl) dX1_init_13 (fun b1 H I => ?_)
  have I : LI D (TYg g) A s _ _ [(q, .inr (1, [.ref a0, .null, .null, .null])), (a0, .inl (g.1, 64, .inl (fun _ => 0))), (b1, .inr (0, [.null, .int 0, .int 0]))] := I
  refine lv_dup X.1 X.2.1 dX1_init_16 rfl ?_
  refine n_call X (wr := [(q, .inr (1, [.ref a0, .null, .null, .null])), (a0, .inl (g.1, 64, .inl (fun _ => 0)))]) I hl c_X0_init yn_X0 (by decide +kernel) ⟨rfl, rfl, (Nat.le_of_ble_eq_true rfl), (Nat.le_of_ble_eq_true rfl)⟩ ⟨(Nat.le_of_ble_eq_true rfl), (Nat.le_of_ble_eq_true rfl)⟩ [0, 1] rfl (by decide) 2 rfl (by decide) (Nat.le_of_ble_eq_true rfl) dX1_init_17 (fun f2 _ _ hf I2 => ?_)
  clear I
  subst hf
  have I : LI D (TYg g) A s _ _ [(q, .inr (1, [.ref a0, .null, .null, .null])), (a0, .inl (g.1, 64, .inl (fun _ => 0))), (f2 0, .inr (0, [.ref (f2 1), .int 0, .int 0])), (f2 1, .inl (g.1, 2560, .inl (fun _ => 0)))] := I2
  clear I2
  refine n_putF X hmn I (q0 := 0) (ci := 1) rfl rfl inGX1 tyX1 tyX1_ok nmX1 1 (by decide) nw_27 rfl rfl rfl rfl (Nat.le_of_ble_eq_true rfl) dX1_init_20 (fun H _ I => ?_)
  have I : LI D (TYg g) A s _ _ [(q, .inr (1, [.ref a0, .ref (f2 0), .null, .null])), (a0, .inl (g.1, 64, .inl (fun _ => 0))), (f2 0, .inr (0, [.ref (f2 1), .int 0, .int 0])), (f2 1, .inl (g.1, 2560, .inl (fun _ => 0)))] := I
  refine lv_aload_n X.1 X.2.1 dX1_init_23 rfl (lv_at hl 0 rfl) ?_
  refine n_new X I inGX6 tyX6 tyX6_ok nw_28 nw_29 nw_14 (ci := 6) rfl (fs := [.null, .int 0]) df_X6 (Nat.le_of_ble_eq_true rfl) (Nat.le_of_ble_eq_true rfl) dX1_init_24 (fun b3 H I => ?_)
  have I : LI D (TYg g) A s _ _ [(q, .inr (1, [.ref a0, .ref (f2 0), .null, .null])), (a0, .inl (g.1, 64, .inl (fun _ => 0))), (f2 0, .inr (0, [.ref (f2 1), .int 0, .int 0])), (f2 1, .inl (g.1, 2560, .inl (fun _ => 0))), (b3, .inr (6, [.null, .int 0]))] := I
  refine lv_dup X.1 X.2.1 dX1_init_27 rfl ?_
  refine n_call X (wr := [(q, .inr (1, [.ref a0, .ref (f2 0), .null, .null])), (a0, .inl (g.1, 64, .inl (fun _ => 0))), (f2 0, .inr (0, [.ref (f2 1), .int 0, .int 0])), (f2 1, .inl (g.1, 2560, .inl (fun _ => 0)))]) I hl c_X6_init yn_X6 (by decide +kernel) ⟨rfl, rfl, (Nat.le_of_ble_eq_true rfl), (Nat.le_of_ble_eq_true rfl)⟩ ⟨(Nat.le_of_ble_eq_true rfl), (Nat.le_of_ble_eq_true rfl)⟩ [0, 1, 2, 3] rfl (by decide) 4 rfl (by decide) (Nat.le_of_ble_eq_true rfl) dX1_init_28 (fun f4 _ _ hf I2 => ?_)
  clear I
  subst hf
  have I : LI D (TYg g) A s _ _ [(q, .inr (1, [.ref a0, .ref (f2 0), .null, .null])), (a0, .inl (g.1, 64, .inl (fun _ => 0))), (f2 0, .inr (0, [.ref (f2 1), .int 0, .int 0])), (f2 1, .inl (g.1, 2560, .inl (fun _ => 0))), (f4 0, .inr (6, [.ref (f4 1), .int 0])), (f4 1, .inl (g.1, 32, .inl (fun _ => 0)))] := I2
  clear I2
  refine n_putF X hmn I (q0 := 0) (ci := 1) rfl rfl inGX1 tyX1 tyX1_ok nmX1 2 (by decide) nw_30 rfl rfl rfl rfl (Nat.le_of_ble_eq_true rfl) dX1_init_31 (fun H _ I => ?_)
  have I : LI D (TYg g) A s _ _ [(q, .inr (1, [.ref a0, .ref (f2 0), .ref (f4 0), .null])), (a0, .inl (g.1, 64, .inl (fun _ => 0))), (f2 0, .inr (0, [.ref (f2 1), .int 0, .int 0])), (f2 1, .inl (g.1, 2560, .inl (fun _ => 0))), (f4 0, .inr (6, [.ref (f4 1), .int 0])), (f4 1, .inl (g.1, 32, .inl (fun _ => 0)))] := I
  refine lv_aload_n X.1 X.2.1 dX1_init_34 rfl (lv_at hl 0 rfl) ?_
  refine lv_iconst (v := 3) X.1 X.2.1 dX1_init_35 (by decide) ?_
  refine n_arr (at0 := .int) (ty := .int) (N := 3) (a0 := (3, .inl (fun _ => 0))) X I (t0 := 0) rfl rfl (fun _ h => h) nw_3 (fun _ => rfl) (by decide) (by decide) (Nat.le_of_ble_eq_true rfl) (Nat.le_of_ble_eq_true rfl) (Nat.le_of_ble_eq_true rfl) dX1_init_36 (fun a5 H I => ?_)
  have I : LI D (TYg g) A s _ _ [(q, .inr (1, [.ref a0, .ref (f2 0), .ref (f4 0), .null])), (a0, .inl (g.1, 64, .inl (fun _ => 0))), (f2 0, .inr (0, [.ref (f2 1), .int 0, .int 0])), (f2 1, .inl (g.1, 2560, .inl (fun _ => 0))), (f4 0, .inr (6, [.ref (f4 1), .int 0])), (f4 1, .inl (g.1, 32, .inl (fun _ => 0))), (a5, .inl (g.1, 3, .inl (fun _ => 0)))] := I
  refine n_putF X hmn I (q0 := 0) (ci := 1) rfl rfl inGX1 tyX1 tyX1_ok nmX1 3 (by decide) nw_31 rfl rfl rfl rfl (Nat.le_of_ble_eq_true rfl) dX1_init_38 (fun H _ I => ?_)
  have I : LI D (TYg g) A s _ _ [(q, .inr (1, [.ref a0, .ref (f2 0), .ref (f4 0), .ref a5])), (a0, .inl (g.1, 64, .inl (fun _ => 0))), (f2 0, .inr (0, [.ref (f2 1), .int 0, .int 0])), (f2 1, .inl (g.1, 2560, .inl (fun _ => 0))), (f4 0, .inr (6, [.ref (f4 1), .int 0])), (f4 1, .inl (g.1, 32, .inl (fun _ => 0))), (a5, .inl (g.1, 3, .inl (fun _ => 0)))] := I
  exact n_ret X I (w1 := w_X1 g) (fun k => ([q, a0, f2 0, f2 1, f4 0, f4 1, a5] : List Nat).getD k 0) rfl [0, 1, 2, 3, 4, 5, 6] rfl rfl (by decide) dX1_init_41
def w_X2 (g : ClassId × ClassId × ClassId) (f : Nat → Nat) : va_W := [(f 0, .inr (2, [.int 0, .int 0, .int 40, .ref (f 1), .ref (f 2), .ref (f 3), .ref (f 4), .ref (f 5), .ref (f 8), .ref (f 11)])), (f 1, .inl (g.1, 8, .inl (fun _ => 0))), (f 2, .inl (g.1, 8, .inl (fun _ => 0))), (f 3, .inl (g.1, 7, .inl (fun _ => 0))), (f 4, .inl (g.1, 7, .inl (fun _ => 0))), (f 5, .inr (4, [.ref (f 6), .ref (f 7), .int 0])), (f 6, .inl (g.1, 700, .inl (fun _ => 0))), (f 7, .inl (g.1, 64, .inl (fun _ => 0))), (f 8, .inr (4, [.ref (f 9), .ref (f 10), .int 0])), (f 9, .inl (g.1, 700, .inl (fun _ => 0))), (f 10, .inl (g.1, 64, .inl (fun _ => 0))), (f 11, .inl (g.1, 64, .inl (fun _ => 0)))]
theorem df_X2 : ∀ j, j < 10 → defaultValue (tyX2 j) = vp_V [.int 0, .int 0, .int 0, .null, .null, .null, .null, .null, .null, .null] j := by decide +kernel
theorem yn_X2 : YN yX2_init cX2_init := ⟨nw_48, nw_49, nw_50, rfl, by decide, by decide, by decide +kernel⟩
def rm_X2_init : Room := { frames := 2, cells := 11, slots := 1628, locals := 32 }
set_option maxHeartbeats 4000000 in
set_option maxRecDepth 100000 in
theorem c_X2_init {l : Launch} {D : va_G} {g : ClassId × ClassId × ClassId} : CN l D (TYg g) yX2_init cX2_init rm_X2_init (.inr (2, [.int 0, .int 0, .int 0, .null, .null, .null, .null, .null, .null, .null])) (w_X2 g) 11 1628 := by
  refine mk_CN (by decide +kernel) rfl (fun p e s m args below meth c A ls q X hmn I hl => ?_)
  refine lv_aload_n X.1 X.2.1 dX2_init_0 rfl (lv_at hl 0 rfl) ?_
  refine n_obj X hl nw_35 nw_1 nw_2 (Nat.le_of_ble_eq_true rfl) (Nat.le_of_ble_eq_true rfl) dX2_init_1 ?_
  refine lv_aload_n X.1 X.2.1 dX2_init_4 rfl (lv_at hl 0 rfl) ?_
  refine lv_iconst (v := 0) X.1 X.2.1 dX2_init_5 (by decide) ?_
  refine n_put X I (q0 := 0) (ci := 2) rfl rfl inGX2 tyX2 tyX2_ok nmX2 0 (by decide) nw_36 rfl rfl rfl (Nat.le_of_ble_eq_true rfl) dX2_init_6 (fun H _ I => ?_)
  have I : LI D (TYg g) A s _ _ [(q, .inr (2, [.int 0, .int 0, .int 0, .null, .null, .null, .null, .null, .null, .null]))] := I
  refine lv_aload_n X.1 X.2.1 dX2_init_9 rfl (lv_at hl 0 rfl) ?_
  refine lv_iconst (v := 0) X.1 X.2.1 dX2_init_10 (by decide) ?_
  refine n_put X I (q0 := 0) (ci := 2) rfl rfl inGX2 tyX2 tyX2_ok nmX2 1 (by decide) nw_37 rfl rfl rfl (Nat.le_of_ble_eq_true rfl) dX2_init_11 (fun H _ I => ?_)
  have I : LI D (TYg g) A s _ _ [(q, .inr (2, [.int 0, .int 0, .int 0, .null, .null, .null, .null, .null, .null, .null]))] := I
  refine lv_aload_n X.1 X.2.1 dX2_init_14 rfl (lv_at hl 0 rfl) ?_
  refine lv_bipush (v := 40) X.1 X.2.1 dX2_init_15 (by decide) ?_
  refine n_put X I (q0 := 0) (ci := 2) rfl rfl inGX2 tyX2 tyX2_ok nmX2 2 (by decide) nw_38 rfl rfl rfl (Nat.le_of_ble_eq_true rfl) dX2_init_17 (fun H _ I => ?_)
  have I : LI D (TYg g) A s _ _ [(q, .inr (2, [.int 0, .int 0, .int 40, .null, .null, .null, .null, .null, .null, .null]))] := I
  refine lv_aload_n X.1 X.2.1 dX2_init_20 rfl (lv_at hl 0 rfl) ?_
  refine lv_bipush (v := 8) X.1 X.2.1 dX2_init_21 (by decide) ?_
  refine n_arr (at0 := .int) (ty := .int) (N := 8) (a0 := (8, .inl (fun _ => 0))) X I (t0 := 0) rfl rfl (fun _ h => h) nw_3 (fun _ => rfl) (by decide) (by decide) (Nat.le_of_ble_eq_true rfl) (Nat.le_of_ble_eq_true rfl) (Nat.le_of_ble_eq_true rfl) dX2_init_23 (fun a0 H I => ?_)
  have I : LI D (TYg g) A s _ _ [(q, .inr (2, [.int 0, .int 0, .int 40, .null, .null, .null, .null, .null, .null, .null])), (a0, .inl (g.1, 8, .inl (fun _ => 0)))] := I
  refine n_putF X hmn I (q0 := 0) (ci := 2) rfl rfl inGX2 tyX2 tyX2_ok nmX2 3 (by decide) nw_39 rfl rfl rfl rfl (Nat.le_of_ble_eq_true rfl) dX2_init_25 (fun H _ I => ?_)
  have I : LI D (TYg g) A s _ _ [(q, .inr (2, [.int 0, .int 0, .int 40, .ref a0, .null, .null, .null, .null, .null, .null])), (a0, .inl (g.1, 8, .inl (fun _ => 0)))] := I
  refine lv_aload_n X.1 X.2.1 dX2_init_28 rfl (lv_at hl 0 rfl) ?_
  refine lv_bipush (v := 8) X.1 X.2.1 dX2_init_29 (by decide) ?_
  refine n_arr (at0 := .int) (ty := .int) (N := 8) (a0 := (8, .inl (fun _ => 0))) X I (t0 := 0) rfl rfl (fun _ h => h) nw_3 (fun _ => rfl) (by decide) (by decide) (Nat.le_of_ble_eq_true rfl) (Nat.le_of_ble_eq_true rfl) (Nat.le_of_ble_eq_true rfl) dX2_init_31 (fun a1 H I => ?_)
  have I : LI D (TYg g) A s _ _ [(q, .inr (2, [.int 0, .int 0, .int 40, .ref a0, .null, .null, .null, .null, .null, .null])), (a0, .inl (g.1, 8, .inl (fun _ => 0))), (a1, .inl (g.1, 8, .inl (fun _ => 0)))] := I
  refine n_putF X hmn I (q0 := 0) (ci := 2) rfl rfl inGX2 tyX2 tyX2_ok nmX2 4 (by decide) nw_40 rfl rfl rfl rfl (Nat.le_of_ble_eq_true rfl) dX2_init_33 (fun H _ I => ?_)
  have I : LI D (TYg g) A s _ _ [(q, .inr (2, [.int 0, .int 0, .int 40, .ref a0, .ref a1, .null, .null, .null, .null, .null])), (a0, .inl (g.1, 8, .inl (fun _ => 0))), (a1, .inl (g.1, 8, .inl (fun _ => 0)))] := I
  refine lv_aload_n X.1 X.2.1 dX2_init_36 rfl (lv_at hl 0 rfl) ?_
  refine lv_bipush (v := 7) X.1 X.2.1 dX2_init_37 (by decide) ?_
  refine n_arr (at0 := .int) (ty := .int) (N := 7) (a0 := (7, .inl (fun _ => 0))) X I (t0 := 0) rfl rfl (fun _ h => h) nw_3 (fun _ => rfl) (by decide) (by decide) (Nat.le_of_ble_eq_true rfl) (Nat.le_of_ble_eq_true rfl) (Nat.le_of_ble_eq_true rfl) dX2_init_39 (fun a2 H I => ?_)
  have I : LI D (TYg g) A s _ _ [(q, .inr (2, [.int 0, .int 0, .int 40, .ref a0, .ref a1, .null, .null, .null, .null, .null])), (a0, .inl (g.1, 8, .inl (fun _ => 0))), (a1, .inl (g.1, 8, .inl (fun _ => 0))), (a2, .inl (g.1, 7, .inl (fun _ => 0)))] := I
  refine n_putF X hmn I (q0 := 0) (ci := 2) rfl rfl inGX2 tyX2 tyX2_ok nmX2 5 (by decide) nw_41 rfl rfl rfl rfl (Nat.le_of_ble_eq_true rfl) dX2_init_41 (fun H _ I => ?_)
  have I : LI D (TYg g) A s _ _ [(q, .inr (2, [.int 0, .int 0, .int 40, .ref a0, .ref a1, .ref a2, .null, .null, .null, .null])), (a0, .inl (g.1, 8, .inl (fun _ => 0))), (a1, .inl (g.1, 8, .inl (fun _ => 0))), (a2, .inl (g.1, 7, .inl (fun _ => 0)))] := I
  refine lv_aload_n X.1 X.2.1 dX2_init_44 rfl (lv_at hl 0 rfl) ?_
  refine lv_bipush (v := 7) X.1 X.2.1 dX2_init_45 (by decide) ?_
  refine n_arr (at0 := .int) (ty := .int) (N := 7) (a0 := (7, .inl (fun _ => 0))) X I (t0 := 0) rfl rfl (fun _ h => h) nw_3 (fun _ => rfl) (by decide) (by decide) (Nat.le_of_ble_eq_true rfl) (Nat.le_of_ble_eq_true rfl) (Nat.le_of_ble_eq_true rfl) dX2_init_47 (fun a3 H I => ?_)
  have I : LI D (TYg g) A s _ _ [(q, .inr (2, [.int 0, .int 0, .int 40, .ref a0, .ref a1, .ref a2, .null, .null, .null, .null])), (a0, .inl (g.1, 8, .inl (fun _ => 0))), (a1, .inl (g.1, 8, .inl (fun _ => 0))), (a2, .inl (g.1, 7, .inl (fun _ => 0))), (a3, .inl (g.1, 7, .inl (fun _ => 0)))] := I
  refine n_putF X hmn I (q0 := 0) (ci := 2) rfl rfl inGX2 tyX2 tyX2_ok nmX2 6 (by decide) nw_42 rfl rfl rfl rfl (Nat.le_of_ble_eq_true rfl) dX2_init_49 (fun H _ I => ?_)
  have I : LI D (TYg g) A s _ _ [(q, .inr (2, [.int 0, .int 0, .int 40, .ref a0, .ref a1, .ref a2, .ref a3, .null, .null, .null])), (a0, .inl (g.1, 8, .inl (fun _ => 0))), (a1, .inl (g.1, 8, .inl (fun _ => 0))), (a2, .inl (g.1, 7, .inl (fun _ => 0))), (a3, .inl (g.1, 7, .inl (fun _ => 0)))] := I
  refine lv_aload_n X.1 X.2.1 dX2_init_52 rfl (lv_at hl 0 rfl) ?_
  refine n_new X I inGX4 tyX4 tyX4_ok nw_43 nw_44 nw_21 (ci := 4) rfl (fs := [.null, .null, .int 0]) df_X4 (Nat.le_of_ble_eq_true rfl) (Nat.le_of_ble_eq_true rfl) dX2_init_53 (fun b4 H I => ?_)
  have I : LI D (TYg g) A s _ _ [(q, .inr (2, [.int 0, .int 0, .int 40, .ref a0, .ref a1, .ref a2, .ref a3, .null, .null, .null])), (a0, .inl (g.1, 8, .inl (fun _ => 0))), (a1, .inl (g.1, 8, .inl (fun _ => 0))), (a2, .inl (g.1, 7, .inl (fun _ => 0))), (a3, .inl (g.1, 7, .inl (fun _ => 0))), (b4, .inr (4, [.null, .null, .int 0]))] := I
  refine lv_dup X.1 X.2.1 dX2_init_56 rfl ?_
  refine n_call X (wr := [(q, .inr (2, [.int 0, .int 0, .int 40, .ref a0, .ref a1, .ref a2, .ref a3, .null, .null, .null])), (a0, .inl (g.1, 8, .inl (fun _ => 0))), (a1, .inl (g.1, 8, .inl (fun _ => 0))), (a2, .inl (g.1, 7, .inl (fun _ => 0))), (a3, .inl (g.1, 7, .inl (fun _ => 0)))]) I hl c_X4_init yn_X4 (by decide +kernel) ⟨rfl, rfl, (Nat.le_of_ble_eq_true rfl), (Nat.le_of_ble_eq_true rfl)⟩ ⟨(Nat.le_of_ble_eq_true rfl), (Nat.le_of_ble_eq_true rfl)⟩ [0, 1, 2, 3, 4] rfl (by decide) 5 rfl (by decide) (Nat.le_of_ble_eq_true rfl) dX2_init_57 (fun f5 _ _ hf I2 => ?_)
  clear I
  subst hf
  have I : LI D (TYg g) A s _ _ [(q, .inr (2, [.int 0, .int 0, .int 40, .ref a0, .ref a1, .ref a2, .ref a3, .null, .null, .null])), (a0, .inl (g.1, 8, .inl (fun _ => 0))), (a1, .inl (g.1, 8, .inl (fun _ => 0))), (a2, .inl (g.1, 7, .inl (fun _ => 0))), (a3, .inl (g.1, 7, .inl (fun _ => 0))), (f5 0, .inr (4, [.ref (f5 1), .ref (f5 2), .int 0])), (f5 1, .inl (g.1, 700, .inl (fun _ => 0))), (f5 2, .inl (g.1, 64, .inl (fun _ => 0)))] := I2
  clear I2
  refine n_putF X hmn I (q0 := 0) (ci := 2) rfl rfl inGX2 tyX2 tyX2_ok nmX2 7 (by decide) nw_45 rfl rfl rfl rfl (Nat.le_of_ble_eq_true rfl) dX2_init_60 (fun H _ I => ?_)
  have I : LI D (TYg g) A s _ _ [(q, .inr (2, [.int 0, .int 0, .int 40, .ref a0, .ref a1, .ref a2, .ref a3, .ref (f5 0), .null, .null])), (a0, .inl (g.1, 8, .inl (fun _ => 0))), (a1, .inl (g.1, 8, .inl (fun _ => 0))), (a2, .inl (g.1, 7, .inl (fun _ => 0))), (a3, .inl (g.1, 7, .inl (fun _ => 0))), (f5 0, .inr (4, [.ref (f5 1), .ref (f5 2), .int 0])), (f5 1, .inl (g.1, 700, .inl (fun _ => 0))), (f5 2, .inl (g.1, 64, .inl (fun _ => 0)))] := I
  refine lv_aload_n X.1 X.2.1 dX2_init_63 rfl (lv_at hl 0 rfl) ?_
  refine n_new X I inGX4 tyX4 tyX4_ok nw_43 nw_44 nw_21 (ci := 4) rfl (fs := [.null, .null, .int 0]) df_X4 (Nat.le_of_ble_eq_true rfl) (Nat.le_of_ble_eq_true rfl) dX2_init_64 (fun b6 H I => ?_)
  have I : LI D (TYg g) A s _ _ [(q, .inr (2, [.int 0, .int 0, .int 40, .ref a0, .ref a1, .ref a2, .ref a3, .ref (f5 0), .null, .null])), (a0, .inl (g.1, 8, .inl (fun _ => 0))), (a1, .inl (g.1, 8, .inl (fun _ => 0))), (a2, .inl (g.1, 7, .inl (fun _ => 0))), (a3, .inl (g.1, 7, .inl (fun _ => 0))), (f5 0, .inr (4, [.ref (f5 1), .ref (f5 2), .int 0])), (f5 1, .inl (g.1, 700, .inl (fun _ => 0))), (f5 2, .inl (g.1, 64, .inl (fun _ => 0))), (b6, .inr (4, [.null, .null, .int 0]))] := I
  refine lv_dup X.1 X.2.1 dX2_init_67 rfl ?_
  refine n_call X (wr := [(q, .inr (2, [.int 0, .int 0, .int 40, .ref a0, .ref a1, .ref a2, .ref a3, .ref (f5 0), .null, .null])), (a0, .inl (g.1, 8, .inl (fun _ => 0))), (a1, .inl (g.1, 8, .inl (fun _ => 0))), (a2, .inl (g.1, 7, .inl (fun _ => 0))), (a3, .inl (g.1, 7, .inl (fun _ => 0))), (f5 0, .inr (4, [.ref (f5 1), .ref (f5 2), .int 0])), (f5 1, .inl (g.1, 700, .inl (fun _ => 0))), (f5 2, .inl (g.1, 64, .inl (fun _ => 0)))]) I hl c_X4_init yn_X4 (by decide +kernel) ⟨rfl, rfl, (Nat.le_of_ble_eq_true rfl), (Nat.le_of_ble_eq_true rfl)⟩ ⟨(Nat.le_of_ble_eq_true rfl), (Nat.le_of_ble_eq_true rfl)⟩ [0, 1, 2, 3, 4, 5, 6, 7] rfl (by decide) 8 rfl (by decide) (Nat.le_of_ble_eq_true rfl) dX2_init_68 (fun f7 _ _ hf I2 => ?_)
  clear I
  subst hf
  have I : LI D (TYg g) A s _ _ [(q, .inr (2, [.int 0, .int 0, .int 40, .ref a0, .ref a1, .ref a2, .ref a3, .ref (f5 0), .null, .null])), (a0, .inl (g.1, 8, .inl (fun _ => 0))), (a1, .inl (g.1, 8, .inl (fun _ => 0))), (a2, .inl (g.1, 7, .inl (fun _ => 0))), (a3, .inl (g.1, 7, .inl (fun _ => 0))), (f5 0, .inr (4, [.ref (f5 1), .ref (f5 2), .int 0])), (f5 1, .inl (g.1, 700, .inl (fun _ => 0))), (f5 2, .inl (g.1, 64, .inl (fun _ => 0))), (f7 0, .inr (4, [.ref (f7 1), .ref (f7 2), .int 0])), (f7 1, .inl (g.1, 700, .inl (fun _ => 0))), (f7 2, .inl (g.1, 64, .inl (fun _ => 0)))] := I2
  clear I2
  refine n_putF X hmn I (q0 := 0) (ci := 2) rfl rfl inGX2 tyX2 tyX2_ok nmX2 8 (by decide) nw_46 rfl rfl rfl rfl (Nat.le_of_ble_eq_true rfl) dX2_init_71 (fun H _ I => ?_)
  have I : LI D (TYg g) A s _ _ [(q, .inr (2, [.int 0, .int 0, .int 40, .ref a0, .ref a1, .ref a2, .ref a3, .ref (f5 0), .ref (f7 0), .null])), (a0, .inl (g.1, 8, .inl (fun _ => 0))), (a1, .inl (g.1, 8, .inl (fun _ => 0))), (a2, .inl (g.1, 7, .inl (fun _ => 0))), (a3, .inl (g.1, 7, .inl (fun _ => 0))), (f5 0, .inr (4, [.ref (f5 1), .ref (f5 2), .int 0])), (f5 1, .inl (g.1, 700, .inl (fun _ => 0))), (f5 2, .inl (g.1, 64, .inl (fun _ => 0))), (f7 0, .inr (4, [.ref (f7 1), .ref (f7 2), .int 0])), (f7 1, .inl (g.1, 700, .inl (fun _ => 0))), (f7 2, .inl (g.1, 64, .inl (fun _ => 0)))] := I
  refine lv_aload_n X.1 X.2.1 dX2_init_74 rfl (lv_at hl 0 rfl) ?_
  refine lv_bipush (v := 64) X.1 X.2.1 dX2_init_75 (by decide) ?_
  refine n_arr (at0 := .int) (ty := .int) (N := 64) (a0 := (64, .inl (fun _ => 0))) X I (t0 := 0) rfl rfl (fun _ h => h) nw_3 (fun _ => rfl) (by decide) (by decide) (Nat.le_of_ble_eq_true rfl) (Nat.le_of_ble_eq_true rfl) (Nat.le_of_ble_eq_true rfl) dX2_init_77 (fun a8 H I => ?_)
  have I : LI D (TYg g) A s _ _ [(q, .inr (2, [.int 0, .int 0, .int 40, .ref a0, .ref a1, .ref a2, .ref a3, .ref (f5 0), .ref (f7 0), .null])), (a0, .inl (g.1, 8, .inl (fun _ => 0))), (a1, .inl (g.1, 8, .inl (fun _ => 0))), (a2, .inl (g.1, 7, .inl (fun _ => 0))), (a3, .inl (g.1, 7, .inl (fun _ => 0))), (f5 0, .inr (4, [.ref (f5 1), .ref (f5 2), .int 0])), (f5 1, .inl (g.1, 700, .inl (fun _ => 0))), (f5 2, .inl (g.1, 64, .inl (fun _ => 0))), (f7 0, .inr (4, [.ref (f7 1), .ref (f7 2), .int 0])), (f7 1, .inl (g.1, 700, .inl (fun _ => 0))), (f7 2, .inl (g.1, 64, .inl (fun _ => 0))), (a8, .inl (g.1, 64, .inl (fun _ => 0)))] := I
  refine n_putF X hmn I (q0 := 0) (ci := 2) rfl rfl inGX2 tyX2 tyX2_ok nmX2 9 (by decide) nw_47 rfl rfl rfl rfl (Nat.le_of_ble_eq_true rfl) dX2_init_79 (fun H _ I => ?_)
  have I : LI D (TYg g) A s _ _ [(q, .inr (2, [.int 0, .int 0, .int 40, .ref a0, .ref a1, .ref a2, .ref a3, .ref (f5 0), .ref (f7 0), .ref a8])), (a0, .inl (g.1, 8, .inl (fun _ => 0))), (a1, .inl (g.1, 8, .inl (fun _ => 0))), (a2, .inl (g.1, 7, .inl (fun _ => 0))), (a3, .inl (g.1, 7, .inl (fun _ => 0))), (f5 0, .inr (4, [.ref (f5 1), .ref (f5 2), .int 0])), (f5 1, .inl (g.1, 700, .inl (fun _ => 0))), (f5 2, .inl (g.1, 64, .inl (fun _ => 0))), (f7 0, .inr (4, [.ref (f7 1), .ref (f7 2), .int 0])), (f7 1, .inl (g.1, 700, .inl (fun _ => 0))), (f7 2, .inl (g.1, 64, .inl (fun _ => 0))), (a8, .inl (g.1, 64, .inl (fun _ => 0)))] := I
  exact n_ret X I (w1 := w_X2 g) (fun k => ([q, a0, a1, a2, a3, f5 0, f5 1, f5 2, f7 0, f7 1, f7 2, a8] : List Nat).getD k 0) rfl [0, 1, 2, 3, 4, 5, 6, 7, 8, 9, 10, 11] rfl rfl (by decide) dX2_init_82
def w_X9 (g : ClassId × ClassId × ClassId) (f : Nat → Nat) : va_W := [(f 0, .inr (9, [.ref (f 1), .int 0, .int 0, .int 0, .int 0, .int 0, .int 0])), (f 1, .inl (g.2.1, 700, .inl (fun _ => 0)))]
theorem df_X9 : ∀ j, j < 7 → defaultValue (tyX9 j) = vp_V [.null, .int 0, .int 0, .int 0, .int 0, .int 0, .int 0] j := by decide +kernel
theorem yn_X9 : YN yX9_init cX9_init := ⟨nw_60, nw_61, nw_62, rfl, by decide, by decide, by decide +kernel⟩
def rm_X9_init : Room := { frames := 1, cells := 1, slots := 700, locals := 12 }
set_option maxHeartbeats 4000000 in
set_option maxRecDepth 100000 in
theorem c_X9_init {l : Launch} {D : va_G} {g : ClassId × ClassId × ClassId} : CN l D (TYg g) yX9_init cX9_init rm_X9_init (.inr (9, [.null, .int 0, .int 0, .int 0, .int 0, .int 0, .int 0])) (w_X9 g) 1 700 := by
  refine mk_CN (by decide +kernel) rfl (fun p e s m args below meth c A ls q X hmn I hl => ?_)
  refine lv_aload_n X.1 X.2.1 dX9_init_0 rfl (lv_at hl 0 rfl) ?_
  refine n_obj X hl nw_51 nw_1 nw_2 (Nat.le_of_ble_eq_true rfl) (Nat.le_of_ble_eq_true rfl) dX9_init_1 ?_
  refine lv_aload_n X.1 X.2.1 dX9_init_4 rfl (lv_at hl 0 rfl) ?_
  refine lv_sipush (v := 700) X.1 X.2.1 dX9_init_5 (by decide) ?_
  refine n_arr (at0 := .byte) (ty := .byte) (N := 700) (a0 := (700, .inl (fun _ => 0))) X I (t0 := 1) rfl rfl (fun _ h => h) nw_52 (fun _ => rfl) (by decide) (by decide) (Nat.le_of_ble_eq_true rfl) (Nat.le_of_ble_eq_true rfl) (Nat.le_of_ble_eq_true rfl) dX9_init_8 (fun a0 H I => ?_)
  have I : LI D (TYg g) A s _ _ [(q, .inr (9, [.null, .int 0, .int 0, .int 0, .int 0, .int 0, .int 0])), (a0, .inl (g.2.1, 700, .inl (fun _ => 0)))] := I
  refine n_putF X hmn I (q0 := 0) (ci := 9) rfl rfl inGX9 tyX9 tyX9_ok nmX9 0 (by decide) nw_53 rfl rfl rfl rfl (Nat.le_of_ble_eq_true rfl) dX9_init_10 (fun H _ I => ?_)
  have I : LI D (TYg g) A s _ _ [(q, .inr (9, [.ref a0, .int 0, .int 0, .int 0, .int 0, .int 0, .int 0])), (a0, .inl (g.2.1, 700, .inl (fun _ => 0)))] := I
  refine lv_aload_n X.1 X.2.1 dX9_init_13 rfl (lv_at hl 0 rfl) ?_
  refine lv_iconst (v := 0) X.1 X.2.1 dX9_init_14 (by decide) ?_
  refine n_put X I (q0 := 0) (ci := 9) rfl rfl inGX9 tyX9 tyX9_ok nmX9 1 (by decide) nw_54 rfl rfl rfl (Nat.le_of_ble_eq_true rfl) dX9_init_15 (fun H _ I => ?_)
  have I : LI D (TYg g) A s _ _ [(q, .inr (9, [.ref a0, .int 0, .int 0, .int 0, .int 0, .int 0, .int 0])), (a0, .inl (g.2.1, 700, .inl (fun _ => 0)))] := I
  refine lv_aload_n X.1 X.2.1 dX9_init_18 rfl (lv_at hl 0 rfl) ?_
  refine lv_iconst (v := 0) X.1 X.2.1 dX9_init_19 (by decide) ?_
  refine n_put X I (q0 := 0) (ci := 9) rfl rfl inGX9 tyX9 tyX9_ok nmX9 2 (by decide) nw_55 rfl rfl rfl (Nat.le_of_ble_eq_true rfl) dX9_init_20 (fun H _ I => ?_)
  have I : LI D (TYg g) A s _ _ [(q, .inr (9, [.ref a0, .int 0, .int 0, .int 0, .int 0, .int 0, .int 0])), (a0, .inl (g.2.1, 700, .inl (fun _ => 0)))] := I
  refine lv_aload_n X.1 X.2.1 dX9_init_23 rfl (lv_at hl 0 rfl) ?_
  refine lv_iconst (v := 0) X.1 X.2.1 dX9_init_24 (by decide) ?_
  refine n_put X I (q0 := 0) (ci := 9) rfl rfl inGX9 tyX9 tyX9_ok nmX9 3 (by decide) nw_56 rfl rfl rfl (Nat.le_of_ble_eq_true rfl) dX9_init_25 (fun H _ I => ?_)
  have I : LI D (TYg g) A s _ _ [(q, .inr (9, [.ref a0, .int 0, .int 0, .int 0, .int 0, .int 0, .int 0])), (a0, .inl (g.2.1, 700, .inl (fun _ => 0)))] := I
  refine lv_aload_n X.1 X.2.1 dX9_init_28 rfl (lv_at hl 0 rfl) ?_
  refine lv_iconst (v := 0) X.1 X.2.1 dX9_init_29 (by decide) ?_
  refine n_put X I (q0 := 0) (ci := 9) rfl rfl inGX9 tyX9 tyX9_ok nmX9 4 (by decide) nw_57 rfl rfl rfl (Nat.le_of_ble_eq_true rfl) dX9_init_30 (fun H _ I => ?_)
  have I : LI D (TYg g) A s _ _ [(q, .inr (9, [.ref a0, .int 0, .int 0, .int 0, .int 0, .int 0, .int 0])), (a0, .inl (g.2.1, 700, .inl (fun _ => 0)))] := I
  refine lv_aload_n X.1 X.2.1 dX9_init_33 rfl (lv_at hl 0 rfl) ?_
  refine lv_iconst (v := 0) X.1 X.2.1 dX9_init_34 (by decide) ?_
  refine n_put X I (q0 := 0) (ci := 9) rfl rfl inGX9 tyX9 tyX9_ok nmX9 5 (by decide) nw_58 rfl rfl rfl (Nat.le_of_ble_eq_true rfl) dX9_init_35 (fun H _ I => ?_)
  have I : LI D (TYg g) A s _ _ [(q, .inr (9, [.ref a0, .int 0, .int 0, .int 0, .int 0, .int 0, .int 0])), (a0, .inl (g.2.1, 700, .inl (fun _ => 0)))] := I
  refine lv_aload_n X.1 X.2.1 dX9_init_38 rfl (lv_at hl 0 rfl) ?_
  refine lv_iconst (v := 0) X.1 X.2.1 dX9_init_39 (by decide) ?_
  refine n_put X I (q0 := 0) (ci := 9) rfl rfl inGX9 tyX9 tyX9_ok nmX9 6 (by decide) nw_59 rfl rfl rfl (Nat.le_of_ble_eq_true rfl) dX9_init_40 (fun H _ I => ?_)
  have I : LI D (TYg g) A s _ _ [(q, .inr (9, [.ref a0, .int 0, .int 0, .int 0, .int 0, .int 0, .int 0])), (a0, .inl (g.2.1, 700, .inl (fun _ => 0)))] := I
  exact n_ret X I (w1 := w_X9 g) (fun k => ([q, a0] : List Nat).getD k 0) rfl [0, 1] rfl rfl (by decide) dX9_init_43
def w_X5 (g : ClassId × ClassId × ClassId) (f : Nat → Nat) : va_W := [(f 0, .inr (5, [.ref (f 1), .ref (f 3), .ref (f 6), .int 0, .int 0, .int 1, .int 1, .int 0, .int 0, .int 0])), (f 1, .inr (9, [.ref (f 2), .int 0, .int 0, .int 0, .int 0, .int 0, .int 0])), (f 2, .inl (g.2.1, 700, .inl (fun _ => 0))), (f 3, .inr (4, [.ref (f 4), .ref (f 5), .int 0])), (f 4, .inl (g.1, 700, .inl (fun _ => 0))), (f 5, .inl (g.1, 64, .inl (fun _ => 0))), (f 6, .inl (g.1, 128, .inl (fun _ => 0)))]
theorem df_X5 : ∀ j, j < 10 → defaultValue (tyX5 j) = vp_V [.null, .null, .null, .int 0, .int 0, .int 0, .int 0, .int 0, .int 0, .int 0] j := by decide +kernel
theorem yn_X5 : YN yX5_init cX5_init := ⟨nw_77, nw_78, nw_79, rfl, by decide, by decide, by decide +kernel⟩
def rm_X5_init : Room := { frames := 2, cells := 6, slots := 1602, locals := 32 }
set_option maxHeartbeats 4000000 in
set_option maxRecDepth 100000 in
theorem c_X5_init {l : Launch} {D : va_G} {g : ClassId × ClassId × ClassId} : CN l D (TYg g) yX5_init cX5_init rm_X5_init (.inr (5, [.null, .null, .null, .int 0, .int 0, .int 0, .int 0, .int 0, .int 0, .int 0])) (w_X5 g) 6 1602 := by
  refine mk_CN (by decide +kernel) rfl (fun p e s m args below meth c A ls q X hmn I hl => ?_)
  refine lv_aload_n X.1 X.2.1 dX5_init_0 rfl (lv_at hl 0 rfl) ?_
  refine n_obj X hl nw_63 nw_1 nw_2 (Nat.le_of_ble_eq_true rfl) (Nat.le_of_ble_eq_true rfl) dX5_init_1 ?_
  refine lv_aload_n X.1 X.2.1 dX5_init_4 rfl (lv_at hl 0 rfl) ?_
  refine n_new X I inGX9 tyX9 tyX9_ok nw_64 nw_65 nw_61 (ci := 9) rfl (fs := [.null, .int 0, .int 0, .int 0, .int 0, .int 0, .int 0]) df_X9 (Nat.le_of_ble_eq_true rfl) (Nat.le_of_ble_eq_true rfl) dX5_init_5 (fun b0 H I => ?_)
  have I : LI D (TYg g) A s _ _ [(q, .inr (5, [.null, .null, .null, .int 0, .int 0, .int 0, .int 0, .int 0, .int 0, .int 0])), (b0, .inr (9, [.null, .int 0, .int 0, .int 0, .int 0, .int 0, .int 0]))] := I
  refine lv_dup X.1 X.2.1 dX5_init_8 rfl ?_
  refine n_call X (wr := [(q, .inr (5, [.null, .null, .null, .int 0, .int 0, .int 0, .int 0, .int 0, .int 0, .int 0]))]) I hl c_X9_init yn_X9 (by decide +kernel) ⟨rfl, rfl, (Nat.le_of_ble_eq_true rfl), (Nat.le_of_ble_eq_true rfl)⟩ ⟨(Nat.le_of_ble_eq_true rfl), (Nat.le_of_ble_eq_true rfl)⟩ [0] rfl (by decide) 1 rfl (by decide) (Nat.le_of_ble_eq_true rfl) dX5_init_9 (fun f1 _ _ hf I2 => ?_)
  clear I
  subst hf
  have I : LI D (TYg g) A s _ _ [(q, .inr (5, [.null, .null, .null, .int 0, .int 0, .int 0, .int 0, .int 0, .int 0, .int 0])), (f1 0, .inr (9, [.ref (f1 1), .int 0, .int 0, .int 0, .int 0, .int 0, .int 0])), (f1 1, .inl (g.2.1, 700, .inl (fun _ => 0)))] := I2
  clear I2
  refine n_putF X hmn I (q0 := 0) (ci := 5) rfl rfl inGX5 tyX5 tyX5_ok nmX5 0 (by decide) nw_66 rfl rfl rfl rfl (Nat.le_of_ble_eq_true rfl) dX5_init_12 (fun H _ I => ?_)
  have I : LI D (TYg g) A s _ _ [(q, .inr (5, [.ref (f1 0), .null, .null, .int 0, .int 0, .int 0, .int 0, .int 0, .int 0, .int 0])), (f1 0, .inr (9, [.ref (f1 1), .int 0, .int 0, .int 0, .int 0, .int 0, .int 0])), (f1 1, .inl (g.2.1, 700, .inl (fun _ => 0)))] := I
  refine lv_aload_n X.1 X.2.1 dX5_init_15 rfl (lv_at hl 0 rfl) ?_
  refine n_new X I inGX4 tyX4 tyX4_ok nw_67 nw_44 nw_21 (ci := 4) rfl (fs := [.null, .null, .int 0]) df_X4 (Nat.le_of_ble_eq_true rfl) (Nat.le_of_ble_eq_true rfl) dX5_init_16 (fun b2 H I => ?_)
  have I : LI D (TYg g) A s _ _ [(q, .inr (5, [.ref (f1 0), .null, .null, .int 0, .int 0, .int 0, .int 0, .int 0, .int 0, .int 0])), (f1 0, .inr (9, [.ref (f1 1), .int 0, .int 0, .int 0, .int 0, .int 0, .int 0])), (f1 1, .inl (g.2.1, 700, .inl (fun _ => 0))), (b2, .inr (4, [.null, .null, .int 0]))] := I
  refine lv_dup X.1 X.2.1 dX5_init_19 rfl ?_
  refine n_call X (wr := [(q, .inr (5, [.ref (f1 0), .null, .null, .int 0, .int 0, .int 0, .int 0, .int 0, .int 0, .int 0])), (f1 0, .inr (9, [.ref (f1 1), .int 0, .int 0, .int 0, .int 0, .int 0, .int 0])), (f1 1, .inl (g.2.1, 700, .inl (fun _ => 0)))]) I hl c_X4_init yn_X4 (by decide +kernel) ⟨rfl, rfl, (Nat.le_of_ble_eq_true rfl), (Nat.le_of_ble_eq_true rfl)⟩ ⟨(Nat.le_of_ble_eq_true rfl), (Nat.le_of_ble_eq_true rfl)⟩ [0, 1, 2] rfl (by decide) 3 rfl (by decide) (Nat.le_of_ble_eq_true rfl) dX5_init_20 (fun f3 _ _ hf I2 => ?_)
  clear I
  subst hf
  have I : LI D (TYg g) A s _ _ [(q, .inr (5, [.ref (f1 0), .null, .null, .int 0, .int 0, .int 0, .int 0, .int 0, .int 0, .int 0])), (f1 0, .inr (9, [.ref (f1 1), .int 0, .int 0, .int 0, .int 0, .int 0, .int 0])), (f1 1, .inl (g.2.1, 700, .inl (fun _ => 0))), (f3 0, .inr (4, [.ref (f3 1), .ref (f3 2), .int 0])), (f3 1, .inl (g.1, 700, .inl (fun _ => 0))), (f3 2, .inl (g.1, 64, .inl (fun _ => 0)))] := I2
  clear I2
  refine n_putF X hmn I (q0 := 0) (ci := 5) rfl rfl inGX5 tyX5 tyX5_ok nmX5 1 (by decide) nw_68 rfl rfl rfl rfl (Nat.le_of_ble_eq_true rfl) dX5_init_23 (fun H _ I => ?_)
  have I : LI D (TYg g) A s _ _ [(q, .inr (5, [.ref (f1 0), .ref (f3 0), .null, .int 0, .int 0, .int 0, .int 0, .int 0, .int 0, .int 0])), (f1 0, .inr (9, [.ref (f1 1), .int 0, .int 0, .int 0, .int 0, .int 0, .int 0])), (f1 1, .inl (g.2.1, 700, .inl (fun _ => 0))), (f3 0, .inr (4, [.ref (f3 1), .ref (f3 2), .int 0])), (f3 1, .inl (g.1, 700, .inl (fun _ => 0))), (f3 2, .inl (g.1, 64, .inl (fun _ => 0)))] := I
  refine lv_aload_n X.1 X.2.1 dX5_init_26 rfl (lv_at hl 0 rfl) ?_
  refine lv_sipush (v := 128) X.1 X.2.1 dX5_init_27 (by decide) ?_
  refine n_arr (at0 := .int) (ty := .int) (N := 128) (a0 := (128, .inl (fun _ => 0))) X I (t0 := 0) rfl rfl (fun _ h => h) nw_3 (fun _ => rfl) (by decide) (by decide) (Nat.le_of_ble_eq_true rfl) (Nat.le_of_ble_eq_true rfl) (Nat.le_of_ble_eq_true rfl) dX5_init_30 (fun a4 H I => ?_)
  have I : LI D (TYg g) A s _ _ [(q, .inr (5, [.ref (f1 0), .ref (f3 0), .null, .int 0, .int 0, .int 0, .int 0, .int 0, .int 0, .int 0])), (f1 0, .inr (9, [.ref (f1 1), .int 0, .int 0, .int 0, .int 0, .int 0, .int 0])), (f1 1, .inl (g.2.1, 700, .inl (fun _ => 0))), (f3 0, .inr (4, [.ref (f3 1), .ref (f3 2), .int 0])), (f3 1, .inl (g.1, 700, .inl (fun _ => 0))), (f3 2, .inl (g.1, 64, .inl (fun _ => 0))), (a4, .inl (g.1, 128, .inl (fun _ => 0)))] := I
  refine n_putF X hmn I (q0 := 0) (ci := 5) rfl rfl inGX5 tyX5 tyX5_ok nmX5 2 (by decide) nw_69 rfl rfl rfl rfl (Nat.le_of_ble_eq_true rfl) dX5_init_32 (fun H _ I => ?_)
  have I : LI D (TYg g) A s _ _ [(q, .inr (5, [.ref (f1 0), .ref (f3 0), .ref a4, .int 0, .int 0, .int 0, .int 0, .int 0, .int 0, .int 0])), (f1 0, .inr (9, [.ref (f1 1), .int 0, .int 0, .int 0, .int 0, .int 0, .int 0])), (f1 1, .inl (g.2.1, 700, .inl (fun _ => 0))), (f3 0, .inr (4, [.ref (f3 1), .ref (f3 2), .int 0])), (f3 1, .inl (g.1, 700, .inl (fun _ => 0))), (f3 2, .inl (g.1, 64, .inl (fun _ => 0))), (a4, .inl (g.1, 128, .inl (fun _ => 0)))] := I
  refine lv_aload_n X.1 X.2.1 dX5_init_35 rfl (lv_at hl 0 rfl) ?_
  refine lv_iconst (v := 0) X.1 X.2.1 dX5_init_36 (by decide) ?_
  refine n_put X I (q0 := 0) (ci := 5) rfl rfl inGX5 tyX5 tyX5_ok nmX5 3 (by decide) nw_70 rfl rfl rfl (Nat.le_of_ble_eq_true rfl) dX5_init_37 (fun H _ I => ?_)
  have I : LI D (TYg g) A s _ _ [(q, .inr (5, [.ref (f1 0), .ref (f3 0), .ref a4, .int 0, .int 0, .int 0, .int 0, .int 0, .int 0, .int 0])), (f1 0, .inr (9, [.ref (f1 1), .int 0, .int 0, .int 0, .int 0, .int 0, .int 0])), (f1 1, .inl (g.2.1, 700, .inl (fun _ => 0))), (f3 0, .inr (4, [.ref (f3 1), .ref (f3 2), .int 0])), (f3 1, .inl (g.1, 700, .inl (fun _ => 0))), (f3 2, .inl (g.1, 64, .inl (fun _ => 0))), (a4, .inl (g.1, 128, .inl (fun _ => 0)))] := I
  refine lv_aload_n X.1 X.2.1 dX5_init_40 rfl (lv_at hl 0 rfl) ?_
  refine lv_iconst (v := 0) X.1 X.2.1 dX5_init_41 (by decide) ?_
  refine n_put X I (q0 := 0) (ci := 5) rfl rfl inGX5 tyX5 tyX5_ok nmX5 4 (by decide) nw_71 rfl rfl rfl (Nat.le_of_ble_eq_true rfl) dX5_init_42 (fun H _ I => ?_)
  have I : LI D (TYg g) A s _ _ [(q, .inr (5, [.ref (f1 0), .ref (f3 0), .ref a4, .int 0, .int 0, .int 0, .int 0, .int 0, .int 0, .int 0])), (f1 0, .inr (9, [.ref (f1 1), .int 0, .int 0, .int 0, .int 0, .int 0, .int 0])), (f1 1, .inl (g.2.1, 700, .inl (fun _ => 0))), (f3 0, .inr (4, [.ref (f3 1), .ref (f3 2), .int 0])), (f3 1, .inl (g.1, 700, .inl (fun _ => 0))), (f3 2, .inl (g.1, 64, .inl (fun _ => 0))), (a4, .inl (g.1, 128, .inl (fun _ => 0)))] := I
  refine lv_aload_n X.1 X.2.1 dX5_init_45 rfl (lv_at hl 0 rfl) ?_
  refine lv_iconst (v := 1) X.1 X.2.1 dX5_init_46 (by decide) ?_
  refine n_put X I (q0 := 0) (ci := 5) rfl rfl inGX5 tyX5 tyX5_ok nmX5 5 (by decide) nw_72 rfl rfl rfl (Nat.le_of_ble_eq_true rfl) dX5_init_47 (fun H _ I => ?_)
  have I : LI D (TYg g) A s _ _ [(q, .inr (5, [.ref (f1 0), .ref (f3 0), .ref a4, .int 0, .int 0, .int 1, .int 0, .int 0, .int 0, .int 0])), (f1 0, .inr (9, [.ref (f1 1), .int 0, .int 0, .int 0, .int 0, .int 0, .int 0])), (f1 1, .inl (g.2.1, 700, .inl (fun _ => 0))), (f3 0, .inr (4, [.ref (f3 1), .ref (f3 2), .int 0])), (f3 1, .inl (g.1, 700, .inl (fun _ => 0))), (f3 2, .inl (g.1, 64, .inl (fun _ => 0))), (a4, .inl (g.1, 128, .inl (fun _ => 0)))] := I
  refine lv_aload_n X.1 X.2.1 dX5_init_50 rfl (lv_at hl 0 rfl) ?_
  refine lv_iconst (v := 1) X.1 X.2.1 dX5_init_51 (by decide) ?_
  refine n_put X I (q0 := 0) (ci := 5) rfl rfl inGX5 tyX5 tyX5_ok nmX5 6 (by decide) nw_73 rfl rfl rfl (Nat.le_of_ble_eq_true rfl) dX5_init_52 (fun H _ I => ?_)
  have I : LI D (TYg g) A s _ _ [(q, .inr (5, [.ref (f1 0), .ref (f3 0), .ref a4, .int 0, .int 0, .int 1, .int 1, .int 0, .int 0, .int 0])), (f1 0, .inr (9, [.ref (f1 1), .int 0, .int 0, .int 0, .int 0, .int 0, .int 0])), (f1 1, .inl (g.2.1, 700, .inl (fun _ => 0))), (f3 0, .inr (4, [.ref (f3 1), .ref (f3 2), .int 0])), (f3 1, .inl (g.1, 700, .inl (fun _ => 0))), (f3 2, .inl (g.1, 64, .inl (fun _ => 0))), (a4, .inl (g.1, 128, .inl (fun _ => 0)))] := I
  refine lv_aload_n X.1 X.2.1 dX5_init_55 rfl (lv_at hl 0 rfl) ?_
  refine lv_iconst (v := 0) X.1 X.2.1 dX5_init_56 (by decide) ?_
  refine n_put X I (q0 := 0) (ci := 5) rfl rfl inGX5 tyX5 tyX5_ok nmX5 7 (by decide) nw_74 rfl rfl rfl (Nat.le_of_ble_eq_true rfl) dX5_init_57 (fun H _ I => ?_)
  have I : LI D (TYg g) A s _ _ [(q, .inr (5, [.ref (f1 0), .ref (f3 0), .ref a4, .int 0, .int 0, .int 1, .int 1, .int 0, .int 0, .int 0])), (f1 0, .inr (9, [.ref (f1 1), .int 0, .int 0, .int 0, .int 0, .int 0, .int 0])), (f1 1, .inl (g.2.1, 700, .inl (fun _ => 0))), (f3 0, .inr (4, [.ref (f3 1), .ref (f3 2), .int 0])), (f3 1, .inl (g.1, 700, .inl (fun _ => 0))), (f3 2, .inl (g.1, 64, .inl (fun _ => 0))), (a4, .inl (g.1, 128, .inl (fun _ => 0)))] := I
  refine lv_aload_n X.1 X.2.1 dX5_init_60 rfl (lv_at hl 0 rfl) ?_
  refine lv_iconst (v := 0) X.1 X.2.1 dX5_init_61 (by decide) ?_
  refine n_put X I (q0 := 0) (ci := 5) rfl rfl inGX5 tyX5 tyX5_ok nmX5 8 (by decide) nw_75 rfl rfl rfl (Nat.le_of_ble_eq_true rfl) dX5_init_62 (fun H _ I => ?_)
  have I : LI D (TYg g) A s _ _ [(q, .inr (5, [.ref (f1 0), .ref (f3 0), .ref a4, .int 0, .int 0, .int 1, .int 1, .int 0, .int 0, .int 0])), (f1 0, .inr (9, [.ref (f1 1), .int 0, .int 0, .int 0, .int 0, .int 0, .int 0])), (f1 1, .inl (g.2.1, 700, .inl (fun _ => 0))), (f3 0, .inr (4, [.ref (f3 1), .ref (f3 2), .int 0])), (f3 1, .inl (g.1, 700, .inl (fun _ => 0))), (f3 2, .inl (g.1, 64, .inl (fun _ => 0))), (a4, .inl (g.1, 128, .inl (fun _ => 0)))] := I
  refine lv_aload_n X.1 X.2.1 dX5_init_65 rfl (lv_at hl 0 rfl) ?_
  refine lv_iconst (v := 0) X.1 X.2.1 dX5_init_66 (by decide) ?_
  refine n_put X I (q0 := 0) (ci := 5) rfl rfl inGX5 tyX5 tyX5_ok nmX5 9 (by decide) nw_76 rfl rfl rfl (Nat.le_of_ble_eq_true rfl) dX5_init_67 (fun H _ I => ?_)
  have I : LI D (TYg g) A s _ _ [(q, .inr (5, [.ref (f1 0), .ref (f3 0), .ref a4, .int 0, .int 0, .int 1, .int 1, .int 0, .int 0, .int 0])), (f1 0, .inr (9, [.ref (f1 1), .int 0, .int 0, .int 0, .int 0, .int 0, .int 0])), (f1 1, .inl (g.2.1, 700, .inl (fun _ => 0))), (f3 0, .inr (4, [.ref (f3 1), .ref (f3 2), .int 0])), (f3 1, .inl (g.1, 700, .inl (fun _ => 0))), (f3 2, .inl (g.1, 64, .inl (fun _ => 0))), (a4, .inl (g.1, 128, .inl (fun _ => 0)))] := I
  exact n_ret X I (w1 := w_X5 g) (fun k => ([q, f1 0, f1 1, f3 0, f3 1, f3 2, a4] : List Nat).getD k 0) rfl [0, 1, 2, 3, 4, 5, 6] rfl rfl (by decide) dX5_init_70
def w_X3 (g : ClassId × ClassId × ClassId) (f : Nat → Nat) : va_W := [(f 0, .inr (3, [.ref (f 1), .ref (f 2), .ref (f 8), .ref (f 20), .int 0])), (f 1, .inr (5, [.ref (f 2), .ref (f 4), .ref (f 7), .int 0, .int 0, .int 1, .int 1, .int 0, .int 0, .int 0])), (f 2, .inr (9, [.ref (f 3), .int 0, .int 0, .int 0, .int 0, .int 0, .int 0])), (f 3, .inl (g.2.1, 700, .inl (fun _ => 0))), (f 4, .inr (4, [.ref (f 5), .ref (f 6), .int 0])), (f 5, .inl (g.1, 700, .inl (fun _ => 0))), (f 6, .inl (g.1, 64, .inl (fun _ => 0))), (f 7, .inl (g.1, 128, .inl (fun _ => 0))), (f 8, .inr (2, [.int 0, .int 0, .int 40, .ref (f 9), .ref (f 10), .ref (f 11), .ref (f 12), .ref (f 13), .ref (f 16), .ref (f 19)])), (f 9, .inl (g.1, 8, .inl (fun _ => 0))), (f 10, .inl (g.1, 8, .inl (fun _ => 0))), (f 11, .inl (g.1, 7, .inl (fun _ => 0))), (f 12, .inl (g.1, 7, .inl (fun _ => 0))), (f 13, .inr (4, [.ref (f 14), .ref (f 15), .int 0])), (f 14, .inl (g.1, 700, .inl (fun _ => 0))), (f 15, .inl (g.1, 64, .inl (fun _ => 0))), (f 16, .inr (4, [.ref (f 17), .ref (f 18), .int 0])), (f 17, .inl (g.1, 700, .inl (fun _ => 0))), (f 18, .inl (g.1, 64, .inl (fun _ => 0))), (f 19, .inl (g.1, 64, .inl (fun _ => 0))), (f 20, .inl (g.1, 4, .inl (fun _ => 0)))]
theorem df_X3 : ∀ j, j < 5 → defaultValue (tyX3 j) = vp_V [.null, .null, .null, .null, .int 0] j := by decide +kernel
theorem yn_X3 : YN yX3_init cX3_init := ⟨nw_91, nw_92, nw_93, rfl, by decide, by decide, by decide +kernel⟩
def rm_X3_init : Room := { frames := 3, cells := 20, slots := 3254, locals := 52 }
set_option maxHeartbeats 4000000 in
set_option maxRecDepth 100000 in
theorem c_X3_init {l : Launch} {D : va_G} {g : ClassId × ClassId × ClassId} : CN l D (TYg g) yX3_init cX3_init rm_X3_init (.inr (3, [.null, .null, .null, .null, .int 0])) (w_X3 g) 20 3254 := by
  refine mk_CN (by decide +kernel) rfl (fun p e s m args below meth c A ls q X hmn I hl => ?_)
  refine lv_aload_n X.1 X.2.1 dX3_init_0 rfl (lv_at hl 0 rfl) ?_
  refine n_obj X hl nw_80 nw_1 nw_2 (Nat.le_of_ble_eq_true rfl) (Nat.le_of_ble_eq_true rfl) dX3_init_1 ?_
  refine lv_aload_n X.1 X.2.1 dX3_init_4 rfl (lv_at hl 0 rfl) ?_
  refine n_new X I inGX5 tyX5 tyX5_ok nw_81 nw_82 nw_78 (ci := 5) rfl (fs := [.null, .null, .null, .int 0, .int 0, .int 0, .int 0, .int 0, .int 0, .int 0]) df_X5 (Nat.le_of_ble_eq_true rfl) (Nat.le_of_ble_eq_true rfl) dX3_init_5 (fun b0 H I => ?_)
  have I : LI D (TYg g) A s _ _ [(q, .inr (3, [.null, .null, .null, .null, .int 0])), (b0, .inr (5, [.null, .null, .null, .int 0, .int 0, .int 0, .int 0, .int 0, .int 0, .int 0]))] := I
  refine lv_dup X.1 X.2.1 dX3_init_8 rfl ?_
  refine n_call X (wr := [(q, .inr (3, [.null, .null, .null, .null, .int 0]))]) I hl c_X5_init yn_X5 (by decide +kernel) ⟨rfl, rfl, (Nat.le_of_ble_eq_true rfl), (Nat.le_of_ble_eq_true rfl)⟩ ⟨(Nat.le_of_ble_eq_true rfl), (Nat.le_of_ble_eq_true rfl)⟩ [0] rfl (by decide) 1 rfl (by decide) (Nat.le_of_ble_eq_true rfl) dX3_init_9 (fun f1 _ _ hf I2 => ?_)
  clear I
  subst hf
  have I : LI D (TYg g) A s _ _ [(q, .inr (3, [.null, .null, .null, .null, .int 0])), (f1 0, .inr (5, [.ref (f1 1), .ref (f1 3), .ref (f1 6), .int 0, .int 0, .int 1, .int 1, .int 0, .int 0, .int 0])), (f1 1, .inr (9, [.ref (f1 2), .int 0, .int 0, .int 0, .int 0, .int 0, .int 0])), (f1 2, .inl (g.2.1, 700, .inl (fun _ => 0))), (f1 3, .inr (4, [.ref (f1 4), .ref (f1 5), .int 0])), (f1 4, .inl (g.1, 700, .inl (fun _ => 0))), (f1 5, .inl (g.1, 64, .inl (fun _ => 0))), (f1 6, .inl (g.1, 128, .inl (fun _ => 0)))] := I2
  clear I2
  refine n_putF X hmn I (q0 := 0) (ci := 3) rfl rfl inGX3 tyX3 tyX3_ok nmX3 0 (by decide) nw_83 rfl rfl rfl rfl (Nat.le_of_ble_eq_true rfl) dX3_init_12 (fun H _ I => ?_)
  have I : LI D (TYg g) A s _ _ [(q, .inr (3, [.ref (f1 0), .null, .null, .null, .int 0])), (f1 0, .inr (5, [.ref (f1 1), .ref (f1 3), .ref (f1 6), .int 0, .int 0, .int 1, .int 1, .int 0, .int 0, .int 0])), (f1 1, .inr (9, [.ref (f1 2), .int 0, .int 0, .int 0, .int 0, .int 0, .int 0])), (f1 2, .inl (g.2.1, 700, .inl (fun _ => 0))), (f1 3, .inr (4, [.ref (f1 4), .ref (f1 5), .int 0])), (f1 4, .inl (g.1, 700, .inl (fun _ => 0))), (f1 5, .inl (g.1, 64, .inl (fun _ => 0))), (f1 6, .inl (g.1, 128, .inl (fun _ => 0)))] := I
  refine lv_aload_n X.1 X.2.1 dX3_init_15 rfl (lv_at hl 0 rfl) ?_
  refine lv_aload_n X.1 X.2.1 dX3_init_16 rfl (lv_at hl 0 rfl) ?_
  refine n_get X I (q0 := 0) (ci := 3) rfl rfl inGX3 0 (by decide) nw_83 (v := .ref (f1 0)) rfl dX3_init_17 ?_
  refine n_get X I (q0 := 1) (ci := 5) rfl rfl inGX5 0 (by decide) nw_84 (v := .ref (f1 1)) rfl dX3_init_20 ?_
  refine n_putF X hmn I (q0 := 0) (ci := 3) rfl rfl inGX3 tyX3 tyX3_ok nmX3 1 (by decide) nw_85 rfl rfl rfl rfl (Nat.le_of_ble_eq_true rfl) dX3_init_23 (fun H _ I => ?_)
  have I : LI D (TYg g) A s _ _ [(q, .inr (3, [.ref (f1 0), .ref (f1 1), .null, .null, .int 0])), (f1 0, .inr (5, [.ref (f1 1), .ref (f1 3), .ref (f1 6), .int 0, .int 0, .int 1, .int 1, .int 0, .int 0, .int 0])), (f1 1, .inr (9, [.ref (f1 2), .int 0, .int 0, .int 0, .int 0, .int 0, .int 0])), (f1 2, .inl (g.2.1, 700, .inl (fun _ => 0))), (f1 3, .inr (4, [.ref (f1 4), .ref (f1 5), .int 0])), (f1 4, .inl (g.1, 700, .inl (fun _ => 0))), (f1 5, .inl (g.1, 64, .inl (fun _ => 0))), (f1 6, .inl (g.1, 128, .inl (fun _ => 0)))] := I
  refine lv_aload_n X.1 X.2.1 dX3_init_26 rfl (lv_at hl 0 rfl) ?_
  refine n_new X I inGX2 tyX2 tyX2_ok nw_86 nw_87 nw_49 (ci := 2) rfl (fs := [.int 0, .int 0, .int 0, .null, .null, .null, .null, .null, .null, .null]) df_X2 (Nat.le_of_ble_eq_true rfl) (Nat.le_of_ble_eq_true rfl) dX3_init_27 (fun b2 H I => ?_)
  have I : LI D (TYg g) A s _ _ [(q, .inr (3, [.ref (f1 0), .ref (f1 1), .null, .null, .int 0])), (f1 0, .inr (5, [.ref (f1 1), .ref (f1 3), .ref (f1 6), .int 0, .int 0, .int 1, .int 1, .int 0, .int 0, .int 0])), (f1 1, .inr (9, [.ref (f1 2), .int 0, .int 0, .int 0, .int 0, .int 0, .int 0])), (f1 2, .inl (g.2.1, 700, .inl (fun _ => 0))), (f1 3, .inr (4, [.ref (f1 4), .ref (f1 5), .int 0])), (f1 4, .inl (g.1, 700, .inl (fun _ => 0))), (f1 5, .inl (g.1, 64, .inl (fun _ => 0))), (f1 6, .inl (g.1, 128, .inl (fun _ => 0))), (b2, .inr (2, [.int 0, .int 0, .int 0, .null, .null, .null, .null, .null, .null, .null]))] := I
  refine lv_dup X.1 X.2.1 dX3_init_30 rfl ?_
  refine n_call X (wr := [(q, .inr (3, [.ref (f1 0), .ref (f1 1), .null, .null, .int 0])), (f1 0, .inr (5, [.ref (f1 1), .ref (f1 3), .ref (f1 6), .int 0, .int 0, .int 1, .int 1, .int 0, .int 0, .int 0])), (f1 1, .inr (9, [.ref (f1 2), .int 0, .int 0, .int 0, .int 0, .int 0, .int 0])), (f1 2, .inl (g.2.1, 700, .inl (fun _ => 0))), (f1 3, .inr (4, [.ref (f1 4), .ref (f1 5), .int 0])), (f1 4, .inl (g.1, 700, .inl (fun _ => 0))), (f1 5, .inl (g.1, 64, .inl (fun _ => 0))), (f1 6, .inl (g.1, 128, .inl (fun _ => 0)))]) I hl c_X2_init yn_X2 (by decide +kernel) ⟨rfl, rfl, (Nat.le_of_ble_eq_true rfl), (Nat.le_of_ble_eq_true rfl)⟩ ⟨(Nat.le_of_ble_eq_true rfl), (Nat.le_of_ble_eq_true rfl)⟩ [0, 1, 2, 3, 4, 5, 6, 7] rfl (by decide) 8 rfl (by decide) (Nat.le_of_ble_eq_true rfl) dX3_init_31 (fun f3 _ _ hf I2 => ?_)
  clear I
  subst hf
  have I : LI D (TYg g) A s _ _ [(q, .inr (3, [.ref (f1 0), .ref (f1 1), .null, .null, .int 0])), (f1 0, .inr (5, [.ref (f1 1), .ref (f1 3), .ref (f1 6), .int 0, .int 0, .int 1, .int 1, .int 0, .int 0, .int 0])), (f1 1, .inr (9, [.ref (f1 2), .int 0, .int 0, .int 0, .int 0, .int 0, .int 0])), (f1 2, .inl (g.2.1, 700, .inl (fun _ => 0))), (f1 3, .inr (4, [.ref (f1 4), .ref (f1 5), .int 0])), (f1 4, .inl (g.1, 700, .inl (fun _ => 0))), (f1 5, .inl (g.1, 64, .inl (fun _ => 0))), (f1 6, .inl (g.1, 128, .inl (fun _ => 0))), (f3 0, .inr (2, [.int 0, .int 0, .int 40, .ref (f3 1), .ref (f3 2), .ref (f3 3), .ref (f3 4), .ref (f3 5), .ref (f3 8), .ref (f3 11)])), (f3 1, .inl (g.1, 8, .inl (fun _ => 0))), (f3 2, .inl (g.1, 8, .inl (fun _ => 0))), (f3 3, .inl (g.1, 7, .inl (fun _ => 0))), (f3 4, .inl (g.1, 7, .inl (fun _ => 0))), (f3 5, .inr (4, [.ref (f3 6), .ref (f3 7), .int 0])), (f3 6, .inl (g.1, 700, .inl (fun _ => 0))), (f3 7, .inl (g.1, 64, .inl (fun _ => 0))), (f3 8, .inr (4, [.ref (f3 9), .ref (f3 10), .int 0])), (f3 9, .inl (g.1, 700, .inl (fun _ => 0))), (f3 10, .inl (g.1, 64, .inl (fun _ => 0))), (f3 11, .inl (g.1, 64, .inl (fun _ => 0)))] := I2
  clear I2
  refine n_putF X hmn I (q0 := 0) (ci := 3) rfl rfl inGX3 tyX3 tyX3_ok nmX3 2 (by decide) nw_88 rfl rfl rfl rfl (Nat.le_of_ble_eq_true rfl) dX3_init_34 (fun H _ I => ?_)
  have I : LI D (TYg g) A s _ _ [(q, .inr (3, [.ref (f1 0), .ref (f1 1), .ref (f3 0), .null, .int 0])), (f1 0, .inr (5, [.ref (f1 1), .ref (f1 3), .ref (f1 6), .int 0, .int 0, .int 1, .int 1, .int 0, .int 0, .int 0])), (f1 1, .inr (9, [.ref (f1 2), .int 0, .int 0, .int 0, .int 0, .int 0, .int 0])), (f1 2, .inl (g.2.1, 700, .inl (fun _ => 0))), (f1 3, .inr (4, [.ref (f1 4), .ref (f1 5), .int 0])), (f1 4, .inl (g.1, 700, .inl (fun _ => 0))), (f1 5, .inl (g.1, 64, .inl (fun _ => 0))), (f1 6, .inl (g.1, 128, .inl (fun _ => 0))), (f3 0, .inr (2, [.int 0, .int 0, .int 40, .ref (f3 1), .ref (f3 2), .ref (f3 3), .ref (f3 4), .ref (f3 5), .ref (f3 8), .ref (f3 11)])), (f3 1, .inl (g.1, 8, .inl (fun _ => 0))), (f3 2, .inl (g.1, 8, .inl (fun _ => 0))), (f3 3, .inl (g.1, 7, .inl (fun _ => 0))), (f3 4, .inl (g.1, 7, .inl (fun _ => 0))), (f3 5, .inr (4, [.ref (f3 6), .ref (f3 7), .int 0])), (f3 6, .inl (g.1, 700, .inl (fun _ => 0))), (f3 7, .inl (g.1, 64, .inl (fun _ => 0))), (f3 8, .inr (4, [.ref (f3 9), .ref (f3 10), .int 0])), (f3 9, .inl (g.1, 700, .inl (fun _ => 0))), (f3 10, .inl (g.1, 64, .inl (fun _ => 0))), (f3 11, .inl (g.1, 64, .inl (fun _ => 0)))] := I
  refine lv_aload_n X.1 X.2.1 dX3_init_37 rfl (lv_at hl 0 rfl) ?_
  refine lv_iconst (v := 4) X.1 X.2.1 dX3_init_38 (by decide) ?_
  refine n_arr (at0 := .int) (ty := .int) (N := 4) (a0 := (4, .inl (fun _ => 0))) X I (t0 := 0) rfl rfl (fun _ h => h) nw_3 (fun _ => rfl) (by decide) (by decide) (Nat.le_of_ble_eq_true rfl) (Nat.le_of_ble_eq_true rfl) (Nat.le_of_ble_eq_true rfl) dX3_init_39 (fun a4 H I => ?_)
  have I : LI D (TYg g) A s _ _ [(q, .inr (3, [.ref (f1 0), .ref (f1 1), .ref (f3 0), .null, .int 0])), (f1 0, .inr (5, [.ref (f1 1), .ref (f1 3), .ref (f1 6), .int 0, .int 0, .int 1, .int 1, .int 0, .int 0, .int 0])), (f1 1, .inr (9, [.ref (f1 2), .int 0, .int 0, .int 0, .int 0, .int 0, .int 0])), (f1 2, .inl (g.2.1, 700, .inl (fun _ => 0))), (f1 3, .inr (4, [.ref (f1 4), .ref (f1 5), .int 0])), (f1 4, .inl (g.1, 700, .inl (fun _ => 0))), (f1 5, .inl (g.1, 64, .inl (fun _ => 0))), (f1 6, .inl (g.1, 128, .inl (fun _ => 0))), (f3 0, .inr (2, [.int 0, .int 0, .int 40, .ref (f3 1), .ref (f3 2), .ref (f3 3), .ref (f3 4), .ref (f3 5), .ref (f3 8), .ref (f3 11)])), (f3 1, .inl (g.1, 8, .inl (fun _ => 0))), (f3 2, .inl (g.1, 8, .inl (fun _ => 0))), (f3 3, .inl (g.1, 7, .inl (fun _ => 0))), (f3 4, .inl (g.1, 7, .inl (fun _ => 0))), (f3 5, .inr (4, [.ref (f3 6), .ref (f3 7), .int 0])), (f3 6, .inl (g.1, 700, .inl (fun _ => 0))), (f3 7, .inl (g.1, 64, .inl (fun _ => 0))), (f3 8, .inr (4, [.ref (f3 9), .ref (f3 10), .int 0])), (f3 9, .inl (g.1, 700, .inl (fun _ => 0))), (f3 10, .inl (g.1, 64, .inl (fun _ => 0))), (f3 11, .inl (g.1, 64, .inl (fun _ => 0))), (a4, .inl (g.1, 4, .inl (fun _ => 0)))] := I
  refine n_putF X hmn I (q0 := 0) (ci := 3) rfl rfl inGX3 tyX3 tyX3_ok nmX3 3 (by decide) nw_89 rfl rfl rfl rfl (Nat.le_of_ble_eq_true rfl) dX3_init_41 (fun H _ I => ?_)
  have I : LI D (TYg g) A s _ _ [(q, .inr (3, [.ref (f1 0), .ref (f1 1), .ref (f3 0), .ref a4, .int 0])), (f1 0, .inr (5, [.ref (f1 1), .ref (f1 3), .ref (f1 6), .int 0, .int 0, .int 1, .int 1, .int 0, .int 0, .int 0])), (f1 1, .inr (9, [.ref (f1 2), .int 0, .int 0, .int 0, .int 0, .int 0, .int 0])), (f1 2, .inl (g.2.1, 700, .inl (fun _ => 0))), (f1 3, .inr (4, [.ref (f1 4), .ref (f1 5), .int 0])), (f1 4, .inl (g.1, 700, .inl (fun _ => 0))), (f1 5, .inl (g.1, 64, .inl (fun _ => 0))), (f1 6, .inl (g.1, 128, .inl (fun _ => 0))), (f3 0, .inr (2, [.int 0, .int 0, .int 40, .ref (f3 1), .ref (f3 2), .ref (f3 3), .ref (f3 4), .ref (f3 5), .ref (f3 8), .ref (f3 11)])), (f3 1, .inl (g.1, 8, .inl (fun _ => 0))), (f3 2, .inl (g.1, 8, .inl (fun _ => 0))), (f3 3, .inl (g.1, 7, .inl (fun _ => 0))), (f3 4, .inl (g.1, 7, .inl (fun _ => 0))), (f3 5, .inr (4, [.ref (f3 6), .ref (f3 7), .int 0])), (f3 6, .inl (g.1, 700, .inl (fun _ => 0))), (f3 7, .inl (g.1, 64, .inl (fun _ => 0))), (f3 8, .inr (4, [.ref (f3 9), .ref (f3 10), .int 0])), (f3 9, .inl (g.1, 700, .inl (fun _ => 0))), (f3 10, .inl (g.1, 64, .inl (fun _ => 0))), (f3 11, .inl (g.1, 64, .inl (fun _ => 0))), (a4, .inl (g.1, 4, .inl (fun _ => 0)))] := I
  refine lv_aload_n X.1 X.2.1 dX3_init_44 rfl (lv_at hl 0 rfl) ?_
  refine lv_iconst (v := 0) X.1 X.2.1 dX3_init_45 (by decide) ?_
  refine n_put X I (q0 := 0) (ci := 3) rfl rfl inGX3 tyX3 tyX3_ok nmX3 4 (by decide) nw_90 rfl rfl rfl (Nat.le_of_ble_eq_true rfl) dX3_init_46 (fun H _ I => ?_)
  have I : LI D (TYg g) A s _ _ [(q, .inr (3, [.ref (f1 0), .ref (f1 1), .ref (f3 0), .ref a4, .int 0])), (f1 0, .inr (5, [.ref (f1 1), .ref (f1 3), .ref (f1 6), .int 0, .int 0, .int 1, .int 1, .int 0, .int 0, .int 0])), (f1 1, .inr (9, [.ref (f1 2), .int 0, .int 0, .int 0, .int 0, .int 0, .int 0])), (f1 2, .inl (g.2.1, 700, .inl (fun _ => 0))), (f1 3, .inr (4, [.ref (f1 4), .ref (f1 5), .int 0])), (f1 4, .inl (g.1, 700, .inl (fun _ => 0))), (f1 5, .inl (g.1, 64, .inl (fun _ => 0))), (f1 6, .inl (g.1, 128, .inl (fun _ => 0))), (f3 0, .inr (2, [.int 0, .int 0, .int 40, .ref (f3 1), .ref (f3 2), .ref (f3 3), .ref (f3 4), .ref (f3 5), .ref (f3 8), .ref (f3 11)])), (f3 1, .inl (g.1, 8, .inl (fun _ => 0))), (f3 2, .inl (g.1, 8, .inl (fun _ => 0))), (f3 3, .inl (g.1, 7, .inl (fun _ => 0))), (f3 4, .inl (g.1, 7, .inl (fun _ => 0))), (f3 5, .inr (4, [.ref (f3 6), .ref (f3 7), .int 0])), (f3 6, .inl (g.1, 700, .inl (fun _ => 0))), (f3 7, .inl (g.1, 64, .inl (fun _ => 0))), (f3 8, .inr (4, [.ref (f3 9), .ref (f3 10), .int 0])), (f3 9, .inl (g.1, 700, .inl (fun _ => 0))), (f3 10, .inl (g.1, 64, .inl (fun _ => 0))), (f3 11, .inl (g.1, 64, .inl (fun _ => 0))), (a4, .inl (g.1, 4, .inl (fun _ => 0)))] := I
  exact n_ret X I (w1 := w_X3 g) (fun k => ([q, f1 0, f1 1, f1 2, f1 3, f1 4, f1 5, f1 6, f3 0, f3 1, f3 2, f3 3, f3 4, f3 5, f3 6, f3 7, f3 8, f3 9, f3 10, f3 11, a4] : List Nat).getD k 0) rfl [0, 1, 2, 3, 4, 5, 6, 7, 8, 9, 10, 11, 12, 13, 14, 15, 16, 17, 18, 19, 20] rfl rfl (by decide) dX3_init_49
def w_X7 (g : ClassId × ClassId × ClassId) (f : Nat → Nat) : va_W := [(f 0, .inr (7, [.ref (f 1), .ref (f 2), .ref (f 3), .int 0, .int 1, .int 1])), (f 1, .inl (g.1, 56, .inl (fun _ => 0))), (f 2, .inl (g.1, 256, .inl (fun _ => 0))), (f 3, .inl (g.1, 2048, .inl (fun _ => 0)))]
theorem df_X7 : ∀ j, j < 6 → defaultValue (tyX7 j) = vp_V [.null, .null, .null, .int 0, .int 0, .int 0] j := by decide +kernel
theorem yn_X7 : YN yX7_init cX7_init := ⟨nw_101, nw_102, nw_103, rfl, by decide, by decide, by decide +kernel⟩
def rm_X7_init : Room := { frames := 1, cells := 3, slots := 2360, locals := 12 }
set_option maxHeartbeats 4000000 in
set_option maxRecDepth 100000 in
theorem c_X7_init {l : Launch} {D : va_G} {g : ClassId × ClassId × ClassId} : CN l D (TYg g) yX7_init cX7_init rm_X7_init (.inr (7, [.null, .null, .null, .int 0, .int 0, .int 0])) (w_X7 g) 3 2360 := by
  refine mk_CN (by decide +kernel) rfl (fun p e s m args below meth c A ls q X hmn I hl => ?_)
  refine lv_aload_n X.1 X.2.1 dX7_init_0 rfl (lv_at hl 0 rfl) ?_
  refine n_obj X hl nw_94 nw_1 nw_2 (Nat.le_of_ble_eq_true rfl) (Nat.le_of_ble_eq_true rfl) dX7_init_1 ?_
  refine lv_aload_n X.1 X.2.1 dX7_init_4 rfl (lv_at hl 0 rfl) ?_
  refine lv_bipush (v := 56) X.1 X.2.1 dX7_init_5 (by decide) ?_
  refine n_arr (at0 := .int) (ty := .int) (N := 56) (a0 := (56, .inl (fun _ => 0))) X I (t0 := 0) rfl rfl (fun _ h => h) nw_3 (fun _ => rfl) (by decide) (by decide) (Nat.le_of_ble_eq_true rfl) (Nat.le_of_ble_eq_true rfl) (Nat.le_of_ble_eq_true rfl) dX7_init_7 (fun a0 H I => ?_)
  have I : LI D (TYg g) A s _ _ [(q, .inr (7, [.null, .null, .null, .int 0, .int 0, .int 0])), (a0, .inl (g.1, 56, .inl (fun _ => 0)))] := I
  refine n_putF X hmn I (q0 := 0) (ci := 7) rfl rfl inGX7 tyX7 tyX7_ok nmX7 0 (by decide) nw_95 rfl rfl rfl rfl (Nat.le_of_ble_eq_true rfl) dX7_init_9 (fun H _ I => ?_)
  have I : LI D (TYg g) A s _ _ [(q, .inr (7, [.ref a0, .null, .null, .int 0, .int 0, .int 0])), (a0, .inl (g.1, 56, .inl (fun _ => 0)))] := I
  refine lv_aload_n X.1 X.2.1 dX7_init_12 rfl (lv_at hl 0 rfl) ?_
  refine lv_sipush (v := 256) X.1 X.2.1 dX7_init_13 (by decide) ?_
  refine n_arr (at0 := .int) (ty := .int) (N := 256) (a0 := (256, .inl (fun _ => 0))) X I (t0 := 0) rfl rfl (fun _ h => h) nw_3 (fun _ => rfl) (by decide) (by decide) (Nat.le_of_ble_eq_true rfl) (Nat.le_of_ble_eq_true rfl) (Nat.le_of_ble_eq_true rfl) dX7_init_16 (fun a1 H I => ?_)
  have I : LI D (TYg g) A s _ _ [(q, .inr (7, [.ref a0, .null, .null, .int 0, .int 0, .int 0])), (a0, .inl (g.1, 56, .inl (fun _ => 0))), (a1, .inl (g.1, 256, .inl (fun _ => 0)))] := I
  refine n_putF X hmn I (q0 := 0) (ci := 7) rfl rfl inGX7 tyX7 tyX7_ok nmX7 1 (by decide) nw_96 rfl rfl rfl rfl (Nat.le_of_ble_eq_true rfl) dX7_init_18 (fun H _ I => ?_)
  have I : LI D (TYg g) A s _ _ [(q, .inr (7, [.ref a0, .ref a1, .null, .int 0, .int 0, .int 0])), (a0, .inl (g.1, 56, .inl (fun _ => 0))), (a1, .inl (g.1, 256, .inl (fun _ => 0)))] := I
  refine lv_aload_n X.1 X.2.1 dX7_init_21 rfl (lv_at hl 0 rfl) ?_
  refine lv_sipush (v := 2048) X.1 X.2.1 dX7_init_22 (by decide) ?_
  refine n_arr (at0 := .int) (ty := .int) (N := 2048) (a0 := (2048, .inl (fun _ => 0))) X I (t0 := 0) rfl rfl (fun _ h => h) nw_3 (fun _ => rfl) (by decide) (by decide) (Nat.le_of_ble_eq_true rfl) (Nat.le_of_ble_eq_true rfl) (Nat.le_of_ble_eq_true rfl) dX7_init_25 (fun a2 H I => ?_)
  have I : LI D (TYg g) A s _ _ [(q, .inr (7, [.ref a0, .ref a1, .null, .int 0, .int 0, .int 0])), (a0, .inl (g.1, 56, .inl (fun _ => 0))), (a1, .inl (g.1, 256, .inl (fun _ => 0))), (a2, .inl (g.1, 2048, .inl (fun _ => 0)))] := I
  refine n_putF X hmn I (q0 := 0) (ci := 7) rfl rfl inGX7 tyX7 tyX7_ok nmX7 2 (by decide) nw_97 rfl rfl rfl rfl (Nat.le_of_ble_eq_true rfl) dX7_init_27 (fun H _ I => ?_)
  have I : LI D (TYg g) A s _ _ [(q, .inr (7, [.ref a0, .ref a1, .ref a2, .int 0, .int 0, .int 0])), (a0, .inl (g.1, 56, .inl (fun _ => 0))), (a1, .inl (g.1, 256, .inl (fun _ => 0))), (a2, .inl (g.1, 2048, .inl (fun _ => 0)))] := I
  refine lv_aload_n X.1 X.2.1 dX7_init_30 rfl (lv_at hl 0 rfl) ?_
  refine lv_iconst (v := 0) X.1 X.2.1 dX7_init_31 (by decide) ?_
  refine n_put X I (q0 := 0) (ci := 7) rfl rfl inGX7 tyX7 tyX7_ok nmX7 3 (by decide) nw_98 rfl rfl rfl (Nat.le_of_ble_eq_true rfl) dX7_init_32 (fun H _ I => ?_)
  have I : LI D (TYg g) A s _ _ [(q, .inr (7, [.ref a0, .ref a1, .ref a2, .int 0, .int 0, .int 0])), (a0, .inl (g.1, 56, .inl (fun _ => 0))), (a1, .inl (g.1, 256, .inl (fun _ => 0))), (a2, .inl (g.1, 2048, .inl (fun _ => 0)))] := I
  refine lv_aload_n X.1 X.2.1 dX7_init_35 rfl (lv_at hl 0 rfl) ?_
  refine lv_iconst (v := 1) X.1 X.2.1 dX7_init_36 (by decide) ?_
  refine n_put X I (q0 := 0) (ci := 7) rfl rfl inGX7 tyX7 tyX7_ok nmX7 4 (by decide) nw_99 rfl rfl rfl (Nat.le_of_ble_eq_true rfl) dX7_init_37 (fun H _ I => ?_)
  have I : LI D (TYg g) A s _ _ [(q, .inr (7, [.ref a0, .ref a1, .ref a2, .int 0, .int 1, .int 0])), (a0, .inl (g.1, 56, .inl (fun _ => 0))), (a1, .inl (g.1, 256, .inl (fun _ => 0))), (a2, .inl (g.1, 2048, .inl (fun _ => 0)))] := I
  refine lv_aload_n X.1 X.2.1 dX7_init_40 rfl (lv_at hl 0 rfl) ?_
  refine lv_iconst (v := 1) X.1 X.2.1 dX7_init_41 (by decide) ?_
  refine n_put X I (q0 := 0) (ci := 7) rfl rfl inGX7 tyX7 tyX7_ok nmX7 5 (by decide) nw_100 rfl rfl rfl (Nat.le_of_ble_eq_true rfl) dX7_init_42 (fun H _ I => ?_)
  have I : LI D (TYg g) A s _ _ [(q, .inr (7, [.ref a0, .ref a1, .ref a2, .int 0, .int 1, .int 1])), (a0, .inl (g.1, 56, .inl (fun _ => 0))), (a1, .inl (g.1, 256, .inl (fun _ => 0))), (a2, .inl (g.1, 2048, .inl (fun _ => 0)))] := I
  exact n_ret X I (w1 := w_X7 g) (fun k => ([q, a0, a1, a2] : List Nat).getD k 0) rfl [0, 1, 2, 3] rfl rfl (by decide) dX7_init_45
def w_X8 (g : ClassId × ClassId × ClassId) (f : Nat → Nat) : va_W := [(f 0, .inr (8, [.ref (f 1), .ref (f 13), .ref (f 14), .ref (f 15), .int 0])), (f 1, .inr (2, [.int 0, .int 0, .int 40, .ref (f 2), .ref (f 3), .ref (f 4), .ref (f 5), .ref (f 6), .ref (f 9), .ref (f 12)])), (f 2, .inl (g.1, 8, .inl (fun _ => 0))), (f 3, .inl (g.1, 8, .inl (fun _ => 0))), (f 4, .inl (g.1, 7, .inl (fun _ => 0))), (f 5, .inl (g.1, 7, .inl (fun _ => 0))), (f 6, .inr (4, [.ref (f 7), .ref (f 8), .int 0])), (f 7, .inl (g.1, 700, .inl (fun _ => 0))), (f 8, .inl (g.1, 64, .inl (fun _ => 0))), (f 9, .inr (4, [.ref (f 10), .ref (f 11), .int 0])), (f 10, .inl (g.1, 700, .inl (fun _ => 0))), (f 11, .inl (g.1, 64, .inl (fun _ => 0))), (f 12, .inl (g.1, 64, .inl (fun _ => 0))), (f 13, .inl (g.1, 10, .inl (fun _ => 0))), (f 14, .inl (g.1, 8, .inl (fun _ => 0))), (f 15, .inl (g.1, 7, .inl (fun _ => 0)))]
theorem df_X8 : ∀ j, j < 5 → defaultValue (tyX8 j) = vp_V [.null, .null, .null, .null, .int 0] j := by decide +kernel
theorem yn_X8 : YN yX8_init cX8_init := ⟨nw_111, nw_112, nw_113, rfl, by decide, by decide, by decide +kernel⟩
def rm_X8_init : Room := { frames := 3, cells := 15, slots := 1663, locals := 52 }
set_option maxHeartbeats 4000000 in
set_option maxRecDepth 100000 in
theorem c_X8_init {l : Launch} {D : va_G} {g : ClassId × ClassId × ClassId} : CN l D (TYg g) yX8_init cX8_init rm_X8_init (.inr (8, [.null, .null, .null, .null, .int 0])) (w_X8 g) 15 1663 := by
  refine mk_CN (by decide +kernel) rfl (fun p e s m args below meth c A ls q X hmn I hl => ?_)
  refine lv_aload_n X.1 X.2.1 dX8_init_0 rfl (lv_at hl 0 rfl) ?_
  refine n_obj X hl nw_104 nw_1 nw_2 (Nat.le_of_ble_eq_true rfl) (Nat.le_of_ble_eq_true rfl) dX8_init_1 ?_
  refine lv_aload_n X.1 X.2.1 dX8_init_4 rfl (lv_at hl 0 rfl) ?_
  refine n_new X I inGX2 tyX2 tyX2_ok nw_105 nw_87 nw_49 (ci := 2) rfl (fs := [.int 0, .int 0, .int 0, .null, .null, .null, .null, .null, .null, .null]) df_X2 (Nat.le_of_ble_eq_true rfl) (Nat.le_of_ble_eq_true rfl) dX8_init_5 (fun b0 H I => ?_)
  have I : LI D (TYg g) A s _ _ [(q, .inr (8, [.null, .null, .null, .null, .int 0])), (b0, .inr (2, [.int 0, .int 0, .int 0, .null, .null, .null, .null, .null, .null, .null]))] := I
  refine lv_dup X.1 X.2.1 dX8_init_8 rfl ?_
  refine n_call X (wr := [(q, .inr (8, [.null, .null, .null, .null, .int 0]))]) I hl c_X2_init yn_X2 (by decide +kernel) ⟨rfl, rfl, (Nat.le_of_ble_eq_true rfl), (Nat.le_of_ble_eq_true rfl)⟩ ⟨(Nat.le_of_ble_eq_true rfl), (Nat.le_of_ble_eq_true rfl)⟩ [0] rfl (by decide) 1 rfl (by decide) (Nat.le_of_ble_eq_true rfl) dX8_init_9 (fun f1 _ _ hf I2 => ?_)
  clear I
  subst hf
  have I : LI D (TYg g) A s _ _ [(q, .inr (8, [.null, .null, .null, .null, .int 0])), (f1 0, .inr (2, [.int 0, .int 0, .int 40, .ref (f1 1), .ref (f1 2), .ref (f1 3), .ref (f1 4), .ref (f1 5), .ref (f1 8), .ref (f1 11)])), (f1 1, .inl (g.1, 8, .inl (fun _ => 0))), (f1 2, .inl (g.1, 8, .inl (fun _ => 0))), (f1 3, .inl (g.1, 7, .inl (fun _ => 0))), (f1 4, .inl (g.1, 7, .inl (fun _ => 0))), (f1 5, .inr (4, [.ref (f1 6), .ref (f1 7), .int 0])), (f1 6, .inl (g.1, 700, .inl (fun _ => 0))), (f1 7, .inl (g.1, 64, .inl (fun _ => 0))), (f1 8, .inr (4, [.ref (f1 9), .ref (f1 10), .int 0])), (f1 9, .inl (g.1, 700, .inl (fun _ => 0))), (f1 10, .inl (g.1, 64, .inl (fun _ => 0))), (f1 11, .inl (g.1, 64, .inl (fun _ => 0)))] := I2
  clear I2
  refine n_putF X hmn I (q0 := 0) (ci := 8) rfl rfl inGX8 tyX8 tyX8_ok nmX8 0 (by decide) nw_106 rfl rfl rfl rfl (Nat.le_of_ble_eq_true rfl) dX8_init_12 (fun H _ I => ?_)
  have I : LI D (TYg g) A s _ _ [(q, .inr (8, [.ref (f1 0), .null, .null, .null, .int 0])), (f1 0, .inr (2, [.int 0, .int 0, .int 40, .ref (f1 1), .ref (f1 2), .ref (f1 3), .ref (f1 4), .ref (f1 5), .ref (f1 8), .ref (f1 11)])), (f1 1, .inl (g.1, 8, .inl (fun _ => 0))), (f1 2, .inl (g.1, 8, .inl (fun _ => 0))), (f1 3, .inl (g.1, 7, .inl (fun _ => 0))), (f1 4, .inl (g.1, 7, .inl (fun _ => 0))), (f1 5, .inr (4, [.ref (f1 6), .ref (f1 7), .int 0])), (f1 6, .inl (g.1, 700, .inl (fun _ => 0))), (f1 7, .inl (g.1, 64, .inl (fun _ => 0))), (f1 8, .inr (4, [.ref (f1 9), .ref (f1 10), .int 0])), (f1 9, .inl (g.1, 700, .inl (fun _ => 0))), (f1 10, .inl (g.1, 64, .inl (fun _ => 0))), (f1 11, .inl (g.1, 64, .inl (fun _ => 0)))] := I
  refine lv_aload_n X.1 X.2.1 dX8_init_15 rfl (lv_at hl 0 rfl) ?_
  refine lv_bipush (v := 10) X.1 X.2.1 dX8_init_16 (by decide) ?_
  refine n_arr (at0 := .int) (ty := .int) (N := 10) (a0 := (10, .inl (fun _ => 0))) X I (t0 := 0) rfl rfl (fun _ h => h) nw_3 (fun _ => rfl) (by decide) (by decide) (Nat.le_of_ble_eq_true rfl) (Nat.le_of_ble_eq_true rfl) (Nat.le_of_ble_eq_true rfl) dX8_init_18 (fun a2 H I => ?_)
  have I : LI D (TYg g) A s _ _ [(q, .inr (8, [.ref (f1 0), .null, .null, .null, .int 0])), (f1 0, .inr (2, [.int 0, .int 0, .int 40, .ref (f1 1), .ref (f1 2), .ref (f1 3), .ref (f1 4), .ref (f1 5), .ref (f1 8), .ref (f1 11)])), (f1 1, .inl (g.1, 8, .inl (fun _ => 0))), (f1 2, .inl (g.1, 8, .inl (fun _ => 0))), (f1 3, .inl (g.1, 7, .inl (fun _ => 0))), (f1 4, .inl (g.1, 7, .inl (fun _ => 0))), (f1 5, .inr (4, [.ref (f1 6), .ref (f1 7), .int 0])), (f1 6, .inl (g.1, 700, .inl (fun _ => 0))), (f1 7, .inl (g.1, 64, .inl (fun _ => 0))), (f1 8, .inr (4, [.ref (f1 9), .ref (f1 10), .int 0])), (f1 9, .inl (g.1, 700, .inl (fun _ => 0))), (f1 10, .inl (g.1, 64, .inl (fun _ => 0))), (f1 11, .inl (g.1, 64, .inl (fun _ => 0))), (a2, .inl (g.1, 10, .inl (fun _ => 0)))] := I
  refine n_putF X hmn I (q0 := 0) (ci := 8) rfl rfl inGX8 tyX8 tyX8_ok nmX8 1 (by decide) nw_107 rfl rfl rfl rfl (Nat.le_of_ble_eq_true rfl) dX8_init_20 (fun H _ I => ?_)
  have I : LI D (TYg g) A s _ _ [(q, .inr (8, [.ref (f1 0), .ref a2, .null, .null, .int 0])), (f1 0, .inr (2, [.int 0, .int 0, .int 40, .ref (f1 1), .ref (f1 2), .ref (f1 3), .ref (f1 4), .ref (f1 5), .ref (f1 8), .ref (f1 11)])), (f1 1, .inl (g.1, 8, .inl (fun _ => 0))), (f1 2, .inl (g.1, 8, .inl (fun _ => 0))), (f1 3, .inl (g.1, 7, .inl (fun _ => 0))), (f1 4, .inl (g.1, 7, .inl (fun _ => 0))), (f1 5, .inr (4, [.ref (f1 6), .ref (f1 7), .int 0])), (f1 6, .inl (g.1, 700, .inl (fun _ => 0))), (f1 7, .inl (g.1, 64, .inl (fun _ => 0))), (f1 8, .inr (4, [.ref (f1 9), .ref (f1 10), .int 0])), (f1 9, .inl (g.1, 700, .inl (fun _ => 0))), (f1 10, .inl (g.1, 64, .inl (fun _ => 0))), (f1 11, .inl (g.1, 64, .inl (fun _ => 0))), (a2, .inl (g.1, 10, .inl (fun _ => 0)))] := I
  refine lv_aload_n X.1 X.2.1 dX8_init_23 rfl (lv_at hl 0 rfl) ?_
  refine lv_bipush (v := 8) X.1 X.2.1 dX8_init_24 (by decide) ?_
  refine n_arr (at0 := .int) (ty := .int) (N := 8) (a0 := (8, .inl (fun _ => 0))) X I (t0 := 0) rfl rfl (fun _ h => h) nw_3 (fun _ => rfl) (by decide) (by decide) (Nat.le_of_ble_eq_true rfl) (Nat.le_of_ble_eq_true rfl) (Nat.le_of_ble_eq_true rfl) dX8_init_26 (fun a3 H I => ?_)
  have I : LI D (TYg g) A s _ _ [(q, .inr (8, [.ref (f1 0), .ref a2, .null, .null, .int 0])), (f1 0, .inr (2, [.int 0, .int 0, .int 40, .ref (f1 1), .ref (f1 2), .ref (f1 3), .ref (f1 4), .ref (f1 5), .ref (f1 8), .ref (f1 11)])), (f1 1, .inl (g.1, 8, .inl (fun _ => 0))), (f1 2, .inl (g.1, 8, .inl (fun _ => 0))), (f1 3, .inl (g.1, 7, .inl (fun _ => 0))), (f1 4, .inl (g.1, 7, .inl (fun _ => 0))), (f1 5, .inr (4, [.ref (f1 6), .ref (f1 7), .int 0])), (f1 6, .inl (g.1, 700, .inl (fun _ => 0))), (f1 7, .inl (g.1, 64, .inl (fun _ => 0))), (f1 8, .inr (4, [.ref (f1 9), .ref (f1 10), .int 0])), (f1 9, .inl (g.1, 700, .inl (fun _ => 0))), (f1 10, .inl (g.1, 64, .inl (fun _ => 0))), (f1 11, .inl (g.1, 64, .inl (fun _ => 0))), (a2, .inl (g.1, 10, .inl (fun _ => 0))), (a3, .inl (g.1, 8, .inl (fun _ => 0)))] := I
  refine n_putF X hmn I (q0 := 0) (ci := 8) rfl rfl inGX8 tyX8 tyX8_ok nmX8 2 (by decide) nw_108 rfl rfl rfl rfl (Nat.le_of_ble_eq_true rfl) dX8_init_28 (fun H _ I => ?_)
  have I : LI D (TYg g) A s _ _ [(q, .inr (8, [.ref (f1 0), .ref a2, .ref a3, .null, .int 0])), (f1 0, .inr (2, [.int 0, .int 0, .int 40, .ref (f1 1), .ref (f1 2), .ref (f1 3), .ref (f1 4), .ref (f1 5), .ref (f1 8), .ref (f1 11)])), (f1 1, .inl (g.1, 8, .inl (fun _ => 0))), (f1 2, .inl (g.1, 8, .inl (fun _ => 0))), (f1 3, .inl (g.1, 7, .inl (fun _ => 0))), (f1 4, .inl (g.1, 7, .inl (fun _ => 0))), (f1 5, .inr (4, [.ref (f1 6), .ref (f1 7), .int 0])), (f1 6, .inl (g.1, 700, .inl (fun _ => 0))), (f1 7, .inl (g.1, 64, .inl (fun _ => 0))), (f1 8, .inr (4, [.ref (f1 9), .ref (f1 10), .int 0])), (f1 9, .inl (g.1, 700, .inl (fun _ => 0))), (f1 10, .inl (g.1, 64, .inl (fun _ => 0))), (f1 11, .inl (g.1, 64, .inl (fun _ => 0))), (a2, .inl (g.1, 10, .inl (fun _ => 0))), (a3, .inl (g.1, 8, .inl (fun _ => 0)))] := I
  refine lv_aload_n X.1 X.2.1 dX8_init_31 rfl (lv_at hl 0 rfl) ?_
  refine lv_bipush (v := 7) X.1 X.2.1 dX8_init_32 (by decide) ?_
  refine n_arr (at0 := .int) (ty := .int) (N := 7) (a0 := (7, .inl (fun _ => 0))) X I (t0 := 0) rfl rfl (fun _ h => h) nw_3 (fun _ => rfl) (by decide) (by decide) (Nat.le_of_ble_eq_true rfl) (Nat.le_of_ble_eq_true rfl) (Nat.le_of_ble_eq_true rfl) dX8_init_34 (fun a4 H I => ?_)
  have I : LI D (TYg g) A s _ _ [(q, .inr (8, [.ref (f1 0), .ref a2, .ref a3, .null, .int 0])), (f1 0, .inr (2, [.int 0, .int 0, .int 40, .ref (f1 1), .ref (f1 2), .ref (f1 3), .ref (f1 4), .ref (f1 5), .ref (f1 8), .ref (f1 11)])), (f1 1, .inl (g.1, 8, .inl (fun _ => 0))), (f1 2, .inl (g.1, 8, .inl (fun _ => 0))), (f1 3, .inl (g.1, 7, .inl (fun _ => 0))), (f1 4, .inl (g.1, 7, .inl (fun _ => 0))), (f1 5, .inr (4, [.ref (f1 6), .ref (f1 7), .int 0])), (f1 6, .inl (g.1, 700, .inl (fun _ => 0))), (f1 7, .inl (g.1, 64, .inl (fun _ => 0))), (f1 8, .inr (4, [.ref (f1 9), .ref (f1 10), .int 0])), (f1 9, .inl (g.1, 700, .inl (fun _ => 0))), (f1 10, .inl (g.1, 64, .inl (fun _ => 0))), (f1 11, .inl (g.1, 64, .inl (fun _ => 0))), (a2, .inl (g.1, 10, .inl (fun _ => 0))), (a3, .inl (g.1, 8, .inl (fun _ => 0))), (a4, .inl (g.1, 7, .inl (fun _ => 0)))] := I
  refine n_putF X hmn I (q0 := 0) (ci := 8) rfl rfl inGX8 tyX8 tyX8_ok nmX8 3 (by decide) nw_109 rfl rfl rfl rfl (Nat.le_of_ble_eq_true rfl) dX8_init_36 (fun H _ I => ?_)
  have I : LI D (TYg g) A s _ _ [(q, .inr (8, [.ref (f1 0), .ref a2, .ref a3, .ref a4, .int 0])), (f1 0, .inr (2, [.int 0, .int 0, .int 40, .ref (f1 1), .ref (f1 2), .ref (f1 3), .ref (f1 4), .ref (f1 5), .ref (f1 8), .ref (f1 11)])), (f1 1, .inl (g.1, 8, .inl (fun _ => 0))), (f1 2, .inl (g.1, 8, .inl (fun _ => 0))), (f1 3, .inl (g.1, 7, .inl (fun _ => 0))), (f1 4, .inl (g.1, 7, .inl (fun _ => 0))), (f1 5, .inr (4, [.ref (f1 6), .ref (f1 7), .int 0])), (f1 6, .inl (g.1, 700, .inl (fun _ => 0))), (f1 7, .inl (g.1, 64, .inl (fun _ => 0))), (f1 8, .inr (4, [.ref (f1 9), .ref (f1 10), .int 0])), (f1 9, .inl (g.1, 700, .inl (fun _ => 0))), (f1 10, .inl (g.1, 64, .inl (fun _ => 0))), (f1 11, .inl (g.1, 64, .inl (fun _ => 0))), (a2, .inl (g.1, 10, .inl (fun _ => 0))), (a3, .inl (g.1, 8, .inl (fun _ => 0))), (a4, .inl (g.1, 7, .inl (fun _ => 0)))] := I
  refine lv_aload_n X.1 X.2.1 dX8_init_39 rfl (lv_at hl 0 rfl) ?_
  refine lv_iconst (v := 0) X.1 X.2.1 dX8_init_40 (by decide) ?_
  refine n_put X I (q0 := 0) (ci := 8) rfl rfl inGX8 tyX8 tyX8_ok nmX8 4 (by decide) nw_110 rfl rfl rfl (Nat.le_of_ble_eq_true rfl) dX8_init_41 (fun H _ I => ?_)
  have I : LI D (TYg g) A s _ _ [(q, .inr (8, [.ref (f1 0), .ref a2, .ref a3, .ref a4, .int 0])), (f1 0, .inr (2, [.int 0, .int 0, .int 40, .ref (f1 1), .ref (f1 2), .ref (f1 3), .ref (f1 4), .ref (f1 5), .ref (f1 8), .ref (f1 11)])), (f1 1, .inl (g.1, 8, .inl (fun _ => 0))), (f1 2, .inl (g.1, 8, .inl (fun _ => 0))), (f1 3, .inl (g.1, 7, .inl (fun _ => 0))), (f1 4, .inl (g.1, 7, .inl (fun _ => 0))), (f1 5, .inr (4, [.ref (f1 6), .ref (f1 7), .int 0])), (f1 6, .inl (g.1, 700, .inl (fun _ => 0))), (f1 7, .inl (g.1, 64, .inl (fun _ => 0))), (f1 8, .inr (4, [.ref (f1 9), .ref (f1 10), .int 0])), (f1 9, .inl (g.1, 700, .inl (fun _ => 0))), (f1 10, .inl (g.1, 64, .inl (fun _ => 0))), (f1 11, .inl (g.1, 64, .inl (fun _ => 0))), (a2, .inl (g.1, 10, .inl (fun _ => 0))), (a3, .inl (g.1, 8, .inl (fun _ => 0))), (a4, .inl (g.1, 7, .inl (fun _ => 0)))] := I
  exact n_ret X I (w1 := w_X8 g) (fun k => ([q, f1 0, f1 1, f1 2, f1 3, f1 4, f1 5, f1 6, f1 7, f1 8, f1 9, f1 10, f1 11, a2, a3, a4] : List Nat).getD k 0) rfl [0, 1, 2, 3, 4, 5, 6, 7, 8, 9, 10, 11, 12, 13, 14, 15] rfl rfl (by decide) dX8_init_44
