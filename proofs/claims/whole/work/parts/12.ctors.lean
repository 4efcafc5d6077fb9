theorem good_code {y : MethodName} {b : ByteArray} {n : Nat} {r : Option FieldType} (h : Cond.code y b n r ∈ WS) : GoodIn WS (Cond.code y b n r :: WS) := fun w hw => by
  have hm : w ∈ WS := (List.mem_cons.mp hw).elim (fun e => e ▸ h) id
  exact ⟨hm, WS_good w hm⟩
theorem wn_1 : Cond.methodLink RX4 1 Lib.objectInit ∈ WS := inT1 187 (by decide +kernel) (by decide +kernel)
theorem wn_2 : Cond.instanceMethod Lib.objectInit ∈ WS := inT1 23 (by decide +kernel) (by decide +kernel)
theorem wn_3 : Cond.code Lib.objectInit ⟨#[0xb1]⟩ 1 none ∈ WS := inT1 24 rfl (by decide +kernel)
theorem wn_4 : Cond.arrayClass .long ∈ WS := inT1 213 (by decide +kernel) (by decide +kernel)
theorem wn_5 : Cond.fieldLink RX4 7 "WellMap$Outline" "x" "[J" ∈ WS := inT1 191 (by decide +kernel) (by decide +kernel)
theorem wn_6 : Cond.fieldLink RX4 13 "WellMap$Outline" "y" "[J" ∈ WS := inT1 194 (by decide +kernel) (by decide +kernel)
theorem wn_7 : Cond.fieldLink RX4 16 "WellMap$Outline" "d" "[J" ∈ WS := inT1 197 (by decide +kernel) (by decide +kernel)
theorem wn_8 : Cond.arrayClass .int ∈ WS := inT1 115 (by decide +kernel) (by decide +kernel)
theorem wn_9 : Cond.fieldLink RX4 19 "WellMap$Outline" "edge" "[I" ∈ WS := inT1 200 (by decide +kernel) (by decide +kernel)
theorem wn_10 : Cond.methodLink RX9 3 Lib.objectInit ∈ WS := inT1 30 (by decide +kernel) (by decide +kernel)
theorem wn_11 : Cond.fieldLink RX9 9 "WellMap$Wells" "wide" "I" ∈ WS := inT1 34 (by decide +kernel) (by decide +kernel)
theorem wn_12 : Cond.fieldLink RX9 15 "WellMap$Wells" "high" "I" ∈ WS := inT1 39 (by decide +kernel) (by decide +kernel)
theorem wn_13 : Cond.fieldLink RX9 18 "WellMap$Wells" "counted" "[I" ∈ WS := inT1 56 (by decide +kernel) (by decide +kernel)
theorem wn_14 : Cond.fieldLink RX9 22 "WellMap$Wells" "x" "[I" ∈ WS := inT1 70 (by decide +kernel) (by decide +kernel)
theorem wn_15 : Cond.fieldLink RX9 25 "WellMap$Wells" "y" "[I" ∈ WS := inT1 78 (by decide +kernel) (by decide +kernel)
theorem wn_16 : Cond.fieldLink RX9 28 "WellMap$Wells" "kind" "[I" ∈ WS := inT1 86 (by decide +kernel) (by decide +kernel)
theorem wn_17 : Cond.fieldLink RX9 31 "WellMap$Wells" "number" "[I" ∈ WS := inT1 89 (by decide +kernel) (by decide +kernel)
theorem wn_18 : Cond.methodLink RX9 34 yJ7_fill_53178 ∈ WS := inT1 31 (by decide +kernel) (by decide +kernel)
theorem wn_19 : Cond.static yJ7_fill_53178 ∈ WS := inT1 32 (by decide +kernel) (by decide +kernel)
theorem wn_20 : Cond.initialized RJ7 ∈ WS := inT1 3 (by decide +kernel) (by decide +kernel)
theorem wn_21 : Cond.code yJ7_fill_53178 cJ7_fill_53178 4 none ∈ WS := inT1 33 rfl (by decide +kernel)
theorem wn_22 : Cond.methodLink RX5 3 Lib.objectInit ∈ WS := inT1 121 (by decide +kernel) (by decide +kernel)
theorem wn_23 : Cond.fieldLink RX5 9 "WellMap$Past" "wide" "[I" ∈ WS := inT1 125 (by decide +kernel) (by decide +kernel)
theorem wn_24 : Cond.fieldLink RX5 15 "WellMap$Past" "high" "[I" ∈ WS := inT1 126 (by decide +kernel) (by decide +kernel)
theorem wn_25 : Cond.fieldLink RX5 18 "WellMap$Past" "x" "[I" ∈ WS := inT1 127 (by decide +kernel) (by decide +kernel)
theorem wn_26 : Cond.fieldLink RX5 21 "WellMap$Past" "y" "[I" ∈ WS := inT1 128 (by decide +kernel) (by decide +kernel)
theorem wn_27 : Cond.fieldLink RX5 24 "WellMap$Past" "kind" "[I" ∈ WS := inT1 129 (by decide +kernel) (by decide +kernel)
theorem wn_28 : Cond.fieldLink RX5 27 "WellMap$Past" "number" "[I" ∈ WS := inT1 130 (by decide +kernel) (by decide +kernel)
theorem wn_29 : Cond.methodLink RX7 3 Lib.objectInit ∈ WS := inT1 153 (by decide +kernel) (by decide +kernel)
theorem wn_30 : Cond.fieldLink RX7 9 "WellMap$Sheets" "length" "[I" ∈ WS := inT1 155 (by decide +kernel) (by decide +kernel)
theorem wn_31 : Cond.fieldLink RX7 15 "WellMap$Sheets" "x" "[I" ∈ WS := inT1 157 (by decide +kernel) (by decide +kernel)
theorem wn_32 : Cond.fieldLink RX7 18 "WellMap$Sheets" "y" "[I" ∈ WS := inT1 159 (by decide +kernel) (by decide +kernel)
theorem wn_33 : Cond.fieldLink RX7 21 "WellMap$Sheets" "kind" "[I" ∈ WS := inT1 161 (by decide +kernel) (by decide +kernel)
theorem wn_34 : Cond.fieldLink RX7 24 "WellMap$Sheets" "number" "[I" ∈ WS := inT1 163 (by decide +kernel) (by decide +kernel)
theorem wn_35 : Cond.methodLink RX7 27 yJ7_fill_53178 ∈ WS := inT1 154 (by decide +kernel) (by decide +kernel)
theorem wn_36 : Cond.methodLink RX1 3 Lib.objectInit ∈ WS := inT1 181 (by decide +kernel) (by decide +kernel)
theorem wn_37 : Cond.fieldLink RX1 9 "WellMap$Ground" "wells" "LWellMap$Wells;" ∈ WS := inT1 214 (by decide +kernel) (by decide +kernel)
theorem wn_38 : Cond.fieldLink RX1 15 "WellMap$Ground" "a" "[J" ∈ WS := inT1 215 (by decide +kernel) (by decide +kernel)
theorem wn_39 : Cond.fieldLink RX1 19 "WellMap$Ground" "b" "[J" ∈ WS := inT1 216 (by decide +kernel) (by decide +kernel)
theorem wn_40 : Cond.fieldLink RX1 22 "WellMap$Ground" "c" "[J" ∈ WS := inT1 217 (by decide +kernel) (by decide +kernel)
theorem wn_41 : Cond.classLink RX1 25 RX4 ∈ WS := inT1 182 (by decide +kernel) (by decide +kernel)
theorem wn_42 : Cond.instantiable RX4 5 ∈ WS := inT1 183 (by decide +kernel) (by decide +kernel)
theorem wn_43 : Cond.initialized RX4 ∈ WS := inT1 7 (by decide +kernel) (by decide +kernel)
theorem wn_44 : Cond.code yX4_init cX4_init 2 none ∈ WS := inT1 186 rfl (by decide +kernel)
theorem wn_45 : Cond.methodLink RX1 27 yX4_init ∈ WS := inT1 184 (by decide +kernel) (by decide +kernel)
theorem wn_46 : Cond.instanceMethod yX4_init ∈ WS := inT1 185 (by decide +kernel) (by decide +kernel)
theorem wn_47 : Cond.fieldLink RX1 30 "WellMap$Ground" "now" "LWellMap$Outline;" ∈ WS := inT1 218 (by decide +kernel) (by decide +kernel)
theorem wn_48 : Cond.fieldLink RX1 34 "WellMap$Ground" "spare" "LWellMap$Outline;" ∈ WS := inT1 219 (by decide +kernel) (by decide +kernel)
theorem wn_49 : Cond.fieldLink RX1 37 "WellMap$Ground" "inside" "[J" ∈ WS := inT1 220 (by decide +kernel) (by decide +kernel)
theorem wn_50 : Cond.fieldLink RX1 40 "WellMap$Ground" "drawnVersion" "I" ∈ WS := inT1 223 (by decide +kernel) (by decide +kernel)
theorem wn_51 : Cond.methodLink RX6 3 Lib.objectInit ∈ WS := inT2 10 (by decide +kernel) (by decide +kernel)
theorem wn_52 : Cond.fieldLink RX6 9 "WellMap$Rounds" "wells" "LWellMap$Wells;" ∈ WS := inT2 11 (by decide +kernel) (by decide +kernel)
theorem wn_53 : Cond.fieldLink RX6 15 "WellMap$Rounds" "foundVersion" "I" ∈ WS := inT2 12 (by decide +kernel) (by decide +kernel)
theorem wn_54 : Cond.fieldLink RX6 19 "WellMap$Rounds" "members" "[I" ∈ WS := inT2 15 (by decide +kernel) (by decide +kernel)
theorem wn_55 : Cond.fieldLink RX6 23 "WellMap$Rounds" "firstWell" "[I" ∈ WS := inT2 17 (by decide +kernel) (by decide +kernel)
theorem wn_56 : Cond.fieldLink RX6 26 "WellMap$Rounds" "across" "[J" ∈ WS := inT2 18 (by decide +kernel) (by decide +kernel)
theorem wn_57 : Cond.fieldLink RX6 30 "WellMap$Rounds" "up" "[J" ∈ WS := inT2 19 (by decide +kernel) (by decide +kernel)
theorem wn_58 : Cond.fieldLink RX6 33 "WellMap$Rounds" "d" "[J" ∈ WS := inT2 20 (by decide +kernel) (by decide +kernel)
theorem wn_59 : Cond.methodLink RX0 3 Lib.objectInit ∈ WS := inT2 52 (by decide +kernel) (by decide +kernel)
theorem wn_60 : Cond.fieldLink RX0 9 "WellMap$DryRound" "wells" "LWellMap$Wells;" ∈ WS := inT2 57 (by decide +kernel) (by decide +kernel)
theorem wn_61 : Cond.classLink RX0 15 RX1 ∈ WS := inT2 53 (by decide +kernel) (by decide +kernel)
theorem wn_62 : Cond.instantiable RX1 10 ∈ WS := inT1 177 (by decide +kernel) (by decide +kernel)
theorem wn_63 : Cond.initialized RX1 ∈ WS := inT1 6 (by decide +kernel) (by decide +kernel)
theorem wn_64 : Cond.code yX1_init cX1_init 2 none ∈ WS := inT1 180 rfl (by decide +kernel)
theorem wn_65 : Cond.methodLink RX0 17 yX1_init ∈ WS := inT2 54 (by decide +kernel) (by decide +kernel)
theorem wn_66 : Cond.instanceMethod yX1_init ∈ WS := inT1 179 (by decide +kernel) (by decide +kernel)
theorem wn_67 : Cond.fieldLink RX0 20 "WellMap$DryRound" "ground" "LWellMap$Ground;" ∈ WS := inT2 58 (by decide +kernel) (by decide +kernel)
theorem wn_68 : Cond.classLink RX0 24 RX4 ∈ WS := inT2 55 (by decide +kernel) (by decide +kernel)
theorem wn_69 : Cond.methodLink RX0 26 yX4_init ∈ WS := inT2 56 (by decide +kernel) (by decide +kernel)
theorem wn_70 : Cond.fieldLink RX0 29 "WellMap$DryRound" "best" "LWellMap$Outline;" ∈ WS := inT2 61 (by decide +kernel) (by decide +kernel)
theorem wn_71 : Cond.fieldLink RX0 33 "WellMap$DryRound" "foundVersion" "I" ∈ WS := inT2 59 (by decide +kernel) (by decide +kernel)
theorem wn_72 : Cond.methodLink RX3 3 Lib.objectInit ∈ WS := inT2 84 (by decide +kernel) (by decide +kernel)
theorem wn_73 : Cond.fieldLink RX3 9 "WellMap$Net" "wells" "LWellMap$Wells;" ∈ WS := inT2 85 (by decide +kernel) (by decide +kernel)
theorem wn_74 : Cond.fieldLink RX3 15 "WellMap$Net" "joinedVersion" "I" ∈ WS := inT2 86 (by decide +kernel) (by decide +kernel)
theorem wn_75 : Cond.fieldLink RX3 19 "WellMap$Net" "pipes" "[J" ∈ WS := inT2 89 (by decide +kernel) (by decide +kernel)
theorem wn_76 : Cond.fieldLink RX3 23 "WellMap$Net" "reach" "[J" ∈ WS := inT2 90 (by decide +kernel) (by decide +kernel)
theorem wn_77 : Cond.methodLink RX2 3 Lib.objectInit ∈ WS := inT2 107 (by decide +kernel) (by decide +kernel)
theorem wn_78 : Cond.fieldLink RX2 9 "WellMap$Hull" "wells" "LWellMap$Wells;" ∈ WS := inT2 108 (by decide +kernel) (by decide +kernel)
theorem wn_79 : Cond.fieldLink RX2 15 "WellMap$Hull" "wrappedVersion" "I" ∈ WS := inT2 109 (by decide +kernel) (by decide +kernel)
theorem wn_80 : Cond.fieldLink RX2 19 "WellMap$Hull" "turns" "[I" ∈ WS := inT2 112 (by decide +kernel) (by decide +kernel)
theorem wn_81 : Cond.methodLink RX8 3 Lib.objectInit ∈ WS := inT2 128 (by decide +kernel) (by decide +kernel)
theorem wn_82 : Cond.fieldLink RX8 9 "WellMap$Ways" "wells" "LWellMap$Wells;" ∈ WS := inT2 129 (by decide +kernel) (by decide +kernel)
theorem wn_83 : Cond.fieldLink RX8 15 "WellMap$Ways" "gap" "[J" ∈ WS := inT2 130 (by decide +kernel) (by decide +kernel)
theorem wn_84 : Cond.methodLink RX10 1 Lib.objectInit ∈ WS := inT1 22 (by decide +kernel) (by decide +kernel)
theorem wn_85 : Cond.classLink RX10 7 RX9 ∈ WS := inT1 25 (by decide +kernel) (by decide +kernel)
theorem wn_86 : Cond.instantiable RX9 11 ∈ WS := inT1 26 (by decide +kernel) (by decide +kernel)
theorem wn_87 : Cond.initialized RX9 ∈ WS := inT1 2 (by decide +kernel) (by decide +kernel)
theorem wn_88 : Cond.code yX9_init cX9_init 1 none ∈ WS := inT1 29 rfl (by decide +kernel)
theorem wn_89 : Cond.methodLink RX10 9 yX9_init ∈ WS := inT1 27 (by decide +kernel) (by decide +kernel)
theorem wn_90 : Cond.instanceMethod yX9_init ∈ WS := inT1 28 (by decide +kernel) (by decide +kernel)
theorem wn_91 : Cond.fieldLink RX10 10 "WellMap" "wells" "LWellMap$Wells;" ∈ WS := inT2 136 (by decide +kernel) (by decide +kernel)
theorem wn_92 : Cond.classLink RX10 16 RX5 ∈ WS := inT1 116 (by decide +kernel) (by decide +kernel)
theorem wn_93 : Cond.instantiable RX5 8 ∈ WS := inT1 117 (by decide +kernel) (by decide +kernel)
theorem wn_94 : Cond.initialized RX5 ∈ WS := inT1 4 (by decide +kernel) (by decide +kernel)
theorem wn_95 : Cond.code yX5_init cX5_init 1 none ∈ WS := inT1 120 rfl (by decide +kernel)
theorem wn_96 : Cond.methodLink RX10 18 yX5_init ∈ WS := inT1 118 (by decide +kernel) (by decide +kernel)
theorem wn_97 : Cond.instanceMethod yX5_init ∈ WS := inT1 119 (by decide +kernel) (by decide +kernel)
theorem wn_98 : Cond.fieldLink RX10 19 "WellMap" "past" "LWellMap$Past;" ∈ WS := inT2 137 (by decide +kernel) (by decide +kernel)
theorem wn_99 : Cond.classLink RX10 23 RX7 ∈ WS := inT1 148 (by decide +kernel) (by decide +kernel)
theorem wn_100 : Cond.instantiable RX7 5 ∈ WS := inT1 149 (by decide +kernel) (by decide +kernel)
theorem wn_101 : Cond.initialized RX7 ∈ WS := inT1 5 (by decide +kernel) (by decide +kernel)
theorem wn_102 : Cond.code yX7_init cX7_init 1 none ∈ WS := inT1 152 rfl (by decide +kernel)
theorem wn_103 : Cond.methodLink RX10 25 yX7_init ∈ WS := inT1 150 (by decide +kernel) (by decide +kernel)
theorem wn_104 : Cond.instanceMethod yX7_init ∈ WS := inT1 151 (by decide +kernel) (by decide +kernel)
theorem wn_105 : Cond.fieldLink RX10 26 "WellMap" "sheets" "LWellMap$Sheets;" ∈ WS := inT2 138 (by decide +kernel) (by decide +kernel)
theorem wn_106 : Cond.classLink RX10 30 RX1 ∈ WS := inT1 176 (by decide +kernel) (by decide +kernel)
theorem wn_107 : Cond.methodLink RX10 32 yX1_init ∈ WS := inT1 178 (by decide +kernel) (by decide +kernel)
theorem wn_108 : Cond.fieldLink RX10 35 "WellMap" "ground" "LWellMap$Ground;" ∈ WS := inT2 139 (by decide +kernel) (by decide +kernel)
theorem wn_109 : Cond.classLink RX10 39 RX6 ∈ WS := inT2 5 (by decide +kernel) (by decide +kernel)
theorem wn_110 : Cond.instantiable RX6 11 ∈ WS := inT2 6 (by decide +kernel) (by decide +kernel)
theorem wn_111 : Cond.initialized RX6 ∈ WS := inT1 8 (by decide +kernel) (by decide +kernel)
theorem wn_112 : Cond.code yX6_init cX6_init 2 none ∈ WS := inT2 9 rfl (by decide +kernel)
theorem wn_113 : Cond.methodLink RX10 41 yX6_init ∈ WS := inT2 7 (by decide +kernel) (by decide +kernel)
theorem wn_114 : Cond.instanceMethod yX6_init ∈ WS := inT2 8 (by decide +kernel) (by decide +kernel)
theorem wn_115 : Cond.fieldLink RX10 42 "WellMap" "rounds" "LWellMap$Rounds;" ∈ WS := inT2 140 (by decide +kernel) (by decide +kernel)
theorem wn_116 : Cond.classLink RX10 46 RX0 ∈ WS := inT2 47 (by decide +kernel) (by decide +kernel)
theorem wn_117 : Cond.instantiable RX0 7 ∈ WS := inT2 48 (by decide +kernel) (by decide +kernel)
theorem wn_118 : Cond.initialized RX0 ∈ WS := inT1 9 (by decide +kernel) (by decide +kernel)
theorem wn_119 : Cond.code yX0_init cX0_init 2 none ∈ WS := inT2 51 rfl (by decide +kernel)
theorem wn_120 : Cond.methodLink RX10 48 yX0_init ∈ WS := inT2 49 (by decide +kernel) (by decide +kernel)
theorem wn_121 : Cond.instanceMethod yX0_init ∈ WS := inT2 50 (by decide +kernel) (by decide +kernel)
theorem wn_122 : Cond.fieldLink RX10 49 "WellMap" "dry" "LWellMap$DryRound;" ∈ WS := inT2 141 (by decide +kernel) (by decide +kernel)
theorem wn_123 : Cond.classLink RX10 53 RX3 ∈ WS := inT2 79 (by decide +kernel) (by decide +kernel)
theorem wn_124 : Cond.instantiable RX3 5 ∈ WS := inT2 80 (by decide +kernel) (by decide +kernel)
theorem wn_125 : Cond.initialized RX3 ∈ WS := inT1 10 (by decide +kernel) (by decide +kernel)
theorem wn_126 : Cond.code yX3_init cX3_init 2 none ∈ WS := inT2 83 rfl (by decide +kernel)
theorem wn_127 : Cond.methodLink RX10 55 yX3_init ∈ WS := inT2 81 (by decide +kernel) (by decide +kernel)
theorem wn_128 : Cond.instanceMethod yX3_init ∈ WS := inT2 82 (by decide +kernel) (by decide +kernel)
theorem wn_129 : Cond.fieldLink RX10 56 "WellMap" "net" "LWellMap$Net;" ∈ WS := inT2 142 (by decide +kernel) (by decide +kernel)
theorem wn_130 : Cond.classLink RX10 60 RX2 ∈ WS := inT2 102 (by decide +kernel) (by decide +kernel)
theorem wn_131 : Cond.instantiable RX2 4 ∈ WS := inT2 103 (by decide +kernel) (by decide +kernel)
theorem wn_132 : Cond.initialized RX2 ∈ WS := inT1 11 (by decide +kernel) (by decide +kernel)
theorem wn_133 : Cond.code yX2_init cX2_init 2 none ∈ WS := inT2 106 rfl (by decide +kernel)
theorem wn_134 : Cond.methodLink RX10 62 yX2_init ∈ WS := inT2 104 (by decide +kernel) (by decide +kernel)
theorem wn_135 : Cond.instanceMethod yX2_init ∈ WS := inT2 105 (by decide +kernel) (by decide +kernel)
theorem wn_136 : Cond.fieldLink RX10 63 "WellMap" "outer" "LWellMap$Hull;" ∈ WS := inT2 143 (by decide +kernel) (by decide +kernel)
theorem wn_137 : Cond.classLink RX10 67 RX8 ∈ WS := inT2 123 (by decide +kernel) (by decide +kernel)
theorem wn_138 : Cond.instantiable RX8 2 ∈ WS := inT2 124 (by decide +kernel) (by decide +kernel)
theorem wn_139 : Cond.initialized RX8 ∈ WS := inT1 12 (by decide +kernel) (by decide +kernel)
theorem wn_140 : Cond.code yX8_init cX8_init 2 none ∈ WS := inT2 127 rfl (by decide +kernel)
theorem wn_141 : Cond.methodLink RX10 69 yX8_init ∈ WS := inT2 125 (by decide +kernel) (by decide +kernel)
theorem wn_142 : Cond.instanceMethod yX8_init ∈ WS := inT2 126 (by decide +kernel) (by decide +kernel)
theorem wn_143 : Cond.fieldLink RX10 70 "WellMap" "ways" "LWellMap$Ways;" ∈ WS := inT2 144 (by decide +kernel) (by decide +kernel)
theorem wn_144 : Cond.fieldLink RX10 74 "WellMap" "costs" "[J" ∈ WS := inT2 145 (by decide +kernel) (by decide +kernel)
theorem wn_145 : Cond.methodLink RX11 1 Lib.objectInit ∈ WS := inT4 190 (by decide +kernel) (by decide +kernel)
theorem wn_146 : Cond.fieldLink RX11 7 "WellMapModel" "wide" "I" ∈ WS := inT4 191 (by decide +kernel) (by decide +kernel)
theorem wn_147 : Cond.fieldLink RX11 13 "WellMapModel" "high" "I" ∈ WS := inT4 192 (by decide +kernel) (by decide +kernel)
theorem wn_148 : Cond.arrayClass .boolean ∈ WS := inT5 120 (by decide +kernel) (by decide +kernel)
theorem wn_149 : Cond.fieldLink RX11 16 "WellMapModel" "isThere" "[Z" ∈ WS := inT4 194 (by decide +kernel) (by decide +kernel)
theorem wn_150 : Cond.fieldLink RX11 20 "WellMapModel" "wellX" "[I" ∈ WS := inT4 195 (by decide +kernel) (by decide +kernel)
theorem wn_151 : Cond.fieldLink RX11 24 "WellMapModel" "wellY" "[I" ∈ WS := inT4 196 (by decide +kernel) (by decide +kernel)
theorem wn_152 : Cond.fieldLink RX11 27 "WellMapModel" "kind" "[I" ∈ WS := inT4 197 (by decide +kernel) (by decide +kernel)
theorem wn_153 : Cond.fieldLink RX11 30 "WellMapModel" "number" "[I" ∈ WS := inT4 198 (by decide +kernel) (by decide +kernel)
theorem wn_154 : Cond.fieldLink RX11 33 "WellMapModel" "wasThere" "[Z" ∈ WS := inT4 200 (by decide +kernel) (by decide +kernel)
theorem wn_155 : Cond.fieldLink RX11 36 "WellMapModel" "wasX" "[I" ∈ WS := inT4 201 (by decide +kernel) (by decide +kernel)
theorem wn_156 : Cond.fieldLink RX11 39 "WellMapModel" "wasY" "[I" ∈ WS := inT4 202 (by decide +kernel) (by decide +kernel)
theorem wn_157 : Cond.fieldLink RX11 42 "WellMapModel" "wasKind" "[I" ∈ WS := inT4 203 (by decide +kernel) (by decide +kernel)
theorem wn_158 : Cond.fieldLink RX11 45 "WellMapModel" "wasNumber" "[I" ∈ WS := inT4 204 (by decide +kernel) (by decide +kernel)
theorem wn_159 : Cond.fieldLink RX11 48 "WellMapModel" "wasWide" "[I" ∈ WS := inT4 205 (by decide +kernel) (by decide +kernel)
theorem wn_160 : Cond.fieldLink RX11 51 "WellMapModel" "wasHigh" "[I" ∈ WS := inT4 206 (by decide +kernel) (by decide +kernel)
theorem wn_161 : Cond.fieldLink RX11 54 "WellMapModel" "lineA" "[J" ∈ WS := inT4 208 (by decide +kernel) (by decide +kernel)
theorem wn_162 : Cond.fieldLink RX11 58 "WellMapModel" "lineB" "[J" ∈ WS := inT4 209 (by decide +kernel) (by decide +kernel)
theorem wn_163 : Cond.fieldLink RX11 61 "WellMapModel" "lineC" "[J" ∈ WS := inT4 210 (by decide +kernel) (by decide +kernel)
theorem wn_164 : Cond.fieldLink RX11 64 "WellMapModel" "pointX" "[J" ∈ WS := inT4 212 (by decide +kernel) (by decide +kernel)
theorem wn_165 : Cond.fieldLink RX11 67 "WellMapModel" "pointY" "[J" ∈ WS := inT4 213 (by decide +kernel) (by decide +kernel)
theorem wn_166 : Cond.fieldLink RX11 70 "WellMapModel" "pointD" "[J" ∈ WS := inT4 214 (by decide +kernel) (by decide +kernel)
theorem wn_167 : Cond.fieldLink RX11 73 "WellMapModel" "behind" "[I" ∈ WS := inT4 215 (by decide +kernel) (by decide +kernel)
theorem wn_168 : Cond.fieldLink RX11 76 "WellMapModel" "corner" "[I" ∈ WS := inT4 217 (by decide +kernel) (by decide +kernel)
theorem wn_169 : Cond.fieldLink RX11 79 "WellMapModel" "ring" "[I" ∈ WS := inT4 221 (by decide +kernel) (by decide +kernel)
theorem wn_170 : Cond.fieldLink RX11 82 "WellMapModel" "ringU" "[I" ∈ WS := inT4 222 (by decide +kernel) (by decide +kernel)
theorem wn_171 : Cond.fieldLink RX11 85 "WellMapModel" "ringV" "[I" ∈ WS := inT4 223 (by decide +kernel) (by decide +kernel)
theorem wn_172 : Cond.fieldLink RX11 88 "WellMapModel" "ringW" "[I" ∈ WS := inT4 224 (by decide +kernel) (by decide +kernel)
theorem wn_173 : Cond.fieldLink RX11 91 "WellMapModel" "pipeV" "[I" ∈ WS := inT4 237 (by decide +kernel) (by decide +kernel)
theorem wn_174 : Cond.fieldLink RX11 94 "WellMapModel" "pipeW" "[I" ∈ WS := inT4 238 (by decide +kernel) (by decide +kernel)
theorem wn_175 : Cond.fieldLink RX11 97 "WellMapModel" "piece" "[I" ∈ WS := inT4 239 (by decide +kernel) (by decide +kernel)
theorem wn_176 : Cond.fieldLink RX11 100 "WellMapModel" "hullOf" "[I" ∈ WS := inT5 1 (by decide +kernel) (by decide +kernel)
theorem wn_177 : Cond.fieldLink RX11 103 "WellMapModel" "reach" "[J" ∈ WS := inT5 2 (by decide +kernel) (by decide +kernel)
theorem wn_178 : Cond.fieldLink RX11 106 "WellMapModel" "isDone" "[Z" ∈ WS := inT5 3 (by decide +kernel) (by decide +kernel)
theorem wn_179 : Cond.fieldLink RX11 109 "WellMapModel" "sheetMany" "[I" ∈ WS := inT5 4 (by decide +kernel) (by decide +kernel)
theorem wn_180 : Cond.fieldLink RX11 112 "WellMapModel" "sheetNumber" "[I" ∈ WS := inT5 5 (by decide +kernel) (by decide +kernel)
theorem wn_181 : Cond.fieldLink RX11 115 "WellMapModel" "sunk" "[I" ∈ WS := inT5 6 (by decide +kernel) (by decide +kernel)
/-! ===== constructors (written by wip/whole/gen/ctor.py) ===== -/
def wX4 (h0 : Nat) (N : Nat) (cs : Nat → ClassId) (u : Nat → Nat) : va_W := [(h0, .inr (4, [iv 0, .ref (u 0), .ref (u 1), .ref (u 2), .ref (u 3)])), (u 0, zA cs 1 N), (u 1, zA cs 1 N), (u 2, zA cs 1 N), (u 3, zA cs 0 N)]
theorem dfX4 : ∀ j, j < 5 → defaultValue (tyX4 j) = vp_V [iv 0, .null, .null, .null, .null] j
  | 0, _ => rfl
  | 1, _ => rfl
  | 2, _ => rfl
  | 3, _ => rfl
  | 4, _ => rfl
  | k + 5, h => absurd h (by omega)
def wX9 (h0 : Nat) (cs : Nat → ClassId) (u : Nat → Nat) : va_W := [(h0, .inr (9, [iv (100), iv (100), iv 0, iv 0, iv 0, .ref (u 0), iv 0, .ref (u 1), .ref (u 2), .ref (u 3), .ref (u 4)])), (u 0, zA cs 0 24), (u 1, zA cs 0 24), (u 2, zA cs 0 24), (u 3, ce cs (fun _ => 0) (.inl (0, 24)) (flt (fun _ => 0) (-1) 24)), (u 4, zA cs 0 24)]
theorem dfX9 : ∀ j, j < 11 → defaultValue (tyX9 j) = vp_V [iv 0, iv 0, iv 0, iv 0, iv 0, .null, iv 0, .null, .null, .null, .null] j
  | 0, _ => rfl
  | 1, _ => rfl
  | 2, _ => rfl
  | 3, _ => rfl
  | 4, _ => rfl
  | 5, _ => rfl
  | 6, _ => rfl
  | 7, _ => rfl
  | 8, _ => rfl
  | 9, _ => rfl
  | 10, _ => rfl
  | k + 11, h => absurd h (by omega)
theorem lkn_RX9_34 : LinkS WS RX9 34 yJ7_fill_53178 cJ7_fill_53178 4 none 2 := linkS_of WS_good wn_18 wn_19 wn_20 wn_21 (by decide +kernel)
def wX5 (h0 : Nat) (cs : Nat → ClassId) (u : Nat → Nat) : va_W := [(h0, .inr (5, [iv 0, iv 0, .ref (u 0), .ref (u 1), .ref (u 2), .ref (u 3), .ref (u 4), .ref (u 5)])), (u 0, zA cs 0 8), (u 1, zA cs 0 8), (u 2, zA cs 0 192), (u 3, zA cs 0 192), (u 4, zA cs 0 192), (u 5, zA cs 0 192)]
theorem dfX5 : ∀ j, j < 8 → defaultValue (tyX5 j) = vp_V [iv 0, iv 0, .null, .null, .null, .null, .null, .null] j
  | 0, _ => rfl
  | 1, _ => rfl
  | 2, _ => rfl
  | 3, _ => rfl
  | 4, _ => rfl
  | 5, _ => rfl
  | 6, _ => rfl
  | 7, _ => rfl
  | k + 8, h => absurd h (by omega)
def wX7 (h0 : Nat) (cs : Nat → ClassId) (u : Nat → Nat) : va_W := [(h0, .inr (7, [.ref (u 0), .ref (u 1), .ref (u 2), .ref (u 3), .ref (u 4)])), (u 0, ce cs (fun _ => 0) (.inl (0, 8)) (flt (fun _ => 0) (-1) 8)), (u 1, zA cs 0 64), (u 2, zA cs 0 64), (u 3, zA cs 0 64), (u 4, zA cs 0 64)]
theorem dfX7 : ∀ j, j < 5 → defaultValue (tyX7 j) = vp_V [.null, .null, .null, .null, .null] j
  | 0, _ => rfl
  | 1, _ => rfl
  | 2, _ => rfl
  | 3, _ => rfl
  | 4, _ => rfl
  | k + 5, h => absurd h (by omega)
theorem lkn_RX7_27 : LinkS WS RX7 27 yJ7_fill_53178 cJ7_fill_53178 4 none 2 := linkS_of WS_good wn_35 wn_19 wn_20 wn_21 (by decide +kernel)
def wX1 (h0 : Nat) (hw : Nat) (cs : Nat → ClassId) (u : Nat → Nat) : va_W := [(h0, .inr (1, [.ref (hw), .ref (u 0), .ref (u 1), .ref (u 2), .ref (u 3), .ref (u 8), .ref (u 13), iv 0, iv 0, iv (-1)])), (u 0, zA cs 1 28), (u 1, zA cs 1 28), (u 2, zA cs 1 28), (u 3, .inr (4, [iv 0, .ref (u 4), .ref (u 5), .ref (u 6), .ref (u 7)])), (u 4, zA cs 1 28), (u 5, zA cs 1 28), (u 6, zA cs 1 28), (u 7, zA cs 0 28), (u 8, .inr (4, [iv 0, .ref (u 9), .ref (u 10), .ref (u 11), .ref (u 12)])), (u 9, zA cs 1 28), (u 10, zA cs 1 28), (u 11, zA cs 1 28), (u 12, zA cs 0 28), (u 13, zA cs 1 28)]
theorem dfX1 : ∀ j, j < 10 → defaultValue (tyX1 j) = vp_V [.null, .null, .null, .null, .null, .null, .null, iv 0, iv 0, iv 0] j
  | 0, _ => rfl
  | 1, _ => rfl
  | 2, _ => rfl
  | 3, _ => rfl
  | 4, _ => rfl
  | 5, _ => rfl
  | 6, _ => rfl
  | 7, _ => rfl
  | 8, _ => rfl
  | 9, _ => rfl
  | k + 10, h => absurd h (by omega)
def wX6 (h0 : Nat) (hw : Nat) (cs : Nat → ClassId) (u : Nat → Nat) : va_W := [(h0, .inr (6, [.ref (hw), iv (-1), iv 0, .ref (u 0), .ref (u 1), .ref (u 2), .ref (u 3), .ref (u 4), jv 0, jv 0, jv 0])), (u 0, zA cs 0 48), (u 1, zA cs 0 48), (u 2, zA cs 1 48), (u 3, zA cs 1 48), (u 4, zA cs 1 48)]
theorem dfX6 : ∀ j, j < 11 → defaultValue (tyX6 j) = vp_V [.null, iv 0, iv 0, .null, .null, .null, .null, .null, jv 0, jv 0, jv 0] j
  | 0, _ => rfl
  | 1, _ => rfl
  | 2, _ => rfl
  | 3, _ => rfl
  | 4, _ => rfl
  | 5, _ => rfl
  | 6, _ => rfl
  | 7, _ => rfl
  | 8, _ => rfl
  | 9, _ => rfl
  | 10, _ => rfl
  | k + 11, h => absurd h (by omega)
def wX0 (h0 : Nat) (hw : Nat) (cs : Nat → ClassId) (u : Nat → Nat) : va_W := [(h0, .inr (0, [.ref (hw), .ref (u 0), iv (-1), iv 0, .ref (u 15), jv 0, jv 0])), (u 0, .inr (1, [.ref (hw), .ref (u 1), .ref (u 2), .ref (u 3), .ref (u 4), .ref (u 9), .ref (u 14), iv 0, iv 0, iv (-1)])), (u 1, zA cs 1 28), (u 2, zA cs 1 28), (u 3, zA cs 1 28), (u 4, .inr (4, [iv 0, .ref (u 5), .ref (u 6), .ref (u 7), .ref (u 8)])), (u 5, zA cs 1 28), (u 6, zA cs 1 28), (u 7, zA cs 1 28), (u 8, zA cs 0 28), (u 9, .inr (4, [iv 0, .ref (u 10), .ref (u 11), .ref (u 12), .ref (u 13)])), (u 10, zA cs 1 28), (u 11, zA cs 1 28), (u 12, zA cs 1 28), (u 13, zA cs 0 28), (u 14, zA cs 1 28), (u 15, .inr (4, [iv 0, .ref (u 16), .ref (u 17), .ref (u 18), .ref (u 19)])), (u 16, zA cs 1 2), (u 17, zA cs 1 2), (u 18, zA cs 1 2), (u 19, zA cs 0 2)]
theorem dfX0 : ∀ j, j < 7 → defaultValue (tyX0 j) = vp_V [.null, .null, iv 0, iv 0, .null, jv 0, jv 0] j
  | 0, _ => rfl
  | 1, _ => rfl
  | 2, _ => rfl
  | 3, _ => rfl
  | 4, _ => rfl
  | 5, _ => rfl
  | 6, _ => rfl
  | k + 7, h => absurd h (by omega)
def wX3 (h0 : Nat) (hw : Nat) (cs : Nat → ClassId) (u : Nat → Nat) : va_W := [(h0, .inr (3, [.ref (hw), iv (-1), iv 0, .ref (u 0), .ref (u 1)])), (u 0, zA cs 1 24), (u 1, zA cs 1 24)]
theorem dfX3 : ∀ j, j < 5 → defaultValue (tyX3 j) = vp_V [.null, iv 0, iv 0, .null, .null] j
  | 0, _ => rfl
  | 1, _ => rfl
  | 2, _ => rfl
  | 3, _ => rfl
  | 4, _ => rfl
  | k + 5, h => absurd h (by omega)
def wX2 (h0 : Nat) (hw : Nat) (cs : Nat → ClassId) (u : Nat → Nat) : va_W := [(h0, .inr (2, [.ref (hw), iv (-1), iv 0, .ref (u 0)])), (u 0, zA cs 0 24)]
theorem dfX2 : ∀ j, j < 4 → defaultValue (tyX2 j) = vp_V [.null, iv 0, iv 0, .null] j
  | 0, _ => rfl
  | 1, _ => rfl
  | 2, _ => rfl
  | 3, _ => rfl
  | k + 4, h => absurd h (by omega)
def wX8 (h0 : Nat) (hw : Nat) (cs : Nat → ClassId) (u : Nat → Nat) : va_W := [(h0, .inr (8, [.ref (hw), .ref (u 0)])), (u 0, zA cs 1 24)]
theorem dfX8 : ∀ j, j < 2 → defaultValue (tyX8 j) = vp_V [.null, .null] j
  | 0, _ => rfl
  | 1, _ => rfl
  | k + 2, h => absurd h (by omega)
def wX10 (h0 : Nat) (cs : Nat → ClassId) (u : Nat → Nat) : va_W := [(h0, .inr (10, [.ref (u 0), .ref (u 6), .ref (u 13), .ref (u 19), .ref (u 34), .ref (u 40), .ref (u 61), .ref (u 64), .ref (u 66), .ref (u 68)])), (u 0, .inr (9, [iv (100), iv (100), iv 0, iv 0, iv 0, .ref (u 1), iv 0, .ref (u 2), .ref (u 3), .ref (u 4), .ref (u 5)])), (u 1, zA cs 0 24), (u 2, zA cs 0 24), (u 3, zA cs 0 24), (u 4, ce cs (fun _ => 0) (.inl (0, 24)) (flt (fun _ => 0) (-1) 24)), (u 5, zA cs 0 24), (u 6, .inr (5, [iv 0, iv 0, .ref (u 7), .ref (u 8), .ref (u 9), .ref (u 10), .ref (u 11), .ref (u 12)])), (u 7, zA cs 0 8), (u 8, zA cs 0 8), (u 9, zA cs 0 192), (u 10, zA cs 0 192), (u 11, zA cs 0 192), (u 12, zA cs 0 192), (u 13, .inr (7, [.ref (u 14), .ref (u 15), .ref (u 16), .ref (u 17), .ref (u 18)])), (u 14, ce cs (fun _ => 0) (.inl (0, 8)) (flt (fun _ => 0) (-1) 8)), (u 15, zA cs 0 64), (u 16, zA cs 0 64), (u 17, zA cs 0 64), (u 18, zA cs 0 64), (u 19, .inr (1, [.ref (u 0), .ref (u 20), .ref (u 21), .ref (u 22), .ref (u 23), .ref (u 28), .ref (u 33), iv 0, iv 0, iv (-1)])), (u 20, zA cs 1 28), (u 21, zA cs 1 28), (u 22, zA cs 1 28), (u 23, .inr (4, [iv 0, .ref (u 24), .ref (u 25), .ref (u 26), .ref (u 27)])), (u 24, zA cs 1 28), (u 25, zA cs 1 28), (u 26, zA cs 1 28), (u 27, zA cs 0 28), (u 28, .inr (4, [iv 0, .ref (u 29), .ref (u 30), .ref (u 31), .ref (u 32)])), (u 29, zA cs 1 28), (u 30, zA cs 1 28), (u 31, zA cs 1 28), (u 32, zA cs 0 28), (u 33, zA cs 1 28), (u 34, .inr (6, [.ref (u 0), iv (-1), iv 0, .ref (u 35), .ref (u 36), .ref (u 37), .ref (u 38), .ref (u 39), jv 0, jv 0, jv 0])), (u 35, zA cs 0 48), (u 36, zA cs 0 48), (u 37, zA cs 1 48), (u 38, zA cs 1 48), (u 39, zA cs 1 48), (u 40, .inr (0, [.ref (u 0), .ref (u 41), iv (-1), iv 0, .ref (u 56), jv 0, jv 0])), (u 41, .inr (1, [.ref (u 0), .ref (u 42), .ref (u 43), .ref (u 44), .ref (u 45), .ref (u 50), .ref (u 55), iv 0, iv 0, iv (-1)])), (u 42, zA cs 1 28), (u 43, zA cs 1 28), (u 44, zA cs 1 28), (u 45, .inr (4, [iv 0, .ref (u 46), .ref (u 47), .ref (u 48), .ref (u 49)])), (u 46, zA cs 1 28), (u 47, zA cs 1 28), (u 48, zA cs 1 28), (u 49, zA cs 0 28), (u 50, .inr (4, [iv 0, .ref (u 51), .ref (u 52), .ref (u 53), .ref (u 54)])), (u 51, zA cs 1 28), (u 52, zA cs 1 28), (u 53, zA cs 1 28), (u 54, zA cs 0 28), (u 55, zA cs 1 28), (u 56, .inr (4, [iv 0, .ref (u 57), .ref (u 58), .ref (u 59), .ref (u 60)])), (u 57, zA cs 1 2), (u 58, zA cs 1 2), (u 59, zA cs 1 2), (u 60, zA cs 0 2), (u 61, .inr (3, [.ref (u 0), iv (-1), iv 0, .ref (u 62), .ref (u 63)])), (u 62, zA cs 1 24), (u 63, zA cs 1 24), (u 64, .inr (2, [.ref (u 0), iv (-1), iv 0, .ref (u 65)])), (u 65, zA cs 0 24), (u 66, .inr (8, [.ref (u 0), .ref (u 67)])), (u 67, zA cs 1 24), (u 68, zA cs 1 24)]
theorem dfX10 : ∀ j, j < 10 → defaultValue (tyX10 j) = vp_V [.null, .null, .null, .null, .null, .null, .null, .null, .null, .null] j
  | 0, _ => rfl
  | 1, _ => rfl
  | 2, _ => rfl
  | 3, _ => rfl
  | 4, _ => rfl
  | 5, _ => rfl
  | 6, _ => rfl
  | 7, _ => rfl
  | 8, _ => rfl
  | 9, _ => rfl
  | k + 10, h => absurd h (by omega)
def wX11 (h0 : Nat) (cs : Nat → ClassId) (u : Nat → Nat) : va_W := [(h0, .inr (11, [iv (100), iv (100), iv 0, .ref (u 0), .ref (u 1), .ref (u 2), .ref (u 3), .ref (u 4), iv 0, .ref (u 5), .ref (u 6), .ref (u 7), .ref (u 8), .ref (u 9), .ref (u 10), .ref (u 11), iv 0, .ref (u 12), .ref (u 13), .ref (u 14), iv 0, .ref (u 15), .ref (u 16), .ref (u 17), .ref (u 18), iv 0, .ref (u 19), iv 0, iv 0, iv 0, .ref (u 20), .ref (u 21), .ref (u 22), .ref (u 23), jv 0, jv 0, jv 0, jv 0, jv 0, iv 0, jv 0, jv 0, jv 0, jv 0, jv 0, iv 0, .ref (u 24), .ref (u 25), .ref (u 26), iv 0, .ref (u 27), .ref (u 28), .ref (u 29), .ref (u 30), .ref (u 31), .ref (u 32)])), (u 0, zA cs 2 24), (u 1, zA cs 0 24), (u 2, zA cs 0 24), (u 3, zA cs 0 24), (u 4, zA cs 0 24), (u 5, zA cs 2 192), (u 6, zA cs 0 192), (u 7, zA cs 0 192), (u 8, zA cs 0 192), (u 9, zA cs 0 192), (u 10, zA cs 0 8), (u 11, zA cs 0 8), (u 12, zA cs 1 28), (u 13, zA cs 1 28), (u 14, zA cs 1 28), (u 15, zA cs 1 400), (u 16, zA cs 1 400), (u 17, zA cs 1 400), (u 18, zA cs 0 400), (u 19, zA cs 0 400), (u 20, zA cs 0 64), (u 21, zA cs 0 64), (u 22, zA cs 0 64), (u 23, zA cs 0 64), (u 24, zA cs 0 24), (u 25, zA cs 0 24), (u 26, zA cs 0 26), (u 27, zA cs 0 24), (u 28, zA cs 1 24), (u 29, zA cs 2 24), (u 30, ce cs (fun _ => 0) (.inl (0, 8)) (up1 (up1 (up1 (up1 (up1 (up1 (up1 (up1 (fun _ => 0) 0 (-1)) 1 (-1)) 2 (-1)) 3 (-1)) 4 (-1)) 5 (-1)) 6 (-1)) 7 (-1))), (u 31, zA cs 0 256), (u 32, zA cs 0 8)]
theorem dfX11 : ∀ j, j < 56 → defaultValue (tyX11 j) = vp_V [iv 0, iv 0, iv 0, .null, .null, .null, .null, .null, iv 0, .null, .null, .null, .null, .null, .null, .null, iv 0, .null, .null, .null, iv 0, .null, .null, .null, .null, iv 0, .null, iv 0, iv 0, iv 0, .null, .null, .null, .null, jv 0, jv 0, jv 0, jv 0, jv 0, iv 0, jv 0, jv 0, jv 0, jv 0, jv 0, iv 0, .null, .null, .null, iv 0, .null, .null, .null, .null, .null, .null] j
  | 0, _ => rfl
  | 1, _ => rfl
  | 2, _ => rfl
  | 3, _ => rfl
  | 4, _ => rfl
  | 5, _ => rfl
  | 6, _ => rfl
  | 7, _ => rfl
  | 8, _ => rfl
  | 9, _ => rfl
  | 10, _ => rfl
  | 11, _ => rfl
  | 12, _ => rfl
  | 13, _ => rfl
  | 14, _ => rfl
  | 15, _ => rfl
  | 16, _ => rfl
  | 17, _ => rfl
  | 18, _ => rfl
  | 19, _ => rfl
  | 20, _ => rfl
  | 21, _ => rfl
  | 22, _ => rfl
  | 23, _ => rfl
  | 24, _ => rfl
  | 25, _ => rfl
  | 26, _ => rfl
  | 27, _ => rfl
  | 28, _ => rfl
  | 29, _ => rfl
  | 30, _ => rfl
  | 31, _ => rfl
  | 32, _ => rfl
  | 33, _ => rfl
  | 34, _ => rfl
  | 35, _ => rfl
  | 36, _ => rfl
  | 37, _ => rfl
  | 38, _ => rfl
  | 39, _ => rfl
  | 40, _ => rfl
  | 41, _ => rfl
  | 42, _ => rfl
  | 43, _ => rfl
  | 44, _ => rfl
  | 45, _ => rfl
  | 46, _ => rfl
  | 47, _ => rfl
  | 48, _ => rfl
  | 49, _ => rfl
  | 50, _ => rfl
  | 51, _ => rfl
  | 52, _ => rfl
  | 53, _ => rfl
  | 54, _ => rfl
  | 55, _ => rfl
  | k + 56, h => absurd h (by omega)
set_option maxRecDepth 100000 in
set_option maxHeartbeats 4000000 in
theorem c_X4_init {l : Launch} {N : Nat} (hN : N ≤ 100000) {h0 : Nat} : CtrN vwCl WS NWs l yX4_init cX4_init 2 ({ frames := 1, cells := 4, slots := 4 * N, locals := 20 } : Room) h0 4 [iv 0, .null, .null, .null, .null] [iv (N : Int)] (wX4 h0 N) 4 (4 * N) := by
  refine ctrN_of (by decide +kernel) rfl (Nat.le_of_ble_eq_true rfl) (fun cs X F I K => ?_)
  refine n_ws (ws' := (h0, .inr (4, [iv 0, .null, .null, .null, .null])) :: []) rfl ?_
  refine n_aload_n F dX4_init_0 rfl 0 rfl ?_
  refine n_objInit F wn_1 wn_2 wn_3 dX4_init_1 (Nat.le_of_ble_eq_true rfl) (Nat.le_of_ble_eq_true rfl) ?_
  refine n_aload_n F dX4_init_4 rfl 0 rfl ?_
  refine n_iload_n F dX4_init_5 rfl 1 rfl ?_
  refine n_newaJ F (N := N) rfl hN wn_4 (Nat.le_of_ble_eq_true rfl) (by show _ ≤ 4 * N; omega) dX4_init_6 (fun q1 => ?_)
  refine n_putF F I (fs' := [iv 0, .ref (q1), .null, .null, .null]) 1 inW4 tyX4 tyX4_ok nmX4 rfl (by decide) wn_5 rfl (by decide +kernel) rfl rfl (Nat.le_of_ble_eq_true rfl) rfl dX4_init_8 ?_
  refine n_aload_n F dX4_init_11 rfl 0 rfl ?_
  refine n_iload_n F dX4_init_12 rfl 1 rfl ?_
  refine n_newaJ F (N := N) rfl hN wn_4 (Nat.le_of_ble_eq_true rfl) (by show _ ≤ 4 * N; omega) dX4_init_13 (fun q2 => ?_)
  refine n_putF F I (fs' := [iv 0, .ref (q1), .ref (q2), .null, .null]) 2 inW4 tyX4 tyX4_ok nmX4 rfl (by decide) wn_6 rfl (by decide +kernel) rfl rfl (Nat.le_of_ble_eq_true rfl) rfl dX4_init_15 ?_
  refine n_aload_n F dX4_init_18 rfl 0 rfl ?_
  refine n_iload_n F dX4_init_19 rfl 1 rfl ?_
  refine n_newaJ F (N := N) rfl hN wn_4 (Nat.le_of_ble_eq_true rfl) (by show _ ≤ 4 * N; omega) dX4_init_20 (fun q3 => ?_)
  refine n_putF F I (fs' := [iv 0, .ref (q1), .ref (q2), .ref (q3), .null]) 3 inW4 tyX4 tyX4_ok nmX4 rfl (by decide) wn_7 rfl (by decide +kernel) rfl rfl (Nat.le_of_ble_eq_true rfl) rfl dX4_init_22 ?_
  refine n_aload_n F dX4_init_25 rfl 0 rfl ?_
  refine n_iload_n F dX4_init_26 rfl 1 rfl ?_
  refine n_newaI F (N := N) rfl hN wn_8 (Nat.le_of_ble_eq_true rfl) (by show _ ≤ 4 * N; omega) dX4_init_27 (fun q4 => ?_)
  refine n_putF F I (fs' := [iv 0, .ref (q1), .ref (q2), .ref (q3), .ref (q4)]) 4 inW4 tyX4 tyX4_ok nmX4 rfl (by decide) wn_9 rfl (by decide +kernel) rfl rfl (Nat.le_of_ble_eq_true rfl) rfl dX4_init_29 ?_
  refine n_ws (ws' := wX4 h0 N cs (fun i => [q1, q2, q3, q4].getD i 0)) rfl ?_
  refine n_widen (c2 := 4) (s2 := 4 * N) (by omega) (by omega) ?_
  exact K _ _ _ dX4_init_32
set_option maxRecDepth 100000 in
set_option maxHeartbeats 4000000 in
theorem c_X9_init {l : Launch} {h0 : Nat} : CtrN vwCl WS NWs l yX9_init cX9_init 1 ({ frames := 1, cells := 5, slots := 120, locals := 23 } : Room) h0 9 [iv 0, iv 0, iv 0, iv 0, iv 0, .null, iv 0, .null, .null, .null, .null] [] (wX9 h0) 5 120 := by
  refine ctrN_of (by decide +kernel) rfl (Nat.le_of_ble_eq_true rfl) (fun cs X F I K => ?_)
  refine n_ws (ws' := (h0, .inr (9, [iv 0, iv 0, iv 0, iv 0, iv 0, .null, iv 0, .null, .null, .null, .null])) :: []) rfl ?_
  refine n_aload_n F dX9_init_0 rfl 0 rfl ?_
  refine n_objInit F wn_10 wn_2 wn_3 dX9_init_1 (Nat.le_of_ble_eq_true rfl) (Nat.le_of_ble_eq_true rfl) ?_
  refine n_aload_n F dX9_init_4 rfl 0 rfl ?_
  refine n_bipush F dX9_init_5 (by decide +kernel) ?_
  refine n_put F (fs' := [iv 100, iv 0, iv 0, iv 0, iv 0, .null, iv 0, .null, .null, .null, .null]) 0 inW9 tyX9 tyX9_ok nmX9 rfl (by decide) wn_11 rfl rfl rfl (Nat.le_of_ble_eq_true rfl) rfl dX9_init_7 ?_
  refine n_aload_n F dX9_init_10 rfl 0 rfl ?_
  refine n_bipush F dX9_init_11 (by decide +kernel) ?_
  refine n_put F (fs' := [iv 100, iv 100, iv 0, iv 0, iv 0, .null, iv 0, .null, .null, .null, .null]) 1 inW9 tyX9 tyX9_ok nmX9 rfl (by decide) wn_12 rfl rfl rfl (Nat.le_of_ble_eq_true rfl) rfl dX9_init_13 ?_
  refine n_aload_n F dX9_init_16 rfl 0 rfl ?_
  refine n_bipush F dX9_init_17 (by decide +kernel) ?_
  refine n_newaI F (N := 24) rfl (by decide) wn_8 (Nat.le_of_ble_eq_true rfl) (Nat.le_of_ble_eq_true rfl) dX9_init_19 (fun q1 => ?_)
  refine n_putF F I (fs' := [iv 100, iv 100, iv 0, iv 0, iv 0, .ref (q1), iv 0, .null, .null, .null, .null]) 5 inW9 tyX9 tyX9_ok nmX9 rfl (by decide) wn_13 rfl (by decide +kernel) rfl rfl (Nat.le_of_ble_eq_true rfl) rfl dX9_init_21 ?_
  refine n_aload_n F dX9_init_24 rfl 0 rfl ?_
  refine n_bipush F dX9_init_25 (by decide +kernel) ?_
  refine n_newaI F (N := 24) rfl (by decide) wn_8 (Nat.le_of_ble_eq_true rfl) (Nat.le_of_ble_eq_true rfl) dX9_init_27 (fun q2 => ?_)
  refine n_putF F I (fs' := [iv 100, iv 100, iv 0, iv 0, iv 0, .ref (q1), iv 0, .ref (q2), .null, .null, .null]) 7 inW9 tyX9 tyX9_ok nmX9 rfl (by decide) wn_14 rfl (by decide +kernel) rfl rfl (Nat.le_of_ble_eq_true rfl) rfl dX9_init_29 ?_
  refine n_aload_n F dX9_init_32 rfl 0 rfl ?_
  refine n_bipush F dX9_init_33 (by decide +kernel) ?_
  refine n_newaI F (N := 24) rfl (by decide) wn_8 (Nat.le_of_ble_eq_true rfl) (Nat.le_of_ble_eq_true rfl) dX9_init_35 (fun q3 => ?_)
  refine n_putF F I (fs' := [iv 100, iv 100, iv 0, iv 0, iv 0, .ref (q1), iv 0, .ref (q2), .ref (q3), .null, .null]) 8 inW9 tyX9 tyX9_ok nmX9 rfl (by decide) wn_15 rfl (by decide +kernel) rfl rfl (Nat.le_of_ble_eq_true rfl) rfl dX9_init_37 ?_
  refine n_aload_n F dX9_init_40 rfl 0 rfl ?_
  refine n_bipush F dX9_init_41 (by decide +kernel) ?_
  refine n_newaI F (N := 24) rfl (by decide) wn_8 (Nat.le_of_ble_eq_true rfl) (Nat.le_of_ble_eq_true rfl) dX9_init_43 (fun q4 => ?_)
  refine n_putF F I (fs' := [iv 100, iv 100, iv 0, iv 0, iv 0, .ref (q1), iv 0, .ref (q2), .ref (q3), .ref (q4), .null]) 9 inW9 tyX9 tyX9_ok nmX9 rfl (by decide) wn_16 rfl (by decide +kernel) rfl rfl (Nat.le_of_ble_eq_true rfl) rfl dX9_init_45 ?_
  refine n_aload_n F dX9_init_48 rfl 0 rfl ?_
  refine n_bipush F dX9_init_49 (by decide +kernel) ?_
  refine n_newaI F (N := 24) rfl (by decide) wn_8 (Nat.le_of_ble_eq_true rfl) (Nat.le_of_ble_eq_true rfl) dX9_init_51 (fun q5 => ?_)
  refine n_putF F I (fs' := [iv 100, iv 100, iv 0, iv 0, iv 0, .ref (q1), iv 0, .ref (q2), .ref (q3), .ref (q4), .ref (q5)]) 10 inW9 tyX9 tyX9_ok nmX9 rfl (by decide) wn_17 rfl (by decide +kernel) rfl rfl (Nat.le_of_ble_eq_true rfl) rfl dX9_init_53 ?_
  refine n_aload_n F dX9_init_56 rfl 0 rfl ?_
  refine n_get F 9 inW9 rfl (by decide) wn_16 rfl dX9_init_57 ?_
  refine n_iconst F dX9_init_60 ?_
  refine n_fill F (i := 4) (f := fun _ => 0) (n := 24) (ws' := (h0, .inr (9, [iv 100, iv 100, iv 0, iv 0, iv 0, .ref (q1), iv 0, .ref (q2), .ref (q3), .ref (q4), .ref (q5)])) :: [(q1, zA cs 0 24), (q2, zA cs 0 24), (q3, zA cs 0 24), (q4, ce cs (fun _ => 0) (.inl (0, 24)) (flt (fun _ => 0) (-1) 24)), (q5, zA cs 0 24)]) lkn_RX9_34 rfl (by decide) ⟨Nat.le_of_ble_eq_true rfl, Nat.le_of_ble_eq_true rfl⟩ (Nat.le_of_ble_eq_true rfl) (Nat.le_of_ble_eq_true rfl) (Nat.le_of_ble_eq_true rfl) rfl dX9_init_61 ?_
  refine n_ws (ws' := wX9 h0 cs (fun i => [q1, q2, q3, q4, q5].getD i 0)) rfl ?_
  refine n_widen (c2 := 5) (s2 := 120) (by decide) (by decide) ?_
  exact K _ _ _ dX9_init_64
set_option maxRecDepth 100000 in
set_option maxHeartbeats 4000000 in
theorem c_X5_init {l : Launch} {h0 : Nat} : CtrN vwCl WS NWs l yX5_init cX5_init 1 ({ frames := 1, cells := 6, slots := 784, locals := 20 } : Room) h0 5 [iv 0, iv 0, .null, .null, .null, .null, .null, .null] [] (wX5 h0) 6 784 := by
  refine ctrN_of (by decide +kernel) rfl (Nat.le_of_ble_eq_true rfl) (fun cs X F I K => ?_)
  refine n_ws (ws' := (h0, .inr (5, [iv 0, iv 0, .null, .null, .null, .null, .null, .null])) :: []) rfl ?_
  refine n_aload_n F dX5_init_0 rfl 0 rfl ?_
  refine n_objInit F wn_22 wn_2 wn_3 dX5_init_1 (Nat.le_of_ble_eq_true rfl) (Nat.le_of_ble_eq_true rfl) ?_
  refine n_aload_n F dX5_init_4 rfl 0 rfl ?_
  refine n_bipush F dX5_init_5 (by decide +kernel) ?_
  refine n_newaI F (N := 8) rfl (by decide) wn_8 (Nat.le_of_ble_eq_true rfl) (Nat.le_of_ble_eq_true rfl) dX5_init_7 (fun q1 => ?_)
  refine n_putF F I (fs' := [iv 0, iv 0, .ref (q1), .null, .null, .null, .null, .null]) 2 inW5 tyX5 tyX5_ok nmX5 rfl (by decide) wn_23 rfl (by decide +kernel) rfl rfl (Nat.le_of_ble_eq_true rfl) rfl dX5_init_9 ?_
  refine n_aload_n F dX5_init_12 rfl 0 rfl ?_
  refine n_bipush F dX5_init_13 (by decide +kernel) ?_
  refine n_newaI F (N := 8) rfl (by decide) wn_8 (Nat.le_of_ble_eq_true rfl) (Nat.le_of_ble_eq_true rfl) dX5_init_15 (fun q2 => ?_)
  refine n_putF F I (fs' := [iv 0, iv 0, .ref (q1), .ref (q2), .null, .null, .null, .null]) 3 inW5 tyX5 tyX5_ok nmX5 rfl (by decide) wn_24 rfl (by decide +kernel) rfl rfl (Nat.le_of_ble_eq_true rfl) rfl dX5_init_17 ?_
  refine n_aload_n F dX5_init_20 rfl 0 rfl ?_
  refine n_sipush F dX5_init_21 (by decide +kernel) ?_
  refine n_newaI F (N := 192) rfl (by decide) wn_8 (Nat.le_of_ble_eq_true rfl) (Nat.le_of_ble_eq_true rfl) dX5_init_24 (fun q3 => ?_)
  refine n_putF F I (fs' := [iv 0, iv 0, .ref (q1), .ref (q2), .ref (q3), .null, .null, .null]) 4 inW5 tyX5 tyX5_ok nmX5 rfl (by decide) wn_25 rfl (by decide +kernel) rfl rfl (Nat.le_of_ble_eq_true rfl) rfl dX5_init_26 ?_
  refine n_aload_n F dX5_init_29 rfl 0 rfl ?_
  refine n_sipush F dX5_init_30 (by decide +kernel) ?_
  refine n_newaI F (N := 192) rfl (by decide) wn_8 (Nat.le_of_ble_eq_true rfl) (Nat.le_of_ble_eq_true rfl) dX5_init_33 (fun q4 => ?_)
  refine n_putF F I (fs' := [iv 0, iv 0, .ref (q1), .ref (q2), .ref (q3), .ref (q4), .null, .null]) 5 inW5 tyX5 tyX5_ok nmX5 rfl (by decide) wn_26 rfl (by decide +kernel) rfl rfl (Nat.le_of_ble_eq_true rfl) rfl dX5_init_35 ?_
  refine n_aload_n F dX5_init_38 rfl 0 rfl ?_
  refine n_sipush F dX5_init_39 (by decide +kernel) ?_
  refine n_newaI F (N := 192) rfl (by decide) wn_8 (Nat.le_of_ble_eq_true rfl) (Nat.le_of_ble_eq_true rfl) dX5_init_42 (fun q5 => ?_)
  refine n_putF F I (fs' := [iv 0, iv 0, .ref (q1), .ref (q2), .ref (q3), .ref (q4), .ref (q5), .null]) 6 inW5 tyX5 tyX5_ok nmX5 rfl (by decide) wn_27 rfl (by decide +kernel) rfl rfl (Nat.le_of_ble_eq_true rfl) rfl dX5_init_44 ?_
  refine n_aload_n F dX5_init_47 rfl 0 rfl ?_
  refine n_sipush F dX5_init_48 (by decide +kernel) ?_
  refine n_newaI F (N := 192) rfl (by decide) wn_8 (Nat.le_of_ble_eq_true rfl) (Nat.le_of_ble_eq_true rfl) dX5_init_51 (fun q6 => ?_)
  refine n_putF F I (fs' := [iv 0, iv 0, .ref (q1), .ref (q2), .ref (q3), .ref (q4), .ref (q5), .ref (q6)]) 7 inW5 tyX5 tyX5_ok nmX5 rfl (by decide) wn_28 rfl (by decide +kernel) rfl rfl (Nat.le_of_ble_eq_true rfl) rfl dX5_init_53 ?_
  refine n_ws (ws' := wX5 h0 cs (fun i => [q1, q2, q3, q4, q5, q6].getD i 0)) rfl ?_
  refine n_widen (c2 := 6) (s2 := 784) (by decide) (by decide) ?_
  exact K _ _ _ dX5_init_56
set_option maxRecDepth 100000 in
set_option maxHeartbeats 4000000 in
theorem c_X7_init {l : Launch} {h0 : Nat} : CtrN vwCl WS NWs l yX7_init cX7_init 1 ({ frames := 1, cells := 5, slots := 264, locals := 23 } : Room) h0 7 [.null, .null, .null, .null, .null] [] (wX7 h0) 5 264 := by
  refine ctrN_of (by decide +kernel) rfl (Nat.le_of_ble_eq_true rfl) (fun cs X F I K => ?_)
  refine n_ws (ws' := (h0, .inr (7, [.null, .null, .null, .null, .null])) :: []) rfl ?_
  refine n_aload_n F dX7_init_0 rfl 0 rfl ?_
  refine n_objInit F wn_29 wn_2 wn_3 dX7_init_1 (Nat.le_of_ble_eq_true rfl) (Nat.le_of_ble_eq_true rfl) ?_
  refine n_aload_n F dX7_init_4 rfl 0 rfl ?_
  refine n_bipush F dX7_init_5 (by decide +kernel) ?_
  refine n_newaI F (N := 8) rfl (by decide) wn_8 (Nat.le_of_ble_eq_true rfl) (Nat.le_of_ble_eq_true rfl) dX7_init_7 (fun q1 => ?_)
  refine n_putF F I (fs' := [.ref (q1), .null, .null, .null, .null]) 0 inW7 tyX7 tyX7_ok nmX7 rfl (by decide) wn_30 rfl (by decide +kernel) rfl rfl (Nat.le_of_ble_eq_true rfl) rfl dX7_init_9 ?_
  refine n_aload_n F dX7_init_12 rfl 0 rfl ?_
  refine n_bipush F dX7_init_13 (by decide +kernel) ?_
  refine n_newaI F (N := 64) rfl (by decide) wn_8 (Nat.le_of_ble_eq_true rfl) (Nat.le_of_ble_eq_true rfl) dX7_init_15 (fun q2 => ?_)
  refine n_putF F I (fs' := [.ref (q1), .ref (q2), .null, .null, .null]) 1 inW7 tyX7 tyX7_ok nmX7 rfl (by decide) wn_31 rfl (by decide +kernel) rfl rfl (Nat.le_of_ble_eq_true rfl) rfl dX7_init_17 ?_
  refine n_aload_n F dX7_init_20 rfl 0 rfl ?_
  refine n_bipush F dX7_init_21 (by decide +kernel) ?_
  refine n_newaI F (N := 64) rfl (by decide) wn_8 (Nat.le_of_ble_eq_true rfl) (Nat.le_of_ble_eq_true rfl) dX7_init_23 (fun q3 => ?_)
  refine n_putF F I (fs' := [.ref (q1), .ref (q2), .ref (q3), .null, .null]) 2 inW7 tyX7 tyX7_ok nmX7 rfl (by decide) wn_32 rfl (by decide +kernel) rfl rfl (Nat.le_of_ble_eq_true rfl) rfl dX7_init_25 ?_
  refine n_aload_n F dX7_init_28 rfl 0 rfl ?_
  refine n_bipush F dX7_init_29 (by decide +kernel) ?_
  refine n_newaI F (N := 64) rfl (by decide) wn_8 (Nat.le_of_ble_eq_true rfl) (Nat.le_of_ble_eq_true rfl) dX7_init_31 (fun q4 => ?_)
  refine n_putF F I (fs' := [.ref (q1), .ref (q2), .ref (q3), .ref (q4), .null]) 3 inW7 tyX7 tyX7_ok nmX7 rfl (by decide) wn_33 rfl (by decide +kernel) rfl rfl (Nat.le_of_ble_eq_true rfl) rfl dX7_init_33 ?_
  refine n_aload_n F dX7_init_36 rfl 0 rfl ?_
  refine n_bipush F dX7_init_37 (by decide +kernel) ?_
  refine n_newaI F (N := 64) rfl (by decide) wn_8 (Nat.le_of_ble_eq_true rfl) (Nat.le_of_ble_eq_true rfl) dX7_init_39 (fun q5 => ?_)
  refine n_putF F I (fs' := [.ref (q1), .ref (q2), .ref (q3), .ref (q4), .ref (q5)]) 4 inW7 tyX7 tyX7_ok nmX7 rfl (by decide) wn_34 rfl (by decide +kernel) rfl rfl (Nat.le_of_ble_eq_true rfl) rfl dX7_init_41 ?_
  refine n_aload_n F dX7_init_44 rfl 0 rfl ?_
  refine n_get F 0 inW7 rfl (by decide) wn_30 rfl dX7_init_45 ?_
  refine n_iconst F dX7_init_48 ?_
  refine n_fill F (i := 1) (f := fun _ => 0) (n := 8) (ws' := (h0, .inr (7, [.ref (q1), .ref (q2), .ref (q3), .ref (q4), .ref (q5)])) :: [(q1, ce cs (fun _ => 0) (.inl (0, 8)) (flt (fun _ => 0) (-1) 8)), (q2, zA cs 0 64), (q3, zA cs 0 64), (q4, zA cs 0 64), (q5, zA cs 0 64)]) lkn_RX7_27 rfl (by decide) ⟨Nat.le_of_ble_eq_true rfl, Nat.le_of_ble_eq_true rfl⟩ (Nat.le_of_ble_eq_true rfl) (Nat.le_of_ble_eq_true rfl) (Nat.le_of_ble_eq_true rfl) rfl dX7_init_49 ?_
  refine n_ws (ws' := wX7 h0 cs (fun i => [q1, q2, q3, q4, q5].getD i 0)) rfl ?_
  refine n_widen (c2 := 5) (s2 := 264) (by decide) (by decide) ?_
  exact K _ _ _ dX7_init_52
set_option maxRecDepth 100000 in
set_option maxHeartbeats 4000000 in
theorem c_X1_init {l : Launch} {hw : Nat} {h0 : Nat} : CtrN vwCl WS NWs l yX1_init cX1_init 2 ({ frames := 2, cells := 14, slots := 346, locals := 41 } : Room) h0 1 [.null, .null, .null, .null, .null, .null, .null, iv 0, iv 0, iv 0] [.ref hw] (wX1 h0 hw) 14 346 := by
  refine ctrN_of (by decide +kernel) rfl (Nat.le_of_ble_eq_true rfl) (fun cs X F I K => ?_)
  refine n_ws (ws' := (h0, .inr (1, [.null, .null, .null, .null, .null, .null, .null, iv 0, iv 0, iv 0])) :: []) rfl ?_
  refine n_aload_n F dX1_init_0 rfl 0 rfl ?_
  refine n_objInit F wn_36 wn_2 wn_3 dX1_init_1 (Nat.le_of_ble_eq_true rfl) (Nat.le_of_ble_eq_true rfl) ?_
  refine n_aload_n F dX1_init_4 rfl 0 rfl ?_
  refine n_aload_n F dX1_init_5 rfl 1 rfl ?_
  refine n_putF F I (fs' := [.ref (hw), .null, .null, .null, .null, .null, .null, iv 0, iv 0, iv 0]) 0 inW1 tyX1 tyX1_ok nmX1 rfl (by decide) wn_37 rfl (by decide +kernel) rfl rfl (Nat.le_of_ble_eq_true rfl) rfl dX1_init_6 ?_
  refine n_aload_n F dX1_init_9 rfl 0 rfl ?_
  refine n_bipush F dX1_init_10 (by decide +kernel) ?_
  refine n_newaJ F (N := 28) rfl (by decide) wn_4 (Nat.le_of_ble_eq_true rfl) (Nat.le_of_ble_eq_true rfl) dX1_init_12 (fun q1 => ?_)
  refine n_putF F I (fs' := [.ref (hw), .ref (q1), .null, .null, .null, .null, .null, iv 0, iv 0, iv 0]) 1 inW1 tyX1 tyX1_ok nmX1 rfl (by decide) wn_38 rfl (by decide +kernel) rfl rfl (Nat.le_of_ble_eq_true rfl) rfl dX1_init_14 ?_
  refine n_aload_n F dX1_init_17 rfl 0 rfl ?_
  refine n_bipush F dX1_init_18 (by decide +kernel) ?_
  refine n_newaJ F (N := 28) rfl (by decide) wn_4 (Nat.le_of_ble_eq_true rfl) (Nat.le_of_ble_eq_true rfl) dX1_init_20 (fun q2 => ?_)
  refine n_putF F I (fs' := [.ref (hw), .ref (q1), .ref (q2), .null, .null, .null, .null, iv 0, iv 0, iv 0]) 2 inW1 tyX1 tyX1_ok nmX1 rfl (by decide) wn_39 rfl (by decide +kernel) rfl rfl (Nat.le_of_ble_eq_true rfl) rfl dX1_init_22 ?_
  refine n_aload_n F dX1_init_25 rfl 0 rfl ?_
  refine n_bipush F dX1_init_26 (by decide +kernel) ?_
  refine n_newaJ F (N := 28) rfl (by decide) wn_4 (Nat.le_of_ble_eq_true rfl) (Nat.le_of_ble_eq_true rfl) dX1_init_28 (fun q3 => ?_)
  refine n_putF F I (fs' := [.ref (hw), .ref (q1), .ref (q2), .ref (q3), .null, .null, .null, iv 0, iv 0, iv 0]) 3 inW1 tyX1 tyX1_ok nmX1 rfl (by decide) wn_40 rfl (by decide +kernel) rfl rfl (Nat.le_of_ble_eq_true rfl) rfl dX1_init_30 ?_
  refine n_aload_n F dX1_init_33 rfl 0 rfl ?_
  refine n_new F (ci := 4) inW4 tyX4 tyX4_ok wn_41 wn_42 wn_43 rfl dfX4 (Nat.le_of_ble_eq_true rfl) (Nat.le_of_ble_eq_true rfl) dX1_init_34 (fun q4 => ?_)
  refine n_dup F dX1_init_37 rfl ?_
  refine n_bipush F dX1_init_38 (by decide +kernel) ?_
  refine n_callI F (n := 1) (c_X4_init (l := l) (N := 28) (by decide) (h0 := q4)) rfl ⟨rfl, rfl⟩ ⟨Nat.le_of_ble_eq_true rfl, Nat.le_of_ble_eq_true rfl⟩ rfl (good_code wn_44) wn_43 wn_45 wn_46 rfl (by decide +kernel) (Nat.le_of_ble_eq_true rfl) (Nat.le_of_ble_eq_true rfl) (Nat.le_of_ble_eq_true rfl) dX1_init_40 (fun u4 => ?_)
  refine n_put F (fs' := [.ref (hw), .ref (q1), .ref (q2), .ref (q3), .ref (q4), .null, .null, iv 0, iv 0, iv 0]) 4 inW1 tyX1 tyX1_ok nmX1 rfl (by decide) wn_47 rfl rfl rfl (Nat.le_of_ble_eq_true rfl) rfl dX1_init_43 ?_
  refine n_aload_n F dX1_init_46 rfl 0 rfl ?_
  refine n_new F (ci := 4) inW4 tyX4 tyX4_ok wn_41 wn_42 wn_43 rfl dfX4 (Nat.le_of_ble_eq_true rfl) (Nat.le_of_ble_eq_true rfl) dX1_init_47 (fun q5 => ?_)
  refine n_dup F dX1_init_50 rfl ?_
  refine n_bipush F dX1_init_51 (by decide +kernel) ?_
  refine n_callI F (n := 1) (c_X4_init (l := l) (N := 28) (by decide) (h0 := q5)) rfl ⟨rfl, rfl⟩ ⟨Nat.le_of_ble_eq_true rfl, Nat.le_of_ble_eq_true rfl⟩ rfl (good_code wn_44) wn_43 wn_45 wn_46 rfl (by decide +kernel) (Nat.le_of_ble_eq_true rfl) (Nat.le_of_ble_eq_true rfl) (Nat.le_of_ble_eq_true rfl) dX1_init_53 (fun u5 => ?_)
  refine n_put F (fs' := [.ref (hw), .ref (q1), .ref (q2), .ref (q3), .ref (q4), .ref (q5), .null, iv 0, iv 0, iv 0]) 5 inW1 tyX1 tyX1_ok nmX1 rfl (by decide) wn_48 rfl rfl rfl (Nat.le_of_ble_eq_true rfl) rfl dX1_init_56 ?_
  refine n_aload_n F dX1_init_59 rfl 0 rfl ?_
  refine n_bipush F dX1_init_60 (by decide +kernel) ?_
  refine n_newaJ F (N := 28) rfl (by decide) wn_4 (Nat.le_of_ble_eq_true rfl) (Nat.le_of_ble_eq_true rfl) dX1_init_62 (fun q6 => ?_)
  refine n_putF F I (fs' := [.ref (hw), .ref (q1), .ref (q2), .ref (q3), .ref (q4), .ref (q5), .ref (q6), iv 0, iv 0, iv 0]) 6 inW1 tyX1 tyX1_ok nmX1 rfl (by decide) wn_49 rfl (by decide +kernel) rfl rfl (Nat.le_of_ble_eq_true rfl) rfl dX1_init_64 ?_
  refine n_aload_n F dX1_init_67 rfl 0 rfl ?_
  refine n_iconst F dX1_init_68 ?_
  refine n_put F (fs' := [.ref (hw), .ref (q1), .ref (q2), .ref (q3), .ref (q4), .ref (q5), .ref (q6), iv 0, iv 0, iv (-1)]) 9 inW1 tyX1 tyX1_ok nmX1 rfl (by decide) wn_50 rfl rfl rfl (Nat.le_of_ble_eq_true rfl) rfl dX1_init_69 ?_
  refine n_ws (ws' := wX1 h0 hw cs (fun i => [q1, q2, q3, q4, u4 0, u4 1, u4 2, u4 3, q5, u5 0, u5 1, u5 2, u5 3, q6].getD i 0)) rfl ?_
  refine n_widen (c2 := 14) (s2 := 346) (by decide) (by decide) ?_
  exact K _ _ _ dX1_init_72
set_option maxRecDepth 100000 in
set_option maxHeartbeats 4000000 in
theorem c_X6_init {l : Launch} {hw : Nat} {h0 : Nat} : CtrN vwCl WS NWs l yX6_init cX6_init 2 ({ frames := 1, cells := 5, slots := 240, locals := 20 } : Room) h0 6 [.null, iv 0, iv 0, .null, .null, .null, .null, .null, jv 0, jv 0, jv 0] [.ref hw] (wX6 h0 hw) 5 240 := by
  refine ctrN_of (by decide +kernel) rfl (Nat.le_of_ble_eq_true rfl) (fun cs X F I K => ?_)
  refine n_ws (ws' := (h0, .inr (6, [.null, iv 0, iv 0, .null, .null, .null, .null, .null, jv 0, jv 0, jv 0])) :: []) rfl ?_
  refine n_aload_n F dX6_init_0 rfl 0 rfl ?_
  refine n_objInit F wn_51 wn_2 wn_3 dX6_init_1 (Nat.le_of_ble_eq_true rfl) (Nat.le_of_ble_eq_true rfl) ?_
  refine n_aload_n F dX6_init_4 rfl 0 rfl ?_
  refine n_aload_n F dX6_init_5 rfl 1 rfl ?_
  refine n_putF F I (fs' := [.ref (hw), iv 0, iv 0, .null, .null, .null, .null, .null, jv 0, jv 0, jv 0]) 0 inW6 tyX6 tyX6_ok nmX6 rfl (by decide) wn_52 rfl (by decide +kernel) rfl rfl (Nat.le_of_ble_eq_true rfl) rfl dX6_init_6 ?_
  refine n_aload_n F dX6_init_9 rfl 0 rfl ?_
  refine n_iconst F dX6_init_10 ?_
  refine n_put F (fs' := [.ref (hw), iv (-1), iv 0, .null, .null, .null, .null, .null, jv 0, jv 0, jv 0]) 1 inW6 tyX6 tyX6_ok nmX6 rfl (by decide) wn_53 rfl rfl rfl (Nat.le_of_ble_eq_true rfl) rfl dX6_init_11 ?_
  refine n_aload_n F dX6_init_14 rfl 0 rfl ?_
  refine n_bipush F dX6_init_15 (by decide +kernel) ?_
  refine n_newaI F (N := 48) rfl (by decide) wn_8 (Nat.le_of_ble_eq_true rfl) (Nat.le_of_ble_eq_true rfl) dX6_init_17 (fun q1 => ?_)
  refine n_putF F I (fs' := [.ref (hw), iv (-1), iv 0, .ref (q1), .null, .null, .null, .null, jv 0, jv 0, jv 0]) 3 inW6 tyX6 tyX6_ok nmX6 rfl (by decide) wn_54 rfl (by decide +kernel) rfl rfl (Nat.le_of_ble_eq_true rfl) rfl dX6_init_19 ?_
  refine n_aload_n F dX6_init_22 rfl 0 rfl ?_
  refine n_bipush F dX6_init_23 (by decide +kernel) ?_
  refine n_newaI F (N := 48) rfl (by decide) wn_8 (Nat.le_of_ble_eq_true rfl) (Nat.le_of_ble_eq_true rfl) dX6_init_25 (fun q2 => ?_)
  refine n_putF F I (fs' := [.ref (hw), iv (-1), iv 0, .ref (q1), .ref (q2), .null, .null, .null, jv 0, jv 0, jv 0]) 4 inW6 tyX6 tyX6_ok nmX6 rfl (by decide) wn_55 rfl (by decide +kernel) rfl rfl (Nat.le_of_ble_eq_true rfl) rfl dX6_init_27 ?_
  refine n_aload_n F dX6_init_30 rfl 0 rfl ?_
  refine n_bipush F dX6_init_31 (by decide +kernel) ?_
  refine n_newaJ F (N := 48) rfl (by decide) wn_4 (Nat.le_of_ble_eq_true rfl) (Nat.le_of_ble_eq_true rfl) dX6_init_33 (fun q3 => ?_)
  refine n_putF F I (fs' := [.ref (hw), iv (-1), iv 0, .ref (q1), .ref (q2), .ref (q3), .null, .null, jv 0, jv 0, jv 0]) 5 inW6 tyX6 tyX6_ok nmX6 rfl (by decide) wn_56 rfl (by decide +kernel) rfl rfl (Nat.le_of_ble_eq_true rfl) rfl dX6_init_35 ?_
  refine n_aload_n F dX6_init_38 rfl 0 rfl ?_
  refine n_bipush F dX6_init_39 (by decide +kernel) ?_
  refine n_newaJ F (N := 48) rfl (by decide) wn_4 (Nat.le_of_ble_eq_true rfl) (Nat.le_of_ble_eq_true rfl) dX6_init_41 (fun q4 => ?_)
  refine n_putF F I (fs' := [.ref (hw), iv (-1), iv 0, .ref (q1), .ref (q2), .ref (q3), .ref (q4), .null, jv 0, jv 0, jv 0]) 6 inW6 tyX6 tyX6_ok nmX6 rfl (by decide) wn_57 rfl (by decide +kernel) rfl rfl (Nat.le_of_ble_eq_true rfl) rfl dX6_init_43 ?_
  refine n_aload_n F dX6_init_46 rfl 0 rfl ?_
  refine n_bipush F dX6_init_47 (by decide +kernel) ?_
  refine n_newaJ F (N := 48) rfl (by decide) wn_4 (Nat.le_of_ble_eq_true rfl) (Nat.le_of_ble_eq_true rfl) dX6_init_49 (fun q5 => ?_)
  refine n_putF F I (fs' := [.ref (hw), iv (-1), iv 0, .ref (q1), .ref (q2), .ref (q3), .ref (q4), .ref (q5), jv 0, jv 0, jv 0]) 7 inW6 tyX6 tyX6_ok nmX6 rfl (by decide) wn_58 rfl (by decide +kernel) rfl rfl (Nat.le_of_ble_eq_true rfl) rfl dX6_init_51 ?_
  refine n_ws (ws' := wX6 h0 hw cs (fun i => [q1, q2, q3, q4, q5].getD i 0)) rfl ?_
  refine n_widen (c2 := 5) (s2 := 240) (by decide) (by decide) ?_
  exact K _ _ _ dX6_init_54
set_option maxRecDepth 100000 in
set_option maxHeartbeats 4000000 in
theorem c_X0_init {l : Launch} {hw : Nat} {h0 : Nat} : CtrN vwCl WS NWs l yX0_init cX0_init 2 ({ frames := 3, cells := 20, slots := 369, locals := 62 } : Room) h0 0 [.null, .null, iv 0, iv 0, .null, jv 0, jv 0] [.ref hw] (wX0 h0 hw) 20 369 := by
  refine ctrN_of (by decide +kernel) rfl (Nat.le_of_ble_eq_true rfl) (fun cs X F I K => ?_)
  refine n_ws (ws' := (h0, .inr (0, [.null, .null, iv 0, iv 0, .null, jv 0, jv 0])) :: []) rfl ?_
  refine n_aload_n F dX0_init_0 rfl 0 rfl ?_
  refine n_objInit F wn_59 wn_2 wn_3 dX0_init_1 (Nat.le_of_ble_eq_true rfl) (Nat.le_of_ble_eq_true rfl) ?_
  refine n_aload_n F dX0_init_4 rfl 0 rfl ?_
  refine n_aload_n F dX0_init_5 rfl 1 rfl ?_
  refine n_putF F I (fs' := [.ref (hw), .null, iv 0, iv 0, .null, jv 0, jv 0]) 0 inW0 tyX0 tyX0_ok nmX0 rfl (by decide) wn_60 rfl (by decide +kernel) rfl rfl (Nat.le_of_ble_eq_true rfl) rfl dX0_init_6 ?_
  refine n_aload_n F dX0_init_9 rfl 0 rfl ?_
  refine n_new F (ci := 1) inW1 tyX1 tyX1_ok wn_61 wn_62 wn_63 rfl dfX1 (Nat.le_of_ble_eq_true rfl) (Nat.le_of_ble_eq_true rfl) dX0_init_10 (fun q1 => ?_)
  refine n_dup F dX0_init_13 rfl ?_
  refine n_aload_n F dX0_init_14 rfl 1 rfl ?_
  refine n_callI F (n := 1) (c_X1_init (l := l) (hw := hw) (h0 := q1)) rfl ⟨rfl, rfl⟩ ⟨Nat.le_of_ble_eq_true rfl, Nat.le_of_ble_eq_true rfl⟩ rfl (good_code wn_64) wn_63 wn_65 wn_66 rfl (by decide +kernel) (Nat.le_of_ble_eq_true rfl) (Nat.le_of_ble_eq_true rfl) (Nat.le_of_ble_eq_true rfl) dX0_init_15 (fun u1 => ?_)
  refine n_putF F I (fs' := [.ref (hw), .ref (q1), iv 0, iv 0, .null, jv 0, jv 0]) 1 inW0 tyX0 tyX0_ok nmX0 rfl (by decide) wn_67 rfl (by decide +kernel) rfl rfl (Nat.le_of_ble_eq_true rfl) rfl dX0_init_18 ?_
  refine n_aload_n F dX0_init_21 rfl 0 rfl ?_
  refine n_new F (ci := 4) inW4 tyX4 tyX4_ok wn_68 wn_42 wn_43 rfl dfX4 (Nat.le_of_ble_eq_true rfl) (Nat.le_of_ble_eq_true rfl) dX0_init_22 (fun q2 => ?_)
  refine n_dup F dX0_init_25 rfl ?_
  refine n_iconst F dX0_init_26 ?_
  refine n_callI F (n := 1) (c_X4_init (l := l) (N := 2) (by decide) (h0 := q2)) rfl ⟨rfl, rfl⟩ ⟨Nat.le_of_ble_eq_true rfl, Nat.le_of_ble_eq_true rfl⟩ rfl (good_code wn_44) wn_43 wn_69 wn_46 rfl (by decide +kernel) (Nat.le_of_ble_eq_true rfl) (Nat.le_of_ble_eq_true rfl) (Nat.le_of_ble_eq_true rfl) dX0_init_27 (fun u2 => ?_)
  refine n_putF F I (fs' := [.ref (hw), .ref (q1), iv 0, iv 0, .ref (q2), jv 0, jv 0]) 4 inW0 tyX0 tyX0_ok nmX0 rfl (by decide) wn_70 rfl (by decide +kernel) rfl rfl (Nat.le_of_ble_eq_true rfl) rfl dX0_init_30 ?_
  refine n_aload_n F dX0_init_33 rfl 0 rfl ?_
  refine n_iconst F dX0_init_34 ?_
  refine n_put F (fs' := [.ref (hw), .ref (q1), iv (-1), iv 0, .ref (q2), jv 0, jv 0]) 2 inW0 tyX0 tyX0_ok nmX0 rfl (by decide) wn_71 rfl rfl rfl (Nat.le_of_ble_eq_true rfl) rfl dX0_init_35 ?_
  refine n_ws (ws' := wX0 h0 hw cs (fun i => [q1, u1 0, u1 1, u1 2, u1 3, u1 4, u1 5, u1 6, u1 7, u1 8, u1 9, u1 10, u1 11, u1 12, u1 13, q2, u2 0, u2 1, u2 2, u2 3].getD i 0)) rfl ?_
  refine n_widen (c2 := 20) (s2 := 369) (by decide) (by decide) ?_
  exact K _ _ _ dX0_init_38
set_option maxRecDepth 100000 in
set_option maxHeartbeats 4000000 in
theorem c_X3_init {l : Launch} {hw : Nat} {h0 : Nat} : CtrN vwCl WS NWs l yX3_init cX3_init 2 ({ frames := 1, cells := 2, slots := 48, locals := 20 } : Room) h0 3 [.null, iv 0, iv 0, .null, .null] [.ref hw] (wX3 h0 hw) 2 48 := by
  refine ctrN_of (by decide +kernel) rfl (Nat.le_of_ble_eq_true rfl) (fun cs X F I K => ?_)
  refine n_ws (ws' := (h0, .inr (3, [.null, iv 0, iv 0, .null, .null])) :: []) rfl ?_
  refine n_aload_n F dX3_init_0 rfl 0 rfl ?_
  refine n_objInit F wn_72 wn_2 wn_3 dX3_init_1 (Nat.le_of_ble_eq_true rfl) (Nat.le_of_ble_eq_true rfl) ?_
  refine n_aload_n F dX3_init_4 rfl 0 rfl ?_
  refine n_aload_n F dX3_init_5 rfl 1 rfl ?_
  refine n_putF F I (fs' := [.ref (hw), iv 0, iv 0, .null, .null]) 0 inW3 tyX3 tyX3_ok nmX3 rfl (by decide) wn_73 rfl (by decide +kernel) rfl rfl (Nat.le_of_ble_eq_true rfl) rfl dX3_init_6 ?_
  refine n_aload_n F dX3_init_9 rfl 0 rfl ?_
  refine n_iconst F dX3_init_10 ?_
  refine n_put F (fs' := [.ref (hw), iv (-1), iv 0, .null, .null]) 1 inW3 tyX3 tyX3_ok nmX3 rfl (by decide) wn_74 rfl rfl rfl (Nat.le_of_ble_eq_true rfl) rfl dX3_init_11 ?_
  refine n_aload_n F dX3_init_14 rfl 0 rfl ?_
  refine n_bipush F dX3_init_15 (by decide +kernel) ?_
  refine n_newaJ F (N := 24) rfl (by decide) wn_4 (Nat.le_of_ble_eq_true rfl) (Nat.le_of_ble_eq_true rfl) dX3_init_17 (fun q1 => ?_)
  refine n_putF F I (fs' := [.ref (hw), iv (-1), iv 0, .ref (q1), .null]) 3 inW3 tyX3 tyX3_ok nmX3 rfl (by decide) wn_75 rfl (by decide +kernel) rfl rfl (Nat.le_of_ble_eq_true rfl) rfl dX3_init_19 ?_
  refine n_aload_n F dX3_init_22 rfl 0 rfl ?_
  refine n_bipush F dX3_init_23 (by decide +kernel) ?_
  refine n_newaJ F (N := 24) rfl (by decide) wn_4 (Nat.le_of_ble_eq_true rfl) (Nat.le_of_ble_eq_true rfl) dX3_init_25 (fun q2 => ?_)
  refine n_putF F I (fs' := [.ref (hw), iv (-1), iv 0, .ref (q1), .ref (q2)]) 4 inW3 tyX3 tyX3_ok nmX3 rfl (by decide) wn_76 rfl (by decide +kernel) rfl rfl (Nat.le_of_ble_eq_true rfl) rfl dX3_init_27 ?_
  refine n_ws (ws' := wX3 h0 hw cs (fun i => [q1, q2].getD i 0)) rfl ?_
  refine n_widen (c2 := 2) (s2 := 48) (by decide) (by decide) ?_
  exact K _ _ _ dX3_init_30
set_option maxRecDepth 100000 in
set_option maxHeartbeats 4000000 in
theorem c_X2_init {l : Launch} {hw : Nat} {h0 : Nat} : CtrN vwCl WS NWs l yX2_init cX2_init 2 ({ frames := 1, cells := 1, slots := 24, locals := 20 } : Room) h0 2 [.null, iv 0, iv 0, .null] [.ref hw] (wX2 h0 hw) 1 24 := by
  refine ctrN_of (by decide +kernel) rfl (Nat.le_of_ble_eq_true rfl) (fun cs X F I K => ?_)
  refine n_ws (ws' := (h0, .inr (2, [.null, iv 0, iv 0, .null])) :: []) rfl ?_
  refine n_aload_n F dX2_init_0 rfl 0 rfl ?_
  refine n_objInit F wn_77 wn_2 wn_3 dX2_init_1 (Nat.le_of_ble_eq_true rfl) (Nat.le_of_ble_eq_true rfl) ?_
  refine n_aload_n F dX2_init_4 rfl 0 rfl ?_
  refine n_aload_n F dX2_init_5 rfl 1 rfl ?_
  refine n_putF F I (fs' := [.ref (hw), iv 0, iv 0, .null]) 0 inW2 tyX2 tyX2_ok nmX2 rfl (by decide) wn_78 rfl (by decide +kernel) rfl rfl (Nat.le_of_ble_eq_true rfl) rfl dX2_init_6 ?_
  refine n_aload_n F dX2_init_9 rfl 0 rfl ?_
  refine n_iconst F dX2_init_10 ?_
  refine n_put F (fs' := [.ref (hw), iv (-1), iv 0, .null]) 1 inW2 tyX2 tyX2_ok nmX2 rfl (by decide) wn_79 rfl rfl rfl (Nat.le_of_ble_eq_true rfl) rfl dX2_init_11 ?_
  refine n_aload_n F dX2_init_14 rfl 0 rfl ?_
  refine n_bipush F dX2_init_15 (by decide +kernel) ?_
  refine n_newaI F (N := 24) rfl (by decide) wn_8 (Nat.le_of_ble_eq_true rfl) (Nat.le_of_ble_eq_true rfl) dX2_init_17 (fun q1 => ?_)
  refine n_putF F I (fs' := [.ref (hw), iv (-1), iv 0, .ref (q1)]) 3 inW2 tyX2 tyX2_ok nmX2 rfl (by decide) wn_80 rfl (by decide +kernel) rfl rfl (Nat.le_of_ble_eq_true rfl) rfl dX2_init_19 ?_
  refine n_ws (ws' := wX2 h0 hw cs (fun i => [q1].getD i 0)) rfl ?_
  refine n_widen (c2 := 1) (s2 := 24) (by decide) (by decide) ?_
  exact K _ _ _ dX2_init_22
set_option maxRecDepth 100000 in
set_option maxHeartbeats 4000000 in
theorem c_X8_init {l : Launch} {hw : Nat} {h0 : Nat} : CtrN vwCl WS NWs l yX8_init cX8_init 2 ({ frames := 1, cells := 1, slots := 24, locals := 20 } : Room) h0 8 [.null, .null] [.ref hw] (wX8 h0 hw) 1 24 := by
  refine ctrN_of (by decide +kernel) rfl (Nat.le_of_ble_eq_true rfl) (fun cs X F I K => ?_)
  refine n_ws (ws' := (h0, .inr (8, [.null, .null])) :: []) rfl ?_
  refine n_aload_n F dX8_init_0 rfl 0 rfl ?_
  refine n_objInit F wn_81 wn_2 wn_3 dX8_init_1 (Nat.le_of_ble_eq_true rfl) (Nat.le_of_ble_eq_true rfl) ?_
  refine n_aload_n F dX8_init_4 rfl 0 rfl ?_
  refine n_aload_n F dX8_init_5 rfl 1 rfl ?_
  refine n_putF F I (fs' := [.ref (hw), .null]) 0 inW8 tyX8 tyX8_ok nmX8 rfl (by decide) wn_82 rfl (by decide +kernel) rfl rfl (Nat.le_of_ble_eq_true rfl) rfl dX8_init_6 ?_
  refine n_aload_n F dX8_init_9 rfl 0 rfl ?_
  refine n_bipush F dX8_init_10 (by decide +kernel) ?_
  refine n_newaJ F (N := 24) rfl (by decide) wn_4 (Nat.le_of_ble_eq_true rfl) (Nat.le_of_ble_eq_true rfl) dX8_init_12 (fun q1 => ?_)
  refine n_putF F I (fs' := [.ref (hw), .ref (q1)]) 1 inW8 tyX8 tyX8_ok nmX8 rfl (by decide) wn_83 rfl (by decide +kernel) rfl rfl (Nat.le_of_ble_eq_true rfl) rfl dX8_init_14 ?_
  refine n_ws (ws' := wX8 h0 hw cs (fun i => [q1].getD i 0)) rfl ?_
  refine n_widen (c2 := 1) (s2 := 24) (by decide) (by decide) ?_
  exact K _ _ _ dX8_init_17
set_option maxRecDepth 100000 in
set_option maxHeartbeats 4000000 in
theorem c_X10_init {l : Launch} {h0 : Nat} : CtrN vwCl WS NWs l yX10_init cX10_init 1 ({ frames := 4, cells := 69, slots := 2306, locals := 83 } : Room) h0 10 [.null, .null, .null, .null, .null, .null, .null, .null, .null, .null] [] (wX10 h0) 69 2306 := by
  refine ctrN_of (by decide +kernel) rfl (Nat.le_of_ble_eq_true rfl) (fun cs X F I K => ?_)
  refine n_ws (ws' := (h0, .inr (10, [.null, .null, .null, .null, .null, .null, .null, .null, .null, .null])) :: []) rfl ?_
  refine n_aload_n F dX10_init_0 rfl 0 rfl ?_
  refine n_objInit F wn_84 wn_2 wn_3 dX10_init_1 (Nat.le_of_ble_eq_true rfl) (Nat.le_of_ble_eq_true rfl) ?_
  refine n_aload_n F dX10_init_4 rfl 0 rfl ?_
  refine n_new F (ci := 9) inW9 tyX9 tyX9_ok wn_85 wn_86 wn_87 rfl dfX9 (Nat.le_of_ble_eq_true rfl) (Nat.le_of_ble_eq_true rfl) dX10_init_5 (fun q1 => ?_)
  refine n_dup F dX10_init_8 rfl ?_
  refine n_callI F (n := 0) (c_X9_init (l := l) (h0 := q1)) rfl ⟨rfl, rfl⟩ ⟨Nat.le_of_ble_eq_true rfl, Nat.le_of_ble_eq_true rfl⟩ rfl (good_code wn_88) wn_87 wn_89 wn_90 rfl (by decide +kernel) (Nat.le_of_ble_eq_true rfl) (Nat.le_of_ble_eq_true rfl) (Nat.le_of_ble_eq_true rfl) dX10_init_9 (fun u1 => ?_)
  refine n_putF F I (fs' := [.ref (q1), .null, .null, .null, .null, .null, .null, .null, .null, .null]) 0 inW10 tyX10 tyX10_ok nmX10 rfl (by decide) wn_91 rfl (by decide +kernel) rfl rfl (Nat.le_of_ble_eq_true rfl) rfl dX10_init_12 ?_
  refine n_aload_n F dX10_init_15 rfl 0 rfl ?_
  refine n_new F (ci := 5) inW5 tyX5 tyX5_ok wn_92 wn_93 wn_94 rfl dfX5 (Nat.le_of_ble_eq_true rfl) (Nat.le_of_ble_eq_true rfl) dX10_init_16 (fun q2 => ?_)
  refine n_dup F dX10_init_19 rfl ?_
  refine n_callI F (n := 0) (c_X5_init (l := l) (h0 := q2)) rfl ⟨rfl, rfl⟩ ⟨Nat.le_of_ble_eq_true rfl, Nat.le_of_ble_eq_true rfl⟩ rfl (good_code wn_95) wn_94 wn_96 wn_97 rfl (by decide +kernel) (Nat.le_of_ble_eq_true rfl) (Nat.le_of_ble_eq_true rfl) (Nat.le_of_ble_eq_true rfl) dX10_init_20 (fun u2 => ?_)
  refine n_putF F I (fs' := [.ref (q1), .ref (q2), .null, .null, .null, .null, .null, .null, .null, .null]) 1 inW10 tyX10 tyX10_ok nmX10 rfl (by decide) wn_98 rfl (by decide +kernel) rfl rfl (Nat.le_of_ble_eq_true rfl) rfl dX10_init_23 ?_
  refine n_aload_n F dX10_init_26 rfl 0 rfl ?_
  refine n_new F (ci := 7) inW7 tyX7 tyX7_ok wn_99 wn_100 wn_101 rfl dfX7 (Nat.le_of_ble_eq_true rfl) (Nat.le_of_ble_eq_true rfl) dX10_init_27 (fun q3 => ?_)
  refine n_dup F dX10_init_30 rfl ?_
  refine n_callI F (n := 0) (c_X7_init (l := l) (h0 := q3)) rfl ⟨rfl, rfl⟩ ⟨Nat.le_of_ble_eq_true rfl, Nat.le_of_ble_eq_true rfl⟩ rfl (good_code wn_102) wn_101 wn_103 wn_104 rfl (by decide +kernel) (Nat.le_of_ble_eq_true rfl) (Nat.le_of_ble_eq_true rfl) (Nat.le_of_ble_eq_true rfl) dX10_init_31 (fun u3 => ?_)
  refine n_putF F I (fs' := [.ref (q1), .ref (q2), .ref (q3), .null, .null, .null, .null, .null, .null, .null]) 2 inW10 tyX10 tyX10_ok nmX10 rfl (by decide) wn_105 rfl (by decide +kernel) rfl rfl (Nat.le_of_ble_eq_true rfl) rfl dX10_init_34 ?_
  refine n_aload_n F dX10_init_37 rfl 0 rfl ?_
  refine n_new F (ci := 1) inW1 tyX1 tyX1_ok wn_106 wn_62 wn_63 rfl dfX1 (Nat.le_of_ble_eq_true rfl) (Nat.le_of_ble_eq_true rfl) dX10_init_38 (fun q4 => ?_)
  refine n_dup F dX10_init_41 rfl ?_
  refine n_aload_n F dX10_init_42 rfl 0 rfl ?_
  refine n_get F 0 inW10 rfl (by decide) wn_91 rfl dX10_init_43 ?_
  refine n_callI F (n := 1) (c_X1_init (l := l) (hw := q1) (h0 := q4)) rfl ⟨rfl, rfl⟩ ⟨Nat.le_of_ble_eq_true rfl, Nat.le_of_ble_eq_true rfl⟩ rfl (good_code wn_64) wn_63 wn_107 wn_66 rfl (by decide +kernel) (Nat.le_of_ble_eq_true rfl) (Nat.le_of_ble_eq_true rfl) (Nat.le_of_ble_eq_true rfl) dX10_init_46 (fun u4 => ?_)
  refine n_putF F I (fs' := [.ref (q1), .ref (q2), .ref (q3), .ref (q4), .null, .null, .null, .null, .null, .null]) 3 inW10 tyX10 tyX10_ok nmX10 rfl (by decide) wn_108 rfl (by decide +kernel) rfl rfl (Nat.le_of_ble_eq_true rfl) rfl dX10_init_49 ?_
  refine n_aload_n F dX10_init_52 rfl 0 rfl ?_
  refine n_new F (ci := 6) inW6 tyX6 tyX6_ok wn_109 wn_110 wn_111 rfl dfX6 (Nat.le_of_ble_eq_true rfl) (Nat.le_of_ble_eq_true rfl) dX10_init_53 (fun q5 => ?_)
  refine n_dup F dX10_init_56 rfl ?_
  refine n_aload_n F dX10_init_57 rfl 0 rfl ?_
  refine n_get F 0 inW10 rfl (by decide) wn_91 rfl dX10_init_58 ?_
  refine n_callI F (n := 1) (c_X6_init (l := l) (hw := q1) (h0 := q5)) rfl ⟨rfl, rfl⟩ ⟨Nat.le_of_ble_eq_true rfl, Nat.le_of_ble_eq_true rfl⟩ rfl (good_code wn_112) wn_111 wn_113 wn_114 rfl (by decide +kernel) (Nat.le_of_ble_eq_true rfl) (Nat.le_of_ble_eq_true rfl) (Nat.le_of_ble_eq_true rfl) dX10_init_61 (fun u5 => ?_)
  refine n_putF F I (fs' := [.ref (q1), .ref (q2), .ref (q3), .ref (q4), .ref (q5), .null, .null, .null, .null, .null]) 4 inW10 tyX10 tyX10_ok nmX10 rfl (by decide) wn_115 rfl (by decide +kernel) rfl rfl (Nat.le_of_ble_eq_true rfl) rfl dX10_init_64 ?_
  refine n_aload_n F dX10_init_67 rfl 0 rfl ?_
  refine n_new F (ci := 0) inW0 tyX0 tyX0_ok wn_116 wn_117 wn_118 rfl dfX0 (Nat.le_of_ble_eq_true rfl) (Nat.le_of_ble_eq_true rfl) dX10_init_68 (fun q6 => ?_)
  refine n_dup F dX10_init_71 rfl ?_
  refine n_aload_n F dX10_init_72 rfl 0 rfl ?_
  refine n_get F 0 inW10 rfl (by decide) wn_91 rfl dX10_init_73 ?_
  refine n_callI F (n := 1) (c_X0_init (l := l) (hw := q1) (h0 := q6)) rfl ⟨rfl, rfl⟩ ⟨Nat.le_of_ble_eq_true rfl, Nat.le_of_ble_eq_true rfl⟩ rfl (good_code wn_119) wn_118 wn_120 wn_121 rfl (by decide +kernel) (Nat.le_of_ble_eq_true rfl) (Nat.le_of_ble_eq_true rfl) (Nat.le_of_ble_eq_true rfl) dX10_init_76 (fun u6 => ?_)
  refine n_putF F I (fs' := [.ref (q1), .ref (q2), .ref (q3), .ref (q4), .ref (q5), .ref (q6), .null, .null, .null, .null]) 5 inW10 tyX10 tyX10_ok nmX10 rfl (by decide) wn_122 rfl (by decide +kernel) rfl rfl (Nat.le_of_ble_eq_true rfl) rfl dX10_init_79 ?_
  refine n_aload_n F dX10_init_82 rfl 0 rfl ?_
  refine n_new F (ci := 3) inW3 tyX3 tyX3_ok wn_123 wn_124 wn_125 rfl dfX3 (Nat.le_of_ble_eq_true rfl) (Nat.le_of_ble_eq_true rfl) dX10_init_83 (fun q7 => ?_)
  refine n_dup F dX10_init_86 rfl ?_
  refine n_aload_n F dX10_init_87 rfl 0 rfl ?_
  refine n_get F 0 inW10 rfl (by decide) wn_91 rfl dX10_init_88 ?_
  refine n_callI F (n := 1) (c_X3_init (l := l) (hw := q1) (h0 := q7)) rfl ⟨rfl, rfl⟩ ⟨Nat.le_of_ble_eq_true rfl, Nat.le_of_ble_eq_true rfl⟩ rfl (good_code wn_126) wn_125 wn_127 wn_128 rfl (by decide +kernel) (Nat.le_of_ble_eq_true rfl) (Nat.le_of_ble_eq_true rfl) (Nat.le_of_ble_eq_true rfl) dX10_init_91 (fun u7 => ?_)
  refine n_putF F I (fs' := [.ref (q1), .ref (q2), .ref (q3), .ref (q4), .ref (q5), .ref (q6), .ref (q7), .null, .null, .null]) 6 inW10 tyX10 tyX10_ok nmX10 rfl (by decide) wn_129 rfl (by decide +kernel) rfl rfl (Nat.le_of_ble_eq_true rfl) rfl dX10_init_94 ?_
  refine n_aload_n F dX10_init_97 rfl 0 rfl ?_
  refine n_new F (ci := 2) inW2 tyX2 tyX2_ok wn_130 wn_131 wn_132 rfl dfX2 (Nat.le_of_ble_eq_true rfl) (Nat.le_of_ble_eq_true rfl) dX10_init_98 (fun q8 => ?_)
  refine n_dup F dX10_init_101 rfl ?_
  refine n_aload_n F dX10_init_102 rfl 0 rfl ?_
  refine n_get F 0 inW10 rfl (by decide) wn_91 rfl dX10_init_103 ?_
  refine n_callI F (n := 1) (c_X2_init (l := l) (hw := q1) (h0 := q8)) rfl ⟨rfl, rfl⟩ ⟨Nat.le_of_ble_eq_true rfl, Nat.le_of_ble_eq_true rfl⟩ rfl (good_code wn_133) wn_132 wn_134 wn_135 rfl (by decide +kernel) (Nat.le_of_ble_eq_true rfl) (Nat.le_of_ble_eq_true rfl) (Nat.le_of_ble_eq_true rfl) dX10_init_106 (fun u8 => ?_)
  refine n_putF F I (fs' := [.ref (q1), .ref (q2), .ref (q3), .ref (q4), .ref (q5), .ref (q6), .ref (q7), .ref (q8), .null, .null]) 7 inW10 tyX10 tyX10_ok nmX10 rfl (by decide) wn_136 rfl (by decide +kernel) rfl rfl (Nat.le_of_ble_eq_true rfl) rfl dX10_init_109 ?_
  refine n_aload_n F dX10_init_112 rfl 0 rfl ?_
  refine n_new F (ci := 8) inW8 tyX8 tyX8_ok wn_137 wn_138 wn_139 rfl dfX8 (Nat.le_of_ble_eq_true rfl) (Nat.le_of_ble_eq_true rfl) dX10_init_113 (fun q9 => ?_)
  refine n_dup F dX10_init_116 rfl ?_
  refine n_aload_n F dX10_init_117 rfl 0 rfl ?_
  refine n_get F 0 inW10 rfl (by decide) wn_91 rfl dX10_init_118 ?_
  refine n_callI F (n := 1) (c_X8_init (l := l) (hw := q1) (h0 := q9)) rfl ⟨rfl, rfl⟩ ⟨Nat.le_of_ble_eq_true rfl, Nat.le_of_ble_eq_true rfl⟩ rfl (good_code wn_140) wn_139 wn_141 wn_142 rfl (by decide +kernel) (Nat.le_of_ble_eq_true rfl) (Nat.le_of_ble_eq_true rfl) (Nat.le_of_ble_eq_true rfl) dX10_init_121 (fun u9 => ?_)
  refine n_putF F I (fs' := [.ref (q1), .ref (q2), .ref (q3), .ref (q4), .ref (q5), .ref (q6), .ref (q7), .ref (q8), .ref (q9), .null]) 8 inW10 tyX10 tyX10_ok nmX10 rfl (by decide) wn_143 rfl (by decide +kernel) rfl rfl (Nat.le_of_ble_eq_true rfl) rfl dX10_init_124 ?_
  refine n_aload_n F dX10_init_127 rfl 0 rfl ?_
  refine n_bipush F dX10_init_128 (by decide +kernel) ?_
  refine n_newaJ F (N := 24) rfl (by decide) wn_4 (Nat.le_of_ble_eq_true rfl) (Nat.le_of_ble_eq_true rfl) dX10_init_130 (fun q10 => ?_)
  refine n_putF F I (fs' := [.ref (q1), .ref (q2), .ref (q3), .ref (q4), .ref (q5), .ref (q6), .ref (q7), .ref (q8), .ref (q9), .ref (q10)]) 9 inW10 tyX10 tyX10_ok nmX10 rfl (by decide) wn_144 rfl (by decide +kernel) rfl rfl (Nat.le_of_ble_eq_true rfl) rfl dX10_init_132 ?_
  refine n_ws (ws' := wX10 h0 cs (fun i => [q1, u1 0, u1 1, u1 2, u1 3, u1 4, q2, u2 0, u2 1, u2 2, u2 3, u2 4, u2 5, q3, u3 0, u3 1, u3 2, u3 3, u3 4, q4, u4 0, u4 1, u4 2, u4 3, u4 4, u4 5, u4 6, u4 7, u4 8, u4 9, u4 10, u4 11, u4 12, u4 13, q5, u5 0, u5 1, u5 2, u5 3, u5 4, q6, u6 0, u6 1, u6 2, u6 3, u6 4, u6 5, u6 6, u6 7, u6 8, u6 9, u6 10, u6 11, u6 12, u6 13, u6 14, u6 15, u6 16, u6 17, u6 18, u6 19, q7, u7 0, u7 1, q8, u8 0, q9, u9 0, q10].getD i 0)) rfl ?_
  refine n_widen (c2 := 69) (s2 := 2306) (by decide) (by decide) ?_
  exact K _ _ _ dX10_init_135
