theorem zcok_all : ∀ z, z < 278 → zCok z = true := fun z h => by
  by_cases h0 : z < 7
  · exact zcok_0 z (by omega) h0
  by_cases h1 : z < 11
  · exact zcok_1 z (by omega) h1
  by_cases h2 : z < 19
  · exact zcok_2 z (by omega) h2
  by_cases h3 : z < 25
  · exact zcok_3 z (by omega) h3
  by_cases h4 : z < 30
  · exact zcok_4 z (by omega) h4
  by_cases h5 : z < 34
  · exact zcok_5 z (by omega) h5
  by_cases h6 : z < 37
  · exact zcok_6 z (by omega) h6
  by_cases h7 : z < 41
  · exact zcok_7 z (by omega) h7
  by_cases h8 : z < 47
  · exact zcok_8 z (by omega) h8
  by_cases h9 : z < 50
  · exact zcok_9 z (by omega) h9
  by_cases h10 : z < 53
  · exact zcok_10 z (by omega) h10
  by_cases h11 : z < 55
  · exact zcok_11 z (by omega) h11
  by_cases h12 : z < 58
  · exact zcok_12 z (by omega) h12
  by_cases h13 : z < 59
  · exact zcok_13 z (by omega) h13
  by_cases h14 : z < 61
  · exact zcok_14 z (by omega) h14
  by_cases h15 : z < 63
  · exact zcok_15 z (by omega) h15
  by_cases h16 : z < 67
  · exact zcok_16 z (by omega) h16
  by_cases h17 : z < 74
  · exact zcok_17 z (by omega) h17
  by_cases h18 : z < 75
  · exact zcok_18 z (by omega) h18
  by_cases h19 : z < 77
  · exact zcok_19 z (by omega) h19
  by_cases h20 : z < 83
  · exact zcok_20 z (by omega) h20
  by_cases h21 : z < 84
  · exact zcok_21 z (by omega) h21
  by_cases h22 : z < 85
  · exact zcok_22 z (by omega) h22
  by_cases h23 : z < 87
  · exact zcok_23 z (by omega) h23
  by_cases h24 : z < 90
  · exact zcok_24 z (by omega) h24
  by_cases h25 : z < 92
  · exact zcok_25 z (by omega) h25
  by_cases h26 : z < 94
  · exact zcok_26 z (by omega) h26
  by_cases h27 : z < 98
  · exact zcok_27 z (by omega) h27
  by_cases h28 : z < 102
  · exact zcok_28 z (by omega) h28
  by_cases h29 : z < 107
  · exact zcok_29 z (by omega) h29
  by_cases h30 : z < 111
  · exact zcok_30 z (by omega) h30
  by_cases h31 : z < 113
  · exact zcok_31 z (by omega) h31
  by_cases h32 : z < 119
  · exact zcok_32 z (by omega) h32
  by_cases h33 : z < 121
  · exact zcok_33 z (by omega) h33
  by_cases h34 : z < 122
  · exact zcok_34 z (by omega) h34
  by_cases h35 : z < 124
  · exact zcok_35 z (by omega) h35
  by_cases h36 : z < 127
  · exact zcok_36 z (by omega) h36
  by_cases h37 : z < 129
  · exact zcok_37 z (by omega) h37
  by_cases h38 : z < 132
  · exact zcok_38 z (by omega) h38
  by_cases h39 : z < 135
  · exact zcok_39 z (by omega) h39
  by_cases h40 : z < 138
  · exact zcok_40 z (by omega) h40
  by_cases h41 : z < 141
  · exact zcok_41 z (by omega) h41
  by_cases h42 : z < 144
  · exact zcok_42 z (by omega) h42
  by_cases h43 : z < 147
  · exact zcok_43 z (by omega) h43
  by_cases h44 : z < 151
  · exact zcok_44 z (by omega) h44
  by_cases h45 : z < 155
  · exact zcok_45 z (by omega) h45
  by_cases h46 : z < 156
  · exact zcok_46 z (by omega) h46
  by_cases h47 : z < 163
  · exact zcok_47 z (by omega) h47
  by_cases h48 : z < 165
  · exact zcok_48 z (by omega) h48
  by_cases h49 : z < 166
  · exact zcok_49 z (by omega) h49
  by_cases h50 : z < 170
  · exact zcok_50 z (by omega) h50
  by_cases h51 : z < 173
  · exact zcok_51 z (by omega) h51
  by_cases h52 : z < 174
  · exact zcok_52 z (by omega) h52
  by_cases h53 : z < 177
  · exact zcok_53 z (by omega) h53
  by_cases h54 : z < 178
  · exact zcok_54 z (by omega) h54
  by_cases h55 : z < 181
  · exact zcok_55 z (by omega) h55
  by_cases h56 : z < 182
  · exact zcok_56 z (by omega) h56
  by_cases h57 : z < 183
  · exact zcok_57 z (by omega) h57
  by_cases h58 : z < 184
  · exact zcok_58 z (by omega) h58
  by_cases h59 : z < 185
  · exact zcok_59 z (by omega) h59
  by_cases h60 : z < 188
  · exact zcok_60 z (by omega) h60
  by_cases h61 : z < 189
  · exact zcok_61 z (by omega) h61
  by_cases h62 : z < 190
  · exact zcok_62 z (by omega) h62
  by_cases h63 : z < 193
  · exact zcok_63 z (by omega) h63
  by_cases h64 : z < 198
  · exact zcok_64 z (by omega) h64
  by_cases h65 : z < 199
  · exact zcok_65 z (by omega) h65
  by_cases h66 : z < 205
  · exact zcok_66 z (by omega) h66
  by_cases h67 : z < 206
  · exact zcok_67 z (by omega) h67
  by_cases h68 : z < 207
  · exact zcok_68 z (by omega) h68
  by_cases h69 : z < 211
  · exact zcok_69 z (by omega) h69
  by_cases h70 : z < 214
  · exact zcok_70 z (by omega) h70
  by_cases h71 : z < 215
  · exact zcok_71 z (by omega) h71
  by_cases h72 : z < 216
  · exact zcok_72 z (by omega) h72
  by_cases h73 : z < 218
  · exact zcok_73 z (by omega) h73
  by_cases h74 : z < 221
  · exact zcok_74 z (by omega) h74
  by_cases h75 : z < 222
  · exact zcok_75 z (by omega) h75
  by_cases h76 : z < 223
  · exact zcok_76 z (by omega) h76
  by_cases h77 : z < 226
  · exact zcok_77 z (by omega) h77
  by_cases h78 : z < 227
  · exact zcok_78 z (by omega) h78
  by_cases h79 : z < 230
  · exact zcok_79 z (by omega) h79
  by_cases h80 : z < 232
  · exact zcok_80 z (by omega) h80
  by_cases h81 : z < 234
  · exact zcok_81 z (by omega) h81
  by_cases h82 : z < 236
  · exact zcok_82 z (by omega) h82
  by_cases h83 : z < 238
  · exact zcok_83 z (by omega) h83
  by_cases h84 : z < 241
  · exact zcok_84 z (by omega) h84
  by_cases h85 : z < 242
  · exact zcok_85 z (by omega) h85
  by_cases h86 : z < 244
  · exact zcok_86 z (by omega) h86
  by_cases h87 : z < 245
  · exact zcok_87 z (by omega) h87
  by_cases h88 : z < 246
  · exact zcok_88 z (by omega) h88
  by_cases h89 : z < 247
  · exact zcok_89 z (by omega) h89
  by_cases h90 : z < 249
  · exact zcok_90 z (by omega) h90
  by_cases h91 : z < 253
  · exact zcok_91 z (by omega) h91
  by_cases h92 : z < 255
  · exact zcok_92 z (by omega) h92
  by_cases h93 : z < 258
  · exact zcok_93 z (by omega) h93
  by_cases h94 : z < 261
  · exact zcok_94 z (by omega) h94
  by_cases h95 : z < 265
  · exact zcok_95 z (by omega) h95
  by_cases h96 : z < 274
  · exact zcok_96 z (by omega) h96
  exact zcok_97 z (by omega) h
