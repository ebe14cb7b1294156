theorem mw_X0_greatest : MW0 yX0_greatest cX0_greatest 8 (Option.some ClassFile.FieldType.int) 2 := ⟨wk_3_158, wk_1_7, by decide, by decide, by decide +kernel⟩
theorem mi_X0_greatest : Cond.instanceMethod yX0_greatest ∈ WS := wk_3_156
theorem mv_X0_greatest : Cond.selects "GuardsLookLeft$Gaps" yX0_greatest yX0_greatest ∈ WS := wk_3_157
theorem mw_X1_add : MW0 yX1_add cX1_add 6 (Option.some ClassFile.FieldType.int) 5 := ⟨wk_3_62, wk_1_3, by decide, by decide, by decide +kernel⟩
theorem mi_X1_add : Cond.instanceMethod yX1_add ∈ WS := wk_3_60
theorem mv_X1_add : Cond.selects "GuardsLookLeft$Guards" yX1_add yX1_add ∈ WS := wk_3_61
theorem mw_X1_isOf : MW0 yX1_isOf cX1_isOf 3 (Option.some ClassFile.FieldType.boolean) 2 := ⟨wk_4_141, wk_1_3, by decide, by decide, by decide +kernel⟩
theorem mi_X1_isOf : Cond.instanceMethod yX1_isOf ∈ WS := wk_4_139
theorem mv_X1_isOf : Cond.selects "GuardsLookLeft$Guards" yX1_isOf yX1_isOf ∈ WS := wk_4_140
theorem mw_X9_beside : MW0 yX9_beside cX9_beside 2 (Option.some ClassFile.FieldType.int) 2 := ⟨wk_3_89, wk_1_1, by decide, by decide, by decide +kernel⟩
theorem ms_X9_beside : Cond.static yX9_beside ∈ WS := wk_3_88
theorem mw_X9_isIn : MW0 yX9_isIn cX9_isIn 3 (Option.some ClassFile.FieldType.boolean) 2 := ⟨wk_2_236, wk_1_1, by decide, by decide, by decide +kernel⟩
theorem ms_X9_isIn : Cond.static yX9_isIn ∈ WS := wk_2_235
theorem mw_X1_beat : MW0 yX1_beat cX1_beat 6 (Option.some ClassFile.FieldType.int) 2 := ⟨wk_3_86, wk_1_3, by decide, by decide, by decide +kernel⟩
theorem mi_X1_beat : Cond.instanceMethod yX1_beat ∈ WS := wk_3_85
theorem mv_X1_beat : Cond.selects "GuardsLookLeft$Guards" yX1_beat yX1_beat ∈ WS := wp_15
theorem mw_X1_steps : MW0 yX1_steps cX1_steps 2 (Option.some ClassFile.FieldType.int) 2 := ⟨wk_3_93, wk_1_3, by decide, by decide, by decide +kernel⟩
theorem ms_X1_steps : Cond.static yX1_steps ∈ WS := wk_3_92
theorem mw_X1_isLooking : MW0 yX1_isLooking cX1_isLooking 3 (Option.some ClassFile.FieldType.boolean) 2 := ⟨wk_3_99, wk_1_3, by decide, by decide, by decide +kernel⟩
theorem mi_X1_isLooking : Cond.instanceMethod yX1_isLooking ∈ WS := wk_3_98
theorem mv_X1_isLooking : Cond.selects "GuardsLookLeft$Guards" yX1_isLooking yX1_isLooking ∈ WS := wp_16
theorem mw_X1_walk : MW0 yX1_walk cX1_walk 9 (Option.none : Option ClassFile.FieldType) 3 := ⟨wk_3_82, wk_1_3, by decide, by decide, by decide +kernel⟩
theorem mi_X1_walk : Cond.instanceMethod yX1_walk ∈ WS := wk_3_80
theorem mv_X1_walk : Cond.selects "GuardsLookLeft$Guards" yX1_walk yX1_walk ∈ WS := wk_3_81
theorem mw_X2_take : MW0 yX2_take cX2_take 4 (Option.none : Option ClassFile.FieldType) 3 := ⟨wk_4_98, wk_1_9, by decide, by decide, by decide +kernel⟩
theorem mi_X2_take : Cond.instanceMethod yX2_take ∈ WS := wk_4_96
theorem mv_X2_take : Cond.selects "GuardsLookLeft$Image" yX2_take yX2_take ∈ WS := wk_4_97
theorem mw_X2_giveBack : MW0 yX2_giveBack cX2_giveBack 3 (Option.none : Option ClassFile.FieldType) 2 := ⟨wk_4_107, wk_1_9, by decide, by decide, by decide +kernel⟩
theorem mi_X2_giveBack : Cond.instanceMethod yX2_giveBack ∈ WS := wk_4_105
theorem mv_X2_giveBack : Cond.selects "GuardsLookLeft$Image" yX2_giveBack yX2_giveBack ∈ WS := wk_4_106
theorem mw_X3_floor : MW0 yX3_floor cX3_floor 1 (Option.some ClassFile.FieldType.long) 0 := ⟨wk_3_171, wk_1_2, by decide, by decide, by decide +kernel⟩
theorem mi_X3_floor : Cond.instanceMethod yX3_floor ∈ WS := wk_3_169
theorem mv_X3_floor : Cond.selects "GuardsLookLeft$Palace" yX3_floor yX3_floor ∈ WS := wk_3_170
theorem mw_X3_lit : MW0 yX3_lit cX3_lit 2 (Option.some ClassFile.FieldType.int) 1 := ⟨wk_3_113, wk_1_2, by decide, by decide, by decide +kernel⟩
theorem mi_X3_lit : Cond.instanceMethod yX3_lit ∈ WS := wk_3_111
theorem mv_X3_lit : Cond.selects "GuardsLookLeft$Palace" yX3_lit yX3_lit ∈ WS := wk_3_112
theorem mw_X3_lying : MW0 yX3_lying cX3_lying 4 (Option.some ClassFile.FieldType.int) 1 := ⟨wk_4_137, wk_1_2, by decide, by decide, by decide +kernel⟩
theorem mi_X3_lying : Cond.instanceMethod yX3_lying ∈ WS := wk_4_135
theorem mv_X3_lying : Cond.selects "GuardsLookLeft$Palace" yX3_lying yX3_lying ∈ WS := wk_4_136
theorem mw_X4_add : MW0 yX4_add cX4_add 2 (Option.none : Option ClassFile.FieldType) 1 := ⟨wk_2_90, wk_1_4, by decide, by decide, by decide +kernel⟩
theorem mi_X4_add : Cond.instanceMethod yX4_add ∈ WS := wk_2_88
theorem mv_X4_add : Cond.selects "GuardsLookLeft$Reader" yX4_add yX4_add ∈ WS := wk_2_89
theorem mw_X4_isLetter : MW0 yX4_isLetter cX4_isLetter 1 (Option.some ClassFile.FieldType.boolean) 1 := ⟨wk_2_101, wk_1_4, by decide, by decide, by decide +kernel⟩
theorem ms_X4_isLetter : Cond.static yX4_isLetter ∈ WS := wk_2_100
theorem mw_X4_isWord : MW0 yX4_isWord cX4_isWord 3 (Option.some ClassFile.FieldType.boolean) 1 := ⟨wk_2_114, wk_1_4, by decide, by decide, by decide +kernel⟩
theorem mi_X4_isWord : Cond.instanceMethod yX4_isWord ∈ WS := wk_2_113
theorem mv_X4_isWord : Cond.selects "GuardsLookLeft$Reader" yX4_isWord yX4_isWord ∈ WS := wp_3
theorem mw_X4_nameAtHand : MW0 yX4_nameAtHand cX4_nameAtHand 1 (Option.some ClassFile.FieldType.int) 0 := ⟨wk_2_109, wk_1_4, by decide, by decide, by decide +kernel⟩
theorem mi_X4_nameAtHand : Cond.instanceMethod yX4_nameAtHand ∈ WS := wk_2_108
theorem mv_X4_nameAtHand : Cond.selects "GuardsLookLeft$Reader" yX4_nameAtHand yX4_nameAtHand ∈ WS := wp_2
theorem mw_X4_keyAtHand : MW0 yX4_keyAtHand cX4_keyAtHand 1 (Option.some ClassFile.FieldType.int) 0 := ⟨wk_2_125, wk_1_4, by decide, by decide, by decide +kernel⟩
theorem mi_X4_keyAtHand : Cond.instanceMethod yX4_keyAtHand ∈ WS := wk_2_124
theorem mv_X4_keyAtHand : Cond.selects "GuardsLookLeft$Reader" yX4_keyAtHand yX4_keyAtHand ∈ WS := wp_4
theorem mw_X4_takeWord : MW0 yX4_takeWord cX4_takeWord 2 (Option.none : Option ClassFile.FieldType) 0 := ⟨wk_2_105, wk_1_4, by decide, by decide, by decide +kernel⟩
theorem mi_X4_takeWord : Cond.instanceMethod yX4_takeWord ∈ WS := wk_2_104
theorem mv_X4_takeWord : Cond.selects "GuardsLookLeft$Reader" yX4_takeWord yX4_takeWord ∈ WS := wp_1
theorem mw_X4_isDigit : MW0 yX4_isDigit cX4_isDigit 1 (Option.some ClassFile.FieldType.boolean) 1 := ⟨wk_2_134, wk_1_4, by decide, by decide, by decide +kernel⟩
theorem ms_X4_isDigit : Cond.static yX4_isDigit ∈ WS := wk_2_133
theorem mw_X4_takeDigits : MW0 yX4_takeDigits cX4_takeDigits 1 (Option.none : Option ClassFile.FieldType) 0 := ⟨wk_2_138, wk_1_4, by decide, by decide, by decide +kernel⟩
theorem mi_X4_takeDigits : Cond.instanceMethod yX4_takeDigits ∈ WS := wk_2_137
theorem mv_X4_takeDigits : Cond.selects "GuardsLookLeft$Reader" yX4_takeDigits yX4_takeDigits ∈ WS := wp_5
theorem mw_X4_isSign : MW0 yX4_isSign cX4_isSign 1 (Option.some ClassFile.FieldType.boolean) 1 := ⟨wk_2_141, wk_1_4, by decide, by decide, by decide +kernel⟩
theorem ms_X4_isSign : Cond.static yX4_isSign ∈ WS := wk_2_140
theorem mw_X4_next : MW0 yX4_next cX4_next 1 (Option.none : Option ClassFile.FieldType) 0 := ⟨wk_2_98, wk_1_4, by decide, by decide, by decide +kernel⟩
theorem mi_X4_next : Cond.instanceMethod yX4_next ∈ WS := wk_2_97
theorem mv_X4_next : Cond.selects "GuardsLookLeft$Reader" yX4_next yX4_next ∈ WS := wp_0
theorem mw_X4_write : MW0 yX4_write cX4_write 2 (Option.none : Option ClassFile.FieldType) 1 := ⟨wk_2_159, wk_1_4, by decide, by decide, by decide +kernel⟩
theorem mi_X4_write : Cond.instanceMethod yX4_write ∈ WS := wk_2_158
theorem mv_X4_write : Cond.selects "GuardsLookLeft$Reader" yX4_write yX4_write ∈ WS := wp_9
theorem mw_X4_readEither : MW0 yX4_readEither cX4_readEither 3 (Option.some ClassFile.FieldType.boolean) 1 := ⟨wk_2_147, wk_1_4, by decide, by decide, by decide +kernel⟩
theorem mi_X4_readEither : Cond.instanceMethod yX4_readEither ∈ WS := wk_2_146
theorem mv_X4_readEither : Cond.selects "GuardsLookLeft$Reader" yX4_readEither yX4_readEither ∈ WS := wp_6
theorem mw_X4_readBoth : MW0 yX4_readBoth cX4_readBoth 3 (Option.some ClassFile.FieldType.boolean) 1 := ⟨wk_2_151, wk_1_4, by decide, by decide, by decide +kernel⟩
theorem mi_X4_readBoth : Cond.instanceMethod yX4_readBoth ∈ WS := wk_2_150
theorem mv_X4_readBoth : Cond.selects "GuardsLookLeft$Reader" yX4_readBoth yX4_readBoth ∈ WS := wp_7
theorem mw_X4_readNot : MW0 yX4_readNot cX4_readNot 3 (Option.some ClassFile.FieldType.boolean) 1 := ⟨wk_2_155, wk_1_4, by decide, by decide, by decide +kernel⟩
theorem mi_X4_readNot : Cond.instanceMethod yX4_readNot ∈ WS := wk_2_154
theorem mv_X4_readNot : Cond.selects "GuardsLookLeft$Reader" yX4_readNot yX4_readNot ∈ WS := wp_8
theorem mw_X4_readSum : MW0 yX4_readSum cX4_readSum 4 (Option.some ClassFile.FieldType.boolean) 1 := ⟨wk_2_163, wk_1_4, by decide, by decide, by decide +kernel⟩
theorem mi_X4_readSum : Cond.instanceMethod yX4_readSum ∈ WS := wk_2_162
theorem mv_X4_readSum : Cond.selects "GuardsLookLeft$Reader" yX4_readSum yX4_readSum ∈ WS := wp_10
theorem mw_X4_readTerm : MW0 yX4_readTerm cX4_readTerm 3 (Option.some ClassFile.FieldType.boolean) 1 := ⟨wk_2_167, wk_1_4, by decide, by decide, by decide +kernel⟩
theorem mi_X4_readTerm : Cond.instanceMethod yX4_readTerm ∈ WS := wk_2_166
theorem mv_X4_readTerm : Cond.selects "GuardsLookLeft$Reader" yX4_readTerm yX4_readTerm ∈ WS := wp_11
theorem mw_X4_readOne : MW0 yX4_readOne cX4_readOne 2 (Option.some ClassFile.FieldType.boolean) 1 := ⟨wk_2_171, wk_1_4, by decide, by decide, by decide +kernel⟩
theorem mi_X4_readOne : Cond.instanceMethod yX4_readOne ∈ WS := wk_2_170
theorem mv_X4_readOne : Cond.selects "GuardsLookLeft$Reader" yX4_readOne yX4_readOne ∈ WS := wp_12
theorem mw_X4_read : MW0 yX4_read cX4_read 2 (Option.some ClassFile.FieldType.int) 0 := ⟨wk_2_94, wk_1_4, by decide, by decide, by decide +kernel⟩
theorem mi_X4_read : Cond.instanceMethod yX4_read ∈ WS := wk_2_92
theorem mv_X4_read : Cond.selects "GuardsLookLeft$Reader" yX4_read yX4_read ∈ WS := wk_2_93
theorem mw_J7_fill_53178 : MW0 yJ7_fill_53178 cJ7_fill_53178 4 (Option.none : Option ClassFile.FieldType) 2 := ⟨wk_4_74, wk_1_19, by decide, by decide, by decide +kernel⟩
theorem ms_J7_fill_53178 : Cond.static yJ7_fill_53178 ∈ WS := wk_4_73
theorem mw_X5_become : MW0 yX5_become cX5_become 3 (Option.none : Option ClassFile.FieldType) 2 := ⟨wk_4_71, wk_1_10, by decide, by decide, by decide +kernel⟩
theorem mi_X5_become : Cond.instanceMethod yX5_become ∈ WS := wk_4_69
theorem mv_X5_become : Cond.selects "GuardsLookLeft$Sheet" yX5_become yX5_become ∈ WS := wk_4_70
theorem mw_X5_hasRoom : MW0 yX5_hasRoom cX5_hasRoom 3 (Option.some ClassFile.FieldType.boolean) 2 := ⟨wk_4_123, wk_1_10, by decide, by decide, by decide +kernel⟩
theorem mi_X5_hasRoom : Cond.instanceMethod yX5_hasRoom ∈ WS := wk_4_121
theorem mv_X5_hasRoom : Cond.selects "GuardsLookLeft$Sheet" yX5_hasRoom yX5_hasRoom ∈ WS := wk_4_122
theorem mw_X5_firstOther : MW0 yX5_firstOther cX5_firstOther 4 (Option.some ClassFile.FieldType.int) 2 := ⟨wk_4_46, wk_1_10, by decide, by decide, by decide +kernel⟩
theorem mi_X5_firstOther : Cond.instanceMethod yX5_firstOther ∈ WS := wk_4_44
theorem mv_X5_firstOther : Cond.selects "GuardsLookLeft$Sheet" yX5_firstOther yX5_firstOther ∈ WS := wk_4_45
theorem mw_X6_add : MW0 yX6_add cX6_add 3 (Option.some ClassFile.FieldType.int) 2 := ⟨wk_2_175, wk_1_5, by decide, by decide, by decide +kernel⟩
theorem mi_X6_add : Cond.instanceMethod yX6_add ∈ WS := wk_2_173
theorem mv_X6_add : Cond.selects "GuardsLookLeft$Texts" yX6_add yX6_add ∈ WS := wk_2_174
theorem mw_X6_nameGuard : MW0 yX6_nameGuard cX6_nameGuard 4 (Option.none : Option ClassFile.FieldType) 3 := ⟨wk_3_33, wk_1_5, by decide, by decide, by decide +kernel⟩
theorem mi_X6_nameGuard : Cond.instanceMethod yX6_nameGuard ∈ WS := wk_3_31
theorem mv_X6_nameGuard : Cond.selects "GuardsLookLeft$Texts" yX6_nameGuard yX6_nameGuard ∈ WS := wk_3_32
theorem mw_X6_nameCell : MW0 yX6_nameCell cX6_nameCell 4 (Option.none : Option ClassFile.FieldType) 3 := ⟨wk_3_37, wk_1_5, by decide, by decide, by decide +kernel⟩
theorem mi_X6_nameCell : Cond.instanceMethod yX6_nameCell ∈ WS := wk_3_35
theorem mv_X6_nameCell : Cond.selects "GuardsLookLeft$Texts" yX6_nameCell yX6_nameCell ∈ WS := wk_3_36
theorem mw_X6_joined : MW0 yX6_joined cX6_joined 3 (Option.some ClassFile.FieldType.int) 3 := ⟨wk_3_48, wk_1_5, by decide, by decide, by decide +kernel⟩
theorem ms_X6_joined : Cond.static yX6_joined ∈ WS := wk_3_47
theorem mw_X6_value : MW0 yX6_value cX6_value 7 (Option.some ClassFile.FieldType.int) 1 := ⟨wk_3_45, wk_1_5, by decide, by decide, by decide +kernel⟩
theorem mi_X6_value : Cond.instanceMethod yX6_value ∈ WS := wk_3_44
theorem mv_X6_value : Cond.selects "GuardsLookLeft$Texts" yX6_value yX6_value ∈ WS := wp_13
theorem mw_X6_says : MW0 yX6_says cX6_says 3 (Option.some ClassFile.FieldType.int) 1 := ⟨wk_3_41, wk_1_5, by decide, by decide, by decide +kernel⟩
theorem mi_X6_says : Cond.instanceMethod yX6_says ∈ WS := wk_3_39
theorem mv_X6_says : Cond.selects "GuardsLookLeft$Texts" yX6_says yX6_says ∈ WS := wk_3_40
theorem mw_X7_withBeside : MW0 yX7_withBeside cX7_withBeside 8 (Option.some ClassFile.FieldType.long) 1 := ⟨wk_3_192, wk_1_8, by decide, by decide, by decide +kernel⟩
theorem ms_X7_withBeside : Cond.static yX7_withBeside ∈ WS := wk_3_191
theorem mw_J7_rangeCheck_23922 : MW0 yJ7_rangeCheck_23922 cJ7_rangeCheck_23922 3 (Option.none : Option ClassFile.FieldType) 3 := ⟨wk_3_201, wk_1_19, by decide, by decide, by decide +kernel⟩
theorem ms_J7_rangeCheck_23922 : Cond.static yJ7_rangeCheck_23922 ∈ WS := wk_3_200
theorem mw_J7_fill_bad5a : MW0 yJ7_fill_bad5a cJ7_fill_bad5a 6 (Option.none : Option ClassFile.FieldType) 4 := ⟨wk_3_198, wk_1_19, by decide, by decide, by decide +kernel⟩
theorem ms_J7_fill_bad5a : Cond.static yJ7_fill_bad5a ∈ WS := wk_3_197
theorem mw_X7_roam : MW0 yX7_roam cX7_roam 11 (Option.some ClassFile.FieldType.int) 5 := ⟨wk_3_189, wk_1_8, by decide, by decide, by decide +kernel⟩
theorem mi_X7_roam : Cond.instanceMethod yX7_roam ∈ WS := wk_3_187
theorem mv_X7_roam : Cond.selects "GuardsLookLeft$Thief" yX7_roam yX7_roam ∈ WS := wk_3_188
theorem mw_X7_soonest : MW0 yX7_soonest cX7_soonest 7 (Option.some ClassFile.FieldType.int) 5 := ⟨wk_3_185, wk_1_8, by decide, by decide, by decide +kernel⟩
theorem mi_X7_soonest : Cond.instanceMethod yX7_soonest ∈ WS := wk_3_183
theorem mv_X7_soonest : Cond.selects "GuardsLookLeft$Thief" yX7_soonest yX7_soonest ∈ WS := wk_3_184
theorem mw_X7_starts : MW0 yX7_starts cX7_starts 8 (Option.some ClassFile.FieldType.int) 4 := ⟨wk_3_227, wk_1_8, by decide, by decide, by decide +kernel⟩
theorem mi_X7_starts : Cond.instanceMethod yX7_starts ∈ WS := wk_3_225
theorem mv_X7_starts : Cond.selects "GuardsLookLeft$Thief" yX7_starts yX7_starts ∈ WS := wk_3_226
theorem mw_X7_cameFrom : MW0 yX7_cameFrom cX7_cameFrom 5 (Option.some ClassFile.FieldType.int) 2 := ⟨wk_3_212, wk_1_8, by decide, by decide, by decide +kernel⟩
theorem ms_X7_cameFrom : Cond.static yX7_cameFrom ∈ WS := wk_3_211
theorem mw_X7_before : MW0 yX7_before cX7_before 6 (Option.some ClassFile.FieldType.int) 3 := ⟨wk_3_209, wk_1_8, by decide, by decide, by decide +kernel⟩
theorem mi_X7_before : Cond.instanceMethod yX7_before ∈ WS := wk_3_207
theorem mv_X7_before : Cond.selects "GuardsLookLeft$Thief" yX7_before yX7_before ∈ WS := wk_3_208
theorem mw_X9_leftOf : MW0 yX9_leftOf cX9_leftOf 1 (Option.some ClassFile.FieldType.int) 1 := ⟨wk_3_119, wk_1_1, by decide, by decide, by decide +kernel⟩
theorem ms_X9_leftOf : Cond.static yX9_leftOf ∈ WS := wk_3_118
theorem mw_X8_sight : MW0 yX8_sight cX8_sight 9 (Option.some ClassFile.FieldType.long) 2 := ⟨wk_3_107, wk_1_6, by decide, by decide, by decide +kernel⟩
theorem mi_X8_sight : Cond.instanceMethod yX8_sight ∈ WS := wk_3_105
theorem mv_X8_sight : Cond.selects "GuardsLookLeft$Watch" yX8_sight yX8_sight ∈ WS := wk_3_106
theorem mw_J7_fill_d0a16 : MW0 yJ7_fill_d0a16 cJ7_fill_d0a16 5 (Option.none : Option ClassFile.FieldType) 2 := ⟨wk_3_141, wk_1_19, by decide, by decide, by decide +kernel⟩
theorem ms_J7_fill_d0a16 : Cond.static yJ7_fill_d0a16 ∈ WS := wk_3_140
theorem mw_X8_addKnown : MW0 yX8_addKnown cX8_addKnown 3 (Option.none : Option ClassFile.FieldType) 1 := ⟨wk_3_145, wk_1_6, by decide, by decide, by decide +kernel⟩
theorem mi_X8_addKnown : Cond.instanceMethod yX8_addKnown ∈ WS := wk_3_144
theorem mv_X8_addKnown : Cond.selects "GuardsLookLeft$Watch" yX8_addKnown yX8_addKnown ∈ WS := wp_18
theorem mw_X8_supposeBribed : MW0 yX8_supposeBribed cX8_supposeBribed 3 (Option.none : Option ClassFile.FieldType) 1 := ⟨wk_3_138, wk_1_6, by decide, by decide, by decide +kernel⟩
theorem mi_X8_supposeBribed : Cond.instanceMethod yX8_supposeBribed ∈ WS := wk_3_136
theorem mv_X8_supposeBribed : Cond.selects "GuardsLookLeft$Watch" yX8_supposeBribed yX8_supposeBribed ∈ WS := wk_3_137
theorem mw_X8_refresh : MW0 yX8_refresh cX8_refresh 5 (Option.none : Option ClassFile.FieldType) 0 := ⟨wk_3_133, wk_1_6, by decide, by decide, by decide +kernel⟩
theorem mi_X8_refresh : Cond.instanceMethod yX8_refresh ∈ WS := wk_3_131
theorem mv_X8_refresh : Cond.selects "GuardsLookLeft$Watch" yX8_refresh yX8_refresh ∈ WS := wk_3_132
theorem mw_X8_addFound : MW0 yX8_addFound cX8_addFound 5 (Option.none : Option ClassFile.FieldType) 1 := ⟨wk_4_6, wk_1_6, by decide, by decide, by decide +kernel⟩
theorem mi_X8_addFound : Cond.instanceMethod yX8_addFound ∈ WS := wk_4_5
theorem mv_X8_addFound : Cond.selects "GuardsLookLeft$Watch" yX8_addFound yX8_addFound ∈ WS := wp_20
theorem mw_X8_supposeLaid : MW0 yX8_supposeLaid cX8_supposeLaid 8 (Option.some ClassFile.FieldType.boolean) 2 := ⟨wk_4_2, wk_1_6, by decide, by decide, by decide +kernel⟩
theorem mi_X8_supposeLaid : Cond.instanceMethod yX8_supposeLaid ∈ WS := wk_4_0
theorem mv_X8_supposeLaid : Cond.selects "GuardsLookLeft$Watch" yX8_supposeLaid yX8_supposeLaid ∈ WS := wk_4_1
theorem mw_X8_supposeAhead : MW0 yX8_supposeAhead cX8_supposeAhead 4 (Option.none : Option ClassFile.FieldType) 2 := ⟨wk_4_14, wk_1_6, by decide, by decide, by decide +kernel⟩
theorem mi_X8_supposeAhead : Cond.instanceMethod yX8_supposeAhead ∈ WS := wk_4_12
theorem mv_X8_supposeAhead : Cond.selects "GuardsLookLeft$Watch" yX8_supposeAhead yX8_supposeAhead ∈ WS := wk_4_13
theorem mw_X8_supposeLaw : MW0 yX8_supposeLaw cX8_supposeLaw 4 (Option.none : Option ClassFile.FieldType) 1 := ⟨wk_4_59, wk_1_6, by decide, by decide, by decide +kernel⟩
theorem mi_X8_supposeLaw : Cond.instanceMethod yX8_supposeLaw ∈ WS := wk_4_57
theorem mv_X8_supposeLaw : Cond.selects "GuardsLookLeft$Watch" yX8_supposeLaw yX8_supposeLaw ∈ WS := wk_4_58
theorem mw_X8_supposeLots : MW0 yX8_supposeLots cX8_supposeLots 6 (Option.none : Option ClassFile.FieldType) 1 := ⟨wk_4_83, wk_1_6, by decide, by decide, by decide +kernel⟩
theorem mi_X8_supposeLots : Cond.instanceMethod yX8_supposeLots ∈ WS := wk_4_81
theorem mv_X8_supposeLots : Cond.selects "GuardsLookLeft$Watch" yX8_supposeLots yX8_supposeLots ∈ WS := wk_4_82
theorem mw_X9_isWithin : MW0 yX9_isWithin cX9_isWithin 2 (Option.some ClassFile.FieldType.boolean) 2 := ⟨wk_2_217, wk_1_1, by decide, by decide, by decide +kernel⟩
theorem ms_X9_isWithin : Cond.static yX9_isWithin ∈ WS := wk_2_216
theorem mw_X9_isCell : MW0 yX9_isCell cX9_isCell 1 (Option.some ClassFile.FieldType.boolean) 1 := ⟨wk_2_233, wk_1_1, by decide, by decide, by decide +kernel⟩
theorem ms_X9_isCell : Cond.static yX9_isCell ∈ WS := wk_2_232
theorem mw_X9_areCells : MW0 yX9_areCells cX9_areCells 2 (Option.some ClassFile.FieldType.boolean) 1 := ⟨wk_2_220, wk_1_1, by decide, by decide, by decide +kernel⟩
theorem ms_X9_areCells : Cond.static yX9_areCells ∈ WS := wk_2_219
theorem mw_X9_isLayer : MW0 yX9_isLayer cX9_isLayer 1 (Option.some ClassFile.FieldType.boolean) 1 := ⟨wk_2_214, wk_1_1, by decide, by decide, by decide +kernel⟩
theorem ms_X9_isLayer : Cond.static yX9_isLayer ∈ WS := wk_2_213
theorem mw_X9_isSecond : MW0 yX9_isSecond cX9_isSecond 1 (Option.some ClassFile.FieldType.boolean) 1 := ⟨wk_3_29, wk_1_1, by decide, by decide, by decide +kernel⟩
theorem ms_X9_isSecond : Cond.static yX9_isSecond ∈ WS := wk_3_28
theorem mw_X9_isSheet : MW0 yX9_isSheet cX9_isSheet 1 (Option.some ClassFile.FieldType.boolean) 1 := ⟨wk_4_42, wk_1_1, by decide, by decide, by decide +kernel⟩
theorem ms_X9_isSheet : Cond.static yX9_isSheet ∈ WS := wk_4_41
theorem mw_X9_isGuard : MW0 yX9_isGuard cX9_isGuard 2 (Option.some ClassFile.FieldType.boolean) 1 := ⟨wk_3_70, wk_1_1, by decide, by decide, by decide +kernel⟩
theorem mi_X9_isGuard : Cond.instanceMethod yX9_isGuard ∈ WS := wk_3_69
theorem mv_X9_isGuard : Cond.selects "GuardsLookLeft" yX9_isGuard yX9_isGuard ∈ WS := wp_14
theorem mw_X9_lay : MW0 yX9_lay cX9_lay 6 (Option.some ClassFile.FieldType.long) 2 := ⟨wk_2_211, wk_1_1, by decide, by decide, by decide +kernel⟩
theorem mi_X9_lay : Cond.instanceMethod yX9_lay ∈ WS := wk_2_209
theorem mv_X9_lay : Cond.selects "GuardsLookLeft" yX9_lay yX9_lay ∈ WS := wk_2_210
theorem mw_X9_laid : MW0 yX9_laid cX9_laid 2 (Option.some ClassFile.FieldType.long) 1 := ⟨wk_2_226, wk_1_1, by decide, by decide, by decide +kernel⟩
theorem mi_X9_laid : Cond.instanceMethod yX9_laid ∈ WS := wk_2_224
theorem mv_X9_laid : Cond.selects "GuardsLookLeft" yX9_laid yX9_laid ∈ WS := wk_2_225
theorem mw_X9_put : MW0 yX9_put cX9_put 7 (Option.some ClassFile.FieldType.int) 3 := ⟨wk_2_230, wk_1_1, by decide, by decide, by decide +kernel⟩
theorem mi_X9_put : Cond.instanceMethod yX9_put ∈ WS := wk_2_228
theorem mv_X9_put : Cond.selects "GuardsLookLeft" yX9_put yX9_put ∈ WS := wk_2_229
theorem mw_J13_bitCount_95d88 : MW0 yJ13_bitCount_95d88 cJ13_bitCount_95d88 2 (Option.some ClassFile.FieldType.int) 1 := ⟨wk_3_4, wk_1_17, by decide, by decide, by decide +kernel⟩
theorem ms_J13_bitCount_95d88 : Cond.static yJ13_bitCount_95d88 ∈ WS := wk_3_3
theorem mw_X9_count : MW0 yX9_count cX9_count 2 (Option.some ClassFile.FieldType.int) 1 := ⟨wk_3_1, wk_1_1, by decide, by decide, by decide +kernel⟩
theorem mi_X9_count : Cond.instanceMethod yX9_count ∈ WS := wk_2_239
theorem mv_X9_count : Cond.selects "GuardsLookLeft" yX9_count yX9_count ∈ WS := wk_3_0
theorem mw_X9_isByte : MW0 yX9_isByte cX9_isByte 1 (Option.some ClassFile.FieldType.boolean) 1 := ⟨wk_3_14, wk_1_1, by decide, by decide, by decide +kernel⟩
theorem ms_X9_isByte : Cond.static yX9_isByte ∈ WS := wk_3_13
theorem mw_X9_feed : MW0 yX9_feed cX9_feed 8 (Option.some ClassFile.FieldType.int) 6 := ⟨wk_3_11, wk_1_1, by decide, by decide, by decide +kernel⟩
theorem mi_X9_feed : Cond.instanceMethod yX9_feed ∈ WS := wk_3_9
theorem mv_X9_feed : Cond.selects "GuardsLookLeft" yX9_feed yX9_feed ∈ WS := wk_3_10
theorem mw_X9_text : MW0 yX9_text cX9_text 2 (Option.some ClassFile.FieldType.int) 0 := ⟨wk_3_18, wk_1_1, by decide, by decide, by decide +kernel⟩
theorem mi_X9_text : Cond.instanceMethod yX9_text ∈ WS := wk_3_16
theorem mv_X9_text : Cond.selects "GuardsLookLeft" yX9_text yX9_text ∈ WS := wk_3_17
theorem mw_X9_force : MW0 yX9_force cX9_force 3 (Option.some ClassFile.FieldType.int) 1 := ⟨wk_3_22, wk_1_1, by decide, by decide, by decide +kernel⟩
theorem mi_X9_force : Cond.instanceMethod yX9_force ∈ WS := wk_3_20
theorem mv_X9_force : Cond.selects "GuardsLookLeft" yX9_force yX9_force ∈ WS := wk_3_21
theorem mw_X9_asks : MW0 yX9_asks cX9_asks 6 (Option.some ClassFile.FieldType.int) 5 := ⟨wk_3_26, wk_1_1, by decide, by decide, by decide +kernel⟩
theorem mi_X9_asks : Cond.instanceMethod yX9_asks ∈ WS := wk_3_24
theorem mv_X9_asks : Cond.selects "GuardsLookLeft" yX9_asks yX9_asks ∈ WS := wk_3_25
theorem mw_X9_guard : MW0 yX9_guard cX9_guard 5 (Option.some ClassFile.FieldType.int) 4 := ⟨wk_3_58, wk_1_1, by decide, by decide, by decide +kernel⟩
theorem mi_X9_guard : Cond.instanceMethod yX9_guard ∈ WS := wk_3_56
theorem mv_X9_guard : Cond.selects "GuardsLookLeft" yX9_guard yX9_guard ∈ WS := wk_3_57
theorem mw_X9_set : MW0 yX9_set cX9_set 6 (Option.some ClassFile.FieldType.int) 3 := ⟨wk_3_66, wk_1_1, by decide, by decide, by decide +kernel⟩
theorem mi_X9_set : Cond.instanceMethod yX9_set ∈ WS := wk_3_64
theorem mv_X9_set : Cond.selects "GuardsLookLeft" yX9_set yX9_set ∈ WS := wk_3_65
theorem mw_X9_guardTold : MW0 yX9_guardTold cX9_guardTold 3 (Option.some ClassFile.FieldType.int) 2 := ⟨wk_3_74, wk_1_1, by decide, by decide, by decide +kernel⟩
theorem mi_X9_guardTold : Cond.instanceMethod yX9_guardTold ∈ WS := wk_3_72
theorem mv_X9_guardTold : Cond.selects "GuardsLookLeft" yX9_guardTold yX9_guardTold ∈ WS := wk_3_73
theorem mw_X9_at : MW0 yX9_at cX9_at 4 (Option.some ClassFile.FieldType.int) 3 := ⟨wk_3_78, wk_1_1, by decide, by decide, by decide +kernel⟩
theorem mi_X9_at : Cond.instanceMethod yX9_at ∈ WS := wk_3_76
theorem mv_X9_at : Cond.selects "GuardsLookLeft" yX9_at yX9_at ∈ WS := wk_3_77
theorem mw_X9_sees : MW0 yX9_sees cX9_sees 3 (Option.some ClassFile.FieldType.long) 2 := ⟨wk_3_103, wk_1_1, by decide, by decide, by decide +kernel⟩
theorem mi_X9_sees : Cond.instanceMethod yX9_sees ∈ WS := wk_3_101
theorem mv_X9_sees : Cond.selects "GuardsLookLeft" yX9_sees yX9_sees ∈ WS := wk_3_102
theorem mw_X9_seenNow : MW0 yX9_seenNow cX9_seenNow 1 (Option.some (ClassFile.FieldType.array ClassFile.FieldType.long)) 0 := ⟨wk_3_129, wk_1_1, by decide, by decide, by decide +kernel⟩
theorem mi_X9_seenNow : Cond.instanceMethod yX9_seenNow ∈ WS := wk_3_128
theorem mv_X9_seenNow : Cond.selects "GuardsLookLeft" yX9_seenNow yX9_seenNow ∈ WS := wp_17
theorem mw_X9_watched : MW0 yX9_watched cX9_watched 2 (Option.some ClassFile.FieldType.long) 1 := ⟨wk_3_125, wk_1_1, by decide, by decide, by decide +kernel⟩
theorem mi_X9_watched : Cond.instanceMethod yX9_watched ∈ WS := wk_3_123
theorem mv_X9_watched : Cond.selects "GuardsLookLeft" yX9_watched yX9_watched ∈ WS := wk_3_124
theorem mw_X9_alone : MW0 yX9_alone cX9_alone 5 (Option.some ClassFile.FieldType.int) 1 := ⟨wk_3_150, wk_1_1, by decide, by decide, by decide +kernel⟩
theorem mi_X9_alone : Cond.instanceMethod yX9_alone ∈ WS := wk_3_148
theorem mv_X9_alone : Cond.selects "GuardsLookLeft" yX9_alone yX9_alone ∈ WS := wk_3_149
theorem mw_X9_unseen : MW0 yX9_unseen cX9_unseen 2 (Option.some ClassFile.FieldType.int) 1 := ⟨wk_3_154, wk_1_1, by decide, by decide, by decide +kernel⟩
theorem mi_X9_unseen : Cond.instanceMethod yX9_unseen ∈ WS := wk_3_152
theorem mv_X9_unseen : Cond.selects "GuardsLookLeft" yX9_unseen yX9_unseen ∈ WS := wk_3_153
theorem mw_X9_worthUnseen : MW0 yX9_worthUnseen cX9_worthUnseen 7 (Option.some ClassFile.FieldType.int) 1 := ⟨wk_3_167, wk_1_1, by decide, by decide, by decide +kernel⟩
theorem mi_X9_worthUnseen : Cond.instanceMethod yX9_worthUnseen ∈ WS := wk_3_166
theorem mv_X9_worthUnseen : Cond.selects "GuardsLookLeft" yX9_worthUnseen yX9_worthUnseen ∈ WS := wp_19
theorem mw_X9_firstOf : MW0 yX9_firstOf cX9_firstOf 3 (Option.some ClassFile.FieldType.int) 1 := ⟨wk_3_177, wk_1_1, by decide, by decide, by decide +kernel⟩
theorem ms_X9_firstOf : Cond.static yX9_firstOf ∈ WS := wk_3_176
theorem mw_X9_worst : MW0 yX9_worst cX9_worst 3 (Option.some ClassFile.FieldType.int) 1 := ⟨wk_3_163, wk_1_1, by decide, by decide, by decide +kernel⟩
theorem mi_X9_worst : Cond.instanceMethod yX9_worst ∈ WS := wk_3_161
theorem mv_X9_worst : Cond.selects "GuardsLookLeft" yX9_worst yX9_worst ∈ WS := wk_3_162
theorem mw_X9_soon : MW0 yX9_soon cX9_soon 4 (Option.some ClassFile.FieldType.int) 3 := ⟨wk_3_181, wk_1_1, by decide, by decide, by decide +kernel⟩
theorem mi_X9_soon : Cond.instanceMethod yX9_soon ∈ WS := wk_3_179
theorem mv_X9_soon : Cond.selects "GuardsLookLeft" yX9_soon yX9_soon ∈ WS := wk_3_180
theorem mw_X9_path : MW0 yX9_path cX9_path 6 (Option.some ClassFile.FieldType.int) 4 := ⟨wk_3_205, wk_1_1, by decide, by decide, by decide +kernel⟩
theorem mi_X9_path : Cond.instanceMethod yX9_path ∈ WS := wk_3_203
theorem mv_X9_path : Cond.selects "GuardsLookLeft" yX9_path yX9_path ∈ WS := wk_3_204
theorem mw_X9_hides : MW0 yX9_hides cX9_hides 4 (Option.some ClassFile.FieldType.long) 3 := ⟨wk_3_218, wk_1_1, by decide, by decide, by decide +kernel⟩
theorem mi_X9_hides : Cond.instanceMethod yX9_hides ∈ WS := wk_3_216
theorem mv_X9_hides : Cond.selects "GuardsLookLeft" yX9_hides yX9_hides ∈ WS := wk_3_217
theorem mw_X9_when : MW0 yX9_when cX9_when 3 (Option.some ClassFile.FieldType.int) 2 := ⟨wk_3_223, wk_1_1, by decide, by decide, by decide +kernel⟩
theorem mi_X9_when : Cond.instanceMethod yX9_when ∈ WS := wk_3_221
theorem mv_X9_when : Cond.selects "GuardsLookLeft" yX9_when yX9_when ∈ WS := wk_3_222
theorem mw_J6_bitCount_0f7a4 : MW0 yJ6_bitCount_0f7a4 cJ6_bitCount_0f7a4 1 (Option.some ClassFile.FieldType.int) 1 := ⟨wk_3_235, wk_1_20, by decide, by decide, by decide +kernel⟩
theorem ms_J6_bitCount_0f7a4 : Cond.static yJ6_bitCount_0f7a4 ∈ WS := wk_3_234
theorem mw_X9_more : MW0 yX9_more cX9_more 10 (Option.some ClassFile.FieldType.int) 3 := ⟨wk_3_232, wk_1_1, by decide, by decide, by decide +kernel⟩
theorem mi_X9_more : Cond.instanceMethod yX9_more ∈ WS := wk_3_230
theorem mv_X9_more : Cond.selects "GuardsLookLeft" yX9_more yX9_more ∈ WS := wk_3_231
theorem mw_X9_shift : MW0 yX9_shift cX9_shift 7 (Option.some ClassFile.FieldType.int) 2 := ⟨wk_4_10, wk_1_1, by decide, by decide, by decide +kernel⟩
theorem mi_X9_shift : Cond.instanceMethod yX9_shift ∈ WS := wk_4_8
theorem mv_X9_shift : Cond.selects "GuardsLookLeft" yX9_shift yX9_shift ∈ WS := wk_4_9
theorem mw_X9_holdsWithout : MW0 yX9_holdsWithout cX9_holdsWithout 5 (Option.some ClassFile.FieldType.boolean) 3 := ⟨wk_4_22, wk_1_1, by decide, by decide, by decide +kernel⟩
theorem mi_X9_holdsWithout : Cond.instanceMethod yX9_holdsWithout ∈ WS := wk_4_21
theorem mv_X9_holdsWithout : Cond.selects "GuardsLookLeft" yX9_holdsWithout yX9_holdsWithout ∈ WS := wp_21
theorem mw_X9_holds : MW0 yX9_holds cX9_holds 4 (Option.some ClassFile.FieldType.int) 2 := ⟨wk_4_18, wk_1_1, by decide, by decide, by decide +kernel⟩
theorem mi_X9_holds : Cond.instanceMethod yX9_holds ∈ WS := wk_4_16
theorem mv_X9_holds : Cond.selects "GuardsLookLeft" yX9_holds yX9_holds ∈ WS := wk_4_17
theorem mw_X9_bribes : MW0 yX9_bribes cX9_bribes 6 (Option.some ClassFile.FieldType.int) 2 := ⟨wk_4_27, wk_1_1, by decide, by decide, by decide +kernel⟩
theorem mi_X9_bribes : Cond.instanceMethod yX9_bribes ∈ WS := wk_4_25
theorem mv_X9_bribes : Cond.selects "GuardsLookLeft" yX9_bribes yX9_bribes ∈ WS := wk_4_26
theorem mw_X9_fewest : MW0 yX9_fewest cX9_fewest 9 (Option.some ClassFile.FieldType.int) 3 := ⟨wk_4_31, wk_1_1, by decide, by decide, by decide +kernel⟩
theorem mi_X9_fewest : Cond.instanceMethod yX9_fewest ∈ WS := wk_4_29
theorem mv_X9_fewest : Cond.selects "GuardsLookLeft" yX9_fewest yX9_fewest ∈ WS := wk_4_30
theorem mw_X9_refusalOfTold : MW0 yX9_refusalOfTold cX9_refusalOfTold 3 (Option.some ClassFile.FieldType.int) 2 := ⟨wk_4_39, wk_1_1, by decide, by decide, by decide +kernel⟩
theorem mi_X9_refusalOfTold : Cond.instanceMethod yX9_refusalOfTold ∈ WS := wk_4_38
theorem mv_X9_refusalOfTold : Cond.selects "GuardsLookLeft" yX9_refusalOfTold yX9_refusalOfTold ∈ WS := wp_22
theorem mw_X9_judge : MW0 yX9_judge cX9_judge 4 (Option.some ClassFile.FieldType.int) 2 := ⟨wk_4_35, wk_1_1, by decide, by decide, by decide +kernel⟩
theorem mi_X9_judge : Cond.instanceMethod yX9_judge ∈ WS := wk_4_33
theorem mv_X9_judge : Cond.selects "GuardsLookLeft" yX9_judge yX9_judge ∈ WS := wk_4_34
theorem mw_X9_which : MW0 yX9_which cX9_which 5 (Option.some ClassFile.FieldType.long) 1 := ⟨wk_4_51, wk_1_1, by decide, by decide, by decide +kernel⟩
theorem mi_X9_which : Cond.instanceMethod yX9_which ∈ WS := wk_4_49
theorem mv_X9_which : Cond.selects "GuardsLookLeft" yX9_which yX9_which ∈ WS := wk_4_50
theorem mw_X9_laws : MW0 yX9_laws cX9_laws 6 (Option.some ClassFile.FieldType.int) 2 := ⟨wk_4_55, wk_1_1, by decide, by decide, by decide +kernel⟩
theorem mi_X9_laws : Cond.instanceMethod yX9_laws ∈ WS := wk_4_53
theorem mv_X9_laws : Cond.selects "GuardsLookLeft" yX9_laws yX9_laws ∈ WS := wk_4_54
theorem mw_X9_gone : MW0 yX9_gone cX9_gone 5 (Option.some ClassFile.FieldType.int) 2 := ⟨wk_4_63, wk_1_1, by decide, by decide, by decide +kernel⟩
theorem mi_X9_gone : Cond.instanceMethod yX9_gone ∈ WS := wk_4_61
theorem mv_X9_gone : Cond.selects "GuardsLookLeft" yX9_gone yX9_gone ∈ WS := wk_4_62
theorem mw_X9_film : MW0 yX9_film cX9_film 5 (Option.some ClassFile.FieldType.int) 2 := ⟨wk_4_67, wk_1_1, by decide, by decide, by decide +kernel⟩
theorem mi_X9_film : Cond.instanceMethod yX9_film ∈ WS := wk_4_65
theorem mv_X9_film : Cond.selects "GuardsLookLeft" yX9_film yX9_film ∈ WS := wk_4_66
theorem mw_X9_drawn : MW0 yX9_drawn cX9_drawn 2 (Option.some ClassFile.FieldType.int) 1 := ⟨wk_4_78, wk_1_1, by decide, by decide, by decide +kernel⟩
theorem mi_X9_drawn : Cond.instanceMethod yX9_drawn ∈ WS := wk_4_76
theorem mv_X9_drawn : Cond.selects "GuardsLookLeft" yX9_drawn yX9_drawn ∈ WS := wk_4_77
theorem mw_X9_mean : MW0 yX9_mean cX9_mean 7 (Option.some ClassFile.FieldType.long) 3 := ⟨wk_4_90, wk_1_1, by decide, by decide, by decide +kernel⟩
theorem mi_X9_mean : Cond.instanceMethod yX9_mean ∈ WS := wk_4_88
theorem mv_X9_mean : Cond.selects "GuardsLookLeft" yX9_mean yX9_mean ∈ WS := wk_4_89
theorem mw_X9_image : MW0 yX9_image cX9_image 1 (Option.some ClassFile.FieldType.int) 0 := ⟨wk_4_94, wk_1_1, by decide, by decide, by decide +kernel⟩
theorem mi_X9_image : Cond.instanceMethod yX9_image ∈ WS := wk_4_92
theorem mv_X9_image : Cond.selects "GuardsLookLeft" yX9_image yX9_image ∈ WS := wk_4_93
theorem mw_X9_back : MW0 yX9_back cX9_back 1 (Option.some ClassFile.FieldType.int) 0 := ⟨wk_4_103, wk_1_1, by decide, by decide, by decide +kernel⟩
theorem mi_X9_back : Cond.instanceMethod yX9_back ∈ WS := wk_4_101
theorem mv_X9_back : Cond.selects "GuardsLookLeft" yX9_back yX9_back ∈ WS := wk_4_102
theorem mw_X9_sheet : MW0 yX9_sheet cX9_sheet 4 (Option.some ClassFile.FieldType.int) 3 := ⟨wk_4_111, wk_1_1, by decide, by decide, by decide +kernel⟩
theorem mi_X9_sheet : Cond.instanceMethod yX9_sheet ∈ WS := wk_4_109
theorem mv_X9_sheet : Cond.selects "GuardsLookLeft" yX9_sheet yX9_sheet ∈ WS := wk_4_110
theorem mw_X9_cell : MW0 yX9_cell cX9_cell 5 (Option.some ClassFile.FieldType.int) 3 := ⟨wk_4_115, wk_1_1, by decide, by decide, by decide +kernel⟩
theorem mi_X9_cell : Cond.instanceMethod yX9_cell ∈ WS := wk_4_113
theorem mv_X9_cell : Cond.selects "GuardsLookLeft" yX9_cell yX9_cell ∈ WS := wk_4_114
theorem mw_X9_copy : MW0 yX9_copy cX9_copy 8 (Option.some ClassFile.FieldType.int) 5 := ⟨wk_4_119, wk_1_1, by decide, by decide, by decide +kernel⟩
theorem mi_X9_copy : Cond.instanceMethod yX9_copy ∈ WS := wk_4_117
theorem mv_X9_copy : Cond.selects "GuardsLookLeft" yX9_copy yX9_copy ∈ WS := wk_4_118
theorem mw_X9_guardsBy : MW0 yX9_guardsBy cX9_guardsBy 10 (Option.some ClassFile.FieldType.int) 4 := ⟨wk_4_128, wk_1_1, by decide, by decide, by decide +kernel⟩
theorem mi_X9_guardsBy : Cond.instanceMethod yX9_guardsBy ∈ WS := wk_4_126
theorem mv_X9_guardsBy : Cond.selects "GuardsLookLeft" yX9_guardsBy yX9_guardsBy ∈ WS := wk_4_127
theorem mw_X9_taken : MW0 yX9_taken cX9_taken 4 (Option.some ClassFile.FieldType.int) 2 := ⟨wk_4_133, wk_1_1, by decide, by decide, by decide +kernel⟩
theorem mi_X9_taken : Cond.instanceMethod yX9_taken ∈ WS := wk_4_131
theorem mv_X9_taken : Cond.selects "GuardsLookLeft" yX9_taken yX9_taken ∈ WS := wk_4_132
theorem mw_X10_in : MW0 yX10_in cX10_in 3 (Option.some ClassFile.FieldType.boolean) 3 := ⟨wk_4_160, wk_1_16, by decide, by decide, by decide +kernel⟩
theorem ms_X10_in : Cond.static yX10_in ∈ WS := wk_4_159
theorem mw_X10_within : MW0 yX10_within cX10_within 3 (Option.some ClassFile.FieldType.int) 3 := ⟨wk_5_144, wk_1_16, by decide, by decide, by decide +kernel⟩
theorem ms_X10_within : Cond.static yX10_within ∈ WS := wk_5_143
theorem mw_X10_isCell : MW0 yX10_isCell cX10_isCell 1 (Option.some ClassFile.FieldType.boolean) 1 := ⟨wk_5_100, wk_1_16, by decide, by decide, by decide +kernel⟩
theorem ms_X10_isCell : Cond.static yX10_isCell ∈ WS := wk_5_99
theorem mw_X10_isSecond : MW0 yX10_isSecond cX10_isSecond 1 (Option.some ClassFile.FieldType.boolean) 1 := ⟨wk_5_130, wk_1_16, by decide, by decide, by decide +kernel⟩
theorem ms_X10_isSecond : Cond.static yX10_isSecond ∈ WS := wk_5_129
theorem mw_X10_areCells : MW0 yX10_areCells cX10_areCells 2 (Option.some ClassFile.FieldType.boolean) 1 := ⟨wk_5_87, wk_1_16, by decide, by decide, by decide +kernel⟩
theorem ms_X10_areCells : Cond.static yX10_areCells ∈ WS := wk_5_86
theorem mw_X10_isGuard : MW0 yX10_isGuard cX10_isGuard 2 (Option.some ClassFile.FieldType.boolean) 1 := ⟨wk_5_156, wk_1_16, by decide, by decide, by decide +kernel⟩
theorem mi_X10_isGuard : Cond.instanceMethod yX10_isGuard ∈ WS := wk_5_155
theorem mv_X10_isGuard : Cond.selects "GuardsLookLeftModel" yX10_isGuard yX10_isGuard ∈ WS := wp_34
theorem mw_X10_has : MW0 yX10_has cX10_has 3 (Option.some ClassFile.FieldType.boolean) 2 := ⟨wk_5_103, wk_1_16, by decide, by decide, by decide +kernel⟩
theorem ms_X10_has : Cond.static yX10_has ∈ WS := wk_5_102
theorem mw_X10_bitsOf : MW0 yX10_bitsOf cX10_bitsOf 4 (Option.some ClassFile.FieldType.int) 1 := ⟨wk_5_111, wk_1_16, by decide, by decide, by decide +kernel⟩
theorem ms_X10_bitsOf : Cond.static yX10_bitsOf ∈ WS := wk_5_110
theorem mw_X10_lay : MW0 yX10_lay cX10_lay 6 (Option.some ClassFile.FieldType.long) 2 := ⟨wk_5_84, wk_1_16, by decide, by decide, by decide +kernel⟩
theorem mi_X10_lay : Cond.instanceMethod yX10_lay ∈ WS := wk_5_82
theorem mv_X10_lay : Cond.selects "GuardsLookLeftModel" yX10_lay yX10_lay ∈ WS := wk_5_83
theorem mw_X10_laid : MW0 yX10_laid cX10_laid 2 (Option.some ClassFile.FieldType.long) 1 := ⟨wk_5_93, wk_1_16, by decide, by decide, by decide +kernel⟩
theorem mi_X10_laid : Cond.instanceMethod yX10_laid ∈ WS := wk_5_91
theorem mv_X10_laid : Cond.selects "GuardsLookLeftModel" yX10_laid yX10_laid ∈ WS := wk_5_92
theorem mw_X10_put : MW0 yX10_put cX10_put 5 (Option.some ClassFile.FieldType.int) 3 := ⟨wk_5_97, wk_1_16, by decide, by decide, by decide +kernel⟩
theorem mi_X10_put : Cond.instanceMethod yX10_put ∈ WS := wk_5_95
theorem mv_X10_put : Cond.selects "GuardsLookLeftModel" yX10_put yX10_put ∈ WS := wk_5_96
theorem mw_X10_count : MW0 yX10_count cX10_count 2 (Option.some ClassFile.FieldType.int) 1 := ⟨wk_5_108, wk_1_16, by decide, by decide, by decide +kernel⟩
theorem mi_X10_count : Cond.instanceMethod yX10_count ∈ WS := wk_5_106
theorem mv_X10_count : Cond.selects "GuardsLookLeftModel" yX10_count yX10_count ∈ WS := wk_5_107
theorem mw_X10_isByte : MW0 yX10_isByte cX10_isByte 1 (Option.some ClassFile.FieldType.boolean) 1 := ⟨wk_5_118, wk_1_16, by decide, by decide, by decide +kernel⟩
theorem ms_X10_isByte : Cond.static yX10_isByte ∈ WS := wk_5_117
theorem mw_X10_feed : MW0 yX10_feed cX10_feed 8 (Option.some ClassFile.FieldType.int) 6 := ⟨wk_5_115, wk_1_16, by decide, by decide, by decide +kernel⟩
theorem mi_X10_feed : Cond.instanceMethod yX10_feed ∈ WS := wk_5_113
theorem mv_X10_feed : Cond.selects "GuardsLookLeftModel" yX10_feed yX10_feed ∈ WS := wk_5_114
theorem mw_X10_wordFrom : MW0 yX10_wordFrom cX10_wordFrom 6 (Option.some ClassFile.FieldType.int) 2 := ⟨wk_4_164, wk_1_16, by decide, by decide, by decide +kernel⟩
theorem mi_X10_wordFrom : Cond.instanceMethod yX10_wordFrom ∈ WS := wk_4_163
theorem mv_X10_wordFrom : Cond.selects "GuardsLookLeftModel" yX10_wordFrom yX10_wordFrom ∈ WS := wp_24
theorem mw_X10_next : MW0 yX10_next cX10_next 3 (Option.none : Option ClassFile.FieldType) 0 := ⟨wk_4_157, wk_1_16, by decide, by decide, by decide +kernel⟩
theorem mi_X10_next : Cond.instanceMethod yX10_next ∈ WS := wk_4_156
theorem mv_X10_next : Cond.selects "GuardsLookLeftModel" yX10_next yX10_next ∈ WS := wp_23
theorem mw_X10_rank : MW0 yX10_rank cX10_rank 1 (Option.some ClassFile.FieldType.int) 1 := ⟨wk_4_180, wk_1_16, by decide, by decide, by decide +kernel⟩
theorem ms_X10_rank : Cond.static yX10_rank ∈ WS := wk_4_179
theorem mw_X10_puts : MW0 yX10_puts cX10_puts 2 (Option.none : Option ClassFile.FieldType) 1 := ⟨wk_4_173, wk_1_16, by decide, by decide, by decide +kernel⟩
theorem mi_X10_puts : Cond.instanceMethod yX10_puts ∈ WS := wk_4_172
theorem mv_X10_puts : Cond.selects "GuardsLookLeftModel" yX10_puts yX10_puts ∈ WS := wp_26
theorem mw_X10_unwinds : MW0 yX10_unwinds cX10_unwinds 3 (Option.none : Option ClassFile.FieldType) 1 := ⟨wk_4_177, wk_1_16, by decide, by decide, by decide +kernel⟩
theorem mi_X10_unwinds : Cond.instanceMethod yX10_unwinds ∈ WS := wk_4_176
theorem mv_X10_unwinds : Cond.selects "GuardsLookLeftModel" yX10_unwinds yX10_unwinds ∈ WS := wp_27
theorem mw_X10_holds : MW0 yX10_holds cX10_holds 2 (Option.none : Option ClassFile.FieldType) 1 := ⟨wk_4_188, wk_1_16, by decide, by decide, by decide +kernel⟩
theorem mi_X10_holds : Cond.instanceMethod yX10_holds ∈ WS := wk_4_187
theorem mv_X10_holds : Cond.selects "GuardsLookLeftModel" yX10_holds yX10_holds ∈ WS := wp_29
theorem mw_X10_opensOne : MW0 yX10_opensOne cX10_opensOne 2 (Option.some ClassFile.FieldType.boolean) 1 := ⟨wk_4_184, wk_1_16, by decide, by decide, by decide +kernel⟩
theorem mi_X10_opensOne : Cond.instanceMethod yX10_opensOne ∈ WS := wk_4_183
theorem mv_X10_opensOne : Cond.selects "GuardsLookLeftModel" yX10_opensOne yX10_opensOne ∈ WS := wp_28
theorem mw_X10_between : MW0 yX10_between cX10_between 2 (Option.some ClassFile.FieldType.boolean) 1 := ⟨wk_4_196, wk_1_16, by decide, by decide, by decide +kernel⟩
theorem mi_X10_between : Cond.instanceMethod yX10_between ∈ WS := wk_4_195
theorem mv_X10_between : Cond.selects "GuardsLookLeftModel" yX10_between yX10_between ∈ WS := wp_31
theorem mw_X10_signOf : MW0 yX10_signOf cX10_signOf 1 (Option.some ClassFile.FieldType.int) 0 := ⟨wk_4_192, wk_1_16, by decide, by decide, by decide +kernel⟩
theorem mi_X10_signOf : Cond.instanceMethod yX10_signOf ∈ WS := wk_4_191
theorem mv_X10_signOf : Cond.selects "GuardsLookLeftModel" yX10_signOf yX10_signOf ∈ WS := wp_30
theorem mw_X10_eRead : MW0 yX10_eRead cX10_eRead 4 (Option.some ClassFile.FieldType.boolean) 0 := ⟨wk_4_168, wk_1_16, by decide, by decide, by decide +kernel⟩
theorem mi_X10_eRead : Cond.instanceMethod yX10_eRead ∈ WS := wk_4_167
theorem mv_X10_eRead : Cond.selects "GuardsLookLeftModel" yX10_eRead yX10_eRead ∈ WS := wp_25
theorem mw_X10_text : MW0 yX10_text cX10_text 3 (Option.some ClassFile.FieldType.int) 0 := ⟨wk_4_153, wk_1_16, by decide, by decide, by decide +kernel⟩
theorem mi_X10_text : Cond.instanceMethod yX10_text ∈ WS := wk_4_151
theorem mv_X10_text : Cond.selects "GuardsLookLeftModel" yX10_text yX10_text ∈ WS := wk_4_152
theorem mw_X10_two : MW0 yX10_two cX10_two 3 (Option.some ClassFile.FieldType.int) 3 := ⟨wk_5_141, wk_1_16, by decide, by decide, by decide +kernel⟩
theorem ms_X10_two : Cond.static yX10_two ∈ WS := wk_5_140
theorem mw_X10_worth : MW0 yX10_worth cX10_worth 5 (Option.some ClassFile.FieldType.int) 1 := ⟨wk_5_138, wk_1_16, by decide, by decide, by decide +kernel⟩
theorem mi_X10_worth : Cond.instanceMethod yX10_worth ∈ WS := wk_5_137
theorem mv_X10_worth : Cond.selects "GuardsLookLeftModel" yX10_worth yX10_worth ∈ WS := wp_33
theorem mw_X10_force : MW0 yX10_force cX10_force 3 (Option.some ClassFile.FieldType.int) 1 := ⟨wk_5_123, wk_1_16, by decide, by decide, by decide +kernel⟩
theorem mi_X10_force : Cond.instanceMethod yX10_force ∈ WS := wk_5_121
theorem mv_X10_force : Cond.selects "GuardsLookLeftModel" yX10_force yX10_force ∈ WS := wk_5_122
theorem mw_X10_asksOf : MW0 yX10_asksOf cX10_asksOf 9 (Option.some ClassFile.FieldType.int) 7 := ⟨wk_5_134, wk_1_16, by decide, by decide, by decide +kernel⟩
theorem mi_X10_asksOf : Cond.instanceMethod yX10_asksOf ∈ WS := wk_5_133
theorem mv_X10_asksOf : Cond.selects "GuardsLookLeftModel" yX10_asksOf yX10_asksOf ∈ WS := wp_32
theorem mw_X10_asks : MW0 yX10_asks cX10_asks 7 (Option.some ClassFile.FieldType.int) 5 := ⟨wk_5_127, wk_1_16, by decide, by decide, by decide +kernel⟩
theorem mi_X10_asks : Cond.instanceMethod yX10_asks ∈ WS := wk_5_125
theorem mv_X10_asks : Cond.selects "GuardsLookLeftModel" yX10_asks yX10_asks ∈ WS := wk_5_126
theorem mw_X10_guard : MW0 yX10_guard cX10_guard 6 (Option.some ClassFile.FieldType.int) 4 := ⟨wk_5_148, wk_1_16, by decide, by decide, by decide +kernel⟩
theorem mi_X10_guard : Cond.instanceMethod yX10_guard ∈ WS := wk_5_146
theorem mv_X10_guard : Cond.selects "GuardsLookLeftModel" yX10_guard yX10_guard ∈ WS := wk_5_147
theorem mw_X10_set : MW0 yX10_set cX10_set 5 (Option.some ClassFile.FieldType.int) 3 := ⟨wk_5_152, wk_1_16, by decide, by decide, by decide +kernel⟩
theorem mi_X10_set : Cond.instanceMethod yX10_set ∈ WS := wk_5_150
theorem mv_X10_set : Cond.selects "GuardsLookLeftModel" yX10_set yX10_set ∈ WS := wk_5_151
theorem mw_X10_guardTold : MW0 yX10_guardTold cX10_guardTold 3 (Option.some ClassFile.FieldType.int) 2 := ⟨wk_5_160, wk_1_16, by decide, by decide, by decide +kernel⟩
theorem mi_X10_guardTold : Cond.instanceMethod yX10_guardTold ∈ WS := wk_5_158
theorem mv_X10_guardTold : Cond.selects "GuardsLookLeftModel" yX10_guardTold yX10_guardTold ∈ WS := wk_5_159
theorem mw_X10_beside : MW0 yX10_beside cX10_beside 6 (Option.some ClassFile.FieldType.int) 2 := ⟨wk_5_176, wk_1_16, by decide, by decide, by decide +kernel⟩
theorem mi_X10_beside : Cond.instanceMethod yX10_beside ∈ WS := wk_5_175
theorem mv_X10_beside : Cond.selects "GuardsLookLeftModel" yX10_beside yX10_beside ∈ WS := wp_37
theorem mw_X10_own : MW0 yX10_own cX10_own 3 (Option.some ClassFile.FieldType.int) 2 := ⟨wk_5_184, wk_1_16, by decide, by decide, by decide +kernel⟩
theorem mi_X10_own : Cond.instanceMethod yX10_own ∈ WS := wk_5_183
theorem mv_X10_own : Cond.selects "GuardsLookLeftModel" yX10_own yX10_own ∈ WS := wp_39
theorem mw_X10_steps : MW0 yX10_steps cX10_steps 4 (Option.some ClassFile.FieldType.int) 2 := ⟨wk_5_188, wk_1_16, by decide, by decide, by decide +kernel⟩
theorem mi_X10_steps : Cond.instanceMethod yX10_steps ∈ WS := wk_5_187
theorem mv_X10_steps : Cond.selects "GuardsLookLeftModel" yX10_steps yX10_steps ∈ WS := wp_40
theorem mw_X10_looks : MW0 yX10_looks cX10_looks 4 (Option.some ClassFile.FieldType.boolean) 2 := ⟨wk_5_196, wk_1_16, by decide, by decide, by decide +kernel⟩
theorem mi_X10_looks : Cond.instanceMethod yX10_looks ∈ WS := wk_5_195
theorem mv_X10_looks : Cond.selects "GuardsLookLeftModel" yX10_looks yX10_looks ∈ WS := wp_42
theorem mw_X10_beat : MW0 yX10_beat cX10_beat 4 (Option.some ClassFile.FieldType.int) 1 := ⟨wk_5_172, wk_1_16, by decide, by decide, by decide +kernel⟩
theorem mi_X10_beat : Cond.instanceMethod yX10_beat ∈ WS := wk_5_171
theorem mv_X10_beat : Cond.selects "GuardsLookLeftModel" yX10_beat yX10_beat ∈ WS := wp_36
theorem mw_X10_walked : MW0 yX10_walked cX10_walked 4 (Option.some ClassFile.FieldType.int) 2 := ⟨wk_5_180, wk_1_16, by decide, by decide, by decide +kernel⟩
theorem mi_X10_walked : Cond.instanceMethod yX10_walked ∈ WS := wk_5_179
theorem mv_X10_walked : Cond.selects "GuardsLookLeftModel" yX10_walked yX10_walked ∈ WS := wp_38
theorem mw_X10_stands : MW0 yX10_stands cX10_stands 8 (Option.some ClassFile.FieldType.int) 2 := ⟨wk_5_168, wk_1_16, by decide, by decide, by decide +kernel⟩
theorem mi_X10_stands : Cond.instanceMethod yX10_stands ∈ WS := wk_5_167
theorem mv_X10_stands : Cond.selects "GuardsLookLeftModel" yX10_stands yX10_stands ∈ WS := wp_35
theorem mw_X10_turned : MW0 yX10_turned cX10_turned 5 (Option.some ClassFile.FieldType.int) 2 := ⟨wk_5_192, wk_1_16, by decide, by decide, by decide +kernel⟩
theorem mi_X10_turned : Cond.instanceMethod yX10_turned ∈ WS := wk_5_191
theorem mv_X10_turned : Cond.selects "GuardsLookLeftModel" yX10_turned yX10_turned ∈ WS := wp_41
theorem mw_X10_at : MW0 yX10_at cX10_at 4 (Option.some ClassFile.FieldType.int) 3 := ⟨wk_5_164, wk_1_16, by decide, by decide, by decide +kernel⟩
theorem mi_X10_at : Cond.instanceMethod yX10_at ∈ WS := wk_5_162
theorem mv_X10_at : Cond.selects "GuardsLookLeftModel" yX10_at yX10_at ∈ WS := wk_5_163
theorem mw_X10_lit : MW0 yX10_lit cX10_lit 2 (Option.some ClassFile.FieldType.int) 1 := ⟨wk_5_208, wk_1_16, by decide, by decide, by decide +kernel⟩
theorem mi_X10_lit : Cond.instanceMethod yX10_lit ∈ WS := wk_5_207
theorem mv_X10_lit : Cond.selects "GuardsLookLeftModel" yX10_lit yX10_lit ∈ WS := wp_44
theorem mw_X10_seenBy : MW0 yX10_seenBy cX10_seenBy 9 (Option.some ClassFile.FieldType.long) 2 := ⟨wk_5_204, wk_1_16, by decide, by decide, by decide +kernel⟩
theorem mi_X10_seenBy : Cond.instanceMethod yX10_seenBy ∈ WS := wk_5_203
theorem mv_X10_seenBy : Cond.selects "GuardsLookLeftModel" yX10_seenBy yX10_seenBy ∈ WS := wp_43
theorem mw_X10_watches : MW0 yX10_watches cX10_watches 3 (Option.none : Option ClassFile.FieldType) 1 := ⟨wk_5_220, wk_1_16, by decide, by decide, by decide +kernel⟩
theorem mi_X10_watches : Cond.instanceMethod yX10_watches ∈ WS := wk_5_219
theorem mv_X10_watches : Cond.selects "GuardsLookLeftModel" yX10_watches yX10_watches ∈ WS := wp_46
theorem mw_X10_watchesAll : MW0 yX10_watchesAll cX10_watchesAll 2 (Option.none : Option ClassFile.FieldType) 0 := ⟨wk_5_216, wk_1_16, by decide, by decide, by decide +kernel⟩
theorem mi_X10_watchesAll : Cond.instanceMethod yX10_watchesAll ∈ WS := wk_5_215
theorem mv_X10_watchesAll : Cond.selects "GuardsLookLeftModel" yX10_watchesAll yX10_watchesAll ∈ WS := wp_45
theorem mw_X10_seenAt : MW0 yX10_seenAt cX10_seenAt 6 (Option.some ClassFile.FieldType.long) 2 := ⟨wk_5_228, wk_1_16, by decide, by decide, by decide +kernel⟩
theorem mi_X10_seenAt : Cond.instanceMethod yX10_seenAt ∈ WS := wk_5_227
theorem mv_X10_seenAt : Cond.selects "GuardsLookLeftModel" yX10_seenAt yX10_seenAt ∈ WS := wp_48
theorem mw_X10_allGuards : MW0 yX10_allGuards cX10_allGuards 1 (Option.some ClassFile.FieldType.int) 0 := ⟨wk_5_224, wk_1_16, by decide, by decide, by decide +kernel⟩
theorem mi_X10_allGuards : Cond.instanceMethod yX10_allGuards ∈ WS := wk_5_223
theorem mv_X10_allGuards : Cond.selects "GuardsLookLeftModel" yX10_allGuards yX10_allGuards ∈ WS := wp_47
theorem mw_X10_sees : MW0 yX10_sees cX10_sees 3 (Option.some ClassFile.FieldType.long) 2 := ⟨wk_5_200, wk_1_16, by decide, by decide, by decide +kernel⟩
theorem mi_X10_sees : Cond.instanceMethod yX10_sees ∈ WS := wk_5_198
theorem mv_X10_sees : Cond.selects "GuardsLookLeftModel" yX10_sees yX10_sees ∈ WS := wk_5_199
theorem mw_X10_watched : MW0 yX10_watched cX10_watched 2 (Option.some ClassFile.FieldType.long) 1 := ⟨wk_5_212, wk_1_16, by decide, by decide, by decide +kernel⟩
theorem mi_X10_watched : Cond.instanceMethod yX10_watched ∈ WS := wk_5_210
theorem mv_X10_watched : Cond.selects "GuardsLookLeftModel" yX10_watched yX10_watched ∈ WS := wk_5_211
theorem mw_X10_aloneBy : MW0 yX10_aloneBy cX10_aloneBy 5 (Option.some ClassFile.FieldType.int) 2 := ⟨wk_5_236, wk_1_16, by decide, by decide, by decide +kernel⟩
theorem mi_X10_aloneBy : Cond.instanceMethod yX10_aloneBy ∈ WS := wk_5_235
theorem mv_X10_aloneBy : Cond.selects "GuardsLookLeftModel" yX10_aloneBy yX10_aloneBy ∈ WS := wp_49
theorem mw_X10_gapOf : MW0 yX10_gapOf cX10_gapOf 4 (Option.some ClassFile.FieldType.int) 1 := ⟨wk_6_4, wk_1_16, by decide, by decide, by decide +kernel⟩
theorem ms_X10_gapOf : Cond.static yX10_gapOf ∈ WS := wk_6_3
theorem mw_X10_alone : MW0 yX10_alone cX10_alone 2 (Option.some ClassFile.FieldType.int) 1 := ⟨wk_5_232, wk_1_16, by decide, by decide, by decide +kernel⟩
theorem mi_X10_alone : Cond.instanceMethod yX10_alone ∈ WS := wk_5_230
theorem mv_X10_alone : Cond.selects "GuardsLookLeftModel" yX10_alone yX10_alone ∈ WS := wk_5_231
theorem mw_X10_unseen : MW0 yX10_unseen cX10_unseen 2 (Option.some ClassFile.FieldType.int) 1 := ⟨wk_6_0, wk_1_16, by decide, by decide, by decide +kernel⟩
theorem mi_X10_unseen : Cond.instanceMethod yX10_unseen ∈ WS := wk_5_238
theorem mv_X10_unseen : Cond.selects "GuardsLookLeftModel" yX10_unseen yX10_unseen ∈ WS := wk_5_239
theorem mw_X10_findsGaps : MW0 yX10_findsGaps cX10_findsGaps 4 (Option.none : Option ClassFile.FieldType) 0 := ⟨wk_6_12, wk_1_16, by decide, by decide, by decide +kernel⟩
theorem mi_X10_findsGaps : Cond.instanceMethod yX10_findsGaps ∈ WS := wk_6_11
theorem mv_X10_findsGaps : Cond.selects "GuardsLookLeftModel" yX10_findsGaps yX10_findsGaps ∈ WS := wp_50
theorem mw_X10_worthUnseen : MW0 yX10_worthUnseen cX10_worthUnseen 6 (Option.some ClassFile.FieldType.int) 0 := ⟨wk_6_16, wk_1_16, by decide, by decide, by decide +kernel⟩
theorem mi_X10_worthUnseen : Cond.instanceMethod yX10_worthUnseen ∈ WS := wk_6_15
theorem mv_X10_worthUnseen : Cond.selects "GuardsLookLeftModel" yX10_worthUnseen yX10_worthUnseen ∈ WS := wp_51
theorem mw_X10_worst : MW0 yX10_worst cX10_worst 2 (Option.some ClassFile.FieldType.int) 1 := ⟨wk_6_8, wk_1_16, by decide, by decide, by decide +kernel⟩
theorem mi_X10_worst : Cond.instanceMethod yX10_worst ∈ WS := wk_6_6
theorem mv_X10_worst : Cond.selects "GuardsLookLeftModel" yX10_worst yX10_worst ∈ WS := wk_6_7
theorem mw_X10_spread : MW0 yX10_spread cX10_spread 9 (Option.some ClassFile.FieldType.long) 1 := ⟨wk_6_28, wk_1_16, by decide, by decide, by decide +kernel⟩
theorem mi_X10_spread : Cond.instanceMethod yX10_spread ∈ WS := wk_6_27
theorem mv_X10_spread : Cond.selects "GuardsLookLeftModel" yX10_spread yX10_spread ∈ WS := wp_53
theorem mw_X10_sneaks : MW0 yX10_sneaks cX10_sneaks 6 (Option.none : Option ClassFile.FieldType) 2 := ⟨wk_6_24, wk_1_16, by decide, by decide, by decide +kernel⟩
theorem mi_X10_sneaks : Cond.instanceMethod yX10_sneaks ∈ WS := wk_6_23
theorem mv_X10_sneaks : Cond.selects "GuardsLookLeftModel" yX10_sneaks yX10_sneaks ∈ WS := wp_52
theorem mw_X10_soonest : MW0 yX10_soonest cX10_soonest 3 (Option.some ClassFile.FieldType.int) 1 := ⟨wk_6_34, wk_1_16, by decide, by decide, by decide +kernel⟩
theorem mi_X10_soonest : Cond.instanceMethod yX10_soonest ∈ WS := wk_6_33
theorem mv_X10_soonest : Cond.selects "GuardsLookLeftModel" yX10_soonest yX10_soonest ∈ WS := wp_54
theorem mw_X10_soon : MW0 yX10_soon cX10_soon 4 (Option.some ClassFile.FieldType.int) 3 := ⟨wk_6_20, wk_1_16, by decide, by decide, by decide +kernel⟩
theorem mi_X10_soon : Cond.instanceMethod yX10_soon ∈ WS := wk_6_18
theorem mv_X10_soon : Cond.selects "GuardsLookLeftModel" yX10_soon yX10_soon ∈ WS := wk_6_19
theorem mw_X10_was : MW0 yX10_was cX10_was 5 (Option.some ClassFile.FieldType.int) 2 := ⟨wk_6_42, wk_1_16, by decide, by decide, by decide +kernel⟩
theorem mi_X10_was : Cond.instanceMethod yX10_was ∈ WS := wk_6_41
theorem mv_X10_was : Cond.selects "GuardsLookLeftModel" yX10_was yX10_was ∈ WS := wp_55
theorem mw_X10_path : MW0 yX10_path cX10_path 8 (Option.some ClassFile.FieldType.int) 4 := ⟨wk_6_38, wk_1_16, by decide, by decide, by decide +kernel⟩
theorem mi_X10_path : Cond.instanceMethod yX10_path ∈ WS := wk_6_36
theorem mv_X10_path : Cond.selects "GuardsLookLeftModel" yX10_path yX10_path ∈ WS := wk_6_37
theorem mw_X10_hides : MW0 yX10_hides cX10_hides 4 (Option.some ClassFile.FieldType.long) 3 := ⟨wk_6_46, wk_1_16, by decide, by decide, by decide +kernel⟩
theorem mi_X10_hides : Cond.instanceMethod yX10_hides ∈ WS := wk_6_44
theorem mv_X10_hides : Cond.selects "GuardsLookLeftModel" yX10_hides yX10_hides ∈ WS := wk_6_45
theorem mw_X10_whenFrom : MW0 yX10_whenFrom cX10_whenFrom 5 (Option.some ClassFile.FieldType.int) 2 := ⟨wk_6_54, wk_1_16, by decide, by decide, by decide +kernel⟩
theorem mi_X10_whenFrom : Cond.instanceMethod yX10_whenFrom ∈ WS := wk_6_53
theorem mv_X10_whenFrom : Cond.selects "GuardsLookLeftModel" yX10_whenFrom yX10_whenFrom ∈ WS := wp_56
theorem mw_X10_when : MW0 yX10_when cX10_when 3 (Option.some ClassFile.FieldType.int) 2 := ⟨wk_6_50, wk_1_16, by decide, by decide, by decide +kernel⟩
theorem mi_X10_when : Cond.instanceMethod yX10_when ∈ WS := wk_6_48
theorem mv_X10_when : Cond.selects "GuardsLookLeftModel" yX10_when yX10_when ∈ WS := wk_6_49
theorem mw_X10_more : MW0 yX10_more cX10_more 11 (Option.some ClassFile.FieldType.int) 3 := ⟨wk_6_58, wk_1_16, by decide, by decide, by decide +kernel⟩
theorem mi_X10_more : Cond.instanceMethod yX10_more ∈ WS := wk_6_56
theorem mv_X10_more : Cond.selects "GuardsLookLeftModel" yX10_more yX10_more ∈ WS := wk_6_57
theorem mw_X10_shift : MW0 yX10_shift cX10_shift 7 (Option.some ClassFile.FieldType.int) 2 := ⟨wk_6_62, wk_1_16, by decide, by decide, by decide +kernel⟩
theorem mi_X10_shift : Cond.instanceMethod yX10_shift ∈ WS := wk_6_60
theorem mv_X10_shift : Cond.selects "GuardsLookLeftModel" yX10_shift yX10_shift ∈ WS := wk_6_61
theorem mw_X10_holdsBy : MW0 yX10_holdsBy cX10_holdsBy 6 (Option.some ClassFile.FieldType.boolean) 3 := ⟨wk_6_70, wk_1_16, by decide, by decide, by decide +kernel⟩
theorem mi_X10_holdsBy : Cond.instanceMethod yX10_holdsBy ∈ WS := wk_6_69
theorem mv_X10_holdsBy : Cond.selects "GuardsLookLeftModel" yX10_holdsBy yX10_holdsBy ∈ WS := wp_57
theorem mw_X10_holds_ : MW0 yX10_holds_ cX10_holds_ 4 (Option.some ClassFile.FieldType.int) 2 := ⟨wk_6_66, wk_1_16, by decide, by decide, by decide +kernel⟩
theorem mi_X10_holds_ : Cond.instanceMethod yX10_holds_ ∈ WS := wk_6_64
theorem mv_X10_holds_ : Cond.selects "GuardsLookLeftModel" yX10_holds_ yX10_holds_ ∈ WS := wk_6_65
theorem mw_X10_bribes : MW0 yX10_bribes cX10_bribes 6 (Option.some ClassFile.FieldType.int) 2 := ⟨wk_6_74, wk_1_16, by decide, by decide, by decide +kernel⟩
theorem mi_X10_bribes : Cond.instanceMethod yX10_bribes ∈ WS := wk_6_72
theorem mv_X10_bribes : Cond.selects "GuardsLookLeftModel" yX10_bribes yX10_bribes ∈ WS := wk_6_73
theorem mw_X10_fewest : MW0 yX10_fewest cX10_fewest 8 (Option.some ClassFile.FieldType.int) 3 := ⟨wk_6_78, wk_1_16, by decide, by decide, by decide +kernel⟩
theorem mi_X10_fewest : Cond.instanceMethod yX10_fewest ∈ WS := wk_6_76
theorem mv_X10_fewest : Cond.selects "GuardsLookLeftModel" yX10_fewest yX10_fewest ∈ WS := wk_6_77
theorem mw_X10_sheetWrong : MW0 yX10_sheetWrong cX10_sheetWrong 3 (Option.some ClassFile.FieldType.int) 2 := ⟨wk_6_86, wk_1_16, by decide, by decide, by decide +kernel⟩
theorem mi_X10_sheetWrong : Cond.instanceMethod yX10_sheetWrong ∈ WS := wk_6_85
theorem mv_X10_sheetWrong : Cond.selects "GuardsLookLeftModel" yX10_sheetWrong yX10_sheetWrong ∈ WS := wp_58
theorem mw_X10_unlike : MW0 yX10_unlike cX10_unlike 6 (Option.some ClassFile.FieldType.int) 3 := ⟨wk_6_90, wk_1_16, by decide, by decide, by decide +kernel⟩
theorem mi_X10_unlike : Cond.instanceMethod yX10_unlike ∈ WS := wk_6_89
theorem mv_X10_unlike : Cond.selects "GuardsLookLeftModel" yX10_unlike yX10_unlike ∈ WS := wp_59
theorem mw_X10_judge : MW0 yX10_judge cX10_judge 4 (Option.some ClassFile.FieldType.int) 2 := ⟨wk_6_82, wk_1_16, by decide, by decide, by decide +kernel⟩
theorem mi_X10_judge : Cond.instanceMethod yX10_judge ∈ WS := wk_6_80
theorem mv_X10_judge : Cond.selects "GuardsLookLeftModel" yX10_judge yX10_judge ∈ WS := wk_6_81
theorem mw_X10_which : MW0 yX10_which cX10_which 5 (Option.some ClassFile.FieldType.long) 1 := ⟨wk_6_94, wk_1_16, by decide, by decide, by decide +kernel⟩
theorem mi_X10_which : Cond.instanceMethod yX10_which ∈ WS := wk_6_92
theorem mv_X10_which : Cond.selects "GuardsLookLeftModel" yX10_which yX10_which ∈ WS := wk_6_93
theorem mw_X10_laws : MW0 yX10_laws cX10_laws 7 (Option.some ClassFile.FieldType.int) 2 := ⟨wk_6_98, wk_1_16, by decide, by decide, by decide +kernel⟩
theorem mi_X10_laws : Cond.instanceMethod yX10_laws ∈ WS := wk_6_96
theorem mv_X10_laws : Cond.selects "GuardsLookLeftModel" yX10_laws yX10_laws ∈ WS := wk_6_97
theorem mw_X10_gone : MW0 yX10_gone cX10_gone 5 (Option.some ClassFile.FieldType.int) 2 := ⟨wk_6_102, wk_1_16, by decide, by decide, by decide +kernel⟩
theorem mi_X10_gone : Cond.instanceMethod yX10_gone ∈ WS := wk_6_100
theorem mv_X10_gone : Cond.selects "GuardsLookLeftModel" yX10_gone yX10_gone ∈ WS := wk_6_101
theorem mw_X10_film : MW0 yX10_film cX10_film 5 (Option.some ClassFile.FieldType.int) 2 := ⟨wk_6_106, wk_1_16, by decide, by decide, by decide +kernel⟩
theorem mi_X10_film : Cond.instanceMethod yX10_film ∈ WS := wk_6_104
theorem mv_X10_film : Cond.selects "GuardsLookLeftModel" yX10_film yX10_film ∈ WS := wk_6_105
theorem mw_X10_worstBy : MW0 yX10_worstBy cX10_worstBy 5 (Option.some ClassFile.FieldType.int) 1 := ⟨wk_6_118, wk_1_16, by decide, by decide, by decide +kernel⟩
theorem mi_X10_worstBy : Cond.instanceMethod yX10_worstBy ∈ WS := wk_6_117
theorem mv_X10_worstBy : Cond.selects "GuardsLookLeftModel" yX10_worstBy yX10_worstBy ∈ WS := wp_60
theorem mw_X10_isSeed : MW0 yX10_isSeed cX10_isSeed 1 (Option.some ClassFile.FieldType.boolean) 1 := ⟨wk_6_113, wk_1_16, by decide, by decide, by decide +kernel⟩
theorem ms_X10_isSeed : Cond.static yX10_isSeed ∈ WS := wk_6_112
theorem mw_X10_drawn : MW0 yX10_drawn cX10_drawn 2 (Option.some ClassFile.FieldType.int) 1 := ⟨wk_6_110, wk_1_16, by decide, by decide, by decide +kernel⟩
theorem mi_X10_drawn : Cond.instanceMethod yX10_drawn ∈ WS := wk_6_108
theorem mv_X10_drawn : Cond.selects "GuardsLookLeftModel" yX10_drawn yX10_drawn ∈ WS := wk_6_109
theorem mw_X10_lowest : MW0 yX10_lowest cX10_lowest 11 (Option.some ClassFile.FieldType.long) 3 := ⟨wk_6_128, wk_1_16, by decide, by decide, by decide +kernel⟩
theorem ms_X10_lowest : Cond.static yX10_lowest ∈ WS := wk_6_127
theorem mw_X10_mean : MW0 yX10_mean cX10_mean 7 (Option.some ClassFile.FieldType.long) 3 := ⟨wk_6_125, wk_1_16, by decide, by decide, by decide +kernel⟩
theorem mi_X10_mean : Cond.instanceMethod yX10_mean ∈ WS := wk_6_123
theorem mv_X10_mean : Cond.selects "GuardsLookLeftModel" yX10_mean yX10_mean ∈ WS := wk_6_124
theorem mw_X10_image : MW0 yX10_image cX10_image 2 (Option.some ClassFile.FieldType.int) 0 := ⟨wk_6_132, wk_1_16, by decide, by decide, by decide +kernel⟩
theorem mi_X10_image : Cond.instanceMethod yX10_image ∈ WS := wk_6_130
theorem mv_X10_image : Cond.selects "GuardsLookLeftModel" yX10_image yX10_image ∈ WS := wk_6_131
theorem mw_X10_back : MW0 yX10_back cX10_back 2 (Option.some ClassFile.FieldType.int) 0 := ⟨wk_6_136, wk_1_16, by decide, by decide, by decide +kernel⟩
theorem mi_X10_back : Cond.instanceMethod yX10_back ∈ WS := wk_6_134
theorem mv_X10_back : Cond.selects "GuardsLookLeftModel" yX10_back yX10_back ∈ WS := wk_6_135
theorem mw_X10_sheet : MW0 yX10_sheet cX10_sheet 5 (Option.some ClassFile.FieldType.int) 3 := ⟨wk_6_140, wk_1_16, by decide, by decide, by decide +kernel⟩
theorem mi_X10_sheet : Cond.instanceMethod yX10_sheet ∈ WS := wk_6_138
theorem mv_X10_sheet : Cond.selects "GuardsLookLeftModel" yX10_sheet yX10_sheet ∈ WS := wk_6_139
theorem mw_X10_cell : MW0 yX10_cell cX10_cell 4 (Option.some ClassFile.FieldType.int) 3 := ⟨wk_6_144, wk_1_16, by decide, by decide, by decide +kernel⟩
theorem mi_X10_cell : Cond.instanceMethod yX10_cell ∈ WS := wk_6_142
theorem mv_X10_cell : Cond.selects "GuardsLookLeftModel" yX10_cell yX10_cell ∈ WS := wk_6_143
theorem mw_X10_copy : MW0 yX10_copy cX10_copy 10 (Option.some ClassFile.FieldType.int) 5 := ⟨wk_6_148, wk_1_16, by decide, by decide, by decide +kernel⟩
theorem mi_X10_copy : Cond.instanceMethod yX10_copy ∈ WS := wk_6_146
theorem mv_X10_copy : Cond.selects "GuardsLookLeftModel" yX10_copy yX10_copy ∈ WS := wk_6_147
theorem mw_X10_guardsBy : MW0 yX10_guardsBy cX10_guardsBy 9 (Option.some ClassFile.FieldType.int) 4 := ⟨wk_6_152, wk_1_16, by decide, by decide, by decide +kernel⟩
theorem mi_X10_guardsBy : Cond.instanceMethod yX10_guardsBy ∈ WS := wk_6_150
theorem mv_X10_guardsBy : Cond.selects "GuardsLookLeftModel" yX10_guardsBy yX10_guardsBy ∈ WS := wk_6_151
theorem mw_X10_isUnder : MW0 yX10_isUnder cX10_isUnder 2 (Option.some ClassFile.FieldType.boolean) 2 := ⟨wk_6_160, wk_1_16, by decide, by decide, by decide +kernel⟩
theorem ms_X10_isUnder : Cond.static yX10_isUnder ∈ WS := wk_6_159
theorem mw_X10_taken : MW0 yX10_taken cX10_taken 5 (Option.some ClassFile.FieldType.int) 2 := ⟨wk_6_157, wk_1_16, by decide, by decide, by decide +kernel⟩
theorem mi_X10_taken : Cond.instanceMethod yX10_taken ∈ WS := wk_6_155
theorem mv_X10_taken : Cond.selects "GuardsLookLeftModel" yX10_taken yX10_taken ∈ WS := wk_6_156
theorem mw_J0_length_8abf5 : MW0 yJ0_length_8abf5 cJ0_length_8abf5 1 (Option.some ClassFile.FieldType.int) 0 := ⟨wk_2_42, wk_1_11, by decide, by decide, by decide +kernel⟩
theorem mi_J0_length_8abf5 : Cond.instanceMethod yJ0_length_8abf5 ∈ WS := wk_2_40
theorem mv_J0_length_8abf5 : Cond.selects "java/lang/String" yJ0_length_8abf5 yJ0_length_8abf5 ∈ WS := wk_2_41
theorem mw_J0_charAt_5068e : MW0 yJ0_charAt_5068e cJ0_charAt_5068e 2 (Option.some ClassFile.FieldType.char) 1 := ⟨wk_2_52, wk_1_11, by decide, by decide, by decide +kernel⟩
theorem mi_J0_charAt_5068e : Cond.instanceMethod yJ0_charAt_5068e ∈ WS := wk_2_50
theorem mv_J0_charAt_5068e : Cond.selects "java/lang/String" yJ0_charAt_5068e yJ0_charAt_5068e ∈ WS := wk_2_51
theorem mw_J0_coder_7d493 : MW0 yJ0_coder_7d493 cJ0_coder_7d493 1 (Option.some ClassFile.FieldType.byte) 0 := ⟨wk_2_46, wk_1_11, by decide, by decide, by decide +kernel⟩
theorem mi_J0_coder_7d493 : Cond.instanceMethod yJ0_coder_7d493 ∈ WS := wk_2_44
theorem mv_J0_coder_7d493 : Cond.selects "java/lang/String" yJ0_coder_7d493 yJ0_coder_7d493 ∈ WS := wk_2_45
theorem mw_J0_isLatin1_aae02 : MW0 yJ0_isLatin1_aae02 cJ0_isLatin1_aae02 1 (Option.some ClassFile.FieldType.boolean) 0 := ⟨wk_2_56, wk_1_11, by decide, by decide, by decide +kernel⟩
theorem mi_J0_isLatin1_aae02 : Cond.instanceMethod yJ0_isLatin1_aae02 ∈ WS := wk_2_54
theorem mv_J0_isLatin1_aae02 : Cond.selects "java/lang/String" yJ0_isLatin1_aae02 yJ0_isLatin1_aae02 ∈ WS := wk_2_55
theorem mw_J0_checkIndex_df160 : MW0 yJ0_checkIndex_df160 cJ0_checkIndex_df160 2 (Option.none : Option ClassFile.FieldType) 2 := ⟨wk_2_62, wk_1_11, by decide, by decide, by decide +kernel⟩
theorem ms_J0_checkIndex_df160 : Cond.static yJ0_checkIndex_df160 ∈ WS := wk_2_61
theorem mw_J1_charAt_3b067 : MW0 yJ1_charAt_3b067 cJ1_charAt_3b067 2 (Option.some ClassFile.FieldType.char) 2 := ⟨wk_2_59, wk_1_12, by decide, by decide, by decide +kernel⟩
theorem ms_J1_charAt_3b067 : Cond.static yJ1_charAt_3b067 ∈ WS := wk_2_58
theorem mw_J3_checkIndex_8e157 : MW0 yJ3_checkIndex_8e157 cJ3_checkIndex_8e157 3 (Option.some ClassFile.FieldType.int) 3 := ⟨wk_2_67, wk_1_13, by decide, by decide, by decide +kernel⟩
theorem ms_J3_checkIndex_8e157 : Cond.static yJ3_checkIndex_8e157 ∈ WS := wk_2_66
theorem js_sh : ∀ i, i < 13 → jshr (Int32.ofNat (lenS.getD i 0)) 0 = jslen i := by decide +kernel
section JS
variable {l : Launch} {a : Nat → Nat} {cy : Nat → ClassId} {D : va_G} {ad : Nat → Nat} {A : Nat → Prop} {σ : ST}
set_option maxRecDepth 100000 in
theorem kJ_coder (O : WO NX a (EHX ad A) A) {i : Nat} (hi : i < 13) : Met l yJ0_coder_7d493 (Cond.code yJ0_coder_7d493 cJ0_coder_7d493 1 (some .byte) :: WS) (rmk 0 0) (PC [.ref (ad i)] NX eX a cy D (EHX ad A) σ) (QI NX eX a cy D A 0 σ) 0 0 A := by
  refine met_go (own := "java/lang/String") O (by decide +kernel) rfl (Nat.le_of_ble_eq_true rfl) ?_
  intro p e s m args below meth c ls C hP hS hl
  have hl : lv_has ls 1 [(0, .ref (ad i))] := hl
  refine va_gets C.hx C.hb C.hV.2.2.2.2.2.2.1 hS C.hown (C.ts _ wk_2_47) (fun _ h => h) dJ0_coder_7d493_0 ?_
  refine lv_if_eq (tgt := 13) C.hx C.hb dJ0_coder_7d493_3 (by decide) (fun h => absurd h (by decide)) (fun _ => ?_)
  refine lv_aload_n C.hx C.hb dJ0_coder_7d493_6 rfl (lv_at hl 0 rfl) ?_
  refine vk_getf C.hx C.hb (C.hV.2.1.1 i hi).2.1 hS C.hown (C.ts _ wk_6_163) (fun _ h => h) dJ0_coder_7d493_7 ?_
  refine lv_goto (tgt := 14) C.hx C.hb dJ0_coder_7d493_10 (by decide) ?_
  exact W.zret (v := 0) (ty := .byte) C.hx C.hb C.hr rfl (fun t ht hW => ⟨⟨0, (), rfl, rfl, by show va_P _ _ _ t.heap; rw [ht]; exact hP⟩, hS.F ht⟩) hS.2.2 dJ0_coder_7d493_14 C.lk
set_option maxRecDepth 100000 in
theorem kJ_isLatin1 (O : WO NX a (EHX ad A) A) {i : Nat} (hi : i < 13) : Met l yJ0_isLatin1_aae02 (Cond.code yJ0_isLatin1_aae02 cJ0_isLatin1_aae02 1 (some .boolean) :: WS) (rmk 0 0) (PC [.ref (ad i)] NX eX a cy D (EHX ad A) σ) (QZ NX eX a cy D A 1 σ) 0 0 A := by
  refine met_go (own := "java/lang/String") O (by decide +kernel) rfl (Nat.le_of_ble_eq_true rfl) ?_
  intro p e s m args below meth c ls C hP hS hl
  have hl : lv_has ls 1 [(0, .ref (ad i))] := hl
  refine va_gets C.hx C.hb C.hV.2.2.2.2.2.2.1 hS C.hown (C.ts _ wk_2_47) (fun _ h => h) dJ0_isLatin1_aae02_0 ?_
  refine lv_if_eq (tgt := 17) C.hx C.hb dJ0_isLatin1_aae02_3 (by decide) (fun h => absurd h (by decide)) (fun _ => ?_)
  refine lv_aload_n C.hx C.hb dJ0_isLatin1_aae02_6 rfl (lv_at hl 0 rfl) ?_
  refine vk_getf C.hx C.hb (C.hV.2.1.1 i hi).2.1 hS C.hown (C.ts _ wk_6_163) (fun _ h => h) dJ0_isLatin1_aae02_7 ?_
  refine lv_if_ne (tgt := 17) C.hx C.hb dJ0_isLatin1_aae02_10 (by decide) (fun h => absurd rfl h) (fun _ => ?_)
  refine lv_iconst (v := (1 : Int32)) C.hx C.hb dJ0_isLatin1_aae02_13 (by decide) ?_
  refine lv_goto (tgt := 18) C.hx C.hb dJ0_isLatin1_aae02_14 (by decide) ?_
  exact ret_z C hP hS bz_1 rfl rfl dJ0_isLatin1_aae02_18
set_option maxRecDepth 100000 in
theorem kJ_length (O : WO NX a (EHX ad A) A) {i : Nat} (hi : i < 13) : Met l yJ0_length_8abf5 (Cond.code yJ0_length_8abf5 cJ0_length_8abf5 1 (some .int) :: WS) (rmk 6 200) (PC [.ref (ad i)] NX eX a cy D (EHX ad A) σ) (QI NX eX a cy D A (jslen i) σ) 0 0 A := by
  refine met_go (own := "java/lang/String") O (by decide +kernel) rfl (Nat.le_of_ble_eq_true rfl) ?_
  intro p e s m args below meth c ls C hP hS hl
  have hl : lv_has ls 1 [(0, .ref (ad i))] := hl
  refine lv_aload_n C.hx C.hb dJ0_length_8abf5_0 rfl (lv_at hl 0 rfl) ?_
  refine vk_getf C.hx C.hb (C.hV.2.1.1 i hi).2.2.1 hS C.hown (C.ts _ wk_6_162) (fun _ h => h) dJ0_length_8abf5_1 ?_
  refine va_tlen C.hx C.hb (C.hV.2.1.1 i hi).2.2.2 hS (v := Int32.ofNat (lenS.getD i 0)) rfl dJ0_length_8abf5_4 ?_
  refine lv_aload_n C.hx C.hb dJ0_length_8abf5_5 rfl (lv_at hl 0 rfl) ?_
  refine r_ci (r_runV (As := []) (rest := [.int (Int32.ofNat (lenS.getD i 0))]) C hP hS (vk_recv C.hV.2.1 (i := i) hi hS) (kJ_coder (l := l) O (σ := σ) hi) mw_J0_coder_7d493 mi_J0_coder_7d493 mv_J0_coder_7d493 wk_2_43 ⟨Nat.le_of_ble_eq_true rfl, Nat.le_of_ble_eq_true rfl⟩ ⟨rfl, rfl⟩ ⟨Nat.zero_le _, Nat.zero_le _⟩ rfl hl.1 rfl (Nat.le_of_ble_eq_true rfl) dJ0_length_8abf5_6) hS (fun H locs hP hS => ?_)
  refine r_ishr C dJ0_length_8abf5_9 ?_
  exact ret_i C hP hS (js_sh i hi) rfl dJ0_length_8abf5_10
set_option maxRecDepth 100000 in
theorem kJ_pre (O : WO NX a (EHX ad A) A) {j : Int32} {n : Nat} (hn : n < 2 ^ 31) (hj : vp_in j n) {w : Value} (hw : w = .null ∨ ∃ t, w = .ref t) : Met l yJ3_checkIndex_8e157 (Cond.code yJ3_checkIndex_8e157 cJ3_checkIndex_8e157 3 (some .int) :: WS) (rmk 0 0) (PC [.int j, .int (Int32.ofNat n), w] NX eX a cy D (EHX ad A) σ) (QI NX eX a cy D A j σ) 0 0 A := by
  have h0 : ¬ j < 0 := fun q => hj (Or.inl q)
  have h1 : j < Int32.ofNat n := by
    obtain ⟨k, hk, rfl⟩ := nI_of h0
    have := vp_lt hj
    rw [nI_clamp hk] at this
    exact nI_lt this hn
  rcases hw with rfl | ⟨t, rfl⟩
  · refine met_go (own := "jdk/internal/util/Preconditions") O (by decide +kernel) rfl (Nat.le_of_ble_eq_true rfl) ?_
    intro p e s m args below meth c ls C hP hS hl
    have hl : lv_has ls 3 [(0, .int j), (1, .int (Int32.ofNat n)), (2, .null)] := hl
    refine lv_iload_n C.hx C.hb dJ3_checkIndex_8e157_0 rfl (lv_at hl 0 rfl) ?_
    refine lv_if_lt (tgt := 9) C.hx C.hb dJ3_checkIndex_8e157_1 (by decide) (fun h => absurd h h0) (fun _ => ?_)
    refine lv_iload_n C.hx C.hb dJ3_checkIndex_8e157_4 rfl (lv_at hl 0 rfl) ?_
    refine lv_iload_n C.hx C.hb dJ3_checkIndex_8e157_5 rfl (lv_at hl 1 rfl) ?_
    refine lv_icmp_lt (tgt := 16) C.hx C.hb dJ3_checkIndex_8e157_6 (by decide) (fun _ => ?_) (fun h => absurd h1 h)
    refine lv_iload_n C.hx C.hb dJ3_checkIndex_8e157_16 rfl (lv_at hl 0 rfl) ?_
    exact ret_i C hP hS rfl rfl dJ3_checkIndex_8e157_17
  · refine met_go (own := "jdk/internal/util/Preconditions") O (by decide +kernel) rfl (Nat.le_of_ble_eq_true rfl) ?_
    intro p e s m args below meth c ls C hP hS hl
    have hl : lv_has ls 3 [(0, .int j), (1, .int (Int32.ofNat n)), (2, .ref t)] := hl
    refine lv_iload_n C.hx C.hb dJ3_checkIndex_8e157_0 rfl (lv_at hl 0 rfl) ?_
    refine lv_if_lt (tgt := 9) C.hx C.hb dJ3_checkIndex_8e157_1 (by decide) (fun h => absurd h h0) (fun _ => ?_)
    refine lv_iload_n C.hx C.hb dJ3_checkIndex_8e157_4 rfl (lv_at hl 0 rfl) ?_
    refine lv_iload_n C.hx C.hb dJ3_checkIndex_8e157_5 rfl (lv_at hl 1 rfl) ?_
    refine lv_icmp_lt (tgt := 16) C.hx C.hb dJ3_checkIndex_8e157_6 (by decide) (fun _ => ?_) (fun h => absurd h1 h)
    refine lv_iload_n C.hx C.hb dJ3_checkIndex_8e157_16 rfl (lv_at hl 0 rfl) ?_
    exact ret_i C hP hS rfl rfl dJ3_checkIndex_8e157_17
set_option maxRecDepth 100000 in
theorem kJ_chk (O : WO NX a (EHX ad A) A) {j : Int32} {n : Nat} (hn : n < 2 ^ 31) (hj : vp_in j n) : Met l yJ0_checkIndex_df160 (Cond.code yJ0_checkIndex_df160 cJ0_checkIndex_df160 2 none :: WS) (rmk 1 40) (PC [.int j, .int (Int32.ofNat n)] NX eX a cy D (EHX ad A) σ) (QV NX eX a cy D A σ) 0 0 A := by
  refine met_go (own := "java/lang/String") O (by decide +kernel) rfl (Nat.le_of_ble_eq_true rfl) ?_
  intro p e s m args below meth c ls C hP hS hl
  have hl : lv_has ls 2 [(0, .int j), (1, .int (Int32.ofNat n))] := hl
  refine lv_iload_n C.hx C.hb dJ0_checkIndex_df160_0 rfl (lv_at hl 0 rfl) ?_
  refine lv_iload_n C.hx C.hb dJ0_checkIndex_df160_1 rfl (lv_at hl 1 rfl) ?_
  rcases C.hV.2.2.2.2.2.2.2 with hZ | ⟨t, hZ⟩
  · refine va_gets C.hx C.hb hZ hS C.hown (C.ts _ wk_2_63) (fun _ h => h) dJ0_checkIndex_df160_2 ?_
    refine r_ci (r_runS (As := [.int j, .int (Int32.ofNat n), .null]) (rest := []) C hP hS (kJ_pre (l := l) O (σ := σ) hn hj (Or.inl rfl)) mw_J3_checkIndex_8e157 ms_J3_checkIndex_8e157 wk_2_65 ⟨Nat.le_of_ble_eq_true rfl, Nat.le_of_ble_eq_true rfl⟩ ⟨rfl, rfl⟩ ⟨Nat.zero_le _, Nat.zero_le _⟩ rfl hl.1 rfl (Nat.le_of_ble_eq_true rfl) dJ0_checkIndex_df160_5) hS (fun H locs hP hS => ?_)
    refine lv_pop C.hx C.hb dJ0_checkIndex_df160_8 rfl ?_
    exact ret_v C hP hS rfl dJ0_checkIndex_df160_9
  · refine va_gets C.hx C.hb hZ hS C.hown (C.ts _ wk_2_63) (fun _ h => h) dJ0_checkIndex_df160_2 ?_
    refine r_ci (r_runS (As := [.int j, .int (Int32.ofNat n), .ref t]) (rest := []) C hP hS (kJ_pre (l := l) O (σ := σ) hn hj (Or.inr ⟨t, rfl⟩)) mw_J3_checkIndex_8e157 ms_J3_checkIndex_8e157 wk_2_65 ⟨Nat.le_of_ble_eq_true rfl, Nat.le_of_ble_eq_true rfl⟩ ⟨rfl, rfl⟩ ⟨Nat.zero_le _, Nat.zero_le _⟩ rfl hl.1 rfl (Nat.le_of_ble_eq_true rfl) dJ0_checkIndex_df160_5) hS (fun H locs hP hS => ?_)
    refine lv_pop C.hx C.hb dJ0_checkIndex_df160_8 rfl ?_
    exact ret_v C hP hS rfl dJ0_checkIndex_df160_9
theorem js_len : ∀ i, i < 13 → lenS.getD i 0 < 2 ^ 31 := by decide +kernel
theorem js_chr (z : Int32) : narrow .char (.int ((z &&& 255).toUInt32 % 65536).toInt32) = .int ((z &&& 255).toUInt32 % 65536).toInt32 := by
  obtain ⟨k, hk, e⟩ := pk_andE z (m := 255) 8 (by decide)
  rw [e]
  have : ((nI k).toUInt32 % 65536).toInt32 = nI k := by
    rw [pk_char, pk_tn (by omega), Nat.mod_eq_of_lt (by omega)]
  rw [this]
  exact (pk_charN (by omega)).1
set_option maxRecDepth 100000 in
theorem kJ_chr1 (O : WO NX a (EHX ad A) A) {i : Nat} (hi : i < 13) {j : Int32} (hj : vp_in j (lenS.getD i 0)) : Met l yJ1_charAt_3b067 (Cond.code yJ1_charAt_3b067 cJ1_charAt_3b067 2 (some .char) :: WS) (rmk 2 80) (PC [.ref (ad (20 + i)), .int j] NX eX a cy D (EHX ad A) σ) (QI NX eX a cy D A ((((bytS.getD i []).getD j.toNatClampNeg 0 &&& 255).toUInt32 % 65536).toInt32) σ) 0 0 A := by
  refine met_go (own := "java/lang/StringLatin1") O (by decide +kernel) rfl (Nat.le_of_ble_eq_true rfl) ?_
  intro p e s m args below meth c ls C hP hS hl
  have hl : lv_has ls 2 [(0, .ref (ad (20 + i))), (1, .int j)] := hl
  refine lv_iload_n C.hx C.hb dJ1_charAt_3b067_0 rfl (lv_at hl 1 rfl) ?_
  refine lv_aload_n C.hx C.hb dJ1_charAt_3b067_1 rfl (lv_at hl 0 rfl) ?_
  refine va_tlen C.hx C.hb (C.hV.2.1.1 i hi).2.2.2 hS (v := Int32.ofNat (lenS.getD i 0)) rfl dJ1_charAt_3b067_2 ?_
  refine r_cv (r_runS (As := [.int j, .int (Int32.ofNat (lenS.getD i 0))]) (rest := []) C hP hS (kJ_chk (l := l) O (σ := σ) (js_len i hi) hj) mw_J0_checkIndex_df160 ms_J0_checkIndex_df160 wk_2_60 ⟨Nat.le_of_ble_eq_true rfl, Nat.le_of_ble_eq_true rfl⟩ ⟨rfl, rfl⟩ ⟨Nat.zero_le _, Nat.zero_le _⟩ rfl hl.1 rfl (Nat.le_of_ble_eq_true rfl) dJ1_charAt_3b067_3) hS (fun H locs hP hS => ?_)
  refine lv_aload_n C.hx C.hb dJ1_charAt_3b067_6 rfl (lv_at hl 0 rfl) ?_
  refine lv_iload_n C.hx C.hb dJ1_charAt_3b067_7 rfl (lv_at hl 1 rfl) ?_
  refine va_tb C.hx C.hb (C.hV.2.1.1 i hi).2.2.2 hS hj (v := .int ((bytS.getD i []).getD j.toNatClampNeg 0)) rfl dJ1_charAt_3b067_8 ?_
  refine lv_sipush (v := (255 : Int32)) C.hx C.hb dJ1_charAt_3b067_9 (by decide) ?_
  refine lv_iand C.hx C.hb dJ1_charAt_3b067_12 ?_
  refine lv_i2c C.hx C.hb dJ1_charAt_3b067_13 rfl ?_
  exact W.zret (ty := .char) C.hx C.hb C.hr (js_chr _) (fun t ht hW => ⟨⟨_, (), rfl, rfl, by show va_P _ _ _ t.heap; rw [ht]; exact hP⟩, hS.F ht⟩) hS.2.2 dJ1_charAt_3b067_14 C.lk
set_option maxRecDepth 100000 in
theorem kJ_charAt (O : WO NX a (EHX ad A) A) {i : Nat} (hi : i < 13) {j r : Int32} (hc : jsch i j = some r) : Met l yJ0_charAt_5068e (Cond.code yJ0_charAt_5068e cJ0_charAt_5068e 2 (some .char) :: WS) (rmk 6 200) (PC [.ref (ad i), .int j] NX eX a cy D (EHX ad A) σ) (QI NX eX a cy D A r σ) 0 0 A := by
  obtain ⟨hj, hr⟩ := jix_e hc
  cases hr
  refine met_go (own := "java/lang/String") O (by decide +kernel) rfl (Nat.le_of_ble_eq_true rfl) ?_
  intro p e s m args below meth c ls C hP hS hl
  have hl : lv_has ls 2 [(0, .ref (ad i)), (1, .int j)] := hl
  refine lv_aload_n C.hx C.hb dJ0_charAt_5068e_0 rfl (lv_at hl 0 rfl) ?_
  refine r_cz (r_runV (As := []) (rest := []) C hP hS (vk_recv C.hV.2.1 (i := i) hi hS) (kJ_isLatin1 (l := l) O (σ := σ) hi) mw_J0_isLatin1_aae02 mi_J0_isLatin1_aae02 mv_J0_isLatin1_aae02 wk_2_53 ⟨Nat.le_of_ble_eq_true rfl, Nat.le_of_ble_eq_true rfl⟩ ⟨rfl, rfl⟩ ⟨Nat.zero_le _, Nat.zero_le _⟩ rfl hl.1 rfl (Nat.le_of_ble_eq_true rfl) dJ0_charAt_5068e_1) hS (fun H locs hz hP hS => ?_)
  refine lv_if_eq (tgt := 16) C.hx C.hb dJ0_charAt_5068e_4 (by decide) (fun h => absurd h (by decide)) (fun _ => ?_)
  refine lv_aload_n C.hx C.hb dJ0_charAt_5068e_7 rfl (lv_at hl 0 rfl) ?_
  refine vk_getf C.hx C.hb (C.hV.2.1.1 i hi).2.2.1 hS C.hown (C.ts _ wk_6_162) (fun _ h => h) dJ0_charAt_5068e_8 ?_
  refine lv_iload_n C.hx C.hb dJ0_charAt_5068e_11 rfl (lv_at hl 1 rfl) ?_
  refine r_ci (r_runS (As := [.ref (ad (20 + i)), .int j]) (rest := []) C hP hS (kJ_chr1 (l := l) O (σ := σ) hi hj) mw_J1_charAt_3b067 ms_J1_charAt_3b067 wk_2_57 ⟨Nat.le_of_ble_eq_true rfl, Nat.le_of_ble_eq_true rfl⟩ ⟨rfl, rfl⟩ ⟨Nat.zero_le _, Nat.zero_le _⟩ rfl hl.1 rfl (Nat.le_of_ble_eq_true rfl) dJ0_charAt_5068e_12) hS (fun H locs hP hS => ?_)
  exact W.zret (ty := .char) C.hx C.hb C.hr (js_chr _) (fun t ht hW => ⟨⟨_, (), rfl, rfl, by show va_P _ _ _ t.heap; rw [ht]; exact hP⟩, hS.F ht⟩) hS.2.2 dJ0_charAt_5068e_15 C.lk
end JS
theorem rd_room {l : Launch} {y : MethodName} {ws : List Cond} {Pc : Array Value → State → Prop} {Qc : Array Value → State → Outcome → State → Prop} {free : Addr → Prop} {n : Nat} (h : Met l y ws (rmk (n + 11) (64 * n + 464)) Pc Qc 0 0 free) : Met l y ws (rmk (n + 1 + 10) (64 * (n + 1) + 400)) Pc Qc 0 0 free := by
  have e1 : n + 11 = n + 1 + 10 := by omega
  have e2 : 64 * n + 464 = 64 * (n + 1) + 400 := by omega
  rw [e1, e2] at h
  exact h
