theorem am_chk_b {cc : ByteArray} {p : Nat} {l r : am_T} (h1 : am_chk cc l = true) (h2 : am_chk cc r = true) : am_chk cc (.branch p l r) = true := Bool.and_eq_true_iff.mpr ⟨h1, h2⟩
set_option maxRecDepth 20000 in
theorem mk_0 : am_chk cX0_init mc_0 = true := by decide +kernel
set_option maxRecDepth 20000 in
theorem mk_1 : am_chk cX0_isWon mc_1 = true := by decide +kernel
set_option maxRecDepth 20000 in
theorem mk_2 : am_chk cX0_catches mc_2 = true := by decide +kernel
set_option maxRecDepth 20000 in
theorem mk_3 : am_chk cX0_catchesAll mc_3 = true := by decide +kernel
set_option maxRecDepth 20000 in
theorem mk_4 : am_chk cX1_init mc_4 = true := by decide +kernel
set_option maxRecDepth 20000 in
theorem mk_5 : am_chk cX1_fewestDrops mc_5 = true := by decide +kernel
set_option maxRecDepth 20000 in
theorem mk_6 : am_chk cX1_firstStep mc_6 = true := by decide +kernel
set_option maxRecDepth 20000 in
theorem mk_7 : am_chk cX1_dropsThrough mc_7 = true := by decide +kernel
set_option maxRecDepth 20000 in
theorem mk_8 : am_chk cX1_keepOnly mc_8 = true := by decide +kernel
set_option maxRecDepth 20000 in
theorem mk_9 : am_chk cX1_prepare mc_9 = true := by decide +kernel
set_option maxRecDepth 20000 in
theorem mk_10 : am_chk cX1_chart mc_10 = true := by decide +kernel
set_option maxRecDepth 20000 in
theorem mk_11 : am_chk cX1_chartChange mc_11 = true := by decide +kernel
set_option maxRecDepth 20000 in
theorem mk_12 : am_chk cX1_gather mc_12 = true := by decide +kernel
set_option maxRecDepth 20000 in
theorem mk_13 : am_chk cX1_visit mc_13 = true := by decide +kernel
set_option maxRecDepth 20000 in
theorem mk_14 : am_chk cX1_arrive mc_14 = true := by decide +kernel
set_option maxRecDepth 20000 in
theorem mk_15 : am_chk cX1_finish mc_15 = true := by decide +kernel
set_option maxRecDepth 20000 in
theorem mk_16 : am_chk cX1_spread mc_16 = true := by decide +kernel
set_option maxRecDepth 20000 in
theorem mk_17 : am_chk cX1_codeOfWay mc_17 = true := by decide +kernel
set_option maxRecDepth 20000 in
theorem mk_18 : am_chk cX1_setToGo mc_18 = true := by decide +kernel
set_option maxRecDepth 20000 in
theorem mk_19 : am_chk cX1_firstBestCode mc_19 = true := by decide +kernel
set_option maxRecDepth 20000 in
theorem mk_20 : am_chk cX1_dropsBy mc_20 = true := by decide +kernel
set_option maxRecDepth 20000 in
theorem mk_21 : am_chk cX1_slotOf mc_21 = true := by decide +kernel
set_option maxRecDepth 20000 in
theorem mk_22 : am_chk cX2_init mc_22 = true := by decide +kernel
set_option maxRecDepth 20000 in
theorem mk_23 : am_chk cX2_isEmpty mc_23 = true := by decide +kernel
set_option maxRecDepth 20000 in
theorem mk_24 : am_chk cX2_isShip mc_24 = true := by decide +kernel
set_option maxRecDepth 20000 in
theorem mk_25 : am_chk cX2_isRow mc_25 = true := by decide +kernel
set_option maxRecDepth 20000 in
theorem mk_26 : am_chk cX2_shipNumber mc_26 = true := by decide +kernel
set_option maxRecDepth 20000 in
theorem mk_27 : am_chk cX2_beEmpty mc_27 = true := by decide +kernel
set_option maxRecDepth 20000 in
theorem mk_28 : am_chk cX2_beShip mc_28 = true := by decide +kernel
set_option maxRecDepth 20000 in
theorem mk_29 : am_chk cX2_beRow mc_29 = true := by decide +kernel
set_option maxRecDepth 20000 in
theorem mk_30 : am_chk cX2_hasPart mc_30 = true := by decide +kernel
set_option maxRecDepth 20000 in
theorem mk_31 : am_chk cX2_put mc_31 = true := by decide +kernel
set_option maxRecDepth 20000 in
theorem mk_32 : am_chk cX2_narrowed mc_32 = true := by decide +kernel
set_option maxRecDepth 20000 in
theorem mk_33 : am_chk cX3_init mc_33 = true := by decide +kernel
set_option maxRecDepth 20000 in
theorem mk_34 : am_chk cX3_read mc_34 = true := by decide +kernel
set_option maxRecDepth 20000 in
theorem mk_35 : am_chk cX3_readStatement mc_35 = true := by decide +kernel
set_option maxRecDepth 20000 in
theorem mk_36 : am_chk cX3_readCircles mc_36 = true := by decide +kernel
set_option maxRecDepth 20000 in
theorem mk_37 : am_chk cX3_readTime mc_37 = true := by decide +kernel
set_option maxRecDepth 20000 in
theorem mk_38 : am_chk cX3_readCost mc_38 = true := by decide +kernel
set_option maxRecDepth 20000 in
theorem mk_39 : am_chk cX3_readShip mc_39 = true := by decide +kernel
set_option maxRecDepth 20000 in
theorem mk_40 : am_chk cX3_readSteps mc_40 = true := by decide +kernel
set_option maxRecDepth 20000 in
theorem mk_41 : am_chk cX3_readNumber mc_41 = true := by decide +kernel
set_option maxRecDepth 20000 in
theorem mk_42 : am_chk cX3_numberHere mc_42 = true := by decide +kernel
set_option maxRecDepth 20000 in
theorem mk_43 : am_chk cX3_isWord mc_43 = true := by decide +kernel
set_option maxRecDepth 20000 in
theorem mk_44 : am_chk cX3_takeToken mc_44 = true := by decide +kernel
set_option maxRecDepth 20000 in
theorem mk_45 : am_chk cX3_sortAt mc_45 = true := by decide +kernel
set_option maxRecDepth 20000 in
theorem mk_46 : am_chk cX4_init mc_46 = true := by decide +kernel
set_option maxRecDepth 20000 in
theorem mk_47 : am_chk cX4_become mc_47 = true := by decide +kernel
set_option maxRecDepth 20000 in
theorem mk_48 : am_chk cX4_isWith mc_48 = true := by decide +kernel
set_option maxRecDepth 20000 in
theorem mk_49 : am_chk cX4_isOf mc_49 = true := by decide +kernel
set_option maxRecDepth 20000 in
theorem mk_50 : am_chk cX4_steers mc_50 = true := by decide +kernel
set_option maxRecDepth 20000 in
theorem mk_51 : am_chk cX4_busyBehind mc_51 = true := by decide +kernel
set_option maxRecDepth 20000 in
theorem mk_52 : am_chk cX5_init mc_52 = true := by decide +kernel
set_option maxRecDepth 20000 in
theorem mk_53 : am_chk cX5_become mc_53 = true := by decide +kernel
set_option maxRecDepth 20000 in
theorem mk_54 : am_chk cX5_hasCircle mc_54 = true := by decide +kernel
set_option maxRecDepth 20000 in
theorem mk_55 : am_chk cX5_hasCircleAbove mc_55 = true := by decide +kernel
set_option maxRecDepth 20000 in
theorem mk_56 : am_chk cX5_hasCircleNext mc_56 = true := by decide +kernel
set_option maxRecDepth 20000 in
theorem mk_57 : am_chk cX5_hasPlace mc_57 = true := by decide +kernel
set_option maxRecDepth 20000 in
theorem mk_58 : am_chk cX5_hasShip mc_58 = true := by decide +kernel
set_option maxRecDepth 20000 in
theorem mk_59 : am_chk cX5_hasPair mc_59 = true := by decide +kernel
set_option maxRecDepth 20000 in
theorem mk_60 : am_chk cX5_isFull mc_60 = true := by decide +kernel
set_option maxRecDepth 20000 in
theorem mk_61 : am_chk cX5_timeOf mc_61 = true := by decide +kernel
set_option maxRecDepth 20000 in
theorem mk_62 : am_chk cX5_next mc_62 = true := by decide +kernel
set_option maxRecDepth 20000 in
theorem mk_63 : am_chk cX5_addShip mc_63 = true := by decide +kernel
set_option maxRecDepth 20000 in
theorem mk_64 : am_chk cX5_shipsOn mc_64 = true := by decide +kernel
set_option maxRecDepth 20000 in
theorem mk_65 : am_chk cX5_busyShips mc_65 = true := by decide +kernel
set_option maxRecDepth 20000 in
theorem mk_66 : am_chk cX5_idleOn mc_66 = true := by decide +kernel
set_option maxRecDepth 20000 in
theorem mk_67 : am_chk cX5_allDrops mc_67 = true := by decide +kernel
set_option maxRecDepth 20000 in
theorem mk_68 : am_chk cX5_countMet mc_68 = true := by decide +kernel
set_option maxRecDepth 20000 in
theorem mk_69 : am_chk cX5_price mc_69 = true := by decide +kernel
set_option maxRecDepth 20000 in
theorem mk_70 : am_chk cX5_crossing mc_70 = true := by decide +kernel
set_option maxRecDepth 20000 in
theorem mk_71 : am_chk cX5_landing mc_71 = true := by decide +kernel
set_option maxRecDepth 20000 in
theorem mk_72 : am_chk cX5_isAble mc_72 = true := by decide +kernel
set_option maxRecDepth 20000 in
theorem mk_73 : am_chk cX5_send mc_73 = true := by decide +kernel
set_option maxRecDepth 20000 in
theorem mk_74 : am_chk cX5_drift mc_74 = true := by decide +kernel
set_option maxRecDepth 20000 in
theorem mk_75 : am_chk cX5_placeBehind mc_75 = true := by decide +kernel
set_option maxRecDepth 20000 in
theorem mk_76 : am_chk cX5_fly mc_76 = true := by decide +kernel
set_option maxRecDepth 20000 in
theorem mk_77 : am_chk cX5_advance mc_77 = true := by decide +kernel
set_option maxRecDepth 20000 in
theorem mk_78 : am_chk cX5_pairsHit mc_78 = true := by decide +kernel
set_option maxRecDepth 20000 in
theorem mk_79 : am_chk cX5_isClashBehind mc_79 = true := by decide +kernel
set_option maxRecDepth 20000 in
theorem mk_80 : am_chk cX5_spotOf mc_80 = true := by decide +kernel
set_option maxRecDepth 20000 in
theorem mk_81 : am_chk cX5_spotBehind mc_81 = true := by decide +kernel
set_option maxRecDepth 20000 in
theorem mk_82 : am_chk cX5_draw mc_82 = true := by decide +kernel
set_option maxRecDepth 20000 in
theorem mk_83 : am_chk cX6_init mc_83 = true := by decide +kernel
set_option maxRecDepth 20000 in
theorem mk_84 : am_chk cX6_row mc_84 = true := by decide +kernel
set_option maxRecDepth 20000 in
theorem mk_85 : am_chk cX6_set mc_85 = true := by decide +kernel
set_option maxRecDepth 20000 in
theorem mk_86 : am_chk cX6_copy mc_86 = true := by decide +kernel
set_option maxRecDepth 20000 in
theorem mk_87 : am_chk cX6_element mc_87 = true := by decide +kernel
set_option maxRecDepth 20000 in
theorem mk_88 : am_chk cX6_holds mc_88 = true := by decide +kernel
set_option maxRecDepth 20000 in
theorem mk_89 : am_chk cX6_show mc_89 = true := by decide +kernel
set_option maxRecDepth 20000 in
theorem mk_90 : am_chk cX6_says mc_90 = true := by decide +kernel
set_option maxRecDepth 20000 in
theorem mk_91 : am_chk cX6_circles mc_91 = true := by decide +kernel
set_option maxRecDepth 20000 in
theorem mk_92 : am_chk cX6_time mc_92 = true := by decide +kernel
set_option maxRecDepth 20000 in
theorem mk_93 : am_chk cX6_cost mc_93 = true := by decide +kernel
set_option maxRecDepth 20000 in
theorem mk_94 : am_chk cX6_ship mc_94 = true := by decide +kernel
set_option maxRecDepth 20000 in
theorem mk_95 : am_chk cX6_fill mc_95 = true := by decide +kernel
set_option maxRecDepth 20000 in
theorem mk_96 : am_chk cX6_feed mc_96 = true := by decide +kernel
set_option maxRecDepth 20000 in
theorem mk_97 : am_chk cX6_wipe mc_97 = true := by decide +kernel
set_option maxRecDepth 20000 in
theorem mk_98 : am_chk cX6_world mc_98 = true := by decide +kernel
set_option maxRecDepth 20000 in
theorem mk_99 : am_chk cX6_shipOf mc_99 = true := by decide +kernel
set_option maxRecDepth 20000 in
theorem mk_100 : am_chk cX6_circleOf mc_100 = true := by decide +kernel
set_option maxRecDepth 20000 in
theorem mk_101 : am_chk cX6_can mc_101 = true := by decide +kernel
set_option maxRecDepth 20000 in
theorem mk_102 : am_chk cX6_behind mc_102 = true := by decide +kernel
set_option maxRecDepth 20000 in
theorem mk_103 : am_chk cX6_meets mc_103 = true := by decide +kernel
set_option maxRecDepth 20000 in
theorem mk_104 : am_chk cX6_judge mc_104 = true := by decide +kernel
set_option maxRecDepth 20000 in
theorem mk_105 : am_chk cX6_flown mc_105 = true := by decide +kernel
set_option maxRecDepth 20000 in
theorem mk_106 : am_chk cX6_met mc_106 = true := by decide +kernel
set_option maxRecDepth 20000 in
theorem mk_107 : am_chk cX6_cheapest mc_107 = true := by decide +kernel
set_option maxRecDepth 20000 in
theorem mk_108 : am_chk cX6_soonest mc_108 = true := by decide +kernel
set_option maxRecDepth 20000 in
theorem mk_109 : am_chk cX6_way mc_109 = true := by decide +kernel
set_option maxRecDepth 20000 in
theorem mk_110 : am_chk cX6_round mc_110 = true := by decide +kernel
set_option maxRecDepth 20000 in
theorem mk_111 : am_chk cX6_home mc_111 = true := by decide +kernel
set_option maxRecDepth 20000 in
theorem mk_112 : am_chk cX6_again mc_112 = true := by decide +kernel
set_option maxRecDepth 20000 in
theorem mk_113 : am_chk cX6_pass mc_113 = true := by decide +kernel
set_option maxRecDepth 20000 in
theorem mk_114 : am_chk cX6_queue mc_114 = true := by decide +kernel
set_option maxRecDepth 20000 in
theorem mk_115 : am_chk cX6_fullest mc_115 = true := by decide +kernel
set_option maxRecDepth 20000 in
theorem mk_116 : am_chk cX6_clash mc_116 = true := by decide +kernel
set_option maxRecDepth 20000 in
theorem mk_117 : am_chk cX6_burnt mc_117 = true := by decide +kernel
set_option maxRecDepth 20000 in
theorem mk_118 : am_chk cX6_tag mc_118 = true := by decide +kernel
set_option maxRecDepth 20000 in
theorem mk_119 : am_chk cX6_step mc_119 = true := by decide +kernel
set_option maxRecDepth 20000 in
theorem mk_120 : am_chk cX6_change mc_120 = true := by decide +kernel
set_option maxRecDepth 20000 in
theorem mk_121 : am_chk cX6_hand mc_121 = true := by decide +kernel
set_option maxRecDepth 20000 in
theorem mk_122 : am_chk cX6_hurl mc_122 = true := by decide +kernel
set_option maxRecDepth 20000 in
theorem mk_123 : am_chk cX6_bolts mc_123 = true := by decide +kernel
set_option maxRecDepth 20000 in
theorem mk_124 : am_chk cX6_seed mc_124 = true := by decide +kernel
set_option maxRecDepth 20000 in
theorem mk_125 : am_chk cX6_image mc_125 = true := by decide +kernel
set_option maxRecDepth 20000 in
theorem mk_126 : am_chk cX6_back mc_126 = true := by decide +kernel
set_option maxRecDepth 20000 in
theorem mk_127 : am_chk cX6_status mc_127 = true := by decide +kernel
set_option maxRecDepth 20000 in
theorem mk_128 : am_chk cX6_refuse mc_128 = true := by decide +kernel
set_option maxRecDepth 20000 in
theorem mk_129 : am_chk cX6_refusalsOf mc_129 = true := by decide +kernel
set_option maxRecDepth 20000 in
theorem mk_130 : am_chk cX6_shelvesInUse mc_130 = true := by decide +kernel
set_option maxRecDepth 20000 in
theorem mk_131 : am_chk cX6_rowRefusal mc_131 = true := by decide +kernel
set_option maxRecDepth 20000 in
theorem mk_132 : am_chk cX6_saying mc_132 = true := by decide +kernel
set_option maxRecDepth 20000 in
theorem mk_133 : am_chk cX6_firstWrongCode mc_133 = true := by decide +kernel
set_option maxRecDepth 20000 in
theorem mk_134 : am_chk cX6_firstMeeting mc_134 = true := by decide +kernel
set_option maxRecDepth 20000 in
theorem mk_135 : am_chk cX6_queueAt mc_135 = true := by decide +kernel
set_option maxRecDepth 20000 in
theorem mk_136 : am_chk cX6_areSightings mc_136 = true := by decide +kernel
set_option maxRecDepth 20000 in
theorem mk_137 : am_chk cX6_isSetOfOthers mc_137 = true := by decide +kernel
set_option maxRecDepth 20000 in
theorem mk_138 : am_chk cX6_isFlight mc_138 = true := by decide +kernel
set_option maxRecDepth 20000 in
theorem mk_139 : am_chk cX6_thinking mc_139 = true := by decide +kernel
set_option maxRecDepth 20000 in
theorem mk_140 : am_chk cX6_isShelf mc_140 = true := by decide +kernel
set_option maxRecDepth 20000 in
theorem mk_141 : am_chk cX6_isKind mc_141 = true := by decide +kernel
set_option maxRecDepth 20000 in
theorem mk_142 : am_chk cX6_isChange mc_142 = true := by decide +kernel
set_option maxRecDepth 20000 in
theorem mk_143 : am_chk cX6_areDrops mc_143 = true := by decide +kernel
set_option maxRecDepth 20000 in
theorem mk_144 : am_chk cX6_areSteps mc_144 = true := by decide +kernel
set_option maxRecDepth 20000 in
theorem mk_145 : am_chk cX6_modulo mc_145 = true := by decide +kernel
set_option maxRecDepth 20000 in
theorem mk_146 : am_chk cX6_leastCommonMultiple mc_146 = true := by decide +kernel
set_option maxRecDepth 20000 in
theorem mk_147 : am_chk cX7_init mc_147 = true := by decide +kernel
set_option maxRecDepth 20000 in
theorem mk_148 : am_chk cX7_no mc_148 = true := by decide +kernel
set_option maxRecDepth 20000 in
theorem mk_149 : am_chk cX7_within mc_149 = true := by decide +kernel
set_option maxRecDepth 20000 in
theorem mk_150 : am_chk cX7_has mc_150 = true := by decide +kernel
set_option maxRecDepth 20000 in
theorem mk_151 : am_chk cX7_isShip mc_151 = true := by decide +kernel
set_option maxRecDepth 20000 in
theorem mk_152 : am_chk cX7_areTwo mc_152 = true := by decide +kernel
set_option maxRecDepth 20000 in
theorem mk_153 : am_chk cX7_isCircle mc_153 = true := by decide +kernel
set_option maxRecDepth 20000 in
theorem mk_154 : am_chk cX7_isRow mc_154 = true := by decide +kernel
set_option maxRecDepth 20000 in
theorem mk_155 : am_chk cX7_row mc_155 = true := by decide +kernel
set_option maxRecDepth 20000 in
theorem mk_156 : am_chk cX7_noRow mc_156 = true := by decide +kernel
set_option maxRecDepth 20000 in
theorem mk_157 : am_chk cX7_set mc_157 = true := by decide +kernel
set_option maxRecDepth 20000 in
theorem mk_158 : am_chk cX7_copy mc_158 = true := by decide +kernel
set_option maxRecDepth 20000 in
theorem mk_159 : am_chk cX7_element mc_159 = true := by decide +kernel
set_option maxRecDepth 20000 in
theorem mk_160 : am_chk cX7_holds mc_160 = true := by decide +kernel
set_option maxRecDepth 20000 in
theorem mk_161 : am_chk cX7_show mc_161 = true := by decide +kernel
set_option maxRecDepth 20000 in
theorem mk_162 : am_chk cX7_isUnder mc_162 = true := by decide +kernel
set_option maxRecDepth 20000 in
theorem mk_163 : am_chk cX7_says mc_163 = true := by decide +kernel
set_option maxRecDepth 20000 in
theorem mk_164 : am_chk cX7_those mc_164 = true := by decide +kernel
set_option maxRecDepth 20000 in
theorem mk_165 : am_chk cX7_circles mc_165 = true := by decide +kernel
set_option maxRecDepth 20000 in
theorem mk_166 : am_chk cX7_time mc_166 = true := by decide +kernel
set_option maxRecDepth 20000 in
theorem mk_167 : am_chk cX7_cost mc_167 = true := by decide +kernel
set_option maxRecDepth 20000 in
theorem mk_168 : am_chk cX7_newShip mc_168 = true := by decide +kernel
set_option maxRecDepth 20000 in
theorem mk_169 : am_chk cX7_ship mc_169 = true := by decide +kernel
set_option maxRecDepth 20000 in
theorem mk_170 : am_chk cX7_fill mc_170 = true := by decide +kernel
set_option maxRecDepth 20000 in
theorem mk_171 : am_chk cX7_feed mc_171 = true := by decide +kernel
set_option maxRecDepth 20000 in
theorem mk_172 : am_chk cX7_wipe mc_172 = true := by decide +kernel
set_option maxRecDepth 20000 in
theorem mk_173 : am_chk cX7_isLetter mc_173 = true := by decide +kernel
set_option maxRecDepth 20000 in
theorem mk_174 : am_chk cX7_isDigit mc_174 = true := by decide +kernel
set_option maxRecDepth 20000 in
theorem mk_175 : am_chk cX7_next mc_175 = true := by decide +kernel
set_option maxRecDepth 20000 in
theorem mk_176 : am_chk cX7_isWord mc_176 = true := by decide +kernel
set_option maxRecDepth 20000 in
theorem mk_177 : am_chk cX7_number mc_177 = true := by decide +kernel
set_option maxRecDepth 20000 in
theorem mk_178 : am_chk cX7_statement mc_178 = true := by decide +kernel
set_option maxRecDepth 20000 in
theorem mk_179 : am_chk cX7_world mc_179 = true := by decide +kernel
set_option maxRecDepth 20000 in
theorem mk_180 : am_chk cX7_shipOf mc_180 = true := by decide +kernel
set_option maxRecDepth 20000 in
theorem mk_181 : am_chk cX7_circleOf mc_181 = true := by decide +kernel
set_option maxRecDepth 20000 in
theorem mk_182 : am_chk cX7_drift mc_182 = true := by decide +kernel
set_option maxRecDepth 20000 in
theorem mk_183 : am_chk cX7_meet mc_183 = true := by decide +kernel
set_option maxRecDepth 20000 in
theorem mk_184 : am_chk cX7_price mc_184 = true := by decide +kernel
set_option maxRecDepth 20000 in
theorem mk_185 : am_chk cX7_halfOf mc_185 = true := by decide +kernel
set_option maxRecDepth 20000 in
theorem mk_186 : am_chk cX7_across mc_186 = true := by decide +kernel
set_option maxRecDepth 20000 in
theorem mk_187 : am_chk cX7_isWay mc_187 = true := by decide +kernel
set_option maxRecDepth 20000 in
theorem mk_188 : am_chk cX7_priceOf mc_188 = true := by decide +kernel
set_option maxRecDepth 20000 in
theorem mk_189 : am_chk cX7_isCode mc_189 = true := by decide +kernel
set_option maxRecDepth 20000 in
theorem mk_190 : am_chk cX7_moves mc_190 = true := by decide +kernel
set_option maxRecDepth 20000 in
theorem mk_191 : am_chk cX7_acts mc_191 = true := by decide +kernel
set_option maxRecDepth 20000 in
theorem mk_192 : am_chk cX7_can mc_192 = true := by decide +kernel
set_option maxRecDepth 20000 in
theorem mk_193 : am_chk cX7_behind mc_193 = true := by decide +kernel
set_option maxRecDepth 20000 in
theorem mk_194 : am_chk cX7_meets mc_194 = true := by decide +kernel
set_option maxRecDepth 20000 in
theorem mk_195 : am_chk cX7_noFlight mc_195 = true := by decide +kernel
set_option maxRecDepth 20000 in
theorem mk_196 : am_chk cX7_fly mc_196 = true := by decide +kernel
set_option maxRecDepth 20000 in
theorem mk_197 : am_chk cX7_judge mc_197 = true := by decide +kernel
set_option maxRecDepth 20000 in
theorem mk_198 : am_chk cX7_flown mc_198 = true := by decide +kernel
set_option maxRecDepth 20000 in
theorem mk_199 : am_chk cX7_met mc_199 = true := by decide +kernel
set_option maxRecDepth 20000 in
theorem mk_200 : am_chk cX7_state mc_200 = true := by decide +kernel
set_option maxRecDepth 20000 in
theorem mk_201 : am_chk cX7_begin mc_201 = true := by decide +kernel
set_option maxRecDepth 20000 in
theorem mk_202 : am_chk cX7_better mc_202 = true := by decide +kernel
set_option maxRecDepth 20000 in
theorem mk_203 : am_chk cX7_goOn mc_203 = true := by decide +kernel
set_option maxRecDepth 20000 in
theorem mk_204 : am_chk cX7_placeAt mc_204 = true := by decide +kernel
set_option maxRecDepth 20000 in
theorem mk_205 : am_chk cX7_least mc_205 = true := by decide +kernel
set_option maxRecDepth 20000 in
theorem mk_206 : am_chk cX7_cheapest mc_206 = true := by decide +kernel
set_option maxRecDepth 20000 in
theorem mk_207 : am_chk cX7_soonest mc_207 = true := by decide +kernel
set_option maxRecDepth 20000 in
theorem mk_208 : am_chk cX7_leftAt mc_208 = true := by decide +kernel
set_option maxRecDepth 20000 in
theorem mk_209 : am_chk cX7_way mc_209 = true := by decide +kernel
set_option maxRecDepth 20000 in
theorem mk_210 : am_chk cX7_ahead mc_210 = true := by decide +kernel
set_option maxRecDepth 20000 in
theorem mk_211 : am_chk cX7_round mc_211 = true := by decide +kernel
set_option maxRecDepth 20000 in
theorem mk_212 : am_chk cX7_home mc_212 = true := by decide +kernel
set_option maxRecDepth 20000 in
theorem mk_213 : am_chk cX7_again mc_213 = true := by decide +kernel
set_option maxRecDepth 20000 in
theorem mk_214 : am_chk cX7_pass mc_214 = true := by decide +kernel
set_option maxRecDepth 20000 in
theorem mk_215 : am_chk cX7_queue mc_215 = true := by decide +kernel
set_option maxRecDepth 20000 in
theorem mk_216 : am_chk cX7_fullest mc_216 = true := by decide +kernel
set_option maxRecDepth 20000 in
theorem mk_217 : am_chk cX7_clash mc_217 = true := by decide +kernel
set_option maxRecDepth 20000 in
theorem mk_218 : am_chk cX7_burnt mc_218 = true := by decide +kernel
set_option maxRecDepth 20000 in
theorem mk_219 : am_chk cX7_tags mc_219 = true := by decide +kernel
set_option maxRecDepth 20000 in
theorem mk_220 : am_chk cX7_tag mc_220 = true := by decide +kernel
set_option maxRecDepth 20000 in
theorem mk_221 : am_chk cX7_steps mc_221 = true := by decide +kernel
set_option maxRecDepth 20000 in
theorem mk_222 : am_chk cX7_step mc_222 = true := by decide +kernel
set_option maxRecDepth 20000 in
theorem mk_223 : am_chk cX7_change mc_223 = true := by decide +kernel
set_option maxRecDepth 20000 in
theorem mk_224 : am_chk cX7_hand mc_224 = true := by decide +kernel
set_option maxRecDepth 20000 in
theorem mk_225 : am_chk cX7_hurl mc_225 = true := by decide +kernel
set_option maxRecDepth 20000 in
theorem mk_226 : am_chk cX7_draw mc_226 = true := by decide +kernel
set_option maxRecDepth 20000 in
theorem mk_227 : am_chk cX7_bolts mc_227 = true := by decide +kernel
set_option maxRecDepth 20000 in
theorem mk_228 : am_chk cX7_seed mc_228 = true := by decide +kernel
set_option maxRecDepth 20000 in
theorem mk_229 : am_chk cX7_keep mc_229 = true := by decide +kernel
set_option maxRecDepth 20000 in
theorem mk_230 : am_chk cX7_again_ mc_230 = true := by decide +kernel
set_option maxRecDepth 20000 in
theorem mk_231 : am_chk cX7_image mc_231 = true := by decide +kernel
set_option maxRecDepth 20000 in
theorem mk_232 : am_chk cX7_back mc_232 = true := by decide +kernel
set_option maxRecDepth 20000 in
theorem mk_233 : am_chk cX7_status mc_233 = true := by decide +kernel
set_option maxRecDepth 20000 in
theorem mk_234 : am_chk cJ6_bitCount_0f7a4 mc_234 = true := by decide +kernel
set_option maxRecDepth 20000 in
theorem mk_235 : am_chk cJ9_abs_0f7a4 mc_235 = true := by decide +kernel
set_option maxRecDepth 20000 in
theorem mk_236 : am_chk cJ9_max_7cf53 mc_236 = true := by decide +kernel
set_option maxRecDepth 20000 in
theorem mk_237 : am_chk cJ9_min_7cf53 mc_237 = true := by decide +kernel
set_option maxRecDepth 20000 in
theorem mk_238 : am_chk cJ7_fill_d0a16 mc_238 = true := by decide +kernel
set_option maxRecDepth 20000 in
theorem mk_239 : am_chk cJ7_fill_53178 mc_239 = true := by decide +kernel
set_option maxRecDepth 20000 in
theorem mk_240_0 : am_chk cL_law mc_240_0 = true := by decide +kernel
set_option maxRecDepth 20000 in
theorem mk_240_1 : am_chk cL_law mc_240_1 = true := by decide +kernel
set_option maxRecDepth 20000 in
theorem mk_240_2 : am_chk cL_law mc_240_2 = true := by decide +kernel
set_option maxRecDepth 20000 in
theorem mk_240_3 : am_chk cL_law mc_240_3 = true := by decide +kernel
set_option maxRecDepth 20000 in
theorem mk_240_4 : am_chk cL_law mc_240_4 = true := by decide +kernel
set_option maxRecDepth 20000 in
theorem mk_240_5 : am_chk cL_law mc_240_5 = true := by decide +kernel
set_option maxRecDepth 20000 in
theorem mk_240_6 : am_chk cL_law mc_240_6 = true := by decide +kernel
set_option maxRecDepth 20000 in
theorem mk_240_7 : am_chk cL_law mc_240_7 = true := by decide +kernel
set_option maxRecDepth 20000 in
theorem mk_240_8 : am_chk cL_law mc_240_8 = true := by decide +kernel
set_option maxRecDepth 20000 in
theorem mk_240_9 : am_chk cL_law mc_240_9 = true := by decide +kernel
set_option maxRecDepth 20000 in
theorem mk_240_10 : am_chk cL_law mc_240_10 = true := by decide +kernel
set_option maxRecDepth 20000 in
theorem mk_240_11 : am_chk cL_law mc_240_11 = true := by decide +kernel
set_option maxRecDepth 20000 in
theorem mk_240_12 : am_chk cL_law mc_240_12 = true := by decide +kernel
set_option maxRecDepth 20000 in
theorem mk_240_13 : am_chk cL_law mc_240_13 = true := by decide +kernel
set_option maxRecDepth 20000 in
theorem mk_240_14 : am_chk cL_law mc_240_14 = true := by decide +kernel
set_option maxRecDepth 20000 in
theorem mk_240_15 : am_chk cL_law mc_240_15 = true := by decide +kernel
set_option maxRecDepth 20000 in
theorem mk_240_16 : am_chk cL_law mc_240_16 = true := by decide +kernel
set_option maxRecDepth 20000 in
theorem mk_240_17 : am_chk cL_law mc_240_17 = true := by decide +kernel
set_option maxRecDepth 20000 in
theorem mk_240_18 : am_chk cL_law mc_240_18 = true := by decide +kernel
set_option maxRecDepth 20000 in
theorem mk_240_19 : am_chk cL_law mc_240_19 = true := by decide +kernel
set_option maxRecDepth 20000 in
theorem mk_240_20 : am_chk cL_law mc_240_20 = true := by decide +kernel
set_option maxRecDepth 20000 in
theorem mk_240_21 : am_chk cL_law mc_240_21 = true := by decide +kernel
set_option maxRecDepth 20000 in
theorem mk_240_22 : am_chk cL_law mc_240_22 = true := by decide +kernel
set_option maxRecDepth 20000 in
theorem mk_240_23 : am_chk cL_law mc_240_23 = true := by decide +kernel
set_option maxRecDepth 20000 in
theorem mk_240_24 : am_chk cL_law mc_240_24 = true := by decide +kernel
set_option maxRecDepth 20000 in
theorem mk_240_25 : am_chk cL_law mc_240_25 = true := by decide +kernel
set_option maxRecDepth 20000 in
theorem mk_240_26 : am_chk cL_law mc_240_26 = true := by decide +kernel
set_option maxRecDepth 20000 in
theorem mk_240_27 : am_chk cL_law mc_240_27 = true := by decide +kernel
set_option maxRecDepth 20000 in
theorem mk_240_28 : am_chk cL_law mc_240_28 = true := by decide +kernel
set_option maxRecDepth 20000 in
theorem mk_240_29 : am_chk cL_law mc_240_29 = true := by decide +kernel
set_option maxRecDepth 20000 in
theorem mk_240_30 : am_chk cL_law mc_240_30 = true := by decide +kernel
theorem mk_240 : am_chk cL_law mc_240 = true := (am_chk_b (am_chk_b (am_chk_b (am_chk_b mk_240_0 (am_chk_b mk_240_1 mk_240_2)) (am_chk_b (am_chk_b mk_240_3 mk_240_4) (am_chk_b mk_240_5 mk_240_6))) (am_chk_b (am_chk_b (am_chk_b mk_240_7 mk_240_8) (am_chk_b mk_240_9 mk_240_10)) (am_chk_b (am_chk_b mk_240_11 mk_240_12) (am_chk_b mk_240_13 mk_240_14)))) (am_chk_b (am_chk_b (am_chk_b (am_chk_b mk_240_15 mk_240_16) (am_chk_b mk_240_17 mk_240_18)) (am_chk_b (am_chk_b mk_240_19 mk_240_20) (am_chk_b mk_240_21 mk_240_22))) (am_chk_b (am_chk_b (am_chk_b mk_240_23 mk_240_24) (am_chk_b mk_240_25 mk_240_26)) (am_chk_b (am_chk_b mk_240_27 mk_240_28) (am_chk_b mk_240_29 mk_240_30)))))
