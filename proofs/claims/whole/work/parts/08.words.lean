theorem kw_0 : Cond.selects RX6 yX6_bad yX6_bad ∈ uw := uw_mem 0 (by decide +kernel) (by decide +kernel)
theorem kw_1 : Cond.selects RX6 yX6_no yX6_no ∈ uw := uw_mem 1 (by decide +kernel) (by decide +kernel)
theorem kw_2 : Cond.selects RX6 yX6_full yX6_full ∈ uw := uw_mem 2 (by decide +kernel) (by decide +kernel)
theorem kw_3 : Cond.selects RX4 yX4_advance yX4_advance ∈ uw := uw_mem 3 (by decide +kernel) (by decide +kernel)
theorem kw_4 : Cond.selects RX4 yX4_passAll yX4_passAll ∈ uw := uw_mem 4 (by decide +kernel) (by decide +kernel)
theorem kw_5 : Cond.selects RX4 yX4_takeNumber yX4_takeNumber ∈ uw := uw_mem 5 (by decide +kernel) (by decide +kernel)
theorem kw_6 : Cond.selects RX4 yX4_readItem yX4_readItem ∈ uw := uw_mem 6 (by decide +kernel) (by decide +kernel)
theorem kw_7 : Cond.selects RX4 yX4_wordIs yX4_wordIs ∈ uw := uw_mem 7 (by decide +kernel) (by decide +kernel)
theorem kw_8 : Cond.selects RX4 yX4_stops yX4_stops ∈ uw := uw_mem 8 (by decide +kernel) (by decide +kernel)
theorem kw_9 : Cond.selects RX4 yX4_readCar yX4_readCar ∈ uw := uw_mem 9 (by decide +kernel) (by decide +kernel)
theorem kw_10 : Cond.selects RX4 yX4_numberBelow yX4_numberBelow ∈ uw := uw_mem 10 (by decide +kernel) (by decide +kernel)
theorem kw_11 : Cond.selects RX4 yX4_readHat yX4_readHat ∈ uw := uw_mem 11 (by decide +kernel) (by decide +kernel)
theorem kw_12 : Cond.selects RX4 yX4_readFoe yX4_readFoe ∈ uw := uw_mem 12 (by decide +kernel) (by decide +kernel)
theorem kw_13 : Cond.selects RX1 yX1_drive yX1_drive ∈ uw := uw_mem 13 (by decide +kernel) (by decide +kernel)
theorem kw_14 : Cond.selects RX1 yX1_clusterWith yX1_clusterWith ∈ uw := uw_mem 14 (by decide +kernel) (by decide +kernel)
theorem kw_15 : Cond.selects RX1 yX1_touches yX1_touches ∈ uw := uw_mem 15 (by decide +kernel) (by decide +kernel)
theorem kw_16 : Cond.selects RX5 yX5_searchFrom yX5_searchFrom ∈ uw := uw_mem 16 (by decide +kernel) (by decide +kernel)
theorem kw_17 : Cond.selects RX2 yX2_fits yX2_fits ∈ uw := uw_mem 17 (by decide +kernel) (by decide +kernel)
theorem kw_18 : Cond.selects RX5 yX5_mostAlike yX5_mostAlike ∈ uw := uw_mem 18 (by decide +kernel) (by decide +kernel)
theorem kw_19 : Cond.selects RX5 yX5_rests yX5_rests ∈ uw := uw_mem 19 (by decide +kernel) (by decide +kernel)
theorem kw_20 : Cond.selects RX6 yX6_putFraction yX6_putFraction ∈ uw := uw_mem 20 (by decide +kernel) (by decide +kernel)
theorem kw_21 : Cond.selects RX6 yX6_howMany yX6_howMany ∈ uw := uw_mem 21 (by decide +kernel) (by decide +kernel)
theorem kw_22 : Cond.selects RX7 yX7_many yX7_many ∈ uw := uw_mem 22 (by decide +kernel) (by decide +kernel)
theorem kw_23 : Cond.selects RX7 yX7_bad yX7_bad ∈ uw := uw_mem 23 (by decide +kernel) (by decide +kernel)
theorem kw_24 : Cond.selects RX7 yX7_no yX7_no ∈ uw := uw_mem 24 (by decide +kernel) (by decide +kernel)
theorem kw_25 : Cond.selects RX7 yX7_full yX7_full ∈ uw := uw_mem 25 (by decide +kernel) (by decide +kernel)
theorem kw_26 : Cond.selects RX7 yX7_keep yX7_keep ∈ uw := uw_mem 26 (by decide +kernel) (by decide +kernel)
theorem kw_27 : Cond.selects RX7 yX7_layHand yX7_layHand ∈ uw := uw_mem 27 (by decide +kernel) (by decide +kernel)
theorem kw_28 : Cond.selects RX7 yX7_goTicks yX7_goTicks ∈ uw := uw_mem 28 (by decide +kernel) (by decide +kernel)
theorem kw_29 : Cond.selects RX7 yX7_goTick yX7_goTick ∈ uw := uw_mem 29 (by decide +kernel) (by decide +kernel)
theorem kw_30 : Cond.selects RX7 yX7_wayOf yX7_wayOf ∈ uw := uw_mem 30 (by decide +kernel) (by decide +kernel)
theorem kw_31 : Cond.selects RX7 yX7_aheadBy yX7_aheadBy ∈ uw := uw_mem 31 (by decide +kernel) (by decide +kernel)
theorem kw_32 : Cond.selects RX7 yX7_carAt yX7_carAt ∈ uw := uw_mem 32 (by decide +kernel) (by decide +kernel)
theorem kw_33 : Cond.selects RX7 yX7_towards yX7_towards ∈ uw := uw_mem 33 (by decide +kernel) (by decide +kernel)
theorem kw_34 : Cond.selects RX7 yX7_goCar yX7_goCar ∈ uw := uw_mem 34 (by decide +kernel) (by decide +kernel)
theorem kw_35 : Cond.selects RX7 yX7_get yX7_get ∈ uw := uw_mem 35 (by decide +kernel) (by decide +kernel)
theorem kw_36 : Cond.selects RX7 yX7_isCar yX7_isCar ∈ uw := uw_mem 36 (by decide +kernel) (by decide +kernel)
theorem kw_37 : Cond.selects RX7 yX7_joined yX7_joined ∈ uw := uw_mem 37 (by decide +kernel) (by decide +kernel)
theorem kw_38 : Cond.selects RX7 yX7_layWays yX7_layWays ∈ uw := uw_mem 38 (by decide +kernel) (by decide +kernel)
theorem kw_39 : Cond.selects RX7 yX7_kindsOf yX7_kindsOf ∈ uw := uw_mem 39 (by decide +kernel) (by decide +kernel)
theorem kw_40 : Cond.selects RX7 yX7_gain yX7_gain ∈ uw := uw_mem 40 (by decide +kernel) (by decide +kernel)
theorem kw_41 : Cond.selects RX7 yX7_rests yX7_rests ∈ uw := uw_mem 41 (by decide +kernel) (by decide +kernel)
theorem kw_42 : Cond.selects RX7 yX7_fraction yX7_fraction ∈ uw := uw_mem 42 (by decide +kernel) (by decide +kernel)
theorem kw_43 : Cond.selects RX7 yX7_lookAt yX7_lookAt ∈ uw := uw_mem 43 (by decide +kernel) (by decide +kernel)
theorem kw_44 : Cond.selects RX7 yX7_spells yX7_spells ∈ uw := uw_mem 44 (by decide +kernel) (by decide +kernel)
theorem kw_45 : Cond.selects RX7 yX7_goBehind yX7_goBehind ∈ uw := uw_mem 45 (by decide +kernel) (by decide +kernel)
theorem kw_46 : Cond.selects RX7 yX7_takesItem yX7_takesItem ∈ uw := uw_mem 46 (by decide +kernel) (by decide +kernel)
theorem kw_47 : Cond.selects RX7 yX7_takesCar yX7_takesCar ∈ uw := uw_mem 47 (by decide +kernel) (by decide +kernel)
theorem kw_48 : Cond.selects RX7 yX7_takes yX7_takes ∈ uw := uw_mem 48 (by decide +kernel) (by decide +kernel)
theorem kw_49 : Cond.selects RX7 yX7_takesHat yX7_takesHat ∈ uw := uw_mem 49 (by decide +kernel) (by decide +kernel)
theorem kw_50 : Cond.selects RX7 yX7_takesFoe yX7_takesFoe ∈ uw := uw_mem 50 (by decide +kernel) (by decide +kernel)
theorem kw_51 : Cond.selects RX7 yX7_counted yX7_counted ∈ uw := uw_mem 51 (by decide +kernel) (by decide +kernel)
theorem kw_52 : Cond.selects RX7 yX7_allGiven yX7_allGiven ∈ uw := uw_mem 52 (by decide +kernel) (by decide +kernel)
theorem kw_53 : Cond.selects RX7 yX7_sums yX7_sums ∈ uw := uw_mem 53 (by decide +kernel) (by decide +kernel)
theorem kw_55 : Cond.initialized RX6 ∈ uw := uw_mem 55 (by decide +kernel) (by decide +kernel)
theorem kw_56 : Cond.initialized RX3 ∈ uw := uw_mem 56 (by decide +kernel) (by decide +kernel)
theorem kw_57 : Cond.initialized RX1 ∈ uw := uw_mem 57 (by decide +kernel) (by decide +kernel)
theorem kw_58 : Cond.initialized RX2 ∈ uw := uw_mem 58 (by decide +kernel) (by decide +kernel)
theorem kw_59 : Cond.initialized RX4 ∈ uw := uw_mem 59 (by decide +kernel) (by decide +kernel)
theorem kw_60 : Cond.initialized RX5 ∈ uw := uw_mem 60 (by decide +kernel) (by decide +kernel)
theorem kw_61 : Cond.initialized RX7 ∈ uw := uw_mem 61 (by decide +kernel) (by decide +kernel)
theorem kw_62 : Cond.initialized RJ0 ∈ uw := uw_mem 62 (by decide +kernel) (by decide +kernel)
theorem kw_63 : Cond.initialized RJ1 ∈ uw := uw_mem 63 (by decide +kernel) (by decide +kernel)
theorem kw_64 : Cond.initialized RJ3 ∈ uw := uw_mem 64 (by decide +kernel) (by decide +kernel)
theorem kw_66 : Cond.initialized "java/lang/System" ∈ uw := uw_mem 66 (by decide +kernel) (by decide +kernel)
theorem kw_67 : Cond.initialized "java/lang/Math" ∈ uw := uw_mem 67 (by decide +kernel) (by decide +kernel)
theorem kw_68 : Cond.initialized RX0 ∈ uw := uw_mem 68 (by decide +kernel) (by decide +kernel)
theorem kw_69 : Cond.initialized RJ6 ∈ uw := uw_mem 69 (by decide +kernel) (by decide +kernel)
theorem kw_90 : Cond.fieldLink RX1 9 (TX1 0).1 (TX1 0).2.1 (TX1 0).2.2.1 ∈ uw := uw_mem 90 (by decide +kernel) (by decide +kernel)
theorem kw_91 : Cond.fieldLink RX1 15 (TX1 1).1 (TX1 1).2.1 (TX1 1).2.2.1 ∈ uw := uw_mem 91 (by decide +kernel) (by decide +kernel)
theorem kw_92 : Cond.fieldLink RX6 124 (TX1 1).1 (TX1 1).2.1 (TX1 1).2.2.1 ∈ uw := uw_mem 92 (by decide +kernel) (by decide +kernel)
theorem kw_93 : Cond.fieldLink RX1 18 (TX1 2).1 (TX1 2).2.1 (TX1 2).2.2.1 ∈ uw := uw_mem 93 (by decide +kernel) (by decide +kernel)
theorem kw_94 : Cond.fieldLink RX6 128 (TX1 2).1 (TX1 2).2.1 (TX1 2).2.2.1 ∈ uw := uw_mem 94 (by decide +kernel) (by decide +kernel)
theorem kw_95 : Cond.fieldLink RX5 80 (TX1 2).1 (TX1 2).2.1 (TX1 2).2.2.1 ∈ uw := uw_mem 95 (by decide +kernel) (by decide +kernel)
theorem kw_96 : Cond.fieldLink RX1 21 (TX1 3).1 (TX1 3).2.1 (TX1 3).2.2.1 ∈ uw := uw_mem 96 (by decide +kernel) (by decide +kernel)
theorem kw_97 : Cond.fieldLink RX5 53 (TX1 3).1 (TX1 3).2.1 (TX1 3).2.2.1 ∈ uw := uw_mem 97 (by decide +kernel) (by decide +kernel)
theorem kw_98 : Cond.fieldLink RX6 149 (TX1 3).1 (TX1 3).2.1 (TX1 3).2.2.1 ∈ uw := uw_mem 98 (by decide +kernel) (by decide +kernel)
theorem kw_99 : Cond.fieldLink RX1 24 (TX1 4).1 (TX1 4).2.1 (TX1 4).2.2.1 ∈ uw := uw_mem 99 (by decide +kernel) (by decide +kernel)
theorem kw_100 : Cond.fieldLink RX5 50 (TX1 4).1 (TX1 4).2.1 (TX1 4).2.2.1 ∈ uw := uw_mem 100 (by decide +kernel) (by decide +kernel)
theorem kw_101 : Cond.fieldLink RX1 27 (TX1 5).1 (TX1 5).2.1 (TX1 5).2.2.1 ∈ uw := uw_mem 101 (by decide +kernel) (by decide +kernel)
theorem kw_102 : Cond.fieldLink RX4 92 (TX1 5).1 (TX1 5).2.1 (TX1 5).2.2.1 ∈ uw := uw_mem 102 (by decide +kernel) (by decide +kernel)
theorem kw_103 : Cond.fieldLink RX5 90 (TX1 5).1 (TX1 5).2.1 (TX1 5).2.2.1 ∈ uw := uw_mem 103 (by decide +kernel) (by decide +kernel)
theorem kw_104 : Cond.fieldLink RX1 30 (TX1 6).1 (TX1 6).2.1 (TX1 6).2.2.1 ∈ uw := uw_mem 104 (by decide +kernel) (by decide +kernel)
theorem kw_105 : Cond.fieldLink RX6 59 (TX1 6).1 (TX1 6).2.1 (TX1 6).2.2.1 ∈ uw := uw_mem 105 (by decide +kernel) (by decide +kernel)
theorem kw_106 : Cond.fieldLink RX4 62 (TX1 6).1 (TX1 6).2.1 (TX1 6).2.2.1 ∈ uw := uw_mem 106 (by decide +kernel) (by decide +kernel)
theorem kw_107 : Cond.fieldLink RX1 34 (TX1 7).1 (TX1 7).2.1 (TX1 7).2.2.1 ∈ uw := uw_mem 107 (by decide +kernel) (by decide +kernel)
theorem kw_108 : Cond.fieldLink RX4 90 (TX1 7).1 (TX1 7).2.1 (TX1 7).2.2.1 ∈ uw := uw_mem 108 (by decide +kernel) (by decide +kernel)
theorem kw_109 : Cond.fieldLink RX6 121 (TX1 7).1 (TX1 7).2.1 (TX1 7).2.2.1 ∈ uw := uw_mem 109 (by decide +kernel) (by decide +kernel)
theorem kw_110 : Cond.fieldLink RX5 83 (TX1 7).1 (TX1 7).2.1 (TX1 7).2.2.1 ∈ uw := uw_mem 110 (by decide +kernel) (by decide +kernel)
theorem kw_111 : Cond.fieldLink RX1 37 (TX1 8).1 (TX1 8).2.1 (TX1 8).2.2.1 ∈ uw := uw_mem 111 (by decide +kernel) (by decide +kernel)
theorem kw_112 : Cond.fieldLink RX6 135 (TX1 8).1 (TX1 8).2.1 (TX1 8).2.2.1 ∈ uw := uw_mem 112 (by decide +kernel) (by decide +kernel)
theorem kw_139 : Cond.fieldLink RX2 11 (TX2 0).1 (TX2 0).2.1 (TX2 0).2.2.1 ∈ uw := uw_mem 139 (by decide +kernel) (by decide +kernel)
theorem kw_140 : Cond.fieldLink RX2 15 (TX2 1).1 (TX2 1).2.1 (TX2 1).2.2.1 ∈ uw := uw_mem 140 (by decide +kernel) (by decide +kernel)
theorem kw_141 : Cond.fieldLink RX3 36 (TX2 1).1 (TX2 1).2.1 (TX2 1).2.2.1 ∈ uw := uw_mem 141 (by decide +kernel) (by decide +kernel)
theorem kw_142 : Cond.fieldLink RX6 190 (TX2 1).1 (TX2 1).2.1 (TX2 1).2.2.1 ∈ uw := uw_mem 142 (by decide +kernel) (by decide +kernel)
theorem kw_149 : Cond.fieldLink RX3 12 (TX3 0).1 (TX3 0).2.1 (TX3 0).2.2.1 ∈ uw := uw_mem 149 (by decide +kernel) (by decide +kernel)
theorem kw_150 : Cond.fieldLink RX6 55 (TX3 0).1 (TX3 0).2.1 (TX3 0).2.2.1 ∈ uw := uw_mem 150 (by decide +kernel) (by decide +kernel)
theorem kw_151 : Cond.fieldLink RX3 21 (TX3 1).1 (TX3 1).2.1 (TX3 1).2.2.1 ∈ uw := uw_mem 151 (by decide +kernel) (by decide +kernel)
theorem kw_152 : Cond.fieldLink RX6 180 (TX3 1).1 (TX3 1).2.1 (TX3 1).2.2.1 ∈ uw := uw_mem 152 (by decide +kernel) (by decide +kernel)
theorem kw_153 : Cond.fieldLink RX3 25 (TX3 2).1 (TX3 2).2.1 (TX3 2).2.2.1 ∈ uw := uw_mem 153 (by decide +kernel) (by decide +kernel)
theorem kw_154 : Cond.fieldLink RX3 29 (TX3 3).1 (TX3 3).2.1 (TX3 3).2.2.1 ∈ uw := uw_mem 154 (by decide +kernel) (by decide +kernel)
theorem kw_155 : Cond.fieldLink RX6 85 (TX3 3).1 (TX3 3).2.1 (TX3 3).2.2.1 ∈ uw := uw_mem 155 (by decide +kernel) (by decide +kernel)
theorem kw_174 : Cond.fieldLink RX4 9 (TX4 0).1 (TX4 0).2.1 (TX4 0).2.2.1 ∈ uw := uw_mem 174 (by decide +kernel) (by decide +kernel)
theorem kw_175 : Cond.fieldLink RX4 15 (TX4 1).1 (TX4 1).2.1 (TX4 1).2.2.1 ∈ uw := uw_mem 175 (by decide +kernel) (by decide +kernel)
theorem kw_176 : Cond.fieldLink RX6 96 (TX4 1).1 (TX4 1).2.1 (TX4 1).2.2.1 ∈ uw := uw_mem 176 (by decide +kernel) (by decide +kernel)
theorem kw_177 : Cond.fieldLink RX4 22 (TX4 2).1 (TX4 2).2.1 (TX4 2).2.2.1 ∈ uw := uw_mem 177 (by decide +kernel) (by decide +kernel)
theorem kw_178 : Cond.fieldLink RX6 102 (TX4 2).1 (TX4 2).2.1 (TX4 2).2.2.1 ∈ uw := uw_mem 178 (by decide +kernel) (by decide +kernel)
theorem kw_179 : Cond.fieldLink RX4 26 (TX4 3).1 (TX4 3).2.1 (TX4 3).2.2.1 ∈ uw := uw_mem 179 (by decide +kernel) (by decide +kernel)
theorem kw_180 : Cond.fieldLink RX6 109 (TX4 3).1 (TX4 3).2.1 (TX4 3).2.2.1 ∈ uw := uw_mem 180 (by decide +kernel) (by decide +kernel)
theorem kw_181 : Cond.fieldLink RX4 29 (TX4 4).1 (TX4 4).2.1 (TX4 4).2.2.1 ∈ uw := uw_mem 181 (by decide +kernel) (by decide +kernel)
theorem kw_182 : Cond.fieldLink RX4 32 (TX4 5).1 (TX4 5).2.1 (TX4 5).2.2.1 ∈ uw := uw_mem 182 (by decide +kernel) (by decide +kernel)
theorem kw_183 : Cond.fieldLink RX4 35 (TX4 6).1 (TX4 6).2.1 (TX4 6).2.2.1 ∈ uw := uw_mem 183 (by decide +kernel) (by decide +kernel)
theorem kw_184 : Cond.fieldLink RX4 38 (TX4 7).1 (TX4 7).2.1 (TX4 7).2.2.1 ∈ uw := uw_mem 184 (by decide +kernel) (by decide +kernel)
theorem kw_212 : Cond.fieldLink RX5 11 (TX5 0).1 (TX5 0).2.1 (TX5 0).2.2.1 ∈ uw := uw_mem 212 (by decide +kernel) (by decide +kernel)
theorem kw_213 : Cond.fieldLink RX5 17 (TX5 1).1 (TX5 1).2.1 (TX5 1).2.2.1 ∈ uw := uw_mem 213 (by decide +kernel) (by decide +kernel)
theorem kw_214 : Cond.fieldLink RX5 21 (TX5 2).1 (TX5 2).2.1 (TX5 2).2.2.1 ∈ uw := uw_mem 214 (by decide +kernel) (by decide +kernel)
theorem kw_215 : Cond.fieldLink RX6 174 (TX5 2).1 (TX5 2).2.1 (TX5 2).2.2.1 ∈ uw := uw_mem 215 (by decide +kernel) (by decide +kernel)
theorem kw_216 : Cond.fieldLink RX5 24 (TX5 3).1 (TX5 3).2.1 (TX5 3).2.2.1 ∈ uw := uw_mem 216 (by decide +kernel) (by decide +kernel)
theorem kw_217 : Cond.fieldLink RX5 27 (TX5 4).1 (TX5 4).2.1 (TX5 4).2.2.1 ∈ uw := uw_mem 217 (by decide +kernel) (by decide +kernel)
theorem kw_218 : Cond.fieldLink RX5 30 (TX5 5).1 (TX5 5).2.1 (TX5 5).2.2.1 ∈ uw := uw_mem 218 (by decide +kernel) (by decide +kernel)
theorem kw_219 : Cond.fieldLink RX5 33 (TX5 6).1 (TX5 6).2.1 (TX5 6).2.2.1 ∈ uw := uw_mem 219 (by decide +kernel) (by decide +kernel)
theorem kw_235 : Cond.fieldLink RX6 10 (TX6 0).1 (TX6 0).2.1 (TX6 0).2.2.1 ∈ uw := uw_mem 235 (by decide +kernel) (by decide +kernel)
theorem kw_236 : Cond.fieldLink RX6 16 (TX6 1).1 (TX6 1).2.1 (TX6 1).2.2.1 ∈ uw := uw_mem 236 (by decide +kernel) (by decide +kernel)
theorem kw_237 : Cond.fieldLink RX6 20 (TX6 2).1 (TX6 2).2.1 (TX6 2).2.2.1 ∈ uw := uw_mem 237 (by decide +kernel) (by decide +kernel)
theorem kw_238 : Cond.fieldLink RX6 27 (TX6 3).1 (TX6 3).2.1 (TX6 3).2.2.1 ∈ uw := uw_mem 238 (by decide +kernel) (by decide +kernel)
theorem kw_239 : Cond.fieldLink RX6 34 (TX6 4).1 (TX6 4).2.1 (TX6 4).2.2.1 ∈ uw := uw_mem 239 (by decide +kernel) (by decide +kernel)
theorem kw_240 : Cond.fieldLink RX6 38 (TX6 5).1 (TX6 5).2.1 (TX6 5).2.2.1 ∈ uw := uw_mem 240 (by decide +kernel) (by decide +kernel)
theorem kw_241 : Cond.fieldLink RX6 42 (TX6 6).1 (TX6 6).2.1 (TX6 6).2.2.1 ∈ uw := uw_mem 241 (by decide +kernel) (by decide +kernel)
theorem kw_242 : Cond.fieldLink RX6 45 (TX6 7).1 (TX6 7).2.1 (TX6 7).2.2.1 ∈ uw := uw_mem 242 (by decide +kernel) (by decide +kernel)
theorem kw_243 : Cond.fieldLink RX6 49 (TX6 8).1 (TX6 8).2.1 (TX6 8).2.2.1 ∈ uw := uw_mem 243 (by decide +kernel) (by decide +kernel)
theorem kw_244 : Cond.fieldLink RX6 52 (TX6 9).1 (TX6 9).2.1 (TX6 9).2.2.1 ∈ uw := uw_mem 244 (by decide +kernel) (by decide +kernel)
theorem kw_270 : Cond.methodLink RX6 64 yX3_restart ∈ uw := uw_mem 270 (by decide +kernel) (by decide +kernel)
theorem kw_271 : Cond.instanceMethod yX3_restart ∈ uw := uw_mem 271 (by decide +kernel) (by decide +kernel)
theorem kw_272 : Cond.selects RX3 yX3_restart yX3_restart ∈ uw := uw_mem 272 (by decide +kernel) (by decide +kernel)
theorem kw_273 : Cond.code yX3_restart cX3_restart 1 (none) ∈ uw := uw_mem 273 (by decide +kernel) (by decide +kernel)
theorem kw_274 : Cond.methodLink RX3 33 yX1_empty ∈ uw := uw_mem 274 (by decide +kernel) (by decide +kernel)
theorem kw_275 : Cond.instanceMethod yX1_empty ∈ uw := uw_mem 275 (by decide +kernel) (by decide +kernel)
theorem kw_276 : Cond.selects RX1 yX1_empty yX1_empty ∈ uw := uw_mem 276 (by decide +kernel) (by decide +kernel)
theorem kw_277 : Cond.code yX1_empty cX1_empty 1 (none) ∈ uw := uw_mem 277 (by decide +kernel) (by decide +kernel)
theorem kw_282 : Cond.methodLink RX6 67 yX6_within ∈ uw := uw_mem 282 (by decide +kernel) (by decide +kernel)
theorem kw_283 : Cond.static yX6_within ∈ uw := uw_mem 283 (by decide +kernel) (by decide +kernel)
theorem kw_284 : Cond.code yX6_within cX6_within 2 (some .boolean) ∈ uw := uw_mem 284 (by decide +kernel) (by decide +kernel)
theorem kw_285 : Cond.methodLink RX6 71 yX6_bad ∈ uw := uw_mem 285 (by decide +kernel) (by decide +kernel)
theorem kw_287 : Cond.instanceMethod yX6_bad ∈ uw := uw_mem 287 (by decide +kernel) (by decide +kernel)
theorem kw_288 : Cond.code yX6_bad cX6_bad 2 (some .int) ∈ uw := uw_mem 288 (by decide +kernel) (by decide +kernel)
theorem kw_289 : Cond.methodLink RX6 75 yX1_carIn ∈ uw := uw_mem 289 (by decide +kernel) (by decide +kernel)
theorem kw_290 : Cond.instanceMethod yX1_carIn ∈ uw := uw_mem 290 (by decide +kernel) (by decide +kernel)
theorem kw_291 : Cond.selects RX1 yX1_carIn yX1_carIn ∈ uw := uw_mem 291 (by decide +kernel) (by decide +kernel)
theorem kw_292 : Cond.code yX1_carIn cX1_carIn 3 (some .int) ∈ uw := uw_mem 292 (by decide +kernel) (by decide +kernel)
theorem kw_293 : Cond.methodLink RX6 78 yX6_no ∈ uw := uw_mem 293 (by decide +kernel) (by decide +kernel)
theorem kw_295 : Cond.instanceMethod yX6_no ∈ uw := uw_mem 295 (by decide +kernel) (by decide +kernel)
theorem kw_296 : Cond.code yX6_no cX6_no 1 (some .int) ∈ uw := uw_mem 296 (by decide +kernel) (by decide +kernel)
theorem kw_297 : Cond.methodLink RX6 82 yX6_full ∈ uw := uw_mem 297 (by decide +kernel) (by decide +kernel)
theorem kw_299 : Cond.instanceMethod yX6_full ∈ uw := uw_mem 299 (by decide +kernel) (by decide +kernel)
theorem kw_300 : Cond.code yX6_full cX6_full 1 (some .int) ∈ uw := uw_mem 300 (by decide +kernel) (by decide +kernel)
theorem kw_301 : Cond.methodLink RX6 88 yX1_put ∈ uw := uw_mem 301 (by decide +kernel) (by decide +kernel)
theorem kw_302 : Cond.instanceMethod yX1_put ∈ uw := uw_mem 302 (by decide +kernel) (by decide +kernel)
theorem kw_303 : Cond.selects RX1 yX1_put yX1_put ∈ uw := uw_mem 303 (by decide +kernel) (by decide +kernel)
theorem kw_304 : Cond.code yX1_put cX1_put 5 (some .int) ∈ uw := uw_mem 304 (by decide +kernel) (by decide +kernel)
theorem kw_309 : Cond.methodLink RX6 92 yX4_append ∈ uw := uw_mem 309 (by decide +kernel) (by decide +kernel)
theorem kw_310 : Cond.instanceMethod yX4_append ∈ uw := uw_mem 310 (by decide +kernel) (by decide +kernel)
theorem kw_311 : Cond.selects RX4 yX4_append yX4_append ∈ uw := uw_mem 311 (by decide +kernel) (by decide +kernel)
theorem kw_312 : Cond.code yX4_append cX4_append 2 (some .boolean) ∈ uw := uw_mem 312 (by decide +kernel) (by decide +kernel)
theorem kw_321 : Cond.methodLink RX6 99 yX4_readFloor ∈ uw := uw_mem 321 (by decide +kernel) (by decide +kernel)
theorem kw_322 : Cond.instanceMethod yX4_readFloor ∈ uw := uw_mem 322 (by decide +kernel) (by decide +kernel)
theorem kw_323 : Cond.selects RX4 yX4_readFloor yX4_readFloor ∈ uw := uw_mem 323 (by decide +kernel) (by decide +kernel)
theorem kw_324 : Cond.code yX4_readFloor cX4_readFloor 2 (some .int) ∈ uw := uw_mem 324 (by decide +kernel) (by decide +kernel)
theorem kw_325 : Cond.methodLink RX4 41 yX1_empty ∈ uw := uw_mem 325 (by decide +kernel) (by decide +kernel)
theorem kw_326 : Cond.methodLink RX4 44 yX4_advance ∈ uw := uw_mem 326 (by decide +kernel) (by decide +kernel)
theorem kw_328 : Cond.instanceMethod yX4_advance ∈ uw := uw_mem 328 (by decide +kernel) (by decide +kernel)
theorem kw_329 : Cond.code yX4_advance cX4_advance 1 (none) ∈ uw := uw_mem 329 (by decide +kernel) (by decide +kernel)
theorem kw_330 : Cond.methodLink RX4 105 yX4_passAll ∈ uw := uw_mem 330 (by decide +kernel) (by decide +kernel)
theorem kw_332 : Cond.instanceMethod yX4_passAll ∈ uw := uw_mem 332 (by decide +kernel) (by decide +kernel)
theorem kw_333 : Cond.code yX4_passAll cX4_passAll 4 (some .boolean) ∈ uw := uw_mem 333 (by decide +kernel) (by decide +kernel)
theorem kw_334 : Cond.methodLink RX4 109 yX4_takeNumber ∈ uw := uw_mem 334 (by decide +kernel) (by decide +kernel)
theorem kw_336 : Cond.instanceMethod yX4_takeNumber ∈ uw := uw_mem 336 (by decide +kernel) (by decide +kernel)
theorem kw_337 : Cond.code yX4_takeNumber cX4_takeNumber 3 (none) ∈ uw := uw_mem 337 (by decide +kernel) (by decide +kernel)
theorem kw_338 : Cond.methodLink RX4 47 yX4_readItem ∈ uw := uw_mem 338 (by decide +kernel) (by decide +kernel)
theorem kw_340 : Cond.instanceMethod yX4_readItem ∈ uw := uw_mem 340 (by decide +kernel) (by decide +kernel)
theorem kw_341 : Cond.code yX4_readItem cX4_readItem 1 (some .boolean) ∈ uw := uw_mem 341 (by decide +kernel) (by decide +kernel)
theorem kw_343 : Cond.methodLink RX4 53 yX4_wordIs ∈ uw := uw_mem 343 (by decide +kernel) (by decide +kernel)
theorem kw_345 : Cond.instanceMethod yX4_wordIs ∈ uw := uw_mem 345 (by decide +kernel) (by decide +kernel)
theorem kw_346 : Cond.code yX4_wordIs cX4_wordIs 4 (some .boolean) ∈ uw := uw_mem 346 (by decide +kernel) (by decide +kernel)
theorem kw_347 : Cond.methodLink RX4 96 yJ0_length_8abf5 ∈ uw := uw_mem 347 (by decide +kernel) (by decide +kernel)
theorem kw_348 : Cond.instanceMethod yJ0_length_8abf5 ∈ uw := uw_mem 348 (by decide +kernel) (by decide +kernel)
theorem kw_349 : Cond.selects RJ0 yJ0_length_8abf5 yJ0_length_8abf5 ∈ uw := uw_mem 349 (by decide +kernel) (by decide +kernel)
theorem kw_350 : Cond.code yJ0_length_8abf5 cJ0_length_8abf5 1 (some .int) ∈ uw := uw_mem 350 (by decide +kernel) (by decide +kernel)
theorem kw_351 : Cond.methodLink RJ0 335 yJ0_coder_7d493 ∈ uw := uw_mem 351 (by decide +kernel) (by decide +kernel)
theorem kw_352 : Cond.instanceMethod yJ0_coder_7d493 ∈ uw := uw_mem 352 (by decide +kernel) (by decide +kernel)
theorem kw_353 : Cond.selects RJ0 yJ0_coder_7d493 yJ0_coder_7d493 ∈ uw := uw_mem 353 (by decide +kernel) (by decide +kernel)
theorem kw_354 : Cond.code yJ0_coder_7d493 cJ0_coder_7d493 1 (some .byte) ∈ uw := uw_mem 354 (by decide +kernel) (by decide +kernel)
theorem kw_355 : Cond.fieldLink RJ0 38 "java/lang/String" "COMPACT_STRINGS" "Z" ∈ uw := uw_mem 355 (by decide +kernel) (by decide +kernel)
theorem kw_357 : Cond.methodLink RX4 101 yJ0_charAt_5068e ∈ uw := uw_mem 357 (by decide +kernel) (by decide +kernel)
theorem kw_358 : Cond.instanceMethod yJ0_charAt_5068e ∈ uw := uw_mem 358 (by decide +kernel) (by decide +kernel)
theorem kw_359 : Cond.selects RJ0 yJ0_charAt_5068e yJ0_charAt_5068e ∈ uw := uw_mem 359 (by decide +kernel) (by decide +kernel)
theorem kw_360 : Cond.code yJ0_charAt_5068e cJ0_charAt_5068e 2 (some .char) ∈ uw := uw_mem 360 (by decide +kernel) (by decide +kernel)
theorem kw_361 : Cond.methodLink RJ0 492 yJ0_isLatin1_aae02 ∈ uw := uw_mem 361 (by decide +kernel) (by decide +kernel)
theorem kw_362 : Cond.instanceMethod yJ0_isLatin1_aae02 ∈ uw := uw_mem 362 (by decide +kernel) (by decide +kernel)
theorem kw_363 : Cond.selects RJ0 yJ0_isLatin1_aae02 yJ0_isLatin1_aae02 ∈ uw := uw_mem 363 (by decide +kernel) (by decide +kernel)
theorem kw_364 : Cond.code yJ0_isLatin1_aae02 cJ0_isLatin1_aae02 1 (some .boolean) ∈ uw := uw_mem 364 (by decide +kernel) (by decide +kernel)
theorem kw_365 : Cond.methodLink RJ0 495 yJ1_charAt_3b067 ∈ uw := uw_mem 365 (by decide +kernel) (by decide +kernel)
theorem kw_366 : Cond.static yJ1_charAt_3b067 ∈ uw := uw_mem 366 (by decide +kernel) (by decide +kernel)
theorem kw_367 : Cond.code yJ1_charAt_3b067 cJ1_charAt_3b067 2 (some .char) ∈ uw := uw_mem 367 (by decide +kernel) (by decide +kernel)
theorem kw_368 : Cond.methodLink RJ1 9 yJ0_checkIndex_df160 ∈ uw := uw_mem 368 (by decide +kernel) (by decide +kernel)
theorem kw_369 : Cond.static yJ0_checkIndex_df160 ∈ uw := uw_mem 369 (by decide +kernel) (by decide +kernel)
theorem kw_370 : Cond.code yJ0_checkIndex_df160 cJ0_checkIndex_df160 2 (none) ∈ uw := uw_mem 370 (by decide +kernel) (by decide +kernel)
theorem kw_371 : Cond.fieldLink RJ0 1053 "jdk/internal/util/Preconditions" "SIOOBE_FORMATTER" "Ljava/util/function/BiFunction;" ∈ uw := uw_mem 371 (by decide +kernel) (by decide +kernel)
theorem kw_373 : Cond.methodLink RJ0 1059 yJ3_checkIndex_8e157 ∈ uw := uw_mem 373 (by decide +kernel) (by decide +kernel)
theorem kw_374 : Cond.static yJ3_checkIndex_8e157 ∈ uw := uw_mem 374 (by decide +kernel) (by decide +kernel)
theorem kw_375 : Cond.code yJ3_checkIndex_8e157 cJ3_checkIndex_8e157 3 (some .int) ∈ uw := uw_mem 375 (by decide +kernel) (by decide +kernel)
theorem kw_395 : Cond.methodLink RX4 57 yX4_stops ∈ uw := uw_mem 395 (by decide +kernel) (by decide +kernel)
theorem kw_397 : Cond.instanceMethod yX4_stops ∈ uw := uw_mem 397 (by decide +kernel) (by decide +kernel)
theorem kw_398 : Cond.code yX4_stops cX4_stops 1 (some .boolean) ∈ uw := uw_mem 398 (by decide +kernel) (by decide +kernel)
theorem kw_400 : Cond.methodLink RX4 65 yX4_readCar ∈ uw := uw_mem 400 (by decide +kernel) (by decide +kernel)
theorem kw_402 : Cond.instanceMethod yX4_readCar ∈ uw := uw_mem 402 (by decide +kernel) (by decide +kernel)
theorem kw_403 : Cond.code yX4_readCar cX4_readCar 3 (some .boolean) ∈ uw := uw_mem 403 (by decide +kernel) (by decide +kernel)
theorem kw_404 : Cond.methodLink RX4 78 yX4_numberBelow ∈ uw := uw_mem 404 (by decide +kernel) (by decide +kernel)
theorem kw_406 : Cond.instanceMethod yX4_numberBelow ∈ uw := uw_mem 406 (by decide +kernel) (by decide +kernel)
theorem kw_407 : Cond.code yX4_numberBelow cX4_numberBelow 2 (some .boolean) ∈ uw := uw_mem 407 (by decide +kernel) (by decide +kernel)
theorem kw_408 : Cond.methodLink RX4 82 yX1_carIn ∈ uw := uw_mem 408 (by decide +kernel) (by decide +kernel)
theorem kw_409 : Cond.methodLink RX4 86 yX1_put ∈ uw := uw_mem 409 (by decide +kernel) (by decide +kernel)
theorem kw_411 : Cond.methodLink RX4 70 yX4_readHat ∈ uw := uw_mem 411 (by decide +kernel) (by decide +kernel)
theorem kw_413 : Cond.instanceMethod yX4_readHat ∈ uw := uw_mem 413 (by decide +kernel) (by decide +kernel)
theorem kw_414 : Cond.code yX4_readHat cX4_readHat 1 (some .boolean) ∈ uw := uw_mem 414 (by decide +kernel) (by decide +kernel)
theorem kw_416 : Cond.methodLink RX4 75 yX4_readFoe ∈ uw := uw_mem 416 (by decide +kernel) (by decide +kernel)
theorem kw_418 : Cond.instanceMethod yX4_readFoe ∈ uw := uw_mem 418 (by decide +kernel) (by decide +kernel)
theorem kw_419 : Cond.code yX4_readFoe cX4_readFoe 2 (some .boolean) ∈ uw := uw_mem 419 (by decide +kernel) (by decide +kernel)
theorem kw_420 : Cond.methodLink RX6 105 yX1_copyOf ∈ uw := uw_mem 420 (by decide +kernel) (by decide +kernel)
theorem kw_421 : Cond.instanceMethod yX1_copyOf ∈ uw := uw_mem 421 (by decide +kernel) (by decide +kernel)
theorem kw_422 : Cond.selects RX1 yX1_copyOf yX1_copyOf ∈ uw := uw_mem 422 (by decide +kernel) (by decide +kernel)
theorem kw_423 : Cond.code yX1_copyOf cX1_copyOf 2 (none) ∈ uw := uw_mem 423 (by decide +kernel) (by decide +kernel)
theorem kw_424 : Cond.methodLink RX1 40 arraycopyName ∈ uw := uw_mem 424 (by decide +kernel) (by decide +kernel)
theorem kw_425 : Cond.static arraycopyName ∈ uw := uw_mem 425 (by decide +kernel) (by decide +kernel)
theorem kw_426 : Cond.native arraycopyName ∈ uw := uw_mem 426 (by decide +kernel) (by decide +kernel)
theorem kw_431 : Cond.methodLink RX6 112 yX3_keep ∈ uw := uw_mem 431 (by decide +kernel) (by decide +kernel)
theorem kw_432 : Cond.instanceMethod yX3_keep ∈ uw := uw_mem 432 (by decide +kernel) (by decide +kernel)
theorem kw_433 : Cond.selects RX3 yX3_keep yX3_keep ∈ uw := uw_mem 433 (by decide +kernel) (by decide +kernel)
theorem kw_434 : Cond.code yX3_keep cX3_keep 3 (none) ∈ uw := uw_mem 434 (by decide +kernel) (by decide +kernel)
theorem kw_435 : Cond.methodLink RX3 39 yX1_copyOf ∈ uw := uw_mem 435 (by decide +kernel) (by decide +kernel)
theorem kw_436 : Cond.methodLink RX6 115 yX1_run ∈ uw := uw_mem 436 (by decide +kernel) (by decide +kernel)
theorem kw_437 : Cond.instanceMethod yX1_run ∈ uw := uw_mem 437 (by decide +kernel) (by decide +kernel)
theorem kw_438 : Cond.selects RX1 yX1_run yX1_run ∈ uw := uw_mem 438 (by decide +kernel) (by decide +kernel)
theorem kw_439 : Cond.code yX1_run cX1_run 4 (some .int) ∈ uw := uw_mem 439 (by decide +kernel) (by decide +kernel)
theorem kw_440 : Cond.methodLink RX1 84 yX1_step ∈ uw := uw_mem 440 (by decide +kernel) (by decide +kernel)
theorem kw_441 : Cond.instanceMethod yX1_step ∈ uw := uw_mem 441 (by decide +kernel) (by decide +kernel)
theorem kw_442 : Cond.selects RX1 yX1_step yX1_step ∈ uw := uw_mem 442 (by decide +kernel) (by decide +kernel)
theorem kw_443 : Cond.code yX1_step cX1_step 8 (some .int) ∈ uw := uw_mem 443 (by decide +kernel) (by decide +kernel)
theorem kw_444 : Cond.methodLink RX1 75 yX1_choice ∈ uw := uw_mem 444 (by decide +kernel) (by decide +kernel)
theorem kw_445 : Cond.instanceMethod yX1_choice ∈ uw := uw_mem 445 (by decide +kernel) (by decide +kernel)
theorem kw_446 : Cond.selects RX1 yX1_choice yX1_choice ∈ uw := uw_mem 446 (by decide +kernel) (by decide +kernel)
theorem kw_447 : Cond.code yX1_choice cX1_choice 2 (some .int) ∈ uw := uw_mem 447 (by decide +kernel) (by decide +kernel)
theorem kw_448 : Cond.methodLink RX1 63 yX1_ahead ∈ uw := uw_mem 448 (by decide +kernel) (by decide +kernel)
theorem kw_449 : Cond.instanceMethod yX1_ahead ∈ uw := uw_mem 449 (by decide +kernel) (by decide +kernel)
theorem kw_450 : Cond.selects RX1 yX1_ahead yX1_ahead ∈ uw := uw_mem 450 (by decide +kernel) (by decide +kernel)
theorem kw_451 : Cond.code yX1_ahead cX1_ahead 3 (some .int) ∈ uw := uw_mem 451 (by decide +kernel) (by decide +kernel)
theorem kw_452 : Cond.methodLink RX1 46 yX1_nextCell ∈ uw := uw_mem 452 (by decide +kernel) (by decide +kernel)
theorem kw_453 : Cond.static yX1_nextCell ∈ uw := uw_mem 453 (by decide +kernel) (by decide +kernel)
theorem kw_454 : Cond.code yX1_nextCell cX1_nextCell 4 (some .int) ∈ uw := uw_mem 454 (by decide +kernel) (by decide +kernel)
theorem kw_455 : Cond.methodLink RX1 50 yX1_carIn ∈ uw := uw_mem 455 (by decide +kernel) (by decide +kernel)
theorem kw_456 : Cond.methodLink RX1 66 yX1_towards ∈ uw := uw_mem 456 (by decide +kernel) (by decide +kernel)
theorem kw_457 : Cond.instanceMethod yX1_towards ∈ uw := uw_mem 457 (by decide +kernel) (by decide +kernel)
theorem kw_458 : Cond.selects RX1 yX1_towards yX1_towards ∈ uw := uw_mem 458 (by decide +kernel) (by decide +kernel)
theorem kw_459 : Cond.code yX1_towards cX1_towards 5 (some .int) ∈ uw := uw_mem 459 (by decide +kernel) (by decide +kernel)
theorem kw_460 : Cond.methodLink RX1 54 yX1_has ∈ uw := uw_mem 460 (by decide +kernel) (by decide +kernel)
theorem kw_461 : Cond.instanceMethod yX1_has ∈ uw := uw_mem 461 (by decide +kernel) (by decide +kernel)
theorem kw_462 : Cond.selects RX1 yX1_has yX1_has ∈ uw := uw_mem 462 (by decide +kernel) (by decide +kernel)
theorem kw_463 : Cond.code yX1_has cX1_has 2 (some .boolean) ∈ uw := uw_mem 463 (by decide +kernel) (by decide +kernel)
theorem kw_464 : Cond.methodLink RX1 58 Lib.Math.abs.name ∈ uw := uw_mem 464 (by decide +kernel) (by decide +kernel)
theorem kw_465 : Cond.static Lib.Math.abs.name ∈ uw := uw_mem 465 (by decide +kernel) (by decide +kernel)
theorem kw_466 : Cond.code Lib.Math.abs.name Lib.Math.abs.code 1 (some .int) ∈ uw := uw_mem 466 (by decide +kernel) (by decide +kernel)
theorem kw_467 : Cond.methodLink RX1 69 yX0_takes ∈ uw := uw_mem 467 (by decide +kernel) (by decide +kernel)
theorem kw_468 : Cond.static yX0_takes ∈ uw := uw_mem 468 (by decide +kernel) (by decide +kernel)
theorem kw_469 : Cond.code yX0_takes cX0_takes 10 (some .int) ∈ uw := uw_mem 469 (by decide +kernel) (by decide +kernel)
theorem kw_470 : Cond.methodLink RX0 9 yX0_rightOf ∈ uw := uw_mem 470 (by decide +kernel) (by decide +kernel)
theorem kw_471 : Cond.static yX0_rightOf ∈ uw := uw_mem 471 (by decide +kernel) (by decide +kernel)
theorem kw_472 : Cond.code yX0_rightOf cX0_rightOf 1 (some .int) ∈ uw := uw_mem 472 (by decide +kernel) (by decide +kernel)
theorem kw_473 : Cond.methodLink RX1 78 yX1_drive ∈ uw := uw_mem 473 (by decide +kernel) (by decide +kernel)
theorem kw_475 : Cond.instanceMethod yX1_drive ∈ uw := uw_mem 475 (by decide +kernel) (by decide +kernel)
theorem kw_476 : Cond.code yX1_drive cX1_drive 5 (some .int) ∈ uw := uw_mem 476 (by decide +kernel) (by decide +kernel)
theorem kw_477 : Cond.methodLink RX1 81 yX0_rightOf ∈ uw := uw_mem 477 (by decide +kernel) (by decide +kernel)
theorem kw_482 : Cond.methodLink RX6 118 yX1_has ∈ uw := uw_mem 482 (by decide +kernel) (by decide +kernel)
theorem kw_491 : Cond.methodLink RX6 131 yX3_takeBack ∈ uw := uw_mem 491 (by decide +kernel) (by decide +kernel)
theorem kw_492 : Cond.instanceMethod yX3_takeBack ∈ uw := uw_mem 492 (by decide +kernel) (by decide +kernel)
theorem kw_493 : Cond.selects RX3 yX3_takeBack yX3_takeBack ∈ uw := uw_mem 493 (by decide +kernel) (by decide +kernel)
theorem kw_494 : Cond.code yX3_takeBack cX3_takeBack 1 (some .boolean) ∈ uw := uw_mem 494 (by decide +kernel) (by decide +kernel)
theorem kw_499 : Cond.methodLink RX6 138 yX1_fact ∈ uw := uw_mem 499 (by decide +kernel) (by decide +kernel)
theorem kw_500 : Cond.instanceMethod yX1_fact ∈ uw := uw_mem 500 (by decide +kernel) (by decide +kernel)
theorem kw_501 : Cond.selects RX1 yX1_fact yX1_fact ∈ uw := uw_mem 501 (by decide +kernel) (by decide +kernel)
theorem kw_502 : Cond.code yX1_fact cX1_fact 3 (some .int) ∈ uw := uw_mem 502 (by decide +kernel) (by decide +kernel)
theorem kw_511 : Cond.methodLink RX6 142 yX1_choice ∈ uw := uw_mem 511 (by decide +kernel) (by decide +kernel)
theorem kw_516 : Cond.methodLink RX6 145 yX5_begin ∈ uw := uw_mem 516 (by decide +kernel) (by decide +kernel)
theorem kw_517 : Cond.instanceMethod yX5_begin ∈ uw := uw_mem 517 (by decide +kernel) (by decide +kernel)
theorem kw_518 : Cond.selects RX5 yX5_begin yX5_begin ∈ uw := uw_mem 518 (by decide +kernel) (by decide +kernel)
theorem kw_519 : Cond.code yX5_begin cX5_begin 2 (some (.object "BumperCars$Floor")) ∈ uw := uw_mem 519 (by decide +kernel) (by decide +kernel)
theorem kw_520 : Cond.methodLink RX5 38 yX1_copyOf ∈ uw := uw_mem 520 (by decide +kernel) (by decide +kernel)
theorem kw_525 : Cond.methodLink RX6 152 yX1_step ∈ uw := uw_mem 525 (by decide +kernel) (by decide +kernel)
theorem kw_534 : Cond.methodLink RX6 156 yX1_greatestCluster ∈ uw := uw_mem 534 (by decide +kernel) (by decide +kernel)
theorem kw_535 : Cond.instanceMethod yX1_greatestCluster ∈ uw := uw_mem 535 (by decide +kernel) (by decide +kernel)
theorem kw_536 : Cond.selects RX1 yX1_greatestCluster yX1_greatestCluster ∈ uw := uw_mem 536 (by decide +kernel) (by decide +kernel)
theorem kw_537 : Cond.code yX1_greatestCluster cX1_greatestCluster 4 (some .int) ∈ uw := uw_mem 537 (by decide +kernel) (by decide +kernel)
theorem kw_538 : Cond.methodLink RX1 100 yX1_clusterWith ∈ uw := uw_mem 538 (by decide +kernel) (by decide +kernel)
theorem kw_540 : Cond.instanceMethod yX1_clusterWith ∈ uw := uw_mem 540 (by decide +kernel) (by decide +kernel)
theorem kw_541 : Cond.code yX1_clusterWith cX1_clusterWith 5 (some .int) ∈ uw := uw_mem 541 (by decide +kernel) (by decide +kernel)
theorem kw_542 : Cond.methodLink RX1 108 yX1_touches ∈ uw := uw_mem 542 (by decide +kernel) (by decide +kernel)
theorem kw_544 : Cond.instanceMethod yX1_touches ∈ uw := uw_mem 544 (by decide +kernel) (by decide +kernel)
theorem kw_545 : Cond.code yX1_touches cX1_touches 4 (some .boolean) ∈ uw := uw_mem 545 (by decide +kernel) (by decide +kernel)
theorem kw_546 : Cond.methodLink RX1 112 yX1_distance ∈ uw := uw_mem 546 (by decide +kernel) (by decide +kernel)
theorem kw_547 : Cond.static yX1_distance ∈ uw := uw_mem 547 (by decide +kernel) (by decide +kernel)
theorem kw_548 : Cond.code yX1_distance cX1_distance 2 (some .int) ∈ uw := uw_mem 548 (by decide +kernel) (by decide +kernel)
theorem kw_549 : Cond.methodLink RX1 103 yJ6_bitCount_0f7a4 ∈ uw := uw_mem 549 (by decide +kernel) (by decide +kernel)
theorem kw_550 : Cond.static yJ6_bitCount_0f7a4 ∈ uw := uw_mem 550 (by decide +kernel) (by decide +kernel)
theorem kw_551 : Cond.code yJ6_bitCount_0f7a4 cJ6_bitCount_0f7a4 1 (some .int) ∈ uw := uw_mem 551 (by decide +kernel) (by decide +kernel)
theorem kw_552 : Cond.constant RJ6 265 (1431655765 : Int32) ∈ uw := uw_mem 552 (by decide +kernel) (by decide +kernel)
theorem kw_553 : Cond.constant RJ6 266 (858993459 : Int32) ∈ uw := uw_mem 553 (by decide +kernel) (by decide +kernel)
theorem kw_554 : Cond.constant RJ6 267 (252645135 : Int32) ∈ uw := uw_mem 554 (by decide +kernel) (by decide +kernel)
theorem kw_555 : Cond.methodLink RX6 159 yJ6_bitCount_0f7a4 ∈ uw := uw_mem 555 (by decide +kernel) (by decide +kernel)
theorem kw_560 : Cond.methodLink RX6 164 yX1_nearestFreeCell ∈ uw := uw_mem 560 (by decide +kernel) (by decide +kernel)
theorem kw_561 : Cond.instanceMethod yX1_nearestFreeCell ∈ uw := uw_mem 561 (by decide +kernel) (by decide +kernel)
theorem kw_562 : Cond.selects RX1 yX1_nearestFreeCell yX1_nearestFreeCell ∈ uw := uw_mem 562 (by decide +kernel) (by decide +kernel)
theorem kw_563 : Cond.code yX1_nearestFreeCell cX1_nearestFreeCell 5 (some .int) ∈ uw := uw_mem 563 (by decide +kernel) (by decide +kernel)
theorem kw_564 : Cond.methodLink RX1 115 yX1_farFromAll ∈ uw := uw_mem 564 (by decide +kernel) (by decide +kernel)
theorem kw_565 : Cond.instanceMethod yX1_farFromAll ∈ uw := uw_mem 565 (by decide +kernel) (by decide +kernel)
theorem kw_566 : Cond.selects RX1 yX1_farFromAll yX1_farFromAll ∈ uw := uw_mem 566 (by decide +kernel) (by decide +kernel)
theorem kw_567 : Cond.code yX1_farFromAll cX1_farFromAll 4 (some .int) ∈ uw := uw_mem 567 (by decide +kernel) (by decide +kernel)
theorem kw_568 : Cond.methodLink RX6 167 yX1_farFromAll ∈ uw := uw_mem 568 (by decide +kernel) (by decide +kernel)
theorem kw_573 : Cond.methodLink RX6 170 yX5_searchRow ∈ uw := uw_mem 573 (by decide +kernel) (by decide +kernel)
theorem kw_574 : Cond.instanceMethod yX5_searchRow ∈ uw := uw_mem 574 (by decide +kernel) (by decide +kernel)
theorem kw_575 : Cond.selects RX5 yX5_searchRow yX5_searchRow ∈ uw := uw_mem 575 (by decide +kernel) (by decide +kernel)
theorem kw_576 : Cond.code yX5_searchRow cX5_searchRow 5 (some .int) ∈ uw := uw_mem 576 (by decide +kernel) (by decide +kernel)
theorem kw_577 : Cond.methodLink RX5 42 yX5_begin ∈ uw := uw_mem 577 (by decide +kernel) (by decide +kernel)
theorem kw_578 : Cond.methodLink RX5 46 yX5_searchFrom ∈ uw := uw_mem 578 (by decide +kernel) (by decide +kernel)
theorem kw_580 : Cond.instanceMethod yX5_searchFrom ∈ uw := uw_mem 580 (by decide +kernel) (by decide +kernel)
theorem kw_581 : Cond.code yX5_searchFrom cX5_searchFrom 8 (none) ∈ uw := uw_mem 581 (by decide +kernel) (by decide +kernel)
theorem kw_582 : Cond.methodLink RX5 56 arraycopyName ∈ uw := uw_mem 582 (by decide +kernel) (by decide +kernel)
theorem kw_583 : Cond.methodLink RX5 62 yX1_step ∈ uw := uw_mem 583 (by decide +kernel) (by decide +kernel)
theorem kw_588 : Cond.methodLink RX6 177 yX6_wayOrNone ∈ uw := uw_mem 588 (by decide +kernel) (by decide +kernel)
theorem kw_589 : Cond.static yX6_wayOrNone ∈ uw := uw_mem 589 (by decide +kernel) (by decide +kernel)
theorem kw_590 : Cond.code yX6_wayOrNone cX6_wayOrNone 1 (some .boolean) ∈ uw := uw_mem 590 (by decide +kernel) (by decide +kernel)
theorem kw_591 : Cond.methodLink RX6 184 yX2_add ∈ uw := uw_mem 591 (by decide +kernel) (by decide +kernel)
theorem kw_592 : Cond.instanceMethod yX2_add ∈ uw := uw_mem 592 (by decide +kernel) (by decide +kernel)
theorem kw_593 : Cond.selects RX2 yX2_add yX2_add ∈ uw := uw_mem 593 (by decide +kernel) (by decide +kernel)
theorem kw_594 : Cond.code yX2_add cX2_add 9 (some .boolean) ∈ uw := uw_mem 594 (by decide +kernel) (by decide +kernel)
theorem kw_603 : Cond.methodLink RX6 193 yX2_kindsOf ∈ uw := uw_mem 603 (by decide +kernel) (by decide +kernel)
theorem kw_604 : Cond.instanceMethod yX2_kindsOf ∈ uw := uw_mem 604 (by decide +kernel) (by decide +kernel)
theorem kw_605 : Cond.selects RX2 yX2_kindsOf yX2_kindsOf ∈ uw := uw_mem 605 (by decide +kernel) (by decide +kernel)
theorem kw_606 : Cond.code yX2_kindsOf cX2_kindsOf 4 (some .int) ∈ uw := uw_mem 606 (by decide +kernel) (by decide +kernel)
theorem kw_607 : Cond.methodLink RX2 25 yX2_fits ∈ uw := uw_mem 607 (by decide +kernel) (by decide +kernel)
theorem kw_609 : Cond.instanceMethod yX2_fits ∈ uw := uw_mem 609 (by decide +kernel) (by decide +kernel)
theorem kw_610 : Cond.code yX2_fits cX2_fits 6 (some .boolean) ∈ uw := uw_mem 610 (by decide +kernel) (by decide +kernel)
theorem kw_611 : Cond.methodLink RX2 29 yX0_takes ∈ uw := uw_mem 611 (by decide +kernel) (by decide +kernel)
theorem kw_616 : Cond.methodLink RX6 196 yX5_bestLook ∈ uw := uw_mem 616 (by decide +kernel) (by decide +kernel)
theorem kw_617 : Cond.instanceMethod yX5_bestLook ∈ uw := uw_mem 617 (by decide +kernel) (by decide +kernel)
theorem kw_618 : Cond.selects RX5 yX5_bestLook yX5_bestLook ∈ uw := uw_mem 618 (by decide +kernel) (by decide +kernel)
theorem kw_619 : Cond.code yX5_bestLook cX5_bestLook 9 (some .int) ∈ uw := uw_mem 619 (by decide +kernel) (by decide +kernel)
theorem kw_620 : Cond.methodLink RX5 76 yX5_mostAlike ∈ uw := uw_mem 620 (by decide +kernel) (by decide +kernel)
theorem kw_622 : Cond.instanceMethod yX5_mostAlike ∈ uw := uw_mem 622 (by decide +kernel) (by decide +kernel)
theorem kw_623 : Cond.code yX5_mostAlike cX5_mostAlike 12 (some .int) ∈ uw := uw_mem 623 (by decide +kernel) (by decide +kernel)
theorem kw_624 : Cond.methodLink RX5 86 yX1_towards ∈ uw := uw_mem 624 (by decide +kernel) (by decide +kernel)
theorem kw_625 : Cond.methodLink RX5 93 yX0_takes ∈ uw := uw_mem 625 (by decide +kernel) (by decide +kernel)
theorem kw_626 : Cond.methodLink RX5 99 Lib.Math.max.name ∈ uw := uw_mem 626 (by decide +kernel) (by decide +kernel)
theorem kw_627 : Cond.static Lib.Math.max.name ∈ uw := uw_mem 627 (by decide +kernel) (by decide +kernel)
theorem kw_628 : Cond.code Lib.Math.max.name Lib.Math.max.code 2 (some .int) ∈ uw := uw_mem 628 (by decide +kernel) (by decide +kernel)
theorem kw_633 : Cond.methodLink RX6 200 yX5_restingPairs ∈ uw := uw_mem 633 (by decide +kernel) (by decide +kernel)
theorem kw_634 : Cond.instanceMethod yX5_restingPairs ∈ uw := uw_mem 634 (by decide +kernel) (by decide +kernel)
theorem kw_635 : Cond.selects RX5 yX5_restingPairs yX5_restingPairs ∈ uw := uw_mem 635 (by decide +kernel) (by decide +kernel)
theorem kw_636 : Cond.code yX5_restingPairs cX5_restingPairs 6 (some .int) ∈ uw := uw_mem 636 (by decide +kernel) (by decide +kernel)
theorem kw_637 : Cond.methodLink RX5 66 yX5_gain ∈ uw := uw_mem 637 (by decide +kernel) (by decide +kernel)
theorem kw_638 : Cond.static yX5_gain ∈ uw := uw_mem 638 (by decide +kernel) (by decide +kernel)
theorem kw_639 : Cond.code yX5_gain cX5_gain 3 (some .int) ∈ uw := uw_mem 639 (by decide +kernel) (by decide +kernel)
theorem kw_640 : Cond.methodLink RX5 70 yX5_rests ∈ uw := uw_mem 640 (by decide +kernel) (by decide +kernel)
theorem kw_642 : Cond.instanceMethod yX5_rests ∈ uw := uw_mem 642 (by decide +kernel) (by decide +kernel)
theorem kw_643 : Cond.code yX5_rests cX5_rests 5 (some .boolean) ∈ uw := uw_mem 643 (by decide +kernel) (by decide +kernel)
theorem kw_644 : Cond.methodLink RX6 203 yX6_bitOfRank ∈ uw := uw_mem 644 (by decide +kernel) (by decide +kernel)
theorem kw_645 : Cond.static yX6_bitOfRank ∈ uw := uw_mem 645 (by decide +kernel) (by decide +kernel)
theorem kw_646 : Cond.code yX6_bitOfRank cX6_bitOfRank 4 (some .int) ∈ uw := uw_mem 646 (by decide +kernel) (by decide +kernel)
theorem kw_651 : Cond.methodLink RX6 206 yX5_bumpsByOdds ∈ uw := uw_mem 651 (by decide +kernel) (by decide +kernel)
theorem kw_652 : Cond.instanceMethod yX5_bumpsByOdds ∈ uw := uw_mem 652 (by decide +kernel) (by decide +kernel)
theorem kw_653 : Cond.selects RX5 yX5_bumpsByOdds yX5_bumpsByOdds ∈ uw := uw_mem 653 (by decide +kernel) (by decide +kernel)
theorem kw_654 : Cond.code yX5_bumpsByOdds cX5_bumpsByOdds 10 (some .long) ∈ uw := uw_mem 654 (by decide +kernel) (by decide +kernel)
theorem kw_655 : Cond.constantLong RX5 74 (10 : Int64) ∈ uw := uw_mem 655 (by decide +kernel) (by decide +kernel)
theorem kw_656 : Cond.methodLink RX6 210 yX6_powerOfTen ∈ uw := uw_mem 656 (by decide +kernel) (by decide +kernel)
theorem kw_657 : Cond.static yX6_powerOfTen ∈ uw := uw_mem 657 (by decide +kernel) (by decide +kernel)
theorem kw_658 : Cond.code yX6_powerOfTen cX6_powerOfTen 4 (some .long) ∈ uw := uw_mem 658 (by decide +kernel) (by decide +kernel)
theorem kw_659 : Cond.constantLong RX6 244 (10 : Int64) ∈ uw := uw_mem 659 (by decide +kernel) (by decide +kernel)
theorem kw_660 : Cond.methodLink RX6 214 yX6_putFraction ∈ uw := uw_mem 660 (by decide +kernel) (by decide +kernel)
theorem kw_662 : Cond.instanceMethod yX6_putFraction ∈ uw := uw_mem 662 (by decide +kernel) (by decide +kernel)
theorem kw_663 : Cond.code yX6_putFraction cX6_putFraction 7 (none) ∈ uw := uw_mem 663 (by decide +kernel) (by decide +kernel)
theorem kw_664 : Cond.methodLink RX6 240 yX6_commonDivisor ∈ uw := uw_mem 664 (by decide +kernel) (by decide +kernel)
theorem kw_665 : Cond.static yX6_commonDivisor ∈ uw := uw_mem 665 (by decide +kernel) (by decide +kernel)
theorem kw_666 : Cond.code yX6_commonDivisor cX6_commonDivisor 7 (some .long) ∈ uw := uw_mem 666 (by decide +kernel) (by decide +kernel)
theorem kw_671 : Cond.constant RX6 218 (999999 : Int32) ∈ uw := uw_mem 671 (by decide +kernel) (by decide +kernel)
theorem kw_672 : Cond.methodLink RX6 219 yX1_runBySeed ∈ uw := uw_mem 672 (by decide +kernel) (by decide +kernel)
theorem kw_673 : Cond.instanceMethod yX1_runBySeed ∈ uw := uw_mem 673 (by decide +kernel) (by decide +kernel)
theorem kw_674 : Cond.selects RX1 yX1_runBySeed yX1_runBySeed ∈ uw := uw_mem 674 (by decide +kernel) (by decide +kernel)
theorem kw_675 : Cond.code yX1_runBySeed cX1_runBySeed 8 (some .int) ∈ uw := uw_mem 675 (by decide +kernel) (by decide +kernel)
theorem kw_676 : Cond.constantLong RX1 88 (1103515245 : Int64) ∈ uw := uw_mem 676 (by decide +kernel) (by decide +kernel)
theorem kw_677 : Cond.constantLong RX1 90 (12345 : Int64) ∈ uw := uw_mem 677 (by decide +kernel) (by decide +kernel)
theorem kw_678 : Cond.constantLong RX1 92 (2147483648 : Int64) ∈ uw := uw_mem 678 (by decide +kernel) (by decide +kernel)
theorem kw_679 : Cond.constantLong RX1 94 (65536 : Int64) ∈ uw := uw_mem 679 (by decide +kernel) (by decide +kernel)
theorem kw_680 : Cond.constantLong RX1 96 (1048576 : Int64) ∈ uw := uw_mem 680 (by decide +kernel) (by decide +kernel)
theorem kw_681 : Cond.constantLong RX1 98 (4 : Int64) ∈ uw := uw_mem 681 (by decide +kernel) (by decide +kernel)
theorem kw_690 : Cond.methodLink RX6 222 yX3_copyOf ∈ uw := uw_mem 690 (by decide +kernel) (by decide +kernel)
theorem kw_691 : Cond.instanceMethod yX3_copyOf ∈ uw := uw_mem 691 (by decide +kernel) (by decide +kernel)
theorem kw_692 : Cond.selects RX3 yX3_copyOf yX3_copyOf ∈ uw := uw_mem 692 (by decide +kernel) (by decide +kernel)
theorem kw_693 : Cond.code yX3_copyOf cX3_copyOf 3 (none) ∈ uw := uw_mem 693 (by decide +kernel) (by decide +kernel)
theorem kw_694 : Cond.methodLink RX3 43 yX2_copyOf ∈ uw := uw_mem 694 (by decide +kernel) (by decide +kernel)
theorem kw_695 : Cond.instanceMethod yX2_copyOf ∈ uw := uw_mem 695 (by decide +kernel) (by decide +kernel)
theorem kw_696 : Cond.selects RX2 yX2_copyOf yX2_copyOf ∈ uw := uw_mem 696 (by decide +kernel) (by decide +kernel)
theorem kw_697 : Cond.code yX2_copyOf cX2_copyOf 2 (none) ∈ uw := uw_mem 697 (by decide +kernel) (by decide +kernel)
theorem kw_698 : Cond.methodLink RX2 19 arraycopyName ∈ uw := uw_mem 698 (by decide +kernel) (by decide +kernel)
theorem kw_711 : Cond.methodLink RX6 225 yX6_howMany ∈ uw := uw_mem 711 (by decide +kernel) (by decide +kernel)
theorem kw_713 : Cond.instanceMethod yX6_howMany ∈ uw := uw_mem 713 (by decide +kernel) (by decide +kernel)
theorem kw_714 : Cond.code yX6_howMany cX6_howMany 2 (some .int) ∈ uw := uw_mem 714 (by decide +kernel) (by decide +kernel)
theorem kw_715 : Cond.methodLink RX6 237 yX1_givenByAll ∈ uw := uw_mem 715 (by decide +kernel) (by decide +kernel)
theorem kw_716 : Cond.instanceMethod yX1_givenByAll ∈ uw := uw_mem 716 (by decide +kernel) (by decide +kernel)
theorem kw_717 : Cond.selects RX1 yX1_givenByAll yX1_givenByAll ∈ uw := uw_mem 717 (by decide +kernel) (by decide +kernel)
theorem kw_718 : Cond.code yX1_givenByAll cX1_givenByAll 3 (some .int) ∈ uw := uw_mem 718 (by decide +kernel) (by decide +kernel)
theorem kw_723 : Cond.constantLong RX6 228 (1301 : Int64) ∈ uw := uw_mem 723 (by decide +kernel) (by decide +kernel)
theorem kw_724 : Cond.constantLong RX6 230 (31 : Int64) ∈ uw := uw_mem 724 (by decide +kernel) (by decide +kernel)
theorem kw_725 : Cond.methodLink RX6 232 yX1_addTo ∈ uw := uw_mem 725 (by decide +kernel) (by decide +kernel)
theorem kw_726 : Cond.instanceMethod yX1_addTo ∈ uw := uw_mem 726 (by decide +kernel) (by decide +kernel)
theorem kw_727 : Cond.selects RX1 yX1_addTo yX1_addTo ∈ uw := uw_mem 727 (by decide +kernel) (by decide +kernel)
theorem kw_728 : Cond.code yX1_addTo cX1_addTo 5 (some .long) ∈ uw := uw_mem 728 (by decide +kernel) (by decide +kernel)
theorem kw_729 : Cond.constantLong RX1 118 (31 : Int64) ∈ uw := uw_mem 729 (by decide +kernel) (by decide +kernel)
theorem kw_730 : Cond.methodLink RX1 120 yX1_fact ∈ uw := uw_mem 730 (by decide +kernel) (by decide +kernel)
theorem kw_731 : Cond.methodLink RX6 236 yX2_addTo ∈ uw := uw_mem 731 (by decide +kernel) (by decide +kernel)
theorem kw_732 : Cond.instanceMethod yX2_addTo ∈ uw := uw_mem 732 (by decide +kernel) (by decide +kernel)
theorem kw_733 : Cond.selects RX2 yX2_addTo yX2_addTo ∈ uw := uw_mem 733 (by decide +kernel) (by decide +kernel)
theorem kw_734 : Cond.code yX2_addTo cX2_addTo 4 (some .long) ∈ uw := uw_mem 734 (by decide +kernel) (by decide +kernel)
theorem kw_735 : Cond.constantLong RX2 35 (31 : Int64) ∈ uw := uw_mem 735 (by decide +kernel) (by decide +kernel)
theorem kw_742 : Cond.methodLink RX7 54 yX7_begin ∈ uw := uw_mem 742 (by decide +kernel) (by decide +kernel)
theorem kw_743 : Cond.static yX7_begin ∈ uw := uw_mem 743 (by decide +kernel) (by decide +kernel)
theorem kw_744 : Cond.code yX7_begin cX7_begin 2 (none) ∈ uw := uw_mem 744 (by decide +kernel) (by decide +kernel)
theorem kw_745 : Cond.fieldLink RX7 7 (TX7 0).1 (TX7 0).2.1 (TX7 0).2.2.1 ∈ uw := uw_mem 745 (by decide +kernel) (by decide +kernel)
theorem kw_746 : Cond.fieldLink RX7 13 (TX7 1).1 (TX7 1).2.1 (TX7 1).2.2.1 ∈ uw := uw_mem 746 (by decide +kernel) (by decide +kernel)
theorem kw_747 : Cond.fieldLink RX7 16 (TX7 2).1 (TX7 2).2.1 (TX7 2).2.2.1 ∈ uw := uw_mem 747 (by decide +kernel) (by decide +kernel)
theorem kw_748 : Cond.fieldLink RX7 20 (TX7 3).1 (TX7 3).2.1 (TX7 3).2.2.1 ∈ uw := uw_mem 748 (by decide +kernel) (by decide +kernel)
theorem kw_749 : Cond.fieldLink RX7 186 (TX7 4).1 (TX7 4).2.1 (TX7 4).2.2.1 ∈ uw := uw_mem 749 (by decide +kernel) (by decide +kernel)
theorem kw_750 : Cond.fieldLink RX7 23 (TX7 5).1 (TX7 5).2.1 (TX7 5).2.2.1 ∈ uw := uw_mem 750 (by decide +kernel) (by decide +kernel)
theorem kw_751 : Cond.fieldLink RX7 27 (TX7 6).1 (TX7 6).2.1 (TX7 6).2.2.1 ∈ uw := uw_mem 751 (by decide +kernel) (by decide +kernel)
theorem kw_752 : Cond.fieldLink RX7 30 (TX7 7).1 (TX7 7).2.1 (TX7 7).2.2.1 ∈ uw := uw_mem 752 (by decide +kernel) (by decide +kernel)
theorem kw_753 : Cond.fieldLink RX7 33 (TX7 8).1 (TX7 8).2.1 (TX7 8).2.2.1 ∈ uw := uw_mem 753 (by decide +kernel) (by decide +kernel)
theorem kw_754 : Cond.fieldLink RX7 165 (TX7 9).1 (TX7 9).2.1 (TX7 9).2.2.1 ∈ uw := uw_mem 754 (by decide +kernel) (by decide +kernel)
theorem kw_755 : Cond.fieldLink RX7 36 (TX7 10).1 (TX7 10).2.1 (TX7 10).2.2.1 ∈ uw := uw_mem 755 (by decide +kernel) (by decide +kernel)
theorem kw_756 : Cond.fieldLink RX7 39 (TX7 11).1 (TX7 11).2.1 (TX7 11).2.2.1 ∈ uw := uw_mem 756 (by decide +kernel) (by decide +kernel)
theorem kw_757 : Cond.fieldLink RX7 42 (TX7 12).1 (TX7 12).2.1 (TX7 12).2.2.1 ∈ uw := uw_mem 757 (by decide +kernel) (by decide +kernel)
theorem kw_758 : Cond.fieldLink RX7 45 (TX7 13).1 (TX7 13).2.1 (TX7 13).2.2.1 ∈ uw := uw_mem 758 (by decide +kernel) (by decide +kernel)
theorem kw_759 : Cond.fieldLink RX7 213 (TX7 14).1 (TX7 14).2.1 (TX7 14).2.2.1 ∈ uw := uw_mem 759 (by decide +kernel) (by decide +kernel)
theorem kw_760 : Cond.fieldLink RX7 224 (TX7 15).1 (TX7 15).2.1 (TX7 15).2.2.1 ∈ uw := uw_mem 760 (by decide +kernel) (by decide +kernel)
theorem kw_761 : Cond.fieldLink RX7 227 (TX7 16).1 (TX7 16).2.1 (TX7 16).2.2.1 ∈ uw := uw_mem 761 (by decide +kernel) (by decide +kernel)
theorem kw_762 : Cond.fieldLink RX7 230 (TX7 17).1 (TX7 17).2.1 (TX7 17).2.2.1 ∈ uw := uw_mem 762 (by decide +kernel) (by decide +kernel)
theorem kw_763 : Cond.fieldLink RX7 233 (TX7 18).1 (TX7 18).2.1 (TX7 18).2.2.1 ∈ uw := uw_mem 763 (by decide +kernel) (by decide +kernel)
theorem kw_764 : Cond.fieldLink RX7 48 (TX7 19).1 (TX7 19).2.1 (TX7 19).2.2.1 ∈ uw := uw_mem 764 (by decide +kernel) (by decide +kernel)
theorem kw_765 : Cond.fieldLink RX7 51 (TX7 20).1 (TX7 20).2.1 (TX7 20).2.2.1 ∈ uw := uw_mem 765 (by decide +kernel) (by decide +kernel)
theorem kw_813 : Cond.methodLink RX7 58 yX7_many ∈ uw := uw_mem 813 (by decide +kernel) (by decide +kernel)
theorem kw_815 : Cond.instanceMethod yX7_many ∈ uw := uw_mem 815 (by decide +kernel) (by decide +kernel)
theorem kw_816 : Cond.code yX7_many cX7_many 1 (some .int) ∈ uw := uw_mem 816 (by decide +kernel) (by decide +kernel)
theorem kw_821 : Cond.constantLong RX7 70 (5 : Int64) ∈ uw := uw_mem 821 (by decide +kernel) (by decide +kernel)
theorem kw_822 : Cond.methodLink RX7 62 yX7_in ∈ uw := uw_mem 822 (by decide +kernel) (by decide +kernel)
theorem kw_823 : Cond.static yX7_in ∈ uw := uw_mem 823 (by decide +kernel) (by decide +kernel)
theorem kw_824 : Cond.code yX7_in cX7_in 6 (some .boolean) ∈ uw := uw_mem 824 (by decide +kernel) (by decide +kernel)
theorem kw_825 : Cond.methodLink RX7 72 yX7_isCell ∈ uw := uw_mem 825 (by decide +kernel) (by decide +kernel)
theorem kw_826 : Cond.static yX7_isCell ∈ uw := uw_mem 826 (by decide +kernel) (by decide +kernel)
theorem kw_827 : Cond.code yX7_isCell cX7_isCell 1 (some .boolean) ∈ uw := uw_mem 827 (by decide +kernel) (by decide +kernel)
theorem kw_828 : Cond.constantLong RX7 66 (23 : Int64) ∈ uw := uw_mem 828 (by decide +kernel) (by decide +kernel)
theorem kw_829 : Cond.methodLink RX7 76 yX7_isWay ∈ uw := uw_mem 829 (by decide +kernel) (by decide +kernel)
theorem kw_830 : Cond.static yX7_isWay ∈ uw := uw_mem 830 (by decide +kernel) (by decide +kernel)
theorem kw_831 : Cond.code yX7_isWay cX7_isWay 1 (some .boolean) ∈ uw := uw_mem 831 (by decide +kernel) (by decide +kernel)
theorem kw_832 : Cond.constantLong RX7 68 (3 : Int64) ∈ uw := uw_mem 832 (by decide +kernel) (by decide +kernel)
theorem kw_833 : Cond.methodLink RX7 79 yX7_bad ∈ uw := uw_mem 833 (by decide +kernel) (by decide +kernel)
theorem kw_835 : Cond.instanceMethod yX7_bad ∈ uw := uw_mem 835 (by decide +kernel) (by decide +kernel)
theorem kw_836 : Cond.code yX7_bad cX7_bad 2 (some .int) ∈ uw := uw_mem 836 (by decide +kernel) (by decide +kernel)
theorem kw_837 : Cond.methodLink RX7 83 yX7_carIn ∈ uw := uw_mem 837 (by decide +kernel) (by decide +kernel)
theorem kw_838 : Cond.static yX7_carIn ∈ uw := uw_mem 838 (by decide +kernel) (by decide +kernel)
theorem kw_839 : Cond.code yX7_carIn cX7_carIn 3 (some .int) ∈ uw := uw_mem 839 (by decide +kernel) (by decide +kernel)
theorem kw_840 : Cond.methodLink RX7 87 yX7_no ∈ uw := uw_mem 840 (by decide +kernel) (by decide +kernel)
theorem kw_842 : Cond.instanceMethod yX7_no ∈ uw := uw_mem 842 (by decide +kernel) (by decide +kernel)
theorem kw_843 : Cond.code yX7_no cX7_no 1 (some .int) ∈ uw := uw_mem 843 (by decide +kernel) (by decide +kernel)
theorem kw_844 : Cond.methodLink RX7 90 yX7_full ∈ uw := uw_mem 844 (by decide +kernel) (by decide +kernel)
theorem kw_846 : Cond.instanceMethod yX7_full ∈ uw := uw_mem 846 (by decide +kernel) (by decide +kernel)
theorem kw_847 : Cond.code yX7_full cX7_full 1 (some .int) ∈ uw := uw_mem 847 (by decide +kernel) (by decide +kernel)
theorem kw_848 : Cond.methodLink RX7 93 yX7_layCar ∈ uw := uw_mem 848 (by decide +kernel) (by decide +kernel)
theorem kw_849 : Cond.static yX7_layCar ∈ uw := uw_mem 849 (by decide +kernel) (by decide +kernel)
theorem kw_850 : Cond.code yX7_layCar cX7_layCar 5 (none) ∈ uw := uw_mem 850 (by decide +kernel) (by decide +kernel)
theorem kw_855 : Cond.constantLong RX7 130 (60 : Int64) ∈ uw := uw_mem 855 (by decide +kernel) (by decide +kernel)
theorem kw_856 : Cond.methodLink RX7 132 yX7_keep ∈ uw := uw_mem 856 (by decide +kernel) (by decide +kernel)
theorem kw_858 : Cond.instanceMethod yX7_keep ∈ uw := uw_mem 858 (by decide +kernel) (by decide +kernel)
theorem kw_859 : Cond.code yX7_keep cX7_keep 2 (none) ∈ uw := uw_mem 859 (by decide +kernel) (by decide +kernel)
theorem kw_860 : Cond.methodLink RX7 135 yX7_layHand ∈ uw := uw_mem 860 (by decide +kernel) (by decide +kernel)
theorem kw_862 : Cond.instanceMethod yX7_layHand ∈ uw := uw_mem 862 (by decide +kernel) (by decide +kernel)
theorem kw_863 : Cond.code yX7_layHand cX7_layHand 2 (none) ∈ uw := uw_mem 863 (by decide +kernel) (by decide +kernel)
theorem kw_864 : Cond.methodLink RX7 138 yX7_goTicks ∈ uw := uw_mem 864 (by decide +kernel) (by decide +kernel)
theorem kw_866 : Cond.instanceMethod yX7_goTicks ∈ uw := uw_mem 866 (by decide +kernel) (by decide +kernel)
theorem kw_867 : Cond.code yX7_goTicks cX7_goTicks 4 (some .int) ∈ uw := uw_mem 867 (by decide +kernel) (by decide +kernel)
theorem kw_868 : Cond.methodLink RX7 126 yX7_goTick ∈ uw := uw_mem 868 (by decide +kernel) (by decide +kernel)
theorem kw_870 : Cond.instanceMethod yX7_goTick ∈ uw := uw_mem 870 (by decide +kernel) (by decide +kernel)
theorem kw_871 : Cond.code yX7_goTick cX7_goTick 7 (some .int) ∈ uw := uw_mem 871 (by decide +kernel) (by decide +kernel)
theorem kw_872 : Cond.methodLink RX7 120 yX7_wayOf ∈ uw := uw_mem 872 (by decide +kernel) (by decide +kernel)
theorem kw_874 : Cond.instanceMethod yX7_wayOf ∈ uw := uw_mem 874 (by decide +kernel) (by decide +kernel)
theorem kw_875 : Cond.code yX7_wayOf cX7_wayOf 3 (some .int) ∈ uw := uw_mem 875 (by decide +kernel) (by decide +kernel)
theorem kw_876 : Cond.methodLink RX7 110 yX7_aheadBy ∈ uw := uw_mem 876 (by decide +kernel) (by decide +kernel)
theorem kw_878 : Cond.instanceMethod yX7_aheadBy ∈ uw := uw_mem 878 (by decide +kernel) (by decide +kernel)
theorem kw_879 : Cond.code yX7_aheadBy cX7_aheadBy 4 (some .int) ∈ uw := uw_mem 879 (by decide +kernel) (by decide +kernel)
theorem kw_880 : Cond.methodLink RX7 97 yX7_cellBy ∈ uw := uw_mem 880 (by decide +kernel) (by decide +kernel)
theorem kw_881 : Cond.static yX7_cellBy ∈ uw := uw_mem 881 (by decide +kernel) (by decide +kernel)
theorem kw_882 : Cond.code yX7_cellBy cX7_cellBy 4 (some .int) ∈ uw := uw_mem 882 (by decide +kernel) (by decide +kernel)
theorem kw_883 : Cond.methodLink RX7 101 yX7_carAt ∈ uw := uw_mem 883 (by decide +kernel) (by decide +kernel)
theorem kw_885 : Cond.instanceMethod yX7_carAt ∈ uw := uw_mem 885 (by decide +kernel) (by decide +kernel)
theorem kw_886 : Cond.code yX7_carAt cX7_carAt 3 (some .int) ∈ uw := uw_mem 886 (by decide +kernel) (by decide +kernel)
theorem kw_887 : Cond.methodLink RX7 113 yX7_towards ∈ uw := uw_mem 887 (by decide +kernel) (by decide +kernel)
theorem kw_889 : Cond.instanceMethod yX7_towards ∈ uw := uw_mem 889 (by decide +kernel) (by decide +kernel)
theorem kw_890 : Cond.code yX7_towards cX7_towards 8 (some .int) ∈ uw := uw_mem 890 (by decide +kernel) (by decide +kernel)
theorem kw_891 : Cond.methodLink RX7 104 yX7_distance ∈ uw := uw_mem 891 (by decide +kernel) (by decide +kernel)
theorem kw_892 : Cond.static yX7_distance ∈ uw := uw_mem 892 (by decide +kernel) (by decide +kernel)
theorem kw_893 : Cond.code yX7_distance cX7_distance 2 (some .int) ∈ uw := uw_mem 893 (by decide +kernel) (by decide +kernel)
theorem kw_894 : Cond.methodLink RX7 116 yX7_wayAs ∈ uw := uw_mem 894 (by decide +kernel) (by decide +kernel)
theorem kw_895 : Cond.static yX7_wayAs ∈ uw := uw_mem 895 (by decide +kernel) (by decide +kernel)
theorem kw_896 : Cond.code yX7_wayAs cX7_wayAs 9 (some .int) ∈ uw := uw_mem 896 (by decide +kernel) (by decide +kernel)
theorem kw_897 : Cond.methodLink RX7 107 yX7_right ∈ uw := uw_mem 897 (by decide +kernel) (by decide +kernel)
theorem kw_898 : Cond.static yX7_right ∈ uw := uw_mem 898 (by decide +kernel) (by decide +kernel)
theorem kw_899 : Cond.code yX7_right cX7_right 1 (some .int) ∈ uw := uw_mem 899 (by decide +kernel) (by decide +kernel)
theorem kw_900 : Cond.methodLink RX7 123 yX7_goCar ∈ uw := uw_mem 900 (by decide +kernel) (by decide +kernel)
theorem kw_902 : Cond.instanceMethod yX7_goCar ∈ uw := uw_mem 902 (by decide +kernel) (by decide +kernel)
theorem kw_903 : Cond.code yX7_goCar cX7_goCar 5 (some .int) ∈ uw := uw_mem 903 (by decide +kernel) (by decide +kernel)
theorem kw_908 : Cond.constantLong RX7 141 (-1 : Int64) ∈ uw := uw_mem 908 (by decide +kernel) (by decide +kernel)
theorem kw_909 : Cond.methodLink RX7 143 yX7_get ∈ uw := uw_mem 909 (by decide +kernel) (by decide +kernel)
theorem kw_911 : Cond.instanceMethod yX7_get ∈ uw := uw_mem 911 (by decide +kernel) (by decide +kernel)
theorem kw_912 : Cond.code yX7_get cX7_get 3 (some .int) ∈ uw := uw_mem 912 (by decide +kernel) (by decide +kernel)
theorem kw_917 : Cond.methodLink RX7 146 yX7_isCar ∈ uw := uw_mem 917 (by decide +kernel) (by decide +kernel)
theorem kw_919 : Cond.instanceMethod yX7_isCar ∈ uw := uw_mem 919 (by decide +kernel) (by decide +kernel)
theorem kw_920 : Cond.code yX7_isCar cX7_isCar 2 (some .boolean) ∈ uw := uw_mem 920 (by decide +kernel) (by decide +kernel)
theorem kw_929 : Cond.constantLong RX7 149 (6 : Int64) ∈ uw := uw_mem 929 (by decide +kernel) (by decide +kernel)
theorem kw_954 : Cond.methodLink RX7 158 yX7_joined ∈ uw := uw_mem 954 (by decide +kernel) (by decide +kernel)
theorem kw_956 : Cond.instanceMethod yX7_joined ∈ uw := uw_mem 956 (by decide +kernel) (by decide +kernel)
theorem kw_957 : Cond.code yX7_joined cX7_joined 6 (some .int) ∈ uw := uw_mem 957 (by decide +kernel) (by decide +kernel)
theorem kw_958 : Cond.methodLink RX7 151 yX7_has ∈ uw := uw_mem 958 (by decide +kernel) (by decide +kernel)
theorem kw_959 : Cond.static yX7_has ∈ uw := uw_mem 959 (by decide +kernel) (by decide +kernel)
theorem kw_960 : Cond.code yX7_has cX7_has 2 (some .boolean) ∈ uw := uw_mem 960 (by decide +kernel) (by decide +kernel)
theorem kw_961 : Cond.methodLink RX7 155 yX7_miles ∈ uw := uw_mem 961 (by decide +kernel) (by decide +kernel)
theorem kw_962 : Cond.static yX7_miles ∈ uw := uw_mem 962 (by decide +kernel) (by decide +kernel)
theorem kw_963 : Cond.code yX7_miles cX7_miles 2 (some .int) ∈ uw := uw_mem 963 (by decide +kernel) (by decide +kernel)
theorem kw_964 : Cond.methodLink RX7 161 yX7_bits ∈ uw := uw_mem 964 (by decide +kernel) (by decide +kernel)
theorem kw_965 : Cond.static yX7_bits ∈ uw := uw_mem 965 (by decide +kernel) (by decide +kernel)
theorem kw_966 : Cond.code yX7_bits cX7_bits 3 (some .int) ∈ uw := uw_mem 966 (by decide +kernel) (by decide +kernel)
theorem kw_971 : Cond.constant RX7 164 (1000000 : Int32) ∈ uw := uw_mem 971 (by decide +kernel) (by decide +kernel)
theorem kw_976 : Cond.methodLink RX7 169 yX7_layWays ∈ uw := uw_mem 976 (by decide +kernel) (by decide +kernel)
theorem kw_978 : Cond.instanceMethod yX7_layWays ∈ uw := uw_mem 978 (by decide +kernel) (by decide +kernel)
theorem kw_979 : Cond.code yX7_layWays cX7_layWays 8 (none) ∈ uw := uw_mem 979 (by decide +kernel) (by decide +kernel)
theorem kw_984 : Cond.constantLong RX7 173 (99 : Int64) ∈ uw := uw_mem 984 (by decide +kernel) (by decide +kernel)
theorem kw_985 : Cond.constantLong RX7 175 (2 : Int64) ∈ uw := uw_mem 985 (by decide +kernel) (by decide +kernel)
theorem kw_994 : Cond.methodLink RX7 177 yX7_kindsOf ∈ uw := uw_mem 994 (by decide +kernel) (by decide +kernel)
theorem kw_996 : Cond.instanceMethod yX7_kindsOf ∈ uw := uw_mem 996 (by decide +kernel) (by decide +kernel)
theorem kw_997 : Cond.code yX7_kindsOf cX7_kindsOf 8 (some .int) ∈ uw := uw_mem 997 (by decide +kernel) (by decide +kernel)
theorem kw_1006 : Cond.methodLink RX7 180 yX7_gain ∈ uw := uw_mem 1006 (by decide +kernel) (by decide +kernel)
theorem kw_1008 : Cond.instanceMethod yX7_gain ∈ uw := uw_mem 1008 (by decide +kernel) (by decide +kernel)
theorem kw_1009 : Cond.code yX7_gain cX7_gain 2 (some .int) ∈ uw := uw_mem 1009 (by decide +kernel) (by decide +kernel)
theorem kw_1010 : Cond.methodLink RX7 183 yX7_rests ∈ uw := uw_mem 1010 (by decide +kernel) (by decide +kernel)
theorem kw_1012 : Cond.instanceMethod yX7_rests ∈ uw := uw_mem 1012 (by decide +kernel) (by decide +kernel)
theorem kw_1013 : Cond.code yX7_rests cX7_rests 4 (some .boolean) ∈ uw := uw_mem 1013 (by decide +kernel) (by decide +kernel)
theorem kw_1018 : Cond.constantLong RX7 189 (9 : Int64) ∈ uw := uw_mem 1018 (by decide +kernel) (by decide +kernel)
theorem kw_1019 : Cond.constantLong RX7 191 (10 : Int64) ∈ uw := uw_mem 1019 (by decide +kernel) (by decide +kernel)
theorem kw_1020 : Cond.methodLink RX7 193 yX7_fraction ∈ uw := uw_mem 1020 (by decide +kernel) (by decide +kernel)
theorem kw_1022 : Cond.instanceMethod yX7_fraction ∈ uw := uw_mem 1022 (by decide +kernel) (by decide +kernel)
theorem kw_1023 : Cond.code yX7_fraction cX7_fraction 11 (none) ∈ uw := uw_mem 1023 (by decide +kernel) (by decide +kernel)
theorem kw_1028 : Cond.constantLong RX7 197 (999999 : Int64) ∈ uw := uw_mem 1028 (by decide +kernel) (by decide +kernel)
theorem kw_1029 : Cond.constantLong RX7 199 (1103515245 : Int64) ∈ uw := uw_mem 1029 (by decide +kernel) (by decide +kernel)
theorem kw_1030 : Cond.constantLong RX7 201 (12345 : Int64) ∈ uw := uw_mem 1030 (by decide +kernel) (by decide +kernel)
theorem kw_1031 : Cond.constantLong RX7 203 (2147483648 : Int64) ∈ uw := uw_mem 1031 (by decide +kernel) (by decide +kernel)
theorem kw_1032 : Cond.constantLong RX7 205 (65536 : Int64) ∈ uw := uw_mem 1032 (by decide +kernel) (by decide +kernel)
theorem kw_1033 : Cond.constantLong RX7 207 (1048576 : Int64) ∈ uw := uw_mem 1033 (by decide +kernel) (by decide +kernel)
theorem kw_1034 : Cond.constantLong RX7 209 (4 : Int64) ∈ uw := uw_mem 1034 (by decide +kernel) (by decide +kernel)
theorem kw_1039 : Cond.constantLong RX7 211 (127 : Int64) ∈ uw := uw_mem 1039 (by decide +kernel) (by decide +kernel)
theorem kw_1048 : Cond.methodLink RX7 242 yX7_lookAt ∈ uw := uw_mem 1048 (by decide +kernel) (by decide +kernel)
theorem kw_1050 : Cond.instanceMethod yX7_lookAt ∈ uw := uw_mem 1050 (by decide +kernel) (by decide +kernel)
theorem kw_1051 : Cond.code yX7_lookAt cX7_lookAt 5 (none) ∈ uw := uw_mem 1051 (by decide +kernel) (by decide +kernel)
theorem kw_1052 : Cond.methodLink RX7 236 yX7_isSmall ∈ uw := uw_mem 1052 (by decide +kernel) (by decide +kernel)
theorem kw_1053 : Cond.static yX7_isSmall ∈ uw := uw_mem 1053 (by decide +kernel) (by decide +kernel)
theorem kw_1054 : Cond.code yX7_isSmall cX7_isSmall 1 (some .boolean) ∈ uw := uw_mem 1054 (by decide +kernel) (by decide +kernel)
theorem kw_1055 : Cond.constantLong RX7 216 (97 : Int64) ∈ uw := uw_mem 1055 (by decide +kernel) (by decide +kernel)
theorem kw_1056 : Cond.constantLong RX7 218 (122 : Int64) ∈ uw := uw_mem 1056 (by decide +kernel) (by decide +kernel)
theorem kw_1057 : Cond.methodLink RX7 239 yX7_isFigure ∈ uw := uw_mem 1057 (by decide +kernel) (by decide +kernel)
theorem kw_1058 : Cond.static yX7_isFigure ∈ uw := uw_mem 1058 (by decide +kernel) (by decide +kernel)
theorem kw_1059 : Cond.code yX7_isFigure cX7_isFigure 1 (some .boolean) ∈ uw := uw_mem 1059 (by decide +kernel) (by decide +kernel)
theorem kw_1060 : Cond.constantLong RX7 220 (48 : Int64) ∈ uw := uw_mem 1060 (by decide +kernel) (by decide +kernel)
theorem kw_1061 : Cond.constantLong RX7 222 (57 : Int64) ∈ uw := uw_mem 1061 (by decide +kernel) (by decide +kernel)
theorem kw_1062 : Cond.methodLink RX7 253 yX7_spells ∈ uw := uw_mem 1062 (by decide +kernel) (by decide +kernel)
theorem kw_1064 : Cond.instanceMethod yX7_spells ∈ uw := uw_mem 1064 (by decide +kernel) (by decide +kernel)
theorem kw_1065 : Cond.code yX7_spells cX7_spells 10 (some .boolean) ∈ uw := uw_mem 1065 (by decide +kernel) (by decide +kernel)
theorem kw_1066 : Cond.methodLink RX7 246 yX7_goBehind ∈ uw := uw_mem 1066 (by decide +kernel) (by decide +kernel)
theorem kw_1068 : Cond.instanceMethod yX7_goBehind ∈ uw := uw_mem 1068 (by decide +kernel) (by decide +kernel)
theorem kw_1069 : Cond.code yX7_goBehind cX7_goBehind 1 (none) ∈ uw := uw_mem 1069 (by decide +kernel) (by decide +kernel)
theorem kw_1070 : Cond.methodLink RX7 267 yX7_takesItem ∈ uw := uw_mem 1070 (by decide +kernel) (by decide +kernel)
theorem kw_1072 : Cond.instanceMethod yX7_takesItem ∈ uw := uw_mem 1072 (by decide +kernel) (by decide +kernel)
theorem kw_1073 : Cond.code yX7_takesItem cX7_takesItem 1 (some .boolean) ∈ uw := uw_mem 1073 (by decide +kernel) (by decide +kernel)
theorem kw_1074 : Cond.methodLink RX7 257 yX7_takesCar ∈ uw := uw_mem 1074 (by decide +kernel) (by decide +kernel)
theorem kw_1076 : Cond.instanceMethod yX7_takesCar ∈ uw := uw_mem 1076 (by decide +kernel) (by decide +kernel)
theorem kw_1077 : Cond.code yX7_takesCar cX7_takesCar 1 (some .boolean) ∈ uw := uw_mem 1077 (by decide +kernel) (by decide +kernel)
theorem kw_1078 : Cond.methodLink RX7 249 yX7_takes ∈ uw := uw_mem 1078 (by decide +kernel) (by decide +kernel)
theorem kw_1080 : Cond.instanceMethod yX7_takes ∈ uw := uw_mem 1080 (by decide +kernel) (by decide +kernel)
theorem kw_1081 : Cond.code yX7_takes cX7_takes 4 (some .boolean) ∈ uw := uw_mem 1081 (by decide +kernel) (by decide +kernel)
theorem kw_1082 : Cond.methodLink RX7 261 yX7_takesHat ∈ uw := uw_mem 1082 (by decide +kernel) (by decide +kernel)
theorem kw_1084 : Cond.instanceMethod yX7_takesHat ∈ uw := uw_mem 1084 (by decide +kernel) (by decide +kernel)
theorem kw_1085 : Cond.code yX7_takesHat cX7_takesHat 1 (some .boolean) ∈ uw := uw_mem 1085 (by decide +kernel) (by decide +kernel)
theorem kw_1086 : Cond.methodLink RX7 264 yX7_takesFoe ∈ uw := uw_mem 1086 (by decide +kernel) (by decide +kernel)
theorem kw_1088 : Cond.instanceMethod yX7_takesFoe ∈ uw := uw_mem 1088 (by decide +kernel) (by decide +kernel)
theorem kw_1089 : Cond.code yX7_takesFoe cX7_takesFoe 1 (some .boolean) ∈ uw := uw_mem 1089 (by decide +kernel) (by decide +kernel)
theorem kw_1110 : Cond.methodLink RX7 273 yX7_counted ∈ uw := uw_mem 1110 (by decide +kernel) (by decide +kernel)
theorem kw_1112 : Cond.instanceMethod yX7_counted ∈ uw := uw_mem 1112 (by decide +kernel) (by decide +kernel)
theorem kw_1113 : Cond.code yX7_counted cX7_counted 2 (some .int) ∈ uw := uw_mem 1113 (by decide +kernel) (by decide +kernel)
theorem kw_1114 : Cond.methodLink RX7 270 yX7_allGiven ∈ uw := uw_mem 1114 (by decide +kernel) (by decide +kernel)
theorem kw_1116 : Cond.instanceMethod yX7_allGiven ∈ uw := uw_mem 1116 (by decide +kernel) (by decide +kernel)
theorem kw_1117 : Cond.code yX7_allGiven cX7_allGiven 3 (some .int) ∈ uw := uw_mem 1117 (by decide +kernel) (by decide +kernel)
theorem kw_1122 : Cond.constantLong RX7 278 (1301 : Int64) ∈ uw := uw_mem 1122 (by decide +kernel) (by decide +kernel)
theorem kw_1123 : Cond.constantLong RX7 276 (31 : Int64) ∈ uw := uw_mem 1123 (by decide +kernel) (by decide +kernel)
theorem kw_1124 : Cond.methodLink RX7 280 yX7_sums ∈ uw := uw_mem 1124 (by decide +kernel) (by decide +kernel)
theorem kw_1126 : Cond.instanceMethod yX7_sums ∈ uw := uw_mem 1126 (by decide +kernel) (by decide +kernel)
theorem kw_1127 : Cond.code yX7_sums cX7_sums 8 (some .long) ∈ uw := uw_mem 1127 (by decide +kernel) (by decide +kernel)
theorem kw_1128 : Cond.fieldLink RJ0 9 "java/lang/String" "value" "[B" ∈ uw := uw_mem 1128 (by decide +kernel) (by decide +kernel)
theorem kw_1129 : Cond.fieldLink RJ0 15 "java/lang/String" "coder" "B" ∈ uw := uw_mem 1129 (by decide +kernel) (by decide +kernel)
theorem kg_RJ0_1059 : GoodIn uw (va_wsS RJ0 1059 yJ3_checkIndex_8e157 (Cond.code yJ3_checkIndex_8e157 cJ3_checkIndex_8e157 3 (some .int) :: uw)) := uw_S kw_373 kw_374 kw_64 kw_375
theorem kg_RJ1_9 : GoodIn uw (va_wsS RJ1 9 yJ0_checkIndex_df160 (Cond.code yJ0_checkIndex_df160 cJ0_checkIndex_df160 2 (none) :: uw)) := uw_S kw_368 kw_369 kw_62 kw_370
theorem kg_RJ0_335 : GoodIn uw (wsV RJ0 335 RJ0 yJ0_coder_7d493 (Cond.code yJ0_coder_7d493 cJ0_coder_7d493 1 (some .byte) :: uw)) := uw_V kw_351 kw_352 kw_353 kw_62 kw_354
theorem kg_RJ0_492 : GoodIn uw (wsV RJ0 492 RJ0 yJ0_isLatin1_aae02 (Cond.code yJ0_isLatin1_aae02 cJ0_isLatin1_aae02 1 (some .boolean) :: uw)) := uw_V kw_361 kw_362 kw_363 kw_62 kw_364
theorem kg_RJ0_495 : GoodIn uw (va_wsS RJ0 495 yJ1_charAt_3b067 (Cond.code yJ1_charAt_3b067 cJ1_charAt_3b067 2 (some .char) :: uw)) := uw_S kw_365 kw_366 kw_63 kw_367
theorem kg_RX3_33 : GoodIn uw (wsV RX3 33 RX1 yX1_empty (Cond.code yX1_empty cX1_empty 1 (none) :: uw)) := uw_V kw_274 kw_275 kw_276 kw_57 kw_277
theorem kg_RX6_64 : GoodIn uw (wsV RX6 64 RX3 yX3_restart (Cond.code yX3_restart cX3_restart 1 (none) :: uw)) := uw_V kw_270 kw_271 kw_272 kw_56 kw_273
theorem kg_RX6_67 : GoodIn uw (va_wsS RX6 67 yX6_within (Cond.code yX6_within cX6_within 2 (some .boolean) :: uw)) := uw_S kw_282 kw_283 kw_55 kw_284
theorem kg_RX6_71 : GoodIn uw (wsV RX6 71 RX6 yX6_bad (Cond.code yX6_bad cX6_bad 2 (some .int) :: uw)) := uw_V kw_285 kw_287 kw_0 kw_55 kw_288
theorem kg_RX6_75 : GoodIn uw (wsV RX6 75 RX1 yX1_carIn (Cond.code yX1_carIn cX1_carIn 3 (some .int) :: uw)) := uw_V kw_289 kw_290 kw_291 kw_57 kw_292
theorem kg_RX6_88 : GoodIn uw (wsV RX6 88 RX1 yX1_put (Cond.code yX1_put cX1_put 5 (some .int) :: uw)) := uw_V kw_301 kw_302 kw_303 kw_57 kw_304
theorem kg_RX6_82 : GoodIn uw (wsV RX6 82 RX6 yX6_full (Cond.code yX6_full cX6_full 1 (some .int) :: uw)) := uw_V kw_297 kw_299 kw_2 kw_55 kw_300
theorem kg_RX6_78 : GoodIn uw (wsV RX6 78 RX6 yX6_no (Cond.code yX6_no cX6_no 1 (some .int) :: uw)) := uw_V kw_293 kw_295 kw_1 kw_55 kw_296
theorem kg_RX6_92 : GoodIn uw (wsV RX6 92 RX4 yX4_append (Cond.code yX4_append cX4_append 2 (some .boolean) :: uw)) := uw_V kw_309 kw_310 kw_311 kw_59 kw_312
theorem kg_RX4_105 : GoodIn uw (wsV RX4 105 RX4 yX4_passAll (Cond.code yX4_passAll cX4_passAll 4 (some .boolean) :: uw)) := uw_V kw_330 kw_332 kw_4 kw_59 kw_333
theorem kg_RX4_109 : GoodIn uw (wsV RX4 109 RX4 yX4_takeNumber (Cond.code yX4_takeNumber cX4_takeNumber 3 (none) :: uw)) := uw_V kw_334 kw_336 kw_5 kw_59 kw_337
theorem kg_RX4_96 : GoodIn uw (wsV RX4 96 RJ0 yJ0_length_8abf5 (Cond.code yJ0_length_8abf5 cJ0_length_8abf5 1 (some .int) :: uw)) := uw_V kw_347 kw_348 kw_349 kw_62 kw_350
theorem kg_RX4_101 : GoodIn uw (wsV RX4 101 RJ0 yJ0_charAt_5068e (Cond.code yJ0_charAt_5068e cJ0_charAt_5068e 2 (some .char) :: uw)) := uw_V kw_357 kw_358 kw_359 kw_62 kw_360
theorem kg_RX4_44 : GoodIn uw (wsV RX4 44 RX4 yX4_advance (Cond.code yX4_advance cX4_advance 1 (none) :: uw)) := uw_V kw_326 kw_328 kw_3 kw_59 kw_329
theorem kg_RX4_78 : GoodIn uw (wsV RX4 78 RX4 yX4_numberBelow (Cond.code yX4_numberBelow cX4_numberBelow 2 (some .boolean) :: uw)) := uw_V kw_404 kw_406 kw_10 kw_59 kw_407
theorem kg_RX4_82 : GoodIn uw (wsV RX4 82 RX1 yX1_carIn (Cond.code yX1_carIn cX1_carIn 3 (some .int) :: uw)) := uw_V kw_408 kw_290 kw_291 kw_57 kw_292
theorem kg_RX4_86 : GoodIn uw (wsV RX4 86 RX1 yX1_put (Cond.code yX1_put cX1_put 5 (some .int) :: uw)) := uw_V kw_409 kw_302 kw_303 kw_57 kw_304
theorem kg_RX4_57 : GoodIn uw (wsV RX4 57 RX4 yX4_stops (Cond.code yX4_stops cX4_stops 1 (some .boolean) :: uw)) := uw_V kw_395 kw_397 kw_8 kw_59 kw_398
theorem kg_RX4_53 : GoodIn uw (wsV RX4 53 RX4 yX4_wordIs (Cond.code yX4_wordIs cX4_wordIs 4 (some .boolean) :: uw)) := uw_V kw_343 kw_345 kw_7 kw_59 kw_346
theorem kg_RX4_75 : GoodIn uw (wsV RX4 75 RX4 yX4_readFoe (Cond.code yX4_readFoe cX4_readFoe 2 (some .boolean) :: uw)) := uw_V kw_416 kw_418 kw_12 kw_59 kw_419
theorem kg_RX4_70 : GoodIn uw (wsV RX4 70 RX4 yX4_readHat (Cond.code yX4_readHat cX4_readHat 1 (some .boolean) :: uw)) := uw_V kw_411 kw_413 kw_11 kw_59 kw_414
theorem kg_RX4_65 : GoodIn uw (wsV RX4 65 RX4 yX4_readCar (Cond.code yX4_readCar cX4_readCar 3 (some .boolean) :: uw)) := uw_V kw_400 kw_402 kw_9 kw_59 kw_403
theorem kg_RX4_41 : GoodIn uw (wsV RX4 41 RX1 yX1_empty (Cond.code yX1_empty cX1_empty 1 (none) :: uw)) := uw_V kw_325 kw_275 kw_276 kw_57 kw_277
theorem kg_RX4_47 : GoodIn uw (wsV RX4 47 RX4 yX4_readItem (Cond.code yX4_readItem cX4_readItem 1 (some .boolean) :: uw)) := uw_V kw_338 kw_340 kw_6 kw_59 kw_341
theorem kg_RX6_99 : GoodIn uw (wsV RX6 99 RX4 yX4_readFloor (Cond.code yX4_readFloor cX4_readFloor 2 (some .int) :: uw)) := uw_V kw_321 kw_322 kw_323 kw_59 kw_324
theorem kg_RX6_105 : GoodIn uw (wsV RX6 105 RX1 yX1_copyOf (Cond.code yX1_copyOf cX1_copyOf 2 (none) :: uw)) := uw_V kw_420 kw_421 kw_422 kw_57 kw_423
theorem kg_RX3_39 : GoodIn uw (wsV RX3 39 RX1 yX1_copyOf (Cond.code yX1_copyOf cX1_copyOf 2 (none) :: uw)) := uw_V kw_435 kw_421 kw_422 kw_57 kw_423
theorem kg_RX1_46 : GoodIn uw (va_wsS RX1 46 yX1_nextCell (Cond.code yX1_nextCell cX1_nextCell 4 (some .int) :: uw)) := uw_S kw_452 kw_453 kw_57 kw_454
theorem kg_RX1_50 : GoodIn uw (wsV RX1 50 RX1 yX1_carIn (Cond.code yX1_carIn cX1_carIn 3 (some .int) :: uw)) := uw_V kw_455 kw_290 kw_291 kw_57 kw_292
theorem kg_RX1_54 : GoodIn uw (wsV RX1 54 RX1 yX1_has (Cond.code yX1_has cX1_has 2 (some .boolean) :: uw)) := uw_V kw_460 kw_461 kw_462 kw_57 kw_463
theorem kg_RX0_9 : GoodIn uw (va_wsS RX0 9 yX0_rightOf (Cond.code yX0_rightOf cX0_rightOf 1 (some .int) :: uw)) := uw_S kw_470 kw_471 kw_68 kw_472
theorem kg_RX1_63 : GoodIn uw (wsV RX1 63 RX1 yX1_ahead (Cond.code yX1_ahead cX1_ahead 3 (some .int) :: uw)) := uw_V kw_448 kw_449 kw_450 kw_57 kw_451
theorem kg_RX1_66 : GoodIn uw (wsV RX1 66 RX1 yX1_towards (Cond.code yX1_towards cX1_towards 5 (some .int) :: uw)) := uw_V kw_456 kw_457 kw_458 kw_57 kw_459
theorem kg_RX1_69 : GoodIn uw (va_wsS RX1 69 yX0_takes (Cond.code yX0_takes cX0_takes 10 (some .int) :: uw)) := uw_S kw_467 kw_468 kw_68 kw_469
theorem kg_RX1_81 : GoodIn uw (va_wsS RX1 81 yX0_rightOf (Cond.code yX0_rightOf cX0_rightOf 1 (some .int) :: uw)) := uw_S kw_477 kw_471 kw_68 kw_472
theorem kg_RX1_75 : GoodIn uw (wsV RX1 75 RX1 yX1_choice (Cond.code yX1_choice cX1_choice 2 (some .int) :: uw)) := uw_V kw_444 kw_445 kw_446 kw_57 kw_447
theorem kg_RX1_78 : GoodIn uw (wsV RX1 78 RX1 yX1_drive (Cond.code yX1_drive cX1_drive 5 (some .int) :: uw)) := uw_V kw_473 kw_475 kw_13 kw_57 kw_476
theorem kg_RX1_84 : GoodIn uw (wsV RX1 84 RX1 yX1_step (Cond.code yX1_step cX1_step 8 (some .int) :: uw)) := uw_V kw_440 kw_441 kw_442 kw_57 kw_443
theorem kg_RX6_112 : GoodIn uw (wsV RX6 112 RX3 yX3_keep (Cond.code yX3_keep cX3_keep 3 (none) :: uw)) := uw_V kw_431 kw_432 kw_433 kw_56 kw_434
theorem kg_RX6_115 : GoodIn uw (wsV RX6 115 RX1 yX1_run (Cond.code yX1_run cX1_run 4 (some .int) :: uw)) := uw_V kw_436 kw_437 kw_438 kw_57 kw_439
theorem kg_RX6_118 : GoodIn uw (wsV RX6 118 RX1 yX1_has (Cond.code yX1_has cX1_has 2 (some .boolean) :: uw)) := uw_V kw_482 kw_461 kw_462 kw_57 kw_463
theorem kg_RX6_131 : GoodIn uw (wsV RX6 131 RX3 yX3_takeBack (Cond.code yX3_takeBack cX3_takeBack 1 (some .boolean) :: uw)) := uw_V kw_491 kw_492 kw_493 kw_56 kw_494
theorem kg_RX6_138 : GoodIn uw (wsV RX6 138 RX1 yX1_fact (Cond.code yX1_fact cX1_fact 3 (some .int) :: uw)) := uw_V kw_499 kw_500 kw_501 kw_57 kw_502
theorem kg_RX6_142 : GoodIn uw (wsV RX6 142 RX1 yX1_choice (Cond.code yX1_choice cX1_choice 2 (some .int) :: uw)) := uw_V kw_511 kw_445 kw_446 kw_57 kw_447
theorem kg_RX5_38 : GoodIn uw (wsV RX5 38 RX1 yX1_copyOf (Cond.code yX1_copyOf cX1_copyOf 2 (none) :: uw)) := uw_V kw_520 kw_421 kw_422 kw_57 kw_423
theorem kg_RX6_145 : GoodIn uw (wsV RX6 145 RX5 yX5_begin (Cond.code yX5_begin cX5_begin 2 (some (.object "BumperCars$Floor")) :: uw)) := uw_V kw_516 kw_517 kw_518 kw_60 kw_519
theorem kg_RX6_152 : GoodIn uw (wsV RX6 152 RX1 yX1_step (Cond.code yX1_step cX1_step 8 (some .int) :: uw)) := uw_V kw_525 kw_441 kw_442 kw_57 kw_443
theorem kg_RX1_112 : GoodIn uw (va_wsS RX1 112 yX1_distance (Cond.code yX1_distance cX1_distance 2 (some .int) :: uw)) := uw_S kw_546 kw_547 kw_57 kw_548
theorem kg_RX1_108 : GoodIn uw (wsV RX1 108 RX1 yX1_touches (Cond.code yX1_touches cX1_touches 4 (some .boolean) :: uw)) := uw_V kw_542 kw_544 kw_15 kw_57 kw_545
theorem kg_RX1_100 : GoodIn uw (wsV RX1 100 RX1 yX1_clusterWith (Cond.code yX1_clusterWith cX1_clusterWith 5 (some .int) :: uw)) := uw_V kw_538 kw_540 kw_14 kw_57 kw_541
theorem kg_RX1_103 : GoodIn uw (va_wsS RX1 103 yJ6_bitCount_0f7a4 (Cond.code yJ6_bitCount_0f7a4 cJ6_bitCount_0f7a4 1 (some .int) :: uw)) := uw_S kw_549 kw_550 kw_69 kw_551
theorem kg_RX6_156 : GoodIn uw (wsV RX6 156 RX1 yX1_greatestCluster (Cond.code yX1_greatestCluster cX1_greatestCluster 4 (some .int) :: uw)) := uw_V kw_534 kw_535 kw_536 kw_57 kw_537
theorem kg_RX6_159 : GoodIn uw (va_wsS RX6 159 yJ6_bitCount_0f7a4 (Cond.code yJ6_bitCount_0f7a4 cJ6_bitCount_0f7a4 1 (some .int) :: uw)) := uw_S kw_555 kw_550 kw_69 kw_551
theorem kg_RX1_115 : GoodIn uw (wsV RX1 115 RX1 yX1_farFromAll (Cond.code yX1_farFromAll cX1_farFromAll 4 (some .int) :: uw)) := uw_V kw_564 kw_565 kw_566 kw_57 kw_567
theorem kg_RX6_164 : GoodIn uw (wsV RX6 164 RX1 yX1_nearestFreeCell (Cond.code yX1_nearestFreeCell cX1_nearestFreeCell 5 (some .int) :: uw)) := uw_V kw_560 kw_561 kw_562 kw_57 kw_563
theorem kg_RX6_167 : GoodIn uw (wsV RX6 167 RX1 yX1_farFromAll (Cond.code yX1_farFromAll cX1_farFromAll 4 (some .int) :: uw)) := uw_V kw_568 kw_565 kw_566 kw_57 kw_567
theorem kg_RX5_62 : GoodIn uw (wsV RX5 62 RX1 yX1_step (Cond.code yX1_step cX1_step 8 (some .int) :: uw)) := uw_V kw_583 kw_441 kw_442 kw_57 kw_443
theorem kg_RX5_46 : GoodIn uw (wsV RX5 46 RX5 yX5_searchFrom (Cond.code yX5_searchFrom cX5_searchFrom 8 (none) :: uw)) := uw_V kw_578 kw_580 kw_16 kw_60 kw_581
theorem kg_RX5_42 : GoodIn uw (wsV RX5 42 RX5 yX5_begin (Cond.code yX5_begin cX5_begin 2 (some (.object "BumperCars$Floor")) :: uw)) := uw_V kw_577 kw_517 kw_518 kw_60 kw_519
theorem kg_RX6_170 : GoodIn uw (wsV RX6 170 RX5 yX5_searchRow (Cond.code yX5_searchRow cX5_searchRow 5 (some .int) :: uw)) := uw_V kw_573 kw_574 kw_575 kw_60 kw_576
theorem kg_RX6_177 : GoodIn uw (va_wsS RX6 177 yX6_wayOrNone (Cond.code yX6_wayOrNone cX6_wayOrNone 1 (some .boolean) :: uw)) := uw_S kw_588 kw_589 kw_55 kw_590
theorem kg_RX6_184 : GoodIn uw (wsV RX6 184 RX2 yX2_add (Cond.code yX2_add cX2_add 9 (some .boolean) :: uw)) := uw_V kw_591 kw_592 kw_593 kw_58 kw_594
theorem kg_RX2_29 : GoodIn uw (va_wsS RX2 29 yX0_takes (Cond.code yX0_takes cX0_takes 10 (some .int) :: uw)) := uw_S kw_611 kw_468 kw_68 kw_469
theorem kg_RX2_25 : GoodIn uw (wsV RX2 25 RX2 yX2_fits (Cond.code yX2_fits cX2_fits 6 (some .boolean) :: uw)) := uw_V kw_607 kw_609 kw_17 kw_58 kw_610
theorem kg_RX6_193 : GoodIn uw (wsV RX6 193 RX2 yX2_kindsOf (Cond.code yX2_kindsOf cX2_kindsOf 4 (some .int) :: uw)) := uw_V kw_603 kw_604 kw_605 kw_58 kw_606
theorem kg_RX5_86 : GoodIn uw (wsV RX5 86 RX1 yX1_towards (Cond.code yX1_towards cX1_towards 5 (some .int) :: uw)) := uw_V kw_624 kw_457 kw_458 kw_57 kw_459
theorem kg_RX5_93 : GoodIn uw (va_wsS RX5 93 yX0_takes (Cond.code yX0_takes cX0_takes 10 (some .int) :: uw)) := uw_S kw_625 kw_468 kw_68 kw_469
theorem kg_RX5_76 : GoodIn uw (wsV RX5 76 RX5 yX5_mostAlike (Cond.code yX5_mostAlike cX5_mostAlike 12 (some .int) :: uw)) := uw_V kw_620 kw_622 kw_18 kw_60 kw_623
theorem kg_RX6_196 : GoodIn uw (wsV RX6 196 RX5 yX5_bestLook (Cond.code yX5_bestLook cX5_bestLook 9 (some .int) :: uw)) := uw_V kw_616 kw_617 kw_618 kw_60 kw_619
theorem kg_RX5_66 : GoodIn uw (va_wsS RX5 66 yX5_gain (Cond.code yX5_gain cX5_gain 3 (some .int) :: uw)) := uw_S kw_637 kw_638 kw_60 kw_639
theorem kg_RX5_70 : GoodIn uw (wsV RX5 70 RX5 yX5_rests (Cond.code yX5_rests cX5_rests 5 (some .boolean) :: uw)) := uw_V kw_640 kw_642 kw_19 kw_60 kw_643
theorem kg_RX6_200 : GoodIn uw (wsV RX6 200 RX5 yX5_restingPairs (Cond.code yX5_restingPairs cX5_restingPairs 6 (some .int) :: uw)) := uw_V kw_633 kw_634 kw_635 kw_60 kw_636
theorem kg_RX6_203 : GoodIn uw (va_wsS RX6 203 yX6_bitOfRank (Cond.code yX6_bitOfRank cX6_bitOfRank 4 (some .int) :: uw)) := uw_S kw_644 kw_645 kw_55 kw_646
theorem kg_RX6_240 : GoodIn uw (va_wsS RX6 240 yX6_commonDivisor (Cond.code yX6_commonDivisor cX6_commonDivisor 7 (some .long) :: uw)) := uw_S kw_664 kw_665 kw_55 kw_666
theorem kg_RX6_206 : GoodIn uw (wsV RX6 206 RX5 yX5_bumpsByOdds (Cond.code yX5_bumpsByOdds cX5_bumpsByOdds 10 (some .long) :: uw)) := uw_V kw_651 kw_652 kw_653 kw_60 kw_654
theorem kg_RX6_210 : GoodIn uw (va_wsS RX6 210 yX6_powerOfTen (Cond.code yX6_powerOfTen cX6_powerOfTen 4 (some .long) :: uw)) := uw_S kw_656 kw_657 kw_55 kw_658
theorem kg_RX6_214 : GoodIn uw (wsV RX6 214 RX6 yX6_putFraction (Cond.code yX6_putFraction cX6_putFraction 7 (none) :: uw)) := uw_V kw_660 kw_662 kw_20 kw_55 kw_663
theorem kg_RX6_219 : GoodIn uw (wsV RX6 219 RX1 yX1_runBySeed (Cond.code yX1_runBySeed cX1_runBySeed 8 (some .int) :: uw)) := uw_V kw_672 kw_673 kw_674 kw_57 kw_675
theorem kg_RX3_43 : GoodIn uw (wsV RX3 43 RX2 yX2_copyOf (Cond.code yX2_copyOf cX2_copyOf 2 (none) :: uw)) := uw_V kw_694 kw_695 kw_696 kw_58 kw_697
theorem kg_RX6_222 : GoodIn uw (wsV RX6 222 RX3 yX3_copyOf (Cond.code yX3_copyOf cX3_copyOf 3 (none) :: uw)) := uw_V kw_690 kw_691 kw_692 kw_56 kw_693
theorem kg_RX6_237 : GoodIn uw (wsV RX6 237 RX1 yX1_givenByAll (Cond.code yX1_givenByAll cX1_givenByAll 3 (some .int) :: uw)) := uw_V kw_715 kw_716 kw_717 kw_57 kw_718
theorem kg_RX6_225 : GoodIn uw (wsV RX6 225 RX6 yX6_howMany (Cond.code yX6_howMany cX6_howMany 2 (some .int) :: uw)) := uw_V kw_711 kw_713 kw_21 kw_55 kw_714
theorem kg_RX1_120 : GoodIn uw (wsV RX1 120 RX1 yX1_fact (Cond.code yX1_fact cX1_fact 3 (some .int) :: uw)) := uw_V kw_730 kw_500 kw_501 kw_57 kw_502
theorem kg_RX6_232 : GoodIn uw (wsV RX6 232 RX1 yX1_addTo (Cond.code yX1_addTo cX1_addTo 5 (some .long) :: uw)) := uw_V kw_725 kw_726 kw_727 kw_57 kw_728
theorem kg_RX6_236 : GoodIn uw (wsV RX6 236 RX2 yX2_addTo (Cond.code yX2_addTo cX2_addTo 4 (some .long) :: uw)) := uw_V kw_731 kw_732 kw_733 kw_58 kw_734
theorem kg_RX7_58 : GoodIn uw (wsV RX7 58 RX7 yX7_many (Cond.code yX7_many cX7_many 1 (some .int) :: uw)) := uw_V kw_813 kw_815 kw_22 kw_61 kw_816
theorem kg_RX7_62 : GoodIn uw (va_wsS RX7 62 yX7_in (Cond.code yX7_in cX7_in 6 (some .boolean) :: uw)) := uw_S kw_822 kw_823 kw_61 kw_824
theorem kg_RX7_54 : GoodIn uw (va_wsS RX7 54 yX7_begin (Cond.code yX7_begin cX7_begin 2 (none) :: uw)) := uw_S kw_742 kw_743 kw_61 kw_744
theorem kg_RX7_79 : GoodIn uw (wsV RX7 79 RX7 yX7_bad (Cond.code yX7_bad cX7_bad 2 (some .int) :: uw)) := uw_V kw_833 kw_835 kw_23 kw_61 kw_836
theorem kg_RX7_72 : GoodIn uw (va_wsS RX7 72 yX7_isCell (Cond.code yX7_isCell cX7_isCell 1 (some .boolean) :: uw)) := uw_S kw_825 kw_826 kw_61 kw_827
theorem kg_RX7_76 : GoodIn uw (va_wsS RX7 76 yX7_isWay (Cond.code yX7_isWay cX7_isWay 1 (some .boolean) :: uw)) := uw_S kw_829 kw_830 kw_61 kw_831
theorem kg_RX7_83 : GoodIn uw (va_wsS RX7 83 yX7_carIn (Cond.code yX7_carIn cX7_carIn 3 (some .int) :: uw)) := uw_S kw_837 kw_838 kw_61 kw_839
theorem kg_RX7_93 : GoodIn uw (va_wsS RX7 93 yX7_layCar (Cond.code yX7_layCar cX7_layCar 5 (none) :: uw)) := uw_S kw_848 kw_849 kw_61 kw_850
theorem kg_RX7_90 : GoodIn uw (wsV RX7 90 RX7 yX7_full (Cond.code yX7_full cX7_full 1 (some .int) :: uw)) := uw_V kw_844 kw_846 kw_25 kw_61 kw_847
theorem kg_RX7_87 : GoodIn uw (wsV RX7 87 RX7 yX7_no (Cond.code yX7_no cX7_no 1 (some .int) :: uw)) := uw_V kw_840 kw_842 kw_24 kw_61 kw_843
theorem kg_RX7_97 : GoodIn uw (va_wsS RX7 97 yX7_cellBy (Cond.code yX7_cellBy cX7_cellBy 4 (some .int) :: uw)) := uw_S kw_880 kw_881 kw_61 kw_882
theorem kg_RX7_101 : GoodIn uw (wsV RX7 101 RX7 yX7_carAt (Cond.code yX7_carAt cX7_carAt 3 (some .int) :: uw)) := uw_V kw_883 kw_885 kw_32 kw_61 kw_886
theorem kg_RX7_104 : GoodIn uw (va_wsS RX7 104 yX7_distance (Cond.code yX7_distance cX7_distance 2 (some .int) :: uw)) := uw_S kw_891 kw_892 kw_61 kw_893
theorem kg_RX7_107 : GoodIn uw (va_wsS RX7 107 yX7_right (Cond.code yX7_right cX7_right 1 (some .int) :: uw)) := uw_S kw_897 kw_898 kw_61 kw_899
theorem kg_RX7_110 : GoodIn uw (wsV RX7 110 RX7 yX7_aheadBy (Cond.code yX7_aheadBy cX7_aheadBy 4 (some .int) :: uw)) := uw_V kw_876 kw_878 kw_31 kw_61 kw_879
theorem kg_RX7_113 : GoodIn uw (wsV RX7 113 RX7 yX7_towards (Cond.code yX7_towards cX7_towards 8 (some .int) :: uw)) := uw_V kw_887 kw_889 kw_33 kw_61 kw_890
theorem kg_RX7_116 : GoodIn uw (va_wsS RX7 116 yX7_wayAs (Cond.code yX7_wayAs cX7_wayAs 9 (some .int) :: uw)) := uw_S kw_894 kw_895 kw_61 kw_896
theorem kg_RX7_120 : GoodIn uw (wsV RX7 120 RX7 yX7_wayOf (Cond.code yX7_wayOf cX7_wayOf 3 (some .int) :: uw)) := uw_V kw_872 kw_874 kw_30 kw_61 kw_875
theorem kg_RX7_123 : GoodIn uw (wsV RX7 123 RX7 yX7_goCar (Cond.code yX7_goCar cX7_goCar 5 (some .int) :: uw)) := uw_V kw_900 kw_902 kw_34 kw_61 kw_903
theorem kg_RX7_126 : GoodIn uw (wsV RX7 126 RX7 yX7_goTick (Cond.code yX7_goTick cX7_goTick 7 (some .int) :: uw)) := uw_V kw_868 kw_870 kw_29 kw_61 kw_871
theorem kg_RX7_132 : GoodIn uw (wsV RX7 132 RX7 yX7_keep (Cond.code yX7_keep cX7_keep 2 (none) :: uw)) := uw_V kw_856 kw_858 kw_26 kw_61 kw_859
theorem kg_RX7_135 : GoodIn uw (wsV RX7 135 RX7 yX7_layHand (Cond.code yX7_layHand cX7_layHand 2 (none) :: uw)) := uw_V kw_860 kw_862 kw_27 kw_61 kw_863
theorem kg_RX7_138 : GoodIn uw (wsV RX7 138 RX7 yX7_goTicks (Cond.code yX7_goTicks cX7_goTicks 4 (some .int) :: uw)) := uw_V kw_864 kw_866 kw_28 kw_61 kw_867
theorem kg_RX7_143 : GoodIn uw (wsV RX7 143 RX7 yX7_get (Cond.code yX7_get cX7_get 3 (some .int) :: uw)) := uw_V kw_909 kw_911 kw_35 kw_61 kw_912
theorem kg_RX7_146 : GoodIn uw (wsV RX7 146 RX7 yX7_isCar (Cond.code yX7_isCar cX7_isCar 2 (some .boolean) :: uw)) := uw_V kw_917 kw_919 kw_36 kw_61 kw_920
theorem kg_RX7_151 : GoodIn uw (va_wsS RX7 151 yX7_has (Cond.code yX7_has cX7_has 2 (some .boolean) :: uw)) := uw_S kw_958 kw_959 kw_61 kw_960
theorem kg_RX7_155 : GoodIn uw (va_wsS RX7 155 yX7_miles (Cond.code yX7_miles cX7_miles 2 (some .int) :: uw)) := uw_S kw_961 kw_962 kw_61 kw_963
theorem kg_RX7_158 : GoodIn uw (wsV RX7 158 RX7 yX7_joined (Cond.code yX7_joined cX7_joined 6 (some .int) :: uw)) := uw_V kw_954 kw_956 kw_37 kw_61 kw_957
theorem kg_RX7_161 : GoodIn uw (va_wsS RX7 161 yX7_bits (Cond.code yX7_bits cX7_bits 3 (some .int) :: uw)) := uw_S kw_964 kw_965 kw_61 kw_966
theorem kg_RX7_169 : GoodIn uw (wsV RX7 169 RX7 yX7_layWays (Cond.code yX7_layWays cX7_layWays 8 (none) :: uw)) := uw_V kw_976 kw_978 kw_38 kw_61 kw_979
theorem kg_RX7_177 : GoodIn uw (wsV RX7 177 RX7 yX7_kindsOf (Cond.code yX7_kindsOf cX7_kindsOf 8 (some .int) :: uw)) := uw_V kw_994 kw_996 kw_39 kw_61 kw_997
theorem kg_RX7_180 : GoodIn uw (wsV RX7 180 RX7 yX7_gain (Cond.code yX7_gain cX7_gain 2 (some .int) :: uw)) := uw_V kw_1006 kw_1008 kw_40 kw_61 kw_1009
theorem kg_RX7_183 : GoodIn uw (wsV RX7 183 RX7 yX7_rests (Cond.code yX7_rests cX7_rests 4 (some .boolean) :: uw)) := uw_V kw_1010 kw_1012 kw_41 kw_61 kw_1013
theorem kg_RX7_193 : GoodIn uw (wsV RX7 193 RX7 yX7_fraction (Cond.code yX7_fraction cX7_fraction 11 (none) :: uw)) := uw_V kw_1020 kw_1022 kw_42 kw_61 kw_1023
theorem kg_RX7_236 : GoodIn uw (va_wsS RX7 236 yX7_isSmall (Cond.code yX7_isSmall cX7_isSmall 1 (some .boolean) :: uw)) := uw_S kw_1052 kw_1053 kw_61 kw_1054
theorem kg_RX7_239 : GoodIn uw (va_wsS RX7 239 yX7_isFigure (Cond.code yX7_isFigure cX7_isFigure 1 (some .boolean) :: uw)) := uw_S kw_1057 kw_1058 kw_61 kw_1059
theorem kg_RX7_242 : GoodIn uw (wsV RX7 242 RX7 yX7_lookAt (Cond.code yX7_lookAt cX7_lookAt 5 (none) :: uw)) := uw_V kw_1048 kw_1050 kw_43 kw_61 kw_1051
theorem kg_RX7_246 : GoodIn uw (wsV RX7 246 RX7 yX7_goBehind (Cond.code yX7_goBehind cX7_goBehind 1 (none) :: uw)) := uw_V kw_1066 kw_1068 kw_45 kw_61 kw_1069
theorem kg_RX7_249 : GoodIn uw (wsV RX7 249 RX7 yX7_takes (Cond.code yX7_takes cX7_takes 4 (some .boolean) :: uw)) := uw_V kw_1078 kw_1080 kw_48 kw_61 kw_1081
theorem kg_RX7_253 : GoodIn uw (wsV RX7 253 RX7 yX7_spells (Cond.code yX7_spells cX7_spells 10 (some .boolean) :: uw)) := uw_V kw_1062 kw_1064 kw_44 kw_61 kw_1065
theorem kg_RX7_264 : GoodIn uw (wsV RX7 264 RX7 yX7_takesFoe (Cond.code yX7_takesFoe cX7_takesFoe 1 (some .boolean) :: uw)) := uw_V kw_1086 kw_1088 kw_50 kw_61 kw_1089
theorem kg_RX7_261 : GoodIn uw (wsV RX7 261 RX7 yX7_takesHat (Cond.code yX7_takesHat cX7_takesHat 1 (some .boolean) :: uw)) := uw_V kw_1082 kw_1084 kw_49 kw_61 kw_1085
theorem kg_RX7_257 : GoodIn uw (wsV RX7 257 RX7 yX7_takesCar (Cond.code yX7_takesCar cX7_takesCar 1 (some .boolean) :: uw)) := uw_V kw_1074 kw_1076 kw_47 kw_61 kw_1077
theorem kg_RX7_267 : GoodIn uw (wsV RX7 267 RX7 yX7_takesItem (Cond.code yX7_takesItem cX7_takesItem 1 (some .boolean) :: uw)) := uw_V kw_1070 kw_1072 kw_46 kw_61 kw_1073
theorem kg_RX7_270 : GoodIn uw (wsV RX7 270 RX7 yX7_allGiven (Cond.code yX7_allGiven cX7_allGiven 3 (some .int) :: uw)) := uw_V kw_1114 kw_1116 kw_52 kw_61 kw_1117
theorem kg_RX7_273 : GoodIn uw (wsV RX7 273 RX7 yX7_counted (Cond.code yX7_counted cX7_counted 2 (some .int) :: uw)) := uw_V kw_1110 kw_1112 kw_51 kw_61 kw_1113
theorem kg_RX7_280 : GoodIn uw (wsV RX7 280 RX7 yX7_sums (Cond.code yX7_sums cX7_sums 8 (some .long) :: uw)) := uw_V kw_1124 kw_1126 kw_53 kw_61 kw_1127
theorem kd_J3_checkIndex_8e157 : yJ3_checkIndex_8e157.cls ≠ "java/lang/invoke/MethodHandle" ∧ yJ3_checkIndex_8e157.cls ≠ "java/lang/invoke/VarHandle" ∧ (parseMethodDescriptor yJ3_checkIndex_8e157.desc).map (fun d => d.parameters.length) = some 3 := by decide +kernel
theorem kd_J0_checkIndex_df160 : yJ0_checkIndex_df160.cls ≠ "java/lang/invoke/MethodHandle" ∧ yJ0_checkIndex_df160.cls ≠ "java/lang/invoke/VarHandle" ∧ (parseMethodDescriptor yJ0_checkIndex_df160.desc).map (fun d => d.parameters.length) = some 2 := by decide +kernel
theorem kd_J0_coder_7d493 : yJ0_coder_7d493.cls = RJ0 ∧ yJ0_coder_7d493.cls ≠ "java/lang/invoke/MethodHandle" ∧ yJ0_coder_7d493.cls ≠ "java/lang/invoke/VarHandle" ∧ (parseMethodDescriptor yJ0_coder_7d493.desc).map (fun d => d.parameters.length) = some 0 := by decide +kernel
theorem kd_J0_isLatin1_aae02 : yJ0_isLatin1_aae02.cls = RJ0 ∧ yJ0_isLatin1_aae02.cls ≠ "java/lang/invoke/MethodHandle" ∧ yJ0_isLatin1_aae02.cls ≠ "java/lang/invoke/VarHandle" ∧ (parseMethodDescriptor yJ0_isLatin1_aae02.desc).map (fun d => d.parameters.length) = some 0 := by decide +kernel
theorem kd_J1_charAt_3b067 : yJ1_charAt_3b067.cls ≠ "java/lang/invoke/MethodHandle" ∧ yJ1_charAt_3b067.cls ≠ "java/lang/invoke/VarHandle" ∧ (parseMethodDescriptor yJ1_charAt_3b067.desc).map (fun d => d.parameters.length) = some 2 := by decide +kernel
theorem kd_X1_empty : yX1_empty.cls = RX1 ∧ yX1_empty.cls ≠ "java/lang/invoke/MethodHandle" ∧ yX1_empty.cls ≠ "java/lang/invoke/VarHandle" ∧ (parseMethodDescriptor yX1_empty.desc).map (fun d => d.parameters.length) = some 0 := by decide +kernel
theorem kd_X3_restart : yX3_restart.cls = RX3 ∧ yX3_restart.cls ≠ "java/lang/invoke/MethodHandle" ∧ yX3_restart.cls ≠ "java/lang/invoke/VarHandle" ∧ (parseMethodDescriptor yX3_restart.desc).map (fun d => d.parameters.length) = some 0 := by decide +kernel
theorem kd_X6_within : yX6_within.cls ≠ "java/lang/invoke/MethodHandle" ∧ yX6_within.cls ≠ "java/lang/invoke/VarHandle" ∧ (parseMethodDescriptor yX6_within.desc).map (fun d => d.parameters.length) = some 2 := by decide +kernel
theorem kd_X6_bad : yX6_bad.cls = RX6 ∧ yX6_bad.cls ≠ "java/lang/invoke/MethodHandle" ∧ yX6_bad.cls ≠ "java/lang/invoke/VarHandle" ∧ (parseMethodDescriptor yX6_bad.desc).map (fun d => d.parameters.length) = some 1 := by decide +kernel
theorem kd_X1_carIn : yX1_carIn.cls = RX1 ∧ yX1_carIn.cls ≠ "java/lang/invoke/MethodHandle" ∧ yX1_carIn.cls ≠ "java/lang/invoke/VarHandle" ∧ (parseMethodDescriptor yX1_carIn.desc).map (fun d => d.parameters.length) = some 1 := by decide +kernel
theorem kd_X1_put : yX1_put.cls = RX1 ∧ yX1_put.cls ≠ "java/lang/invoke/MethodHandle" ∧ yX1_put.cls ≠ "java/lang/invoke/VarHandle" ∧ (parseMethodDescriptor yX1_put.desc).map (fun d => d.parameters.length) = some 3 := by decide +kernel
theorem kd_X6_full : yX6_full.cls = RX6 ∧ yX6_full.cls ≠ "java/lang/invoke/MethodHandle" ∧ yX6_full.cls ≠ "java/lang/invoke/VarHandle" ∧ (parseMethodDescriptor yX6_full.desc).map (fun d => d.parameters.length) = some 0 := by decide +kernel
theorem kd_X6_no : yX6_no.cls = RX6 ∧ yX6_no.cls ≠ "java/lang/invoke/MethodHandle" ∧ yX6_no.cls ≠ "java/lang/invoke/VarHandle" ∧ (parseMethodDescriptor yX6_no.desc).map (fun d => d.parameters.length) = some 0 := by decide +kernel
theorem kd_X4_append : yX4_append.cls = RX4 ∧ yX4_append.cls ≠ "java/lang/invoke/MethodHandle" ∧ yX4_append.cls ≠ "java/lang/invoke/VarHandle" ∧ (parseMethodDescriptor yX4_append.desc).map (fun d => d.parameters.length) = some 1 := by decide +kernel
theorem kd_X4_passAll : yX4_passAll.cls = RX4 ∧ yX4_passAll.cls ≠ "java/lang/invoke/MethodHandle" ∧ yX4_passAll.cls ≠ "java/lang/invoke/VarHandle" ∧ (parseMethodDescriptor yX4_passAll.desc).map (fun d => d.parameters.length) = some 2 := by decide +kernel
theorem kd_X4_takeNumber : yX4_takeNumber.cls = RX4 ∧ yX4_takeNumber.cls ≠ "java/lang/invoke/MethodHandle" ∧ yX4_takeNumber.cls ≠ "java/lang/invoke/VarHandle" ∧ (parseMethodDescriptor yX4_takeNumber.desc).map (fun d => d.parameters.length) = some 0 := by decide +kernel
theorem kd_J0_length_8abf5 : yJ0_length_8abf5.cls = RJ0 ∧ yJ0_length_8abf5.cls ≠ "java/lang/invoke/MethodHandle" ∧ yJ0_length_8abf5.cls ≠ "java/lang/invoke/VarHandle" ∧ (parseMethodDescriptor yJ0_length_8abf5.desc).map (fun d => d.parameters.length) = some 0 := by decide +kernel
theorem kd_J0_charAt_5068e : yJ0_charAt_5068e.cls = RJ0 ∧ yJ0_charAt_5068e.cls ≠ "java/lang/invoke/MethodHandle" ∧ yJ0_charAt_5068e.cls ≠ "java/lang/invoke/VarHandle" ∧ (parseMethodDescriptor yJ0_charAt_5068e.desc).map (fun d => d.parameters.length) = some 1 := by decide +kernel
theorem kd_X4_advance : yX4_advance.cls = RX4 ∧ yX4_advance.cls ≠ "java/lang/invoke/MethodHandle" ∧ yX4_advance.cls ≠ "java/lang/invoke/VarHandle" ∧ (parseMethodDescriptor yX4_advance.desc).map (fun d => d.parameters.length) = some 0 := by decide +kernel
theorem kd_X4_numberBelow : yX4_numberBelow.cls = RX4 ∧ yX4_numberBelow.cls ≠ "java/lang/invoke/MethodHandle" ∧ yX4_numberBelow.cls ≠ "java/lang/invoke/VarHandle" ∧ (parseMethodDescriptor yX4_numberBelow.desc).map (fun d => d.parameters.length) = some 1 := by decide +kernel
theorem kd_X4_stops : yX4_stops.cls = RX4 ∧ yX4_stops.cls ≠ "java/lang/invoke/MethodHandle" ∧ yX4_stops.cls ≠ "java/lang/invoke/VarHandle" ∧ (parseMethodDescriptor yX4_stops.desc).map (fun d => d.parameters.length) = some 0 := by decide +kernel
theorem kd_X4_wordIs : yX4_wordIs.cls = RX4 ∧ yX4_wordIs.cls ≠ "java/lang/invoke/MethodHandle" ∧ yX4_wordIs.cls ≠ "java/lang/invoke/VarHandle" ∧ (parseMethodDescriptor yX4_wordIs.desc).map (fun d => d.parameters.length) = some 1 := by decide +kernel
theorem kd_X4_readFoe : yX4_readFoe.cls = RX4 ∧ yX4_readFoe.cls ≠ "java/lang/invoke/MethodHandle" ∧ yX4_readFoe.cls ≠ "java/lang/invoke/VarHandle" ∧ (parseMethodDescriptor yX4_readFoe.desc).map (fun d => d.parameters.length) = some 0 := by decide +kernel
theorem kd_X4_readHat : yX4_readHat.cls = RX4 ∧ yX4_readHat.cls ≠ "java/lang/invoke/MethodHandle" ∧ yX4_readHat.cls ≠ "java/lang/invoke/VarHandle" ∧ (parseMethodDescriptor yX4_readHat.desc).map (fun d => d.parameters.length) = some 0 := by decide +kernel
theorem kd_X4_readCar : yX4_readCar.cls = RX4 ∧ yX4_readCar.cls ≠ "java/lang/invoke/MethodHandle" ∧ yX4_readCar.cls ≠ "java/lang/invoke/VarHandle" ∧ (parseMethodDescriptor yX4_readCar.desc).map (fun d => d.parameters.length) = some 0 := by decide +kernel
theorem kd_X4_readItem : yX4_readItem.cls = RX4 ∧ yX4_readItem.cls ≠ "java/lang/invoke/MethodHandle" ∧ yX4_readItem.cls ≠ "java/lang/invoke/VarHandle" ∧ (parseMethodDescriptor yX4_readItem.desc).map (fun d => d.parameters.length) = some 0 := by decide +kernel
theorem kd_X4_readFloor : yX4_readFloor.cls = RX4 ∧ yX4_readFloor.cls ≠ "java/lang/invoke/MethodHandle" ∧ yX4_readFloor.cls ≠ "java/lang/invoke/VarHandle" ∧ (parseMethodDescriptor yX4_readFloor.desc).map (fun d => d.parameters.length) = some 0 := by decide +kernel
theorem kd_X1_copyOf : yX1_copyOf.cls = RX1 ∧ yX1_copyOf.cls ≠ "java/lang/invoke/MethodHandle" ∧ yX1_copyOf.cls ≠ "java/lang/invoke/VarHandle" ∧ (parseMethodDescriptor yX1_copyOf.desc).map (fun d => d.parameters.length) = some 1 := by decide +kernel
theorem kd_X1_nextCell : yX1_nextCell.cls ≠ "java/lang/invoke/MethodHandle" ∧ yX1_nextCell.cls ≠ "java/lang/invoke/VarHandle" ∧ (parseMethodDescriptor yX1_nextCell.desc).map (fun d => d.parameters.length) = some 2 := by decide +kernel
theorem kd_X1_has : yX1_has.cls = RX1 ∧ yX1_has.cls ≠ "java/lang/invoke/MethodHandle" ∧ yX1_has.cls ≠ "java/lang/invoke/VarHandle" ∧ (parseMethodDescriptor yX1_has.desc).map (fun d => d.parameters.length) = some 1 := by decide +kernel
theorem kd_X0_rightOf : yX0_rightOf.cls ≠ "java/lang/invoke/MethodHandle" ∧ yX0_rightOf.cls ≠ "java/lang/invoke/VarHandle" ∧ (parseMethodDescriptor yX0_rightOf.desc).map (fun d => d.parameters.length) = some 1 := by decide +kernel
theorem kd_X1_ahead : yX1_ahead.cls = RX1 ∧ yX1_ahead.cls ≠ "java/lang/invoke/MethodHandle" ∧ yX1_ahead.cls ≠ "java/lang/invoke/VarHandle" ∧ (parseMethodDescriptor yX1_ahead.desc).map (fun d => d.parameters.length) = some 1 := by decide +kernel
theorem kd_X1_towards : yX1_towards.cls = RX1 ∧ yX1_towards.cls ≠ "java/lang/invoke/MethodHandle" ∧ yX1_towards.cls ≠ "java/lang/invoke/VarHandle" ∧ (parseMethodDescriptor yX1_towards.desc).map (fun d => d.parameters.length) = some 2 := by decide +kernel
theorem kd_X0_takes : yX0_takes.cls ≠ "java/lang/invoke/MethodHandle" ∧ yX0_takes.cls ≠ "java/lang/invoke/VarHandle" ∧ (parseMethodDescriptor yX0_takes.desc).map (fun d => d.parameters.length) = some 6 := by decide +kernel
theorem kd_X1_choice : yX1_choice.cls = RX1 ∧ yX1_choice.cls ≠ "java/lang/invoke/MethodHandle" ∧ yX1_choice.cls ≠ "java/lang/invoke/VarHandle" ∧ (parseMethodDescriptor yX1_choice.desc).map (fun d => d.parameters.length) = some 1 := by decide +kernel
theorem kd_X1_drive : yX1_drive.cls = RX1 ∧ yX1_drive.cls ≠ "java/lang/invoke/MethodHandle" ∧ yX1_drive.cls ≠ "java/lang/invoke/VarHandle" ∧ (parseMethodDescriptor yX1_drive.desc).map (fun d => d.parameters.length) = some 2 := by decide +kernel
theorem kd_X1_step : yX1_step.cls = RX1 ∧ yX1_step.cls ≠ "java/lang/invoke/MethodHandle" ∧ yX1_step.cls ≠ "java/lang/invoke/VarHandle" ∧ (parseMethodDescriptor yX1_step.desc).map (fun d => d.parameters.length) = some 4 := by decide +kernel
theorem kd_X3_keep : yX3_keep.cls = RX3 ∧ yX3_keep.cls ≠ "java/lang/invoke/MethodHandle" ∧ yX3_keep.cls ≠ "java/lang/invoke/VarHandle" ∧ (parseMethodDescriptor yX3_keep.desc).map (fun d => d.parameters.length) = some 0 := by decide +kernel
theorem kd_X1_run : yX1_run.cls = RX1 ∧ yX1_run.cls ≠ "java/lang/invoke/MethodHandle" ∧ yX1_run.cls ≠ "java/lang/invoke/VarHandle" ∧ (parseMethodDescriptor yX1_run.desc).map (fun d => d.parameters.length) = some 1 := by decide +kernel
theorem kd_X3_takeBack : yX3_takeBack.cls = RX3 ∧ yX3_takeBack.cls ≠ "java/lang/invoke/MethodHandle" ∧ yX3_takeBack.cls ≠ "java/lang/invoke/VarHandle" ∧ (parseMethodDescriptor yX3_takeBack.desc).map (fun d => d.parameters.length) = some 0 := by decide +kernel
theorem kd_X1_fact : yX1_fact.cls = RX1 ∧ yX1_fact.cls ≠ "java/lang/invoke/MethodHandle" ∧ yX1_fact.cls ≠ "java/lang/invoke/VarHandle" ∧ (parseMethodDescriptor yX1_fact.desc).map (fun d => d.parameters.length) = some 2 := by decide +kernel
theorem kd_X5_begin : yX5_begin.cls = RX5 ∧ yX5_begin.cls ≠ "java/lang/invoke/MethodHandle" ∧ yX5_begin.cls ≠ "java/lang/invoke/VarHandle" ∧ (parseMethodDescriptor yX5_begin.desc).map (fun d => d.parameters.length) = some 1 := by decide +kernel
theorem kd_X1_distance : yX1_distance.cls ≠ "java/lang/invoke/MethodHandle" ∧ yX1_distance.cls ≠ "java/lang/invoke/VarHandle" ∧ (parseMethodDescriptor yX1_distance.desc).map (fun d => d.parameters.length) = some 2 := by decide +kernel
theorem kd_X1_touches : yX1_touches.cls = RX1 ∧ yX1_touches.cls ≠ "java/lang/invoke/MethodHandle" ∧ yX1_touches.cls ≠ "java/lang/invoke/VarHandle" ∧ (parseMethodDescriptor yX1_touches.desc).map (fun d => d.parameters.length) = some 2 := by decide +kernel
theorem kd_X1_clusterWith : yX1_clusterWith.cls = RX1 ∧ yX1_clusterWith.cls ≠ "java/lang/invoke/MethodHandle" ∧ yX1_clusterWith.cls ≠ "java/lang/invoke/VarHandle" ∧ (parseMethodDescriptor yX1_clusterWith.desc).map (fun d => d.parameters.length) = some 1 := by decide +kernel
theorem kd_J6_bitCount_0f7a4 : yJ6_bitCount_0f7a4.cls ≠ "java/lang/invoke/MethodHandle" ∧ yJ6_bitCount_0f7a4.cls ≠ "java/lang/invoke/VarHandle" ∧ (parseMethodDescriptor yJ6_bitCount_0f7a4.desc).map (fun d => d.parameters.length) = some 1 := by decide +kernel
theorem kd_X1_greatestCluster : yX1_greatestCluster.cls = RX1 ∧ yX1_greatestCluster.cls ≠ "java/lang/invoke/MethodHandle" ∧ yX1_greatestCluster.cls ≠ "java/lang/invoke/VarHandle" ∧ (parseMethodDescriptor yX1_greatestCluster.desc).map (fun d => d.parameters.length) = some 0 := by decide +kernel
theorem kd_X1_farFromAll : yX1_farFromAll.cls = RX1 ∧ yX1_farFromAll.cls ≠ "java/lang/invoke/MethodHandle" ∧ yX1_farFromAll.cls ≠ "java/lang/invoke/VarHandle" ∧ (parseMethodDescriptor yX1_farFromAll.desc).map (fun d => d.parameters.length) = some 1 := by decide +kernel
theorem kd_X1_nearestFreeCell : yX1_nearestFreeCell.cls = RX1 ∧ yX1_nearestFreeCell.cls ≠ "java/lang/invoke/MethodHandle" ∧ yX1_nearestFreeCell.cls ≠ "java/lang/invoke/VarHandle" ∧ (parseMethodDescriptor yX1_nearestFreeCell.desc).map (fun d => d.parameters.length) = some 0 := by decide +kernel
theorem kd_X5_searchFrom : yX5_searchFrom.cls = RX5 ∧ yX5_searchFrom.cls ≠ "java/lang/invoke/MethodHandle" ∧ yX5_searchFrom.cls ≠ "java/lang/invoke/VarHandle" ∧ (parseMethodDescriptor yX5_searchFrom.desc).map (fun d => d.parameters.length) = some 4 := by decide +kernel
theorem kd_X5_searchRow : yX5_searchRow.cls = RX5 ∧ yX5_searchRow.cls ≠ "java/lang/invoke/MethodHandle" ∧ yX5_searchRow.cls ≠ "java/lang/invoke/VarHandle" ∧ (parseMethodDescriptor yX5_searchRow.desc).map (fun d => d.parameters.length) = some 4 := by decide +kernel
theorem kd_X6_wayOrNone : yX6_wayOrNone.cls ≠ "java/lang/invoke/MethodHandle" ∧ yX6_wayOrNone.cls ≠ "java/lang/invoke/VarHandle" ∧ (parseMethodDescriptor yX6_wayOrNone.desc).map (fun d => d.parameters.length) = some 1 := by decide +kernel
theorem kd_X2_add : yX2_add.cls = RX2 ∧ yX2_add.cls ≠ "java/lang/invoke/MethodHandle" ∧ yX2_add.cls ≠ "java/lang/invoke/VarHandle" ∧ (parseMethodDescriptor yX2_add.desc).map (fun d => d.parameters.length) = some 7 := by decide +kernel
theorem kd_X2_fits : yX2_fits.cls = RX2 ∧ yX2_fits.cls ≠ "java/lang/invoke/MethodHandle" ∧ yX2_fits.cls ≠ "java/lang/invoke/VarHandle" ∧ (parseMethodDescriptor yX2_fits.desc).map (fun d => d.parameters.length) = some 2 := by decide +kernel
theorem kd_X2_kindsOf : yX2_kindsOf.cls = RX2 ∧ yX2_kindsOf.cls ≠ "java/lang/invoke/MethodHandle" ∧ yX2_kindsOf.cls ≠ "java/lang/invoke/VarHandle" ∧ (parseMethodDescriptor yX2_kindsOf.desc).map (fun d => d.parameters.length) = some 1 := by decide +kernel
theorem kd_X5_mostAlike : yX5_mostAlike.cls = RX5 ∧ yX5_mostAlike.cls ≠ "java/lang/invoke/MethodHandle" ∧ yX5_mostAlike.cls ≠ "java/lang/invoke/VarHandle" ∧ (parseMethodDescriptor yX5_mostAlike.desc).map (fun d => d.parameters.length) = some 5 := by decide +kernel
theorem kd_X5_bestLook : yX5_bestLook.cls = RX5 ∧ yX5_bestLook.cls ≠ "java/lang/invoke/MethodHandle" ∧ yX5_bestLook.cls ≠ "java/lang/invoke/VarHandle" ∧ (parseMethodDescriptor yX5_bestLook.desc).map (fun d => d.parameters.length) = some 3 := by decide +kernel
theorem kd_X5_gain : yX5_gain.cls ≠ "java/lang/invoke/MethodHandle" ∧ yX5_gain.cls ≠ "java/lang/invoke/VarHandle" ∧ (parseMethodDescriptor yX5_gain.desc).map (fun d => d.parameters.length) = some 3 := by decide +kernel
theorem kd_X5_rests : yX5_rests.cls = RX5 ∧ yX5_rests.cls ≠ "java/lang/invoke/MethodHandle" ∧ yX5_rests.cls ≠ "java/lang/invoke/VarHandle" ∧ (parseMethodDescriptor yX5_rests.desc).map (fun d => d.parameters.length) = some 1 := by decide +kernel
theorem kd_X5_restingPairs : yX5_restingPairs.cls = RX5 ∧ yX5_restingPairs.cls ≠ "java/lang/invoke/MethodHandle" ∧ yX5_restingPairs.cls ≠ "java/lang/invoke/VarHandle" ∧ (parseMethodDescriptor yX5_restingPairs.desc).map (fun d => d.parameters.length) = some 3 := by decide +kernel
theorem kd_X6_bitOfRank : yX6_bitOfRank.cls ≠ "java/lang/invoke/MethodHandle" ∧ yX6_bitOfRank.cls ≠ "java/lang/invoke/VarHandle" ∧ (parseMethodDescriptor yX6_bitOfRank.desc).map (fun d => d.parameters.length) = some 2 := by decide +kernel
theorem kd_X6_commonDivisor : yX6_commonDivisor.cls ≠ "java/lang/invoke/MethodHandle" ∧ yX6_commonDivisor.cls ≠ "java/lang/invoke/VarHandle" ∧ (parseMethodDescriptor yX6_commonDivisor.desc).map (fun d => d.parameters.length) = some 2 := by decide +kernel
theorem kd_X5_bumpsByOdds : yX5_bumpsByOdds.cls = RX5 ∧ yX5_bumpsByOdds.cls ≠ "java/lang/invoke/MethodHandle" ∧ yX5_bumpsByOdds.cls ≠ "java/lang/invoke/VarHandle" ∧ (parseMethodDescriptor yX5_bumpsByOdds.desc).map (fun d => d.parameters.length) = some 3 := by decide +kernel
theorem kd_X6_powerOfTen : yX6_powerOfTen.cls ≠ "java/lang/invoke/MethodHandle" ∧ yX6_powerOfTen.cls ≠ "java/lang/invoke/VarHandle" ∧ (parseMethodDescriptor yX6_powerOfTen.desc).map (fun d => d.parameters.length) = some 1 := by decide +kernel
theorem kd_X6_putFraction : yX6_putFraction.cls = RX6 ∧ yX6_putFraction.cls ≠ "java/lang/invoke/MethodHandle" ∧ yX6_putFraction.cls ≠ "java/lang/invoke/VarHandle" ∧ (parseMethodDescriptor yX6_putFraction.desc).map (fun d => d.parameters.length) = some 2 := by decide +kernel
theorem kd_X1_runBySeed : yX1_runBySeed.cls = RX1 ∧ yX1_runBySeed.cls ≠ "java/lang/invoke/MethodHandle" ∧ yX1_runBySeed.cls ≠ "java/lang/invoke/VarHandle" ∧ (parseMethodDescriptor yX1_runBySeed.desc).map (fun d => d.parameters.length) = some 2 := by decide +kernel
theorem kd_X2_copyOf : yX2_copyOf.cls = RX2 ∧ yX2_copyOf.cls ≠ "java/lang/invoke/MethodHandle" ∧ yX2_copyOf.cls ≠ "java/lang/invoke/VarHandle" ∧ (parseMethodDescriptor yX2_copyOf.desc).map (fun d => d.parameters.length) = some 1 := by decide +kernel
theorem kd_X3_copyOf : yX3_copyOf.cls = RX3 ∧ yX3_copyOf.cls ≠ "java/lang/invoke/MethodHandle" ∧ yX3_copyOf.cls ≠ "java/lang/invoke/VarHandle" ∧ (parseMethodDescriptor yX3_copyOf.desc).map (fun d => d.parameters.length) = some 1 := by decide +kernel
theorem kd_X1_givenByAll : yX1_givenByAll.cls = RX1 ∧ yX1_givenByAll.cls ≠ "java/lang/invoke/MethodHandle" ∧ yX1_givenByAll.cls ≠ "java/lang/invoke/VarHandle" ∧ (parseMethodDescriptor yX1_givenByAll.desc).map (fun d => d.parameters.length) = some 0 := by decide +kernel
theorem kd_X6_howMany : yX6_howMany.cls = RX6 ∧ yX6_howMany.cls ≠ "java/lang/invoke/MethodHandle" ∧ yX6_howMany.cls ≠ "java/lang/invoke/VarHandle" ∧ (parseMethodDescriptor yX6_howMany.desc).map (fun d => d.parameters.length) = some 1 := by decide +kernel
theorem kd_X1_addTo : yX1_addTo.cls = RX1 ∧ yX1_addTo.cls ≠ "java/lang/invoke/MethodHandle" ∧ yX1_addTo.cls ≠ "java/lang/invoke/VarHandle" ∧ (parseMethodDescriptor yX1_addTo.desc).map (fun d => d.parameters.length) = some 1 := by decide +kernel
theorem kd_X2_addTo : yX2_addTo.cls = RX2 ∧ yX2_addTo.cls ≠ "java/lang/invoke/MethodHandle" ∧ yX2_addTo.cls ≠ "java/lang/invoke/VarHandle" ∧ (parseMethodDescriptor yX2_addTo.desc).map (fun d => d.parameters.length) = some 1 := by decide +kernel
theorem kd_X7_many : yX7_many.cls = RX7 ∧ yX7_many.cls ≠ "java/lang/invoke/MethodHandle" ∧ yX7_many.cls ≠ "java/lang/invoke/VarHandle" ∧ (parseMethodDescriptor yX7_many.desc).map (fun d => d.parameters.length) = some 0 := by decide +kernel
theorem kd_X7_in : yX7_in.cls ≠ "java/lang/invoke/MethodHandle" ∧ yX7_in.cls ≠ "java/lang/invoke/VarHandle" ∧ (parseMethodDescriptor yX7_in.desc).map (fun d => d.parameters.length) = some 3 := by decide +kernel
theorem kd_X7_begin : yX7_begin.cls ≠ "java/lang/invoke/MethodHandle" ∧ yX7_begin.cls ≠ "java/lang/invoke/VarHandle" ∧ (parseMethodDescriptor yX7_begin.desc).map (fun d => d.parameters.length) = some 1 := by decide +kernel
theorem kd_X7_bad : yX7_bad.cls = RX7 ∧ yX7_bad.cls ≠ "java/lang/invoke/MethodHandle" ∧ yX7_bad.cls ≠ "java/lang/invoke/VarHandle" ∧ (parseMethodDescriptor yX7_bad.desc).map (fun d => d.parameters.length) = some 1 := by decide +kernel
theorem kd_X7_isCell : yX7_isCell.cls ≠ "java/lang/invoke/MethodHandle" ∧ yX7_isCell.cls ≠ "java/lang/invoke/VarHandle" ∧ (parseMethodDescriptor yX7_isCell.desc).map (fun d => d.parameters.length) = some 1 := by decide +kernel
theorem kd_X7_isWay : yX7_isWay.cls ≠ "java/lang/invoke/MethodHandle" ∧ yX7_isWay.cls ≠ "java/lang/invoke/VarHandle" ∧ (parseMethodDescriptor yX7_isWay.desc).map (fun d => d.parameters.length) = some 1 := by decide +kernel
theorem kd_X7_carIn : yX7_carIn.cls ≠ "java/lang/invoke/MethodHandle" ∧ yX7_carIn.cls ≠ "java/lang/invoke/VarHandle" ∧ (parseMethodDescriptor yX7_carIn.desc).map (fun d => d.parameters.length) = some 2 := by decide +kernel
theorem kd_X7_layCar : yX7_layCar.cls ≠ "java/lang/invoke/MethodHandle" ∧ yX7_layCar.cls ≠ "java/lang/invoke/VarHandle" ∧ (parseMethodDescriptor yX7_layCar.desc).map (fun d => d.parameters.length) = some 4 := by decide +kernel
theorem kd_X7_full : yX7_full.cls = RX7 ∧ yX7_full.cls ≠ "java/lang/invoke/MethodHandle" ∧ yX7_full.cls ≠ "java/lang/invoke/VarHandle" ∧ (parseMethodDescriptor yX7_full.desc).map (fun d => d.parameters.length) = some 0 := by decide +kernel
theorem kd_X7_no : yX7_no.cls = RX7 ∧ yX7_no.cls ≠ "java/lang/invoke/MethodHandle" ∧ yX7_no.cls ≠ "java/lang/invoke/VarHandle" ∧ (parseMethodDescriptor yX7_no.desc).map (fun d => d.parameters.length) = some 0 := by decide +kernel
theorem kd_X7_cellBy : yX7_cellBy.cls ≠ "java/lang/invoke/MethodHandle" ∧ yX7_cellBy.cls ≠ "java/lang/invoke/VarHandle" ∧ (parseMethodDescriptor yX7_cellBy.desc).map (fun d => d.parameters.length) = some 2 := by decide +kernel
theorem kd_X7_carAt : yX7_carAt.cls = RX7 ∧ yX7_carAt.cls ≠ "java/lang/invoke/MethodHandle" ∧ yX7_carAt.cls ≠ "java/lang/invoke/VarHandle" ∧ (parseMethodDescriptor yX7_carAt.desc).map (fun d => d.parameters.length) = some 1 := by decide +kernel
theorem kd_X7_distance : yX7_distance.cls ≠ "java/lang/invoke/MethodHandle" ∧ yX7_distance.cls ≠ "java/lang/invoke/VarHandle" ∧ (parseMethodDescriptor yX7_distance.desc).map (fun d => d.parameters.length) = some 2 := by decide +kernel
theorem kd_X7_right : yX7_right.cls ≠ "java/lang/invoke/MethodHandle" ∧ yX7_right.cls ≠ "java/lang/invoke/VarHandle" ∧ (parseMethodDescriptor yX7_right.desc).map (fun d => d.parameters.length) = some 1 := by decide +kernel
theorem kd_X7_aheadBy : yX7_aheadBy.cls = RX7 ∧ yX7_aheadBy.cls ≠ "java/lang/invoke/MethodHandle" ∧ yX7_aheadBy.cls ≠ "java/lang/invoke/VarHandle" ∧ (parseMethodDescriptor yX7_aheadBy.desc).map (fun d => d.parameters.length) = some 2 := by decide +kernel
theorem kd_X7_towards : yX7_towards.cls = RX7 ∧ yX7_towards.cls ≠ "java/lang/invoke/MethodHandle" ∧ yX7_towards.cls ≠ "java/lang/invoke/VarHandle" ∧ (parseMethodDescriptor yX7_towards.desc).map (fun d => d.parameters.length) = some 2 := by decide +kernel
theorem kd_X7_wayAs : yX7_wayAs.cls ≠ "java/lang/invoke/MethodHandle" ∧ yX7_wayAs.cls ≠ "java/lang/invoke/VarHandle" ∧ (parseMethodDescriptor yX7_wayAs.desc).map (fun d => d.parameters.length) = some 6 := by decide +kernel
theorem kd_X7_wayOf : yX7_wayOf.cls = RX7 ∧ yX7_wayOf.cls ≠ "java/lang/invoke/MethodHandle" ∧ yX7_wayOf.cls ≠ "java/lang/invoke/VarHandle" ∧ (parseMethodDescriptor yX7_wayOf.desc).map (fun d => d.parameters.length) = some 1 := by decide +kernel
theorem kd_X7_goCar : yX7_goCar.cls = RX7 ∧ yX7_goCar.cls ≠ "java/lang/invoke/MethodHandle" ∧ yX7_goCar.cls ≠ "java/lang/invoke/VarHandle" ∧ (parseMethodDescriptor yX7_goCar.desc).map (fun d => d.parameters.length) = some 2 := by decide +kernel
theorem kd_X7_goTick : yX7_goTick.cls = RX7 ∧ yX7_goTick.cls ≠ "java/lang/invoke/MethodHandle" ∧ yX7_goTick.cls ≠ "java/lang/invoke/VarHandle" ∧ (parseMethodDescriptor yX7_goTick.desc).map (fun d => d.parameters.length) = some 4 := by decide +kernel
theorem kd_X7_keep : yX7_keep.cls = RX7 ∧ yX7_keep.cls ≠ "java/lang/invoke/MethodHandle" ∧ yX7_keep.cls ≠ "java/lang/invoke/VarHandle" ∧ (parseMethodDescriptor yX7_keep.desc).map (fun d => d.parameters.length) = some 0 := by decide +kernel
theorem kd_X7_layHand : yX7_layHand.cls = RX7 ∧ yX7_layHand.cls ≠ "java/lang/invoke/MethodHandle" ∧ yX7_layHand.cls ≠ "java/lang/invoke/VarHandle" ∧ (parseMethodDescriptor yX7_layHand.desc).map (fun d => d.parameters.length) = some 0 := by decide +kernel
theorem kd_X7_goTicks : yX7_goTicks.cls = RX7 ∧ yX7_goTicks.cls ≠ "java/lang/invoke/MethodHandle" ∧ yX7_goTicks.cls ≠ "java/lang/invoke/VarHandle" ∧ (parseMethodDescriptor yX7_goTicks.desc).map (fun d => d.parameters.length) = some 1 := by decide +kernel
theorem kd_X7_get : yX7_get.cls = RX7 ∧ yX7_get.cls ≠ "java/lang/invoke/MethodHandle" ∧ yX7_get.cls ≠ "java/lang/invoke/VarHandle" ∧ (parseMethodDescriptor yX7_get.desc).map (fun d => d.parameters.length) = some 2 := by decide +kernel
theorem kd_X7_isCar : yX7_isCar.cls = RX7 ∧ yX7_isCar.cls ≠ "java/lang/invoke/MethodHandle" ∧ yX7_isCar.cls ≠ "java/lang/invoke/VarHandle" ∧ (parseMethodDescriptor yX7_isCar.desc).map (fun d => d.parameters.length) = some 1 := by decide +kernel
theorem kd_X7_has : yX7_has.cls ≠ "java/lang/invoke/MethodHandle" ∧ yX7_has.cls ≠ "java/lang/invoke/VarHandle" ∧ (parseMethodDescriptor yX7_has.desc).map (fun d => d.parameters.length) = some 2 := by decide +kernel
theorem kd_X7_miles : yX7_miles.cls ≠ "java/lang/invoke/MethodHandle" ∧ yX7_miles.cls ≠ "java/lang/invoke/VarHandle" ∧ (parseMethodDescriptor yX7_miles.desc).map (fun d => d.parameters.length) = some 2 := by decide +kernel
theorem kd_X7_joined : yX7_joined.cls = RX7 ∧ yX7_joined.cls ≠ "java/lang/invoke/MethodHandle" ∧ yX7_joined.cls ≠ "java/lang/invoke/VarHandle" ∧ (parseMethodDescriptor yX7_joined.desc).map (fun d => d.parameters.length) = some 1 := by decide +kernel
theorem kd_X7_bits : yX7_bits.cls ≠ "java/lang/invoke/MethodHandle" ∧ yX7_bits.cls ≠ "java/lang/invoke/VarHandle" ∧ (parseMethodDescriptor yX7_bits.desc).map (fun d => d.parameters.length) = some 1 := by decide +kernel
theorem kd_X7_layWays : yX7_layWays.cls = RX7 ∧ yX7_layWays.cls ≠ "java/lang/invoke/MethodHandle" ∧ yX7_layWays.cls ≠ "java/lang/invoke/VarHandle" ∧ (parseMethodDescriptor yX7_layWays.desc).map (fun d => d.parameters.length) = some 3 := by decide +kernel
theorem kd_X7_kindsOf : yX7_kindsOf.cls = RX7 ∧ yX7_kindsOf.cls ≠ "java/lang/invoke/MethodHandle" ∧ yX7_kindsOf.cls ≠ "java/lang/invoke/VarHandle" ∧ (parseMethodDescriptor yX7_kindsOf.desc).map (fun d => d.parameters.length) = some 1 := by decide +kernel
theorem kd_X7_gain : yX7_gain.cls = RX7 ∧ yX7_gain.cls ≠ "java/lang/invoke/MethodHandle" ∧ yX7_gain.cls ≠ "java/lang/invoke/VarHandle" ∧ (parseMethodDescriptor yX7_gain.desc).map (fun d => d.parameters.length) = some 1 := by decide +kernel
theorem kd_X7_rests : yX7_rests.cls = RX7 ∧ yX7_rests.cls ≠ "java/lang/invoke/MethodHandle" ∧ yX7_rests.cls ≠ "java/lang/invoke/VarHandle" ∧ (parseMethodDescriptor yX7_rests.desc).map (fun d => d.parameters.length) = some 1 := by decide +kernel
theorem kd_X7_fraction : yX7_fraction.cls = RX7 ∧ yX7_fraction.cls ≠ "java/lang/invoke/MethodHandle" ∧ yX7_fraction.cls ≠ "java/lang/invoke/VarHandle" ∧ (parseMethodDescriptor yX7_fraction.desc).map (fun d => d.parameters.length) = some 2 := by decide +kernel
theorem kd_X7_isSmall : yX7_isSmall.cls ≠ "java/lang/invoke/MethodHandle" ∧ yX7_isSmall.cls ≠ "java/lang/invoke/VarHandle" ∧ (parseMethodDescriptor yX7_isSmall.desc).map (fun d => d.parameters.length) = some 1 := by decide +kernel
theorem kd_X7_isFigure : yX7_isFigure.cls ≠ "java/lang/invoke/MethodHandle" ∧ yX7_isFigure.cls ≠ "java/lang/invoke/VarHandle" ∧ (parseMethodDescriptor yX7_isFigure.desc).map (fun d => d.parameters.length) = some 1 := by decide +kernel
theorem kd_X7_lookAt : yX7_lookAt.cls = RX7 ∧ yX7_lookAt.cls ≠ "java/lang/invoke/MethodHandle" ∧ yX7_lookAt.cls ≠ "java/lang/invoke/VarHandle" ∧ (parseMethodDescriptor yX7_lookAt.desc).map (fun d => d.parameters.length) = some 1 := by decide +kernel
theorem kd_X7_goBehind : yX7_goBehind.cls = RX7 ∧ yX7_goBehind.cls ≠ "java/lang/invoke/MethodHandle" ∧ yX7_goBehind.cls ≠ "java/lang/invoke/VarHandle" ∧ (parseMethodDescriptor yX7_goBehind.desc).map (fun d => d.parameters.length) = some 0 := by decide +kernel
theorem kd_X7_takes : yX7_takes.cls = RX7 ∧ yX7_takes.cls ≠ "java/lang/invoke/MethodHandle" ∧ yX7_takes.cls ≠ "java/lang/invoke/VarHandle" ∧ (parseMethodDescriptor yX7_takes.desc).map (fun d => d.parameters.length) = some 3 := by decide +kernel
theorem kd_X7_spells : yX7_spells.cls = RX7 ∧ yX7_spells.cls ≠ "java/lang/invoke/MethodHandle" ∧ yX7_spells.cls ≠ "java/lang/invoke/VarHandle" ∧ (parseMethodDescriptor yX7_spells.desc).map (fun d => d.parameters.length) = some 7 := by decide +kernel
theorem kd_X7_takesFoe : yX7_takesFoe.cls = RX7 ∧ yX7_takesFoe.cls ≠ "java/lang/invoke/MethodHandle" ∧ yX7_takesFoe.cls ≠ "java/lang/invoke/VarHandle" ∧ (parseMethodDescriptor yX7_takesFoe.desc).map (fun d => d.parameters.length) = some 0 := by decide +kernel
theorem kd_X7_takesHat : yX7_takesHat.cls = RX7 ∧ yX7_takesHat.cls ≠ "java/lang/invoke/MethodHandle" ∧ yX7_takesHat.cls ≠ "java/lang/invoke/VarHandle" ∧ (parseMethodDescriptor yX7_takesHat.desc).map (fun d => d.parameters.length) = some 0 := by decide +kernel
theorem kd_X7_takesCar : yX7_takesCar.cls = RX7 ∧ yX7_takesCar.cls ≠ "java/lang/invoke/MethodHandle" ∧ yX7_takesCar.cls ≠ "java/lang/invoke/VarHandle" ∧ (parseMethodDescriptor yX7_takesCar.desc).map (fun d => d.parameters.length) = some 0 := by decide +kernel
theorem kd_X7_takesItem : yX7_takesItem.cls = RX7 ∧ yX7_takesItem.cls ≠ "java/lang/invoke/MethodHandle" ∧ yX7_takesItem.cls ≠ "java/lang/invoke/VarHandle" ∧ (parseMethodDescriptor yX7_takesItem.desc).map (fun d => d.parameters.length) = some 0 := by decide +kernel
theorem kd_X7_allGiven : yX7_allGiven.cls = RX7 ∧ yX7_allGiven.cls ≠ "java/lang/invoke/MethodHandle" ∧ yX7_allGiven.cls ≠ "java/lang/invoke/VarHandle" ∧ (parseMethodDescriptor yX7_allGiven.desc).map (fun d => d.parameters.length) = some 0 := by decide +kernel
theorem kd_X7_counted : yX7_counted.cls = RX7 ∧ yX7_counted.cls ≠ "java/lang/invoke/MethodHandle" ∧ yX7_counted.cls ≠ "java/lang/invoke/VarHandle" ∧ (parseMethodDescriptor yX7_counted.desc).map (fun d => d.parameters.length) = some 1 := by decide +kernel
theorem kd_X7_sums : yX7_sums.cls = RX7 ∧ yX7_sums.cls ≠ "java/lang/invoke/MethodHandle" ∧ yX7_sums.cls ≠ "java/lang/invoke/VarHandle" ∧ (parseMethodDescriptor yX7_sums.desc).map (fun d => d.parameters.length) = some 3 := by decide +kernel
