/-! each method's bytes, by their place in lw_tbl; printed by wip/whole/gen.py -/
set_option maxRecDepth 100000 in
theorem mc_0 : lw_tbl[284]? = some (.code (mY 0) (mB 0) (mL 0) (mR 0)) := rfl
set_option maxRecDepth 100000 in
theorem mc_1 : lw_tbl[646]? = some (.code (mY 1) (mB 1) (mL 1) (mR 1)) := rfl
set_option maxRecDepth 100000 in
theorem mc_2 : lw_tbl[479]? = some (.code (mY 2) (mB 2) (mL 2) (mR 2)) := rfl
set_option maxRecDepth 100000 in
theorem mc_3 : lw_tbl[210]? = some (.code (mY 3) (mB 3) (mL 3) (mR 3)) := rfl
set_option maxRecDepth 100000 in
theorem mc_4 : lw_tbl[563]? = some (.code (mY 4) (mB 4) (mL 4) (mR 4)) := rfl
set_option maxRecDepth 100000 in
theorem mc_5 : lw_tbl[428]? = some (.code (mY 5) (mB 5) (mL 5) (mR 5)) := rfl
set_option maxRecDepth 100000 in
theorem mc_6 : lw_tbl[377]? = some (.code (mY 6) (mB 6) (mL 6) (mR 6)) := rfl
set_option maxRecDepth 100000 in
theorem mc_7 : lw_tbl[382]? = some (.code (mY 7) (mB 7) (mL 7) (mR 7)) := rfl
set_option maxRecDepth 100000 in
theorem mc_8 : lw_tbl[432]? = some (.code (mY 8) (mB 8) (mL 8) (mR 8)) := rfl
set_option maxRecDepth 100000 in
theorem mc_9 : lw_tbl[442]? = some (.code (mY 9) (mB 9) (mL 9) (mR 9)) := rfl
set_option maxRecDepth 100000 in
theorem mc_10 : lw_tbl[450]? = some (.code (mY 10) (mB 10) (mL 10) (mR 10)) := rfl
set_option maxRecDepth 100000 in
theorem mc_11 : lw_tbl[454]? = some (.code (mY 11) (mB 11) (mL 11) (mR 11)) := rfl
set_option maxRecDepth 100000 in
theorem mc_12 : lw_tbl[301]? = some (.code (mY 12) (mB 12) (mL 12) (mR 12)) := rfl
set_option maxRecDepth 100000 in
theorem mc_13 : lw_tbl[626]? = some (.code (mY 13) (mB 13) (mL 13) (mR 13)) := rfl
set_option maxRecDepth 100000 in
theorem mc_14 : lw_tbl[217]? = some (.code (mY 14) (mB 14) (mL 14) (mR 14)) := rfl
set_option maxRecDepth 100000 in
theorem mc_15 : lw_tbl[386]? = some (.code (mY 15) (mB 15) (mL 15) (mR 15)) := rfl
set_option maxRecDepth 100000 in
theorem mc_16 : lw_tbl[390]? = some (.code (mY 16) (mB 16) (mL 16) (mR 16)) := rfl
set_option maxRecDepth 100000 in
theorem mc_17 : lw_tbl[438]? = some (.code (mY 17) (mB 17) (mL 17) (mR 17)) := rfl
set_option maxRecDepth 100000 in
theorem mc_18 : lw_tbl[394]? = some (.code (mY 18) (mB 18) (mL 18) (mR 18)) := rfl
set_option maxRecDepth 100000 in
theorem mc_19 : lw_tbl[398]? = some (.code (mY 19) (mB 19) (mL 19) (mR 19)) := rfl
set_option maxRecDepth 100000 in
theorem mc_20 : lw_tbl[422]? = some (.code (mY 20) (mB 20) (mL 20) (mR 20)) := rfl
set_option maxRecDepth 100000 in
theorem mc_21 : lw_tbl[402]? = some (.code (mY 21) (mB 21) (mL 21) (mR 21)) := rfl
set_option maxRecDepth 100000 in
theorem mc_22 : lw_tbl[76]? = some (.code (mY 22) (mB 22) (mL 22) (mR 22)) := rfl
set_option maxRecDepth 100000 in
theorem mc_23 : lw_tbl[462]? = some (.code (mY 23) (mB 23) (mL 23) (mR 23)) := rfl
set_option maxRecDepth 100000 in
theorem mc_24 : lw_tbl[488]? = some (.code (mY 24) (mB 24) (mL 24) (mR 24)) := rfl
set_option maxRecDepth 100000 in
theorem mc_25 : lw_tbl[446]? = some (.code (mY 25) (mB 25) (mL 25) (mR 25)) := rfl
set_option maxRecDepth 100000 in
theorem mc_26 : lw_tbl[474]? = some (.code (mY 26) (mB 26) (mL 26) (mR 26)) := rfl
set_option maxRecDepth 100000 in
theorem mc_27 : lw_tbl[548]? = some (.code (mY 27) (mB 27) (mL 27) (mR 27)) := rfl
set_option maxRecDepth 100000 in
theorem mc_28 : lw_tbl[347]? = some (.code (mY 28) (mB 28) (mL 28) (mR 28)) := rfl
set_option maxRecDepth 100000 in
theorem mc_29 : lw_tbl[500]? = some (.code (mY 29) (mB 29) (mL 29) (mR 29)) := rfl
set_option maxRecDepth 100000 in
theorem mc_30 : lw_tbl[596]? = some (.code (mY 30) (mB 30) (mL 30) (mR 30)) := rfl
set_option maxRecDepth 100000 in
theorem mc_31 : lw_tbl[351]? = some (.code (mY 31) (mB 31) (mL 31) (mR 31)) := rfl
set_option maxRecDepth 100000 in
theorem mc_32 : lw_tbl[567]? = some (.code (mY 32) (mB 32) (mL 32) (mR 32)) := rfl
set_option maxRecDepth 100000 in
theorem mc_33 : lw_tbl[571]? = some (.code (mY 33) (mB 33) (mL 33) (mR 33)) := rfl
set_option maxRecDepth 100000 in
theorem mc_34 : lw_tbl[368]? = some (.code (mY 34) (mB 34) (mL 34) (mR 34)) := rfl
set_option maxRecDepth 100000 in
theorem mc_35 : lw_tbl[264]? = some (.code (mY 35) (mB 35) (mL 35) (mR 35)) := rfl
set_option maxRecDepth 100000 in
theorem mc_36 : lw_tbl[557]? = some (.code (mY 36) (mB 36) (mL 36) (mR 36)) := rfl
set_option maxRecDepth 100000 in
theorem mc_37 : lw_tbl[638]? = some (.code (mY 37) (mB 37) (mL 37) (mR 37)) := rfl
set_option maxRecDepth 100000 in
theorem mc_38 : lw_tbl[174]? = some (.code (mY 38) (mB 38) (mL 38) (mR 38)) := rfl
set_option maxRecDepth 100000 in
theorem mc_39 : lw_tbl[355]? = some (.code (mY 39) (mB 39) (mL 39) (mR 39)) := rfl
set_option maxRecDepth 100000 in
theorem mc_40 : lw_tbl[360]? = some (.code (mY 40) (mB 40) (mL 40) (mR 40)) := rfl
set_option maxRecDepth 100000 in
theorem mc_41 : lw_tbl[364]? = some (.code (mY 41) (mB 41) (mL 41) (mR 41)) := rfl
set_option maxRecDepth 100000 in
theorem mc_42 : lw_tbl[372]? = some (.code (mY 42) (mB 42) (mL 42) (mR 42)) := rfl
set_option maxRecDepth 100000 in
theorem mc_43 : lw_tbl[68]? = some (.code (mY 43) (mB 43) (mL 43) (mR 43)) := rfl
set_option maxRecDepth 100000 in
theorem mc_44 : lw_tbl[343]? = some (.code (mY 44) (mB 44) (mL 44) (mR 44)) := rfl
set_option maxRecDepth 100000 in
theorem mc_45 : lw_tbl[484]? = some (.code (mY 45) (mB 45) (mL 45) (mR 45)) := rfl
set_option maxRecDepth 100000 in
theorem mc_46 : lw_tbl[513]? = some (.code (mY 46) (mB 46) (mL 46) (mR 46)) := rfl
set_option maxRecDepth 100000 in
theorem mc_47 : lw_tbl[518]? = some (.code (mY 47) (mB 47) (mL 47) (mR 47)) := rfl
set_option maxRecDepth 100000 in
theorem mc_48 : lw_tbl[523]? = some (.code (mY 48) (mB 48) (mL 48) (mR 48)) := rfl
set_option maxRecDepth 100000 in
theorem mc_49 : lw_tbl[527]? = some (.code (mY 49) (mB 49) (mL 49) (mR 49)) := rfl
set_option maxRecDepth 100000 in
theorem mc_50 : lw_tbl[531]? = some (.code (mY 50) (mB 50) (mL 50) (mR 50)) := rfl
set_option maxRecDepth 100000 in
theorem mc_51 : lw_tbl[535]? = some (.code (mY 51) (mB 51) (mL 51) (mR 51)) := rfl
set_option maxRecDepth 100000 in
theorem mc_52 : lw_tbl[539]? = some (.code (mY 52) (mB 52) (mL 52) (mR 52)) := rfl
set_option maxRecDepth 100000 in
theorem mc_53 : lw_tbl[544]? = some (.code (mY 53) (mB 53) (mL 53) (mR 53)) := rfl
set_option maxRecDepth 100000 in
theorem mc_54 : lw_tbl[575]? = some (.code (mY 54) (mB 54) (mL 54) (mR 54)) := rfl
set_option maxRecDepth 100000 in
theorem mc_55 : lw_tbl[580]? = some (.code (mY 55) (mB 55) (mL 55) (mR 55)) := rfl
set_option maxRecDepth 100000 in
theorem mc_56 : lw_tbl[584]? = some (.code (mY 56) (mB 56) (mL 56) (mR 56)) := rfl
set_option maxRecDepth 100000 in
theorem mc_57 : lw_tbl[588]? = some (.code (mY 57) (mB 57) (mL 57) (mR 57)) := rfl
set_option maxRecDepth 100000 in
theorem mc_58 : lw_tbl[592]? = some (.code (mY 58) (mB 58) (mL 58) (mR 58)) := rfl
set_option maxRecDepth 100000 in
theorem mc_59 : lw_tbl[606]? = some (.code (mY 59) (mB 59) (mL 59) (mR 59)) := rfl
set_option maxRecDepth 100000 in
theorem mc_60 : lw_tbl[610]? = some (.code (mY 60) (mB 60) (mL 60) (mR 60)) := rfl
set_option maxRecDepth 100000 in
theorem mc_61 : lw_tbl[614]? = some (.code (mY 61) (mB 61) (mL 61) (mR 61)) := rfl
set_option maxRecDepth 100000 in
theorem mc_62 : lw_tbl[618]? = some (.code (mY 62) (mB 62) (mL 62) (mR 62)) := rfl
set_option maxRecDepth 100000 in
theorem mc_63 : lw_tbl[634]? = some (.code (mY 63) (mB 63) (mL 63) (mR 63)) := rfl
set_option maxRecDepth 100000 in
theorem mc_64 : lw_tbl[642]? = some (.code (mY 64) (mB 64) (mL 64) (mR 64)) := rfl
set_option maxRecDepth 100000 in
theorem mc_65 : lw_tbl[650]? = some (.code (mY 65) (mB 65) (mL 65) (mR 65)) := rfl
set_option maxRecDepth 100000 in
theorem mc_66 : lw_tbl[654]? = some (.code (mY 66) (mB 66) (mL 66) (mR 66)) := rfl
set_option maxRecDepth 100000 in
theorem mc_67 : lw_tbl[658]? = some (.code (mY 67) (mB 67) (mL 67) (mR 67)) := rfl
set_option maxRecDepth 100000 in
theorem mc_68 : lw_tbl[662]? = some (.code (mY 68) (mB 68) (mL 68) (mR 68)) := rfl
set_option maxRecDepth 100000 in
theorem mc_69 : lw_tbl[492]? = some (.code (mY 69) (mB 69) (mL 69) (mR 69)) := rfl
set_option maxRecDepth 100000 in
theorem mc_70 : lw_tbl[553]? = some (.code (mY 70) (mB 70) (mL 70) (mR 70)) := rfl
set_option maxRecDepth 100000 in
theorem mc_71 : lw_tbl[622]? = some (.code (mY 71) (mB 71) (mL 71) (mR 71)) := rfl
set_option maxRecDepth 100000 in
theorem mc_72 : lw_tbl[496]? = some (.code (mY 72) (mB 72) (mL 72) (mR 72)) := rfl
set_option maxRecDepth 100000 in
theorem mc_73 : lw_tbl[505]? = some (.code (mY 73) (mB 73) (mL 73) (mR 73)) := rfl
set_option maxRecDepth 100000 in
theorem mc_74 : lw_tbl[509]? = some (.code (mY 74) (mB 74) (mL 74) (mR 74)) := rfl
set_option maxRecDepth 100000 in
theorem mc_75 : lw_tbl[458]? = some (.code (mY 75) (mB 75) (mL 75) (mR 75)) := rfl
set_option maxRecDepth 100000 in
theorem mc_76 : lw_tbl[470]? = some (.code (mY 76) (mB 76) (mL 76) (mR 76)) := rfl
set_option maxRecDepth 100000 in
theorem mc_77 : lw_tbl[667]? = some (.code (mY 77) (mB 77) (mL 77) (mR 77)) := rfl
set_option maxRecDepth 100000 in
theorem mc_78 : lw_tbl[756]? = some (.code (mY 78) (mB 78) (mL 78) (mR 78)) := rfl
set_option maxRecDepth 100000 in
theorem mc_79 : lw_tbl[745]? = some (.code (mY 79) (mB 79) (mL 79) (mR 79)) := rfl
set_option maxRecDepth 100000 in
theorem mc_80 : lw_tbl[760]? = some (.code (mY 80) (mB 80) (mL 80) (mR 80)) := rfl
set_option maxRecDepth 100000 in
theorem mc_81 : lw_tbl[841]? = some (.code (mY 81) (mB 81) (mL 81) (mR 81)) := rfl
set_option maxRecDepth 100000 in
theorem mc_82 : lw_tbl[753]? = some (.code (mY 82) (mB 82) (mL 82) (mR 82)) := rfl
set_option maxRecDepth 100000 in
theorem mc_83 : lw_tbl[741]? = some (.code (mY 83) (mB 83) (mL 83) (mR 83)) := rfl
set_option maxRecDepth 100000 in
theorem mc_84 : lw_tbl[772]? = some (.code (mY 84) (mB 84) (mL 84) (mR 84)) := rfl
set_option maxRecDepth 100000 in
theorem mc_85 : lw_tbl[764]? = some (.code (mY 85) (mB 85) (mL 85) (mR 85)) := rfl
set_option maxRecDepth 100000 in
theorem mc_86 : lw_tbl[784]? = some (.code (mY 86) (mB 86) (mL 86) (mR 86)) := rfl
set_option maxRecDepth 100000 in
theorem mc_87 : lw_tbl[792]? = some (.code (mY 87) (mB 87) (mL 87) (mR 87)) := rfl
set_option maxRecDepth 100000 in
theorem mc_88 : lw_tbl[788]? = some (.code (mY 88) (mB 88) (mL 88) (mR 88)) := rfl
set_option maxRecDepth 100000 in
theorem mc_89 : lw_tbl[780]? = some (.code (mY 89) (mB 89) (mL 89) (mR 89)) := rfl
set_option maxRecDepth 100000 in
theorem mc_90 : lw_tbl[796]? = some (.code (mY 90) (mB 90) (mL 90) (mR 90)) := rfl
set_option maxRecDepth 100000 in
theorem mc_91 : lw_tbl[806]? = some (.code (mY 91) (mB 91) (mL 91) (mR 91)) := rfl
set_option maxRecDepth 100000 in
theorem mc_92 : lw_tbl[768]? = some (.code (mY 92) (mB 92) (mL 92) (mR 92)) := rfl
set_option maxRecDepth 100000 in
theorem mc_93 : lw_tbl[776]? = some (.code (mY 93) (mB 93) (mL 93) (mR 93)) := rfl
set_option maxRecDepth 100000 in
theorem mc_94 : lw_tbl[821]? = some (.code (mY 94) (mB 94) (mL 94) (mR 94)) := rfl
set_option maxRecDepth 100000 in
theorem mc_95 : lw_tbl[817]? = some (.code (mY 95) (mB 95) (mL 95) (mR 95)) := rfl
set_option maxRecDepth 100000 in
theorem mc_96 : lw_tbl[814]? = some (.code (mY 96) (mB 96) (mL 96) (mR 96)) := rfl
set_option maxRecDepth 100000 in
theorem mc_97 : lw_tbl[859]? = some (.code (mY 97) (mB 97) (mL 97) (mR 97)) := rfl
set_option maxRecDepth 100000 in
theorem mc_98 : lw_tbl[810]? = some (.code (mY 98) (mB 98) (mL 98) (mR 98)) := rfl
set_option maxRecDepth 100000 in
theorem mc_99 : lw_tbl[825]? = some (.code (mY 99) (mB 99) (mL 99) (mR 99)) := rfl
set_option maxRecDepth 100000 in
theorem mc_100 : lw_tbl[833]? = some (.code (mY 100) (mB 100) (mL 100) (mR 100)) := rfl
set_option maxRecDepth 100000 in
theorem mc_101 : lw_tbl[837]? = some (.code (mY 101) (mB 101) (mL 101) (mR 101)) := rfl
set_option maxRecDepth 100000 in
theorem mc_102 : lw_tbl[737]? = some (.code (mY 102) (mB 102) (mL 102) (mR 102)) := rfl
set_option maxRecDepth 100000 in
theorem mc_103 : lw_tbl[802]? = some (.code (mY 103) (mB 103) (mL 103) (mR 103)) := rfl
set_option maxRecDepth 100000 in
theorem mc_104 : lw_tbl[749]? = some (.code (mY 104) (mB 104) (mL 104) (mR 104)) := rfl
set_option maxRecDepth 100000 in
theorem mc_105 : lw_tbl[733]? = some (.code (mY 105) (mB 105) (mL 105) (mR 105)) := rfl
set_option maxRecDepth 100000 in
theorem mc_106 : lw_tbl[829]? = some (.code (mY 106) (mB 106) (mL 106) (mR 106)) := rfl
set_option maxRecDepth 100000 in
theorem mc_107 : lw_tbl[846]? = some (.code (mY 107) (mB 107) (mL 107) (mR 107)) := rfl
set_option maxRecDepth 100000 in
theorem mc_108 : lw_tbl[851]? = some (.code (mY 108) (mB 108) (mL 108) (mR 108)) := rfl
set_option maxRecDepth 100000 in
theorem mc_109 : lw_tbl[855]? = some (.code (mY 109) (mB 109) (mL 109) (mR 109)) := rfl
set_option maxRecDepth 100000 in
theorem mc_110 : lw_tbl[863]? = some (.code (mY 110) (mB 110) (mL 110) (mR 110)) := rfl
set_option maxRecDepth 100000 in
theorem mc_111 : lw_tbl[867]? = some (.code (mY 111) (mB 111) (mL 111) (mR 111)) := rfl
set_option maxRecDepth 100000 in
theorem mc_112 : lw_tbl[871]? = some (.code (mY 112) (mB 112) (mL 112) (mR 112)) := rfl
set_option maxRecDepth 100000 in
theorem mc_113 : lw_tbl[875]? = some (.code (mY 113) (mB 113) (mL 113) (mR 113)) := rfl
set_option maxRecDepth 100000 in
theorem mc_114 : lw_tbl[883]? = some (.code (mY 114) (mB 114) (mL 114) (mR 114)) := rfl
set_option maxRecDepth 100000 in
theorem mc_115 : lw_tbl[879]? = some (.code (mY 115) (mB 115) (mL 115) (mR 115)) := rfl
set_option maxRecDepth 100000 in
theorem mc_116 : lw_tbl[893]? = some (.code (mY 116) (mB 116) (mL 116) (mR 116)) := rfl
set_option maxRecDepth 100000 in
theorem mc_117 : lw_tbl[901]? = some (.code (mY 117) (mB 117) (mL 117) (mR 117)) := rfl
set_option maxRecDepth 100000 in
theorem mc_118 : lw_tbl[897]? = some (.code (mY 118) (mB 118) (mL 118) (mR 118)) := rfl
set_option maxRecDepth 100000 in
theorem mc_119 : lw_tbl[888]? = some (.code (mY 119) (mB 119) (mL 119) (mR 119)) := rfl
set_option maxRecDepth 100000 in
theorem mc_120 : lw_tbl[905]? = some (.code (mY 120) (mB 120) (mL 120) (mR 120)) := rfl
set_option maxRecDepth 100000 in
theorem mc_121 : lw_tbl[909]? = some (.code (mY 121) (mB 121) (mL 121) (mR 121)) := rfl
set_option maxRecDepth 100000 in
theorem mc_122 : lw_tbl[913]? = some (.code (mY 122) (mB 122) (mL 122) (mR 122)) := rfl
set_option maxRecDepth 100000 in
theorem mc_123 : lw_tbl[917]? = some (.code (mY 123) (mB 123) (mL 123) (mR 123)) := rfl
set_option maxRecDepth 100000 in
theorem mc_124 : lw_tbl[921]? = some (.code (mY 124) (mB 124) (mL 124) (mR 124)) := rfl
set_option maxRecDepth 100000 in
theorem mc_125 : lw_tbl[925]? = some (.code (mY 125) (mB 125) (mL 125) (mR 125)) := rfl
set_option maxRecDepth 100000 in
theorem mc_126 : lw_tbl[929]? = some (.code (mY 126) (mB 126) (mL 126) (mR 126)) := rfl
set_option maxRecDepth 100000 in
theorem mc_127 : lw_tbl[933]? = some (.code (mY 127) (mB 127) (mL 127) (mR 127)) := rfl
set_option maxRecDepth 100000 in
theorem mc_128 : lw_tbl[941]? = some (.code (mY 128) (mB 128) (mL 128) (mR 128)) := rfl
set_option maxRecDepth 100000 in
theorem mc_129 : lw_tbl[937]? = some (.code (mY 129) (mB 129) (mL 129) (mR 129)) := rfl
set_option maxRecDepth 100000 in
theorem mc_130 : lw_tbl[949]? = some (.code (mY 130) (mB 130) (mL 130) (mR 130)) := rfl
set_option maxRecDepth 100000 in
theorem mc_131 : lw_tbl[953]? = some (.code (mY 131) (mB 131) (mL 131) (mR 131)) := rfl
set_option maxRecDepth 100000 in
theorem mc_132 : lw_tbl[957]? = some (.code (mY 132) (mB 132) (mL 132) (mR 132)) := rfl
set_option maxRecDepth 100000 in
theorem mc_133 : lw_tbl[961]? = some (.code (mY 133) (mB 133) (mL 133) (mR 133)) := rfl
set_option maxRecDepth 100000 in
theorem mc_134 : lw_tbl[965]? = some (.code (mY 134) (mB 134) (mL 134) (mR 134)) := rfl
set_option maxRecDepth 100000 in
theorem mc_135 : lw_tbl[969]? = some (.code (mY 135) (mB 135) (mL 135) (mR 135)) := rfl
set_option maxRecDepth 100000 in
theorem mc_136 : lw_tbl[599]? = some (.code (mY 136) (mB 136) (mL 136) (mR 136)) := rfl
set_option maxRecDepth 100000 in
theorem mc_137 : lw_tbl[466]? = some (.code (mY 137) (mB 137) (mL 137) (mR 137)) := rfl
set_option maxRecDepth 100000 in
theorem mc_138 : lw_tbl[415]? = some (.code (mY 138) (mB 138) (mL 138) (mR 138)) := rfl
set_option maxRecDepth 100000 in
theorem mc_139 : lw_tbl[405]? = some (.code (mY 139) (mB 139) (mL 139) (mR 139)) := rfl
theorem mc_pl (q : Nat) (hq : q < 140) : lw_tbl[(mP q).1]? = some (.code (mY q) (mB q) (mL q) (mR q)) := by
  match q, hq with
  | 0, _ => exact mc_0
  | 1, _ => exact mc_1
  | 2, _ => exact mc_2
  | 3, _ => exact mc_3
  | 4, _ => exact mc_4
  | 5, _ => exact mc_5
  | 6, _ => exact mc_6
  | 7, _ => exact mc_7
  | 8, _ => exact mc_8
  | 9, _ => exact mc_9
  | 10, _ => exact mc_10
  | 11, _ => exact mc_11
  | 12, _ => exact mc_12
  | 13, _ => exact mc_13
  | 14, _ => exact mc_14
  | 15, _ => exact mc_15
  | 16, _ => exact mc_16
  | 17, _ => exact mc_17
  | 18, _ => exact mc_18
  | 19, _ => exact mc_19
  | 20, _ => exact mc_20
  | 21, _ => exact mc_21
  | 22, _ => exact mc_22
  | 23, _ => exact mc_23
  | 24, _ => exact mc_24
  | 25, _ => exact mc_25
  | 26, _ => exact mc_26
  | 27, _ => exact mc_27
  | 28, _ => exact mc_28
  | 29, _ => exact mc_29
  | 30, _ => exact mc_30
  | 31, _ => exact mc_31
  | 32, _ => exact mc_32
  | 33, _ => exact mc_33
  | 34, _ => exact mc_34
  | 35, _ => exact mc_35
  | 36, _ => exact mc_36
  | 37, _ => exact mc_37
  | 38, _ => exact mc_38
  | 39, _ => exact mc_39
  | 40, _ => exact mc_40
  | 41, _ => exact mc_41
  | 42, _ => exact mc_42
  | 43, _ => exact mc_43
  | 44, _ => exact mc_44
  | 45, _ => exact mc_45
  | 46, _ => exact mc_46
  | 47, _ => exact mc_47
  | 48, _ => exact mc_48
  | 49, _ => exact mc_49
  | 50, _ => exact mc_50
  | 51, _ => exact mc_51
  | 52, _ => exact mc_52
  | 53, _ => exact mc_53
  | 54, _ => exact mc_54
  | 55, _ => exact mc_55
  | 56, _ => exact mc_56
  | 57, _ => exact mc_57
  | 58, _ => exact mc_58
  | 59, _ => exact mc_59
  | 60, _ => exact mc_60
  | 61, _ => exact mc_61
  | 62, _ => exact mc_62
  | 63, _ => exact mc_63
  | 64, _ => exact mc_64
  | 65, _ => exact mc_65
  | 66, _ => exact mc_66
  | 67, _ => exact mc_67
  | 68, _ => exact mc_68
  | 69, _ => exact mc_69
  | 70, _ => exact mc_70
  | 71, _ => exact mc_71
  | 72, _ => exact mc_72
  | 73, _ => exact mc_73
  | 74, _ => exact mc_74
  | 75, _ => exact mc_75
  | 76, _ => exact mc_76
  | 77, _ => exact mc_77
  | 78, _ => exact mc_78
  | 79, _ => exact mc_79
  | 80, _ => exact mc_80
  | 81, _ => exact mc_81
  | 82, _ => exact mc_82
  | 83, _ => exact mc_83
  | 84, _ => exact mc_84
  | 85, _ => exact mc_85
  | 86, _ => exact mc_86
  | 87, _ => exact mc_87
  | 88, _ => exact mc_88
  | 89, _ => exact mc_89
  | 90, _ => exact mc_90
  | 91, _ => exact mc_91
  | 92, _ => exact mc_92
  | 93, _ => exact mc_93
  | 94, _ => exact mc_94
  | 95, _ => exact mc_95
  | 96, _ => exact mc_96
  | 97, _ => exact mc_97
  | 98, _ => exact mc_98
  | 99, _ => exact mc_99
  | 100, _ => exact mc_100
  | 101, _ => exact mc_101
  | 102, _ => exact mc_102
  | 103, _ => exact mc_103
  | 104, _ => exact mc_104
  | 105, _ => exact mc_105
  | 106, _ => exact mc_106
  | 107, _ => exact mc_107
  | 108, _ => exact mc_108
  | 109, _ => exact mc_109
  | 110, _ => exact mc_110
  | 111, _ => exact mc_111
  | 112, _ => exact mc_112
  | 113, _ => exact mc_113
  | 114, _ => exact mc_114
  | 115, _ => exact mc_115
  | 116, _ => exact mc_116
  | 117, _ => exact mc_117
  | 118, _ => exact mc_118
  | 119, _ => exact mc_119
  | 120, _ => exact mc_120
  | 121, _ => exact mc_121
  | 122, _ => exact mc_122
  | 123, _ => exact mc_123
  | 124, _ => exact mc_124
  | 125, _ => exact mc_125
  | 126, _ => exact mc_126
  | 127, _ => exact mc_127
  | 128, _ => exact mc_128
  | 129, _ => exact mc_129
  | 130, _ => exact mc_130
  | 131, _ => exact mc_131
  | 132, _ => exact mc_132
  | 133, _ => exact mc_133
  | 134, _ => exact mc_134
  | 135, _ => exact mc_135
  | 136, _ => exact mc_136
  | 137, _ => exact mc_137
  | 138, _ => exact mc_138
  | 139, _ => exact mc_139
  | n + 140, h => exact absurd h (by omega)
