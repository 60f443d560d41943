theorem gc_good (a : MethodName) (b : ByteArray) (c : Nat) (d : Option FieldType) : goodWord (Cond.code a b c d) = true := rfl
set_option maxRecDepth 100000 in
theorem gc_0 : lw_tbl[253]? = some (Cond.code (mN 0) (mC 0) (mL 0) (mR 0)) := rfl
set_option maxRecDepth 100000 in
theorem gc_1 : lw_tbl[565]? = some (Cond.code (mN 1) (mC 1) (mL 1) (mR 1)) := rfl
set_option maxRecDepth 100000 in
theorem gc_2 : lw_tbl[568]? = some (Cond.code (mN 2) (mC 2) (mL 2) (mR 2)) := rfl
set_option maxRecDepth 100000 in
theorem gc_3 : lw_tbl[646]? = some (Cond.code (mN 3) (mC 3) (mL 3) (mR 3)) := rfl
set_option maxRecDepth 100000 in
theorem gc_4 : lw_tbl[700]? = some (Cond.code (mN 4) (mC 4) (mL 4) (mR 4)) := rfl
set_option maxRecDepth 100000 in
theorem gc_5 : lw_tbl[249]? = some (Cond.code (mN 5) (mC 5) (mL 5) (mR 5)) := rfl
set_option maxRecDepth 100000 in
theorem gc_6 : lw_tbl[687]? = some (Cond.code (mN 6) (mC 6) (mL 6) (mR 6)) := rfl
set_option maxRecDepth 100000 in
theorem gc_7 : lw_tbl[697]? = some (Cond.code (mN 7) (mC 7) (mL 7) (mR 7)) := rfl
set_option maxRecDepth 100000 in
theorem gc_8 : lw_tbl[704]? = some (Cond.code (mN 8) (mC 8) (mL 8) (mR 8)) := rfl
set_option maxRecDepth 100000 in
theorem gc_9 : lw_tbl[708]? = some (Cond.code (mN 9) (mC 9) (mL 9) (mR 9)) := rfl
set_option maxRecDepth 100000 in
theorem gc_10 : lw_tbl[712]? = some (Cond.code (mN 10) (mC 10) (mL 10) (mR 10)) := rfl
set_option maxRecDepth 100000 in
theorem gc_11 : lw_tbl[716]? = some (Cond.code (mN 11) (mC 11) (mL 11) (mR 11)) := rfl
set_option maxRecDepth 100000 in
theorem gc_12 : lw_tbl[721]? = some (Cond.code (mN 12) (mC 12) (mL 12) (mR 12)) := rfl
set_option maxRecDepth 100000 in
theorem gc_13 : lw_tbl[725]? = some (Cond.code (mN 13) (mC 13) (mL 13) (mR 13)) := rfl
set_option maxRecDepth 100000 in
theorem gc_14 : lw_tbl[729]? = some (Cond.code (mN 14) (mC 14) (mL 14) (mR 14)) := rfl
set_option maxRecDepth 100000 in
theorem gc_15 : lw_tbl[733]? = some (Cond.code (mN 15) (mC 15) (mL 15) (mR 15)) := rfl
set_option maxRecDepth 100000 in
theorem gc_16 : lw_tbl[737]? = some (Cond.code (mN 16) (mC 16) (mL 16) (mR 16)) := rfl
set_option maxRecDepth 100000 in
theorem gc_17 : lw_tbl[741]? = some (Cond.code (mN 17) (mC 17) (mL 17) (mR 17)) := rfl
set_option maxRecDepth 100000 in
theorem gc_18 : lw_tbl[745]? = some (Cond.code (mN 18) (mC 18) (mL 18) (mR 18)) := rfl
set_option maxRecDepth 100000 in
theorem gc_19 : lw_tbl[749]? = some (Cond.code (mN 19) (mC 19) (mL 19) (mR 19)) := rfl
set_option maxRecDepth 100000 in
theorem gc_20 : lw_tbl[754]? = some (Cond.code (mN 20) (mC 20) (mL 20) (mR 20)) := rfl
set_option maxRecDepth 100000 in
theorem gc_21 : lw_tbl[758]? = some (Cond.code (mN 21) (mC 21) (mL 21) (mR 21)) := rfl
set_option maxRecDepth 100000 in
theorem gc_22 : lw_tbl[762]? = some (Cond.code (mN 22) (mC 22) (mL 22) (mR 22)) := rfl
set_option maxRecDepth 100000 in
theorem gc_23 : lw_tbl[773]? = some (Cond.code (mN 23) (mC 23) (mL 23) (mR 23)) := rfl
set_option maxRecDepth 100000 in
theorem gc_24 : lw_tbl[781]? = some (Cond.code (mN 24) (mC 24) (mL 24) (mR 24)) := rfl
set_option maxRecDepth 100000 in
theorem gc_25 : lw_tbl[789]? = some (Cond.code (mN 25) (mC 25) (mL 25) (mR 25)) := rfl
set_option maxRecDepth 100000 in
theorem gc_26 : lw_tbl[855]? = some (Cond.code (mN 26) (mC 26) (mL 26) (mR 26)) := rfl
set_option maxRecDepth 100000 in
theorem gc_27 : lw_tbl[911]? = some (Cond.code (mN 27) (mC 27) (mL 27) (mR 27)) := rfl
set_option maxRecDepth 100000 in
theorem gc_28 : lw_tbl[298]? = some (Cond.code (mN 28) (mC 28) (mL 28) (mR 28)) := rfl
set_option maxRecDepth 100000 in
theorem gc_29 : lw_tbl[813]? = some (Cond.code (mN 29) (mC 29) (mL 29) (mR 29)) := rfl
set_option maxRecDepth 100000 in
theorem gc_30 : lw_tbl[817]? = some (Cond.code (mN 30) (mC 30) (mL 30) (mR 30)) := rfl
set_option maxRecDepth 100000 in
theorem gc_31 : lw_tbl[822]? = some (Cond.code (mN 31) (mC 31) (mL 31) (mR 31)) := rfl
set_option maxRecDepth 100000 in
theorem gc_32 : lw_tbl[828]? = some (Cond.code (mN 32) (mC 32) (mL 32) (mR 32)) := rfl
set_option maxRecDepth 100000 in
theorem gc_33 : lw_tbl[845]? = some (Cond.code (mN 33) (mC 33) (mL 33) (mR 33)) := rfl
set_option maxRecDepth 100000 in
theorem gc_34 : lw_tbl[333]? = some (Cond.code (mN 34) (mC 34) (mL 34) (mR 34)) := rfl
set_option maxRecDepth 100000 in
theorem gc_35 : lw_tbl[880]? = some (Cond.code (mN 35) (mC 35) (mL 35) (mR 35)) := rfl
set_option maxRecDepth 100000 in
theorem gc_36 : lw_tbl[884]? = some (Cond.code (mN 36) (mC 36) (mL 36) (mR 36)) := rfl
set_option maxRecDepth 100000 in
theorem gc_37 : lw_tbl[888]? = some (Cond.code (mN 37) (mC 37) (mL 37) (mR 37)) := rfl
set_option maxRecDepth 100000 in
theorem gc_38 : lw_tbl[896]? = some (Cond.code (mN 38) (mC 38) (mL 38) (mR 38)) := rfl
set_option maxRecDepth 100000 in
theorem gc_39 : lw_tbl[902]? = some (Cond.code (mN 39) (mC 39) (mL 39) (mR 39)) := rfl
set_option maxRecDepth 100000 in
theorem gc_40 : lw_tbl[906]? = some (Cond.code (mN 40) (mC 40) (mL 40) (mR 40)) := rfl
set_option maxRecDepth 100000 in
theorem gc_41 : lw_tbl[917]? = some (Cond.code (mN 41) (mC 41) (mL 41) (mR 41)) := rfl
set_option maxRecDepth 100000 in
theorem gc_42 : lw_tbl[921]? = some (Cond.code (mN 42) (mC 42) (mL 42) (mR 42)) := rfl
set_option maxRecDepth 100000 in
theorem gc_43 : lw_tbl[926]? = some (Cond.code (mN 43) (mC 43) (mL 43) (mR 43)) := rfl
set_option maxRecDepth 100000 in
theorem gc_44 : lw_tbl[930]? = some (Cond.code (mN 44) (mC 44) (mL 44) (mR 44)) := rfl
set_option maxRecDepth 100000 in
theorem gc_45 : lw_tbl[934]? = some (Cond.code (mN 45) (mC 45) (mL 45) (mR 45)) := rfl
set_option maxRecDepth 100000 in
theorem gc_46 : lw_tbl[942]? = some (Cond.code (mN 46) (mC 46) (mL 46) (mR 46)) := rfl
set_option maxRecDepth 100000 in
theorem gc_47 : lw_tbl[242]? = some (Cond.code (mN 47) (mC 47) (mL 47) (mR 47)) := rfl
set_option maxRecDepth 100000 in
theorem gc_48 : lw_tbl[679]? = some (Cond.code (mN 48) (mC 48) (mL 48) (mR 48)) := rfl
set_option maxRecDepth 100000 in
theorem gc_49 : lw_tbl[683]? = some (Cond.code (mN 49) (mC 49) (mL 49) (mR 49)) := rfl
set_option maxRecDepth 100000 in
theorem gc_50 : lw_tbl[693]? = some (Cond.code (mN 50) (mC 50) (mL 50) (mR 50)) := rfl
set_option maxRecDepth 100000 in
theorem gc_51 : lw_tbl[769]? = some (Cond.code (mN 51) (mC 51) (mL 51) (mR 51)) := rfl
set_option maxRecDepth 100000 in
theorem gc_52 : lw_tbl[777]? = some (Cond.code (mN 52) (mC 52) (mL 52) (mR 52)) := rfl
set_option maxRecDepth 100000 in
theorem gc_53 : lw_tbl[850]? = some (Cond.code (mN 53) (mC 53) (mL 53) (mR 53)) := rfl
set_option maxRecDepth 100000 in
theorem gc_54 : lw_tbl[391]? = some (Cond.code (mN 54) (mC 54) (mL 54) (mR 54)) := rfl
set_option maxRecDepth 100000 in
theorem gc_55 : lw_tbl[451]? = some (Cond.code (mN 55) (mC 55) (mL 55) (mR 55)) := rfl
set_option maxRecDepth 100000 in
theorem gc_56 : lw_tbl[785]? = some (Cond.code (mN 56) (mC 56) (mL 56) (mR 56)) := rfl
set_option maxRecDepth 100000 in
theorem gc_57 : lw_tbl[796]? = some (Cond.code (mN 57) (mC 57) (mL 57) (mR 57)) := rfl
set_option maxRecDepth 100000 in
theorem gc_58 : lw_tbl[800]? = some (Cond.code (mN 58) (mC 58) (mL 58) (mR 58)) := rfl
set_option maxRecDepth 100000 in
theorem gc_59 : lw_tbl[804]? = some (Cond.code (mN 59) (mC 59) (mL 59) (mR 59)) := rfl
set_option maxRecDepth 100000 in
theorem gc_60 : lw_tbl[133]? = some (Cond.code (mN 60) (mC 60) (mL 60) (mR 60)) := rfl
set_option maxRecDepth 100000 in
theorem gc_61 : lw_tbl[514]? = some (Cond.code (mN 61) (mC 61) (mL 61) (mR 61)) := rfl
set_option maxRecDepth 100000 in
theorem gc_62 : lw_tbl[550]? = some (Cond.code (mN 62) (mC 62) (mL 62) (mR 62)) := rfl
set_option maxRecDepth 100000 in
theorem gc_63 : lw_tbl[222]? = some (Cond.code (mN 63) (mC 63) (mL 63) (mR 63)) := rfl
set_option maxRecDepth 100000 in
theorem gc_64 : lw_tbl[655]? = some (Cond.code (mN 64) (mC 64) (mL 64) (mR 64)) := rfl
set_option maxRecDepth 100000 in
theorem gc_65 : lw_tbl[667]? = some (Cond.code (mN 65) (mC 65) (mL 65) (mR 65)) := rfl
set_option maxRecDepth 100000 in
theorem gc_66 : lw_tbl[126]? = some (Cond.code (mN 66) (mC 66) (mL 66) (mR 66)) := rfl
set_option maxRecDepth 100000 in
theorem gc_67 : lw_tbl[466]? = some (Cond.code (mN 67) (mC 67) (mL 67) (mR 67)) := rfl
set_option maxRecDepth 100000 in
theorem gc_68 : lw_tbl[470]? = some (Cond.code (mN 68) (mC 68) (mL 68) (mR 68)) := rfl
set_option maxRecDepth 100000 in
theorem gc_69 : lw_tbl[482]? = some (Cond.code (mN 69) (mC 69) (mL 69) (mR 69)) := rfl
set_option maxRecDepth 100000 in
theorem gc_70 : lw_tbl[486]? = some (Cond.code (mN 70) (mC 70) (mL 70) (mR 70)) := rfl
set_option maxRecDepth 100000 in
theorem gc_71 : lw_tbl[490]? = some (Cond.code (mN 71) (mC 71) (mL 71) (mR 71)) := rfl
set_option maxRecDepth 100000 in
theorem gc_72 : lw_tbl[494]? = some (Cond.code (mN 72) (mC 72) (mL 72) (mR 72)) := rfl
set_option maxRecDepth 100000 in
theorem gc_73 : lw_tbl[498]? = some (Cond.code (mN 73) (mC 73) (mL 73) (mR 73)) := rfl
set_option maxRecDepth 100000 in
theorem gc_74 : lw_tbl[502]? = some (Cond.code (mN 74) (mC 74) (mL 74) (mR 74)) := rfl
set_option maxRecDepth 100000 in
theorem gc_75 : lw_tbl[510]? = some (Cond.code (mN 75) (mC 75) (mL 75) (mR 75)) := rfl
set_option maxRecDepth 100000 in
theorem gc_76 : lw_tbl[526]? = some (Cond.code (mN 76) (mC 76) (mL 76) (mR 76)) := rfl
set_option maxRecDepth 100000 in
theorem gc_77 : lw_tbl[562]? = some (Cond.code (mN 77) (mC 77) (mL 77) (mR 77)) := rfl
set_option maxRecDepth 100000 in
theorem gc_78 : lw_tbl[572]? = some (Cond.code (mN 78) (mC 78) (mL 78) (mR 78)) := rfl
set_option maxRecDepth 100000 in
theorem gc_79 : lw_tbl[576]? = some (Cond.code (mN 79) (mC 79) (mL 79) (mR 79)) := rfl
set_option maxRecDepth 100000 in
theorem gc_80 : lw_tbl[586]? = some (Cond.code (mN 80) (mC 80) (mL 80) (mR 80)) := rfl
set_option maxRecDepth 100000 in
theorem gc_81 : lw_tbl[590]? = some (Cond.code (mN 81) (mC 81) (mL 81) (mR 81)) := rfl
set_option maxRecDepth 100000 in
theorem gc_82 : lw_tbl[594]? = some (Cond.code (mN 82) (mC 82) (mL 82) (mR 82)) := rfl
set_option maxRecDepth 100000 in
theorem gc_83 : lw_tbl[597]? = some (Cond.code (mN 83) (mC 83) (mL 83) (mR 83)) := rfl
set_option maxRecDepth 100000 in
theorem gc_84 : lw_tbl[601]? = some (Cond.code (mN 84) (mC 84) (mL 84) (mR 84)) := rfl
set_option maxRecDepth 100000 in
theorem gc_85 : lw_tbl[614]? = some (Cond.code (mN 85) (mC 85) (mL 85) (mR 85)) := rfl
set_option maxRecDepth 100000 in
theorem gc_86 : lw_tbl[618]? = some (Cond.code (mN 86) (mC 86) (mL 86) (mR 86)) := rfl
set_option maxRecDepth 100000 in
theorem gc_87 : lw_tbl[622]? = some (Cond.code (mN 87) (mC 87) (mL 87) (mR 87)) := rfl
set_option maxRecDepth 100000 in
theorem gc_88 : lw_tbl[627]? = some (Cond.code (mN 88) (mC 88) (mL 88) (mR 88)) := rfl
set_option maxRecDepth 100000 in
theorem gc_89 : lw_tbl[631]? = some (Cond.code (mN 89) (mC 89) (mL 89) (mR 89)) := rfl
set_option maxRecDepth 100000 in
theorem gc_90 : lw_tbl[635]? = some (Cond.code (mN 90) (mC 90) (mL 90) (mR 90)) := rfl
set_option maxRecDepth 100000 in
theorem gc_91 : lw_tbl[643]? = some (Cond.code (mN 91) (mC 91) (mL 91) (mR 91)) := rfl
set_option maxRecDepth 100000 in
theorem gc_92 : lw_tbl[118]? = some (Cond.code (mN 92) (mC 92) (mL 92) (mR 92)) := rfl
set_option maxRecDepth 100000 in
theorem gc_93 : lw_tbl[443]? = some (Cond.code (mN 93) (mC 93) (mL 93) (mR 93)) := rfl
set_option maxRecDepth 100000 in
theorem gc_94 : lw_tbl[447]? = some (Cond.code (mN 94) (mC 94) (mL 94) (mR 94)) := rfl
set_option maxRecDepth 100000 in
theorem gc_95 : lw_tbl[455]? = some (Cond.code (mN 95) (mC 95) (mL 95) (mR 95)) := rfl
set_option maxRecDepth 100000 in
theorem gc_96 : lw_tbl[459]? = some (Cond.code (mN 96) (mC 96) (mL 96) (mR 96)) := rfl
set_option maxRecDepth 100000 in
theorem gc_97 : lw_tbl[462]? = some (Cond.code (mN 97) (mC 97) (mL 97) (mR 97)) := rfl
set_option maxRecDepth 100000 in
theorem gc_98 : lw_tbl[474]? = some (Cond.code (mN 98) (mC 98) (mL 98) (mR 98)) := rfl
set_option maxRecDepth 100000 in
theorem gc_99 : lw_tbl[478]? = some (Cond.code (mN 99) (mC 99) (mL 99) (mR 99)) := rfl
set_option maxRecDepth 100000 in
theorem gc_100 : lw_tbl[506]? = some (Cond.code (mN 100) (mC 100) (mL 100) (mR 100)) := rfl
set_option maxRecDepth 100000 in
theorem gc_101 : lw_tbl[518]? = some (Cond.code (mN 101) (mC 101) (mL 101) (mR 101)) := rfl
set_option maxRecDepth 100000 in
theorem gc_102 : lw_tbl[522]? = some (Cond.code (mN 102) (mC 102) (mL 102) (mR 102)) := rfl
set_option maxRecDepth 100000 in
theorem gc_103 : lw_tbl[530]? = some (Cond.code (mN 103) (mC 103) (mL 103) (mR 103)) := rfl
set_option maxRecDepth 100000 in
theorem gc_104 : lw_tbl[534]? = some (Cond.code (mN 104) (mC 104) (mL 104) (mR 104)) := rfl
set_option maxRecDepth 100000 in
theorem gc_105 : lw_tbl[538]? = some (Cond.code (mN 105) (mC 105) (mL 105) (mR 105)) := rfl
set_option maxRecDepth 100000 in
theorem gc_106 : lw_tbl[542]? = some (Cond.code (mN 106) (mC 106) (mL 106) (mR 106)) := rfl
set_option maxRecDepth 100000 in
theorem gc_107 : lw_tbl[546]? = some (Cond.code (mN 107) (mC 107) (mL 107) (mR 107)) := rfl
set_option maxRecDepth 100000 in
theorem gc_108 : lw_tbl[554]? = some (Cond.code (mN 108) (mC 108) (mL 108) (mR 108)) := rfl
set_option maxRecDepth 100000 in
theorem gc_109 : lw_tbl[558]? = some (Cond.code (mN 109) (mC 109) (mL 109) (mR 109)) := rfl
set_option maxRecDepth 100000 in
theorem gc_110 : lw_tbl[582]? = some (Cond.code (mN 110) (mC 110) (mL 110) (mR 110)) := rfl
set_option maxRecDepth 100000 in
theorem gc_111 : lw_tbl[606]? = some (Cond.code (mN 111) (mC 111) (mL 111) (mR 111)) := rfl
set_option maxRecDepth 100000 in
theorem gc_112 : lw_tbl[610]? = some (Cond.code (mN 112) (mC 112) (mL 112) (mR 112)) := rfl
set_option maxRecDepth 100000 in
theorem gc_113 : lw_tbl[639]? = some (Cond.code (mN 113) (mC 113) (mL 113) (mR 113)) := rfl
set_option maxRecDepth 100000 in
theorem gc_114 : lw_tbl[651]? = some (Cond.code (mN 114) (mC 114) (mL 114) (mR 114)) := rfl
set_option maxRecDepth 100000 in
theorem gc_115 : lw_tbl[659]? = some (Cond.code (mN 115) (mC 115) (mL 115) (mR 115)) := rfl
set_option maxRecDepth 100000 in
theorem gc_116 : lw_tbl[663]? = some (Cond.code (mN 116) (mC 116) (mL 116) (mR 116)) := rfl
set_option maxRecDepth 100000 in
theorem gc_117 : lw_tbl[671]? = some (Cond.code (mN 117) (mC 117) (mL 117) (mR 117)) := rfl
set_option maxRecDepth 100000 in
theorem gc_118 : lw_tbl[675]? = some (Cond.code (mN 118) (mC 118) (mL 118) (mR 118)) := rfl
set_option maxRecDepth 100000 in
theorem gc_119 : lw_tbl[809]? = some (Cond.code (mN 119) (mC 119) (mL 119) (mR 119)) := rfl
set_option maxRecDepth 100000 in
theorem gc_120 : lw_tbl[833]? = some (Cond.code (mN 120) (mC 120) (mL 120) (mR 120)) := rfl
set_option maxRecDepth 100000 in
theorem gc_121 : lw_tbl[837]? = some (Cond.code (mN 121) (mC 121) (mL 121) (mR 121)) := rfl
set_option maxRecDepth 100000 in
theorem gc_122 : lw_tbl[841]? = some (Cond.code (mN 122) (mC 122) (mL 122) (mR 122)) := rfl
set_option maxRecDepth 100000 in
theorem gc_123 : lw_tbl[859]? = some (Cond.code (mN 123) (mC 123) (mL 123) (mR 123)) := rfl
set_option maxRecDepth 100000 in
theorem gc_124 : lw_tbl[864]? = some (Cond.code (mN 124) (mC 124) (mL 124) (mR 124)) := rfl
set_option maxRecDepth 100000 in
theorem gc_125 : lw_tbl[868]? = some (Cond.code (mN 125) (mC 125) (mL 125) (mR 125)) := rfl
set_option maxRecDepth 100000 in
theorem gc_126 : lw_tbl[872]? = some (Cond.code (mN 126) (mC 126) (mL 126) (mR 126)) := rfl
set_option maxRecDepth 100000 in
theorem gc_127 : lw_tbl[876]? = some (Cond.code (mN 127) (mC 127) (mL 127) (mR 127)) := rfl
set_option maxRecDepth 100000 in
theorem gc_128 : lw_tbl[938]? = some (Cond.code (mN 128) (mC 128) (mL 128) (mR 128)) := rfl
set_option maxRecDepth 100000 in
theorem gc_129 : lw_tbl[947]? = some (Cond.code (mN 129) (mC 129) (mL 129) (mR 129)) := rfl
set_option maxRecDepth 100000 in
theorem gc_130 : lw_tbl[1071]? = some (Cond.code (mN 130) (mC 130) (mL 130) (mR 130)) := rfl
set_option maxRecDepth 100000 in
theorem gc_131 : lw_tbl[1075]? = some (Cond.code (mN 131) (mC 131) (mL 131) (mR 131)) := rfl
set_option maxRecDepth 100000 in
theorem gc_132 : lw_tbl[1079]? = some (Cond.code (mN 132) (mC 132) (mL 132) (mR 132)) := rfl
set_option maxRecDepth 100000 in
theorem gc_133 : lw_tbl[1083]? = some (Cond.code (mN 133) (mC 133) (mL 133) (mR 133)) := rfl
set_option maxRecDepth 100000 in
theorem gc_134 : lw_tbl[1087]? = some (Cond.code (mN 134) (mC 134) (mL 134) (mR 134)) := rfl
set_option maxRecDepth 100000 in
theorem gc_135 : lw_tbl[1091]? = some (Cond.code (mN 135) (mC 135) (mL 135) (mR 135)) := rfl
set_option maxRecDepth 100000 in
theorem gc_136 : lw_tbl[1095]? = some (Cond.code (mN 136) (mC 136) (mL 136) (mR 136)) := rfl
set_option maxRecDepth 100000 in
theorem gc_137 : lw_tbl[1099]? = some (Cond.code (mN 137) (mC 137) (mL 137) (mR 137)) := rfl
set_option maxRecDepth 100000 in
theorem gc_138 : lw_tbl[1102]? = some (Cond.code (mN 138) (mC 138) (mL 138) (mR 138)) := rfl
set_option maxRecDepth 100000 in
theorem gc_139 : lw_tbl[1106]? = some (Cond.code (mN 139) (mC 139) (mL 139) (mR 139)) := rfl
set_option maxRecDepth 100000 in
theorem gc_140 : lw_tbl[1110]? = some (Cond.code (mN 140) (mC 140) (mL 140) (mR 140)) := rfl
set_option maxRecDepth 100000 in
theorem gc_141 : lw_tbl[1114]? = some (Cond.code (mN 141) (mC 141) (mL 141) (mR 141)) := rfl
set_option maxRecDepth 100000 in
theorem gc_142 : lw_tbl[1118]? = some (Cond.code (mN 142) (mC 142) (mL 142) (mR 142)) := rfl
set_option maxRecDepth 100000 in
theorem gc_143 : lw_tbl[1122]? = some (Cond.code (mN 143) (mC 143) (mL 143) (mR 143)) := rfl
set_option maxRecDepth 100000 in
theorem gc_144 : lw_tbl[1126]? = some (Cond.code (mN 144) (mC 144) (mL 144) (mR 144)) := rfl
set_option maxRecDepth 100000 in
theorem gc_145 : lw_tbl[1130]? = some (Cond.code (mN 145) (mC 145) (mL 145) (mR 145)) := rfl
set_option maxRecDepth 100000 in
theorem gc_146 : lw_tbl[1134]? = some (Cond.code (mN 146) (mC 146) (mL 146) (mR 146)) := rfl
set_option maxRecDepth 100000 in
theorem gc_147 : lw_tbl[1139]? = some (Cond.code (mN 147) (mC 147) (mL 147) (mR 147)) := rfl
set_option maxRecDepth 100000 in
theorem gc_148 : lw_tbl[1143]? = some (Cond.code (mN 148) (mC 148) (mL 148) (mR 148)) := rfl
set_option maxRecDepth 100000 in
theorem gc_149 : lw_tbl[1146]? = some (Cond.code (mN 149) (mC 149) (mL 149) (mR 149)) := rfl
set_option maxRecDepth 100000 in
theorem gc_150 : lw_tbl[1152]? = some (Cond.code (mN 150) (mC 150) (mL 150) (mR 150)) := rfl
set_option maxRecDepth 100000 in
theorem gc_151 : lw_tbl[1156]? = some (Cond.code (mN 151) (mC 151) (mL 151) (mR 151)) := rfl
set_option maxRecDepth 100000 in
theorem gc_152 : lw_tbl[1160]? = some (Cond.code (mN 152) (mC 152) (mL 152) (mR 152)) := rfl
set_option maxRecDepth 100000 in
theorem gc_153 : lw_tbl[1166]? = some (Cond.code (mN 153) (mC 153) (mL 153) (mR 153)) := rfl
set_option maxRecDepth 100000 in
theorem gc_154 : lw_tbl[1172]? = some (Cond.code (mN 154) (mC 154) (mL 154) (mR 154)) := rfl
set_option maxRecDepth 100000 in
theorem gc_155 : lw_tbl[1176]? = some (Cond.code (mN 155) (mC 155) (mL 155) (mR 155)) := rfl
set_option maxRecDepth 100000 in
theorem gc_156 : lw_tbl[1180]? = some (Cond.code (mN 156) (mC 156) (mL 156) (mR 156)) := rfl
set_option maxRecDepth 100000 in
theorem gc_157 : lw_tbl[1184]? = some (Cond.code (mN 157) (mC 157) (mL 157) (mR 157)) := rfl
set_option maxRecDepth 100000 in
theorem gc_158 : lw_tbl[1188]? = some (Cond.code (mN 158) (mC 158) (mL 158) (mR 158)) := rfl
set_option maxRecDepth 100000 in
theorem gc_159 : lw_tbl[1192]? = some (Cond.code (mN 159) (mC 159) (mL 159) (mR 159)) := rfl
set_option maxRecDepth 100000 in
theorem gc_160 : lw_tbl[1196]? = some (Cond.code (mN 160) (mC 160) (mL 160) (mR 160)) := rfl
set_option maxRecDepth 100000 in
theorem gc_161 : lw_tbl[1200]? = some (Cond.code (mN 161) (mC 161) (mL 161) (mR 161)) := rfl
set_option maxRecDepth 100000 in
theorem gc_162 : lw_tbl[1204]? = some (Cond.code (mN 162) (mC 162) (mL 162) (mR 162)) := rfl
set_option maxRecDepth 100000 in
theorem gc_163 : lw_tbl[1209]? = some (Cond.code (mN 163) (mC 163) (mL 163) (mR 163)) := rfl
set_option maxRecDepth 100000 in
theorem gc_164 : lw_tbl[1213]? = some (Cond.code (mN 164) (mC 164) (mL 164) (mR 164)) := rfl
set_option maxRecDepth 100000 in
theorem gc_165 : lw_tbl[1217]? = some (Cond.code (mN 165) (mC 165) (mL 165) (mR 165)) := rfl
set_option maxRecDepth 100000 in
theorem gc_166 : lw_tbl[1221]? = some (Cond.code (mN 166) (mC 166) (mL 166) (mR 166)) := rfl
set_option maxRecDepth 100000 in
theorem gc_167 : lw_tbl[1225]? = some (Cond.code (mN 167) (mC 167) (mL 167) (mR 167)) := rfl
set_option maxRecDepth 100000 in
theorem gc_168 : lw_tbl[1229]? = some (Cond.code (mN 168) (mC 168) (mL 168) (mR 168)) := rfl
set_option maxRecDepth 100000 in
theorem gc_169 : lw_tbl[1233]? = some (Cond.code (mN 169) (mC 169) (mL 169) (mR 169)) := rfl
set_option maxRecDepth 100000 in
theorem gc_170 : lw_tbl[1237]? = some (Cond.code (mN 170) (mC 170) (mL 170) (mR 170)) := rfl
set_option maxRecDepth 100000 in
theorem gc_171 : lw_tbl[1243]? = some (Cond.code (mN 171) (mC 171) (mL 171) (mR 171)) := rfl
set_option maxRecDepth 100000 in
theorem gc_172 : lw_tbl[1247]? = some (Cond.code (mN 172) (mC 172) (mL 172) (mR 172)) := rfl
set_option maxRecDepth 100000 in
theorem gc_173 : lw_tbl[1251]? = some (Cond.code (mN 173) (mC 173) (mL 173) (mR 173)) := rfl
set_option maxRecDepth 100000 in
theorem gc_174 : lw_tbl[1255]? = some (Cond.code (mN 174) (mC 174) (mL 174) (mR 174)) := rfl
set_option maxRecDepth 100000 in
theorem gc_175 : lw_tbl[1260]? = some (Cond.code (mN 175) (mC 175) (mL 175) (mR 175)) := rfl
set_option maxRecDepth 100000 in
theorem gc_176 : lw_tbl[1265]? = some (Cond.code (mN 176) (mC 176) (mL 176) (mR 176)) := rfl
set_option maxRecDepth 100000 in
theorem gc_177 : lw_tbl[1269]? = some (Cond.code (mN 177) (mC 177) (mL 177) (mR 177)) := rfl
set_option maxRecDepth 100000 in
theorem gc_178 : lw_tbl[1273]? = some (Cond.code (mN 178) (mC 178) (mL 178) (mR 178)) := rfl
set_option maxRecDepth 100000 in
theorem gc_179 : lw_tbl[1277]? = some (Cond.code (mN 179) (mC 179) (mL 179) (mR 179)) := rfl
set_option maxRecDepth 100000 in
theorem gc_180 : lw_tbl[1281]? = some (Cond.code (mN 180) (mC 180) (mL 180) (mR 180)) := rfl
set_option maxRecDepth 100000 in
theorem gc_181 : lw_tbl[1285]? = some (Cond.code (mN 181) (mC 181) (mL 181) (mR 181)) := rfl
set_option maxRecDepth 100000 in
theorem gc_182 : lw_tbl[1289]? = some (Cond.code (mN 182) (mC 182) (mL 182) (mR 182)) := rfl
set_option maxRecDepth 100000 in
theorem gc_183 : lw_tbl[1293]? = some (Cond.code (mN 183) (mC 183) (mL 183) (mR 183)) := rfl
set_option maxRecDepth 100000 in
theorem gc_184 : lw_tbl[1298]? = some (Cond.code (mN 184) (mC 184) (mL 184) (mR 184)) := rfl
set_option maxRecDepth 100000 in
theorem gc_185 : lw_tbl[1302]? = some (Cond.code (mN 185) (mC 185) (mL 185) (mR 185)) := rfl
set_option maxRecDepth 100000 in
theorem gc_186 : lw_tbl[1306]? = some (Cond.code (mN 186) (mC 186) (mL 186) (mR 186)) := rfl
set_option maxRecDepth 100000 in
theorem gc_187 : lw_tbl[1310]? = some (Cond.code (mN 187) (mC 187) (mL 187) (mR 187)) := rfl
set_option maxRecDepth 100000 in
theorem gc_188 : lw_tbl[1314]? = some (Cond.code (mN 188) (mC 188) (mL 188) (mR 188)) := rfl
set_option maxRecDepth 100000 in
theorem gc_189 : lw_tbl[1318]? = some (Cond.code (mN 189) (mC 189) (mL 189) (mR 189)) := rfl
set_option maxRecDepth 100000 in
theorem gc_190 : lw_tbl[1323]? = some (Cond.code (mN 190) (mC 190) (mL 190) (mR 190)) := rfl
set_option maxRecDepth 100000 in
theorem gc_191 : lw_tbl[1327]? = some (Cond.code (mN 191) (mC 191) (mL 191) (mR 191)) := rfl
set_option maxRecDepth 100000 in
theorem gc_192 : lw_tbl[1331]? = some (Cond.code (mN 192) (mC 192) (mL 192) (mR 192)) := rfl
set_option maxRecDepth 100000 in
theorem gc_193 : lw_tbl[1335]? = some (Cond.code (mN 193) (mC 193) (mL 193) (mR 193)) := rfl
set_option maxRecDepth 100000 in
theorem gc_194 : lw_tbl[1339]? = some (Cond.code (mN 194) (mC 194) (mL 194) (mR 194)) := rfl
set_option maxRecDepth 100000 in
theorem gc_195 : lw_tbl[1343]? = some (Cond.code (mN 195) (mC 195) (mL 195) (mR 195)) := rfl
set_option maxRecDepth 100000 in
theorem gc_196 : lw_tbl[1347]? = some (Cond.code (mN 196) (mC 196) (mL 196) (mR 196)) := rfl
set_option maxRecDepth 100000 in
theorem gc_197 : lw_tbl[1351]? = some (Cond.code (mN 197) (mC 197) (mL 197) (mR 197)) := rfl
set_option maxRecDepth 100000 in
theorem gc_198 : lw_tbl[1355]? = some (Cond.code (mN 198) (mC 198) (mL 198) (mR 198)) := rfl
set_option maxRecDepth 100000 in
theorem gc_199 : lw_tbl[1359]? = some (Cond.code (mN 199) (mC 199) (mL 199) (mR 199)) := rfl
theorem gw_code {z : Nat} (h : z < 200) : Cond.code (mN z) (mC z) (mL z) (mR z) ∈ gw := by
  refine List.mem_filter.mpr ⟨?_, gc_good _ _ _ _⟩
  exact match z, h with
  | 0, _ => List.mem_of_getElem? gc_0
  | 1, _ => List.mem_of_getElem? gc_1
  | 2, _ => List.mem_of_getElem? gc_2
  | 3, _ => List.mem_of_getElem? gc_3
  | 4, _ => List.mem_of_getElem? gc_4
  | 5, _ => List.mem_of_getElem? gc_5
  | 6, _ => List.mem_of_getElem? gc_6
  | 7, _ => List.mem_of_getElem? gc_7
  | 8, _ => List.mem_of_getElem? gc_8
  | 9, _ => List.mem_of_getElem? gc_9
  | 10, _ => List.mem_of_getElem? gc_10
  | 11, _ => List.mem_of_getElem? gc_11
  | 12, _ => List.mem_of_getElem? gc_12
  | 13, _ => List.mem_of_getElem? gc_13
  | 14, _ => List.mem_of_getElem? gc_14
  | 15, _ => List.mem_of_getElem? gc_15
  | 16, _ => List.mem_of_getElem? gc_16
  | 17, _ => List.mem_of_getElem? gc_17
  | 18, _ => List.mem_of_getElem? gc_18
  | 19, _ => List.mem_of_getElem? gc_19
  | 20, _ => List.mem_of_getElem? gc_20
  | 21, _ => List.mem_of_getElem? gc_21
  | 22, _ => List.mem_of_getElem? gc_22
  | 23, _ => List.mem_of_getElem? gc_23
  | 24, _ => List.mem_of_getElem? gc_24
  | 25, _ => List.mem_of_getElem? gc_25
  | 26, _ => List.mem_of_getElem? gc_26
  | 27, _ => List.mem_of_getElem? gc_27
  | 28, _ => List.mem_of_getElem? gc_28
  | 29, _ => List.mem_of_getElem? gc_29
  | 30, _ => List.mem_of_getElem? gc_30
  | 31, _ => List.mem_of_getElem? gc_31
  | 32, _ => List.mem_of_getElem? gc_32
  | 33, _ => List.mem_of_getElem? gc_33
  | 34, _ => List.mem_of_getElem? gc_34
  | 35, _ => List.mem_of_getElem? gc_35
  | 36, _ => List.mem_of_getElem? gc_36
  | 37, _ => List.mem_of_getElem? gc_37
  | 38, _ => List.mem_of_getElem? gc_38
  | 39, _ => List.mem_of_getElem? gc_39
  | 40, _ => List.mem_of_getElem? gc_40
  | 41, _ => List.mem_of_getElem? gc_41
  | 42, _ => List.mem_of_getElem? gc_42
  | 43, _ => List.mem_of_getElem? gc_43
  | 44, _ => List.mem_of_getElem? gc_44
  | 45, _ => List.mem_of_getElem? gc_45
  | 46, _ => List.mem_of_getElem? gc_46
  | 47, _ => List.mem_of_getElem? gc_47
  | 48, _ => List.mem_of_getElem? gc_48
  | 49, _ => List.mem_of_getElem? gc_49
  | 50, _ => List.mem_of_getElem? gc_50
  | 51, _ => List.mem_of_getElem? gc_51
  | 52, _ => List.mem_of_getElem? gc_52
  | 53, _ => List.mem_of_getElem? gc_53
  | 54, _ => List.mem_of_getElem? gc_54
  | 55, _ => List.mem_of_getElem? gc_55
  | 56, _ => List.mem_of_getElem? gc_56
  | 57, _ => List.mem_of_getElem? gc_57
  | 58, _ => List.mem_of_getElem? gc_58
  | 59, _ => List.mem_of_getElem? gc_59
  | 60, _ => List.mem_of_getElem? gc_60
  | 61, _ => List.mem_of_getElem? gc_61
  | 62, _ => List.mem_of_getElem? gc_62
  | 63, _ => List.mem_of_getElem? gc_63
  | 64, _ => List.mem_of_getElem? gc_64
  | 65, _ => List.mem_of_getElem? gc_65
  | 66, _ => List.mem_of_getElem? gc_66
  | 67, _ => List.mem_of_getElem? gc_67
  | 68, _ => List.mem_of_getElem? gc_68
  | 69, _ => List.mem_of_getElem? gc_69
  | 70, _ => List.mem_of_getElem? gc_70
  | 71, _ => List.mem_of_getElem? gc_71
  | 72, _ => List.mem_of_getElem? gc_72
  | 73, _ => List.mem_of_getElem? gc_73
  | 74, _ => List.mem_of_getElem? gc_74
  | 75, _ => List.mem_of_getElem? gc_75
  | 76, _ => List.mem_of_getElem? gc_76
  | 77, _ => List.mem_of_getElem? gc_77
  | 78, _ => List.mem_of_getElem? gc_78
  | 79, _ => List.mem_of_getElem? gc_79
  | 80, _ => List.mem_of_getElem? gc_80
  | 81, _ => List.mem_of_getElem? gc_81
  | 82, _ => List.mem_of_getElem? gc_82
  | 83, _ => List.mem_of_getElem? gc_83
  | 84, _ => List.mem_of_getElem? gc_84
  | 85, _ => List.mem_of_getElem? gc_85
  | 86, _ => List.mem_of_getElem? gc_86
  | 87, _ => List.mem_of_getElem? gc_87
  | 88, _ => List.mem_of_getElem? gc_88
  | 89, _ => List.mem_of_getElem? gc_89
  | 90, _ => List.mem_of_getElem? gc_90
  | 91, _ => List.mem_of_getElem? gc_91
  | 92, _ => List.mem_of_getElem? gc_92
  | 93, _ => List.mem_of_getElem? gc_93
  | 94, _ => List.mem_of_getElem? gc_94
  | 95, _ => List.mem_of_getElem? gc_95
  | 96, _ => List.mem_of_getElem? gc_96
  | 97, _ => List.mem_of_getElem? gc_97
  | 98, _ => List.mem_of_getElem? gc_98
  | 99, _ => List.mem_of_getElem? gc_99
  | 100, _ => List.mem_of_getElem? gc_100
  | 101, _ => List.mem_of_getElem? gc_101
  | 102, _ => List.mem_of_getElem? gc_102
  | 103, _ => List.mem_of_getElem? gc_103
  | 104, _ => List.mem_of_getElem? gc_104
  | 105, _ => List.mem_of_getElem? gc_105
  | 106, _ => List.mem_of_getElem? gc_106
  | 107, _ => List.mem_of_getElem? gc_107
  | 108, _ => List.mem_of_getElem? gc_108
  | 109, _ => List.mem_of_getElem? gc_109
  | 110, _ => List.mem_of_getElem? gc_110
  | 111, _ => List.mem_of_getElem? gc_111
  | 112, _ => List.mem_of_getElem? gc_112
  | 113, _ => List.mem_of_getElem? gc_113
  | 114, _ => List.mem_of_getElem? gc_114
  | 115, _ => List.mem_of_getElem? gc_115
  | 116, _ => List.mem_of_getElem? gc_116
  | 117, _ => List.mem_of_getElem? gc_117
  | 118, _ => List.mem_of_getElem? gc_118
  | 119, _ => List.mem_of_getElem? gc_119
  | 120, _ => List.mem_of_getElem? gc_120
  | 121, _ => List.mem_of_getElem? gc_121
  | 122, _ => List.mem_of_getElem? gc_122
  | 123, _ => List.mem_of_getElem? gc_123
  | 124, _ => List.mem_of_getElem? gc_124
  | 125, _ => List.mem_of_getElem? gc_125
  | 126, _ => List.mem_of_getElem? gc_126
  | 127, _ => List.mem_of_getElem? gc_127
  | 128, _ => List.mem_of_getElem? gc_128
  | 129, _ => List.mem_of_getElem? gc_129
  | 130, _ => List.mem_of_getElem? gc_130
  | 131, _ => List.mem_of_getElem? gc_131
  | 132, _ => List.mem_of_getElem? gc_132
  | 133, _ => List.mem_of_getElem? gc_133
  | 134, _ => List.mem_of_getElem? gc_134
  | 135, _ => List.mem_of_getElem? gc_135
  | 136, _ => List.mem_of_getElem? gc_136
  | 137, _ => List.mem_of_getElem? gc_137
  | 138, _ => List.mem_of_getElem? gc_138
  | 139, _ => List.mem_of_getElem? gc_139
  | 140, _ => List.mem_of_getElem? gc_140
  | 141, _ => List.mem_of_getElem? gc_141
  | 142, _ => List.mem_of_getElem? gc_142
  | 143, _ => List.mem_of_getElem? gc_143
  | 144, _ => List.mem_of_getElem? gc_144
  | 145, _ => List.mem_of_getElem? gc_145
  | 146, _ => List.mem_of_getElem? gc_146
  | 147, _ => List.mem_of_getElem? gc_147
  | 148, _ => List.mem_of_getElem? gc_148
  | 149, _ => List.mem_of_getElem? gc_149
  | 150, _ => List.mem_of_getElem? gc_150
  | 151, _ => List.mem_of_getElem? gc_151
  | 152, _ => List.mem_of_getElem? gc_152
  | 153, _ => List.mem_of_getElem? gc_153
  | 154, _ => List.mem_of_getElem? gc_154
  | 155, _ => List.mem_of_getElem? gc_155
  | 156, _ => List.mem_of_getElem? gc_156
  | 157, _ => List.mem_of_getElem? gc_157
  | 158, _ => List.mem_of_getElem? gc_158
  | 159, _ => List.mem_of_getElem? gc_159
  | 160, _ => List.mem_of_getElem? gc_160
  | 161, _ => List.mem_of_getElem? gc_161
  | 162, _ => List.mem_of_getElem? gc_162
  | 163, _ => List.mem_of_getElem? gc_163
  | 164, _ => List.mem_of_getElem? gc_164
  | 165, _ => List.mem_of_getElem? gc_165
  | 166, _ => List.mem_of_getElem? gc_166
  | 167, _ => List.mem_of_getElem? gc_167
  | 168, _ => List.mem_of_getElem? gc_168
  | 169, _ => List.mem_of_getElem? gc_169
  | 170, _ => List.mem_of_getElem? gc_170
  | 171, _ => List.mem_of_getElem? gc_171
  | 172, _ => List.mem_of_getElem? gc_172
  | 173, _ => List.mem_of_getElem? gc_173
  | 174, _ => List.mem_of_getElem? gc_174
  | 175, _ => List.mem_of_getElem? gc_175
  | 176, _ => List.mem_of_getElem? gc_176
  | 177, _ => List.mem_of_getElem? gc_177
  | 178, _ => List.mem_of_getElem? gc_178
  | 179, _ => List.mem_of_getElem? gc_179
  | 180, _ => List.mem_of_getElem? gc_180
  | 181, _ => List.mem_of_getElem? gc_181
  | 182, _ => List.mem_of_getElem? gc_182
  | 183, _ => List.mem_of_getElem? gc_183
  | 184, _ => List.mem_of_getElem? gc_184
  | 185, _ => List.mem_of_getElem? gc_185
  | 186, _ => List.mem_of_getElem? gc_186
  | 187, _ => List.mem_of_getElem? gc_187
  | 188, _ => List.mem_of_getElem? gc_188
  | 189, _ => List.mem_of_getElem? gc_189
  | 190, _ => List.mem_of_getElem? gc_190
  | 191, _ => List.mem_of_getElem? gc_191
  | 192, _ => List.mem_of_getElem? gc_192
  | 193, _ => List.mem_of_getElem? gc_193
  | 194, _ => List.mem_of_getElem? gc_194
  | 195, _ => List.mem_of_getElem? gc_195
  | 196, _ => List.mem_of_getElem? gc_196
  | 197, _ => List.mem_of_getElem? gc_197
  | 198, _ => List.mem_of_getElem? gc_198
  | 199, _ => List.mem_of_getElem? gc_199
  | k + 200, h => absurd h (by omega)
