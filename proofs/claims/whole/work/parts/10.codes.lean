set_option maxRecDepth 100000 in
theorem ob_mc0 : lw_tbl[134]? = some (Cond.code (ob_y 0) (ob_by 0) (ob_mx 0) (ob_rt 0)) := rfl
set_option maxRecDepth 100000 in
theorem ob_mc1 : lw_tbl[229]? = some (Cond.code (ob_y 1) (ob_by 1) (ob_mx 1) (ob_rt 1)) := rfl
set_option maxRecDepth 100000 in
theorem ob_mc2 : lw_tbl[438]? = some (Cond.code (ob_y 2) (ob_by 2) (ob_mx 2) (ob_rt 2)) := rfl
set_option maxRecDepth 100000 in
theorem ob_mc3 : lw_tbl[507]? = some (Cond.code (ob_y 3) (ob_by 3) (ob_mx 3) (ob_rt 3)) := rfl
set_option maxRecDepth 100000 in
theorem ob_mc4 : lw_tbl[491]? = some (Cond.code (ob_y 4) (ob_by 4) (ob_mx 4) (ob_rt 4)) := rfl
set_option maxRecDepth 100000 in
theorem ob_mc5 : lw_tbl[535]? = some (Cond.code (ob_y 5) (ob_by 5) (ob_mx 5) (ob_rt 5)) := rfl
set_option maxRecDepth 100000 in
theorem ob_mc6 : lw_tbl[724]? = some (Cond.code (ob_y 6) (ob_by 6) (ob_mx 6) (ob_rt 6)) := rfl
set_option maxRecDepth 100000 in
theorem ob_mc7 : lw_tbl[625]? = some (Cond.code (ob_y 7) (ob_by 7) (ob_mx 7) (ob_rt 7)) := rfl
set_option maxRecDepth 100000 in
theorem ob_mc8 : lw_tbl[456]? = some (Cond.code (ob_y 8) (ob_by 8) (ob_mx 8) (ob_rt 8)) := rfl
set_option maxRecDepth 100000 in
theorem ob_mc9 : lw_tbl[479]? = some (Cond.code (ob_y 9) (ob_by 9) (ob_mx 9) (ob_rt 9)) := rfl
set_option maxRecDepth 100000 in
theorem ob_mc10 : lw_tbl[487]? = some (Cond.code (ob_y 10) (ob_by 10) (ob_mx 10) (ob_rt 10)) := rfl
set_option maxRecDepth 100000 in
theorem ob_mc11 : lw_tbl[503]? = some (Cond.code (ob_y 11) (ob_by 11) (ob_mx 11) (ob_rt 11)) := rfl
set_option maxRecDepth 100000 in
theorem ob_mc12 : lw_tbl[515]? = some (Cond.code (ob_y 12) (ob_by 12) (ob_mx 12) (ob_rt 12)) := rfl
set_option maxRecDepth 100000 in
theorem ob_mc13 : lw_tbl[531]? = some (Cond.code (ob_y 13) (ob_by 13) (ob_mx 13) (ob_rt 13)) := rfl
set_option maxRecDepth 100000 in
theorem ob_mc14 : lw_tbl[547]? = some (Cond.code (ob_y 14) (ob_by 14) (ob_mx 14) (ob_rt 14)) := rfl
set_option maxRecDepth 100000 in
theorem ob_mc15 : lw_tbl[643]? = some (Cond.code (ob_y 15) (ob_by 15) (ob_mx 15) (ob_rt 15)) := rfl
set_option maxRecDepth 100000 in
theorem ob_mc16 : lw_tbl[557]? = some (Cond.code (ob_y 16) (ob_by 16) (ob_mx 16) (ob_rt 16)) := rfl
set_option maxRecDepth 100000 in
theorem ob_mc17 : lw_tbl[566]? = some (Cond.code (ob_y 17) (ob_by 17) (ob_mx 17) (ob_rt 17)) := rfl
set_option maxRecDepth 100000 in
theorem ob_mc18 : lw_tbl[753]? = some (Cond.code (ob_y 18) (ob_by 18) (ob_mx 18) (ob_rt 18)) := rfl
set_option maxRecDepth 100000 in
theorem ob_mc19 : lw_tbl[757]? = some (Cond.code (ob_y 19) (ob_by 19) (ob_mx 19) (ob_rt 19)) := rfl
set_option maxRecDepth 100000 in
theorem ob_mc20 : lw_tbl[770]? = some (Cond.code (ob_y 20) (ob_by 20) (ob_mx 20) (ob_rt 20)) := rfl
set_option maxRecDepth 100000 in
theorem ob_mc21 : lw_tbl[775]? = some (Cond.code (ob_y 21) (ob_by 21) (ob_mx 21) (ob_rt 21)) := rfl
set_option maxRecDepth 100000 in
theorem ob_mc22 : lw_tbl[784]? = some (Cond.code (ob_y 22) (ob_by 22) (ob_mx 22) (ob_rt 22)) := rfl
set_option maxRecDepth 100000 in
theorem ob_mc23 : lw_tbl[634]? = some (Cond.code (ob_y 23) (ob_by 23) (ob_mx 23) (ob_rt 23)) := rfl
set_option maxRecDepth 100000 in
theorem ob_mc24 : lw_tbl[303]? = some (Cond.code (ob_y 24) (ob_by 24) (ob_mx 24) (ob_rt 24)) := rfl
set_option maxRecDepth 100000 in
theorem ob_mc25 : lw_tbl[713]? = some (Cond.code (ob_y 25) (ob_by 25) (ob_mx 25) (ob_rt 25)) := rfl
set_option maxRecDepth 100000 in
theorem ob_mc26 : lw_tbl[717]? = some (Cond.code (ob_y 26) (ob_by 26) (ob_mx 26) (ob_rt 26)) := rfl
set_option maxRecDepth 100000 in
theorem ob_mc27 : lw_tbl[728]? = some (Cond.code (ob_y 27) (ob_by 27) (ob_mx 27) (ob_rt 27)) := rfl
set_option maxRecDepth 100000 in
theorem ob_mc28 : lw_tbl[732]? = some (Cond.code (ob_y 28) (ob_by 28) (ob_mx 28) (ob_rt 28)) := rfl
set_option maxRecDepth 100000 in
theorem ob_mc29 : lw_tbl[823]? = some (Cond.code (ob_y 29) (ob_by 29) (ob_mx 29) (ob_rt 29)) := rfl
set_option maxRecDepth 100000 in
theorem ob_mc30 : lw_tbl[762]? = some (Cond.code (ob_y 30) (ob_by 30) (ob_mx 30) (ob_rt 30)) := rfl
set_option maxRecDepth 100000 in
theorem ob_mc31 : lw_tbl[766]? = some (Cond.code (ob_y 31) (ob_by 31) (ob_mx 31) (ob_rt 31)) := rfl
set_option maxRecDepth 100000 in
theorem ob_mc32 : lw_tbl[804]? = some (Cond.code (ob_y 32) (ob_by 32) (ob_mx 32) (ob_rt 32)) := rfl
set_option maxRecDepth 100000 in
theorem ob_mc33 : lw_tbl[800]? = some (Cond.code (ob_y 33) (ob_by 33) (ob_mx 33) (ob_rt 33)) := rfl
set_option maxRecDepth 100000 in
theorem ob_mc34 : lw_tbl[336]? = some (Cond.code (ob_y 34) (ob_by 34) (ob_mx 34) (ob_rt 34)) := rfl
set_option maxRecDepth 100000 in
theorem ob_mc35 : lw_tbl[585]? = some (Cond.code (ob_y 35) (ob_by 35) (ob_mx 35) (ob_rt 35)) := rfl
set_option maxRecDepth 100000 in
theorem ob_mc36 : lw_tbl[741]? = some (Cond.code (ob_y 36) (ob_by 36) (ob_mx 36) (ob_rt 36)) := rfl
set_option maxRecDepth 100000 in
theorem ob_mc37 : lw_tbl[143]? = some (Cond.code (ob_y 37) (ob_by 37) (ob_mx 37) (ob_rt 37)) := rfl
set_option maxRecDepth 100000 in
theorem ob_mc38 : lw_tbl[445]? = some (Cond.code (ob_y 38) (ob_by 38) (ob_mx 38) (ob_rt 38)) := rfl
set_option maxRecDepth 100000 in
theorem ob_mc39 : lw_tbl[519]? = some (Cond.code (ob_y 39) (ob_by 39) (ob_mx 39) (ob_rt 39)) := rfl
set_option maxRecDepth 100000 in
theorem ob_mc40 : lw_tbl[523]? = some (Cond.code (ob_y 40) (ob_by 40) (ob_mx 40) (ob_rt 40)) := rfl
set_option maxRecDepth 100000 in
theorem ob_mc41 : lw_tbl[539]? = some (Cond.code (ob_y 41) (ob_by 41) (ob_mx 41) (ob_rt 41)) := rfl
set_option maxRecDepth 100000 in
theorem ob_mc42 : lw_tbl[862]? = some (Cond.code (ob_y 42) (ob_by 42) (ob_mx 42) (ob_rt 42)) := rfl
set_option maxRecDepth 100000 in
theorem ob_mc43 : lw_tbl[284]? = some (Cond.code (ob_y 43) (ob_by 43) (ob_mx 43) (ob_rt 43)) := rfl
set_option maxRecDepth 100000 in
theorem ob_mc44 : lw_tbl[580]? = some (Cond.code (ob_y 44) (ob_by 44) (ob_mx 44) (ob_rt 44)) := rfl
set_option maxRecDepth 100000 in
theorem ob_mc45 : lw_tbl[595]? = some (Cond.code (ob_y 45) (ob_by 45) (ob_mx 45) (ob_rt 45)) := rfl
set_option maxRecDepth 100000 in
theorem ob_mc46 : lw_tbl[613]? = some (Cond.code (ob_y 46) (ob_by 46) (ob_mx 46) (ob_rt 46)) := rfl
set_option maxRecDepth 100000 in
theorem ob_mc47 : lw_tbl[599]? = some (Cond.code (ob_y 47) (ob_by 47) (ob_mx 47) (ob_rt 47)) := rfl
set_option maxRecDepth 100000 in
theorem ob_mc48 : lw_tbl[617]? = some (Cond.code (ob_y 48) (ob_by 48) (ob_mx 48) (ob_rt 48)) := rfl
set_option maxRecDepth 100000 in
theorem ob_mc49 : lw_tbl[621]? = some (Cond.code (ob_y 49) (ob_by 49) (ob_mx 49) (ob_rt 49)) := rfl
set_option maxRecDepth 100000 in
theorem ob_mc50 : lw_tbl[651]? = some (Cond.code (ob_y 50) (ob_by 50) (ob_mx 50) (ob_rt 50)) := rfl
set_option maxRecDepth 100000 in
theorem ob_mc51 : lw_tbl[655]? = some (Cond.code (ob_y 51) (ob_by 51) (ob_mx 51) (ob_rt 51)) := rfl
set_option maxRecDepth 100000 in
theorem ob_mc52 : lw_tbl[663]? = some (Cond.code (ob_y 52) (ob_by 52) (ob_mx 52) (ob_rt 52)) := rfl
set_option maxRecDepth 100000 in
theorem ob_mc53 : lw_tbl[667]? = some (Cond.code (ob_y 53) (ob_by 53) (ob_mx 53) (ob_rt 53)) := rfl
set_option maxRecDepth 100000 in
theorem ob_mc54 : lw_tbl[671]? = some (Cond.code (ob_y 54) (ob_by 54) (ob_mx 54) (ob_rt 54)) := rfl
set_option maxRecDepth 100000 in
theorem ob_mc55 : lw_tbl[674]? = some (Cond.code (ob_y 55) (ob_by 55) (ob_mx 55) (ob_rt 55)) := rfl
set_option maxRecDepth 100000 in
theorem ob_mc56 : lw_tbl[678]? = some (Cond.code (ob_y 56) (ob_by 56) (ob_mx 56) (ob_rt 56)) := rfl
set_option maxRecDepth 100000 in
theorem ob_mc57 : lw_tbl[682]? = some (Cond.code (ob_y 57) (ob_by 57) (ob_mx 57) (ob_rt 57)) := rfl
set_option maxRecDepth 100000 in
theorem ob_mc58 : lw_tbl[689]? = some (Cond.code (ob_y 58) (ob_by 58) (ob_mx 58) (ob_rt 58)) := rfl
set_option maxRecDepth 100000 in
theorem ob_mc59 : lw_tbl[693]? = some (Cond.code (ob_y 59) (ob_by 59) (ob_mx 59) (ob_rt 59)) := rfl
set_option maxRecDepth 100000 in
theorem ob_mc60 : lw_tbl[685]? = some (Cond.code (ob_y 60) (ob_by 60) (ob_mx 60) (ob_rt 60)) := rfl
set_option maxRecDepth 100000 in
theorem ob_mc61 : lw_tbl[697]? = some (Cond.code (ob_y 61) (ob_by 61) (ob_mx 61) (ob_rt 61)) := rfl
set_option maxRecDepth 100000 in
theorem ob_mc62 : lw_tbl[187]? = some (Cond.code (ob_y 62) (ob_by 62) (ob_mx 62) (ob_rt 62)) := rfl
set_option maxRecDepth 100000 in
theorem ob_mc63 : lw_tbl[450]? = some (Cond.code (ob_y 63) (ob_by 63) (ob_mx 63) (ob_rt 63)) := rfl
set_option maxRecDepth 100000 in
theorem ob_mc64 : lw_tbl[589]? = some (Cond.code (ob_y 64) (ob_by 64) (ob_mx 64) (ob_rt 64)) := rfl
set_option maxRecDepth 100000 in
theorem ob_mc65 : lw_tbl[705]? = some (Cond.code (ob_y 65) (ob_by 65) (ob_mx 65) (ob_rt 65)) := rfl
set_option maxRecDepth 100000 in
theorem ob_mc66 : lw_tbl[850]? = some (Cond.code (ob_y 66) (ob_by 66) (ob_mx 66) (ob_rt 66)) := rfl
set_option maxRecDepth 100000 in
theorem ob_mc67 : lw_tbl[603]? = some (Cond.code (ob_y 67) (ob_by 67) (ob_mx 67) (ob_rt 67)) := rfl
set_option maxRecDepth 100000 in
theorem ob_mc68 : lw_tbl[780]? = some (Cond.code (ob_y 68) (ob_by 68) (ob_mx 68) (ob_rt 68)) := rfl
set_option maxRecDepth 100000 in
theorem ob_mc69 : lw_tbl[356]? = some (Cond.code (ob_y 69) (ob_by 69) (ob_mx 69) (ob_rt 69)) := rfl
set_option maxRecDepth 100000 in
theorem ob_mc70 : lw_tbl[870]? = some (Cond.code (ob_y 70) (ob_by 70) (ob_mx 70) (ob_rt 70)) := rfl
set_option maxRecDepth 100000 in
theorem ob_mc71 : lw_tbl[924]? = some (Cond.code (ob_y 71) (ob_by 71) (ob_mx 71) (ob_rt 71)) := rfl
set_option maxRecDepth 100000 in
theorem ob_mc72 : lw_tbl[920]? = some (Cond.code (ob_y 72) (ob_by 72) (ob_mx 72) (ob_rt 72)) := rfl
set_option maxRecDepth 100000 in
theorem ob_mc73 : lw_tbl[882]? = some (Cond.code (ob_y 73) (ob_by 73) (ob_mx 73) (ob_rt 73)) := rfl
set_option maxRecDepth 100000 in
theorem ob_mc74 : lw_tbl[885]? = some (Cond.code (ob_y 74) (ob_by 74) (ob_mx 74) (ob_rt 74)) := rfl
set_option maxRecDepth 100000 in
theorem ob_mc75 : lw_tbl[889]? = some (Cond.code (ob_y 75) (ob_by 75) (ob_mx 75) (ob_rt 75)) := rfl
set_option maxRecDepth 100000 in
theorem ob_mc76 : lw_tbl[912]? = some (Cond.code (ob_y 76) (ob_by 76) (ob_mx 76) (ob_rt 76)) := rfl
set_option maxRecDepth 100000 in
theorem ob_mc77 : lw_tbl[893]? = some (Cond.code (ob_y 77) (ob_by 77) (ob_mx 77) (ob_rt 77)) := rfl
set_option maxRecDepth 100000 in
theorem ob_mc78 : lw_tbl[897]? = some (Cond.code (ob_y 78) (ob_by 78) (ob_mx 78) (ob_rt 78)) := rfl
set_option maxRecDepth 100000 in
theorem ob_mc79 : lw_tbl[904]? = some (Cond.code (ob_y 79) (ob_by 79) (ob_mx 79) (ob_rt 79)) := rfl
set_option maxRecDepth 100000 in
theorem ob_mc80 : lw_tbl[908]? = some (Cond.code (ob_y 80) (ob_by 80) (ob_mx 80) (ob_rt 80)) := rfl
set_option maxRecDepth 100000 in
theorem ob_mc81 : lw_tbl[900]? = some (Cond.code (ob_y 81) (ob_by 81) (ob_mx 81) (ob_rt 81)) := rfl
set_option maxRecDepth 100000 in
theorem ob_mc82 : lw_tbl[126]? = some (Cond.code (ob_y 82) (ob_by 82) (ob_mx 82) (ob_rt 82)) := rfl
set_option maxRecDepth 100000 in
theorem ob_mc83 : lw_tbl[430]? = some (Cond.code (ob_y 83) (ob_by 83) (ob_mx 83) (ob_rt 83)) := rfl
set_option maxRecDepth 100000 in
theorem ob_mc84 : lw_tbl[475]? = some (Cond.code (ob_y 84) (ob_by 84) (ob_mx 84) (ob_rt 84)) := rfl
set_option maxRecDepth 100000 in
theorem ob_mc85 : lw_tbl[483]? = some (Cond.code (ob_y 85) (ob_by 85) (ob_mx 85) (ob_rt 85)) := rfl
set_option maxRecDepth 100000 in
theorem ob_mc86 : lw_tbl[495]? = some (Cond.code (ob_y 86) (ob_by 86) (ob_mx 86) (ob_rt 86)) := rfl
set_option maxRecDepth 100000 in
theorem ob_mc87 : lw_tbl[499]? = some (Cond.code (ob_y 87) (ob_by 87) (ob_mx 87) (ob_rt 87)) := rfl
set_option maxRecDepth 100000 in
theorem ob_mc88 : lw_tbl[511]? = some (Cond.code (ob_y 88) (ob_by 88) (ob_mx 88) (ob_rt 88)) := rfl
set_option maxRecDepth 100000 in
theorem ob_mc89 : lw_tbl[527]? = some (Cond.code (ob_y 89) (ob_by 89) (ob_mx 89) (ob_rt 89)) := rfl
set_option maxRecDepth 100000 in
theorem ob_mc90 : lw_tbl[543]? = some (Cond.code (ob_y 90) (ob_by 90) (ob_mx 90) (ob_rt 90)) := rfl
set_option maxRecDepth 100000 in
theorem ob_mc91 : lw_tbl[551]? = some (Cond.code (ob_y 91) (ob_by 91) (ob_mx 91) (ob_rt 91)) := rfl
set_option maxRecDepth 100000 in
theorem ob_mc92 : lw_tbl[561]? = some (Cond.code (ob_y 92) (ob_by 92) (ob_mx 92) (ob_rt 92)) := rfl
set_option maxRecDepth 100000 in
theorem ob_mc93 : lw_tbl[576]? = some (Cond.code (ob_y 93) (ob_by 93) (ob_mx 93) (ob_rt 93)) := rfl
set_option maxRecDepth 100000 in
theorem ob_mc94 : lw_tbl[639]? = some (Cond.code (ob_y 94) (ob_by 94) (ob_mx 94) (ob_rt 94)) := rfl
set_option maxRecDepth 100000 in
theorem ob_mc95 : lw_tbl[647]? = some (Cond.code (ob_y 95) (ob_by 95) (ob_mx 95) (ob_rt 95)) := rfl
set_option maxRecDepth 100000 in
theorem ob_mc96 : lw_tbl[659]? = some (Cond.code (ob_y 96) (ob_by 96) (ob_mx 96) (ob_rt 96)) := rfl
set_option maxRecDepth 100000 in
theorem ob_mc97 : lw_tbl[701]? = some (Cond.code (ob_y 97) (ob_by 97) (ob_mx 97) (ob_rt 97)) := rfl
set_option maxRecDepth 100000 in
theorem ob_mc98 : lw_tbl[737]? = some (Cond.code (ob_y 98) (ob_by 98) (ob_mx 98) (ob_rt 98)) := rfl
set_option maxRecDepth 100000 in
theorem ob_mc99 : lw_tbl[745]? = some (Cond.code (ob_y 99) (ob_by 99) (ob_mx 99) (ob_rt 99)) := rfl
set_option maxRecDepth 100000 in
theorem ob_mc100 : lw_tbl[796]? = some (Cond.code (ob_y 100) (ob_by 100) (ob_mx 100) (ob_rt 100)) := rfl
set_option maxRecDepth 100000 in
theorem ob_mc101 : lw_tbl[809]? = some (Cond.code (ob_y 101) (ob_by 101) (ob_mx 101) (ob_rt 101)) := rfl
set_option maxRecDepth 100000 in
theorem ob_mc102 : lw_tbl[815]? = some (Cond.code (ob_y 102) (ob_by 102) (ob_mx 102) (ob_rt 102)) := rfl
set_option maxRecDepth 100000 in
theorem ob_mc103 : lw_tbl[828]? = some (Cond.code (ob_y 103) (ob_by 103) (ob_mx 103) (ob_rt 103)) := rfl
set_option maxRecDepth 100000 in
theorem ob_mc104 : lw_tbl[836]? = some (Cond.code (ob_y 104) (ob_by 104) (ob_mx 104) (ob_rt 104)) := rfl
set_option maxRecDepth 100000 in
theorem ob_mc105 : lw_tbl[846]? = some (Cond.code (ob_y 105) (ob_by 105) (ob_mx 105) (ob_rt 105)) := rfl
set_option maxRecDepth 100000 in
theorem ob_mc106 : lw_tbl[854]? = some (Cond.code (ob_y 106) (ob_by 106) (ob_mx 106) (ob_rt 106)) := rfl
set_option maxRecDepth 100000 in
theorem ob_mc107 : lw_tbl[866]? = some (Cond.code (ob_y 107) (ob_by 107) (ob_mx 107) (ob_rt 107)) := rfl
set_option maxRecDepth 100000 in
theorem ob_mc108 : lw_tbl[874]? = some (Cond.code (ob_y 108) (ob_by 108) (ob_mx 108) (ob_rt 108)) := rfl
set_option maxRecDepth 100000 in
theorem ob_mc109 : lw_tbl[878]? = some (Cond.code (ob_y 109) (ob_by 109) (ob_mx 109) (ob_rt 109)) := rfl
set_option maxRecDepth 100000 in
theorem ob_mc110 : lw_tbl[938]? = some (Cond.code (ob_y 110) (ob_by 110) (ob_mx 110) (ob_rt 110)) := rfl
set_option maxRecDepth 100000 in
theorem ob_mc111 : lw_tbl[942]? = some (Cond.code (ob_y 111) (ob_by 111) (ob_mx 111) (ob_rt 111)) := rfl
set_option maxRecDepth 100000 in
theorem ob_mc112 : lw_tbl[950]? = some (Cond.code (ob_y 112) (ob_by 112) (ob_mx 112) (ob_rt 112)) := rfl
set_option maxRecDepth 100000 in
theorem ob_mc113 : lw_tbl[956]? = some (Cond.code (ob_y 113) (ob_by 113) (ob_mx 113) (ob_rt 113)) := rfl
set_option maxRecDepth 100000 in
theorem ob_mc114 : lw_tbl[434]? = some (Cond.code (ob_y 114) (ob_by 114) (ob_mx 114) (ob_rt 114)) := rfl
set_option maxRecDepth 100000 in
theorem ob_mc115 : lw_tbl[463]? = some (Cond.code (ob_y 115) (ob_by 115) (ob_mx 115) (ob_rt 115)) := rfl
set_option maxRecDepth 100000 in
theorem ob_mc116 : lw_tbl[467]? = some (Cond.code (ob_y 116) (ob_by 116) (ob_mx 116) (ob_rt 116)) := rfl
set_option maxRecDepth 100000 in
theorem ob_mc117 : lw_tbl[471]? = some (Cond.code (ob_y 117) (ob_by 117) (ob_mx 117) (ob_rt 117)) := rfl
set_option maxRecDepth 100000 in
theorem ob_mc118 : lw_tbl[946]? = some (Cond.code (ob_y 118) (ob_by 118) (ob_mx 118) (ob_rt 118)) := rfl
set_option maxRecDepth 100000 in
theorem ob_mc119 : lw_tbl[709]? = some (Cond.code (ob_y 119) (ob_by 119) (ob_mx 119) (ob_rt 119)) := rfl
set_option maxRecDepth 100000 in
theorem ob_mc120 : lw_tbl[749]? = some (Cond.code (ob_y 120) (ob_by 120) (ob_mx 120) (ob_rt 120)) := rfl
set_option maxRecDepth 100000 in
theorem ob_mc121 : lw_tbl[819]? = some (Cond.code (ob_y 121) (ob_by 121) (ob_mx 121) (ob_rt 121)) := rfl
set_option maxRecDepth 100000 in
theorem ob_mc122 : lw_tbl[832]? = some (Cond.code (ob_y 122) (ob_by 122) (ob_mx 122) (ob_rt 122)) := rfl
set_option maxRecDepth 100000 in
theorem ob_mc123 : lw_tbl[840]? = some (Cond.code (ob_y 123) (ob_by 123) (ob_mx 123) (ob_rt 123)) := rfl
set_option maxRecDepth 100000 in
theorem ob_mc124 : lw_tbl[858]? = some (Cond.code (ob_y 124) (ob_by 124) (ob_mx 124) (ob_rt 124)) := rfl
set_option maxRecDepth 100000 in
theorem ob_mc125 : lw_tbl[916]? = some (Cond.code (ob_y 125) (ob_by 125) (ob_mx 125) (ob_rt 125)) := rfl
set_option maxRecDepth 100000 in
theorem ob_mc126 : lw_tbl[928]? = some (Cond.code (ob_y 126) (ob_by 126) (ob_mx 126) (ob_rt 126)) := rfl
set_option maxRecDepth 100000 in
theorem ob_mc127 : lw_tbl[933]? = some (Cond.code (ob_y 127) (ob_by 127) (ob_mx 127) (ob_rt 127)) := rfl
set_option maxRecDepth 100000 in
theorem ob_mc128 : lw_tbl[459]? = some (Cond.code (ob_y 128) (ob_by 128) (ob_mx 128) (ob_rt 128)) := rfl
set_option maxRecDepth 100000 in
theorem ob_mc129 : lw_tbl[569]? = some (Cond.code (ob_y 129) (ob_by 129) (ob_mx 129) (ob_rt 129)) := rfl
set_option maxRecDepth 100000 in
theorem ob_mc130 : lw_tbl[572]? = some (Cond.code (ob_y 130) (ob_by 130) (ob_mx 130) (ob_rt 130)) := rfl
set_option maxRecDepth 100000 in
theorem ob_mc131 : lw_tbl[606]? = some (Cond.code (ob_y 131) (ob_by 131) (ob_mx 131) (ob_rt 131)) := rfl
set_option maxRecDepth 100000 in
theorem ob_mc132 : lw_tbl[787]? = some (Cond.code (ob_y 132) (ob_by 132) (ob_mx 132) (ob_rt 132)) := rfl
set_option maxRecDepth 100000 in
theorem ob_mc133 : lw_tbl[961]? = some (Cond.code (ob_y 133) (ob_by 133) (ob_mx 133) (ob_rt 133)) := rfl
set_option maxRecDepth 100000 in
theorem ob_mc134 : lw_tbl[1054]? = some (Cond.code (ob_y 134) (ob_by 134) (ob_mx 134) (ob_rt 134)) := rfl
set_option maxRecDepth 100000 in
theorem ob_mc135 : lw_tbl[1060]? = some (Cond.code (ob_y 135) (ob_by 135) (ob_mx 135) (ob_rt 135)) := rfl
set_option maxRecDepth 100000 in
theorem ob_mc136 : lw_tbl[1068]? = some (Cond.code (ob_y 136) (ob_by 136) (ob_mx 136) (ob_rt 136)) := rfl
set_option maxRecDepth 100000 in
theorem ob_mc137 : lw_tbl[966]? = some (Cond.code (ob_y 137) (ob_by 137) (ob_mx 137) (ob_rt 137)) := rfl
set_option maxRecDepth 100000 in
theorem ob_mc138 : lw_tbl[1064]? = some (Cond.code (ob_y 138) (ob_by 138) (ob_mx 138) (ob_rt 138)) := rfl
set_option maxRecDepth 100000 in
theorem ob_mc139 : lw_tbl[1113]? = some (Cond.code (ob_y 139) (ob_by 139) (ob_mx 139) (ob_rt 139)) := rfl
set_option maxRecDepth 100000 in
theorem ob_mc140 : lw_tbl[1109]? = some (Cond.code (ob_y 140) (ob_by 140) (ob_mx 140) (ob_rt 140)) := rfl
set_option maxRecDepth 100000 in
theorem ob_mc141 : lw_tbl[1089]? = some (Cond.code (ob_y 141) (ob_by 141) (ob_mx 141) (ob_rt 141)) := rfl
set_option maxRecDepth 100000 in
theorem ob_mc142 : lw_tbl[1121]? = some (Cond.code (ob_y 142) (ob_by 142) (ob_mx 142) (ob_rt 142)) := rfl
set_option maxRecDepth 100000 in
theorem ob_mc143 : lw_tbl[1125]? = some (Cond.code (ob_y 143) (ob_by 143) (ob_mx 143) (ob_rt 143)) := rfl
set_option maxRecDepth 100000 in
theorem ob_mc144 : lw_tbl[1182]? = some (Cond.code (ob_y 144) (ob_by 144) (ob_mx 144) (ob_rt 144)) := rfl
set_option maxRecDepth 100000 in
theorem ob_mc145 : lw_tbl[1231]? = some (Cond.code (ob_y 145) (ob_by 145) (ob_mx 145) (ob_rt 145)) := rfl
set_option maxRecDepth 100000 in
theorem ob_mc146 : lw_tbl[1203]? = some (Cond.code (ob_y 146) (ob_by 146) (ob_mx 146) (ob_rt 146)) := rfl
set_option maxRecDepth 100000 in
theorem ob_mc147 : lw_tbl[1199]? = some (Cond.code (ob_y 147) (ob_by 147) (ob_mx 147) (ob_rt 147)) := rfl
set_option maxRecDepth 100000 in
theorem ob_mc148 : lw_tbl[1137]? = some (Cond.code (ob_y 148) (ob_by 148) (ob_mx 148) (ob_rt 148)) := rfl
set_option maxRecDepth 100000 in
theorem ob_mc149 : lw_tbl[1141]? = some (Cond.code (ob_y 149) (ob_by 149) (ob_mx 149) (ob_rt 149)) := rfl
set_option maxRecDepth 100000 in
theorem ob_mc150 : lw_tbl[1145]? = some (Cond.code (ob_y 150) (ob_by 150) (ob_mx 150) (ob_rt 150)) := rfl
set_option maxRecDepth 100000 in
theorem ob_mc151 : lw_tbl[1195]? = some (Cond.code (ob_y 151) (ob_by 151) (ob_mx 151) (ob_rt 151)) := rfl
set_option maxRecDepth 100000 in
theorem ob_mc152 : lw_tbl[1207]? = some (Cond.code (ob_y 152) (ob_by 152) (ob_mx 152) (ob_rt 152)) := rfl
set_option maxRecDepth 100000 in
theorem ob_mc153 : lw_tbl[1243]? = some (Cond.code (ob_y 153) (ob_by 153) (ob_mx 153) (ob_rt 153)) := rfl
set_option maxRecDepth 100000 in
theorem ob_mc154 : lw_tbl[1049]? = some (Cond.code (ob_y 154) (ob_by 154) (ob_mx 154) (ob_rt 154)) := rfl
set_option maxRecDepth 100000 in
theorem ob_mc155 : lw_tbl[1077]? = some (Cond.code (ob_y 155) (ob_by 155) (ob_mx 155) (ob_rt 155)) := rfl
set_option maxRecDepth 100000 in
theorem ob_mc156 : lw_tbl[1072]? = some (Cond.code (ob_y 156) (ob_by 156) (ob_mx 156) (ob_rt 156)) := rfl
set_option maxRecDepth 100000 in
theorem ob_mc157 : lw_tbl[1085]? = some (Cond.code (ob_y 157) (ob_by 157) (ob_mx 157) (ob_rt 157)) := rfl
set_option maxRecDepth 100000 in
theorem ob_mc158 : lw_tbl[1081]? = some (Cond.code (ob_y 158) (ob_by 158) (ob_mx 158) (ob_rt 158)) := rfl
set_option maxRecDepth 100000 in
theorem ob_mc159 : lw_tbl[1097]? = some (Cond.code (ob_y 159) (ob_by 159) (ob_mx 159) (ob_rt 159)) := rfl
set_option maxRecDepth 100000 in
theorem ob_mc160 : lw_tbl[1093]? = some (Cond.code (ob_y 160) (ob_by 160) (ob_mx 160) (ob_rt 160)) := rfl
set_option maxRecDepth 100000 in
theorem ob_mc161 : lw_tbl[1105]? = some (Cond.code (ob_y 161) (ob_by 161) (ob_mx 161) (ob_rt 161)) := rfl
set_option maxRecDepth 100000 in
theorem ob_mc162 : lw_tbl[1117]? = some (Cond.code (ob_y 162) (ob_by 162) (ob_mx 162) (ob_rt 162)) := rfl
set_option maxRecDepth 100000 in
theorem ob_mc163 : lw_tbl[1101]? = some (Cond.code (ob_y 163) (ob_by 163) (ob_mx 163) (ob_rt 163)) := rfl
set_option maxRecDepth 100000 in
theorem ob_mc164 : lw_tbl[1133]? = some (Cond.code (ob_y 164) (ob_by 164) (ob_mx 164) (ob_rt 164)) := rfl
set_option maxRecDepth 100000 in
theorem ob_mc165 : lw_tbl[1149]? = some (Cond.code (ob_y 165) (ob_by 165) (ob_mx 165) (ob_rt 165)) := rfl
set_option maxRecDepth 100000 in
theorem ob_mc166 : lw_tbl[1129]? = some (Cond.code (ob_y 166) (ob_by 166) (ob_mx 166) (ob_rt 166)) := rfl
set_option maxRecDepth 100000 in
theorem ob_mc167 : lw_tbl[1157]? = some (Cond.code (ob_y 167) (ob_by 167) (ob_mx 167) (ob_rt 167)) := rfl
set_option maxRecDepth 100000 in
theorem ob_mc168 : lw_tbl[1153]? = some (Cond.code (ob_y 168) (ob_by 168) (ob_mx 168) (ob_rt 168)) := rfl
set_option maxRecDepth 100000 in
theorem ob_mc169 : lw_tbl[1165]? = some (Cond.code (ob_y 169) (ob_by 169) (ob_mx 169) (ob_rt 169)) := rfl
set_option maxRecDepth 100000 in
theorem ob_mc170 : lw_tbl[1169]? = some (Cond.code (ob_y 170) (ob_by 170) (ob_mx 170) (ob_rt 170)) := rfl
set_option maxRecDepth 100000 in
theorem ob_mc171 : lw_tbl[1161]? = some (Cond.code (ob_y 171) (ob_by 171) (ob_mx 171) (ob_rt 171)) := rfl
set_option maxRecDepth 100000 in
theorem ob_mc172 : lw_tbl[1178]? = some (Cond.code (ob_y 172) (ob_by 172) (ob_mx 172) (ob_rt 172)) := rfl
set_option maxRecDepth 100000 in
theorem ob_mc173 : lw_tbl[1173]? = some (Cond.code (ob_y 173) (ob_by 173) (ob_mx 173) (ob_rt 173)) := rfl
set_option maxRecDepth 100000 in
theorem ob_mc174 : lw_tbl[1191]? = some (Cond.code (ob_y 174) (ob_by 174) (ob_mx 174) (ob_rt 174)) := rfl
set_option maxRecDepth 100000 in
theorem ob_mc175 : lw_tbl[1186]? = some (Cond.code (ob_y 175) (ob_by 175) (ob_mx 175) (ob_rt 175)) := rfl
set_option maxRecDepth 100000 in
theorem ob_mc176 : lw_tbl[1219]? = some (Cond.code (ob_y 176) (ob_by 176) (ob_mx 176) (ob_rt 176)) := rfl
set_option maxRecDepth 100000 in
theorem ob_mc177 : lw_tbl[1227]? = some (Cond.code (ob_y 177) (ob_by 177) (ob_mx 177) (ob_rt 177)) := rfl
set_option maxRecDepth 100000 in
theorem ob_mc178 : lw_tbl[1223]? = some (Cond.code (ob_y 178) (ob_by 178) (ob_mx 178) (ob_rt 178)) := rfl
set_option maxRecDepth 100000 in
theorem ob_mc179 : lw_tbl[1254]? = some (Cond.code (ob_y 179) (ob_by 179) (ob_mx 179) (ob_rt 179)) := rfl
set_option maxRecDepth 100000 in
theorem ob_mc180 : lw_tbl[1250]? = some (Cond.code (ob_y 180) (ob_by 180) (ob_mx 180) (ob_rt 180)) := rfl
set_option maxRecDepth 100000 in
theorem ob_mc181 : lw_tbl[1247]? = some (Cond.code (ob_y 181) (ob_by 181) (ob_mx 181) (ob_rt 181)) := rfl
set_option maxRecDepth 100000 in
theorem ob_mc182 : lw_tbl[1239]? = some (Cond.code (ob_y 182) (ob_by 182) (ob_mx 182) (ob_rt 182)) := rfl
set_option maxRecDepth 100000 in
theorem ob_mc183 : lw_tbl[1235]? = some (Cond.code (ob_y 183) (ob_by 183) (ob_mx 183) (ob_rt 183)) := rfl
set_option maxRecDepth 100000 in
theorem ob_mc184 : lw_tbl[1215]? = some (Cond.code (ob_y 184) (ob_by 184) (ob_mx 184) (ob_rt 184)) := rfl
set_option maxRecDepth 100000 in
theorem ob_mc185 : lw_tbl[1262]? = some (Cond.code (ob_y 185) (ob_by 185) (ob_mx 185) (ob_rt 185)) := rfl
set_option maxRecDepth 100000 in
theorem ob_mc186 : lw_tbl[1258]? = some (Cond.code (ob_y 186) (ob_by 186) (ob_mx 186) (ob_rt 186)) := rfl
set_option maxRecDepth 100000 in
theorem ob_mc187 : lw_tbl[1211]? = some (Cond.code (ob_y 187) (ob_by 187) (ob_mx 187) (ob_rt 187)) := rfl
set_option maxRecDepth 100000 in
theorem ob_mc188 : lw_tbl[1270]? = some (Cond.code (ob_y 188) (ob_by 188) (ob_mx 188) (ob_rt 188)) := rfl
set_option maxRecDepth 100000 in
theorem ob_mc189 : lw_tbl[1274]? = some (Cond.code (ob_y 189) (ob_by 189) (ob_mx 189) (ob_rt 189)) := rfl
set_option maxRecDepth 100000 in
theorem ob_mc190 : lw_tbl[1266]? = some (Cond.code (ob_y 190) (ob_by 190) (ob_mx 190) (ob_rt 190)) := rfl
set_option maxRecDepth 100000 in
theorem ob_mc191 : lw_tbl[1278]? = some (Cond.code (ob_y 191) (ob_by 191) (ob_mx 191) (ob_rt 191)) := rfl
set_option maxRecDepth 100000 in
theorem ob_mc192 : lw_tbl[1298]? = some (Cond.code (ob_y 192) (ob_by 192) (ob_mx 192) (ob_rt 192)) := rfl
set_option maxRecDepth 100000 in
theorem ob_mc193 : lw_tbl[1294]? = some (Cond.code (ob_y 193) (ob_by 193) (ob_mx 193) (ob_rt 193)) := rfl
set_option maxRecDepth 100000 in
theorem ob_mc194 : lw_tbl[1302]? = some (Cond.code (ob_y 194) (ob_by 194) (ob_mx 194) (ob_rt 194)) := rfl
set_option maxRecDepth 100000 in
theorem ob_mc195 : lw_tbl[1290]? = some (Cond.code (ob_y 195) (ob_by 195) (ob_mx 195) (ob_rt 195)) := rfl
set_option maxRecDepth 100000 in
theorem ob_mc196 : lw_tbl[1286]? = some (Cond.code (ob_y 196) (ob_by 196) (ob_mx 196) (ob_rt 196)) := rfl
set_option maxRecDepth 100000 in
theorem ob_mc197 : lw_tbl[1282]? = some (Cond.code (ob_y 197) (ob_by 197) (ob_mx 197) (ob_rt 197)) := rfl
set_option maxRecDepth 100000 in
theorem ob_mc198 : lw_tbl[1328]? = some (Cond.code (ob_y 198) (ob_by 198) (ob_mx 198) (ob_rt 198)) := rfl
set_option maxRecDepth 100000 in
theorem ob_mc199 : lw_tbl[1324]? = some (Cond.code (ob_y 199) (ob_by 199) (ob_mx 199) (ob_rt 199)) := rfl
set_option maxRecDepth 100000 in
theorem ob_mc200 : lw_tbl[1316]? = some (Cond.code (ob_y 200) (ob_by 200) (ob_mx 200) (ob_rt 200)) := rfl
set_option maxRecDepth 100000 in
theorem ob_mc201 : lw_tbl[1320]? = some (Cond.code (ob_y 201) (ob_by 201) (ob_mx 201) (ob_rt 201)) := rfl
set_option maxRecDepth 100000 in
theorem ob_mc202 : lw_tbl[1312]? = some (Cond.code (ob_y 202) (ob_by 202) (ob_mx 202) (ob_rt 202)) := rfl
set_option maxRecDepth 100000 in
theorem ob_mc203 : lw_tbl[1352]? = some (Cond.code (ob_y 203) (ob_by 203) (ob_mx 203) (ob_rt 203)) := rfl
set_option maxRecDepth 100000 in
theorem ob_mc204 : lw_tbl[1376]? = some (Cond.code (ob_y 204) (ob_by 204) (ob_mx 204) (ob_rt 204)) := rfl
set_option maxRecDepth 100000 in
theorem ob_mc205 : lw_tbl[1332]? = some (Cond.code (ob_y 205) (ob_by 205) (ob_mx 205) (ob_rt 205)) := rfl
set_option maxRecDepth 100000 in
theorem ob_mc206 : lw_tbl[1336]? = some (Cond.code (ob_y 206) (ob_by 206) (ob_mx 206) (ob_rt 206)) := rfl
set_option maxRecDepth 100000 in
theorem ob_mc207 : lw_tbl[1307]? = some (Cond.code (ob_y 207) (ob_by 207) (ob_mx 207) (ob_rt 207)) := rfl
set_option maxRecDepth 100000 in
theorem ob_mc208 : lw_tbl[1340]? = some (Cond.code (ob_y 208) (ob_by 208) (ob_mx 208) (ob_rt 208)) := rfl
set_option maxRecDepth 100000 in
theorem ob_mc209 : lw_tbl[1364]? = some (Cond.code (ob_y 209) (ob_by 209) (ob_mx 209) (ob_rt 209)) := rfl
set_option maxRecDepth 100000 in
theorem ob_mc210 : lw_tbl[1356]? = some (Cond.code (ob_y 210) (ob_by 210) (ob_mx 210) (ob_rt 210)) := rfl
set_option maxRecDepth 100000 in
theorem ob_mc211 : lw_tbl[1360]? = some (Cond.code (ob_y 211) (ob_by 211) (ob_mx 211) (ob_rt 211)) := rfl
set_option maxRecDepth 100000 in
theorem ob_mc212 : lw_tbl[1348]? = some (Cond.code (ob_y 212) (ob_by 212) (ob_mx 212) (ob_rt 212)) := rfl
set_option maxRecDepth 100000 in
theorem ob_mc213 : lw_tbl[1344]? = some (Cond.code (ob_y 213) (ob_by 213) (ob_mx 213) (ob_rt 213)) := rfl
set_option maxRecDepth 100000 in
theorem ob_mc214 : lw_tbl[1372]? = some (Cond.code (ob_y 214) (ob_by 214) (ob_mx 214) (ob_rt 214)) := rfl
set_option maxRecDepth 100000 in
theorem ob_mc215 : lw_tbl[1368]? = some (Cond.code (ob_y 215) (ob_by 215) (ob_mx 215) (ob_rt 215)) := rfl
set_option maxRecDepth 100000 in
theorem ob_mc216 : lw_tbl[1380]? = some (Cond.code (ob_y 216) (ob_by 216) (ob_mx 216) (ob_rt 216)) := rfl
set_option maxRecDepth 100000 in
theorem ob_mc217 : lw_tbl[1384]? = some (Cond.code (ob_y 217) (ob_by 217) (ob_mx 217) (ob_rt 217)) := rfl
set_option maxRecDepth 100000 in
theorem ob_mc218 : lw_tbl[1389]? = some (Cond.code (ob_y 218) (ob_by 218) (ob_mx 218) (ob_rt 218)) := rfl
set_option maxRecDepth 100000 in
theorem ob_mc219 : lw_tbl[1397]? = some (Cond.code (ob_y 219) (ob_by 219) (ob_mx 219) (ob_rt 219)) := rfl
set_option maxRecDepth 100000 in
theorem ob_mc220 : lw_tbl[1393]? = some (Cond.code (ob_y 220) (ob_by 220) (ob_mx 220) (ob_rt 220)) := rfl
set_option maxRecDepth 100000 in
theorem ob_mc221 : lw_tbl[1405]? = some (Cond.code (ob_y 221) (ob_by 221) (ob_mx 221) (ob_rt 221)) := rfl
set_option maxRecDepth 100000 in
theorem ob_mc222 : lw_tbl[1401]? = some (Cond.code (ob_y 222) (ob_by 222) (ob_mx 222) (ob_rt 222)) := rfl
set_option maxRecDepth 100000 in
theorem ob_mc223 : lw_tbl[1409]? = some (Cond.code (ob_y 223) (ob_by 223) (ob_mx 223) (ob_rt 223)) := rfl
set_option maxRecDepth 100000 in
theorem ob_mc224 : lw_tbl[1413]? = some (Cond.code (ob_y 224) (ob_by 224) (ob_mx 224) (ob_rt 224)) := rfl
set_option maxRecDepth 100000 in
theorem ob_mc225 : lw_tbl[1418]? = some (Cond.code (ob_y 225) (ob_by 225) (ob_mx 225) (ob_rt 225)) := rfl
set_option maxRecDepth 100000 in
theorem ob_mc226 : lw_tbl[1430]? = some (Cond.code (ob_y 226) (ob_by 226) (ob_mx 226) (ob_rt 226)) := rfl
set_option maxRecDepth 100000 in
theorem ob_mc227 : lw_tbl[1438]? = some (Cond.code (ob_y 227) (ob_by 227) (ob_mx 227) (ob_rt 227)) := rfl
set_option maxRecDepth 100000 in
theorem ob_mc228 : lw_tbl[1434]? = some (Cond.code (ob_y 228) (ob_by 228) (ob_mx 228) (ob_rt 228)) := rfl
set_option maxRecDepth 100000 in
theorem ob_mc229 : lw_tbl[1444]? = some (Cond.code (ob_y 229) (ob_by 229) (ob_mx 229) (ob_rt 229)) := rfl
set_option maxRecDepth 100000 in
theorem ob_mc230 : lw_tbl[1448]? = some (Cond.code (ob_y 230) (ob_by 230) (ob_mx 230) (ob_rt 230)) := rfl
set_option maxRecDepth 100000 in
theorem ob_mc231 : lw_tbl[1426]? = some (Cond.code (ob_y 231) (ob_by 231) (ob_mx 231) (ob_rt 231)) := rfl
set_option maxRecDepth 100000 in
theorem ob_mc232 : lw_tbl[1422]? = some (Cond.code (ob_y 232) (ob_by 232) (ob_mx 232) (ob_rt 232)) := rfl
set_option maxRecDepth 100000 in
theorem ob_mc233 : lw_tbl[1452]? = some (Cond.code (ob_y 233) (ob_by 233) (ob_mx 233) (ob_rt 233)) := rfl
set_option maxRecDepth 100000 in
theorem ob_mc234 : lw_tbl[1456]? = some (Cond.code (ob_y 234) (ob_by 234) (ob_mx 234) (ob_rt 234)) := rfl
set_option maxRecDepth 100000 in
theorem ob_mc235 : lw_tbl[1465]? = some (Cond.code (ob_y 235) (ob_by 235) (ob_mx 235) (ob_rt 235)) := rfl
set_option maxRecDepth 100000 in
theorem ob_mc236 : lw_tbl[1460]? = some (Cond.code (ob_y 236) (ob_by 236) (ob_mx 236) (ob_rt 236)) := rfl
set_option maxRecDepth 100000 in
theorem ob_mc237 : lw_tbl[1469]? = some (Cond.code (ob_y 237) (ob_by 237) (ob_mx 237) (ob_rt 237)) := rfl
set_option maxRecDepth 100000 in
theorem ob_mc239 : lw_tbl[232]? = some (Cond.code (ob_y 239) (ob_by 239) (ob_mx 239) (ob_rt 239)) := rfl
theorem ob_MCk : ∀ f, f < 240 → f ≠ 238 → Cond.code (ob_y f) (ob_by f) (ob_mx f) (ob_rt f) ∈ lw_tbl := by
  intro f h1 h2
  match f, h1, h2 with
  | 0, _, _ => exact List.mem_of_getElem? ob_mc0
  | 1, _, _ => exact List.mem_of_getElem? ob_mc1
  | 2, _, _ => exact List.mem_of_getElem? ob_mc2
  | 3, _, _ => exact List.mem_of_getElem? ob_mc3
  | 4, _, _ => exact List.mem_of_getElem? ob_mc4
  | 5, _, _ => exact List.mem_of_getElem? ob_mc5
  | 6, _, _ => exact List.mem_of_getElem? ob_mc6
  | 7, _, _ => exact List.mem_of_getElem? ob_mc7
  | 8, _, _ => exact List.mem_of_getElem? ob_mc8
  | 9, _, _ => exact List.mem_of_getElem? ob_mc9
  | 10, _, _ => exact List.mem_of_getElem? ob_mc10
  | 11, _, _ => exact List.mem_of_getElem? ob_mc11
  | 12, _, _ => exact List.mem_of_getElem? ob_mc12
  | 13, _, _ => exact List.mem_of_getElem? ob_mc13
  | 14, _, _ => exact List.mem_of_getElem? ob_mc14
  | 15, _, _ => exact List.mem_of_getElem? ob_mc15
  | 16, _, _ => exact List.mem_of_getElem? ob_mc16
  | 17, _, _ => exact List.mem_of_getElem? ob_mc17
  | 18, _, _ => exact List.mem_of_getElem? ob_mc18
  | 19, _, _ => exact List.mem_of_getElem? ob_mc19
  | 20, _, _ => exact List.mem_of_getElem? ob_mc20
  | 21, _, _ => exact List.mem_of_getElem? ob_mc21
  | 22, _, _ => exact List.mem_of_getElem? ob_mc22
  | 23, _, _ => exact List.mem_of_getElem? ob_mc23
  | 24, _, _ => exact List.mem_of_getElem? ob_mc24
  | 25, _, _ => exact List.mem_of_getElem? ob_mc25
  | 26, _, _ => exact List.mem_of_getElem? ob_mc26
  | 27, _, _ => exact List.mem_of_getElem? ob_mc27
  | 28, _, _ => exact List.mem_of_getElem? ob_mc28
  | 29, _, _ => exact List.mem_of_getElem? ob_mc29
  | 30, _, _ => exact List.mem_of_getElem? ob_mc30
  | 31, _, _ => exact List.mem_of_getElem? ob_mc31
  | 32, _, _ => exact List.mem_of_getElem? ob_mc32
  | 33, _, _ => exact List.mem_of_getElem? ob_mc33
  | 34, _, _ => exact List.mem_of_getElem? ob_mc34
  | 35, _, _ => exact List.mem_of_getElem? ob_mc35
  | 36, _, _ => exact List.mem_of_getElem? ob_mc36
  | 37, _, _ => exact List.mem_of_getElem? ob_mc37
  | 38, _, _ => exact List.mem_of_getElem? ob_mc38
  | 39, _, _ => exact List.mem_of_getElem? ob_mc39
  | 40, _, _ => exact List.mem_of_getElem? ob_mc40
  | 41, _, _ => exact List.mem_of_getElem? ob_mc41
  | 42, _, _ => exact List.mem_of_getElem? ob_mc42
  | 43, _, _ => exact List.mem_of_getElem? ob_mc43
  | 44, _, _ => exact List.mem_of_getElem? ob_mc44
  | 45, _, _ => exact List.mem_of_getElem? ob_mc45
  | 46, _, _ => exact List.mem_of_getElem? ob_mc46
  | 47, _, _ => exact List.mem_of_getElem? ob_mc47
  | 48, _, _ => exact List.mem_of_getElem? ob_mc48
  | 49, _, _ => exact List.mem_of_getElem? ob_mc49
  | 50, _, _ => exact List.mem_of_getElem? ob_mc50
  | 51, _, _ => exact List.mem_of_getElem? ob_mc51
  | 52, _, _ => exact List.mem_of_getElem? ob_mc52
  | 53, _, _ => exact List.mem_of_getElem? ob_mc53
  | 54, _, _ => exact List.mem_of_getElem? ob_mc54
  | 55, _, _ => exact List.mem_of_getElem? ob_mc55
  | 56, _, _ => exact List.mem_of_getElem? ob_mc56
  | 57, _, _ => exact List.mem_of_getElem? ob_mc57
  | 58, _, _ => exact List.mem_of_getElem? ob_mc58
  | 59, _, _ => exact List.mem_of_getElem? ob_mc59
  | 60, _, _ => exact List.mem_of_getElem? ob_mc60
  | 61, _, _ => exact List.mem_of_getElem? ob_mc61
  | 62, _, _ => exact List.mem_of_getElem? ob_mc62
  | 63, _, _ => exact List.mem_of_getElem? ob_mc63
  | 64, _, _ => exact List.mem_of_getElem? ob_mc64
  | 65, _, _ => exact List.mem_of_getElem? ob_mc65
  | 66, _, _ => exact List.mem_of_getElem? ob_mc66
  | 67, _, _ => exact List.mem_of_getElem? ob_mc67
  | 68, _, _ => exact List.mem_of_getElem? ob_mc68
  | 69, _, _ => exact List.mem_of_getElem? ob_mc69
  | 70, _, _ => exact List.mem_of_getElem? ob_mc70
  | 71, _, _ => exact List.mem_of_getElem? ob_mc71
  | 72, _, _ => exact List.mem_of_getElem? ob_mc72
  | 73, _, _ => exact List.mem_of_getElem? ob_mc73
  | 74, _, _ => exact List.mem_of_getElem? ob_mc74
  | 75, _, _ => exact List.mem_of_getElem? ob_mc75
  | 76, _, _ => exact List.mem_of_getElem? ob_mc76
  | 77, _, _ => exact List.mem_of_getElem? ob_mc77
  | 78, _, _ => exact List.mem_of_getElem? ob_mc78
  | 79, _, _ => exact List.mem_of_getElem? ob_mc79
  | 80, _, _ => exact List.mem_of_getElem? ob_mc80
  | 81, _, _ => exact List.mem_of_getElem? ob_mc81
  | 82, _, _ => exact List.mem_of_getElem? ob_mc82
  | 83, _, _ => exact List.mem_of_getElem? ob_mc83
  | 84, _, _ => exact List.mem_of_getElem? ob_mc84
  | 85, _, _ => exact List.mem_of_getElem? ob_mc85
  | 86, _, _ => exact List.mem_of_getElem? ob_mc86
  | 87, _, _ => exact List.mem_of_getElem? ob_mc87
  | 88, _, _ => exact List.mem_of_getElem? ob_mc88
  | 89, _, _ => exact List.mem_of_getElem? ob_mc89
  | 90, _, _ => exact List.mem_of_getElem? ob_mc90
  | 91, _, _ => exact List.mem_of_getElem? ob_mc91
  | 92, _, _ => exact List.mem_of_getElem? ob_mc92
  | 93, _, _ => exact List.mem_of_getElem? ob_mc93
  | 94, _, _ => exact List.mem_of_getElem? ob_mc94
  | 95, _, _ => exact List.mem_of_getElem? ob_mc95
  | 96, _, _ => exact List.mem_of_getElem? ob_mc96
  | 97, _, _ => exact List.mem_of_getElem? ob_mc97
  | 98, _, _ => exact List.mem_of_getElem? ob_mc98
  | 99, _, _ => exact List.mem_of_getElem? ob_mc99
  | 100, _, _ => exact List.mem_of_getElem? ob_mc100
  | 101, _, _ => exact List.mem_of_getElem? ob_mc101
  | 102, _, _ => exact List.mem_of_getElem? ob_mc102
  | 103, _, _ => exact List.mem_of_getElem? ob_mc103
  | 104, _, _ => exact List.mem_of_getElem? ob_mc104
  | 105, _, _ => exact List.mem_of_getElem? ob_mc105
  | 106, _, _ => exact List.mem_of_getElem? ob_mc106
  | 107, _, _ => exact List.mem_of_getElem? ob_mc107
  | 108, _, _ => exact List.mem_of_getElem? ob_mc108
  | 109, _, _ => exact List.mem_of_getElem? ob_mc109
  | 110, _, _ => exact List.mem_of_getElem? ob_mc110
  | 111, _, _ => exact List.mem_of_getElem? ob_mc111
  | 112, _, _ => exact List.mem_of_getElem? ob_mc112
  | 113, _, _ => exact List.mem_of_getElem? ob_mc113
  | 114, _, _ => exact List.mem_of_getElem? ob_mc114
  | 115, _, _ => exact List.mem_of_getElem? ob_mc115
  | 116, _, _ => exact List.mem_of_getElem? ob_mc116
  | 117, _, _ => exact List.mem_of_getElem? ob_mc117
  | 118, _, _ => exact List.mem_of_getElem? ob_mc118
  | 119, _, _ => exact List.mem_of_getElem? ob_mc119
  | 120, _, _ => exact List.mem_of_getElem? ob_mc120
  | 121, _, _ => exact List.mem_of_getElem? ob_mc121
  | 122, _, _ => exact List.mem_of_getElem? ob_mc122
  | 123, _, _ => exact List.mem_of_getElem? ob_mc123
  | 124, _, _ => exact List.mem_of_getElem? ob_mc124
  | 125, _, _ => exact List.mem_of_getElem? ob_mc125
  | 126, _, _ => exact List.mem_of_getElem? ob_mc126
  | 127, _, _ => exact List.mem_of_getElem? ob_mc127
  | 128, _, _ => exact List.mem_of_getElem? ob_mc128
  | 129, _, _ => exact List.mem_of_getElem? ob_mc129
  | 130, _, _ => exact List.mem_of_getElem? ob_mc130
  | 131, _, _ => exact List.mem_of_getElem? ob_mc131
  | 132, _, _ => exact List.mem_of_getElem? ob_mc132
  | 133, _, _ => exact List.mem_of_getElem? ob_mc133
  | 134, _, _ => exact List.mem_of_getElem? ob_mc134
  | 135, _, _ => exact List.mem_of_getElem? ob_mc135
  | 136, _, _ => exact List.mem_of_getElem? ob_mc136
  | 137, _, _ => exact List.mem_of_getElem? ob_mc137
  | 138, _, _ => exact List.mem_of_getElem? ob_mc138
  | 139, _, _ => exact List.mem_of_getElem? ob_mc139
  | 140, _, _ => exact List.mem_of_getElem? ob_mc140
  | 141, _, _ => exact List.mem_of_getElem? ob_mc141
  | 142, _, _ => exact List.mem_of_getElem? ob_mc142
  | 143, _, _ => exact List.mem_of_getElem? ob_mc143
  | 144, _, _ => exact List.mem_of_getElem? ob_mc144
  | 145, _, _ => exact List.mem_of_getElem? ob_mc145
  | 146, _, _ => exact List.mem_of_getElem? ob_mc146
  | 147, _, _ => exact List.mem_of_getElem? ob_mc147
  | 148, _, _ => exact List.mem_of_getElem? ob_mc148
  | 149, _, _ => exact List.mem_of_getElem? ob_mc149
  | 150, _, _ => exact List.mem_of_getElem? ob_mc150
  | 151, _, _ => exact List.mem_of_getElem? ob_mc151
  | 152, _, _ => exact List.mem_of_getElem? ob_mc152
  | 153, _, _ => exact List.mem_of_getElem? ob_mc153
  | 154, _, _ => exact List.mem_of_getElem? ob_mc154
  | 155, _, _ => exact List.mem_of_getElem? ob_mc155
  | 156, _, _ => exact List.mem_of_getElem? ob_mc156
  | 157, _, _ => exact List.mem_of_getElem? ob_mc157
  | 158, _, _ => exact List.mem_of_getElem? ob_mc158
  | 159, _, _ => exact List.mem_of_getElem? ob_mc159
  | 160, _, _ => exact List.mem_of_getElem? ob_mc160
  | 161, _, _ => exact List.mem_of_getElem? ob_mc161
  | 162, _, _ => exact List.mem_of_getElem? ob_mc162
  | 163, _, _ => exact List.mem_of_getElem? ob_mc163
  | 164, _, _ => exact List.mem_of_getElem? ob_mc164
  | 165, _, _ => exact List.mem_of_getElem? ob_mc165
  | 166, _, _ => exact List.mem_of_getElem? ob_mc166
  | 167, _, _ => exact List.mem_of_getElem? ob_mc167
  | 168, _, _ => exact List.mem_of_getElem? ob_mc168
  | 169, _, _ => exact List.mem_of_getElem? ob_mc169
  | 170, _, _ => exact List.mem_of_getElem? ob_mc170
  | 171, _, _ => exact List.mem_of_getElem? ob_mc171
  | 172, _, _ => exact List.mem_of_getElem? ob_mc172
  | 173, _, _ => exact List.mem_of_getElem? ob_mc173
  | 174, _, _ => exact List.mem_of_getElem? ob_mc174
  | 175, _, _ => exact List.mem_of_getElem? ob_mc175
  | 176, _, _ => exact List.mem_of_getElem? ob_mc176
  | 177, _, _ => exact List.mem_of_getElem? ob_mc177
  | 178, _, _ => exact List.mem_of_getElem? ob_mc178
  | 179, _, _ => exact List.mem_of_getElem? ob_mc179
  | 180, _, _ => exact List.mem_of_getElem? ob_mc180
  | 181, _, _ => exact List.mem_of_getElem? ob_mc181
  | 182, _, _ => exact List.mem_of_getElem? ob_mc182
  | 183, _, _ => exact List.mem_of_getElem? ob_mc183
  | 184, _, _ => exact List.mem_of_getElem? ob_mc184
  | 185, _, _ => exact List.mem_of_getElem? ob_mc185
  | 186, _, _ => exact List.mem_of_getElem? ob_mc186
  | 187, _, _ => exact List.mem_of_getElem? ob_mc187
  | 188, _, _ => exact List.mem_of_getElem? ob_mc188
  | 189, _, _ => exact List.mem_of_getElem? ob_mc189
  | 190, _, _ => exact List.mem_of_getElem? ob_mc190
  | 191, _, _ => exact List.mem_of_getElem? ob_mc191
  | 192, _, _ => exact List.mem_of_getElem? ob_mc192
  | 193, _, _ => exact List.mem_of_getElem? ob_mc193
  | 194, _, _ => exact List.mem_of_getElem? ob_mc194
  | 195, _, _ => exact List.mem_of_getElem? ob_mc195
  | 196, _, _ => exact List.mem_of_getElem? ob_mc196
  | 197, _, _ => exact List.mem_of_getElem? ob_mc197
  | 198, _, _ => exact List.mem_of_getElem? ob_mc198
  | 199, _, _ => exact List.mem_of_getElem? ob_mc199
  | 200, _, _ => exact List.mem_of_getElem? ob_mc200
  | 201, _, _ => exact List.mem_of_getElem? ob_mc201
  | 202, _, _ => exact List.mem_of_getElem? ob_mc202
  | 203, _, _ => exact List.mem_of_getElem? ob_mc203
  | 204, _, _ => exact List.mem_of_getElem? ob_mc204
  | 205, _, _ => exact List.mem_of_getElem? ob_mc205
  | 206, _, _ => exact List.mem_of_getElem? ob_mc206
  | 207, _, _ => exact List.mem_of_getElem? ob_mc207
  | 208, _, _ => exact List.mem_of_getElem? ob_mc208
  | 209, _, _ => exact List.mem_of_getElem? ob_mc209
  | 210, _, _ => exact List.mem_of_getElem? ob_mc210
  | 211, _, _ => exact List.mem_of_getElem? ob_mc211
  | 212, _, _ => exact List.mem_of_getElem? ob_mc212
  | 213, _, _ => exact List.mem_of_getElem? ob_mc213
  | 214, _, _ => exact List.mem_of_getElem? ob_mc214
  | 215, _, _ => exact List.mem_of_getElem? ob_mc215
  | 216, _, _ => exact List.mem_of_getElem? ob_mc216
  | 217, _, _ => exact List.mem_of_getElem? ob_mc217
  | 218, _, _ => exact List.mem_of_getElem? ob_mc218
  | 219, _, _ => exact List.mem_of_getElem? ob_mc219
  | 220, _, _ => exact List.mem_of_getElem? ob_mc220
  | 221, _, _ => exact List.mem_of_getElem? ob_mc221
  | 222, _, _ => exact List.mem_of_getElem? ob_mc222
  | 223, _, _ => exact List.mem_of_getElem? ob_mc223
  | 224, _, _ => exact List.mem_of_getElem? ob_mc224
  | 225, _, _ => exact List.mem_of_getElem? ob_mc225
  | 226, _, _ => exact List.mem_of_getElem? ob_mc226
  | 227, _, _ => exact List.mem_of_getElem? ob_mc227
  | 228, _, _ => exact List.mem_of_getElem? ob_mc228
  | 229, _, _ => exact List.mem_of_getElem? ob_mc229
  | 230, _, _ => exact List.mem_of_getElem? ob_mc230
  | 231, _, _ => exact List.mem_of_getElem? ob_mc231
  | 232, _, _ => exact List.mem_of_getElem? ob_mc232
  | 233, _, _ => exact List.mem_of_getElem? ob_mc233
  | 234, _, _ => exact List.mem_of_getElem? ob_mc234
  | 235, _, _ => exact List.mem_of_getElem? ob_mc235
  | 236, _, _ => exact List.mem_of_getElem? ob_mc236
  | 237, _, _ => exact List.mem_of_getElem? ob_mc237
  | 238, _, h2 => exact absurd rfl h2
  | 239, _, _ => exact List.mem_of_getElem? ob_mc239
  | n + 240, h1, _ => exact absurd h1 (by omega)
