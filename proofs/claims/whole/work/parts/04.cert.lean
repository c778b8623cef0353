/-! what the kernel counts out: the words of the methods and links stand in the tables -/
theorem FL_ok : FL.all okF = true := by decide +kernel
theorem ML_ok : ML.all okL = true := by decide +kernel
theorem CL_ok : CL.all okC = true := by decide +kernel
theorem MT_ok : (List.range NM).all okM = true := by decide +kernel
set_option maxRecDepth 20000 in
theorem cw0 : (tb 2)[223]? = some (.code (yN 0) (mC 0) (mL 0) (mR 0)) := rfl
set_option maxRecDepth 20000 in
theorem cw1 : (tb 2)[235]? = some (.code (yN 1) (mC 1) (mL 1) (mR 1)) := rfl
set_option maxRecDepth 20000 in
theorem cw2 : (tb 3)[7]? = some (.code (yN 2) (mC 2) (mL 2) (mR 2)) := rfl
set_option maxRecDepth 20000 in
theorem cw3 : (tb 3)[15]? = some (.code (yN 3) (mC 3) (mL 3) (mR 3)) := rfl
set_option maxRecDepth 20000 in
theorem cw4 : (tb 3)[59]? = some (.code (yN 4) (mC 4) (mL 4) (mR 4)) := rfl
set_option maxRecDepth 20000 in
theorem cw5 : (tb 3)[68]? = some (.code (yN 5) (mC 5) (mL 5) (mR 5)) := rfl
set_option maxRecDepth 20000 in
theorem cw6 : (tb 3)[19]? = some (.code (yN 6) (mC 6) (mL 6) (mR 6)) := rfl
set_option maxRecDepth 20000 in
theorem cw7 : (tb 3)[34]? = some (.code (yN 7) (mC 7) (mL 7) (mR 7)) := rfl
set_option maxRecDepth 20000 in
theorem cw8 : (tb 3)[95]? = some (.code (yN 8) (mC 8) (mL 8) (mR 8)) := rfl
set_option maxRecDepth 20000 in
theorem cw9 : (tb 3)[106]? = some (.code (yN 9) (mC 9) (mL 9) (mR 9)) := rfl
set_option maxRecDepth 20000 in
theorem cw10 : (tb 3)[136]? = some (.code (yN 10) (mC 10) (mL 10) (mR 10)) := rfl
set_option maxRecDepth 20000 in
theorem cw11 : (tb 3)[148]? = some (.code (yN 11) (mC 11) (mL 11) (mR 11)) := rfl
set_option maxRecDepth 20000 in
theorem cw12 : (tb 3)[158]? = some (.code (yN 12) (mC 12) (mL 12) (mR 12)) := rfl
set_option maxRecDepth 20000 in
theorem cw13 : (tb 3)[186]? = some (.code (yN 13) (mC 13) (mL 13) (mR 13)) := rfl
set_option maxRecDepth 20000 in
theorem cw14 : (tb 3)[200]? = some (.code (yN 14) (mC 14) (mL 14) (mR 14)) := rfl
set_option maxRecDepth 20000 in
theorem cw15 : (tb 3)[226]? = some (.code (yN 15) (mC 15) (mL 15) (mR 15)) := rfl
set_option maxRecDepth 20000 in
theorem cw16 : (tb 3)[236]? = some (.code (yN 16) (mC 16) (mL 16) (mR 16)) := rfl
set_option maxRecDepth 20000 in
theorem cw17 : (tb 4)[5]? = some (.code (yN 17) (mC 17) (mL 17) (mR 17)) := rfl
set_option maxRecDepth 20000 in
theorem cw18 : (tb 3)[161]? = some (.code (yN 18) (mC 18) (mL 18) (mR 18)) := rfl
set_option maxRecDepth 20000 in
theorem cw19 : (tb 4)[13]? = some (.code (yN 19) (mC 19) (mL 19) (mR 19)) := rfl
set_option maxRecDepth 20000 in
theorem cw20 : (tb 4)[17]? = some (.code (yN 20) (mC 20) (mL 20) (mR 20)) := rfl
set_option maxRecDepth 20000 in
theorem cw21 : (tb 4)[28]? = some (.code (yN 21) (mC 21) (mL 21) (mR 21)) := rfl
set_option maxRecDepth 20000 in
theorem cw22 : (tb 4)[32]? = some (.code (yN 22) (mC 22) (mL 22) (mR 22)) := rfl
set_option maxRecDepth 20000 in
theorem cw23 : (tb 4)[82]? = some (.code (yN 23) (mC 23) (mL 23) (mR 23)) := rfl
set_option maxRecDepth 20000 in
theorem cw24 : (tb 4)[86]? = some (.code (yN 24) (mC 24) (mL 24) (mR 24)) := rfl
set_option maxRecDepth 20000 in
theorem cw25 : (tb 4)[122]? = some (.code (yN 25) (mC 25) (mL 25) (mR 25)) := rfl
set_option maxRecDepth 20000 in
theorem cw26 : (tb 4)[126]? = some (.code (yN 26) (mC 26) (mL 26) (mR 26)) := rfl
set_option maxRecDepth 20000 in
theorem cw27 : (tb 4)[145]? = some (.code (yN 27) (mC 27) (mL 27) (mR 27)) := rfl
set_option maxRecDepth 20000 in
theorem cw28 : (tb 4)[151]? = some (.code (yN 28) (mC 28) (mL 28) (mR 28)) := rfl
set_option maxRecDepth 20000 in
theorem cw29 : (tb 4)[155]? = some (.code (yN 29) (mC 29) (mL 29) (mR 29)) := rfl
set_option maxRecDepth 20000 in
theorem cw30 : (tb 4)[159]? = some (.code (yN 30) (mC 30) (mL 30) (mR 30)) := rfl
set_option maxRecDepth 20000 in
theorem cw31 : (tb 4)[174]? = some (.code (yN 31) (mC 31) (mL 31) (mR 31)) := rfl
set_option maxRecDepth 20000 in
theorem cw32 : (tb 4)[188]? = some (.code (yN 32) (mC 32) (mL 32) (mR 32)) := rfl
set_option maxRecDepth 20000 in
theorem cw33 : (tb 4)[192]? = some (.code (yN 33) (mC 33) (mL 33) (mR 33)) := rfl
set_option maxRecDepth 20000 in
theorem cw34 : (tb 4)[209]? = some (.code (yN 34) (mC 34) (mL 34) (mR 34)) := rfl
set_option maxRecDepth 20000 in
theorem cw35 : (tb 4)[222]? = some (.code (yN 35) (mC 35) (mL 35) (mR 35)) := rfl
set_option maxRecDepth 20000 in
theorem cw36 : (tb 4)[238]? = some (.code (yN 36) (mC 36) (mL 36) (mR 36)) := rfl
set_option maxRecDepth 20000 in
theorem cw37 : (tb 5)[3]? = some (.code (yN 37) (mC 37) (mL 37) (mR 37)) := rfl
set_option maxRecDepth 20000 in
theorem cw38 : (tb 5)[35]? = some (.code (yN 38) (mC 38) (mL 38) (mR 38)) := rfl
set_option maxRecDepth 20000 in
theorem cw39 : (tb 5)[79]? = some (.code (yN 39) (mC 39) (mL 39) (mR 39)) := rfl
set_option maxRecDepth 20000 in
theorem cw40 : (tb 5)[87]? = some (.code (yN 40) (mC 40) (mL 40) (mR 40)) := rfl
set_option maxRecDepth 20000 in
theorem cw41 : (tb 4)[130]? = some (.code (yN 41) (mC 41) (mL 41) (mR 41)) := rfl
set_option maxRecDepth 20000 in
theorem cw42 : (tb 4)[134]? = some (.code (yN 42) (mC 42) (mL 42) (mR 42)) := rfl
set_option maxRecDepth 20000 in
theorem cw43 : (tb 5)[104]? = some (.code (yN 43) (mC 43) (mL 43) (mR 43)) := rfl
set_option maxRecDepth 20000 in
theorem cw44 : (tb 5)[97]? = some (.code (yN 44) (mC 44) (mL 44) (mR 44)) := rfl
set_option maxRecDepth 20000 in
theorem cw45 : (tb 5)[92]? = some (.code (yN 45) (mC 45) (mL 45) (mR 45)) := rfl
set_option maxRecDepth 20000 in
theorem cw46 : (tb 5)[101]? = some (.code (yN 46) (mC 46) (mL 46) (mR 46)) := rfl
set_option maxRecDepth 20000 in
theorem cw47 : (tb 6)[115]? = some (.code (yN 47) (mC 47) (mL 47) (mR 47)) := rfl
set_option maxRecDepth 20000 in
theorem cw48 : (tb 6)[190]? = some (.code (yN 48) (mC 48) (mL 48) (mR 48)) := rfl
set_option maxRecDepth 20000 in
theorem cw49 : (tb 5)[125]? = some (.code (yN 49) (mC 49) (mL 49) (mR 49)) := rfl
set_option maxRecDepth 20000 in
theorem cw50 : (tb 6)[123]? = some (.code (yN 50) (mC 50) (mL 50) (mR 50)) := rfl
set_option maxRecDepth 20000 in
theorem cw51 : (tb 6)[127]? = some (.code (yN 51) (mC 51) (mL 51) (mR 51)) := rfl
set_option maxRecDepth 20000 in
theorem cw52 : (tb 6)[135]? = some (.code (yN 52) (mC 52) (mL 52) (mR 52)) := rfl
set_option maxRecDepth 20000 in
theorem cw53 : (tb 6)[139]? = some (.code (yN 53) (mC 53) (mL 53) (mR 53)) := rfl
set_option maxRecDepth 20000 in
theorem cw54 : (tb 6)[147]? = some (.code (yN 54) (mC 54) (mL 54) (mR 54)) := rfl
set_option maxRecDepth 20000 in
theorem cw55 : (tb 5)[122]? = some (.code (yN 55) (mC 55) (mL 55) (mR 55)) := rfl
set_option maxRecDepth 20000 in
theorem cw56 : (tb 5)[129]? = some (.code (yN 56) (mC 56) (mL 56) (mR 56)) := rfl
set_option maxRecDepth 20000 in
theorem cw57 : (tb 5)[118]? = some (.code (yN 57) (mC 57) (mL 57) (mR 57)) := rfl
set_option maxRecDepth 20000 in
theorem cw58 : (tb 6)[131]? = some (.code (yN 58) (mC 58) (mL 58) (mR 58)) := rfl
set_option maxRecDepth 20000 in
theorem cw59 : (tb 5)[114]? = some (.code (yN 59) (mC 59) (mL 59) (mR 59)) := rfl
set_option maxRecDepth 20000 in
theorem cw60 : (tb 5)[133]? = some (.code (yN 60) (mC 60) (mL 60) (mR 60)) := rfl
set_option maxRecDepth 20000 in
theorem cw61 : (tb 6)[155]? = some (.code (yN 61) (mC 61) (mL 61) (mR 61)) := rfl
set_option maxRecDepth 20000 in
theorem cw62 : (tb 6)[171]? = some (.code (yN 62) (mC 62) (mL 62) (mR 62)) := rfl
set_option maxRecDepth 20000 in
theorem cw63 : (tb 6)[217]? = some (.code (yN 63) (mC 63) (mL 63) (mR 63)) := rfl
set_option maxRecDepth 20000 in
theorem cw64 : (tb 6)[225]? = some (.code (yN 64) (mC 64) (mL 64) (mR 64)) := rfl
set_option maxRecDepth 20000 in
theorem cw65 : (tb 6)[221]? = some (.code (yN 65) (mC 65) (mL 65) (mR 65)) := rfl
set_option maxRecDepth 20000 in
theorem cw66 : (tb 6)[213]? = some (.code (yN 66) (mC 66) (mL 66) (mR 66)) := rfl
set_option maxRecDepth 20000 in
theorem cw67 : (tb 6)[209]? = some (.code (yN 67) (mC 67) (mL 67) (mR 67)) := rfl
set_option maxRecDepth 20000 in
theorem cw68 : (tb 6)[179]? = some (.code (yN 68) (mC 68) (mL 68) (mR 68)) := rfl
set_option maxRecDepth 20000 in
theorem cw69 : (tb 7)[5]? = some (.code (yN 69) (mC 69) (mL 69) (mR 69)) := rfl
set_option maxRecDepth 20000 in
theorem cw70 : (tb 6)[237]? = some (.code (yN 70) (mC 70) (mL 70) (mR 70)) := rfl
set_option maxRecDepth 20000 in
theorem cw71 : (tb 6)[233]? = some (.code (yN 71) (mC 71) (mL 71) (mR 71)) := rfl
set_option maxRecDepth 20000 in
theorem cw72 : (tb 7)[17]? = some (.code (yN 72) (mC 72) (mL 72) (mR 72)) := rfl
set_option maxRecDepth 20000 in
theorem cw73 : (tb 7)[13]? = some (.code (yN 73) (mC 73) (mL 73) (mR 73)) := rfl
set_option maxRecDepth 20000 in
theorem cw74 : (tb 7)[21]? = some (.code (yN 74) (mC 74) (mL 74) (mR 74)) := rfl
set_option maxRecDepth 20000 in
theorem cw75 : (tb 7)[9]? = some (.code (yN 75) (mC 75) (mL 75) (mR 75)) := rfl
set_option maxRecDepth 20000 in
theorem cw76 : (tb 7)[29]? = some (.code (yN 76) (mC 76) (mL 76) (mR 76)) := rfl
set_option maxRecDepth 20000 in
theorem cw77 : (tb 7)[37]? = some (.code (yN 77) (mC 77) (mL 77) (mR 77)) := rfl
set_option maxRecDepth 20000 in
theorem cw78 : (tb 6)[107]? = some (.code (yN 78) (mC 78) (mL 78) (mR 78)) := rfl
set_option maxRecDepth 20000 in
theorem cw79 : (tb 6)[201]? = some (.code (yN 79) (mC 79) (mL 79) (mR 79)) := rfl
set_option maxRecDepth 20000 in
theorem cw80 : (tb 6)[103]? = some (.code (yN 80) (mC 80) (mL 80) (mR 80)) := rfl
set_option maxRecDepth 20000 in
theorem cw81 : (tb 6)[119]? = some (.code (yN 81) (mC 81) (mL 81) (mR 81)) := rfl
set_option maxRecDepth 20000 in
theorem cw82 : (tb 6)[111]? = some (.code (yN 82) (mC 82) (mL 82) (mR 82)) := rfl
set_option maxRecDepth 20000 in
theorem cw83 : (tb 6)[143]? = some (.code (yN 83) (mC 83) (mL 83) (mR 83)) := rfl
set_option maxRecDepth 20000 in
theorem cw84 : (tb 6)[151]? = some (.code (yN 84) (mC 84) (mL 84) (mR 84)) := rfl
set_option maxRecDepth 20000 in
theorem cw85 : (tb 6)[163]? = some (.code (yN 85) (mC 85) (mL 85) (mR 85)) := rfl
set_option maxRecDepth 20000 in
theorem cw86 : (tb 6)[167]? = some (.code (yN 86) (mC 86) (mL 86) (mR 86)) := rfl
set_option maxRecDepth 20000 in
theorem cw87 : (tb 6)[175]? = some (.code (yN 87) (mC 87) (mL 87) (mR 87)) := rfl
set_option maxRecDepth 20000 in
theorem cw88 : (tb 6)[159]? = some (.code (yN 88) (mC 88) (mL 88) (mR 88)) := rfl
set_option maxRecDepth 20000 in
theorem cw89 : (tb 6)[183]? = some (.code (yN 89) (mC 89) (mL 89) (mR 89)) := rfl
set_option maxRecDepth 20000 in
theorem cw90 : (tb 6)[187]? = some (.code (yN 90) (mC 90) (mL 90) (mR 90)) := rfl
set_option maxRecDepth 20000 in
theorem cw91 : (tb 6)[205]? = some (.code (yN 91) (mC 91) (mL 91) (mR 91)) := rfl
set_option maxRecDepth 20000 in
theorem cw92 : (tb 6)[198]? = some (.code (yN 92) (mC 92) (mL 92) (mR 92)) := rfl
set_option maxRecDepth 20000 in
theorem cw93 : (tb 6)[229]? = some (.code (yN 93) (mC 93) (mL 93) (mR 93)) := rfl
set_option maxRecDepth 20000 in
theorem cw94 : (tb 7)[1]? = some (.code (yN 94) (mC 94) (mL 94) (mR 94)) := rfl
set_option maxRecDepth 20000 in
theorem cw95 : (tb 7)[25]? = some (.code (yN 95) (mC 95) (mL 95) (mR 95)) := rfl
set_option maxRecDepth 20000 in
theorem cw96 : (tb 7)[33]? = some (.code (yN 96) (mC 96) (mL 96) (mR 96)) := rfl
set_option maxRecDepth 20000 in
theorem cw97 : (tb 7)[41]? = some (.code (yN 97) (mC 97) (mL 97) (mR 97)) := rfl
set_option maxRecDepth 20000 in
theorem cw98 : (tb 7)[73]? = some (.code (yN 98) (mC 98) (mL 98) (mR 98)) := rfl
set_option maxRecDepth 20000 in
theorem cw99 : (tb 7)[77]? = some (.code (yN 99) (mC 99) (mL 99) (mR 99)) := rfl
set_option maxRecDepth 20000 in
theorem cw100 : (tb 7)[57]? = some (.code (yN 100) (mC 100) (mL 100) (mR 100)) := rfl
set_option maxRecDepth 20000 in
theorem cw101 : (tb 7)[53]? = some (.code (yN 101) (mC 101) (mL 101) (mR 101)) := rfl
set_option maxRecDepth 20000 in
theorem cw102 : (tb 7)[49]? = some (.code (yN 102) (mC 102) (mL 102) (mR 102)) := rfl
set_option maxRecDepth 20000 in
theorem cw103 : (tb 7)[61]? = some (.code (yN 103) (mC 103) (mL 103) (mR 103)) := rfl
set_option maxRecDepth 20000 in
theorem cw104 : (tb 7)[45]? = some (.code (yN 104) (mC 104) (mL 104) (mR 104)) := rfl
set_option maxRecDepth 20000 in
theorem cw105 : (tb 7)[65]? = some (.code (yN 105) (mC 105) (mL 105) (mR 105)) := rfl
set_option maxRecDepth 20000 in
theorem cw106 : (tb 7)[69]? = some (.code (yN 106) (mC 106) (mL 106) (mR 106)) := rfl
set_option maxRecDepth 20000 in
theorem cw107 : (tb 7)[85]? = some (.code (yN 107) (mC 107) (mL 107) (mR 107)) := rfl
set_option maxRecDepth 20000 in
theorem cw108 : (tb 7)[81]? = some (.code (yN 108) (mC 108) (mL 108) (mR 108)) := rfl
set_option maxRecDepth 20000 in
theorem cw109 : (tb 7)[89]? = some (.code (yN 109) (mC 109) (mL 109) (mR 109)) := rfl
set_option maxRecDepth 20000 in
theorem cw110 : (tb 7)[114]? = some (.code (yN 110) (mC 110) (mL 110) (mR 110)) := rfl
set_option maxRecDepth 20000 in
theorem cw111 : (tb 7)[105]? = some (.code (yN 111) (mC 111) (mL 111) (mR 111)) := rfl
set_option maxRecDepth 20000 in
theorem cw112 : (tb 7)[101]? = some (.code (yN 112) (mC 112) (mL 112) (mR 112)) := rfl
set_option maxRecDepth 20000 in
theorem cw113 : (tb 7)[97]? = some (.code (yN 113) (mC 113) (mL 113) (mR 113)) := rfl
set_option maxRecDepth 20000 in
theorem cw114 : (tb 7)[109]? = some (.code (yN 114) (mC 114) (mL 114) (mR 114)) := rfl
set_option maxRecDepth 20000 in
theorem cw115 : (tb 7)[93]? = some (.code (yN 115) (mC 115) (mL 115) (mR 115)) := rfl
set_option maxRecDepth 20000 in
theorem cw116 : (tb 7)[118]? = some (.code (yN 116) (mC 116) (mL 116) (mR 116)) := rfl
set_option maxRecDepth 20000 in
theorem cw117 : (tb 7)[134]? = some (.code (yN 117) (mC 117) (mL 117) (mR 117)) := rfl
set_option maxRecDepth 20000 in
theorem cw118 : (tb 7)[148]? = some (.code (yN 118) (mC 118) (mL 118) (mR 118)) := rfl
set_option maxRecDepth 20000 in
theorem cw119 : (tb 7)[141]? = some (.code (yN 119) (mC 119) (mL 119) (mR 119)) := rfl
set_option maxRecDepth 20000 in
theorem cw120 : (tb 7)[137]? = some (.code (yN 120) (mC 120) (mL 120) (mR 120)) := rfl
set_option maxRecDepth 20000 in
theorem cw121 : (tb 7)[145]? = some (.code (yN 121) (mC 121) (mL 121) (mR 121)) := rfl
set_option maxRecDepth 20000 in
theorem cw122 : (tb 7)[130]? = some (.code (yN 122) (mC 122) (mL 122) (mR 122)) := rfl
set_option maxRecDepth 20000 in
theorem cw123 : (tb 7)[126]? = some (.code (yN 123) (mC 123) (mL 123) (mR 123)) := rfl
set_option maxRecDepth 20000 in
theorem cw124 : (tb 7)[122]? = some (.code (yN 124) (mC 124) (mL 124) (mR 124)) := rfl
set_option maxRecDepth 20000 in
theorem cw125 : (tb 7)[152]? = some (.code (yN 125) (mC 125) (mL 125) (mR 125)) := rfl
set_option maxRecDepth 20000 in
theorem cw126 : (tb 7)[168]? = some (.code (yN 126) (mC 126) (mL 126) (mR 126)) := rfl
set_option maxRecDepth 20000 in
theorem cw127 : (tb 7)[172]? = some (.code (yN 127) (mC 127) (mL 127) (mR 127)) := rfl
set_option maxRecDepth 20000 in
theorem cw128 : (tb 7)[176]? = some (.code (yN 128) (mC 128) (mL 128) (mR 128)) := rfl
set_option maxRecDepth 20000 in
theorem cw129 : (tb 7)[164]? = some (.code (yN 129) (mC 129) (mL 129) (mR 129)) := rfl
set_option maxRecDepth 20000 in
theorem cw130 : (tb 7)[160]? = some (.code (yN 130) (mC 130) (mL 130) (mR 130)) := rfl
set_option maxRecDepth 20000 in
theorem cw131 : (tb 7)[156]? = some (.code (yN 131) (mC 131) (mL 131) (mR 131)) := rfl
set_option maxRecDepth 20000 in
theorem cw132 : (tb 7)[180]? = some (.code (yN 132) (mC 132) (mL 132) (mR 132)) := rfl
set_option maxRecDepth 20000 in
theorem cw133 : (tb 7)[196]? = some (.code (yN 133) (mC 133) (mL 133) (mR 133)) := rfl
set_option maxRecDepth 20000 in
theorem cw134 : (tb 7)[192]? = some (.code (yN 134) (mC 134) (mL 134) (mR 134)) := rfl
set_option maxRecDepth 20000 in
theorem cw135 : (tb 7)[200]? = some (.code (yN 135) (mC 135) (mL 135) (mR 135)) := rfl
set_option maxRecDepth 20000 in
theorem cw136 : (tb 7)[188]? = some (.code (yN 136) (mC 136) (mL 136) (mR 136)) := rfl
set_option maxRecDepth 20000 in
theorem cw137 : (tb 7)[184]? = some (.code (yN 137) (mC 137) (mL 137) (mR 137)) := rfl
set_option maxRecDepth 20000 in
theorem cw138 : (tb 7)[208]? = some (.code (yN 138) (mC 138) (mL 138) (mR 138)) := rfl
set_option maxRecDepth 20000 in
theorem cw139 : (tb 7)[204]? = some (.code (yN 139) (mC 139) (mL 139) (mR 139)) := rfl
set_option maxRecDepth 20000 in
theorem cw140 : (tb 7)[216]? = some (.code (yN 140) (mC 140) (mL 140) (mR 140)) := rfl
set_option maxRecDepth 20000 in
theorem cw141 : (tb 7)[212]? = some (.code (yN 141) (mC 141) (mL 141) (mR 141)) := rfl
set_option maxRecDepth 20000 in
theorem cw142 : (tb 7)[220]? = some (.code (yN 142) (mC 142) (mL 142) (mR 142)) := rfl
set_option maxRecDepth 20000 in
theorem cw143 : (tb 7)[228]? = some (.code (yN 143) (mC 143) (mL 143) (mR 143)) := rfl
set_option maxRecDepth 20000 in
theorem cw144 : (tb 7)[224]? = some (.code (yN 144) (mC 144) (mL 144) (mR 144)) := rfl
set_option maxRecDepth 20000 in
theorem cw145 : (tb 7)[232]? = some (.code (yN 145) (mC 145) (mL 145) (mR 145)) := rfl
set_option maxRecDepth 20000 in
theorem cw146 : (tb 6)[194]? = some (.code (yN 146) (mC 146) (mL 146) (mR 146)) := rfl
set_option maxRecDepth 20000 in
theorem cw147 : (tb 8)[0]? = some (.code (yN 147) (mC 147) (mL 147) (mR 147)) := rfl
set_option maxRecDepth 20000 in
theorem cw148 : (tb 7)[236]? = some (.code (yN 148) (mC 148) (mL 148) (mR 148)) := rfl
set_option maxRecDepth 20000 in
theorem cw149 : (tb 8)[4]? = some (.code (yN 149) (mC 149) (mL 149) (mR 149)) := rfl
set_option maxRecDepth 20000 in
theorem cw150 : (tb 8)[8]? = some (.code (yN 150) (mC 150) (mL 150) (mR 150)) := rfl
set_option maxRecDepth 20000 in
theorem cw151 : (tb 8)[12]? = some (.code (yN 151) (mC 151) (mL 151) (mR 151)) := rfl
set_option maxRecDepth 20000 in
theorem cw152 : (tb 8)[20]? = some (.code (yN 152) (mC 152) (mL 152) (mR 152)) := rfl
set_option maxRecDepth 20000 in
theorem cw153 : (tb 8)[32]? = some (.code (yN 153) (mC 153) (mL 153) (mR 153)) := rfl
set_option maxRecDepth 20000 in
theorem cw154 : (tb 8)[24]? = some (.code (yN 154) (mC 154) (mL 154) (mR 154)) := rfl
set_option maxRecDepth 20000 in
theorem cw155 : (tb 8)[28]? = some (.code (yN 155) (mC 155) (mL 155) (mR 155)) := rfl
set_option maxRecDepth 20000 in
theorem cw156 : (tb 8)[40]? = some (.code (yN 156) (mC 156) (mL 156) (mR 156)) := rfl
set_option maxRecDepth 20000 in
theorem cw157 : (tb 8)[16]? = some (.code (yN 157) (mC 157) (mL 157) (mR 157)) := rfl
set_option maxRecDepth 20000 in
theorem cw158 : (tb 8)[36]? = some (.code (yN 158) (mC 158) (mL 158) (mR 158)) := rfl
set_option maxRecDepth 20000 in
theorem cw159 : (tb 8)[44]? = some (.code (yN 159) (mC 159) (mL 159) (mR 159)) := rfl
set_option maxRecDepth 20000 in
theorem cw160 : (tb 2)[163]? = some (.code (yN 160) (mC 160) (mL 160) (mR 160)) := rfl
set_option maxRecDepth 20000 in
theorem cw161 : (tb 3)[123]? = some (.code (yN 161) (mC 161) (mL 161) (mR 161)) := rfl
set_option maxRecDepth 20000 in
theorem cw162 : (tb 3)[165]? = some (.code (yN 162) (mC 162) (mL 162) (mR 162)) := rfl
set_option maxRecDepth 20000 in
theorem cw163 : (tb 3)[102]? = some (.code (yN 163) (mC 163) (mL 163) (mR 163)) := rfl
set_option maxRecDepth 20000 in
theorem cw164 : (tb 3)[119]? = some (.code (yN 164) (mC 164) (mL 164) (mR 164)) := rfl
set_option maxRecDepth 20000 in
theorem cw165 : (tb 3)[217]? = some (.code (yN 165) (mC 165) (mL 165) (mR 165)) := rfl
set_option maxRecDepth 20000 in
theorem cw166 : (tb 3)[131]? = some (.code (yN 166) (mC 166) (mL 166) (mR 166)) := rfl
set_option maxRecDepth 20000 in
theorem cw167 : (tb 3)[173]? = some (.code (yN 167) (mC 167) (mL 167) (mR 167)) := rfl
set_option maxRecDepth 20000 in
theorem cw168 : (tb 3)[182]? = some (.code (yN 168) (mC 168) (mL 168) (mR 168)) := rfl
set_option maxRecDepth 20000 in
theorem cw169 : (tb 3)[177]? = some (.code (yN 169) (mC 169) (mL 169) (mR 169)) := rfl
set_option maxRecDepth 20000 in
theorem cw170 : (tb 3)[169]? = some (.code (yN 170) (mC 170) (mL 170) (mR 170)) := rfl
set_option maxRecDepth 20000 in
theorem cw171 : (tb 4)[21]? = some (.code (yN 171) (mC 171) (mL 171) (mR 171)) := rfl
set_option maxRecDepth 20000 in
theorem cw172 : (tb 4)[138]? = some (.code (yN 172) (mC 172) (mL 172) (mR 172)) := rfl
set_option maxRecDepth 20000 in
theorem cw173 : (tb 2)[159]? = some (.code (yN 173) (mC 173) (mL 173) (mR 173)) := rfl
set_option maxRecDepth 20000 in
theorem cw174 : (tb 3)[115]? = some (.code (yN 174) (mC 174) (mL 174) (mR 174)) := rfl
set_option maxRecDepth 20000 in
theorem cw175 : (tb 3)[127]? = some (.code (yN 175) (mC 175) (mL 175) (mR 175)) := rfl
set_option maxRecDepth 20000 in
theorem cw176 : (tb 3)[142]? = some (.code (yN 176) (mC 176) (mL 176) (mR 176)) := rfl
set_option maxRecDepth 20000 in
theorem cw177 : (tb 3)[230]? = some (.code (yN 177) (mC 177) (mL 177) (mR 177)) := rfl
set_option maxRecDepth 20000 in
theorem cw178 : (tb 3)[204]? = some (.code (yN 178) (mC 178) (mL 178) (mR 178)) := rfl
set_option maxRecDepth 20000 in
theorem cw179 : (tb 3)[208]? = some (.code (yN 179) (mC 179) (mL 179) (mR 179)) := rfl
set_option maxRecDepth 20000 in
theorem cw180 : (tb 3)[221]? = some (.code (yN 180) (mC 180) (mL 180) (mR 180)) := rfl
set_option maxRecDepth 20000 in
theorem cw181 : (tb 3)[190]? = some (.code (yN 181) (mC 181) (mL 181) (mR 181)) := rfl
set_option maxRecDepth 20000 in
theorem cw182 : (tb 3)[213]? = some (.code (yN 182) (mC 182) (mL 182) (mR 182)) := rfl
set_option maxRecDepth 20000 in
theorem cw183 : (tb 3)[196]? = some (.code (yN 183) (mC 183) (mL 183) (mR 183)) := rfl
set_option maxRecDepth 20000 in
theorem cw184 : (tb 4)[0]? = some (.code (yN 184) (mC 184) (mL 184) (mR 184)) := rfl
set_option maxRecDepth 20000 in
theorem cw185 : (tb 4)[9]? = some (.code (yN 185) (mC 185) (mL 185) (mR 185)) := rfl
set_option maxRecDepth 20000 in
theorem cw186 : (tb 2)[231]? = some (.code (yN 186) (mC 186) (mL 186) (mR 186)) := rfl
set_option maxRecDepth 20000 in
theorem cw187 : (tb 3)[87]? = some (.code (yN 187) (mC 187) (mL 187) (mR 187)) := rfl
set_option maxRecDepth 20000 in
theorem cw188 : (tb 4)[116]? = some (.code (yN 188) (mC 188) (mL 188) (mR 188)) := rfl
set_option maxRecDepth 20000 in
theorem cw189 : (tb 4)[74]? = some (.code (yN 189) (mC 189) (mL 189) (mR 189)) := rfl
set_option maxRecDepth 20000 in
theorem cw190 : (tb 4)[78]? = some (.code (yN 190) (mC 190) (mL 190) (mR 190)) := rfl
set_option maxRecDepth 20000 in
theorem cw191 : (tb 3)[83]? = some (.code (yN 191) (mC 191) (mL 191) (mR 191)) := rfl
set_option maxRecDepth 20000 in
theorem cw192 : (tb 3)[91]? = some (.code (yN 192) (mC 192) (mL 192) (mR 192)) := rfl
set_option maxRecDepth 20000 in
theorem cw193 : (tb 3)[75]? = some (.code (yN 193) (mC 193) (mL 193) (mR 193)) := rfl
set_option maxRecDepth 20000 in
theorem cw194 : (tb 4)[226]? = some (.code (yN 194) (mC 194) (mL 194) (mR 194)) := rfl
set_option maxRecDepth 20000 in
theorem cw195 : (tb 4)[229]? = some (.code (yN 195) (mC 195) (mL 195) (mR 195)) := rfl
set_option maxRecDepth 20000 in
theorem cw196 : (tb 4)[163]? = some (.code (yN 196) (mC 196) (mL 196) (mR 196)) := rfl
set_option maxRecDepth 20000 in
theorem cw197 : (tb 4)[169]? = some (.code (yN 197) (mC 197) (mL 197) (mR 197)) := rfl
set_option maxRecDepth 20000 in
theorem cw198 : (tb 4)[178]? = some (.code (yN 198) (mC 198) (mL 198) (mR 198)) := rfl
set_option maxRecDepth 20000 in
theorem cw199 : (tb 4)[183]? = some (.code (yN 199) (mC 199) (mL 199) (mR 199)) := rfl
set_option maxRecDepth 20000 in
theorem cw200 : (tb 4)[196]? = some (.code (yN 200) (mC 200) (mL 200) (mR 200)) := rfl
set_option maxRecDepth 20000 in
theorem cw201 : (tb 4)[205]? = some (.code (yN 201) (mC 201) (mL 201) (mR 201)) := rfl
set_option maxRecDepth 20000 in
theorem cw202 : (tb 4)[200]? = some (.code (yN 202) (mC 202) (mL 202) (mR 202)) := rfl
set_option maxRecDepth 20000 in
theorem cw203 : (tb 4)[213]? = some (.code (yN 203) (mC 203) (mL 203) (mR 203)) := rfl
set_option maxRecDepth 20000 in
theorem cw204 : (tb 4)[218]? = some (.code (yN 204) (mC 204) (mL 204) (mR 204)) := rfl
set_option maxRecDepth 20000 in
theorem cw205 : (tb 5)[48]? = some (.code (yN 205) (mC 205) (mL 205) (mR 205)) := rfl
set_option maxRecDepth 20000 in
theorem cw206 : (tb 5)[52]? = some (.code (yN 206) (mC 206) (mL 206) (mR 206)) := rfl
set_option maxRecDepth 20000 in
theorem cw207 : (tb 5)[19]? = some (.code (yN 207) (mC 207) (mL 207) (mR 207)) := rfl
set_option maxRecDepth 20000 in
theorem cw208 : (tb 5)[43]? = some (.code (yN 208) (mC 208) (mL 208) (mR 208)) := rfl
set_option maxRecDepth 20000 in
theorem cw209 : (tb 5)[55]? = some (.code (yN 209) (mC 209) (mL 209) (mR 209)) := rfl
set_option maxRecDepth 20000 in
theorem cw210 : (tb 5)[7]? = some (.code (yN 210) (mC 210) (mL 210) (mR 210)) := rfl
set_option maxRecDepth 20000 in
theorem cw211 : (tb 5)[11]? = some (.code (yN 211) (mC 211) (mL 211) (mR 211)) := rfl
set_option maxRecDepth 20000 in
theorem cw212 : (tb 5)[15]? = some (.code (yN 212) (mC 212) (mL 212) (mR 212)) := rfl
set_option maxRecDepth 20000 in
theorem cw213 : (tb 5)[25]? = some (.code (yN 213) (mC 213) (mL 213) (mR 213)) := rfl
set_option maxRecDepth 20000 in
theorem cw214 : (tb 5)[39]? = some (.code (yN 214) (mC 214) (mL 214) (mR 214)) := rfl
set_option maxRecDepth 20000 in
theorem cw215 : (tb 5)[61]? = some (.code (yN 215) (mC 215) (mL 215) (mR 215)) := rfl
set_option maxRecDepth 20000 in
theorem cw216 : (tb 5)[70]? = some (.code (yN 216) (mC 216) (mL 216) (mR 216)) := rfl
set_option maxRecDepth 20000 in
theorem cw217 : (tb 5)[74]? = some (.code (yN 217) (mC 217) (mL 217) (mR 217)) := rfl
set_option maxRecDepth 20000 in
theorem cw218 : (tb 5)[65]? = some (.code (yN 218) (mC 218) (mL 218) (mR 218)) := rfl
set_option maxRecDepth 20000 in
theorem cw219 : (tb 5)[83]? = some (.code (yN 219) (mC 219) (mL 219) (mR 219)) := rfl
set_option maxRecDepth 20000 in
theorem cw220 : (tb 3)[27]? = some (.code (yN 220) (mC 220) (mL 220) (mR 220)) := rfl
set_option maxRecDepth 20000 in
theorem cw221 : (tb 3)[11]? = some (.code (yN 221) (mC 221) (mL 221) (mR 221)) := rfl
set_option maxRecDepth 20000 in
theorem cw222 : (tb 3)[3]? = some (.code (yN 222) (mC 222) (mL 222) (mR 222)) := rfl
set_option maxRecDepth 20000 in
theorem cw223 : (tb 2)[239]? = some (.code (yN 223) (mC 223) (mL 223) (mR 223)) := rfl
set_option maxRecDepth 20000 in
theorem cw224 : (tb 4)[234]? = some (.code (yN 224) (mC 224) (mL 224) (mR 224)) := rfl
set_option maxRecDepth 20000 in
theorem cw225 : (tb 3)[152]? = some (.code (yN 225) (mC 225) (mL 225) (mR 225)) := rfl
set_option maxRecDepth 20000 in
theorem cw226 : (tb 5)[31]? = some (.code (yN 226) (mC 226) (mL 226) (mR 226)) := rfl
set_option maxRecDepth 20000 in
theorem cw227 : (tb 3)[23]? = some (.code (yN 227) (mC 227) (mL 227) (mR 227)) := rfl
set_option maxRecDepth 20000 in
theorem cw228 : (tb 4)[90]? = some (.code (yN 228) (mC 228) (mL 228) (mR 228)) := rfl
set_option maxRecDepth 20000 in
theorem cw229 : (tb 4)[95]? = some (.code (yN 229) (mC 229) (mL 229) (mR 229)) := rfl
set_option maxRecDepth 20000 in
theorem cw230 : (tb 4)[104]? = some (.code (yN 230) (mC 230) (mL 230) (mR 230)) := rfl
set_option maxRecDepth 20000 in
theorem cw231 : (tb 4)[112]? = some (.code (yN 231) (mC 231) (mL 231) (mR 231)) := rfl
set_option maxRecDepth 20000 in
theorem cw232 : (tb 4)[99]? = some (.code (yN 232) (mC 232) (mL 232) (mR 232)) := rfl
set_option maxRecDepth 20000 in
theorem cw233 : (tb 4)[107]? = some (.code (yN 233) (mC 233) (mL 233) (mR 233)) := rfl
set_option maxRecDepth 20000 in
theorem cw234 : (tb 2)[227]? = some (.code (yN 234) (mC 234) (mL 234) (mR 234)) := rfl
set_option maxRecDepth 20000 in
theorem cw235 : (tb 2)[113]? = some (.code (yN 235) (mC 235) (mL 235) (mR 235)) := rfl
set_option maxRecDepth 20000 in
theorem cw236 : (tb 2)[109]? = some (.code (yN 236) (mC 236) (mL 236) (mR 236)) := rfl
set_option maxRecDepth 20000 in
theorem cw237 : (tb 2)[155]? = some (.code (yN 237) (mC 237) (mL 237) (mR 237)) := rfl
set_option maxRecDepth 20000 in
theorem cw238 : (tb 3)[110]? = some (.code (yN 238) (mC 238) (mL 238) (mR 238)) := rfl
set_option maxRecDepth 20000 in
theorem cw239 : (tb 3)[38]? = some (.code (yN 239) (mC 239) (mL 239) (mR 239)) := rfl
set_option maxRecDepth 20000 in
theorem cw240 : (tb 3)[42]? = some (.code (yN 240) (mC 240) (mL 240) (mR 240)) := rfl
set_option maxRecDepth 20000 in
theorem cw241 : (tb 3)[53]? = some (.code (yN 241) (mC 241) (mL 241) (mR 241)) := rfl
set_option maxRecDepth 20000 in
theorem cw242 : (tb 3)[64]? = some (.code (yN 242) (mC 242) (mL 242) (mR 242)) := rfl
set_option maxRecDepth 20000 in
theorem cw243 : (tb 4)[36]? = some (.code (yN 243) (mC 243) (mL 243) (mR 243)) := rfl
set_option maxRecDepth 20000 in
theorem cw244 : (tb 4)[40]? = some (.code (yN 244) (mC 244) (mL 244) (mR 244)) := rfl
set_option maxRecDepth 20000 in
theorem cw245 : (tb 4)[45]? = some (.code (yN 245) (mC 245) (mL 245) (mR 245)) := rfl
set_option maxRecDepth 20000 in
theorem cw246 : (tb 4)[49]? = some (.code (yN 246) (mC 246) (mL 246) (mR 246)) := rfl
set_option maxRecDepth 20000 in
theorem cw247 : (tb 4)[54]? = some (.code (yN 247) (mC 247) (mL 247) (mR 247)) := rfl
set_option maxRecDepth 20000 in
theorem cw248 : (tb 4)[65]? = some (.code (yN 248) (mC 248) (mL 248) (mR 248)) := rfl
set_option maxRecDepth 20000 in
theorem cw249 : (tb 4)[60]? = some (.code (yN 249) (mC 249) (mL 249) (mR 249)) := rfl
set_option maxRecDepth 20000 in
theorem cw250 : (tb 4)[69]? = some (.code (yN 250) (mC 250) (mL 250) (mR 250)) := rfl
set_option maxRecDepth 20000 in
theorem cw251 : (tb 2)[148]? = some (.code (yN 251) (mC 251) (mL 251) (mR 251)) := rfl
set_option maxRecDepth 20000 in
theorem cw252 : (tb 2)[105]? = some (.code (yN 252) (mC 252) (mL 252) (mR 252)) := rfl
set_option maxRecDepth 20000 in
theorem cw253 : (tb 2)[117]? = some (.code (yN 253) (mC 253) (mL 253) (mR 253)) := rfl
set_option maxRecDepth 20000 in
theorem cw254 : (tb 2)[129]? = some (.code (yN 254) (mC 254) (mL 254) (mR 254)) := rfl
set_option maxRecDepth 20000 in
theorem cw255 : (tb 2)[133]? = some (.code (yN 255) (mC 255) (mL 255) (mR 255)) := rfl
set_option maxRecDepth 20000 in
theorem cw256 : (tb 2)[144]? = some (.code (yN 256) (mC 256) (mL 256) (mR 256)) := rfl
set_option maxRecDepth 20000 in
theorem cw257 : (tb 3)[49]? = some (.code (yN 257) (mC 257) (mL 257) (mR 257)) := rfl
set_option maxRecDepth 20000 in
theorem cw258 : (tb 2)[140]? = some (.code (yN 258) (mC 258) (mL 258) (mR 258)) := rfl
set_option maxRecDepth 20000 in
theorem cw259 : (tb 2)[120]? = some (.code (yN 259) (mC 259) (mL 259) (mR 259)) := rfl
set_option maxRecDepth 20000 in
theorem cw260 : (tb 3)[79]? = some (.code (yN 260) (mC 260) (mL 260) (mR 260)) := rfl
set_option maxRecDepth 20000 in
theorem cw261 : (tb 2)[151]? = some (.code (yN 261) (mC 261) (mL 261) (mR 261)) := rfl
set_option maxRecDepth 20000 in
theorem cw262 : (tb 3)[30]? = some (.code (yN 262) (mC 262) (mL 262) (mR 262)) := rfl
set_option maxRecDepth 20000 in
theorem cw263 : (tb 2)[123]? = some (.code (yN 263) (mC 263) (mL 263) (mR 263)) := rfl
set_option maxRecDepth 20000 in
theorem cw264 : (tb 3)[71]? = some (.code (yN 264) (mC 264) (mL 264) (mR 264)) := rfl
def cwP (k : Nat) : Prop := Cond.code (yN k) (mC k) (mL k) (mR k) ∈ lw_tbl
theorem tb_0 {w : Cond} (h : w ∈ tb 0) : w ∈ lw_tbl := List.mem_append_left _ h
theorem tb_1 {w : Cond} (h : w ∈ tb 1) : w ∈ lw_tbl := List.mem_append_right _ (List.mem_append_left _ h)
theorem tb_2 {w : Cond} (h : w ∈ tb 2) : w ∈ lw_tbl := List.mem_append_right _ (List.mem_append_right _ (List.mem_append_left _ h))
theorem tb_3 {w : Cond} (h : w ∈ tb 3) : w ∈ lw_tbl := List.mem_append_right _ (List.mem_append_right _ (List.mem_append_right _ (List.mem_append_left _ h)))
theorem tb_4 {w : Cond} (h : w ∈ tb 4) : w ∈ lw_tbl := List.mem_append_right _ (List.mem_append_right _ (List.mem_append_right _ (List.mem_append_right _ (List.mem_append_left _ h))))
theorem tb_5 {w : Cond} (h : w ∈ tb 5) : w ∈ lw_tbl := List.mem_append_right _ (List.mem_append_right _ (List.mem_append_right _ (List.mem_append_right _ (List.mem_append_right _ (List.mem_append_left _ h)))))
theorem tb_6 {w : Cond} (h : w ∈ tb 6) : w ∈ lw_tbl := List.mem_append_right _ (List.mem_append_right _ (List.mem_append_right _ (List.mem_append_right _ (List.mem_append_right _ (List.mem_append_right _ (List.mem_append_left _ h))))))
theorem tb_7 {w : Cond} (h : w ∈ tb 7) : w ∈ lw_tbl := List.mem_append_right _ (List.mem_append_right _ (List.mem_append_right _ (List.mem_append_right _ (List.mem_append_right _ (List.mem_append_right _ (List.mem_append_right _ (List.mem_append_left _ h)))))))
theorem tb_8 {w : Cond} (h : w ∈ tb 8) : w ∈ lw_tbl := List.mem_append_right _ (List.mem_append_right _ (List.mem_append_right _ (List.mem_append_right _ (List.mem_append_right _ (List.mem_append_right _ (List.mem_append_right _ (List.mem_append_right _ (h))))))))
theorem cwA_0 : ∀ k, k < 45 → cwP (k + 0)
  | 0, _ => tb_2 (List.mem_of_getElem? cw0)
  | 1, _ => tb_2 (List.mem_of_getElem? cw1)
  | 2, _ => tb_3 (List.mem_of_getElem? cw2)
  | 3, _ => tb_3 (List.mem_of_getElem? cw3)
  | 4, _ => tb_3 (List.mem_of_getElem? cw4)
  | 5, _ => tb_3 (List.mem_of_getElem? cw5)
  | 6, _ => tb_3 (List.mem_of_getElem? cw6)
  | 7, _ => tb_3 (List.mem_of_getElem? cw7)
  | 8, _ => tb_3 (List.mem_of_getElem? cw8)
  | 9, _ => tb_3 (List.mem_of_getElem? cw9)
  | 10, _ => tb_3 (List.mem_of_getElem? cw10)
  | 11, _ => tb_3 (List.mem_of_getElem? cw11)
  | 12, _ => tb_3 (List.mem_of_getElem? cw12)
  | 13, _ => tb_3 (List.mem_of_getElem? cw13)
  | 14, _ => tb_3 (List.mem_of_getElem? cw14)
  | 15, _ => tb_3 (List.mem_of_getElem? cw15)
  | 16, _ => tb_3 (List.mem_of_getElem? cw16)
  | 17, _ => tb_4 (List.mem_of_getElem? cw17)
  | 18, _ => tb_3 (List.mem_of_getElem? cw18)
  | 19, _ => tb_4 (List.mem_of_getElem? cw19)
  | 20, _ => tb_4 (List.mem_of_getElem? cw20)
  | 21, _ => tb_4 (List.mem_of_getElem? cw21)
  | 22, _ => tb_4 (List.mem_of_getElem? cw22)
  | 23, _ => tb_4 (List.mem_of_getElem? cw23)
  | 24, _ => tb_4 (List.mem_of_getElem? cw24)
  | 25, _ => tb_4 (List.mem_of_getElem? cw25)
  | 26, _ => tb_4 (List.mem_of_getElem? cw26)
  | 27, _ => tb_4 (List.mem_of_getElem? cw27)
  | 28, _ => tb_4 (List.mem_of_getElem? cw28)
  | 29, _ => tb_4 (List.mem_of_getElem? cw29)
  | 30, _ => tb_4 (List.mem_of_getElem? cw30)
  | 31, _ => tb_4 (List.mem_of_getElem? cw31)
  | 32, _ => tb_4 (List.mem_of_getElem? cw32)
  | 33, _ => tb_4 (List.mem_of_getElem? cw33)
  | 34, _ => tb_4 (List.mem_of_getElem? cw34)
  | 35, _ => tb_4 (List.mem_of_getElem? cw35)
  | 36, _ => tb_4 (List.mem_of_getElem? cw36)
  | 37, _ => tb_5 (List.mem_of_getElem? cw37)
  | 38, _ => tb_5 (List.mem_of_getElem? cw38)
  | 39, _ => tb_5 (List.mem_of_getElem? cw39)
  | 40, _ => tb_5 (List.mem_of_getElem? cw40)
  | 41, _ => tb_4 (List.mem_of_getElem? cw41)
  | 42, _ => tb_4 (List.mem_of_getElem? cw42)
  | 43, _ => tb_5 (List.mem_of_getElem? cw43)
  | 44, _ => tb_5 (List.mem_of_getElem? cw44)
  | k + 45, h => absurd h (by omega)
theorem cwA_45 : ∀ k, k < 45 → cwP (k + 45)
  | 0, _ => tb_5 (List.mem_of_getElem? cw45)
  | 1, _ => tb_5 (List.mem_of_getElem? cw46)
  | 2, _ => tb_6 (List.mem_of_getElem? cw47)
  | 3, _ => tb_6 (List.mem_of_getElem? cw48)
  | 4, _ => tb_5 (List.mem_of_getElem? cw49)
  | 5, _ => tb_6 (List.mem_of_getElem? cw50)
  | 6, _ => tb_6 (List.mem_of_getElem? cw51)
  | 7, _ => tb_6 (List.mem_of_getElem? cw52)
  | 8, _ => tb_6 (List.mem_of_getElem? cw53)
  | 9, _ => tb_6 (List.mem_of_getElem? cw54)
  | 10, _ => tb_5 (List.mem_of_getElem? cw55)
  | 11, _ => tb_5 (List.mem_of_getElem? cw56)
  | 12, _ => tb_5 (List.mem_of_getElem? cw57)
  | 13, _ => tb_6 (List.mem_of_getElem? cw58)
  | 14, _ => tb_5 (List.mem_of_getElem? cw59)
  | 15, _ => tb_5 (List.mem_of_getElem? cw60)
  | 16, _ => tb_6 (List.mem_of_getElem? cw61)
  | 17, _ => tb_6 (List.mem_of_getElem? cw62)
  | 18, _ => tb_6 (List.mem_of_getElem? cw63)
  | 19, _ => tb_6 (List.mem_of_getElem? cw64)
  | 20, _ => tb_6 (List.mem_of_getElem? cw65)
  | 21, _ => tb_6 (List.mem_of_getElem? cw66)
  | 22, _ => tb_6 (List.mem_of_getElem? cw67)
  | 23, _ => tb_6 (List.mem_of_getElem? cw68)
  | 24, _ => tb_7 (List.mem_of_getElem? cw69)
  | 25, _ => tb_6 (List.mem_of_getElem? cw70)
  | 26, _ => tb_6 (List.mem_of_getElem? cw71)
  | 27, _ => tb_7 (List.mem_of_getElem? cw72)
  | 28, _ => tb_7 (List.mem_of_getElem? cw73)
  | 29, _ => tb_7 (List.mem_of_getElem? cw74)
  | 30, _ => tb_7 (List.mem_of_getElem? cw75)
  | 31, _ => tb_7 (List.mem_of_getElem? cw76)
  | 32, _ => tb_7 (List.mem_of_getElem? cw77)
  | 33, _ => tb_6 (List.mem_of_getElem? cw78)
  | 34, _ => tb_6 (List.mem_of_getElem? cw79)
  | 35, _ => tb_6 (List.mem_of_getElem? cw80)
  | 36, _ => tb_6 (List.mem_of_getElem? cw81)
  | 37, _ => tb_6 (List.mem_of_getElem? cw82)
  | 38, _ => tb_6 (List.mem_of_getElem? cw83)
  | 39, _ => tb_6 (List.mem_of_getElem? cw84)
  | 40, _ => tb_6 (List.mem_of_getElem? cw85)
  | 41, _ => tb_6 (List.mem_of_getElem? cw86)
  | 42, _ => tb_6 (List.mem_of_getElem? cw87)
  | 43, _ => tb_6 (List.mem_of_getElem? cw88)
  | 44, _ => tb_6 (List.mem_of_getElem? cw89)
  | k + 45, h => absurd h (by omega)
theorem cwA_90 : ∀ k, k < 45 → cwP (k + 90)
  | 0, _ => tb_6 (List.mem_of_getElem? cw90)
  | 1, _ => tb_6 (List.mem_of_getElem? cw91)
  | 2, _ => tb_6 (List.mem_of_getElem? cw92)
  | 3, _ => tb_6 (List.mem_of_getElem? cw93)
  | 4, _ => tb_7 (List.mem_of_getElem? cw94)
  | 5, _ => tb_7 (List.mem_of_getElem? cw95)
  | 6, _ => tb_7 (List.mem_of_getElem? cw96)
  | 7, _ => tb_7 (List.mem_of_getElem? cw97)
  | 8, _ => tb_7 (List.mem_of_getElem? cw98)
  | 9, _ => tb_7 (List.mem_of_getElem? cw99)
  | 10, _ => tb_7 (List.mem_of_getElem? cw100)
  | 11, _ => tb_7 (List.mem_of_getElem? cw101)
  | 12, _ => tb_7 (List.mem_of_getElem? cw102)
  | 13, _ => tb_7 (List.mem_of_getElem? cw103)
  | 14, _ => tb_7 (List.mem_of_getElem? cw104)
  | 15, _ => tb_7 (List.mem_of_getElem? cw105)
  | 16, _ => tb_7 (List.mem_of_getElem? cw106)
  | 17, _ => tb_7 (List.mem_of_getElem? cw107)
  | 18, _ => tb_7 (List.mem_of_getElem? cw108)
  | 19, _ => tb_7 (List.mem_of_getElem? cw109)
  | 20, _ => tb_7 (List.mem_of_getElem? cw110)
  | 21, _ => tb_7 (List.mem_of_getElem? cw111)
  | 22, _ => tb_7 (List.mem_of_getElem? cw112)
  | 23, _ => tb_7 (List.mem_of_getElem? cw113)
  | 24, _ => tb_7 (List.mem_of_getElem? cw114)
  | 25, _ => tb_7 (List.mem_of_getElem? cw115)
  | 26, _ => tb_7 (List.mem_of_getElem? cw116)
  | 27, _ => tb_7 (List.mem_of_getElem? cw117)
  | 28, _ => tb_7 (List.mem_of_getElem? cw118)
  | 29, _ => tb_7 (List.mem_of_getElem? cw119)
  | 30, _ => tb_7 (List.mem_of_getElem? cw120)
  | 31, _ => tb_7 (List.mem_of_getElem? cw121)
  | 32, _ => tb_7 (List.mem_of_getElem? cw122)
  | 33, _ => tb_7 (List.mem_of_getElem? cw123)
  | 34, _ => tb_7 (List.mem_of_getElem? cw124)
  | 35, _ => tb_7 (List.mem_of_getElem? cw125)
  | 36, _ => tb_7 (List.mem_of_getElem? cw126)
  | 37, _ => tb_7 (List.mem_of_getElem? cw127)
  | 38, _ => tb_7 (List.mem_of_getElem? cw128)
  | 39, _ => tb_7 (List.mem_of_getElem? cw129)
  | 40, _ => tb_7 (List.mem_of_getElem? cw130)
  | 41, _ => tb_7 (List.mem_of_getElem? cw131)
  | 42, _ => tb_7 (List.mem_of_getElem? cw132)
  | 43, _ => tb_7 (List.mem_of_getElem? cw133)
  | 44, _ => tb_7 (List.mem_of_getElem? cw134)
  | k + 45, h => absurd h (by omega)
theorem cwA_135 : ∀ k, k < 45 → cwP (k + 135)
  | 0, _ => tb_7 (List.mem_of_getElem? cw135)
  | 1, _ => tb_7 (List.mem_of_getElem? cw136)
  | 2, _ => tb_7 (List.mem_of_getElem? cw137)
  | 3, _ => tb_7 (List.mem_of_getElem? cw138)
  | 4, _ => tb_7 (List.mem_of_getElem? cw139)
  | 5, _ => tb_7 (List.mem_of_getElem? cw140)
  | 6, _ => tb_7 (List.mem_of_getElem? cw141)
  | 7, _ => tb_7 (List.mem_of_getElem? cw142)
  | 8, _ => tb_7 (List.mem_of_getElem? cw143)
  | 9, _ => tb_7 (List.mem_of_getElem? cw144)
  | 10, _ => tb_7 (List.mem_of_getElem? cw145)
  | 11, _ => tb_6 (List.mem_of_getElem? cw146)
  | 12, _ => tb_8 (List.mem_of_getElem? cw147)
  | 13, _ => tb_7 (List.mem_of_getElem? cw148)
  | 14, _ => tb_8 (List.mem_of_getElem? cw149)
  | 15, _ => tb_8 (List.mem_of_getElem? cw150)
  | 16, _ => tb_8 (List.mem_of_getElem? cw151)
  | 17, _ => tb_8 (List.mem_of_getElem? cw152)
  | 18, _ => tb_8 (List.mem_of_getElem? cw153)
  | 19, _ => tb_8 (List.mem_of_getElem? cw154)
  | 20, _ => tb_8 (List.mem_of_getElem? cw155)
  | 21, _ => tb_8 (List.mem_of_getElem? cw156)
  | 22, _ => tb_8 (List.mem_of_getElem? cw157)
  | 23, _ => tb_8 (List.mem_of_getElem? cw158)
  | 24, _ => tb_8 (List.mem_of_getElem? cw159)
  | 25, _ => tb_2 (List.mem_of_getElem? cw160)
  | 26, _ => tb_3 (List.mem_of_getElem? cw161)
  | 27, _ => tb_3 (List.mem_of_getElem? cw162)
  | 28, _ => tb_3 (List.mem_of_getElem? cw163)
  | 29, _ => tb_3 (List.mem_of_getElem? cw164)
  | 30, _ => tb_3 (List.mem_of_getElem? cw165)
  | 31, _ => tb_3 (List.mem_of_getElem? cw166)
  | 32, _ => tb_3 (List.mem_of_getElem? cw167)
  | 33, _ => tb_3 (List.mem_of_getElem? cw168)
  | 34, _ => tb_3 (List.mem_of_getElem? cw169)
  | 35, _ => tb_3 (List.mem_of_getElem? cw170)
  | 36, _ => tb_4 (List.mem_of_getElem? cw171)
  | 37, _ => tb_4 (List.mem_of_getElem? cw172)
  | 38, _ => tb_2 (List.mem_of_getElem? cw173)
  | 39, _ => tb_3 (List.mem_of_getElem? cw174)
  | 40, _ => tb_3 (List.mem_of_getElem? cw175)
  | 41, _ => tb_3 (List.mem_of_getElem? cw176)
  | 42, _ => tb_3 (List.mem_of_getElem? cw177)
  | 43, _ => tb_3 (List.mem_of_getElem? cw178)
  | 44, _ => tb_3 (List.mem_of_getElem? cw179)
  | k + 45, h => absurd h (by omega)
theorem cwA_180 : ∀ k, k < 45 → cwP (k + 180)
  | 0, _ => tb_3 (List.mem_of_getElem? cw180)
  | 1, _ => tb_3 (List.mem_of_getElem? cw181)
  | 2, _ => tb_3 (List.mem_of_getElem? cw182)
  | 3, _ => tb_3 (List.mem_of_getElem? cw183)
  | 4, _ => tb_4 (List.mem_of_getElem? cw184)
  | 5, _ => tb_4 (List.mem_of_getElem? cw185)
  | 6, _ => tb_2 (List.mem_of_getElem? cw186)
  | 7, _ => tb_3 (List.mem_of_getElem? cw187)
  | 8, _ => tb_4 (List.mem_of_getElem? cw188)
  | 9, _ => tb_4 (List.mem_of_getElem? cw189)
  | 10, _ => tb_4 (List.mem_of_getElem? cw190)
  | 11, _ => tb_3 (List.mem_of_getElem? cw191)
  | 12, _ => tb_3 (List.mem_of_getElem? cw192)
  | 13, _ => tb_3 (List.mem_of_getElem? cw193)
  | 14, _ => tb_4 (List.mem_of_getElem? cw194)
  | 15, _ => tb_4 (List.mem_of_getElem? cw195)
  | 16, _ => tb_4 (List.mem_of_getElem? cw196)
  | 17, _ => tb_4 (List.mem_of_getElem? cw197)
  | 18, _ => tb_4 (List.mem_of_getElem? cw198)
  | 19, _ => tb_4 (List.mem_of_getElem? cw199)
  | 20, _ => tb_4 (List.mem_of_getElem? cw200)
  | 21, _ => tb_4 (List.mem_of_getElem? cw201)
  | 22, _ => tb_4 (List.mem_of_getElem? cw202)
  | 23, _ => tb_4 (List.mem_of_getElem? cw203)
  | 24, _ => tb_4 (List.mem_of_getElem? cw204)
  | 25, _ => tb_5 (List.mem_of_getElem? cw205)
  | 26, _ => tb_5 (List.mem_of_getElem? cw206)
  | 27, _ => tb_5 (List.mem_of_getElem? cw207)
  | 28, _ => tb_5 (List.mem_of_getElem? cw208)
  | 29, _ => tb_5 (List.mem_of_getElem? cw209)
  | 30, _ => tb_5 (List.mem_of_getElem? cw210)
  | 31, _ => tb_5 (List.mem_of_getElem? cw211)
  | 32, _ => tb_5 (List.mem_of_getElem? cw212)
  | 33, _ => tb_5 (List.mem_of_getElem? cw213)
  | 34, _ => tb_5 (List.mem_of_getElem? cw214)
  | 35, _ => tb_5 (List.mem_of_getElem? cw215)
  | 36, _ => tb_5 (List.mem_of_getElem? cw216)
  | 37, _ => tb_5 (List.mem_of_getElem? cw217)
  | 38, _ => tb_5 (List.mem_of_getElem? cw218)
  | 39, _ => tb_5 (List.mem_of_getElem? cw219)
  | 40, _ => tb_3 (List.mem_of_getElem? cw220)
  | 41, _ => tb_3 (List.mem_of_getElem? cw221)
  | 42, _ => tb_3 (List.mem_of_getElem? cw222)
  | 43, _ => tb_2 (List.mem_of_getElem? cw223)
  | 44, _ => tb_4 (List.mem_of_getElem? cw224)
  | k + 45, h => absurd h (by omega)
theorem cwA_225 : ∀ k, k < 40 → cwP (k + 225)
  | 0, _ => tb_3 (List.mem_of_getElem? cw225)
  | 1, _ => tb_5 (List.mem_of_getElem? cw226)
  | 2, _ => tb_3 (List.mem_of_getElem? cw227)
  | 3, _ => tb_4 (List.mem_of_getElem? cw228)
  | 4, _ => tb_4 (List.mem_of_getElem? cw229)
  | 5, _ => tb_4 (List.mem_of_getElem? cw230)
  | 6, _ => tb_4 (List.mem_of_getElem? cw231)
  | 7, _ => tb_4 (List.mem_of_getElem? cw232)
  | 8, _ => tb_4 (List.mem_of_getElem? cw233)
  | 9, _ => tb_2 (List.mem_of_getElem? cw234)
  | 10, _ => tb_2 (List.mem_of_getElem? cw235)
  | 11, _ => tb_2 (List.mem_of_getElem? cw236)
  | 12, _ => tb_2 (List.mem_of_getElem? cw237)
  | 13, _ => tb_3 (List.mem_of_getElem? cw238)
  | 14, _ => tb_3 (List.mem_of_getElem? cw239)
  | 15, _ => tb_3 (List.mem_of_getElem? cw240)
  | 16, _ => tb_3 (List.mem_of_getElem? cw241)
  | 17, _ => tb_3 (List.mem_of_getElem? cw242)
  | 18, _ => tb_4 (List.mem_of_getElem? cw243)
  | 19, _ => tb_4 (List.mem_of_getElem? cw244)
  | 20, _ => tb_4 (List.mem_of_getElem? cw245)
  | 21, _ => tb_4 (List.mem_of_getElem? cw246)
  | 22, _ => tb_4 (List.mem_of_getElem? cw247)
  | 23, _ => tb_4 (List.mem_of_getElem? cw248)
  | 24, _ => tb_4 (List.mem_of_getElem? cw249)
  | 25, _ => tb_4 (List.mem_of_getElem? cw250)
  | 26, _ => tb_2 (List.mem_of_getElem? cw251)
  | 27, _ => tb_2 (List.mem_of_getElem? cw252)
  | 28, _ => tb_2 (List.mem_of_getElem? cw253)
  | 29, _ => tb_2 (List.mem_of_getElem? cw254)
  | 30, _ => tb_2 (List.mem_of_getElem? cw255)
  | 31, _ => tb_2 (List.mem_of_getElem? cw256)
  | 32, _ => tb_3 (List.mem_of_getElem? cw257)
  | 33, _ => tb_2 (List.mem_of_getElem? cw258)
  | 34, _ => tb_2 (List.mem_of_getElem? cw259)
  | 35, _ => tb_3 (List.mem_of_getElem? cw260)
  | 36, _ => tb_2 (List.mem_of_getElem? cw261)
  | 37, _ => tb_3 (List.mem_of_getElem? cw262)
  | 38, _ => tb_2 (List.mem_of_getElem? cw263)
  | 39, _ => tb_3 (List.mem_of_getElem? cw264)
  | k + 40, h => absurd h (by omega)
theorem cwA (k : Nat) (h : k < NM) : cwP k := by
  have h : k < 265 := h
  by_cases h0 : k < 45
  · have e : k = (k - 0) + 0 := by omega
    rw [e]
    exact cwA_0 (k - 0) (by omega)
  by_cases h45 : k < 90
  · have e : k = (k - 45) + 45 := by omega
    rw [e]
    exact cwA_45 (k - 45) (by omega)
  by_cases h90 : k < 135
  · have e : k = (k - 90) + 90 := by omega
    rw [e]
    exact cwA_90 (k - 90) (by omega)
  by_cases h135 : k < 180
  · have e : k = (k - 135) + 135 := by omega
    rw [e]
    exact cwA_135 (k - 135) (by omega)
  by_cases h180 : k < 225
  · have e : k = (k - 180) + 180 := by omega
    rw [e]
    exact cwA_180 (k - 180) (by omega)
  by_cases h225 : k < 265
  · have e : k = (k - 225) + 225 := by omega
    rw [e]
    exact cwA_225 (k - 225) (by omega)
  omega
