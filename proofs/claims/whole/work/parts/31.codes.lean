set_option maxRecDepth 100000 in
theorem mm_cw0 : mm_w 1058 = some (Cond.code (mm_Y 0) (mm_B 0) (mm_ml 0) (mm_T 0)) := by rfl
set_option maxRecDepth 100000 in
theorem mm_cw1 : mm_w 6111 = some (Cond.code (mm_Y 1) (mm_B 1) (mm_ml 1) (mm_T 1)) := by rfl
set_option maxRecDepth 100000 in
theorem mm_cw2 : mm_w 5154 = some (Cond.code (mm_Y 2) (mm_B 2) (mm_ml 2) (mm_T 2)) := by rfl
set_option maxRecDepth 100000 in
theorem mm_cw3 : mm_w 6065 = some (Cond.code (mm_Y 3) (mm_B 3) (mm_ml 3) (mm_T 3)) := by rfl
set_option maxRecDepth 100000 in
theorem mm_cw4 : mm_w 5188 = some (Cond.code (mm_Y 4) (mm_B 4) (mm_ml 4) (mm_T 4)) := by rfl
set_option maxRecDepth 100000 in
theorem mm_cw5 : mm_w 5207 = some (Cond.code (mm_Y 5) (mm_B 5) (mm_ml 5) (mm_T 5)) := by rfl
set_option maxRecDepth 100000 in
theorem mm_cw6 : mm_w 5215 = some (Cond.code (mm_Y 6) (mm_B 6) (mm_ml 6) (mm_T 6)) := by rfl
set_option maxRecDepth 100000 in
theorem mm_cw7 : mm_w 5227 = some (Cond.code (mm_Y 7) (mm_B 7) (mm_ml 7) (mm_T 7)) := by rfl
set_option maxRecDepth 100000 in
theorem mm_cw8 : mm_w 5231 = some (Cond.code (mm_Y 8) (mm_B 8) (mm_ml 8) (mm_T 8)) := by rfl
set_option maxRecDepth 100000 in
theorem mm_cw9 : mm_w 6021 = some (Cond.code (mm_Y 9) (mm_B 9) (mm_ml 9) (mm_T 9)) := by rfl
set_option maxRecDepth 100000 in
theorem mm_cw10 : mm_w 6025 = some (Cond.code (mm_Y 10) (mm_B 10) (mm_ml 10) (mm_T 10)) := by rfl
set_option maxRecDepth 100000 in
theorem mm_cw11 : mm_w 5199 = some (Cond.code (mm_Y 11) (mm_B 11) (mm_ml 11) (mm_T 11)) := by rfl
set_option maxRecDepth 100000 in
theorem mm_cw12 : mm_w 5203 = some (Cond.code (mm_Y 12) (mm_B 12) (mm_ml 12) (mm_T 12)) := by rfl
set_option maxRecDepth 100000 in
theorem mm_cw13 : mm_w 5211 = some (Cond.code (mm_Y 13) (mm_B 13) (mm_ml 13) (mm_T 13)) := by rfl
set_option maxRecDepth 100000 in
theorem mm_cw14 : mm_w 5235 = some (Cond.code (mm_Y 14) (mm_B 14) (mm_ml 14) (mm_T 14)) := by rfl
set_option maxRecDepth 100000 in
theorem mm_cw15 : mm_w 5219 = some (Cond.code (mm_Y 15) (mm_B 15) (mm_ml 15) (mm_T 15)) := by rfl
set_option maxRecDepth 100000 in
theorem mm_cw16 : mm_w 5239 = some (Cond.code (mm_Y 16) (mm_B 16) (mm_ml 16) (mm_T 16)) := by rfl
set_option maxRecDepth 100000 in
theorem mm_cw17 : mm_w 6006 = some (Cond.code (mm_Y 17) (mm_B 17) (mm_ml 17) (mm_T 17)) := by rfl
set_option maxRecDepth 100000 in
theorem mm_cw18 : mm_w 6011 = some (Cond.code (mm_Y 18) (mm_B 18) (mm_ml 18) (mm_T 18)) := by rfl
set_option maxRecDepth 100000 in
theorem mm_cw19 : mm_w 6029 = some (Cond.code (mm_Y 19) (mm_B 19) (mm_ml 19) (mm_T 19)) := by rfl
set_option maxRecDepth 100000 in
theorem mm_cw20 : mm_w 6033 = some (Cond.code (mm_Y 20) (mm_B 20) (mm_ml 20) (mm_T 20)) := by rfl
set_option maxRecDepth 100000 in
theorem mm_cw21 : mm_w 6049 = some (Cond.code (mm_Y 21) (mm_B 21) (mm_ml 21) (mm_T 21)) := by rfl
set_option maxRecDepth 100000 in
theorem mm_cw22 : mm_w 6037 = some (Cond.code (mm_Y 22) (mm_B 22) (mm_ml 22) (mm_T 22)) := by rfl
set_option maxRecDepth 100000 in
theorem mm_cw23 : mm_w 6053 = some (Cond.code (mm_Y 23) (mm_B 23) (mm_ml 23) (mm_T 23)) := by rfl
set_option maxRecDepth 100000 in
theorem mm_cw24 : mm_w 6041 = some (Cond.code (mm_Y 24) (mm_B 24) (mm_ml 24) (mm_T 24)) := by rfl
set_option maxRecDepth 100000 in
theorem mm_cw25 : mm_w 1205 = some (Cond.code (mm_Y 25) (mm_B 25) (mm_ml 25) (mm_T 25)) := by rfl
set_option maxRecDepth 100000 in
theorem mm_cw26 : mm_w 3008 = some (Cond.code (mm_Y 26) (mm_B 26) (mm_ml 26) (mm_T 26)) := by rfl
set_option maxRecDepth 100000 in
theorem mm_cw27 : mm_w 3012 = some (Cond.code (mm_Y 27) (mm_B 27) (mm_ml 27) (mm_T 27)) := by rfl
set_option maxRecDepth 100000 in
theorem mm_cw28 : mm_w 3047 = some (Cond.code (mm_Y 28) (mm_B 28) (mm_ml 28) (mm_T 28)) := by rfl
set_option maxRecDepth 100000 in
theorem mm_cw29 : mm_w 3016 = some (Cond.code (mm_Y 29) (mm_B 29) (mm_ml 29) (mm_T 29)) := by rfl
set_option maxRecDepth 100000 in
theorem mm_cw30 : mm_w 3032 = some (Cond.code (mm_Y 30) (mm_B 30) (mm_ml 30) (mm_T 30)) := by rfl
set_option maxRecDepth 100000 in
theorem mm_cw31 : mm_w 3043 = some (Cond.code (mm_Y 31) (mm_B 31) (mm_ml 31) (mm_T 31)) := by rfl
set_option maxRecDepth 100000 in
theorem mm_cw32 : mm_w 2006 = some (Cond.code (mm_Y 32) (mm_B 32) (mm_ml 32) (mm_T 32)) := by rfl
set_option maxRecDepth 100000 in
theorem mm_cw33 : mm_w 6115 = some (Cond.code (mm_Y 33) (mm_B 33) (mm_ml 33) (mm_T 33)) := by rfl
set_option maxRecDepth 100000 in
theorem mm_cw34 : mm_w 3213 = some (Cond.code (mm_Y 34) (mm_B 34) (mm_ml 34) (mm_T 34)) := by rfl
set_option maxRecDepth 100000 in
theorem mm_cw35 : mm_w 4003 = some (Cond.code (mm_Y 35) (mm_B 35) (mm_ml 35) (mm_T 35)) := by rfl
set_option maxRecDepth 100000 in
theorem mm_cw36 : mm_w 4015 = some (Cond.code (mm_Y 36) (mm_B 36) (mm_ml 36) (mm_T 36)) := by rfl
set_option maxRecDepth 100000 in
theorem mm_cw37 : mm_w 4032 = some (Cond.code (mm_Y 37) (mm_B 37) (mm_ml 37) (mm_T 37)) := by rfl
set_option maxRecDepth 100000 in
theorem mm_cw38 : mm_w 4007 = some (Cond.code (mm_Y 38) (mm_B 38) (mm_ml 38) (mm_T 38)) := by rfl
set_option maxRecDepth 100000 in
theorem mm_cw39 : mm_w 4011 = some (Cond.code (mm_Y 39) (mm_B 39) (mm_ml 39) (mm_T 39)) := by rfl
set_option maxRecDepth 100000 in
theorem mm_cw40 : mm_w 4038 = some (Cond.code (mm_Y 40) (mm_B 40) (mm_ml 40) (mm_T 40)) := by rfl
set_option maxRecDepth 100000 in
theorem mm_cw41 : mm_w 7032 = some (Cond.code (mm_Y 41) (mm_B 41) (mm_ml 41) (mm_T 41)) := by rfl
set_option maxRecDepth 100000 in
theorem mm_cw42 : mm_w 7056 = some (Cond.code (mm_Y 42) (mm_B 42) (mm_ml 42) (mm_T 42)) := by rfl
set_option maxRecDepth 100000 in
theorem mm_cw43 : mm_w 2195 = some (Cond.code (mm_Y 43) (mm_B 43) (mm_ml 43) (mm_T 43)) := by rfl
set_option maxRecDepth 100000 in
theorem mm_cw44 : mm_w 4156 = some (Cond.code (mm_Y 44) (mm_B 44) (mm_ml 44) (mm_T 44)) := by rfl
set_option maxRecDepth 100000 in
theorem mm_cw45 : mm_w 4182 = some (Cond.code (mm_Y 45) (mm_B 45) (mm_ml 45) (mm_T 45)) := by rfl
set_option maxRecDepth 100000 in
theorem mm_cw46 : mm_w 4160 = some (Cond.code (mm_Y 46) (mm_B 46) (mm_ml 46) (mm_T 46)) := by rfl
set_option maxRecDepth 100000 in
theorem mm_cw47 : mm_w 4178 = some (Cond.code (mm_Y 47) (mm_B 47) (mm_ml 47) (mm_T 47)) := by rfl
set_option maxRecDepth 100000 in
theorem mm_cw48 : mm_w 4188 = some (Cond.code (mm_Y 48) (mm_B 48) (mm_ml 48) (mm_T 48)) := by rfl
set_option maxRecDepth 100000 in
theorem mm_cw49 : mm_w 4192 = some (Cond.code (mm_Y 49) (mm_B 49) (mm_ml 49) (mm_T 49)) := by rfl
set_option maxRecDepth 100000 in
theorem mm_cw50 : mm_w 4202 = some (Cond.code (mm_Y 50) (mm_B 50) (mm_ml 50) (mm_T 50)) := by rfl
set_option maxRecDepth 100000 in
theorem mm_cw51 : mm_w 4207 = some (Cond.code (mm_Y 51) (mm_B 51) (mm_ml 51) (mm_T 51)) := by rfl
set_option maxRecDepth 100000 in
theorem mm_cw52 : mm_w 4211 = some (Cond.code (mm_Y 52) (mm_B 52) (mm_ml 52) (mm_T 52)) := by rfl
set_option maxRecDepth 100000 in
theorem mm_cw53 : mm_w 4216 = some (Cond.code (mm_Y 53) (mm_B 53) (mm_ml 53) (mm_T 53)) := by rfl
set_option maxRecDepth 100000 in
theorem mm_cw54 : mm_w 4220 = some (Cond.code (mm_Y 54) (mm_B 54) (mm_ml 54) (mm_T 54)) := by rfl
set_option maxRecDepth 100000 in
theorem mm_cw55 : mm_w 4228 = some (Cond.code (mm_Y 55) (mm_B 55) (mm_ml 55) (mm_T 55)) := by rfl
set_option maxRecDepth 100000 in
theorem mm_cw56 : mm_w 5004 = some (Cond.code (mm_Y 56) (mm_B 56) (mm_ml 56) (mm_T 56)) := by rfl
set_option maxRecDepth 100000 in
theorem mm_cw57 : mm_w 4232 = some (Cond.code (mm_Y 57) (mm_B 57) (mm_ml 57) (mm_T 57)) := by rfl
set_option maxRecDepth 100000 in
theorem mm_cw58 : mm_w 5024 = some (Cond.code (mm_Y 58) (mm_B 58) (mm_ml 58) (mm_T 58)) := by rfl
set_option maxRecDepth 100000 in
theorem mm_cw59 : mm_w 5028 = some (Cond.code (mm_Y 59) (mm_B 59) (mm_ml 59) (mm_T 59)) := by rfl
set_option maxRecDepth 100000 in
theorem mm_cw60 : mm_w 2115 = some (Cond.code (mm_Y 60) (mm_B 60) (mm_ml 60) (mm_T 60)) := by rfl
set_option maxRecDepth 100000 in
theorem mm_cw61 : mm_w 3209 = some (Cond.code (mm_Y 61) (mm_B 61) (mm_ml 61) (mm_T 61)) := by rfl
set_option maxRecDepth 100000 in
theorem mm_cw62 : mm_w 3227 = some (Cond.code (mm_Y 62) (mm_B 62) (mm_ml 62) (mm_T 62)) := by rfl
set_option maxRecDepth 100000 in
theorem mm_cw63 : mm_w 6086 = some (Cond.code (mm_Y 63) (mm_B 63) (mm_ml 63) (mm_T 63)) := by rfl
set_option maxRecDepth 100000 in
theorem mm_cw64 : mm_w 4127 = some (Cond.code (mm_Y 64) (mm_B 64) (mm_ml 64) (mm_T 64)) := by rfl
set_option maxRecDepth 100000 in
theorem mm_cw65 : mm_w 7069 = some (Cond.code (mm_Y 65) (mm_B 65) (mm_ml 65) (mm_T 65)) := by rfl
set_option maxRecDepth 100000 in
theorem mm_cw66 : mm_w 4123 = some (Cond.code (mm_Y 66) (mm_B 66) (mm_ml 66) (mm_T 66)) := by rfl
set_option maxRecDepth 100000 in
theorem mm_cw67 : mm_w 4164 = some (Cond.code (mm_Y 67) (mm_B 67) (mm_ml 67) (mm_T 67)) := by rfl
set_option maxRecDepth 100000 in
theorem mm_cw68 : mm_w 4119 = some (Cond.code (mm_Y 68) (mm_B 68) (mm_ml 68) (mm_T 68)) := by rfl
set_option maxRecDepth 100000 in
theorem mm_cw69 : mm_w 4131 = some (Cond.code (mm_Y 69) (mm_B 69) (mm_ml 69) (mm_T 69)) := by rfl
set_option maxRecDepth 100000 in
theorem mm_cw70 : mm_w 4135 = some (Cond.code (mm_Y 70) (mm_B 70) (mm_ml 70) (mm_T 70)) := by rfl
set_option maxRecDepth 100000 in
theorem mm_cw71 : mm_w 4168 = some (Cond.code (mm_Y 71) (mm_B 71) (mm_ml 71) (mm_T 71)) := by rfl
set_option maxRecDepth 100000 in
theorem mm_cw72 : mm_w 4086 = some (Cond.code (mm_Y 72) (mm_B 72) (mm_ml 72) (mm_T 72)) := by rfl
set_option maxRecDepth 100000 in
theorem mm_cw73 : mm_w 4091 = some (Cond.code (mm_Y 73) (mm_B 73) (mm_ml 73) (mm_T 73)) := by rfl
set_option maxRecDepth 100000 in
theorem mm_cw74 : mm_w 4174 = some (Cond.code (mm_Y 74) (mm_B 74) (mm_ml 74) (mm_T 74)) := by rfl
set_option maxRecDepth 100000 in
theorem mm_cw75 : mm_w 5008 = some (Cond.code (mm_Y 75) (mm_B 75) (mm_ml 75) (mm_T 75)) := by rfl
set_option maxRecDepth 100000 in
theorem mm_cw76 : mm_w 5014 = some (Cond.code (mm_Y 76) (mm_B 76) (mm_ml 76) (mm_T 76)) := by rfl
set_option maxRecDepth 100000 in
theorem mm_cw77 : mm_w 4224 = some (Cond.code (mm_Y 77) (mm_B 77) (mm_ml 77) (mm_T 77)) := by rfl
set_option maxRecDepth 100000 in
theorem mm_cw78 : mm_w 4196 = some (Cond.code (mm_Y 78) (mm_B 78) (mm_ml 78) (mm_T 78)) := by rfl
set_option maxRecDepth 100000 in
theorem mm_cw79 : mm_w 4236 = some (Cond.code (mm_Y 79) (mm_B 79) (mm_ml 79) (mm_T 79)) := by rfl
set_option maxRecDepth 100000 in
theorem mm_cw80 : mm_w 5000 = some (Cond.code (mm_Y 80) (mm_B 80) (mm_ml 80) (mm_T 80)) := by rfl
set_option maxRecDepth 100000 in
theorem mm_cw81 : mm_w 5019 = some (Cond.code (mm_Y 81) (mm_B 81) (mm_ml 81) (mm_T 81)) := by rfl
set_option maxRecDepth 100000 in
theorem mm_cw82 : mm_w 2063 = some (Cond.code (mm_Y 82) (mm_B 82) (mm_ml 82) (mm_T 82)) := by rfl
set_option maxRecDepth 100000 in
theorem mm_cw83 : mm_w 3222 = some (Cond.code (mm_Y 83) (mm_B 83) (mm_ml 83) (mm_T 83)) := by rfl
set_option maxRecDepth 100000 in
theorem mm_cw84 : mm_w 3116 = some (Cond.code (mm_Y 84) (mm_B 84) (mm_ml 84) (mm_T 84)) := by rfl
set_option maxRecDepth 100000 in
theorem mm_cw85 : mm_w 3150 = some (Cond.code (mm_Y 85) (mm_B 85) (mm_ml 85) (mm_T 85)) := by rfl
set_option maxRecDepth 100000 in
theorem mm_cw86 : mm_w 2170 = some (Cond.code (mm_Y 86) (mm_B 86) (mm_ml 86) (mm_T 86)) := by rfl
set_option maxRecDepth 100000 in
theorem mm_cw87 : mm_w 3138 = some (Cond.code (mm_Y 87) (mm_B 87) (mm_ml 87) (mm_T 87)) := by rfl
set_option maxRecDepth 100000 in
theorem mm_cw88 : mm_w 3235 = some (Cond.code (mm_Y 88) (mm_B 88) (mm_ml 88) (mm_T 88)) := by rfl
set_option maxRecDepth 100000 in
theorem mm_cw89 : mm_w 4055 = some (Cond.code (mm_Y 89) (mm_B 89) (mm_ml 89) (mm_T 89)) := by rfl
set_option maxRecDepth 100000 in
theorem mm_cw90 : mm_w 4046 = some (Cond.code (mm_Y 90) (mm_B 90) (mm_ml 90) (mm_T 90)) := by rfl
set_option maxRecDepth 100000 in
theorem mm_cw91 : mm_w 3231 = some (Cond.code (mm_Y 91) (mm_B 91) (mm_ml 91) (mm_T 91)) := by rfl
set_option maxRecDepth 100000 in
theorem mm_cw92 : mm_w 4108 = some (Cond.code (mm_Y 92) (mm_B 92) (mm_ml 92) (mm_T 92)) := by rfl
set_option maxRecDepth 100000 in
theorem mm_cw93 : mm_w 4112 = some (Cond.code (mm_Y 93) (mm_B 93) (mm_ml 93) (mm_T 93)) := by rfl
set_option maxRecDepth 100000 in
theorem mm_cw94 : mm_w 4139 = some (Cond.code (mm_Y 94) (mm_B 94) (mm_ml 94) (mm_T 94)) := by rfl
set_option maxRecDepth 100000 in
theorem mm_cw95 : mm_w 4115 = some (Cond.code (mm_Y 95) (mm_B 95) (mm_ml 95) (mm_T 95)) := by rfl
set_option maxRecDepth 100000 in
theorem mm_cw96 : mm_w 4059 = some (Cond.code (mm_Y 96) (mm_B 96) (mm_ml 96) (mm_T 96)) := by rfl
set_option maxRecDepth 100000 in
theorem mm_cw97 : mm_w 4051 = some (Cond.code (mm_Y 97) (mm_B 97) (mm_ml 97) (mm_T 97)) := by rfl
set_option maxRecDepth 100000 in
theorem mm_cw98 : mm_w 4078 = some (Cond.code (mm_Y 98) (mm_B 98) (mm_ml 98) (mm_T 98)) := by rfl
set_option maxRecDepth 100000 in
theorem mm_cw99 : mm_w 4096 = some (Cond.code (mm_Y 99) (mm_B 99) (mm_ml 99) (mm_T 99)) := by rfl
set_option maxRecDepth 100000 in
theorem mm_cw100 : mm_w 4082 = some (Cond.code (mm_Y 100) (mm_B 100) (mm_ml 100) (mm_T 100)) := by rfl
set_option maxRecDepth 100000 in
theorem mm_cw101 : mm_w 4143 = some (Cond.code (mm_Y 101) (mm_B 101) (mm_ml 101) (mm_T 101)) := by rfl
set_option maxRecDepth 100000 in
theorem mm_cw102 : mm_w 4147 = some (Cond.code (mm_Y 102) (mm_B 102) (mm_ml 102) (mm_T 102)) := by rfl
set_option maxRecDepth 100000 in
theorem mm_cw103 : mm_w 4151 = some (Cond.code (mm_Y 103) (mm_B 103) (mm_ml 103) (mm_T 103)) := by rfl
set_option maxRecDepth 100000 in
theorem mm_cw104 : mm_w 4100 = some (Cond.code (mm_Y 104) (mm_B 104) (mm_ml 104) (mm_T 104)) := by rfl
set_option maxRecDepth 100000 in
theorem mm_cw105 : mm_w 4104 = some (Cond.code (mm_Y 105) (mm_B 105) (mm_ml 105) (mm_T 105)) := by rfl
set_option maxRecDepth 100000 in
theorem mm_cw106 : mm_w 1064 = some (Cond.code (mm_Y 106) (mm_B 106) (mm_ml 106) (mm_T 106)) := by rfl
set_option maxRecDepth 100000 in
theorem mm_cw107 : mm_w 5158 = some (Cond.code (mm_Y 107) (mm_B 107) (mm_ml 107) (mm_T 107)) := by rfl
set_option maxRecDepth 100000 in
theorem mm_cw108 : mm_w 5192 = some (Cond.code (mm_Y 108) (mm_B 108) (mm_ml 108) (mm_T 108)) := by rfl
set_option maxRecDepth 100000 in
theorem mm_cw109 : mm_w 6045 = some (Cond.code (mm_Y 109) (mm_B 109) (mm_ml 109) (mm_T 109)) := by rfl
set_option maxRecDepth 100000 in
theorem mm_cw110 : mm_w 6057 = some (Cond.code (mm_Y 110) (mm_B 110) (mm_ml 110) (mm_T 110)) := by rfl
set_option maxRecDepth 100000 in
theorem mm_cw111 : mm_w 6061 = some (Cond.code (mm_Y 111) (mm_B 111) (mm_ml 111) (mm_T 111)) := by rfl
set_option maxRecDepth 100000 in
theorem mm_cw112 : mm_w 6069 = some (Cond.code (mm_Y 112) (mm_B 112) (mm_ml 112) (mm_T 112)) := by rfl
set_option maxRecDepth 100000 in
theorem mm_cw113 : mm_w 6073 = some (Cond.code (mm_Y 113) (mm_B 113) (mm_ml 113) (mm_T 113)) := by rfl
set_option maxRecDepth 100000 in
theorem mm_cw114 : mm_w 3135 = some (Cond.code (mm_Y 114) (mm_B 114) (mm_ml 114) (mm_T 114)) := by rfl
set_option maxRecDepth 100000 in
theorem mm_cw115 : mm_w 3131 = some (Cond.code (mm_Y 115) (mm_B 115) (mm_ml 115) (mm_T 115)) := by rfl
set_option maxRecDepth 100000 in
theorem mm_cw116 : mm_w 4067 = some (Cond.code (mm_Y 116) (mm_B 116) (mm_ml 116) (mm_T 116)) := by rfl
set_option maxRecDepth 100000 in
theorem mm_cw117 : mm_w 4063 = some (Cond.code (mm_Y 117) (mm_B 117) (mm_ml 117) (mm_T 117)) := by rfl
set_option maxRecDepth 100000 in
theorem mm_cw118 : mm_w 4023 = some (Cond.code (mm_Y 118) (mm_B 118) (mm_ml 118) (mm_T 118)) := by rfl
set_option maxRecDepth 100000 in
theorem mm_cw119 : mm_w 4019 = some (Cond.code (mm_Y 119) (mm_B 119) (mm_ml 119) (mm_T 119)) := by rfl
set_option maxRecDepth 100000 in
theorem mm_cw120 : mm_w 4027 = some (Cond.code (mm_Y 120) (mm_B 120) (mm_ml 120) (mm_T 120)) := by rfl
set_option maxRecDepth 100000 in
theorem mm_cw121 : mm_w 1041 = some (Cond.code (mm_Y 121) (mm_B 121) (mm_ml 121) (mm_T 121)) := by rfl
set_option maxRecDepth 100000 in
theorem mm_cw122 : mm_w 5045 = some (Cond.code (mm_Y 122) (mm_B 122) (mm_ml 122) (mm_T 122)) := by rfl
set_option maxRecDepth 100000 in
theorem mm_cw123 : mm_w 3028 = some (Cond.code (mm_Y 123) (mm_B 123) (mm_ml 123) (mm_T 123)) := by rfl
set_option maxRecDepth 100000 in
theorem mm_cw124 : mm_w 3039 = some (Cond.code (mm_Y 124) (mm_B 124) (mm_ml 124) (mm_T 124)) := by rfl
set_option maxRecDepth 100000 in
theorem mm_cw125 : mm_w 5134 = some (Cond.code (mm_Y 125) (mm_B 125) (mm_ml 125) (mm_T 125)) := by rfl
set_option maxRecDepth 100000 in
theorem mm_cw126 : mm_w 3024 = some (Cond.code (mm_Y 126) (mm_B 126) (mm_ml 126) (mm_T 126)) := by rfl
set_option maxRecDepth 100000 in
theorem mm_cw127 : mm_w 3020 = some (Cond.code (mm_Y 127) (mm_B 127) (mm_ml 127) (mm_T 127)) := by rfl
set_option maxRecDepth 100000 in
theorem mm_cw128 : mm_w 3036 = some (Cond.code (mm_Y 128) (mm_B 128) (mm_ml 128) (mm_T 128)) := by rfl
set_option maxRecDepth 100000 in
theorem mm_cw129 : mm_w 3052 = some (Cond.code (mm_Y 129) (mm_B 129) (mm_ml 129) (mm_T 129)) := by rfl
set_option maxRecDepth 100000 in
theorem mm_cw130 : mm_w 1147 = some (Cond.code (mm_Y 130) (mm_B 130) (mm_ml 130) (mm_T 130)) := by rfl
set_option maxRecDepth 100000 in
theorem mm_cw131 : mm_w 5163 = some (Cond.code (mm_Y 131) (mm_B 131) (mm_ml 131) (mm_T 131)) := by rfl
set_option maxRecDepth 100000 in
theorem mm_cw132 : mm_w 5167 = some (Cond.code (mm_Y 132) (mm_B 132) (mm_ml 132) (mm_T 132)) := by rfl
set_option maxRecDepth 100000 in
theorem mm_cw133 : mm_w 5178 = some (Cond.code (mm_Y 133) (mm_B 133) (mm_ml 133) (mm_T 133)) := by rfl
set_option maxRecDepth 100000 in
theorem mm_cw134 : mm_w 5181 = some (Cond.code (mm_Y 134) (mm_B 134) (mm_ml 134) (mm_T 134)) := by rfl
set_option maxRecDepth 100000 in
theorem mm_cw135 : mm_w 5174 = some (Cond.code (mm_Y 135) (mm_B 135) (mm_ml 135) (mm_T 135)) := by rfl
set_option maxRecDepth 100000 in
theorem mm_cw136 : mm_w 5223 = some (Cond.code (mm_Y 136) (mm_B 136) (mm_ml 136) (mm_T 136)) := by rfl
set_option maxRecDepth 100000 in
theorem mm_cw137 : mm_w 2069 = some (Cond.code (mm_Y 137) (mm_B 137) (mm_ml 137) (mm_T 137)) := by rfl
set_option maxRecDepth 100000 in
theorem mm_cw138 : mm_w 6107 = some (Cond.code (mm_Y 138) (mm_B 138) (mm_ml 138) (mm_T 138)) := by rfl
set_option maxRecDepth 100000 in
theorem mm_cw139 : mm_w 3158 = some (Cond.code (mm_Y 139) (mm_B 139) (mm_ml 139) (mm_T 139)) := by rfl
set_option maxRecDepth 100000 in
theorem mm_cw140 : mm_w 3205 = some (Cond.code (mm_Y 140) (mm_B 140) (mm_ml 140) (mm_T 140)) := by rfl
set_option maxRecDepth 100000 in
theorem mm_cw141 : mm_w 3197 = some (Cond.code (mm_Y 141) (mm_B 141) (mm_ml 141) (mm_T 141)) := by rfl
set_option maxRecDepth 100000 in
theorem mm_cw142 : mm_w 3239 = some (Cond.code (mm_Y 142) (mm_B 142) (mm_ml 142) (mm_T 142)) := by rfl
set_option maxRecDepth 100000 in
theorem mm_cw143 : mm_w 3166 = some (Cond.code (mm_Y 143) (mm_B 143) (mm_ml 143) (mm_T 143)) := by rfl
set_option maxRecDepth 100000 in
theorem mm_cw144 : mm_w 6081 = some (Cond.code (mm_Y 144) (mm_B 144) (mm_ml 144) (mm_T 144)) := by rfl
set_option maxRecDepth 100000 in
theorem mm_cw145 : mm_w 4072 = some (Cond.code (mm_Y 145) (mm_B 145) (mm_ml 145) (mm_T 145)) := by rfl
set_option maxRecDepth 100000 in
theorem mm_cw146 : mm_w 3189 = some (Cond.code (mm_Y 146) (mm_B 146) (mm_ml 146) (mm_T 146)) := by rfl
set_option maxRecDepth 100000 in
theorem mm_cw147 : mm_w 3185 = some (Cond.code (mm_Y 147) (mm_B 147) (mm_ml 147) (mm_T 147)) := by rfl
set_option maxRecDepth 100000 in
theorem mm_cw148 : mm_w 3181 = some (Cond.code (mm_Y 148) (mm_B 148) (mm_ml 148) (mm_T 148)) := by rfl
set_option maxRecDepth 100000 in
theorem mm_cw149 : mm_w 3201 = some (Cond.code (mm_Y 149) (mm_B 149) (mm_ml 149) (mm_T 149)) := by rfl
set_option maxRecDepth 100000 in
theorem mm_cw150 : mm_w 3154 = some (Cond.code (mm_Y 150) (mm_B 150) (mm_ml 150) (mm_T 150)) := by rfl
set_option maxRecDepth 100000 in
theorem mm_cw151 : mm_w 3162 = some (Cond.code (mm_Y 151) (mm_B 151) (mm_ml 151) (mm_T 151)) := by rfl
set_option maxRecDepth 100000 in
theorem mm_cw152 : mm_w 3177 = some (Cond.code (mm_Y 152) (mm_B 152) (mm_ml 152) (mm_T 152)) := by rfl
set_option maxRecDepth 100000 in
theorem mm_cw153 : mm_w 3170 = some (Cond.code (mm_Y 153) (mm_B 153) (mm_ml 153) (mm_T 153)) := by rfl
set_option maxRecDepth 100000 in
theorem mm_cw154 : mm_w 3120 = some (Cond.code (mm_Y 154) (mm_B 154) (mm_ml 154) (mm_T 154)) := by rfl
set_option maxRecDepth 100000 in
theorem mm_cw155 : mm_w 3193 = some (Cond.code (mm_Y 155) (mm_B 155) (mm_ml 155) (mm_T 155)) := by rfl
set_option maxRecDepth 100000 in
theorem mm_cw156 : mm_w 1033 = some (Cond.code (mm_Y 156) (mm_B 156) (mm_ml 156) (mm_T 156)) := by rfl
set_option maxRecDepth 100000 in
theorem mm_cw157 : mm_w 5042 = some (Cond.code (mm_Y 157) (mm_B 157) (mm_ml 157) (mm_T 157)) := by rfl
set_option maxRecDepth 100000 in
theorem mm_cw158 : mm_w 5141 = some (Cond.code (mm_Y 158) (mm_B 158) (mm_ml 158) (mm_T 158)) := by rfl
set_option maxRecDepth 100000 in
theorem mm_cw159 : mm_w 5150 = some (Cond.code (mm_Y 159) (mm_B 159) (mm_ml 159) (mm_T 159)) := by rfl
set_option maxRecDepth 100000 in
theorem mm_cw160 : mm_w 6077 = some (Cond.code (mm_Y 160) (mm_B 160) (mm_ml 160) (mm_T 160)) := by rfl
set_option maxRecDepth 100000 in
theorem mm_cw161 : mm_w 6123 = some (Cond.code (mm_Y 161) (mm_B 161) (mm_ml 161) (mm_T 161)) := by rfl
set_option maxRecDepth 100000 in
theorem mm_cw162 : mm_w 6132 = some (Cond.code (mm_Y 162) (mm_B 162) (mm_ml 162) (mm_T 162)) := by rfl
set_option maxRecDepth 100000 in
theorem mm_cw163 : mm_w 6142 = some (Cond.code (mm_Y 163) (mm_B 163) (mm_ml 163) (mm_T 163)) := by rfl
set_option maxRecDepth 100000 in
theorem mm_cw164 : mm_w 6002 = some (Cond.code (mm_Y 164) (mm_B 164) (mm_ml 164) (mm_T 164)) := by rfl
set_option maxRecDepth 100000 in
theorem mm_cw165 : mm_w 6152 = some (Cond.code (mm_Y 165) (mm_B 165) (mm_ml 165) (mm_T 165)) := by rfl
set_option maxRecDepth 100000 in
theorem mm_cw166 : mm_w 6162 = some (Cond.code (mm_Y 166) (mm_B 166) (mm_ml 166) (mm_T 166)) := by rfl
set_option maxRecDepth 100000 in
theorem mm_cw167 : mm_w 6192 = some (Cond.code (mm_Y 167) (mm_B 167) (mm_ml 167) (mm_T 167)) := by rfl
set_option maxRecDepth 100000 in
theorem mm_cw168 : mm_w 6199 = some (Cond.code (mm_Y 168) (mm_B 168) (mm_ml 168) (mm_T 168)) := by rfl
set_option maxRecDepth 100000 in
theorem mm_cw169 : mm_w 6206 = some (Cond.code (mm_Y 169) (mm_B 169) (mm_ml 169) (mm_T 169)) := by rfl
set_option maxRecDepth 100000 in
theorem mm_cw170 : mm_w 6213 = some (Cond.code (mm_Y 170) (mm_B 170) (mm_ml 170) (mm_T 170)) := by rfl
set_option maxRecDepth 100000 in
theorem mm_cw171 : mm_w 6220 = some (Cond.code (mm_Y 171) (mm_B 171) (mm_ml 171) (mm_T 171)) := by rfl
set_option maxRecDepth 100000 in
theorem mm_cw172 : mm_w 6227 = some (Cond.code (mm_Y 172) (mm_B 172) (mm_ml 172) (mm_T 172)) := by rfl
set_option maxRecDepth 100000 in
theorem mm_cw173 : mm_w 6234 = some (Cond.code (mm_Y 173) (mm_B 173) (mm_ml 173) (mm_T 173)) := by rfl
set_option maxRecDepth 100000 in
theorem mm_cw174 : mm_w 7001 = some (Cond.code (mm_Y 174) (mm_B 174) (mm_ml 174) (mm_T 174)) := by rfl
set_option maxRecDepth 100000 in
theorem mm_cw175 : mm_w 7008 = some (Cond.code (mm_Y 175) (mm_B 175) (mm_ml 175) (mm_T 175)) := by rfl
set_option maxRecDepth 100000 in
theorem mm_cw176 : mm_w 7016 = some (Cond.code (mm_Y 176) (mm_B 176) (mm_ml 176) (mm_T 176)) := by rfl
set_option maxRecDepth 100000 in
theorem mm_cw177 : mm_w 7028 = some (Cond.code (mm_Y 177) (mm_B 177) (mm_ml 177) (mm_T 177)) := by rfl
set_option maxRecDepth 100000 in
theorem mm_cw178 : mm_w 7064 = some (Cond.code (mm_Y 178) (mm_B 178) (mm_ml 178) (mm_T 178)) := by rfl
set_option maxRecDepth 100000 in
theorem mm_cw179 : mm_w 3004 = some (Cond.code (mm_Y 179) (mm_B 179) (mm_ml 179) (mm_T 179)) := by rfl
set_option maxRecDepth 100000 in
theorem mm_cw180 : mm_w 7076 = some (Cond.code (mm_Y 180) (mm_B 180) (mm_ml 180) (mm_T 180)) := by rfl
set_option maxRecDepth 100000 in
theorem mm_cw181 : mm_w 5033 = some (Cond.code (mm_Y 181) (mm_B 181) (mm_ml 181) (mm_T 181)) := by rfl
set_option maxRecDepth 100000 in
theorem mm_cw182 : mm_w 7084 = some (Cond.code (mm_Y 182) (mm_B 182) (mm_ml 182) (mm_T 182)) := by rfl
set_option maxRecDepth 100000 in
theorem mm_cw183 : mm_w 6165 = some (Cond.code (mm_Y 183) (mm_B 183) (mm_ml 183) (mm_T 183)) := by rfl
set_option maxRecDepth 100000 in
theorem mm_cw184 : mm_w 6168 = some (Cond.code (mm_Y 184) (mm_B 184) (mm_ml 184) (mm_T 184)) := by rfl
set_option maxRecDepth 100000 in
theorem mm_cw185 : mm_w 3108 = some (Cond.code (mm_Y 185) (mm_B 185) (mm_ml 185) (mm_T 185)) := by rfl
set_option maxRecDepth 100000 in
theorem mm_cw186 : mm_w 3127 = some (Cond.code (mm_Y 186) (mm_B 186) (mm_ml 186) (mm_T 186)) := by rfl
set_option maxRecDepth 100000 in
theorem mm_cw187 : mm_w 3142 = some (Cond.code (mm_Y 187) (mm_B 187) (mm_ml 187) (mm_T 187)) := by rfl
set_option maxRecDepth 100000 in
theorem mm_cw188 : mm_w 3112 = some (Cond.code (mm_Y 188) (mm_B 188) (mm_ml 188) (mm_T 188)) := by rfl
set_option maxRecDepth 100000 in
theorem mm_cw189 : mm_w 3146 = some (Cond.code (mm_Y 189) (mm_B 189) (mm_ml 189) (mm_T 189)) := by rfl
set_option maxRecDepth 100000 in
theorem mm_cw190 : mm_w 3217 = some (Cond.code (mm_Y 190) (mm_B 190) (mm_ml 190) (mm_T 190)) := by rfl
set_option maxRecDepth 100000 in
theorem mm_cw191 : mm_w 7089 = some (Cond.code (mm_Y 191) (mm_B 191) (mm_ml 191) (mm_T 191)) := by rfl
set_option maxRecDepth 100000 in
theorem mm_cw192 : mm_w 7132 = some (Cond.code (mm_Y 192) (mm_B 192) (mm_ml 192) (mm_T 192)) := by rfl
set_option maxRecDepth 100000 in
theorem mm_cw193 : mm_w 8202 = some (Cond.code (mm_Y 193) (mm_B 193) (mm_ml 193) (mm_T 193)) := by rfl
set_option maxRecDepth 100000 in
theorem mm_cw194 : mm_w 8213 = some (Cond.code (mm_Y 194) (mm_B 194) (mm_ml 194) (mm_T 194)) := by rfl
set_option maxRecDepth 100000 in
theorem mm_cw195 : mm_w 8209 = some (Cond.code (mm_Y 195) (mm_B 195) (mm_ml 195) (mm_T 195)) := by rfl
set_option maxRecDepth 100000 in
theorem mm_cw196 : mm_w 8206 = some (Cond.code (mm_Y 196) (mm_B 196) (mm_ml 196) (mm_T 196)) := by rfl
set_option maxRecDepth 100000 in
theorem mm_cw197 : mm_w 8217 = some (Cond.code (mm_Y 197) (mm_B 197) (mm_ml 197) (mm_T 197)) := by rfl
set_option maxRecDepth 100000 in
theorem mm_cw198 : mm_w 9001 = some (Cond.code (mm_Y 198) (mm_B 198) (mm_ml 198) (mm_T 198)) := by rfl
set_option maxRecDepth 100000 in
theorem mm_cw199 : mm_w 9004 = some (Cond.code (mm_Y 199) (mm_B 199) (mm_ml 199) (mm_T 199)) := by rfl
set_option maxRecDepth 100000 in
theorem mm_cw200 : mm_w 9007 = some (Cond.code (mm_Y 200) (mm_B 200) (mm_ml 200) (mm_T 200)) := by rfl
set_option maxRecDepth 100000 in
theorem mm_cw201 : mm_w 8237 = some (Cond.code (mm_Y 201) (mm_B 201) (mm_ml 201) (mm_T 201)) := by rfl
set_option maxRecDepth 100000 in
theorem mm_cw202 : mm_w 9011 = some (Cond.code (mm_Y 202) (mm_B 202) (mm_ml 202) (mm_T 202)) := by rfl
set_option maxRecDepth 100000 in
theorem mm_cw203 : mm_w 9016 = some (Cond.code (mm_Y 203) (mm_B 203) (mm_ml 203) (mm_T 203)) := by rfl
set_option maxRecDepth 100000 in
theorem mm_cw204 : mm_w 8233 = some (Cond.code (mm_Y 204) (mm_B 204) (mm_ml 204) (mm_T 204)) := by rfl
set_option maxRecDepth 100000 in
theorem mm_cw205 : mm_w 9020 = some (Cond.code (mm_Y 205) (mm_B 205) (mm_ml 205) (mm_T 205)) := by rfl
set_option maxRecDepth 100000 in
theorem mm_cw206 : mm_w 9032 = some (Cond.code (mm_Y 206) (mm_B 206) (mm_ml 206) (mm_T 206)) := by rfl
set_option maxRecDepth 100000 in
theorem mm_cw207 : mm_w 9068 = some (Cond.code (mm_Y 207) (mm_B 207) (mm_ml 207) (mm_T 207)) := by rfl
set_option maxRecDepth 100000 in
theorem mm_cw208 : mm_w 9044 = some (Cond.code (mm_Y 208) (mm_B 208) (mm_ml 208) (mm_T 208)) := by rfl
set_option maxRecDepth 100000 in
theorem mm_cw209 : mm_w 9040 = some (Cond.code (mm_Y 209) (mm_B 209) (mm_ml 209) (mm_T 209)) := by rfl
set_option maxRecDepth 100000 in
theorem mm_cw210 : mm_w 9048 = some (Cond.code (mm_Y 210) (mm_B 210) (mm_ml 210) (mm_T 210)) := by rfl
set_option maxRecDepth 100000 in
theorem mm_cw211 : mm_w 9036 = some (Cond.code (mm_Y 211) (mm_B 211) (mm_ml 211) (mm_T 211)) := by rfl
set_option maxRecDepth 100000 in
theorem mm_cw212 : mm_w 9056 = some (Cond.code (mm_Y 212) (mm_B 212) (mm_ml 212) (mm_T 212)) := by rfl
set_option maxRecDepth 100000 in
theorem mm_cw213 : mm_w 9028 = some (Cond.code (mm_Y 213) (mm_B 213) (mm_ml 213) (mm_T 213)) := by rfl
set_option maxRecDepth 100000 in
theorem mm_cw214 : mm_w 9052 = some (Cond.code (mm_Y 214) (mm_B 214) (mm_ml 214) (mm_T 214)) := by rfl
set_option maxRecDepth 100000 in
theorem mm_cw215 : mm_w 9064 = some (Cond.code (mm_Y 215) (mm_B 215) (mm_ml 215) (mm_T 215)) := by rfl
set_option maxRecDepth 100000 in
theorem mm_cw216 : mm_w 9060 = some (Cond.code (mm_Y 216) (mm_B 216) (mm_ml 216) (mm_T 216)) := by rfl
set_option maxRecDepth 100000 in
theorem mm_cw217 : mm_w 9072 = some (Cond.code (mm_Y 217) (mm_B 217) (mm_ml 217) (mm_T 217)) := by rfl
set_option maxRecDepth 100000 in
theorem mm_cw218 : mm_w 9080 = some (Cond.code (mm_Y 218) (mm_B 218) (mm_ml 218) (mm_T 218)) := by rfl
set_option maxRecDepth 100000 in
theorem mm_cw219 : mm_w 9084 = some (Cond.code (mm_Y 219) (mm_B 219) (mm_ml 219) (mm_T 219)) := by rfl
set_option maxRecDepth 100000 in
theorem mm_cw220 : mm_w 9091 = some (Cond.code (mm_Y 220) (mm_B 220) (mm_ml 220) (mm_T 220)) := by rfl
set_option maxRecDepth 100000 in
theorem mm_cw221 : mm_w 9095 = some (Cond.code (mm_Y 221) (mm_B 221) (mm_ml 221) (mm_T 221)) := by rfl
set_option maxRecDepth 100000 in
theorem mm_cw222 : mm_w 9088 = some (Cond.code (mm_Y 222) (mm_B 222) (mm_ml 222) (mm_T 222)) := by rfl
set_option maxRecDepth 100000 in
theorem mm_cw223 : mm_w 9076 = some (Cond.code (mm_Y 223) (mm_B 223) (mm_ml 223) (mm_T 223)) := by rfl
set_option maxRecDepth 100000 in
theorem mm_cw224 : mm_w 9099 = some (Cond.code (mm_Y 224) (mm_B 224) (mm_ml 224) (mm_T 224)) := by rfl
set_option maxRecDepth 100000 in
theorem mm_cw225 : mm_w 9123 = some (Cond.code (mm_Y 225) (mm_B 225) (mm_ml 225) (mm_T 225)) := by rfl
set_option maxRecDepth 100000 in
theorem mm_cw226 : mm_w 9131 = some (Cond.code (mm_Y 226) (mm_B 226) (mm_ml 226) (mm_T 226)) := by rfl
set_option maxRecDepth 100000 in
theorem mm_cw227 : mm_w 9115 = some (Cond.code (mm_Y 227) (mm_B 227) (mm_ml 227) (mm_T 227)) := by rfl
set_option maxRecDepth 100000 in
theorem mm_cw228 : mm_w 9127 = some (Cond.code (mm_Y 228) (mm_B 228) (mm_ml 228) (mm_T 228)) := by rfl
set_option maxRecDepth 100000 in
theorem mm_cw229 : mm_w 9119 = some (Cond.code (mm_Y 229) (mm_B 229) (mm_ml 229) (mm_T 229)) := by rfl
set_option maxRecDepth 100000 in
theorem mm_cw230 : mm_w 9111 = some (Cond.code (mm_Y 230) (mm_B 230) (mm_ml 230) (mm_T 230)) := by rfl
set_option maxRecDepth 100000 in
theorem mm_cw231 : mm_w 9135 = some (Cond.code (mm_Y 231) (mm_B 231) (mm_ml 231) (mm_T 231)) := by rfl
set_option maxRecDepth 100000 in
theorem mm_cw232 : mm_w 9107 = some (Cond.code (mm_Y 232) (mm_B 232) (mm_ml 232) (mm_T 232)) := by rfl
set_option maxRecDepth 100000 in
theorem mm_cw233 : mm_w 9103 = some (Cond.code (mm_Y 233) (mm_B 233) (mm_ml 233) (mm_T 233)) := by rfl
set_option maxRecDepth 100000 in
theorem mm_cw234 : mm_w 9024 = some (Cond.code (mm_Y 234) (mm_B 234) (mm_ml 234) (mm_T 234)) := by rfl
set_option maxRecDepth 100000 in
theorem mm_cw235 : mm_w 8229 = some (Cond.code (mm_Y 235) (mm_B 235) (mm_ml 235) (mm_T 235)) := by rfl
set_option maxRecDepth 100000 in
theorem mm_cw236 : mm_w 9151 = some (Cond.code (mm_Y 236) (mm_B 236) (mm_ml 236) (mm_T 236)) := by rfl
set_option maxRecDepth 100000 in
theorem mm_cw237 : mm_w 9147 = some (Cond.code (mm_Y 237) (mm_B 237) (mm_ml 237) (mm_T 237)) := by rfl
set_option maxRecDepth 100000 in
theorem mm_cw238 : mm_w 9143 = some (Cond.code (mm_Y 238) (mm_B 238) (mm_ml 238) (mm_T 238)) := by rfl
set_option maxRecDepth 100000 in
theorem mm_cw239 : mm_w 9139 = some (Cond.code (mm_Y 239) (mm_B 239) (mm_ml 239) (mm_T 239)) := by rfl
set_option maxRecDepth 100000 in
theorem mm_cw240 : mm_w 9155 = some (Cond.code (mm_Y 240) (mm_B 240) (mm_ml 240) (mm_T 240)) := by rfl
set_option maxRecDepth 100000 in
theorem mm_cw241 : mm_w 9166 = some (Cond.code (mm_Y 241) (mm_B 241) (mm_ml 241) (mm_T 241)) := by rfl
set_option maxRecDepth 100000 in
theorem mm_cw242 : mm_w 9169 = some (Cond.code (mm_Y 242) (mm_B 242) (mm_ml 242) (mm_T 242)) := by rfl
set_option maxRecDepth 100000 in
theorem mm_cw243 : mm_w 9172 = some (Cond.code (mm_Y 243) (mm_B 243) (mm_ml 243) (mm_T 243)) := by rfl
set_option maxRecDepth 100000 in
theorem mm_cw244 : mm_w 9163 = some (Cond.code (mm_Y 244) (mm_B 244) (mm_ml 244) (mm_T 244)) := by rfl
set_option maxRecDepth 100000 in
theorem mm_cw245 : mm_w 9215 = some (Cond.code (mm_Y 245) (mm_B 245) (mm_ml 245) (mm_T 245)) := by rfl
set_option maxRecDepth 100000 in
theorem mm_cw246 : mm_w 9212 = some (Cond.code (mm_Y 246) (mm_B 246) (mm_ml 246) (mm_T 246)) := by rfl
set_option maxRecDepth 100000 in
theorem mm_cw247 : mm_w 9208 = some (Cond.code (mm_Y 247) (mm_B 247) (mm_ml 247) (mm_T 247)) := by rfl
set_option maxRecDepth 100000 in
theorem mm_cw248 : mm_w 9204 = some (Cond.code (mm_Y 248) (mm_B 248) (mm_ml 248) (mm_T 248)) := by rfl
set_option maxRecDepth 100000 in
theorem mm_cw249 : mm_w 9200 = some (Cond.code (mm_Y 249) (mm_B 249) (mm_ml 249) (mm_T 249)) := by rfl
set_option maxRecDepth 100000 in
theorem mm_cw250 : mm_w 9223 = some (Cond.code (mm_Y 250) (mm_B 250) (mm_ml 250) (mm_T 250)) := by rfl
set_option maxRecDepth 100000 in
theorem mm_cw251 : mm_w 8225 = some (Cond.code (mm_Y 251) (mm_B 251) (mm_ml 251) (mm_T 251)) := by rfl
set_option maxRecDepth 100000 in
theorem mm_cw252 : mm_w 9176 = some (Cond.code (mm_Y 252) (mm_B 252) (mm_ml 252) (mm_T 252)) := by rfl
set_option maxRecDepth 100000 in
theorem mm_cw253 : mm_w 9159 = some (Cond.code (mm_Y 253) (mm_B 253) (mm_ml 253) (mm_T 253)) := by rfl
set_option maxRecDepth 100000 in
theorem mm_cw254 : mm_w 9184 = some (Cond.code (mm_Y 254) (mm_B 254) (mm_ml 254) (mm_T 254)) := by rfl
set_option maxRecDepth 100000 in
theorem mm_cw255 : mm_w 9180 = some (Cond.code (mm_Y 255) (mm_B 255) (mm_ml 255) (mm_T 255)) := by rfl
set_option maxRecDepth 100000 in
theorem mm_cw256 : mm_w 8221 = some (Cond.code (mm_Y 256) (mm_B 256) (mm_ml 256) (mm_T 256)) := by rfl
set_option maxRecDepth 100000 in
theorem mm_cw257 : mm_w 9192 = some (Cond.code (mm_Y 257) (mm_B 257) (mm_ml 257) (mm_T 257)) := by rfl
set_option maxRecDepth 100000 in
theorem mm_cw258 : mm_w 9196 = some (Cond.code (mm_Y 258) (mm_B 258) (mm_ml 258) (mm_T 258)) := by rfl
set_option maxRecDepth 100000 in
theorem mm_cw259 : mm_w 9219 = some (Cond.code (mm_Y 259) (mm_B 259) (mm_ml 259) (mm_T 259)) := by rfl
set_option maxRecDepth 100000 in
theorem mm_cw260 : mm_w 9227 = some (Cond.code (mm_Y 260) (mm_B 260) (mm_ml 260) (mm_T 260)) := by rfl
set_option maxRecDepth 100000 in
theorem mm_cw261 : mm_w 10090 = some (Cond.code (mm_Y 261) (mm_B 261) (mm_ml 261) (mm_T 261)) := by rfl
set_option maxRecDepth 100000 in
theorem mm_cw262 : mm_w 10086 = some (Cond.code (mm_Y 262) (mm_B 262) (mm_ml 262) (mm_T 262)) := by rfl
set_option maxRecDepth 100000 in
theorem mm_cw263 : mm_w 10094 = some (Cond.code (mm_Y 263) (mm_B 263) (mm_ml 263) (mm_T 263)) := by rfl
set_option maxRecDepth 100000 in
theorem mm_cw264 : mm_w 10082 = some (Cond.code (mm_Y 264) (mm_B 264) (mm_ml 264) (mm_T 264)) := by rfl
set_option maxRecDepth 100000 in
theorem mm_cw265 : mm_w 10078 = some (Cond.code (mm_Y 265) (mm_B 265) (mm_ml 265) (mm_T 265)) := by rfl
set_option maxRecDepth 100000 in
theorem mm_cw266 : mm_w 10074 = some (Cond.code (mm_Y 266) (mm_B 266) (mm_ml 266) (mm_T 266)) := by rfl
set_option maxRecDepth 100000 in
theorem mm_cw267 : mm_w 10066 = some (Cond.code (mm_Y 267) (mm_B 267) (mm_ml 267) (mm_T 267)) := by rfl
set_option maxRecDepth 100000 in
theorem mm_cw268 : mm_w 10070 = some (Cond.code (mm_Y 268) (mm_B 268) (mm_ml 268) (mm_T 268)) := by rfl
set_option maxRecDepth 100000 in
theorem mm_cw269 : mm_w 10015 = some (Cond.code (mm_Y 269) (mm_B 269) (mm_ml 269) (mm_T 269)) := by rfl
set_option maxRecDepth 100000 in
theorem mm_cw270 : mm_w 10023 = some (Cond.code (mm_Y 270) (mm_B 270) (mm_ml 270) (mm_T 270)) := by rfl
set_option maxRecDepth 100000 in
theorem mm_cw271 : mm_w 10027 = some (Cond.code (mm_Y 271) (mm_B 271) (mm_ml 271) (mm_T 271)) := by rfl
set_option maxRecDepth 100000 in
theorem mm_cw272 : mm_w 10019 = some (Cond.code (mm_Y 272) (mm_B 272) (mm_ml 272) (mm_T 272)) := by rfl
set_option maxRecDepth 100000 in
theorem mm_cw273 : mm_w 10007 = some (Cond.code (mm_Y 273) (mm_B 273) (mm_ml 273) (mm_T 273)) := by rfl
set_option maxRecDepth 100000 in
theorem mm_cw274 : mm_w 10011 = some (Cond.code (mm_Y 274) (mm_B 274) (mm_ml 274) (mm_T 274)) := by rfl
set_option maxRecDepth 100000 in
theorem mm_cw275 : mm_w 10114 = some (Cond.code (mm_Y 275) (mm_B 275) (mm_ml 275) (mm_T 275)) := by rfl
set_option maxRecDepth 100000 in
theorem mm_cw276 : mm_w 10003 = some (Cond.code (mm_Y 276) (mm_B 276) (mm_ml 276) (mm_T 276)) := by rfl
set_option maxRecDepth 100000 in
theorem mm_cw277 : mm_w 10118 = some (Cond.code (mm_Y 277) (mm_B 277) (mm_ml 277) (mm_T 277)) := by rfl
set_option maxRecDepth 100000 in
theorem mm_cw278 : mm_w 9188 = some (Cond.code (mm_Y 278) (mm_B 278) (mm_ml 278) (mm_T 278)) := by rfl
set_option maxRecDepth 100000 in
theorem mm_cw279 : mm_w 9239 = some (Cond.code (mm_Y 279) (mm_B 279) (mm_ml 279) (mm_T 279)) := by rfl
set_option maxRecDepth 100000 in
theorem mm_cw280 : mm_w 9231 = some (Cond.code (mm_Y 280) (mm_B 280) (mm_ml 280) (mm_T 280)) := by rfl
set_option maxRecDepth 100000 in
theorem mm_cw281 : mm_w 9235 = some (Cond.code (mm_Y 281) (mm_B 281) (mm_ml 281) (mm_T 281)) := by rfl
set_option maxRecDepth 100000 in
theorem mm_cw282 : mm_w 10041 = some (Cond.code (mm_Y 282) (mm_B 282) (mm_ml 282) (mm_T 282)) := by rfl
set_option maxRecDepth 100000 in
theorem mm_cw283 : mm_w 10038 = some (Cond.code (mm_Y 283) (mm_B 283) (mm_ml 283) (mm_T 283)) := by rfl
set_option maxRecDepth 100000 in
theorem mm_cw284 : mm_w 10034 = some (Cond.code (mm_Y 284) (mm_B 284) (mm_ml 284) (mm_T 284)) := by rfl
set_option maxRecDepth 100000 in
theorem mm_cw285 : mm_w 10062 = some (Cond.code (mm_Y 285) (mm_B 285) (mm_ml 285) (mm_T 285)) := by rfl
set_option maxRecDepth 100000 in
theorem mm_cw286 : mm_w 10058 = some (Cond.code (mm_Y 286) (mm_B 286) (mm_ml 286) (mm_T 286)) := by rfl
set_option maxRecDepth 100000 in
theorem mm_cw287 : mm_w 10106 = some (Cond.code (mm_Y 287) (mm_B 287) (mm_ml 287) (mm_T 287)) := by rfl
set_option maxRecDepth 100000 in
theorem mm_cw288 : mm_w 10110 = some (Cond.code (mm_Y 288) (mm_B 288) (mm_ml 288) (mm_T 288)) := by rfl
set_option maxRecDepth 100000 in
theorem mm_cw289 : mm_w 10050 = some (Cond.code (mm_Y 289) (mm_B 289) (mm_ml 289) (mm_T 289)) := by rfl
set_option maxRecDepth 100000 in
theorem mm_cw290 : mm_w 10046 = some (Cond.code (mm_Y 290) (mm_B 290) (mm_ml 290) (mm_T 290)) := by rfl
set_option maxRecDepth 100000 in
theorem mm_cw291 : mm_w 10098 = some (Cond.code (mm_Y 291) (mm_B 291) (mm_ml 291) (mm_T 291)) := by rfl
set_option maxRecDepth 100000 in
theorem mm_cw292 : mm_w 10054 = some (Cond.code (mm_Y 292) (mm_B 292) (mm_ml 292) (mm_T 292)) := by rfl
set_option maxRecDepth 100000 in
theorem mm_cw293 : mm_w 10102 = some (Cond.code (mm_Y 293) (mm_B 293) (mm_ml 293) (mm_T 293)) := by rfl
set_option maxRecDepth 100000 in
theorem mm_cw294 : mm_w 10122 = some (Cond.code (mm_Y 294) (mm_B 294) (mm_ml 294) (mm_T 294)) := by rfl
set_option maxRecDepth 100000 in
theorem mm_cw295 : mm_w 10126 = some (Cond.code (mm_Y 295) (mm_B 295) (mm_ml 295) (mm_T 295)) := by rfl
set_option maxRecDepth 100000 in
theorem mm_cw296 : mm_w 10130 = some (Cond.code (mm_Y 296) (mm_B 296) (mm_ml 296) (mm_T 296)) := by rfl
set_option maxRecDepth 100000 in
theorem mm_cw297 : mm_w 10134 = some (Cond.code (mm_Y 297) (mm_B 297) (mm_ml 297) (mm_T 297)) := by rfl
set_option maxRecDepth 100000 in
theorem mm_cw298 : mm_w 10031 = some (Cond.code (mm_Y 298) (mm_B 298) (mm_ml 298) (mm_T 298)) := by rfl
set_option maxRecDepth 100000 in
theorem mm_cw299 : mm_w 10150 = some (Cond.code (mm_Y 299) (mm_B 299) (mm_ml 299) (mm_T 299)) := by rfl
set_option maxRecDepth 100000 in
theorem mm_cw300 : mm_w 10154 = some (Cond.code (mm_Y 300) (mm_B 300) (mm_ml 300) (mm_T 300)) := by rfl
set_option maxRecDepth 100000 in
theorem mm_cw301 : mm_w 10158 = some (Cond.code (mm_Y 301) (mm_B 301) (mm_ml 301) (mm_T 301)) := by rfl
set_option maxRecDepth 100000 in
theorem mm_cw302 : mm_w 10146 = some (Cond.code (mm_Y 302) (mm_B 302) (mm_ml 302) (mm_T 302)) := by rfl
set_option maxRecDepth 100000 in
theorem mm_cw303 : mm_w 10142 = some (Cond.code (mm_Y 303) (mm_B 303) (mm_ml 303) (mm_T 303)) := by rfl
set_option maxRecDepth 100000 in
theorem mm_cw304 : mm_w 10162 = some (Cond.code (mm_Y 304) (mm_B 304) (mm_ml 304) (mm_T 304)) := by rfl
set_option maxRecDepth 100000 in
theorem mm_cw305 : mm_w 10170 = some (Cond.code (mm_Y 305) (mm_B 305) (mm_ml 305) (mm_T 305)) := by rfl
set_option maxRecDepth 100000 in
theorem mm_cw306 : mm_w 10166 = some (Cond.code (mm_Y 306) (mm_B 306) (mm_ml 306) (mm_T 306)) := by rfl
set_option maxRecDepth 100000 in
theorem mm_cw307 : mm_w 10174 = some (Cond.code (mm_Y 307) (mm_B 307) (mm_ml 307) (mm_T 307)) := by rfl
set_option maxRecDepth 100000 in
theorem mm_cw308 : mm_w 10138 = some (Cond.code (mm_Y 308) (mm_B 308) (mm_ml 308) (mm_T 308)) := by rfl
set_option maxRecDepth 100000 in
theorem mm_cw309 : mm_w 10194 = some (Cond.code (mm_Y 309) (mm_B 309) (mm_ml 309) (mm_T 309)) := by rfl
set_option maxRecDepth 100000 in
theorem mm_cw310 : mm_w 10186 = some (Cond.code (mm_Y 310) (mm_B 310) (mm_ml 310) (mm_T 310)) := by rfl
set_option maxRecDepth 100000 in
theorem mm_cw311 : mm_w 10190 = some (Cond.code (mm_Y 311) (mm_B 311) (mm_ml 311) (mm_T 311)) := by rfl
set_option maxRecDepth 100000 in
theorem mm_cw312 : mm_w 10182 = some (Cond.code (mm_Y 312) (mm_B 312) (mm_ml 312) (mm_T 312)) := by rfl
set_option maxRecDepth 100000 in
theorem mm_cw313 : mm_w 10202 = some (Cond.code (mm_Y 313) (mm_B 313) (mm_ml 313) (mm_T 313)) := by rfl
set_option maxRecDepth 100000 in
theorem mm_cw314 : mm_w 10198 = some (Cond.code (mm_Y 314) (mm_B 314) (mm_ml 314) (mm_T 314)) := by rfl
set_option maxRecDepth 100000 in
theorem mm_cw315 : mm_w 10206 = some (Cond.code (mm_Y 315) (mm_B 315) (mm_ml 315) (mm_T 315)) := by rfl
set_option maxRecDepth 100000 in
theorem mm_cw316 : mm_w 10210 = some (Cond.code (mm_Y 316) (mm_B 316) (mm_ml 316) (mm_T 316)) := by rfl
set_option maxRecDepth 100000 in
theorem mm_cw317 : mm_w 10178 = some (Cond.code (mm_Y 317) (mm_B 317) (mm_ml 317) (mm_T 317)) := by rfl
set_option maxRecDepth 100000 in
theorem mm_cw318 : mm_w 10214 = some (Cond.code (mm_Y 318) (mm_B 318) (mm_ml 318) (mm_T 318)) := by rfl
set_option maxRecDepth 100000 in
theorem mm_cw319 : mm_w 10218 = some (Cond.code (mm_Y 319) (mm_B 319) (mm_ml 319) (mm_T 319)) := by rfl
set_option maxRecDepth 100000 in
theorem mm_cw320 : mm_w 10230 = some (Cond.code (mm_Y 320) (mm_B 320) (mm_ml 320) (mm_T 320)) := by rfl
set_option maxRecDepth 100000 in
theorem mm_cw321 : mm_w 10234 = some (Cond.code (mm_Y 321) (mm_B 321) (mm_ml 321) (mm_T 321)) := by rfl
set_option maxRecDepth 100000 in
theorem mm_cw322 : mm_w 10226 = some (Cond.code (mm_Y 322) (mm_B 322) (mm_ml 322) (mm_T 322)) := by rfl
set_option maxRecDepth 100000 in
theorem mm_cw323 : mm_w 10222 = some (Cond.code (mm_Y 323) (mm_B 323) (mm_ml 323) (mm_T 323)) := by rfl
set_option maxRecDepth 100000 in
theorem mm_cw324 : mm_w 10238 = some (Cond.code (mm_Y 324) (mm_B 324) (mm_ml 324) (mm_T 324)) := by rfl
set_option maxRecDepth 100000 in
theorem mm_cw325 : mm_w 11002 = some (Cond.code (mm_Y 325) (mm_B 325) (mm_ml 325) (mm_T 325)) := by rfl
set_option maxRecDepth 100000 in
theorem mm_cw326 : mm_w 11006 = some (Cond.code (mm_Y 326) (mm_B 326) (mm_ml 326) (mm_T 326)) := by rfl
set_option maxRecDepth 100000 in
theorem mm_cw327 : mm_w 11014 = some (Cond.code (mm_Y 327) (mm_B 327) (mm_ml 327) (mm_T 327)) := by rfl
set_option maxRecDepth 100000 in
theorem mm_cw328 : mm_w 11018 = some (Cond.code (mm_Y 328) (mm_B 328) (mm_ml 328) (mm_T 328)) := by rfl
set_option maxRecDepth 100000 in
theorem mm_cw329 : mm_w 11025 = some (Cond.code (mm_Y 329) (mm_B 329) (mm_ml 329) (mm_T 329)) := by rfl
set_option maxRecDepth 100000 in
theorem mm_cw330 : mm_w 11022 = some (Cond.code (mm_Y 330) (mm_B 330) (mm_ml 330) (mm_T 330)) := by rfl
set_option maxRecDepth 100000 in
theorem mm_cw331 : mm_w 11029 = some (Cond.code (mm_Y 331) (mm_B 331) (mm_ml 331) (mm_T 331)) := by rfl
set_option maxRecDepth 100000 in
theorem mm_cw332 : mm_w 11010 = some (Cond.code (mm_Y 332) (mm_B 332) (mm_ml 332) (mm_T 332)) := by rfl
set_option maxRecDepth 100000 in
theorem mm_cw333 : mm_w 11044 = some (Cond.code (mm_Y 333) (mm_B 333) (mm_ml 333) (mm_T 333)) := by rfl
set_option maxRecDepth 100000 in
theorem mm_cw334 : mm_w 11048 = some (Cond.code (mm_Y 334) (mm_B 334) (mm_ml 334) (mm_T 334)) := by rfl
set_option maxRecDepth 100000 in
theorem mm_cw335 : mm_w 11052 = some (Cond.code (mm_Y 335) (mm_B 335) (mm_ml 335) (mm_T 335)) := by rfl
set_option maxRecDepth 100000 in
theorem mm_cw336 : mm_w 11056 = some (Cond.code (mm_Y 336) (mm_B 336) (mm_ml 336) (mm_T 336)) := by rfl
set_option maxRecDepth 100000 in
theorem mm_cw337 : mm_w 11060 = some (Cond.code (mm_Y 337) (mm_B 337) (mm_ml 337) (mm_T 337)) := by rfl
set_option maxRecDepth 100000 in
theorem mm_cw338 : mm_w 5036 = some (Cond.codeWith (mm_Y 338) (mm_B 338) (mm_ml 338) (mm_T 338) (mm_hh 338)) := by rfl
set_option maxRecDepth 100000 in
theorem mm_cw339 : mm_w 5137 = some (Cond.codeWith (mm_Y 339) (mm_B 339) (mm_ml 339) (mm_T 339) (mm_hh 339)) := by rfl
set_option maxRecDepth 100000 in
theorem mm_cw340 : mm_w 5145 = some (Cond.codeWith (mm_Y 340) (mm_B 340) (mm_ml 340) (mm_T 340) (mm_hh 340)) := by rfl
set_option maxRecDepth 100000 in
theorem mm_cw341 : mm_w 6119 = some (Cond.codeWith (mm_Y 341) (mm_B 341) (mm_ml 341) (mm_T 341) (mm_hh 341)) := by rfl
set_option maxRecDepth 100000 in
theorem mm_cw342 : mm_w 6128 = some (Cond.codeWith (mm_Y 342) (mm_B 342) (mm_ml 342) (mm_T 342) (mm_hh 342)) := by rfl
set_option maxRecDepth 100000 in
theorem mm_cw343 : mm_w 6138 = some (Cond.codeWith (mm_Y 343) (mm_B 343) (mm_ml 343) (mm_T 343) (mm_hh 343)) := by rfl
set_option maxRecDepth 100000 in
theorem mm_cw344 : mm_w 6148 = some (Cond.codeWith (mm_Y 344) (mm_B 344) (mm_ml 344) (mm_T 344) (mm_hh 344)) := by rfl
set_option maxRecDepth 100000 in
theorem mm_cw345 : mm_w 6157 = some (Cond.codeWith (mm_Y 345) (mm_B 345) (mm_ml 345) (mm_T 345) (mm_hh 345)) := by rfl
set_option maxRecDepth 100000 in
theorem mm_cw346 : mm_w 6188 = some (Cond.codeWith (mm_Y 346) (mm_B 346) (mm_ml 346) (mm_T 346) (mm_hh 346)) := by rfl
set_option maxRecDepth 100000 in
theorem mm_cw347 : mm_w 6195 = some (Cond.codeWith (mm_Y 347) (mm_B 347) (mm_ml 347) (mm_T 347) (mm_hh 347)) := by rfl
set_option maxRecDepth 100000 in
theorem mm_cw348 : mm_w 6202 = some (Cond.codeWith (mm_Y 348) (mm_B 348) (mm_ml 348) (mm_T 348) (mm_hh 348)) := by rfl
set_option maxRecDepth 100000 in
theorem mm_cw349 : mm_w 6209 = some (Cond.codeWith (mm_Y 349) (mm_B 349) (mm_ml 349) (mm_T 349) (mm_hh 349)) := by rfl
set_option maxRecDepth 100000 in
theorem mm_cw350 : mm_w 6216 = some (Cond.codeWith (mm_Y 350) (mm_B 350) (mm_ml 350) (mm_T 350) (mm_hh 350)) := by rfl
set_option maxRecDepth 100000 in
theorem mm_cw351 : mm_w 6223 = some (Cond.codeWith (mm_Y 351) (mm_B 351) (mm_ml 351) (mm_T 351) (mm_hh 351)) := by rfl
set_option maxRecDepth 100000 in
theorem mm_cw352 : mm_w 6230 = some (Cond.codeWith (mm_Y 352) (mm_B 352) (mm_ml 352) (mm_T 352) (mm_hh 352)) := by rfl
set_option maxRecDepth 100000 in
theorem mm_cw353 : mm_w 6237 = some (Cond.codeWith (mm_Y 353) (mm_B 353) (mm_ml 353) (mm_T 353) (mm_hh 353)) := by rfl
set_option maxRecDepth 100000 in
theorem mm_cw354 : mm_w 7004 = some (Cond.codeWith (mm_Y 354) (mm_B 354) (mm_ml 354) (mm_T 354) (mm_hh 354)) := by rfl
set_option maxRecDepth 100000 in
theorem mm_cw355 : mm_w 7012 = some (Cond.codeWith (mm_Y 355) (mm_B 355) (mm_ml 355) (mm_T 355) (mm_hh 355)) := by rfl
set_option maxRecDepth 100000 in
theorem mm_cw356 : mm_w 7023 = some (Cond.codeWith (mm_Y 356) (mm_B 356) (mm_ml 356) (mm_T 356) (mm_hh 356)) := by rfl
set_option maxRecDepth 100000 in
theorem mm_cw357 : mm_w 7060 = some (Cond.codeWith (mm_Y 357) (mm_B 357) (mm_ml 357) (mm_T 357) (mm_hh 357)) := by rfl
set_option maxRecDepth 100000 in
theorem mm_cw358 : mm_w 7072 = some (Cond.codeWith (mm_Y 358) (mm_B 358) (mm_ml 358) (mm_T 358) (mm_hh 358)) := by rfl
set_option maxRecDepth 100000 in
theorem mm_cw359 : mm_w 7080 = some (Cond.codeWith (mm_Y 359) (mm_B 359) (mm_ml 359) (mm_T 359) (mm_hh 359)) := by rfl
set_option maxRecDepth 100000 in
theorem mm_cw361 : mm_w 2073 = some (Cond.code (mm_Y 361) (mm_B 361) (mm_ml 361) (mm_T 361)) := by rfl
set_option maxRecDepth 100000 in
theorem mm_cw362 : mm_w 4041 = some (Cond.code (mm_Y 362) (mm_B 362) (mm_ml 362) (mm_T 362)) := by rfl
