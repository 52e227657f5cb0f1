/-! THE CELLS: their kinds (1 int[], 2 byte[], 3 boolean[], 4 long[], 6 int[][], 100 + c an array of the class c, 10 + c an object of the class c) and lengths; which stand; what they refer to -/
def pm_kd (a : Nat) : Nat × Nat := cond (Nat.ble 110 a) (cond (Nat.ble 170 a) (cond (Nat.ble 197 a) (cond (Nat.ble 211 a) (cond (Nat.ble 225 a) (cond (Nat.ble 228 a) (cond (Nat.ble 230 a) (cond (Nat.ble 231 a) (cond (Nat.beq a 231) ((1, 13)) ((0, 0))) (cond (Nat.beq a 230) ((4, 4096)) ((0, 0)))) (cond (Nat.ble 229 a) (cond (Nat.beq a 229) ((19, 4)) ((0, 0))) (cond (Nat.beq a 228) ((1, 13)) ((0, 0))))) (cond (Nat.ble 226 a) (cond (Nat.ble 227 a) (cond (Nat.beq a 227) ((4, 4096)) ((0, 0))) (cond (Nat.beq a 226) ((19, 4)) ((0, 0)))) (cond (Nat.beq a 225) ((1, 13)) ((0, 0))))) (cond (Nat.ble 221 a) (cond (Nat.ble 223 a) (cond (Nat.ble 224 a) (cond (Nat.beq a 224) ((4, 4096)) ((0, 0))) (cond (Nat.beq a 223) ((19, 4)) ((0, 0)))) (cond (Nat.ble 222 a) (cond (Nat.beq a 222) ((1, 13)) ((0, 0))) (cond (Nat.beq a 221) ((4, 4096)) ((0, 0))))) (cond (Nat.ble 212 a) (cond (Nat.ble 220 a) (cond (Nat.beq a 220) ((19, 4)) ((0, 0))) (cond (Nat.beq a 212) ((1, 8)) ((0, 0)))) (cond (Nat.beq a 211) ((1, 8)) ((0, 0)))))) (cond (Nat.ble 204 a) (cond (Nat.ble 207 a) (cond (Nat.ble 209 a) (cond (Nat.ble 210 a) (cond (Nat.beq a 210) ((13, 3)) ((0, 0))) (cond (Nat.beq a 209) ((1, 8)) ((0, 0)))) (cond (Nat.ble 208 a) (cond (Nat.beq a 208) ((1, 8)) ((0, 0))) (cond (Nat.beq a 207) ((13, 3)) ((0, 0))))) (cond (Nat.ble 205 a) (cond (Nat.ble 206 a) (cond (Nat.beq a 206) ((1, 8)) ((0, 0))) (cond (Nat.beq a 205) ((1, 8)) ((0, 0)))) (cond (Nat.beq a 204) ((1, 8)) ((0, 0))))) (cond (Nat.ble 200 a) (cond (Nat.ble 202 a) (cond (Nat.ble 203 a) (cond (Nat.beq a 203) ((16, 4)) ((0, 0))) (cond (Nat.beq a 202) ((1, 8)) ((0, 0)))) (cond (Nat.ble 201 a) (cond (Nat.beq a 201) ((1, 8)) ((0, 0))) (cond (Nat.beq a 200) ((1, 8)) ((0, 0))))) (cond (Nat.ble 198 a) (cond (Nat.ble 199 a) (cond (Nat.beq a 199) ((16, 4)) ((0, 0))) (cond (Nat.beq a 198) ((1, 6)) ((0, 0)))) (cond (Nat.beq a 197) ((1, 6)) ((0, 0))))))) (cond (Nat.ble 183 a) (cond (Nat.ble 190 a) (cond (Nat.ble 193 a) (cond (Nat.ble 195 a) (cond (Nat.ble 196 a) (cond (Nat.beq a 196) ((1, 6)) ((0, 0))) (cond (Nat.beq a 195) ((1, 6)) ((0, 0)))) (cond (Nat.ble 194 a) (cond (Nat.beq a 194) ((10, 9)) ((0, 0))) (cond (Nat.beq a 193) ((1, 6)) ((0, 0))))) (cond (Nat.ble 191 a) (cond (Nat.ble 192 a) (cond (Nat.beq a 192) ((1, 6)) ((0, 0))) (cond (Nat.beq a 191) ((1, 6)) ((0, 0)))) (cond (Nat.beq a 190) ((1, 6)) ((0, 0))))) (cond (Nat.ble 186 a) (cond (Nat.ble 188 a) (cond (Nat.ble 189 a) (cond (Nat.beq a 189) ((10, 9)) ((0, 0))) (cond (Nat.beq a 188) ((103, 2)) ((0, 0)))) (cond (Nat.ble 187 a) (cond (Nat.beq a 187) ((1, 2)) ((0, 0))) (cond (Nat.beq a 186) ((106, 2)) ((0, 0))))) (cond (Nat.ble 184 a) (cond (Nat.ble 185 a) (cond (Nat.beq a 185) ((100, 2)) ((0, 0))) (cond (Nat.beq a 184) ((1, 4)) ((0, 0)))) (cond (Nat.beq a 183) ((2, 600)) ((0, 0)))))) (cond (Nat.ble 176 a) (cond (Nat.ble 179 a) (cond (Nat.ble 181 a) (cond (Nat.ble 182 a) (cond (Nat.beq a 182) ((18, 9)) ((0, 0))) (cond (Nat.beq a 181) ((1, 8)) ((0, 0)))) (cond (Nat.ble 180 a) (cond (Nat.beq a 180) ((1, 8)) ((0, 0))) (cond (Nat.beq a 179) ((13, 3)) ((0, 0))))) (cond (Nat.ble 177 a) (cond (Nat.ble 178 a) (cond (Nat.beq a 178) ((1, 8)) ((0, 0))) (cond (Nat.beq a 177) ((1, 8)) ((0, 0)))) (cond (Nat.beq a 176) ((13, 3)) ((0, 0))))) (cond (Nat.ble 173 a) (cond (Nat.ble 174 a) (cond (Nat.ble 175 a) (cond (Nat.beq a 175) ((1, 8)) ((0, 0))) (cond (Nat.beq a 174) ((1, 8)) ((0, 0)))) (cond (Nat.beq a 173) ((1, 8)) ((0, 0)))) (cond (Nat.ble 171 a) (cond (Nat.ble 172 a) (cond (Nat.beq a 172) ((16, 4)) ((0, 0))) (cond (Nat.beq a 171) ((1, 8)) ((0, 0)))) (cond (Nat.beq a 170) ((1, 8)) ((0, 0)))))))) (cond (Nat.ble 143 a) (cond (Nat.ble 156 a) (cond (Nat.ble 163 a) (cond (Nat.ble 166 a) (cond (Nat.ble 168 a) (cond (Nat.ble 169 a) (cond (Nat.beq a 169) ((1, 8)) ((0, 0))) (cond (Nat.beq a 168) ((16, 4)) ((0, 0)))) (cond (Nat.ble 167 a) (cond (Nat.beq a 167) ((1, 6)) ((0, 0))) (cond (Nat.beq a 166) ((1, 6)) ((0, 0))))) (cond (Nat.ble 164 a) (cond (Nat.ble 165 a) (cond (Nat.beq a 165) ((1, 6)) ((0, 0))) (cond (Nat.beq a 164) ((1, 6)) ((0, 0)))) (cond (Nat.beq a 163) ((10, 9)) ((0, 0))))) (cond (Nat.ble 159 a) (cond (Nat.ble 161 a) (cond (Nat.ble 162 a) (cond (Nat.beq a 162) ((1, 6)) ((0, 0))) (cond (Nat.beq a 161) ((1, 6)) ((0, 0)))) (cond (Nat.ble 160 a) (cond (Nat.beq a 160) ((1, 6)) ((0, 0))) (cond (Nat.beq a 159) ((1, 6)) ((0, 0))))) (cond (Nat.ble 157 a) (cond (Nat.ble 158 a) (cond (Nat.beq a 158) ((10, 9)) ((0, 0))) (cond (Nat.beq a 157) ((103, 2)) ((0, 0)))) (cond (Nat.beq a 156) ((1, 2)) ((0, 0)))))) (cond (Nat.ble 149 a) (cond (Nat.ble 152 a) (cond (Nat.ble 154 a) (cond (Nat.ble 155 a) (cond (Nat.beq a 155) ((106, 2)) ((0, 0))) (cond (Nat.beq a 154) ((100, 2)) ((0, 0)))) (cond (Nat.ble 153 a) (cond (Nat.beq a 153) ((1, 4)) ((0, 0))) (cond (Nat.beq a 152) ((2, 600)) ((0, 0))))) (cond (Nat.ble 150 a) (cond (Nat.ble 151 a) (cond (Nat.beq a 151) ((18, 9)) ((0, 0))) (cond (Nat.beq a 150) ((1, 8)) ((0, 0)))) (cond (Nat.beq a 149) ((1, 8)) ((0, 0))))) (cond (Nat.ble 146 a) (cond (Nat.ble 147 a) (cond (Nat.ble 148 a) (cond (Nat.beq a 148) ((13, 3)) ((0, 0))) (cond (Nat.beq a 147) ((1, 8)) ((0, 0)))) (cond (Nat.beq a 146) ((1, 8)) ((0, 0)))) (cond (Nat.ble 144 a) (cond (Nat.ble 145 a) (cond (Nat.beq a 145) ((13, 3)) ((0, 0))) (cond (Nat.beq a 144) ((1, 8)) ((0, 0)))) (cond (Nat.beq a 143) ((1, 8)) ((0, 0))))))) (cond (Nat.ble 129 a) (cond (Nat.ble 136 a) (cond (Nat.ble 139 a) (cond (Nat.ble 141 a) (cond (Nat.ble 142 a) (cond (Nat.beq a 142) ((1, 8)) ((0, 0))) (cond (Nat.beq a 141) ((16, 4)) ((0, 0)))) (cond (Nat.ble 140 a) (cond (Nat.beq a 140) ((1, 8)) ((0, 0))) (cond (Nat.beq a 139) ((1, 8)) ((0, 0))))) (cond (Nat.ble 137 a) (cond (Nat.ble 138 a) (cond (Nat.beq a 138) ((1, 8)) ((0, 0))) (cond (Nat.beq a 137) ((16, 4)) ((0, 0)))) (cond (Nat.beq a 136) ((1, 6)) ((0, 0))))) (cond (Nat.ble 132 a) (cond (Nat.ble 134 a) (cond (Nat.ble 135 a) (cond (Nat.beq a 135) ((1, 6)) ((0, 0))) (cond (Nat.beq a 134) ((1, 6)) ((0, 0)))) (cond (Nat.ble 133 a) (cond (Nat.beq a 133) ((1, 6)) ((0, 0))) (cond (Nat.beq a 132) ((10, 9)) ((0, 0))))) (cond (Nat.ble 130 a) (cond (Nat.ble 131 a) (cond (Nat.beq a 131) ((1, 6)) ((0, 0))) (cond (Nat.beq a 130) ((1, 6)) ((0, 0)))) (cond (Nat.beq a 129) ((1, 6)) ((0, 0)))))) (cond (Nat.ble 122 a) (cond (Nat.ble 125 a) (cond (Nat.ble 127 a) (cond (Nat.ble 128 a) (cond (Nat.beq a 128) ((1, 6)) ((0, 0))) (cond (Nat.beq a 127) ((10, 9)) ((0, 0)))) (cond (Nat.ble 126 a) (cond (Nat.beq a 126) ((103, 2)) ((0, 0))) (cond (Nat.beq a 125) ((1, 2)) ((0, 0))))) (cond (Nat.ble 123 a) (cond (Nat.ble 124 a) (cond (Nat.beq a 124) ((106, 2)) ((0, 0))) (cond (Nat.beq a 123) ((100, 2)) ((0, 0)))) (cond (Nat.beq a 122) ((1, 4)) ((0, 0))))) (cond (Nat.ble 113 a) (cond (Nat.ble 120 a) (cond (Nat.ble 121 a) (cond (Nat.beq a 121) ((2, 600)) ((0, 0))) (cond (Nat.beq a 120) ((18, 9)) ((0, 0)))) (cond (Nat.beq a 113) ((3, 3)) ((0, 0)))) (cond (Nat.ble 111 a) (cond (Nat.ble 112 a) (cond (Nat.beq a 112) ((1, 12)) ((0, 0))) (cond (Nat.beq a 111) ((1, 6)) ((0, 0)))) (cond (Nat.beq a 110) ((1, 12)) ((0, 0))))))))) (cond (Nat.ble 55 a) (cond (Nat.ble 82 a) (cond (Nat.ble 96 a) (cond (Nat.ble 103 a) (cond (Nat.ble 106 a) (cond (Nat.ble 108 a) (cond (Nat.ble 109 a) (cond (Nat.beq a 109) ((1, 84)) ((0, 0))) (cond (Nat.beq a 108) ((3, 4096)) ((0, 0)))) (cond (Nat.ble 107 a) (cond (Nat.beq a 107) ((4, 100)) ((0, 0))) (cond (Nat.beq a 106) ((4, 100)) ((0, 0))))) (cond (Nat.ble 104 a) (cond (Nat.ble 105 a) (cond (Nat.beq a 105) ((1, 2401)) ((0, 0))) (cond (Nat.beq a 104) ((1, 6)) ((0, 0)))) (cond (Nat.beq a 103) ((1, 4096)) ((0, 0))))) (cond (Nat.ble 99 a) (cond (Nat.ble 101 a) (cond (Nat.ble 102 a) (cond (Nat.beq a 102) ((1, 8)) ((0, 0))) (cond (Nat.beq a 101) ((1, 8)) ((0, 0)))) (cond (Nat.ble 100 a) (cond (Nat.beq a 100) ((1, 12)) ((0, 0))) (cond (Nat.beq a 99) ((1, 12)) ((0, 0))))) (cond (Nat.ble 97 a) (cond (Nat.ble 98 a) (cond (Nat.beq a 98) ((1, 12)) ((0, 0))) (cond (Nat.beq a 97) ((1, 12)) ((0, 0)))) (cond (Nat.beq a 96) ((1, 12)) ((0, 0)))))) (cond (Nat.ble 89 a) (cond (Nat.ble 92 a) (cond (Nat.ble 94 a) (cond (Nat.ble 95 a) (cond (Nat.beq a 95) ((1, 12)) ((0, 0))) (cond (Nat.beq a 94) ((1, 6)) ((0, 0)))) (cond (Nat.ble 93 a) (cond (Nat.beq a 93) ((1, 12)) ((0, 0))) (cond (Nat.beq a 92) ((1, 4)) ((0, 0))))) (cond (Nat.ble 90 a) (cond (Nat.ble 91 a) (cond (Nat.beq a 91) ((1, 29)) ((0, 0))) (cond (Nat.beq a 90) ((1, 136)) ((0, 0)))) (cond (Nat.beq a 89) ((1, 8)) ((0, 0))))) (cond (Nat.ble 85 a) (cond (Nat.ble 87 a) (cond (Nat.ble 88 a) (cond (Nat.beq a 88) ((1, 200)) ((0, 0))) (cond (Nat.beq a 87) ((1, 232)) ((0, 0)))) (cond (Nat.ble 86 a) (cond (Nat.beq a 86) ((1, 16)) ((0, 0))) (cond (Nat.beq a 85) ((1, 4)) ((0, 0))))) (cond (Nat.ble 83 a) (cond (Nat.ble 84 a) (cond (Nat.beq a 84) ((1, 4)) ((0, 0))) (cond (Nat.beq a 83) ((1, 4)) ((0, 0)))) (cond (Nat.beq a 82) ((2, 2400)) ((0, 0))))))) (cond (Nat.ble 68 a) (cond (Nat.ble 75 a) (cond (Nat.ble 78 a) (cond (Nat.ble 80 a) (cond (Nat.ble 81 a) (cond (Nat.beq a 81) ((21, 63)) ((0, 0))) (cond (Nat.beq a 80) ((1, 6)) ((0, 0)))) (cond (Nat.ble 79 a) (cond (Nat.beq a 79) ((1, 6)) ((0, 0))) (cond (Nat.beq a 78) ((109, 4)) ((0, 0))))) (cond (Nat.ble 76 a) (cond (Nat.ble 77 a) (cond (Nat.beq a 77) ((1, 96)) ((0, 0))) (cond (Nat.beq a 76) ((11, 4)) ((0, 0)))) (cond (Nat.beq a 75) ((1, 6)) ((0, 0))))) (cond (Nat.ble 71 a) (cond (Nat.ble 73 a) (cond (Nat.ble 74 a) (cond (Nat.beq a 74) ((1, 6)) ((0, 0))) (cond (Nat.beq a 73) ((12, 2)) ((0, 0)))) (cond (Nat.ble 72 a) (cond (Nat.beq a 72) ((1, 12)) ((0, 0))) (cond (Nat.beq a 71) ((1, 12)) ((0, 0))))) (cond (Nat.ble 69 a) (cond (Nat.ble 70 a) (cond (Nat.beq a 70) ((1, 12)) ((0, 0))) (cond (Nat.beq a 69) ((1, 12)) ((0, 0)))) (cond (Nat.beq a 68) ((1, 12)) ((0, 0)))))) (cond (Nat.ble 61 a) (cond (Nat.ble 64 a) (cond (Nat.ble 66 a) (cond (Nat.ble 67 a) (cond (Nat.beq a 67) ((1, 12)) ((0, 0))) (cond (Nat.beq a 66) ((1, 12)) ((0, 0)))) (cond (Nat.ble 65 a) (cond (Nat.beq a 65) ((1, 12)) ((0, 0))) (cond (Nat.beq a 64) ((1, 12)) ((0, 0))))) (cond (Nat.ble 62 a) (cond (Nat.ble 63 a) (cond (Nat.beq a 63) ((6, 9)) ((0, 0))) (cond (Nat.beq a 62) ((1, 8)) ((0, 0)))) (cond (Nat.beq a 61) ((1, 8)) ((0, 0))))) (cond (Nat.ble 58 a) (cond (Nat.ble 59 a) (cond (Nat.ble 60 a) (cond (Nat.beq a 60) ((17, 7)) ((0, 0))) (cond (Nat.beq a 59) ((1, 13)) ((0, 0)))) (cond (Nat.beq a 58) ((1, 13)) ((0, 0)))) (cond (Nat.ble 56 a) (cond (Nat.ble 57 a) (cond (Nat.beq a 57) ((1, 13)) ((0, 0))) (cond (Nat.beq a 56) ((1, 13)) ((0, 0)))) (cond (Nat.beq a 55) ((1, 13)) ((0, 0)))))))) (cond (Nat.ble 28 a) (cond (Nat.ble 41 a) (cond (Nat.ble 48 a) (cond (Nat.ble 51 a) (cond (Nat.ble 53 a) (cond (Nat.ble 54 a) (cond (Nat.beq a 54) ((1, 13)) ((0, 0))) (cond (Nat.beq a 53) ((1, 13)) ((0, 0)))) (cond (Nat.ble 52 a) (cond (Nat.beq a 52) ((1, 12)) ((0, 0))) (cond (Nat.beq a 51) ((1, 6)) ((0, 0))))) (cond (Nat.ble 49 a) (cond (Nat.ble 50 a) (cond (Nat.beq a 50) ((1, 6)) ((0, 0))) (cond (Nat.beq a 49) ((14, 16)) ((0, 0)))) (cond (Nat.beq a 48) ((1, 4)) ((0, 0))))) (cond (Nat.ble 44 a) (cond (Nat.ble 46 a) (cond (Nat.ble 47 a) (cond (Nat.beq a 47) ((2, 0)) ((0, 0))) (cond (Nat.beq a 46) ((1, 8)) ((0, 0)))) (cond (Nat.ble 45 a) (cond (Nat.beq a 45) ((1, 8)) ((0, 0))) (cond (Nat.beq a 44) ((13, 3)) ((0, 0))))) (cond (Nat.ble 42 a) (cond (Nat.ble 43 a) (cond (Nat.beq a 43) ((1, 8)) ((0, 0))) (cond (Nat.beq a 42) ((1, 8)) ((0, 0)))) (cond (Nat.beq a 41) ((1, 8)) ((0, 0)))))) (cond (Nat.ble 34 a) (cond (Nat.ble 37 a) (cond (Nat.ble 39 a) (cond (Nat.ble 40 a) (cond (Nat.beq a 40) ((16, 4)) ((0, 0))) (cond (Nat.beq a 39) ((1, 6)) ((0, 0)))) (cond (Nat.ble 38 a) (cond (Nat.beq a 38) ((1, 6)) ((0, 0))) (cond (Nat.beq a 37) ((1, 6)) ((0, 0))))) (cond (Nat.ble 35 a) (cond (Nat.ble 36 a) (cond (Nat.beq a 36) ((1, 6)) ((0, 0))) (cond (Nat.beq a 35) ((10, 9)) ((0, 0)))) (cond (Nat.beq a 34) ((15, 12)) ((0, 0))))) (cond (Nat.ble 31 a) (cond (Nat.ble 32 a) (cond (Nat.ble 33 a) (cond (Nat.beq a 33) ((108, 3)) ((0, 0))) (cond (Nat.beq a 32) ((1, 8)) ((0, 0)))) (cond (Nat.beq a 31) ((1, 8)) ((0, 0)))) (cond (Nat.ble 29 a) (cond (Nat.ble 30 a) (cond (Nat.beq a 30) ((13, 3)) ((0, 0))) (cond (Nat.beq a 29) ((1, 8)) ((0, 0)))) (cond (Nat.beq a 28) ((1, 8)) ((0, 0))))))) (cond (Nat.ble 14 a) (cond (Nat.ble 21 a) (cond (Nat.ble 24 a) (cond (Nat.ble 26 a) (cond (Nat.ble 27 a) (cond (Nat.beq a 27) ((13, 3)) ((0, 0))) (cond (Nat.beq a 26) ((1, 8)) ((0, 0)))) (cond (Nat.ble 25 a) (cond (Nat.beq a 25) ((1, 8)) ((0, 0))) (cond (Nat.beq a 24) ((1, 8)) ((0, 0))))) (cond (Nat.ble 22 a) (cond (Nat.ble 23 a) (cond (Nat.beq a 23) ((16, 4)) ((0, 0))) (cond (Nat.beq a 22) ((1, 8)) ((0, 0)))) (cond (Nat.beq a 21) ((1, 8)) ((0, 0))))) (cond (Nat.ble 17 a) (cond (Nat.ble 19 a) (cond (Nat.ble 20 a) (cond (Nat.beq a 20) ((1, 8)) ((0, 0))) (cond (Nat.beq a 19) ((16, 4)) ((0, 0)))) (cond (Nat.ble 18 a) (cond (Nat.beq a 18) ((1, 6)) ((0, 0))) (cond (Nat.beq a 17) ((1, 6)) ((0, 0))))) (cond (Nat.ble 15 a) (cond (Nat.ble 16 a) (cond (Nat.beq a 16) ((1, 6)) ((0, 0))) (cond (Nat.beq a 15) ((1, 6)) ((0, 0)))) (cond (Nat.beq a 14) ((10, 9)) ((0, 0)))))) (cond (Nat.ble 7 a) (cond (Nat.ble 10 a) (cond (Nat.ble 12 a) (cond (Nat.ble 13 a) (cond (Nat.beq a 13) ((1, 6)) ((0, 0))) (cond (Nat.beq a 12) ((1, 6)) ((0, 0)))) (cond (Nat.ble 11 a) (cond (Nat.beq a 11) ((1, 6)) ((0, 0))) (cond (Nat.beq a 10) ((1, 6)) ((0, 0))))) (cond (Nat.ble 8 a) (cond (Nat.ble 9 a) (cond (Nat.beq a 9) ((10, 9)) ((0, 0))) (cond (Nat.beq a 8) ((103, 2)) ((0, 0)))) (cond (Nat.beq a 7) ((1, 2)) ((0, 0))))) (cond (Nat.ble 4 a) (cond (Nat.ble 5 a) (cond (Nat.ble 6 a) (cond (Nat.beq a 6) ((106, 2)) ((0, 0))) (cond (Nat.beq a 5) ((100, 2)) ((0, 0)))) (cond (Nat.beq a 4) ((1, 4)) ((0, 0)))) (cond (Nat.ble 2 a) (cond (Nat.ble 3 a) (cond (Nat.beq a 3) ((2, 600)) ((0, 0))) (cond (Nat.beq a 2) ((18, 9)) ((0, 0)))) (cond (Nat.beq a 1) ((20, 10)) ((0, 0)))))))))
def pm_ft (c k : Nat) : Nat := cond (Nat.ble 6 c) (cond (Nat.ble 9 c) (cond (Nat.ble 10 c) (cond (Nat.ble 11 c) (cond (Nat.beq c 11) (cond (Nat.ble 31 k) (cond (Nat.ble 47 k) (cond (Nat.ble 55 k) (cond (Nat.ble 59 k) (cond (Nat.ble 61 k) (cond (Nat.ble 62 k) (cond (Nat.beq k 62) (2) (0)) (cond (Nat.beq k 61) (2) (0))) (cond (Nat.ble 60 k) (cond (Nat.beq k 60) (2) (0)) (cond (Nat.beq k 59) (0) (0)))) (cond (Nat.ble 57 k) (cond (Nat.ble 58 k) (cond (Nat.beq k 58) (0) (0)) (cond (Nat.beq k 57) (0) (0))) (cond (Nat.ble 56 k) (cond (Nat.beq k 56) (0) (0)) (cond (Nat.beq k 55) (2) (0))))) (cond (Nat.ble 51 k) (cond (Nat.ble 53 k) (cond (Nat.ble 54 k) (cond (Nat.beq k 54) (2) (0)) (cond (Nat.beq k 53) (2) (0))) (cond (Nat.ble 52 k) (cond (Nat.beq k 52) (0) (0)) (cond (Nat.beq k 51) (0) (0)))) (cond (Nat.ble 49 k) (cond (Nat.ble 50 k) (cond (Nat.beq k 50) (2) (0)) (cond (Nat.beq k 49) (2) (0))) (cond (Nat.ble 48 k) (cond (Nat.beq k 48) (0) (0)) (cond (Nat.beq k 47) (2) (0)))))) (cond (Nat.ble 39 k) (cond (Nat.ble 43 k) (cond (Nat.ble 45 k) (cond (Nat.ble 46 k) (cond (Nat.beq k 46) (2) (0)) (cond (Nat.beq k 45) (0) (0))) (cond (Nat.ble 44 k) (cond (Nat.beq k 44) (0) (0)) (cond (Nat.beq k 43) (2) (0)))) (cond (Nat.ble 41 k) (cond (Nat.ble 42 k) (cond (Nat.beq k 42) (2) (0)) (cond (Nat.beq k 41) (2) (0))) (cond (Nat.ble 40 k) (cond (Nat.beq k 40) (0) (0)) (cond (Nat.beq k 39) (0) (0))))) (cond (Nat.ble 35 k) (cond (Nat.ble 37 k) (cond (Nat.ble 38 k) (cond (Nat.beq k 38) (0) (0)) (cond (Nat.beq k 37) (0) (0))) (cond (Nat.ble 36 k) (cond (Nat.beq k 36) (2) (0)) (cond (Nat.beq k 35) (2) (0)))) (cond (Nat.ble 33 k) (cond (Nat.ble 34 k) (cond (Nat.beq k 34) (2) (0)) (cond (Nat.beq k 33) (2) (0))) (cond (Nat.ble 32 k) (cond (Nat.beq k 32) (2) (0)) (cond (Nat.beq k 31) (2) (0))))))) (cond (Nat.ble 15 k) (cond (Nat.ble 23 k) (cond (Nat.ble 27 k) (cond (Nat.ble 29 k) (cond (Nat.ble 30 k) (cond (Nat.beq k 30) (2) (0)) (cond (Nat.beq k 29) (0) (0))) (cond (Nat.ble 28 k) (cond (Nat.beq k 28) (0) (0)) (cond (Nat.beq k 27) (0) (0)))) (cond (Nat.ble 25 k) (cond (Nat.ble 26 k) (cond (Nat.beq k 26) (2) (0)) (cond (Nat.beq k 25) (0) (0))) (cond (Nat.ble 24 k) (cond (Nat.beq k 24) (0) (0)) (cond (Nat.beq k 23) (0) (0))))) (cond (Nat.ble 19 k) (cond (Nat.ble 21 k) (cond (Nat.ble 22 k) (cond (Nat.beq k 22) (3) (0)) (cond (Nat.beq k 21) (0) (0))) (cond (Nat.ble 20 k) (cond (Nat.beq k 20) (2) (0)) (cond (Nat.beq k 19) (2) (0)))) (cond (Nat.ble 17 k) (cond (Nat.ble 18 k) (cond (Nat.beq k 18) (0) (0)) (cond (Nat.beq k 17) (0) (0))) (cond (Nat.ble 16 k) (cond (Nat.beq k 16) (0) (0)) (cond (Nat.beq k 15) (1) (0)))))) (cond (Nat.ble 7 k) (cond (Nat.ble 11 k) (cond (Nat.ble 13 k) (cond (Nat.ble 14 k) (cond (Nat.beq k 14) (0) (0)) (cond (Nat.beq k 13) (0) (0))) (cond (Nat.ble 12 k) (cond (Nat.beq k 12) (0) (0)) (cond (Nat.beq k 11) (0) (0)))) (cond (Nat.ble 9 k) (cond (Nat.ble 10 k) (cond (Nat.beq k 10) (0) (0)) (cond (Nat.beq k 9) (2) (0))) (cond (Nat.ble 8 k) (cond (Nat.beq k 8) (2) (0)) (cond (Nat.beq k 7) (2) (0))))) (cond (Nat.ble 3 k) (cond (Nat.ble 5 k) (cond (Nat.ble 6 k) (cond (Nat.beq k 6) (2) (0)) (cond (Nat.beq k 5) (2) (0))) (cond (Nat.ble 4 k) (cond (Nat.beq k 4) (2) (0)) (cond (Nat.beq k 3) (2) (0)))) (cond (Nat.ble 1 k) (cond (Nat.ble 2 k) (cond (Nat.beq k 2) (2) (0)) (cond (Nat.beq k 1) (2) (0))) (cond (Nat.beq k 0) (0) (0))))))) (0)) (cond (Nat.beq c 10) (cond (Nat.ble 5 k) (cond (Nat.ble 7 k) (cond (Nat.ble 8 k) (cond (Nat.ble 9 k) (cond (Nat.beq k 9) (2) (0)) (cond (Nat.beq k 8) (2) (0))) (cond (Nat.beq k 7) (2) (0))) (cond (Nat.ble 6 k) (cond (Nat.beq k 6) (2) (0)) (cond (Nat.beq k 5) (2) (0)))) (cond (Nat.ble 2 k) (cond (Nat.ble 3 k) (cond (Nat.ble 4 k) (cond (Nat.beq k 4) (2) (0)) (cond (Nat.beq k 3) (2) (0))) (cond (Nat.beq k 2) (2) (0))) (cond (Nat.ble 1 k) (cond (Nat.beq k 1) (2) (0)) (cond (Nat.beq k 0) (2) (0))))) (0))) (cond (Nat.beq c 9) (cond (Nat.ble 2 k) (cond (Nat.ble 3 k) (cond (Nat.beq k 3) (3) (0)) (cond (Nat.beq k 2) (1) (0))) (cond (Nat.ble 1 k) (cond (Nat.beq k 1) (2) (0)) (cond (Nat.beq k 0) (2) (0)))) (0))) (cond (Nat.ble 7 c) (cond (Nat.ble 8 c) (cond (Nat.beq c 8) (cond (Nat.ble 4 k) (cond (Nat.ble 6 k) (cond (Nat.ble 7 k) (cond (Nat.ble 8 k) (cond (Nat.beq k 8) (2) (0)) (cond (Nat.beq k 7) (2) (0))) (cond (Nat.beq k 6) (2) (0))) (cond (Nat.ble 5 k) (cond (Nat.beq k 5) (2) (0)) (cond (Nat.beq k 4) (2) (0)))) (cond (Nat.ble 2 k) (cond (Nat.ble 3 k) (cond (Nat.beq k 3) (0) (0)) (cond (Nat.beq k 2) (0) (0))) (cond (Nat.ble 1 k) (cond (Nat.beq k 1) (0) (0)) (cond (Nat.beq k 0) (2) (0))))) (0)) (cond (Nat.beq c 7) (cond (Nat.ble 3 k) (cond (Nat.ble 5 k) (cond (Nat.ble 6 k) (cond (Nat.beq k 6) (2) (0)) (cond (Nat.beq k 5) (2) (0))) (cond (Nat.ble 4 k) (cond (Nat.beq k 4) (0) (0)) (cond (Nat.beq k 3) (0) (0)))) (cond (Nat.ble 1 k) (cond (Nat.ble 2 k) (cond (Nat.beq k 2) (3) (0)) (cond (Nat.beq k 1) (2) (0))) (cond (Nat.beq k 0) (0) (0)))) (0))) (cond (Nat.beq c 6) (cond (Nat.ble 2 k) (cond (Nat.ble 3 k) (cond (Nat.beq k 3) (2) (0)) (cond (Nat.beq k 2) (2) (0))) (cond (Nat.ble 1 k) (cond (Nat.beq k 1) (2) (0)) (cond (Nat.beq k 0) (0) (0)))) (0)))) (cond (Nat.ble 3 c) (cond (Nat.ble 4 c) (cond (Nat.ble 5 c) (cond (Nat.beq c 5) (cond (Nat.ble 6 k) (cond (Nat.ble 9 k) (cond (Nat.ble 10 k) (cond (Nat.ble 11 k) (cond (Nat.beq k 11) (2) (0)) (cond (Nat.beq k 10) (0) (0))) (cond (Nat.beq k 9) (0) (0))) (cond (Nat.ble 7 k) (cond (Nat.ble 8 k) (cond (Nat.beq k 8) (0) (0)) (cond (Nat.beq k 7) (0) (0))) (cond (Nat.beq k 6) (2) (0)))) (cond (Nat.ble 3 k) (cond (Nat.ble 4 k) (cond (Nat.ble 5 k) (cond (Nat.beq k 5) (0) (0)) (cond (Nat.beq k 4) (0) (0))) (cond (Nat.beq k 3) (0) (0))) (cond (Nat.ble 1 k) (cond (Nat.ble 2 k) (cond (Nat.beq k 2) (2) (0)) (cond (Nat.beq k 1) (2) (0))) (cond (Nat.beq k 0) (2) (0))))) (0)) (cond (Nat.beq c 4) (cond (Nat.ble 8 k) (cond (Nat.ble 12 k) (cond (Nat.ble 14 k) (cond (Nat.ble 15 k) (cond (Nat.beq k 15) (0) (0)) (cond (Nat.beq k 14) (2) (0))) (cond (Nat.ble 13 k) (cond (Nat.beq k 13) (2) (0)) (cond (Nat.beq k 12) (2) (0)))) (cond (Nat.ble 10 k) (cond (Nat.ble 11 k) (cond (Nat.beq k 11) (2) (0)) (cond (Nat.beq k 10) (2) (0))) (cond (Nat.ble 9 k) (cond (Nat.beq k 9) (2) (0)) (cond (Nat.beq k 8) (2) (0))))) (cond (Nat.ble 4 k) (cond (Nat.ble 6 k) (cond (Nat.ble 7 k) (cond (Nat.beq k 7) (2) (0)) (cond (Nat.beq k 6) (2) (0))) (cond (Nat.ble 5 k) (cond (Nat.beq k 5) (2) (0)) (cond (Nat.beq k 4) (0) (0)))) (cond (Nat.ble 2 k) (cond (Nat.ble 3 k) (cond (Nat.beq k 3) (0) (0)) (cond (Nat.beq k 2) (0) (0))) (cond (Nat.ble 1 k) (cond (Nat.beq k 1) (0) (0)) (cond (Nat.beq k 0) (0) (0)))))) (0))) (cond (Nat.beq c 3) (cond (Nat.ble 1 k) (cond (Nat.ble 2 k) (cond (Nat.beq k 2) (2) (0)) (cond (Nat.beq k 1) (2) (0))) (cond (Nat.beq k 0) (0) (0))) (0))) (cond (Nat.ble 1 c) (cond (Nat.ble 2 c) (cond (Nat.beq c 2) (cond (Nat.ble 1 k) (cond (Nat.beq k 1) (2) (0)) (cond (Nat.beq k 0) (2) (0))) (0)) (cond (Nat.beq c 1) (cond (Nat.ble 2 k) (cond (Nat.ble 3 k) (cond (Nat.beq k 3) (2) (0)) (cond (Nat.beq k 2) (3) (0))) (cond (Nat.ble 1 k) (cond (Nat.beq k 1) (1) (0)) (cond (Nat.beq k 0) (1) (0)))) (0))) (cond (Nat.beq c 0) (cond (Nat.ble 4 k) (cond (Nat.ble 6 k) (cond (Nat.ble 7 k) (cond (Nat.ble 8 k) (cond (Nat.beq k 8) (2) (0)) (cond (Nat.beq k 7) (2) (0))) (cond (Nat.beq k 6) (2) (0))) (cond (Nat.ble 5 k) (cond (Nat.beq k 5) (2) (0)) (cond (Nat.beq k 4) (0) (0)))) (cond (Nat.ble 2 k) (cond (Nat.ble 3 k) (cond (Nat.beq k 3) (0) (0)) (cond (Nat.beq k 2) (0) (0))) (cond (Nat.ble 1 k) (cond (Nat.beq k 1) (0) (0)) (cond (Nat.beq k 0) (0) (0))))) (0))))
def pm_dA (D : Nat → Bool) (a : Nat) : Bool := cond (Nat.ble 120 a) (cond (Nat.ble 220 a) (cond (Nat.ble 232 a) false (D (3 + (a - 220) / 3))) (cond (Nat.ble 213 a) false (D ((a - 120) / 31)))) (cond (Nat.ble 114 a) false (Nat.ble 1 a))
def pm_dN (D : Nat → Bool) (a j : Nat) : Nat := cond (Nat.ble 132 a) (cond (Nat.ble 179 a) (cond (Nat.ble 199 a) (cond (Nat.ble 220 a) (cond (Nat.ble 226 a) (cond (Nat.ble 229 a) (cond (Nat.beq a 229) (cond (Nat.ble 1 j) (cond (Nat.beq j 1) (231) (0)) (cond (Nat.beq j 0) (230) (0))) (0)) (cond (Nat.beq a 226) (cond (Nat.ble 1 j) (cond (Nat.beq j 1) (228) (0)) (cond (Nat.beq j 0) (227) (0))) (0))) (cond (Nat.ble 223 a) (cond (Nat.beq a 223) (cond (Nat.ble 1 j) (cond (Nat.beq j 1) (225) (0)) (cond (Nat.beq j 0) (224) (0))) (0)) (cond (Nat.beq a 220) (cond (Nat.ble 1 j) (cond (Nat.beq j 1) (222) (0)) (cond (Nat.beq j 0) (221) (0))) (0)))) (cond (Nat.ble 207 a) (cond (Nat.ble 210 a) (cond (Nat.beq a 210) (cond (Nat.ble 2 j) (cond (Nat.beq j 2) (212) (0)) (cond (Nat.beq j 1) (211) (0))) (0)) (cond (Nat.beq a 207) (cond (Nat.ble 2 j) (cond (Nat.beq j 2) (209) (0)) (cond (Nat.beq j 1) (208) (0))) (0))) (cond (Nat.ble 203 a) (cond (Nat.beq a 203) (cond (Nat.ble 2 j) (cond (Nat.ble 3 j) (cond (Nat.beq j 3) (206) (0)) (cond (Nat.beq j 2) (205) (0))) (cond (Nat.beq j 1) (204) (0))) (0)) (cond (Nat.beq a 199) (cond (Nat.ble 2 j) (cond (Nat.ble 3 j) (cond (Nat.beq j 3) (202) (0)) (cond (Nat.beq j 2) (201) (0))) (cond (Nat.beq j 1) (200) (0))) (0))))) (cond (Nat.ble 186 a) (cond (Nat.ble 189 a) (cond (Nat.ble 194 a) (cond (Nat.beq a 194) (cond (Nat.ble 7 j) (cond (Nat.ble 8 j) (cond (Nat.beq j 8) (198) (0)) (cond (Nat.beq j 7) (197) (0))) (cond (Nat.ble 6 j) (cond (Nat.beq j 6) (196) (0)) (cond (Nat.beq j 5) (195) (0)))) (0)) (cond (Nat.beq a 189) (cond (Nat.ble 7 j) (cond (Nat.ble 8 j) (cond (Nat.beq j 8) (193) (0)) (cond (Nat.beq j 7) (192) (0))) (cond (Nat.ble 6 j) (cond (Nat.beq j 6) (191) (0)) (cond (Nat.beq j 5) (190) (0)))) (0))) (cond (Nat.ble 188 a) (cond (Nat.beq a 188) (cond (Nat.ble 1 j) (cond (Nat.beq j 1) (210) (0)) (cond (Nat.beq j 0) (207) (0))) (0)) (cond (Nat.beq a 186) (cond (Nat.ble 1 j) (cond (Nat.beq j 1) (203) (0)) (cond (Nat.beq j 0) (199) (0))) (0)))) (cond (Nat.ble 182 a) (cond (Nat.ble 185 a) (cond (Nat.beq a 185) (cond (Nat.ble 1 j) (cond (Nat.beq j 1) (194) (0)) (cond (Nat.beq j 0) (189) (0))) (0)) (cond (Nat.beq a 182) (cond (Nat.ble 6 j) (cond (Nat.ble 7 j) (cond (Nat.ble 8 j) (cond (Nat.beq j 8) (188) (0)) (cond (Nat.beq j 7) (187) (0))) (cond (Nat.beq j 6) (186) (0))) (cond (Nat.ble 4 j) (cond (Nat.ble 5 j) (cond (Nat.beq j 5) (185) (0)) (cond (Nat.beq j 4) (184) (0))) (cond (Nat.beq j 0) (183) (0)))) (0))) (cond (Nat.beq a 179) (cond (Nat.ble 2 j) (cond (Nat.beq j 2) (181) (0)) (cond (Nat.beq j 1) (180) (0))) (0))))) (cond (Nat.ble 155 a) (cond (Nat.ble 163 a) (cond (Nat.ble 172 a) (cond (Nat.ble 176 a) (cond (Nat.beq a 176) (cond (Nat.ble 2 j) (cond (Nat.beq j 2) (178) (0)) (cond (Nat.beq j 1) (177) (0))) (0)) (cond (Nat.beq a 172) (cond (Nat.ble 2 j) (cond (Nat.ble 3 j) (cond (Nat.beq j 3) (175) (0)) (cond (Nat.beq j 2) (174) (0))) (cond (Nat.beq j 1) (173) (0))) (0))) (cond (Nat.ble 168 a) (cond (Nat.beq a 168) (cond (Nat.ble 2 j) (cond (Nat.ble 3 j) (cond (Nat.beq j 3) (171) (0)) (cond (Nat.beq j 2) (170) (0))) (cond (Nat.beq j 1) (169) (0))) (0)) (cond (Nat.beq a 163) (cond (Nat.ble 7 j) (cond (Nat.ble 8 j) (cond (Nat.beq j 8) (167) (0)) (cond (Nat.beq j 7) (166) (0))) (cond (Nat.ble 6 j) (cond (Nat.beq j 6) (165) (0)) (cond (Nat.beq j 5) (164) (0)))) (0)))) (cond (Nat.ble 157 a) (cond (Nat.ble 158 a) (cond (Nat.beq a 158) (cond (Nat.ble 7 j) (cond (Nat.ble 8 j) (cond (Nat.beq j 8) (162) (0)) (cond (Nat.beq j 7) (161) (0))) (cond (Nat.ble 6 j) (cond (Nat.beq j 6) (160) (0)) (cond (Nat.beq j 5) (159) (0)))) (0)) (cond (Nat.beq a 157) (cond (Nat.ble 1 j) (cond (Nat.beq j 1) (179) (0)) (cond (Nat.beq j 0) (176) (0))) (0))) (cond (Nat.beq a 155) (cond (Nat.ble 1 j) (cond (Nat.beq j 1) (172) (0)) (cond (Nat.beq j 0) (168) (0))) (0)))) (cond (Nat.ble 145 a) (cond (Nat.ble 151 a) (cond (Nat.ble 154 a) (cond (Nat.beq a 154) (cond (Nat.ble 1 j) (cond (Nat.beq j 1) (163) (0)) (cond (Nat.beq j 0) (158) (0))) (0)) (cond (Nat.beq a 151) (cond (Nat.ble 6 j) (cond (Nat.ble 7 j) (cond (Nat.ble 8 j) (cond (Nat.beq j 8) (157) (0)) (cond (Nat.beq j 7) (156) (0))) (cond (Nat.beq j 6) (155) (0))) (cond (Nat.ble 4 j) (cond (Nat.ble 5 j) (cond (Nat.beq j 5) (154) (0)) (cond (Nat.beq j 4) (153) (0))) (cond (Nat.beq j 0) (152) (0)))) (0))) (cond (Nat.ble 148 a) (cond (Nat.beq a 148) (cond (Nat.ble 2 j) (cond (Nat.beq j 2) (150) (0)) (cond (Nat.beq j 1) (149) (0))) (0)) (cond (Nat.beq a 145) (cond (Nat.ble 2 j) (cond (Nat.beq j 2) (147) (0)) (cond (Nat.beq j 1) (146) (0))) (0)))) (cond (Nat.ble 137 a) (cond (Nat.ble 141 a) (cond (Nat.beq a 141) (cond (Nat.ble 2 j) (cond (Nat.ble 3 j) (cond (Nat.beq j 3) (144) (0)) (cond (Nat.beq j 2) (143) (0))) (cond (Nat.beq j 1) (142) (0))) (0)) (cond (Nat.beq a 137) (cond (Nat.ble 2 j) (cond (Nat.ble 3 j) (cond (Nat.beq j 3) (140) (0)) (cond (Nat.beq j 2) (139) (0))) (cond (Nat.beq j 1) (138) (0))) (0))) (cond (Nat.beq a 132) (cond (Nat.ble 7 j) (cond (Nat.ble 8 j) (cond (Nat.beq j 8) (136) (0)) (cond (Nat.beq j 7) (135) (0))) (cond (Nat.ble 6 j) (cond (Nat.beq j 6) (134) (0)) (cond (Nat.beq j 5) (133) (0)))) (0)))))) (cond (Nat.ble 40 a) (cond (Nat.ble 78 a) (cond (Nat.ble 123 a) (cond (Nat.ble 126 a) (cond (Nat.ble 127 a) (cond (Nat.beq a 127) (cond (Nat.ble 7 j) (cond (Nat.ble 8 j) (cond (Nat.beq j 8) (131) (0)) (cond (Nat.beq j 7) (130) (0))) (cond (Nat.ble 6 j) (cond (Nat.beq j 6) (129) (0)) (cond (Nat.beq j 5) (128) (0)))) (0)) (cond (Nat.beq a 126) (cond (Nat.ble 1 j) (cond (Nat.beq j 1) (148) (0)) (cond (Nat.beq j 0) (145) (0))) (0))) (cond (Nat.ble 124 a) (cond (Nat.beq a 124) (cond (Nat.ble 1 j) (cond (Nat.beq j 1) (141) (0)) (cond (Nat.beq j 0) (137) (0))) (0)) (cond (Nat.beq a 123) (cond (Nat.ble 1 j) (cond (Nat.beq j 1) (132) (0)) (cond (Nat.beq j 0) (127) (0))) (0)))) (cond (Nat.ble 81 a) (cond (Nat.ble 120 a) (cond (Nat.beq a 120) (cond (Nat.ble 6 j) (cond (Nat.ble 7 j) (cond (Nat.ble 8 j) (cond (Nat.beq j 8) (126) (0)) (cond (Nat.beq j 7) (125) (0))) (cond (Nat.beq j 6) (124) (0))) (cond (Nat.ble 4 j) (cond (Nat.ble 5 j) (cond (Nat.beq j 5) (123) (0)) (cond (Nat.beq j 4) (122) (0))) (cond (Nat.beq j 0) (121) (0)))) (0)) (cond (Nat.beq a 81) (cond (Nat.ble 34 j) (cond (Nat.ble 49 j) (cond (Nat.ble 55 j) (cond (Nat.ble 61 j) (cond (Nat.ble 62 j) (cond (Nat.beq j 62) (113) (0)) (cond (Nat.beq j 61) (112) (0))) (cond (Nat.ble 60 j) (cond (Nat.beq j 60) (111) (0)) (cond (Nat.beq j 55) (110) (0)))) (cond (Nat.ble 53 j) (cond (Nat.ble 54 j) (cond (Nat.beq j 54) (109) (0)) (cond (Nat.beq j 53) (108) (0))) (cond (Nat.ble 50 j) (cond (Nat.beq j 50) (107) (0)) (cond (Nat.beq j 49) (106) (0))))) (cond (Nat.ble 42 j) (cond (Nat.ble 46 j) (cond (Nat.ble 47 j) (cond (Nat.beq j 47) (105) (0)) (cond (Nat.beq j 46) (104) (0))) (cond (Nat.ble 43 j) (cond (Nat.beq j 43) (103) (0)) (cond (Nat.beq j 42) (102) (0)))) (cond (Nat.ble 36 j) (cond (Nat.ble 41 j) (cond (Nat.beq j 41) (101) (0)) (cond (Nat.beq j 36) (100) (0))) (cond (Nat.ble 35 j) (cond (Nat.beq j 35) (99) (0)) (cond (Nat.beq j 34) (98) (0)))))) (cond (Nat.ble 9 j) (cond (Nat.ble 30 j) (cond (Nat.ble 32 j) (cond (Nat.ble 33 j) (cond (Nat.beq j 33) (97) (0)) (cond (Nat.beq j 32) (96) (0))) (cond (Nat.ble 31 j) (cond (Nat.beq j 31) (95) (0)) (cond (Nat.beq j 30) (94) (0)))) (cond (Nat.ble 20 j) (cond (Nat.ble 26 j) (cond (Nat.beq j 26) (93) (0)) (cond (Nat.beq j 20) (92) (0))) (cond (Nat.ble 19 j) (cond (Nat.beq j 19) (91) (0)) (cond (Nat.beq j 9) (90) (0))))) (cond (Nat.ble 5 j) (cond (Nat.ble 7 j) (cond (Nat.ble 8 j) (cond (Nat.beq j 8) (89) (0)) (cond (Nat.beq j 7) (88) (0))) (cond (Nat.ble 6 j) (cond (Nat.beq j 6) (87) (0)) (cond (Nat.beq j 5) (86) (0)))) (cond (Nat.ble 3 j) (cond (Nat.ble 4 j) (cond (Nat.beq j 4) (85) (0)) (cond (Nat.beq j 3) (84) (0))) (cond (Nat.ble 2 j) (cond (Nat.beq j 2) (83) (0)) (cond (Nat.beq j 1) (82) (0))))))) (0))) (cond (Nat.beq a 78) (cond (Nat.ble 2 j) (cond (Nat.ble 3 j) (cond (Nat.beq j 3) (cond (D 6) 229 0) (0)) (cond (Nat.beq j 2) (cond (D 5) 226 0) (0))) (cond (Nat.ble 1 j) (cond (Nat.beq j 1) (cond (D 4) 223 0) (0)) (cond (Nat.beq j 0) (cond (D 3) 220 0) (0)))) (0)))) (cond (Nat.ble 60 a) (cond (Nat.ble 73 a) (cond (Nat.ble 76 a) (cond (Nat.beq a 76) (cond (Nat.beq j 3) (77) (0)) (0)) (cond (Nat.beq a 73) (cond (Nat.ble 1 j) (cond (Nat.beq j 1) (75) (0)) (cond (Nat.beq j 0) (74) (0))) (0))) (cond (Nat.ble 63 a) (cond (Nat.beq a 63) (cond (Nat.ble 4 j) (cond (Nat.ble 6 j) (cond (Nat.ble 7 j) (cond (Nat.ble 8 j) (cond (Nat.beq j 8) (72) (0)) (cond (Nat.beq j 7) (71) (0))) (cond (Nat.beq j 6) (70) (0))) (cond (Nat.ble 5 j) (cond (Nat.beq j 5) (69) (0)) (cond (Nat.beq j 4) (68) (0)))) (cond (Nat.ble 2 j) (cond (Nat.ble 3 j) (cond (Nat.beq j 3) (67) (0)) (cond (Nat.beq j 2) (66) (0))) (cond (Nat.ble 1 j) (cond (Nat.beq j 1) (65) (0)) (cond (Nat.beq j 0) (64) (0))))) (0)) (cond (Nat.beq a 60) (cond (Nat.ble 5 j) (cond (Nat.ble 6 j) (cond (Nat.beq j 6) (63) (0)) (cond (Nat.beq j 5) (62) (0))) (cond (Nat.beq j 1) (61) (0))) (0)))) (cond (Nat.ble 44 a) (cond (Nat.ble 49 a) (cond (Nat.beq a 49) (cond (Nat.ble 10 j) (cond (Nat.ble 12 j) (cond (Nat.ble 13 j) (cond (Nat.ble 14 j) (cond (Nat.beq j 14) (59) (0)) (cond (Nat.beq j 13) (58) (0))) (cond (Nat.beq j 12) (57) (0))) (cond (Nat.ble 11 j) (cond (Nat.beq j 11) (56) (0)) (cond (Nat.beq j 10) (55) (0)))) (cond (Nat.ble 7 j) (cond (Nat.ble 8 j) (cond (Nat.ble 9 j) (cond (Nat.beq j 9) (54) (0)) (cond (Nat.beq j 8) (53) (0))) (cond (Nat.beq j 7) (52) (0))) (cond (Nat.ble 6 j) (cond (Nat.beq j 6) (51) (0)) (cond (Nat.beq j 5) (50) (0))))) (0)) (cond (Nat.beq a 44) (cond (Nat.ble 2 j) (cond (Nat.beq j 2) (46) (0)) (cond (Nat.beq j 1) (45) (0))) (0))) (cond (Nat.beq a 40) (cond (Nat.ble 2 j) (cond (Nat.ble 3 j) (cond (Nat.beq j 3) (43) (0)) (cond (Nat.beq j 2) (42) (0))) (cond (Nat.beq j 1) (41) (0))) (0))))) (cond (Nat.ble 19 a) (cond (Nat.ble 30 a) (cond (Nat.ble 34 a) (cond (Nat.ble 35 a) (cond (Nat.beq a 35) (cond (Nat.ble 7 j) (cond (Nat.ble 8 j) (cond (Nat.beq j 8) (39) (0)) (cond (Nat.beq j 7) (38) (0))) (cond (Nat.ble 6 j) (cond (Nat.beq j 6) (37) (0)) (cond (Nat.beq j 5) (36) (0)))) (0)) (cond (Nat.beq a 34) (cond (Nat.ble 2 j) (cond (Nat.ble 6 j) (cond (Nat.ble 11 j) (cond (Nat.beq j 11) (48) (0)) (cond (Nat.beq j 6) (cond (D 7) 3 47) (0))) (cond (Nat.beq j 2) (44) (0))) (cond (Nat.ble 1 j) (cond (Nat.beq j 1) (40) (0)) (cond (Nat.beq j 0) (35) (0)))) (0))) (cond (Nat.ble 33 a) (cond (Nat.beq a 33) (cond (Nat.ble 1 j) (cond (Nat.ble 2 j) (cond (Nat.beq j 2) (cond (D 2) 182 0) (0)) (cond (Nat.beq j 1) (cond (D 1) 151 0) (0))) (cond (Nat.beq j 0) (cond (D 0) 120 0) (0))) (0)) (cond (Nat.beq a 30) (cond (Nat.ble 2 j) (cond (Nat.beq j 2) (32) (0)) (cond (Nat.beq j 1) (31) (0))) (0)))) (cond (Nat.ble 23 a) (cond (Nat.ble 27 a) (cond (Nat.beq a 27) (cond (Nat.ble 2 j) (cond (Nat.beq j 2) (29) (0)) (cond (Nat.beq j 1) (28) (0))) (0)) (cond (Nat.beq a 23) (cond (Nat.ble 2 j) (cond (Nat.ble 3 j) (cond (Nat.beq j 3) (26) (0)) (cond (Nat.beq j 2) (25) (0))) (cond (Nat.beq j 1) (24) (0))) (0))) (cond (Nat.beq a 19) (cond (Nat.ble 2 j) (cond (Nat.ble 3 j) (cond (Nat.beq j 3) (22) (0)) (cond (Nat.beq j 2) (21) (0))) (cond (Nat.beq j 1) (20) (0))) (0)))) (cond (Nat.ble 6 a) (cond (Nat.ble 9 a) (cond (Nat.ble 14 a) (cond (Nat.beq a 14) (cond (Nat.ble 7 j) (cond (Nat.ble 8 j) (cond (Nat.beq j 8) (18) (0)) (cond (Nat.beq j 7) (17) (0))) (cond (Nat.ble 6 j) (cond (Nat.beq j 6) (16) (0)) (cond (Nat.beq j 5) (15) (0)))) (0)) (cond (Nat.beq a 9) (cond (Nat.ble 7 j) (cond (Nat.ble 8 j) (cond (Nat.beq j 8) (13) (0)) (cond (Nat.beq j 7) (12) (0))) (cond (Nat.ble 6 j) (cond (Nat.beq j 6) (11) (0)) (cond (Nat.beq j 5) (10) (0)))) (0))) (cond (Nat.ble 8 a) (cond (Nat.beq a 8) (cond (Nat.ble 1 j) (cond (Nat.beq j 1) (30) (0)) (cond (Nat.beq j 0) (27) (0))) (0)) (cond (Nat.beq a 6) (cond (Nat.ble 1 j) (cond (Nat.beq j 1) (23) (0)) (cond (Nat.beq j 0) (19) (0))) (0)))) (cond (Nat.ble 2 a) (cond (Nat.ble 5 a) (cond (Nat.beq a 5) (cond (Nat.ble 1 j) (cond (Nat.beq j 1) (14) (0)) (cond (Nat.beq j 0) (9) (0))) (0)) (cond (Nat.beq a 2) (cond (Nat.ble 6 j) (cond (Nat.ble 7 j) (cond (Nat.ble 8 j) (cond (Nat.beq j 8) (8) (0)) (cond (Nat.beq j 7) (7) (0))) (cond (Nat.beq j 6) (6) (0))) (cond (Nat.ble 4 j) (cond (Nat.ble 5 j) (cond (Nat.beq j 5) (5) (0)) (cond (Nat.beq j 4) (4) (0))) (cond (Nat.beq j 0) (3) (0)))) (0))) (cond (Nat.beq a 1) (cond (Nat.ble 5 j) (cond (Nat.ble 7 j) (cond (Nat.ble 8 j) (cond (Nat.ble 9 j) (cond (Nat.beq j 9) (80) (0)) (cond (Nat.beq j 8) (79) (0))) (cond (Nat.beq j 7) (78) (0))) (cond (Nat.ble 6 j) (cond (Nat.beq j 6) (76) (0)) (cond (Nat.beq j 5) (73) (0)))) (cond (Nat.ble 2 j) (cond (Nat.ble 3 j) (cond (Nat.ble 4 j) (cond (Nat.beq j 4) (60) (0)) (cond (Nat.beq j 3) (49) (0))) (cond (Nat.beq j 2) (34) (0))) (cond (Nat.ble 1 j) (cond (Nat.beq j 1) (33) (0)) (cond (Nat.beq j 0) (2) (0))))) (0))))))
abbrev pm_mk (al : List Nat) (D : Nat → Bool) (I : Nat → Nat → Int32) (L : Nat → Nat → Int64) : pm_M := (al, pm_dA D, pm_dN D, I, L)
def pm_sl (q : Nat) : Nat := cond (Nat.ble 903 q) (cond (Nat.ble 904 q) (cond (Nat.ble 905 q) (cond (Nat.beq q 905) (28) (0)) (cond (Nat.beq q 904) (28) (0))) (cond (Nat.beq q 903) (7) (0))) (cond (Nat.ble 902 q) (cond (Nat.beq q 902) (7) (0)) (cond (Nat.beq q 901) (7) (0)))
def pm_sv (q k : Nat) : Int32 := cond (Nat.ble 903 q) (cond (Nat.ble 904 q) (cond (Nat.ble 905 q) (cond (Nat.beq q 905) (cond (Nat.ble 14 k) (cond (Nat.ble 21 k) (cond (Nat.ble 24 k) (cond (Nat.ble 26 k) (cond (Nat.ble 27 k) (cond (Nat.beq k 27) (0) (0)) (cond (Nat.beq k 26) (0) (0))) (cond (Nat.ble 25 k) (cond (Nat.beq k 25) (6) (0)) (cond (Nat.beq k 24) (11) (0)))) (cond (Nat.ble 22 k) (cond (Nat.ble 23 k) (cond (Nat.beq k 23) (0) (0)) (cond (Nat.beq k 22) (0) (0))) (cond (Nat.beq k 21) (0) (0)))) (cond (Nat.ble 17 k) (cond (Nat.ble 19 k) (cond (Nat.ble 20 k) (cond (Nat.beq k 20) (11) (0)) (cond (Nat.beq k 19) (0) (0))) (cond (Nat.ble 18 k) (cond (Nat.beq k 18) (0) (0)) (cond (Nat.beq k 17) (0) (0)))) (cond (Nat.ble 15 k) (cond (Nat.ble 16 k) (cond (Nat.beq k 16) (11) (0)) (cond (Nat.beq k 15) (0) (0))) (cond (Nat.beq k 14) (6) (0))))) (cond (Nat.ble 7 k) (cond (Nat.ble 10 k) (cond (Nat.ble 12 k) (cond (Nat.ble 13 k) (cond (Nat.beq k 13) (11) (0)) (cond (Nat.beq k 12) (5) (0))) (cond (Nat.ble 11 k) (cond (Nat.beq k 11) (9) (0)) (cond (Nat.beq k 10) (9) (0)))) (cond (Nat.ble 8 k) (cond (Nat.ble 9 k) (cond (Nat.beq k 9) (9) (0)) (cond (Nat.beq k 8) (9) (0))) (cond (Nat.beq k 7) (0) (0)))) (cond (Nat.ble 3 k) (cond (Nat.ble 5 k) (cond (Nat.ble 6 k) (cond (Nat.beq k 6) (0) (0)) (cond (Nat.beq k 5) (0) (0))) (cond (Nat.ble 4 k) (cond (Nat.beq k 4) (12) (0)) (cond (Nat.beq k 3) (0) (0)))) (cond (Nat.ble 1 k) (cond (Nat.ble 2 k) (cond (Nat.beq k 2) (20) (0)) (cond (Nat.beq k 1) (9) (0))) (cond (Nat.beq k 0) (99) (0)))))) (0)) (cond (Nat.beq q 904) (cond (Nat.ble 14 k) (cond (Nat.ble 21 k) (cond (Nat.ble 24 k) (cond (Nat.ble 26 k) (cond (Nat.ble 27 k) (cond (Nat.beq k 27) (0) (0)) (cond (Nat.beq k 26) (0) (0))) (cond (Nat.ble 25 k) (cond (Nat.beq k 25) (0) (0)) (cond (Nat.beq k 24) (0) (0)))) (cond (Nat.ble 22 k) (cond (Nat.ble 23 k) (cond (Nat.beq k 23) (0) (0)) (cond (Nat.beq k 22) (0) (0))) (cond (Nat.beq k 21) (0) (0)))) (cond (Nat.ble 17 k) (cond (Nat.ble 19 k) (cond (Nat.ble 20 k) (cond (Nat.beq k 20) (0) (0)) (cond (Nat.beq k 19) (0) (0))) (cond (Nat.ble 18 k) (cond (Nat.beq k 18) (0) (0)) (cond (Nat.beq k 17) (0) (0)))) (cond (Nat.ble 15 k) (cond (Nat.ble 16 k) (cond (Nat.beq k 16) (0) (0)) (cond (Nat.beq k 15) (0) (0))) (cond (Nat.beq k 14) (1) (0))))) (cond (Nat.ble 7 k) (cond (Nat.ble 10 k) (cond (Nat.ble 12 k) (cond (Nat.ble 13 k) (cond (Nat.beq k 13) (0) (0)) (cond (Nat.beq k 12) (0) (0))) (cond (Nat.ble 11 k) (cond (Nat.beq k 11) (0) (0)) (cond (Nat.beq k 10) (0) (0)))) (cond (Nat.ble 8 k) (cond (Nat.ble 9 k) (cond (Nat.beq k 9) (0) (0)) (cond (Nat.beq k 8) (1) (0))) (cond (Nat.beq k 7) (0) (0)))) (cond (Nat.ble 3 k) (cond (Nat.ble 5 k) (cond (Nat.ble 6 k) (cond (Nat.beq k 6) (0) (0)) (cond (Nat.beq k 5) (0) (0))) (cond (Nat.ble 4 k) (cond (Nat.beq k 4) (0) (0)) (cond (Nat.beq k 3) (0) (0)))) (cond (Nat.ble 1 k) (cond (Nat.ble 2 k) (cond (Nat.beq k 2) (0) (0)) (cond (Nat.beq k 1) (0) (0))) (cond (Nat.beq k 0) (1) (0)))))) (0))) (cond (Nat.beq q 903) (cond (Nat.ble 3 k) (cond (Nat.ble 5 k) (cond (Nat.ble 6 k) (cond (Nat.beq k 6) (8) (0)) (cond (Nat.beq k 5) (0) (0))) (cond (Nat.ble 4 k) (cond (Nat.beq k 4) (0) (0)) (cond (Nat.beq k 3) (8) (0)))) (cond (Nat.ble 1 k) (cond (Nat.ble 2 k) (cond (Nat.beq k 2) (6) (0)) (cond (Nat.beq k 1) (0) (0))) (cond (Nat.beq k 0) (0) (0)))) (0))) (cond (Nat.ble 902 q) (cond (Nat.beq q 902) (cond (Nat.ble 3 k) (cond (Nat.ble 5 k) (cond (Nat.ble 6 k) (cond (Nat.beq k 6) (2) (0)) (cond (Nat.beq k 5) (1) (0))) (cond (Nat.ble 4 k) (cond (Nat.beq k 4) (1) (0)) (cond (Nat.beq k 3) (3) (0)))) (cond (Nat.ble 1 k) (cond (Nat.ble 2 k) (cond (Nat.beq k 2) (4) (0)) (cond (Nat.beq k 1) (1) (0))) (cond (Nat.beq k 0) (3) (0)))) (0)) (cond (Nat.beq q 901) (cond (Nat.ble 3 k) (cond (Nat.ble 5 k) (cond (Nat.ble 6 k) (cond (Nat.beq k 6) (3) (0)) (cond (Nat.beq k 5) (2) (0))) (cond (Nat.ble 4 k) (cond (Nat.beq k 4) (2) (0)) (cond (Nat.beq k 3) (1) (0)))) (cond (Nat.ble 1 k) (cond (Nat.ble 2 k) (cond (Nat.beq k 2) (0) (0)) (cond (Nat.beq k 1) (0) (0))) (cond (Nat.beq k 0) (0) (0)))) (0)))
def pm_tl (q : Nat) : Nat := cond (Nat.ble 914 q) (cond (Nat.ble 916 q) (cond (Nat.ble 917 q) (cond (Nat.beq q 917) (5) (0)) (cond (Nat.beq q 916) (4) (0))) (cond (Nat.ble 915 q) (cond (Nat.beq q 915) (5) (0)) (cond (Nat.beq q 914) (4) (0)))) (cond (Nat.ble 912 q) (cond (Nat.ble 913 q) (cond (Nat.beq q 913) (4) (0)) (cond (Nat.beq q 912) (8) (0))) (cond (Nat.beq q 911) (7) (0)))
def pm_tv (q k : Nat) : Int32 := cond (Nat.ble 914 q) (cond (Nat.ble 916 q) (cond (Nat.ble 917 q) (cond (Nat.beq q 917) (cond (Nat.ble 2 k) (cond (Nat.ble 3 k) (cond (Nat.ble 4 k) (cond (Nat.beq k 4) (100) (0)) (cond (Nat.beq k 3) (114) (0))) (cond (Nat.beq k 2) (97) (0))) (cond (Nat.ble 1 k) (cond (Nat.beq k 1) (101) (0)) (cond (Nat.beq k 0) (104) (0)))) (0)) (cond (Nat.beq q 916) (cond (Nat.ble 2 k) (cond (Nat.ble 3 k) (cond (Nat.beq k 3) (116) (0)) (cond (Nat.beq k 2) (115) (0))) (cond (Nat.ble 1 k) (cond (Nat.beq k 1) (101) (0)) (cond (Nat.beq k 0) (114) (0)))) (0))) (cond (Nat.ble 915 q) (cond (Nat.beq q 915) (cond (Nat.ble 2 k) (cond (Nat.ble 3 k) (cond (Nat.ble 4 k) (cond (Nat.beq k 4) (100) (0)) (cond (Nat.beq k 3) (97) (0))) (cond (Nat.beq k 2) (101) (0))) (cond (Nat.ble 1 k) (cond (Nat.beq k 1) (114) (0)) (cond (Nat.beq k 0) (116) (0)))) (0)) (cond (Nat.beq q 914) (cond (Nat.ble 2 k) (cond (Nat.ble 3 k) (cond (Nat.beq k 3) (101) (0)) (cond (Nat.beq k 2) (116) (0))) (cond (Nat.ble 1 k) (cond (Nat.beq k 1) (111) (0)) (cond (Nat.beq k 0) (110) (0)))) (0)))) (cond (Nat.ble 912 q) (cond (Nat.ble 913 q) (cond (Nat.beq q 913) (cond (Nat.ble 2 k) (cond (Nat.ble 3 k) (cond (Nat.beq k 3) (101) (0)) (cond (Nat.beq k 2) (112) (0))) (cond (Nat.ble 1 k) (cond (Nat.beq k 1) (105) (0)) (cond (Nat.beq k 0) (112) (0)))) (0)) (cond (Nat.beq q 912) (cond (Nat.ble 4 k) (cond (Nat.ble 6 k) (cond (Nat.ble 7 k) (cond (Nat.beq k 7) (104) (0)) (cond (Nat.beq k 6) (116) (0))) (cond (Nat.ble 5 k) (cond (Nat.beq k 5) (103) (0)) (cond (Nat.beq k 4) (110) (0)))) (cond (Nat.ble 2 k) (cond (Nat.ble 3 k) (cond (Nat.beq k 3) (101) (0)) (cond (Nat.beq k 2) (114) (0))) (cond (Nat.ble 1 k) (cond (Nat.beq k 1) (116) (0)) (cond (Nat.beq k 0) (115) (0))))) (0))) (cond (Nat.beq q 911) (cond (Nat.ble 3 k) (cond (Nat.ble 5 k) (cond (Nat.ble 6 k) (cond (Nat.beq k 6) (115) (0)) (cond (Nat.beq k 5) (119) (0))) (cond (Nat.ble 4 k) (cond (Nat.beq k 4) (111) (0)) (cond (Nat.beq k 3) (108) (0)))) (cond (Nat.ble 1 k) (cond (Nat.ble 2 k) (cond (Nat.beq k 2) (108) (0)) (cond (Nat.beq k 1) (101) (0))) (cond (Nat.beq k 0) (98) (0)))) (0)))
/-! THE STEP -/
def pm_get : pm_L → Nat → Option pm_V
  | [], _ => none
  | o :: _, 0 => o
  | _ :: t, k + 1 => pm_get t k
/-- a long's place that is overwritten at its second half -/
def pm_nl (o : Option pm_V) : Option pm_V := match o with
  | some (Sum.inr (Sum.inl _)) => none
  | o => o
def pm_s0 (v : pm_V) : pm_L → pm_L
  | [] => []
  | _ :: t => some v :: t
def pm_sto : pm_L → Nat → pm_V → pm_L
  | [], _, _ => []
  | _ :: t, 0, v => some v :: t
  | o :: t, 1, v => pm_nl o :: pm_s0 v t
  | o :: t, k + 1, v => o :: pm_sto t k v
def pm_k0 : pm_L → pm_L
  | [] => []
  | _ :: t => none :: t
/-- a place is left without a value -/
def pm_kil : pm_L → Nat → pm_L
  | [], _ => []
  | _ :: t, 0 => none :: t
  | o :: t, k + 1 => o :: pm_kil t k
abbrev pm_no : pm_T := (false, Sum.inl [])
abbrev pm_nx (s : pm_S) : pm_T := (true, Sum.inl [(true, s)])
abbrev pm_gx (b : Bool) (s : pm_S) : pm_T := (b, Sum.inl [(true, s)])
abbrev pm_br (c : Bool) (s t : pm_S) : pm_T := (true, Sum.inl [(c, s), (true, t)])
def pm_sw (ls : pm_L) (st : List pm_V) (V : pm_M) (x : Int32) (d : Nat) : List (Int32 × Nat) → List (Bool × pm_S)
  | [] => [(true, (d, ls, st, V))]
  | (v, t) :: l => (decide (x = v), (t, ls, st, V)) :: pm_sw ls st V x d l
def pm_set (A : Nat → Bool) (a : Nat) : Nat → Bool := fun b => cond (Nat.beq b a) true (A b)
/-- the number that a new cell gets -/
def pm_pk (ls : pm_L) (b c : Nat) (x : Int32) : Nat := cond (Nat.beq (c % 2) 1) (match pm_get ls 0 with
  | some (Sum.inr (Sum.inr q)) => q
  | _ => 0) 0 + b + cond (Nat.beq (c / 2) 0) 0 (x.toNatClampNeg * (match pm_get ls (c / 2 - 1) with
  | some (Sum.inl i) => i.toNatClampNeg
  | _ => 0))
def pm_mke (np : Nat) (ls : pm_L) (st : List pm_V) (V : pm_M) (q tag n : Nat) : pm_T :=
  pm_gx (!(V.2.1 q) && (Nat.ble 1 q && Nat.ble q 899 && Nat.beq (pm_kd q).1 tag && Nat.beq (pm_kd q).2 n)) (np, ls, vr q :: st, (V.1 ++ [q], pm_set V.2.1 q, V.2.2))
def pm_is (V : pm_M) (q tag : Nat) : Bool := V.2.1 q && Nat.beq (pm_kd q).1 tag
abbrev pm_wI (V : pm_M) (a j : Nat) (x : Int32) : pm_M := (V.1, V.2.1, V.2.2.1, pm_up V.2.2.2.1 a j x, V.2.2.2.2)
abbrev pm_wL (V : pm_M) (a j : Nat) (x : Int64) : pm_M := (V.1, V.2.1, V.2.2.1, V.2.2.2.1, pm_up V.2.2.2.2 a j x)
abbrev pm_wN (V : pm_M) (a j : Nat) (x : Nat) : pm_M := (V.1, V.2.1, pm_up V.2.2.1 a j x, V.2.2.2.1, V.2.2.2.2)
def pm_01 (x : Int32) : Bool := decide (x = 0) || decide (x = 1)
def pm_ib (x : Int32) : Int32 := x.toInt8.toInt32
def pm_ush (x y : Int32) : Int32 := (x.toUInt32 >>> (y.toUInt32 &&& Int32.toUInt32 31)).toInt32
/-- what isn't ours: arraycopy, Object(), a constant text's length and signs -/
def pm_ext (np a : Nat) (ls : pm_L) (st : List pm_V) (V : pm_M) : pm_T := match a with
  | 1007 => match st with
    | (Sum.inl n) :: (Sum.inl dp) :: (Sum.inr (Sum.inr d)) :: (Sum.inl sp) :: (Sum.inr (Sum.inr s)) :: st =>
      pm_gx (Nat.ble (pm_wd st) 8 && (V.2.1 s && V.2.1 d && Nat.beq (pm_kd s).1 (pm_kd d).1 && (Nat.beq (pm_kd s).1 1 || Nat.beq (pm_kd s).1 2)
        && decide (0 ≤ sp) && decide (0 ≤ dp) && decide (0 ≤ n) && Nat.ble (sp.toNatClampNeg + n.toNatClampNeg) (pm_kd s).2 && Nat.ble (dp.toNatClampNeg + n.toNatClampNeg) (pm_kd d).2))
        (np, ls, st, (V.1, V.2.1, V.2.2.1, pm_ups V.2.2.2.1 d (va_cpy (V.2.2.2.1 s) (V.2.2.2.1 d) sp.toNatClampNeg dp.toNatClampNeg n.toNatClampNeg), V.2.2.2.2))
    | _ => pm_no
  | 1008 => match st with
    | (Sum.inr (Sum.inr q)) :: st => pm_gx (Nat.ble (pm_wd st) 8 && !(Nat.beq q 0)) (np, ls, st, V)
    | _ => pm_no
  | 1005 => match st with
    | (Sum.inr (Sum.inr q)) :: st => pm_gx (Nat.ble (pm_wd st) 8 && (Nat.ble 911 q && Nat.ble q 917)) (np, ls, vi (Int32.ofNat (pm_tl q)) :: st, V)
    | _ => pm_no
  | 1006 => match st with
    | (Sum.inl i) :: (Sum.inr (Sum.inr q)) :: st => pm_gx (Nat.ble (pm_wd st) 8 && (Nat.ble 911 q && Nat.ble q 917) && pm_in i (pm_tl q)) (np, ls, vi (pm_tv q i.toNatClampNeg) :: st, V)
    | _ => pm_no
  | _ => pm_no
def pm_inv (np a b c : Nat) (ls : pm_L) (st : List pm_V) (V : pm_M) : pm_T :=
  cond (Nat.ble 1000 a) (pm_ext np a ls st V) (Nat.ble b st.length && Nat.ble (pm_wd (st.drop b)) 8, Sum.inr (Sum.inl (a, (st.take b).reverse, V, c % 4, np, ls, st.drop b)))
def pm_ino (np a b c : Nat) (ls : pm_L) (st : List pm_V) (V : pm_M) : pm_T :=
  cond (Nat.ble 1000 a) (pm_ext np a ls st V) (match st.drop (b - 1) with
    | (Sum.inr (Sum.inr q)) :: _ => (Nat.ble b st.length && Nat.ble (pm_wd (st.drop b)) 8 && pm_is V q (10 + c / 4), Sum.inr (Sum.inl (a, (st.take b).reverse, V, c % 4, np, ls, st.drop b)))
    | _ => pm_no)
def pm_ins (X : Nat × (Nat → Int32)) (i : Instr) (np a b c : Nat) (x : Int32) (y : Int64) (sw : List (Int32 × Nat)) (ls : pm_L) (st : List pm_V) (V : pm_M) : pm_T := match i with
  | .iconst _ => pm_nx (np, ls, vi x :: st, V)
  | .bipush _ => pm_nx (np, ls, vi x :: st, V)
  | .sipush _ => pm_nx (np, ls, vi x :: st, V)
  | .ldc_w _ => pm_nx (np, ls, vi x :: st, V)
  | .ldc _ => cond (Nat.beq a 0) (pm_nx (np, ls, vi x :: st, V)) (pm_nx (np, ls, vr a :: st, V))
  | .lconst _ => pm_nx (np, ls, vl y :: st, V)
  | .ldc2_w _ => pm_nx (np, ls, vl y :: st, V)
  | .iload _ => match pm_get ls a with
    | some (Sum.inl x) => pm_nx (np, ls, vi x :: st, V)
    | _ => pm_no
  | .iload_n _ => match pm_get ls a with
    | some (Sum.inl x) => pm_nx (np, ls, vi x :: st, V)
    | _ => pm_no
  | .lload _ => match pm_get ls a with
    | some (Sum.inr (Sum.inl x)) => pm_nx (np, ls, vl x :: st, V)
    | _ => pm_no
  | .lload_n _ => match pm_get ls a with
    | some (Sum.inr (Sum.inl x)) => pm_nx (np, ls, vl x :: st, V)
    | _ => pm_no
  | .aload _ => match pm_get ls a with
    | some (Sum.inr (Sum.inr x)) => pm_nx (np, ls, vr x :: st, V)
    | _ => pm_no
  | .aload_n _ => match pm_get ls a with
    | some (Sum.inr (Sum.inr x)) => pm_nx (np, ls, vr x :: st, V)
    | _ => pm_no
  | .istore _ => match st with
    | (Sum.inl x) :: st => pm_nx (np, pm_sto ls a (vi x), st, V)
    | _ => pm_no
  | .istore_n _ => match st with
    | (Sum.inl x) :: st => pm_nx (np, pm_sto ls a (vi x), st, V)
    | _ => pm_no
  | .lstore _ => match st with
    | (Sum.inr (Sum.inl x)) :: st => pm_nx (np, pm_kil (pm_sto ls a (vl x)) (a + 1), st, V)
    | _ => pm_no
  | .lstore_n _ => match st with
    | (Sum.inr (Sum.inl x)) :: st => pm_nx (np, pm_kil (pm_sto ls a (vl x)) (a + 1), st, V)
    | _ => pm_no
  | .astore _ => match st with
    | (Sum.inr (Sum.inr x)) :: st => pm_nx (np, pm_sto ls a (vr x), st, V)
    | _ => pm_no
  | .astore_n _ => match st with
    | (Sum.inr (Sum.inr x)) :: st => pm_nx (np, pm_sto ls a (vr x), st, V)
    | _ => pm_no
  | .iinc _ _ => match pm_get ls a with
    | some (Sum.inl z) => pm_nx (np, pm_sto ls a (vi (z + x)), st, V)
    | _ => pm_no
  | .iadd => match st with
    | (Sum.inl y) :: (Sum.inl x) :: st => pm_nx (np, ls, vi (x + y) :: st, V)
    | _ => pm_no
  | .isub => match st with
    | (Sum.inl y) :: (Sum.inl x) :: st => pm_nx (np, ls, vi (x - y) :: st, V)
    | _ => pm_no
  | .imul => match st with
    | (Sum.inl y) :: (Sum.inl x) :: st => pm_nx (np, ls, vi (x * y) :: st, V)
    | _ => pm_no
  | .iand => match st with
    | (Sum.inl y) :: (Sum.inl x) :: st => pm_nx (np, ls, vi (x &&& y) :: st, V)
    | _ => pm_no
  | .ior => match st with
    | (Sum.inl y) :: (Sum.inl x) :: st => pm_nx (np, ls, vi (x ||| y) :: st, V)
    | _ => pm_no
  | .ixor => match st with
    | (Sum.inl y) :: (Sum.inl x) :: st => pm_nx (np, ls, vi (x ^^^ y) :: st, V)
    | _ => pm_no
  | .idiv => match st with
    | (Sum.inl y) :: (Sum.inl x) :: st => pm_gx (!(decide (y = 0))) (np, ls, vi (x / y) :: st, V)
    | _ => pm_no
  | .irem => match st with
    | (Sum.inl y) :: (Sum.inl x) :: st => pm_gx (!(decide (y = 0))) (np, ls, vi (x - x / y * y) :: st, V)
    | _ => pm_no
  | .ineg => match st with
    | (Sum.inl x) :: st => pm_nx (np, ls, vi (-x) :: st, V)
    | _ => pm_no
  | .ishl => match st with
    | (Sum.inl y) :: (Sum.inl x) :: st => pm_nx (np, ls, vi (x <<< (y &&& 31)) :: st, V)
    | _ => pm_no
  | .ishr => match st with
    | (Sum.inl y) :: (Sum.inl x) :: st => pm_nx (np, ls, vi (x >>> (y &&& 31)) :: st, V)
    | _ => pm_no
  | .iushr => match st with
    | (Sum.inl y) :: (Sum.inl x) :: st => pm_nx (np, ls, vi (pm_ush x y) :: st, V)
    | _ => pm_no
  | .i2b => match st with
    | (Sum.inl x) :: st => pm_nx (np, ls, vi (pm_ib x) :: st, V)
    | _ => pm_no
  | .i2l => match st with
    | (Sum.inl x) :: st => pm_nx (np, ls, vl x.toInt64 :: st, V)
    | _ => pm_no
  | .l2i => match st with
    | (Sum.inr (Sum.inl x)) :: st => pm_nx (np, ls, vi x.toInt32 :: st, V)
    | _ => pm_no
  | .ladd => match st with
    | (Sum.inr (Sum.inl y)) :: (Sum.inr (Sum.inl x)) :: st => pm_nx (np, ls, vl (x + y) :: st, V)
    | _ => pm_no
  | .lsub => match st with
    | (Sum.inr (Sum.inl y)) :: (Sum.inr (Sum.inl x)) :: st => pm_nx (np, ls, vl (x - y) :: st, V)
    | _ => pm_no
  | .lmul => match st with
    | (Sum.inr (Sum.inl y)) :: (Sum.inr (Sum.inl x)) :: st => pm_nx (np, ls, vl (x * y) :: st, V)
    | _ => pm_no
  | .land => match st with
    | (Sum.inr (Sum.inl y)) :: (Sum.inr (Sum.inl x)) :: st => pm_nx (np, ls, vl (x &&& y) :: st, V)
    | _ => pm_no
  | .lor => match st with
    | (Sum.inr (Sum.inl y)) :: (Sum.inr (Sum.inl x)) :: st => pm_nx (np, ls, vl (x ||| y) :: st, V)
    | _ => pm_no
  | .ldiv => match st with
    | (Sum.inr (Sum.inl y)) :: (Sum.inr (Sum.inl x)) :: st => pm_gx (!(decide (y = 0))) (np, ls, vl (x / y) :: st, V)
    | _ => pm_no
  | .lrem => match st with
    | (Sum.inr (Sum.inl y)) :: (Sum.inr (Sum.inl x)) :: st => pm_gx (!(decide (y = 0))) (np, ls, vl (x - x / y * y) :: st, V)
    | _ => pm_no
  | .lneg => match st with
    | (Sum.inr (Sum.inl x)) :: st => pm_nx (np, ls, vl (-x) :: st, V)
    | _ => pm_no
  | .lshl => match st with
    | (Sum.inl y) :: (Sum.inr (Sum.inl x)) :: st => pm_nx (np, ls, vl (x <<< (y.toInt64 &&& 63)) :: st, V)
    | _ => pm_no
  | .lshr => match st with
    | (Sum.inl y) :: (Sum.inr (Sum.inl x)) :: st => pm_nx (np, ls, vl (x >>> (y.toInt64 &&& 63)) :: st, V)
    | _ => pm_no
  | .lcmp => match st with
    | (Sum.inr (Sum.inl y)) :: (Sum.inr (Sum.inl x)) :: st => pm_nx (np, ls, vi (lg_cmp x y) :: st, V)
    | _ => pm_no
  | .dup => match st with
    | (Sum.inl x) :: st => pm_nx (np, ls, vi x :: vi x :: st, V)
    | (Sum.inr (Sum.inr x)) :: st => pm_nx (np, ls, vr x :: vr x :: st, V)
    | _ => pm_no
  | .dup2 => match st with
    | (Sum.inl x) :: (Sum.inr (Sum.inr q)) :: st => pm_nx (np, ls, vi x :: vr q :: vi x :: vr q :: st, V)
    | _ => pm_no
  | .pop => match st with
    | (Sum.inl _) :: st => pm_nx (np, ls, st, V)
    | _ => pm_no
  | .goto _ => pm_nx (a, ls, st, V)
  | .ifCond .eq _ => match st with
    | (Sum.inl x) :: st => pm_br (decide (x = 0)) (a, ls, st, V) (np, ls, st, V)
    | _ => pm_no
  | .ifCond .ne _ => match st with
    | (Sum.inl x) :: st => pm_br (decide (x = 0)) (np, ls, st, V) (a, ls, st, V)
    | _ => pm_no
  | .ifCond .lt _ => match st with
    | (Sum.inl x) :: st => pm_br (decide (x < 0)) (a, ls, st, V) (np, ls, st, V)
    | _ => pm_no
  | .ifCond .ge _ => match st with
    | (Sum.inl x) :: st => pm_br (decide (0 ≤ x)) (a, ls, st, V) (np, ls, st, V)
    | _ => pm_no
  | .ifCond .gt _ => match st with
    | (Sum.inl x) :: st => pm_br (decide (0 < x)) (a, ls, st, V) (np, ls, st, V)
    | _ => pm_no
  | .ifCond .le _ => match st with
    | (Sum.inl x) :: st => pm_br (decide (x ≤ 0)) (a, ls, st, V) (np, ls, st, V)
    | _ => pm_no
  | .if_icmp .eq _ => match st with
    | (Sum.inl y) :: (Sum.inl x) :: st => pm_br (decide (x = y)) (a, ls, st, V) (np, ls, st, V)
    | _ => pm_no
  | .if_icmp .ne _ => match st with
    | (Sum.inl y) :: (Sum.inl x) :: st => pm_br (decide (x = y)) (np, ls, st, V) (a, ls, st, V)
    | _ => pm_no
  | .if_icmp .lt _ => match st with
    | (Sum.inl y) :: (Sum.inl x) :: st => pm_br (decide (x < y)) (a, ls, st, V) (np, ls, st, V)
    | _ => pm_no
  | .if_icmp .ge _ => match st with
    | (Sum.inl y) :: (Sum.inl x) :: st => pm_br (decide (y ≤ x)) (a, ls, st, V) (np, ls, st, V)
    | _ => pm_no
  | .if_icmp .gt _ => match st with
    | (Sum.inl y) :: (Sum.inl x) :: st => pm_br (decide (y < x)) (a, ls, st, V) (np, ls, st, V)
    | _ => pm_no
  | .if_icmp .le _ => match st with
    | (Sum.inl y) :: (Sum.inl x) :: st => pm_br (decide (x ≤ y)) (a, ls, st, V) (np, ls, st, V)
    | _ => pm_no
  | .ifnull _ => match st with
    | (Sum.inr (Sum.inr q)) :: st => pm_br (decide (q = 0)) (a, ls, st, V) (np, ls, st, V)
    | _ => pm_no
  | .ifnonnull _ => match st with
    | (Sum.inr (Sum.inr q)) :: st => pm_br (decide (q = 0)) (np, ls, st, V) (a, ls, st, V)
    | _ => pm_no
  | .tableswitch _ _ _ _ => match st with
    | (Sum.inl x) :: st => (true, Sum.inl (pm_sw ls st V x a sw))
    | _ => pm_no
  | .lookupswitch _ _ => match st with
    | (Sum.inl x) :: st => (true, Sum.inl (pm_sw ls st V x a sw))
    | _ => pm_no
  | .getfield _ => match st with
    | (Sum.inr (Sum.inr q)) :: st => (match c with
      | 2 => pm_gx (pm_is V q (10 + a)) (np, ls, vr (V.2.2.1 q b) :: st, V)
      | 1 => pm_gx (pm_is V q (10 + a)) (np, ls, vl (V.2.2.2.2 q b) :: st, V)
      | _ => pm_gx (pm_is V q (10 + a)) (np, ls, vi (V.2.2.2.1 q b) :: st, V))
    | _ => pm_no
  | .putfield _ => match c with
    | 2 => match st with
      | (Sum.inr (Sum.inr p)) :: (Sum.inr (Sum.inr q)) :: st => pm_gx (pm_is V q (10 + a) && !(Nat.beq p 0)) (np, ls, st, pm_wN V q b p)
      | _ => pm_no
    | 1 => match st with
      | (Sum.inr (Sum.inl x)) :: (Sum.inr (Sum.inr q)) :: st => pm_gx (pm_is V q (10 + a)) (np, ls, st, pm_wL V q b x)
      | _ => pm_no
    | 3 => match st with
      | (Sum.inl x) :: (Sum.inr (Sum.inr q)) :: st => pm_gx (pm_is V q (10 + a) && pm_01 x) (np, ls, st, pm_wI V q b x)
      | _ => pm_no
    | _ => match st with
      | (Sum.inl x) :: (Sum.inr (Sum.inr q)) :: st => pm_gx (pm_is V q (10 + a)) (np, ls, st, pm_wI V q b x)
      | _ => pm_no
  | .getstatic _ => pm_nx (np, ls, vr a :: st, V)
  | .iaload => match st with
    | (Sum.inl i) :: (Sum.inr (Sum.inr q)) :: st => cond (Nat.ble 900 q)
      (cond (Nat.beq q 900) (pm_gx (pm_in i X.1) (np, ls, vi (X.2 i.toNatClampNeg) :: st, V)) (pm_gx (pm_in i (pm_sl q)) (np, ls, vi (pm_sv q i.toNatClampNeg) :: st, V)))
      (pm_gx (pm_is V q 1 && pm_in i (pm_kd q).2) (np, ls, vi (V.2.2.2.1 q i.toNatClampNeg) :: st, V))
    | _ => pm_no
  | .baload => match st with
    | (Sum.inl i) :: (Sum.inr (Sum.inr q)) :: st => pm_gx ((pm_is V q 2 || pm_is V q 3) && pm_in i (pm_kd q).2) (np, ls, vi (V.2.2.2.1 q i.toNatClampNeg) :: st, V)
    | _ => pm_no
  | .laload => match st with
    | (Sum.inl i) :: (Sum.inr (Sum.inr q)) :: st => pm_gx (pm_is V q 4 && pm_in i (pm_kd q).2) (np, ls, vl (V.2.2.2.2 q i.toNatClampNeg) :: st, V)
    | _ => pm_no
  | .aaload => match st with
    | (Sum.inl i) :: (Sum.inr (Sum.inr q)) :: st => pm_gx (V.2.1 q && (Nat.ble 100 (pm_kd q).1 || Nat.beq (pm_kd q).1 6) && pm_in i (pm_kd q).2) (np, ls, vr (V.2.2.1 q i.toNatClampNeg) :: st, V)
    | _ => pm_no
  | .iastore => match st with
    | (Sum.inl x) :: (Sum.inl i) :: (Sum.inr (Sum.inr q)) :: st => pm_gx (pm_is V q 1 && pm_in i (pm_kd q).2) (np, ls, st, pm_wI V q i.toNatClampNeg x)
    | _ => pm_no
  | .bastore => match st with
    | (Sum.inl x) :: (Sum.inl i) :: (Sum.inr (Sum.inr q)) :: st => cond (Nat.beq (pm_kd q).1 2)
      (pm_gx (pm_is V q 2 && pm_in i (pm_kd q).2) (np, ls, st, pm_wI V q i.toNatClampNeg (pm_ib x)))
      (pm_gx (pm_is V q 3 && pm_in i (pm_kd q).2 && pm_01 x) (np, ls, st, pm_wI V q i.toNatClampNeg x))
    | _ => pm_no
  | .lastore => match st with
    | (Sum.inr (Sum.inl x)) :: (Sum.inl i) :: (Sum.inr (Sum.inr q)) :: st => pm_gx (pm_is V q 4 && pm_in i (pm_kd q).2) (np, ls, st, pm_wL V q i.toNatClampNeg x)
    | _ => pm_no
  | .aastore => match st with
    | (Sum.inr (Sum.inr p)) :: (Sum.inl i) :: (Sum.inr (Sum.inr q)) :: st => pm_gx (V.2.1 q && Nat.ble 100 (pm_kd q).1 && pm_in i (pm_kd q).2 && V.2.1 p && Nat.beq (pm_kd p).1 ((pm_kd q).1 - 90)) (np, ls, st, pm_wN V q i.toNatClampNeg p)
    | _ => pm_no
  | .arraylength => match st with
    | (Sum.inr (Sum.inr q)) :: st => cond (Nat.ble 900 q) (pm_gx (Nat.beq q 900) (np, ls, vi (Int32.ofNat X.1) :: st, V)) (pm_gx (V.2.1 q && (Nat.ble 1 (pm_kd q).1 && (Nat.ble 100 (pm_kd q).1 || Nat.ble (pm_kd q).1 6))) (np, ls, vi (Int32.ofNat (pm_kd q).2) :: st, V))
    | _ => pm_no
  | .new _ => pm_mke np ls st V (pm_pk ls b c x) (10 + a) (pm_kd (pm_pk ls b c x)).2
  | .newarray _ => match st with
    | (Sum.inl n) :: st => cond (decide (0 ≤ n)) (pm_mke np ls st V (pm_pk ls b c x) a n.toNatClampNeg) pm_no
    | _ => pm_no
  | .anewarray _ => match st with
    | (Sum.inl n) :: st => cond (decide (0 ≤ n)) (pm_mke np ls st V (pm_pk ls b c x) (100 + a) n.toNatClampNeg) pm_no
    | _ => pm_no
  | .multianewarray _ _ => match st with
    | (Sum.inl n) :: (Sum.inl k) :: st => pm_gx (decide (k = 9) && decide (n = 12) && !(V.2.1 63) && !(V.2.1 64) && !(V.2.1 65) && !(V.2.1 66) && !(V.2.1 67) && !(V.2.1 68) && !(V.2.1 69) && !(V.2.1 70) && !(V.2.1 71) && !(V.2.1 72))
      (np, ls, vr 63 :: st, (V.1 ++ [63, 64, 65, 66, 67, 68, 69, 70, 71, 72], (fun b => cond (Nat.ble 63 b && Nat.ble b 72) true (V.2.1 b)), (fun b j => cond (Nat.beq b 63 && Nat.ble j 8) (64 + j) (V.2.2.1 b j)), V.2.2.2))
    | _ => pm_no
  | .invokestatic _ => pm_inv np a b c ls st V
  | .invokevirtual _ => pm_ino np a b c ls st V
  | .invokespecial _ => pm_ino np a b c ls st V
  | .ireturn => match st with
    | [Sum.inl x] => (cond (Nat.beq a 1) (pm_01 x) true, Sum.inr (Sum.inr (some (vi x), V)))
    | _ => pm_no
  | .lreturn => match st with
    | [Sum.inr (Sum.inl x)] => (true, Sum.inr (Sum.inr (some (vl x), V)))
    | _ => pm_no
  | .areturn => match st with
    | [Sum.inr (Sum.inr x)] => (!(Nat.beq x 0), Sum.inr (Sum.inr (some (vr x), V)))
    | _ => pm_no
  | .return_ => match st with
    | [] => (true, Sum.inr (Sum.inr (none, V)))
    | _ => pm_no
  | _ => pm_no
def pm_st (X : Nat × (Nat → Int32)) (c : pm_C) (s : pm_S) : pm_T := match s with
  | (pc, ls, st, V) => match c pc with
    | none => pm_no
    | some (i, np, a, b, k, x, y, sw) => pm_ins X i np a b k x y sw ls st V

