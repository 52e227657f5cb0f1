def sn_wm (m : Nat) : Nat := cond (Nat.ble 143 m) (cond (Nat.ble 214 m) (cond (Nat.ble 249 m) (cond (Nat.ble 267 m) (cond (Nat.ble 276 m) (cond (Nat.ble 280 m) (cond (Nat.ble 282 m) (cond (Nat.ble 283 m) (cond (Nat.ble 284 m) (cond (Nat.beq m 284) (13) (0)) (cond (Nat.beq m 283) (11) (0))) (cond (Nat.beq m 282) (11) (0))) (cond (Nat.ble 281 m) (cond (Nat.beq m 281) (11) (0)) (cond (Nat.beq m 280) (11) (0)))) (cond (Nat.ble 278 m) (cond (Nat.ble 279 m) (cond (Nat.beq m 279) (11) (0)) (cond (Nat.beq m 278) (11) (0))) (cond (Nat.ble 277 m) (cond (Nat.beq m 277) (11) (0)) (cond (Nat.beq m 276) (11) (0))))) (cond (Nat.ble 271 m) (cond (Nat.ble 273 m) (cond (Nat.ble 274 m) (cond (Nat.ble 275 m) (cond (Nat.beq m 275) (11) (0)) (cond (Nat.beq m 274) (11) (0))) (cond (Nat.beq m 273) (11) (0))) (cond (Nat.ble 272 m) (cond (Nat.beq m 272) (11) (0)) (cond (Nat.beq m 271) (11) (0)))) (cond (Nat.ble 269 m) (cond (Nat.ble 270 m) (cond (Nat.beq m 270) (11) (0)) (cond (Nat.beq m 269) (11) (0))) (cond (Nat.ble 268 m) (cond (Nat.beq m 268) (11) (0)) (cond (Nat.beq m 267) (11) (0)))))) (cond (Nat.ble 258 m) (cond (Nat.ble 262 m) (cond (Nat.ble 264 m) (cond (Nat.ble 265 m) (cond (Nat.ble 266 m) (cond (Nat.beq m 266) (11) (0)) (cond (Nat.beq m 265) (11) (0))) (cond (Nat.beq m 264) (11) (0))) (cond (Nat.ble 263 m) (cond (Nat.beq m 263) (11) (0)) (cond (Nat.beq m 262) (11) (0)))) (cond (Nat.ble 260 m) (cond (Nat.ble 261 m) (cond (Nat.beq m 261) (11) (0)) (cond (Nat.beq m 260) (11) (0))) (cond (Nat.ble 259 m) (cond (Nat.beq m 259) (11) (0)) (cond (Nat.beq m 258) (11) (0))))) (cond (Nat.ble 253 m) (cond (Nat.ble 255 m) (cond (Nat.ble 256 m) (cond (Nat.ble 257 m) (cond (Nat.beq m 257) (11) (0)) (cond (Nat.beq m 256) (11) (0))) (cond (Nat.beq m 255) (11) (0))) (cond (Nat.ble 254 m) (cond (Nat.beq m 254) (11) (0)) (cond (Nat.beq m 253) (11) (0)))) (cond (Nat.ble 251 m) (cond (Nat.ble 252 m) (cond (Nat.beq m 252) (11) (0)) (cond (Nat.beq m 251) (11) (0))) (cond (Nat.ble 250 m) (cond (Nat.beq m 250) (11) (0)) (cond (Nat.beq m 249) (11) (0))))))) (cond (Nat.ble 231 m) (cond (Nat.ble 240 m) (cond (Nat.ble 244 m) (cond (Nat.ble 246 m) (cond (Nat.ble 247 m) (cond (Nat.ble 248 m) (cond (Nat.beq m 248) (11) (0)) (cond (Nat.beq m 247) (11) (0))) (cond (Nat.beq m 246) (11) (0))) (cond (Nat.ble 245 m) (cond (Nat.beq m 245) (11) (0)) (cond (Nat.beq m 244) (11) (0)))) (cond (Nat.ble 242 m) (cond (Nat.ble 243 m) (cond (Nat.beq m 243) (11) (0)) (cond (Nat.beq m 242) (11) (0))) (cond (Nat.ble 241 m) (cond (Nat.beq m 241) (11) (0)) (cond (Nat.beq m 240) (11) (0))))) (cond (Nat.ble 235 m) (cond (Nat.ble 237 m) (cond (Nat.ble 238 m) (cond (Nat.ble 239 m) (cond (Nat.beq m 239) (11) (0)) (cond (Nat.beq m 238) (11) (0))) (cond (Nat.beq m 237) (11) (0))) (cond (Nat.ble 236 m) (cond (Nat.beq m 236) (11) (0)) (cond (Nat.beq m 235) (11) (0)))) (cond (Nat.ble 233 m) (cond (Nat.ble 234 m) (cond (Nat.beq m 234) (11) (0)) (cond (Nat.beq m 233) (11) (0))) (cond (Nat.ble 232 m) (cond (Nat.beq m 232) (11) (0)) (cond (Nat.beq m 231) (11) (0)))))) (cond (Nat.ble 222 m) (cond (Nat.ble 226 m) (cond (Nat.ble 228 m) (cond (Nat.ble 229 m) (cond (Nat.ble 230 m) (cond (Nat.beq m 230) (11) (0)) (cond (Nat.beq m 229) (11) (0))) (cond (Nat.beq m 228) (11) (0))) (cond (Nat.ble 227 m) (cond (Nat.beq m 227) (11) (0)) (cond (Nat.beq m 226) (11) (0)))) (cond (Nat.ble 224 m) (cond (Nat.ble 225 m) (cond (Nat.beq m 225) (11) (0)) (cond (Nat.beq m 224) (11) (0))) (cond (Nat.ble 223 m) (cond (Nat.beq m 223) (11) (0)) (cond (Nat.beq m 222) (11) (0))))) (cond (Nat.ble 218 m) (cond (Nat.ble 220 m) (cond (Nat.ble 221 m) (cond (Nat.beq m 221) (11) (0)) (cond (Nat.beq m 220) (11) (0))) (cond (Nat.ble 219 m) (cond (Nat.beq m 219) (11) (0)) (cond (Nat.beq m 218) (11) (0)))) (cond (Nat.ble 216 m) (cond (Nat.ble 217 m) (cond (Nat.beq m 217) (11) (0)) (cond (Nat.beq m 216) (11) (0))) (cond (Nat.ble 215 m) (cond (Nat.beq m 215) (11) (0)) (cond (Nat.beq m 214) (11) (0)))))))) (cond (Nat.ble 178 m) (cond (Nat.ble 196 m) (cond (Nat.ble 205 m) (cond (Nat.ble 209 m) (cond (Nat.ble 211 m) (cond (Nat.ble 212 m) (cond (Nat.ble 213 m) (cond (Nat.beq m 213) (11) (0)) (cond (Nat.beq m 212) (11) (0))) (cond (Nat.beq m 211) (11) (0))) (cond (Nat.ble 210 m) (cond (Nat.beq m 210) (11) (0)) (cond (Nat.beq m 209) (11) (0)))) (cond (Nat.ble 207 m) (cond (Nat.ble 208 m) (cond (Nat.beq m 208) (11) (0)) (cond (Nat.beq m 207) (11) (0))) (cond (Nat.ble 206 m) (cond (Nat.beq m 206) (11) (0)) (cond (Nat.beq m 205) (11) (0))))) (cond (Nat.ble 200 m) (cond (Nat.ble 202 m) (cond (Nat.ble 203 m) (cond (Nat.ble 204 m) (cond (Nat.beq m 204) (11) (0)) (cond (Nat.beq m 203) (11) (0))) (cond (Nat.beq m 202) (11) (0))) (cond (Nat.ble 201 m) (cond (Nat.beq m 201) (11) (0)) (cond (Nat.beq m 200) (11) (0)))) (cond (Nat.ble 198 m) (cond (Nat.ble 199 m) (cond (Nat.beq m 199) (11) (0)) (cond (Nat.beq m 198) (11) (0))) (cond (Nat.ble 197 m) (cond (Nat.beq m 197) (11) (0)) (cond (Nat.beq m 196) (11) (0)))))) (cond (Nat.ble 187 m) (cond (Nat.ble 191 m) (cond (Nat.ble 193 m) (cond (Nat.ble 194 m) (cond (Nat.ble 195 m) (cond (Nat.beq m 195) (11) (0)) (cond (Nat.beq m 194) (11) (0))) (cond (Nat.beq m 193) (11) (0))) (cond (Nat.ble 192 m) (cond (Nat.beq m 192) (11) (0)) (cond (Nat.beq m 191) (11) (0)))) (cond (Nat.ble 189 m) (cond (Nat.ble 190 m) (cond (Nat.beq m 190) (11) (0)) (cond (Nat.beq m 189) (11) (0))) (cond (Nat.ble 188 m) (cond (Nat.beq m 188) (11) (0)) (cond (Nat.beq m 187) (11) (0))))) (cond (Nat.ble 182 m) (cond (Nat.ble 184 m) (cond (Nat.ble 185 m) (cond (Nat.ble 186 m) (cond (Nat.beq m 186) (11) (0)) (cond (Nat.beq m 185) (11) (0))) (cond (Nat.beq m 184) (11) (0))) (cond (Nat.ble 183 m) (cond (Nat.beq m 183) (11) (0)) (cond (Nat.beq m 182) (11) (0)))) (cond (Nat.ble 180 m) (cond (Nat.ble 181 m) (cond (Nat.beq m 181) (11) (0)) (cond (Nat.beq m 180) (11) (0))) (cond (Nat.ble 179 m) (cond (Nat.beq m 179) (11) (0)) (cond (Nat.beq m 178) (11) (0))))))) (cond (Nat.ble 160 m) (cond (Nat.ble 169 m) (cond (Nat.ble 173 m) (cond (Nat.ble 175 m) (cond (Nat.ble 176 m) (cond (Nat.ble 177 m) (cond (Nat.beq m 177) (11) (0)) (cond (Nat.beq m 176) (11) (0))) (cond (Nat.beq m 175) (11) (0))) (cond (Nat.ble 174 m) (cond (Nat.beq m 174) (11) (0)) (cond (Nat.beq m 173) (11) (0)))) (cond (Nat.ble 171 m) (cond (Nat.ble 172 m) (cond (Nat.beq m 172) (11) (0)) (cond (Nat.beq m 171) (11) (0))) (cond (Nat.ble 170 m) (cond (Nat.beq m 170) (11) (0)) (cond (Nat.beq m 169) (11) (0))))) (cond (Nat.ble 164 m) (cond (Nat.ble 166 m) (cond (Nat.ble 167 m) (cond (Nat.ble 168 m) (cond (Nat.beq m 168) (11) (0)) (cond (Nat.beq m 167) (11) (0))) (cond (Nat.beq m 166) (11) (0))) (cond (Nat.ble 165 m) (cond (Nat.beq m 165) (11) (0)) (cond (Nat.beq m 164) (11) (0)))) (cond (Nat.ble 162 m) (cond (Nat.ble 163 m) (cond (Nat.beq m 163) (10) (0)) (cond (Nat.beq m 162) (10) (0))) (cond (Nat.ble 161 m) (cond (Nat.beq m 161) (10) (0)) (cond (Nat.beq m 160) (10) (0)))))) (cond (Nat.ble 151 m) (cond (Nat.ble 155 m) (cond (Nat.ble 157 m) (cond (Nat.ble 158 m) (cond (Nat.ble 159 m) (cond (Nat.beq m 159) (10) (0)) (cond (Nat.beq m 158) (10) (0))) (cond (Nat.beq m 157) (10) (0))) (cond (Nat.ble 156 m) (cond (Nat.beq m 156) (10) (0)) (cond (Nat.beq m 155) (10) (0)))) (cond (Nat.ble 153 m) (cond (Nat.ble 154 m) (cond (Nat.beq m 154) (10) (0)) (cond (Nat.beq m 153) (10) (0))) (cond (Nat.ble 152 m) (cond (Nat.beq m 152) (10) (0)) (cond (Nat.beq m 151) (10) (0))))) (cond (Nat.ble 147 m) (cond (Nat.ble 149 m) (cond (Nat.ble 150 m) (cond (Nat.beq m 150) (10) (0)) (cond (Nat.beq m 149) (10) (0))) (cond (Nat.ble 148 m) (cond (Nat.beq m 148) (10) (0)) (cond (Nat.beq m 147) (10) (0)))) (cond (Nat.ble 145 m) (cond (Nat.ble 146 m) (cond (Nat.beq m 146) (10) (0)) (cond (Nat.beq m 145) (10) (0))) (cond (Nat.ble 144 m) (cond (Nat.beq m 144) (10) (0)) (cond (Nat.beq m 143) (10) (0))))))))) (cond (Nat.ble 72 m) (cond (Nat.ble 107 m) (cond (Nat.ble 125 m) (cond (Nat.ble 134 m) (cond (Nat.ble 138 m) (cond (Nat.ble 140 m) (cond (Nat.ble 141 m) (cond (Nat.ble 142 m) (cond (Nat.beq m 142) (10) (0)) (cond (Nat.beq m 141) (10) (0))) (cond (Nat.beq m 140) (10) (0))) (cond (Nat.ble 139 m) (cond (Nat.beq m 139) (10) (0)) (cond (Nat.beq m 138) (10) (0)))) (cond (Nat.ble 136 m) (cond (Nat.ble 137 m) (cond (Nat.beq m 137) (10) (0)) (cond (Nat.beq m 136) (10) (0))) (cond (Nat.ble 135 m) (cond (Nat.beq m 135) (10) (0)) (cond (Nat.beq m 134) (10) (0))))) (cond (Nat.ble 129 m) (cond (Nat.ble 131 m) (cond (Nat.ble 132 m) (cond (Nat.ble 133 m) (cond (Nat.beq m 133) (10) (0)) (cond (Nat.beq m 132) (10) (0))) (cond (Nat.beq m 131) (10) (0))) (cond (Nat.ble 130 m) (cond (Nat.beq m 130) (10) (0)) (cond (Nat.beq m 129) (10) (0)))) (cond (Nat.ble 127 m) (cond (Nat.ble 128 m) (cond (Nat.beq m 128) (10) (0)) (cond (Nat.beq m 127) (10) (0))) (cond (Nat.ble 126 m) (cond (Nat.beq m 126) (10) (0)) (cond (Nat.beq m 125) (10) (0)))))) (cond (Nat.ble 116 m) (cond (Nat.ble 120 m) (cond (Nat.ble 122 m) (cond (Nat.ble 123 m) (cond (Nat.ble 124 m) (cond (Nat.beq m 124) (10) (0)) (cond (Nat.beq m 123) (10) (0))) (cond (Nat.beq m 122) (10) (0))) (cond (Nat.ble 121 m) (cond (Nat.beq m 121) (10) (0)) (cond (Nat.beq m 120) (10) (0)))) (cond (Nat.ble 118 m) (cond (Nat.ble 119 m) (cond (Nat.beq m 119) (10) (0)) (cond (Nat.beq m 118) (10) (0))) (cond (Nat.ble 117 m) (cond (Nat.beq m 117) (10) (0)) (cond (Nat.beq m 116) (10) (0))))) (cond (Nat.ble 111 m) (cond (Nat.ble 113 m) (cond (Nat.ble 114 m) (cond (Nat.ble 115 m) (cond (Nat.beq m 115) (10) (0)) (cond (Nat.beq m 114) (10) (0))) (cond (Nat.beq m 113) (10) (0))) (cond (Nat.ble 112 m) (cond (Nat.beq m 112) (10) (0)) (cond (Nat.beq m 111) (10) (0)))) (cond (Nat.ble 109 m) (cond (Nat.ble 110 m) (cond (Nat.beq m 110) (10) (0)) (cond (Nat.beq m 109) (10) (0))) (cond (Nat.ble 108 m) (cond (Nat.beq m 108) (10) (0)) (cond (Nat.beq m 107) (10) (0))))))) (cond (Nat.ble 89 m) (cond (Nat.ble 98 m) (cond (Nat.ble 102 m) (cond (Nat.ble 104 m) (cond (Nat.ble 105 m) (cond (Nat.ble 106 m) (cond (Nat.beq m 106) (10) (0)) (cond (Nat.beq m 105) (10) (0))) (cond (Nat.beq m 104) (9) (0))) (cond (Nat.ble 103 m) (cond (Nat.beq m 103) (9) (0)) (cond (Nat.beq m 102) (9) (0)))) (cond (Nat.ble 100 m) (cond (Nat.ble 101 m) (cond (Nat.beq m 101) (9) (0)) (cond (Nat.beq m 100) (9) (0))) (cond (Nat.ble 99 m) (cond (Nat.beq m 99) (9) (0)) (cond (Nat.beq m 98) (9) (0))))) (cond (Nat.ble 93 m) (cond (Nat.ble 95 m) (cond (Nat.ble 96 m) (cond (Nat.ble 97 m) (cond (Nat.beq m 97) (9) (0)) (cond (Nat.beq m 96) (8) (0))) (cond (Nat.beq m 95) (8) (0))) (cond (Nat.ble 94 m) (cond (Nat.beq m 94) (8) (0)) (cond (Nat.beq m 93) (8) (0)))) (cond (Nat.ble 91 m) (cond (Nat.ble 92 m) (cond (Nat.beq m 92) (8) (0)) (cond (Nat.beq m 91) (7) (0))) (cond (Nat.ble 90 m) (cond (Nat.beq m 90) (7) (0)) (cond (Nat.beq m 89) (7) (0)))))) (cond (Nat.ble 80 m) (cond (Nat.ble 84 m) (cond (Nat.ble 86 m) (cond (Nat.ble 87 m) (cond (Nat.ble 88 m) (cond (Nat.beq m 88) (7) (0)) (cond (Nat.beq m 87) (7) (0))) (cond (Nat.beq m 86) (7) (0))) (cond (Nat.ble 85 m) (cond (Nat.beq m 85) (6) (0)) (cond (Nat.beq m 84) (6) (0)))) (cond (Nat.ble 82 m) (cond (Nat.ble 83 m) (cond (Nat.beq m 83) (6) (0)) (cond (Nat.beq m 82) (6) (0))) (cond (Nat.ble 81 m) (cond (Nat.beq m 81) (6) (0)) (cond (Nat.beq m 80) (6) (0))))) (cond (Nat.ble 76 m) (cond (Nat.ble 78 m) (cond (Nat.ble 79 m) (cond (Nat.beq m 79) (6) (0)) (cond (Nat.beq m 78) (6) (0))) (cond (Nat.ble 77 m) (cond (Nat.beq m 77) (6) (0)) (cond (Nat.beq m 76) (6) (0)))) (cond (Nat.ble 74 m) (cond (Nat.ble 75 m) (cond (Nat.beq m 75) (5) (0)) (cond (Nat.beq m 74) (5) (0))) (cond (Nat.ble 73 m) (cond (Nat.beq m 73) (5) (0)) (cond (Nat.beq m 72) (5) (0)))))))) (cond (Nat.ble 36 m) (cond (Nat.ble 54 m) (cond (Nat.ble 63 m) (cond (Nat.ble 67 m) (cond (Nat.ble 69 m) (cond (Nat.ble 70 m) (cond (Nat.ble 71 m) (cond (Nat.beq m 71) (5) (0)) (cond (Nat.beq m 70) (5) (0))) (cond (Nat.beq m 69) (5) (0))) (cond (Nat.ble 68 m) (cond (Nat.beq m 68) (5) (0)) (cond (Nat.beq m 67) (5) (0)))) (cond (Nat.ble 65 m) (cond (Nat.ble 66 m) (cond (Nat.beq m 66) (5) (0)) (cond (Nat.beq m 65) (5) (0))) (cond (Nat.ble 64 m) (cond (Nat.beq m 64) (5) (0)) (cond (Nat.beq m 63) (5) (0))))) (cond (Nat.ble 58 m) (cond (Nat.ble 60 m) (cond (Nat.ble 61 m) (cond (Nat.ble 62 m) (cond (Nat.beq m 62) (5) (0)) (cond (Nat.beq m 61) (5) (0))) (cond (Nat.beq m 60) (5) (0))) (cond (Nat.ble 59 m) (cond (Nat.beq m 59) (4) (0)) (cond (Nat.beq m 58) (4) (0)))) (cond (Nat.ble 56 m) (cond (Nat.ble 57 m) (cond (Nat.beq m 57) (4) (0)) (cond (Nat.beq m 56) (4) (0))) (cond (Nat.ble 55 m) (cond (Nat.beq m 55) (4) (0)) (cond (Nat.beq m 54) (4) (0)))))) (cond (Nat.ble 45 m) (cond (Nat.ble 49 m) (cond (Nat.ble 51 m) (cond (Nat.ble 52 m) (cond (Nat.ble 53 m) (cond (Nat.beq m 53) (4) (0)) (cond (Nat.beq m 52) (4) (0))) (cond (Nat.beq m 51) (4) (0))) (cond (Nat.ble 50 m) (cond (Nat.beq m 50) (4) (0)) (cond (Nat.beq m 49) (4) (0)))) (cond (Nat.ble 47 m) (cond (Nat.ble 48 m) (cond (Nat.beq m 48) (4) (0)) (cond (Nat.beq m 47) (4) (0))) (cond (Nat.ble 46 m) (cond (Nat.beq m 46) (4) (0)) (cond (Nat.beq m 45) (4) (0))))) (cond (Nat.ble 40 m) (cond (Nat.ble 42 m) (cond (Nat.ble 43 m) (cond (Nat.ble 44 m) (cond (Nat.beq m 44) (4) (0)) (cond (Nat.beq m 43) (4) (0))) (cond (Nat.beq m 42) (4) (0))) (cond (Nat.ble 41 m) (cond (Nat.beq m 41) (4) (0)) (cond (Nat.beq m 40) (4) (0)))) (cond (Nat.ble 38 m) (cond (Nat.ble 39 m) (cond (Nat.beq m 39) (4) (0)) (cond (Nat.beq m 38) (4) (0))) (cond (Nat.ble 37 m) (cond (Nat.beq m 37) (3) (0)) (cond (Nat.beq m 36) (3) (0))))))) (cond (Nat.ble 18 m) (cond (Nat.ble 27 m) (cond (Nat.ble 31 m) (cond (Nat.ble 33 m) (cond (Nat.ble 34 m) (cond (Nat.ble 35 m) (cond (Nat.beq m 35) (3) (0)) (cond (Nat.beq m 34) (2) (0))) (cond (Nat.beq m 33) (2) (0))) (cond (Nat.ble 32 m) (cond (Nat.beq m 32) (2) (0)) (cond (Nat.beq m 31) (2) (0)))) (cond (Nat.ble 29 m) (cond (Nat.ble 30 m) (cond (Nat.beq m 30) (1) (0)) (cond (Nat.beq m 29) (1) (0))) (cond (Nat.ble 28 m) (cond (Nat.beq m 28) (1) (0)) (cond (Nat.beq m 27) (1) (0))))) (cond (Nat.ble 22 m) (cond (Nat.ble 24 m) (cond (Nat.ble 25 m) (cond (Nat.ble 26 m) (cond (Nat.beq m 26) (1) (0)) (cond (Nat.beq m 25) (1) (0))) (cond (Nat.beq m 24) (1) (0))) (cond (Nat.ble 23 m) (cond (Nat.beq m 23) (1) (0)) (cond (Nat.beq m 22) (1) (0)))) (cond (Nat.ble 20 m) (cond (Nat.ble 21 m) (cond (Nat.beq m 21) (1) (0)) (cond (Nat.beq m 20) (1) (0))) (cond (Nat.ble 19 m) (cond (Nat.beq m 19) (1) (0)) (cond (Nat.beq m 18) (12) (0)))))) (cond (Nat.ble 9 m) (cond (Nat.ble 13 m) (cond (Nat.ble 15 m) (cond (Nat.ble 16 m) (cond (Nat.ble 17 m) (cond (Nat.beq m 17) (12) (0)) (cond (Nat.beq m 16) (12) (0))) (cond (Nat.beq m 15) (12) (0))) (cond (Nat.ble 14 m) (cond (Nat.beq m 14) (0) (0)) (cond (Nat.beq m 13) (0) (0)))) (cond (Nat.ble 11 m) (cond (Nat.ble 12 m) (cond (Nat.beq m 12) (0) (0)) (cond (Nat.beq m 11) (0) (0))) (cond (Nat.ble 10 m) (cond (Nat.beq m 10) (0) (0)) (cond (Nat.beq m 9) (0) (0))))) (cond (Nat.ble 5 m) (cond (Nat.ble 7 m) (cond (Nat.ble 8 m) (cond (Nat.beq m 8) (0) (0)) (cond (Nat.beq m 7) (0) (0))) (cond (Nat.ble 6 m) (cond (Nat.beq m 6) (0) (0)) (cond (Nat.beq m 5) (15) (0)))) (cond (Nat.ble 3 m) (cond (Nat.ble 4 m) (cond (Nat.beq m 4) (15) (0)) (cond (Nat.beq m 3) (15) (0))) (cond (Nat.ble 2 m) (cond (Nat.beq m 2) (15) (0)) (cond (Nat.beq m 1) (14) (0)))))))))
/-! SOUNDNESS, 10: runs and contracts -/
section SN10
variable {E : sn_E} {p : Program} {l : Launch} {e : Env} {R : Room} {s : State} {m : MethodId} {args : Array Value} {below : List Frame} {meth : Method} {c : Code} {n0 t0 : Nat} {Q : State → Prop} {mm ow d : Nat}
theorem sn_runW (C : sn_Cx E p R s m args meth c n0 mm ow d) {cal : pm_K} {c0 : pm_C} {r : pm_R} (hchk : ∀ pc o, c0 pc = some o → sn_chk mm ow pc o = true)
    (hcal : ∀ m' as V' rc, cal m' as V' = some rc → V'.1 <+: rc.2.1 ∧ (rc.2.1 <+: E.2.1 → sn_Met E l d m' as V' rc)) (hr : r.2.1 <+: E.2.1) (hroom : r.2.1.length ≤ n0 + R.cells ∧ sn_tt r.2.1 ≤ t0 + R.slots)
    (fin : ∀ (pc : Nat) (ls : pm_L) (st : List pm_V) (V : pm_M) (i : Instr) (np a b f : Nat) (x : Int32) (y : Int64) (sw : List (Int32 × Nat)), c0 pc = some (i, np, a, b, f, x, y, sw) → (i = .ireturn ∨ i = .lreturn ∨ i = .areturn ∨ i = .return_) → ∀ bb, pm_ins E.2.2.2.2.2.1 i np a b f x y sw ls st V = (bb, Sum.inr (Sum.inr r)) → bb = true → sn_Go E p l e R s m args below meth c (pm_mx mm) n0 t0 Q pc ls st V) :
    ∀ (n : Nat) (s' : pm_S), pm_run (pm_st E.2.2.2.2.2.1) cal c0 n s' = some r → sn_Go E p l e R s m args below meth c (pm_mx mm) n0 t0 Q s'.1 s'.2.1 s'.2.2.1 s'.2.2.2
  | 0, s', h => by cases h
  | n + 1, (pc, ls, st, V), h => by
    have h : pm_ev cal (pm_run (pm_st E.2.2.2.2.2.1) cal c0 n) (match c0 pc with | none => pm_no | some (i, np, a, b, k, x, y, sw) => pm_ins E.2.2.2.2.2.1 i np a b k x y sw ls st V) = some r := h
    cases ho : c0 pc with
    | none => rw [ho] at h; cases h
    | some o =>
      obtain ⟨i, np, a, b, f, x, y, sw⟩ := o
      rw [ho] at h
      exact sn_step C (hchk pc _ ho) hcal (fun s' h' => sn_orun (fun m' as V' rc hh => (hcal m' as V' rc hh).1) n s' r h') hr hroom (fun s' h' => sn_runW C hchk hcal hr hroom fin n s' h') (fin pc ls st V i np a b f x y sw ho) h
theorem sn_finM {pc : Nat} {ls : pm_L} {st : List pm_V} {V : pm_M} {i : Instr} {np a b f : Nat} {x : Int32} {y : Int64} {sw : List (Int32 × Nat)} (C : sn_Cx E p R s m args meth c n0 mm ow d) (hrt : meth.sig.returnType = sn_rt mm) (hlk : meth.locks = false) {r : pm_R} {mc ms : Nat} (hmc : n0 + mc = r.2.1.length) (hms : t0 + ms = sn_tt r.2.1) (hchk : sn_chk mm ow pc (i, np, a, b, f, x, y, sw) = true) (hi : i = .ireturn ∨ i = .lreturn ∨ i = .areturn ∨ i = .return_) {bb : Bool} (he : pm_ins E.2.2.2.2.2.1 i np a b f x y sw ls st V = (bb, Sum.inr (Sum.inr r))) (hbb : bb = true) : sn_Go E p l e R s m args below meth c (pm_mx mm) n0 t0 (MQ below (sn_Q E r) args s mc ms (sn_A E)) pc ls st V := by
  obtain ⟨hx, hb, hml, hown, hts, hK, hXs, hz, hmn, hf1, hf2⟩ := C
  rcases hi with rfl | rfl | rfl | rfl
  · rcases st with _ | ⟨w, _ | ⟨w2, st⟩⟩
    · cases he
    · rcases w with u | u | u
      · have he : ((cond (Nat.beq a 1) (pm_01 u) true, Sum.inr (Sum.inr (some (vi u), V))) : pm_T) = (bb, Sum.inr (Sum.inr r)) := he
        obtain ⟨h1, h2⟩ := Prod.mk.inj he
        have h2 : ((some (vi u), V) : pm_R) = r := Sum.inr.inj (Sum.inr.inj h2)
        subst h2
        rw [hbb] at h1
        have hc : (sn_de mm pc .ireturn np 1 && ((Nat.beq a 0 && decide (sn_rt mm = some .int)) || (Nat.beq a 1 && decide (sn_rt mm = some .boolean)))) = true := hchk
        simp only [Bool.and_eq_true, Bool.or_eq_true, decide_eq_true_eq, Nat.beq_eq] at hc
        obtain ⟨hc0, hc1⟩ := hc
        have hd := (sn_de_ok hc0).1
        intro H locs cells slots arr hS hV hc' hs hl
        have e1 : cells = mc := by have : n0 + mc = V.1.length := hmc; omega
        have e2 : slots = ms := by have : t0 + ms = sn_tt V.1 := hms; omega
        subst e1
        subst e2
        rcases hc1 with ⟨h3, h4⟩ | ⟨h3, h4⟩
        · exact W.iret (v := u) hx hb (hrt.trans h4) (fun t ht hW => ⟨⟨u, (), rfl, rfl, by show sn_S E V t.heap; rw [ht]; exact hS⟩, hV.F ht⟩) hV.2.2 hd hlk
        · subst h3
          have h01 : pm_01 u = true := h1
          exact W.zret (v := u) hx hb (hrt.trans h4) (by rcases sn_01 h01 with rfl | rfl <;> rfl) (fun t ht hW => ⟨⟨u, (), rfl, rfl, by show sn_S E V t.heap; rw [ht]; exact hS⟩, hV.F ht⟩) hV.2.2 hd hlk
      · cases he
      · cases he
    · rcases w with u | u | u <;> cases he
  · rcases st with _ | ⟨w, _ | ⟨w2, st⟩⟩
    · cases he
    · rcases w with u | u | u
      · cases he
      · have he : ((true, Sum.inr (Sum.inr (some (vl u), V))) : pm_T) = (bb, Sum.inr (Sum.inr r)) := he
        obtain ⟨h1, h2⟩ := Prod.mk.inj he
        have h2 : ((some (vl u), V) : pm_R) = r := Sum.inr.inj (Sum.inr.inj h2)
        subst h2
        have hc : (sn_de mm pc .lreturn np 1 && decide (sn_rt mm = some .long)) = true := hchk
        simp only [Bool.and_eq_true, decide_eq_true_eq] at hc
        have hd := (sn_de_ok hc.1).1
        intro H locs cells slots arr hS hV hc' hs hl
        have e1 : cells = mc := by have : n0 + mc = V.1.length := hmc; omega
        have e2 : slots = ms := by have : t0 + ms = sn_tt V.1 := hms; omega
        subst e1
        subst e2
        exact W.lret (v := u) hx hb (hrt.trans hc.2) (fun t ht hW => ⟨⟨u, (), rfl, rfl, by show sn_S E V t.heap; rw [ht]; exact hS⟩, hV.F ht⟩) hV.2.2 hd hlk
      · cases he
    · rcases w with u | u | u <;> cases he
  · rcases st with _ | ⟨w, _ | ⟨w2, st⟩⟩
    · cases he
    · rcases w with u | u | u
      · cases he
      · cases he
      · have he : ((!(Nat.beq u 0), Sum.inr (Sum.inr (some (vr u), V))) : pm_T) = (bb, Sum.inr (Sum.inr r)) := he
        obtain ⟨h1, h2⟩ := Prod.mk.inj he
        have h2 : ((some (vr u), V) : pm_R) = r := Sum.inr.inj (Sum.inr.inj h2)
        subst h2
        have hu : u ≠ 0 := fun z => by rw [z, hbb] at h1; cases h1
        have hc : (sn_de mm pc .areturn np 1 && (match sn_rt mm with | some (.object _) => true | _ => false)) = true := hchk
        rw [Bool.and_eq_true] at hc
        have hd := (sn_de_ok hc.1).1
        intro H locs cells slots arr hS hV hc' hs hl
        have e1 : cells = mc := by have : n0 + mc = V.1.length := hmc; omega
        have e2 : slots = ms := by have : t0 + ms = sn_tt V.1 := hms; omega
        subst e1
        subst e2
        have hc2 := hc.2
        split at hc2
        · rename_i nm hnm
          show W p l e R s m args below meth c H locs cells slots _ (F0 m pc arr [sn_rf E u])
          rw [sn_rf_ne hu]
          exact W.aret hx hb (hrt.trans hnm) (Or.inl ⟨_, rfl⟩) (Or.inr ⟨_, rfl⟩) (fun t ht hW => ⟨⟨(), sn_ad E u, rfl, trivial, (sn_rf_ne hu).symm, by show sn_S E V t.heap; rw [ht]; exact hS⟩, hV.F ht⟩) hV.2.2 hd hlk
        · cases hc2
    · rcases w with u | u | u <;> cases he
  · rcases st with _ | ⟨w, st⟩
    · have he : ((true, Sum.inr (Sum.inr (none, V))) : pm_T) = (bb, Sum.inr (Sum.inr r)) := he
      obtain ⟨h1, h2⟩ := Prod.mk.inj he
      have h2 : ((none, V) : pm_R) = r := Sum.inr.inj (Sum.inr.inj h2)
      subst h2
      have hc : (sn_de mm pc .return_ np 1 && decide (sn_rt mm = none)) = true := hchk
      simp only [Bool.and_eq_true, decide_eq_true_eq] at hc
      have hd := (sn_de_ok hc.1).1
      intro H locs cells slots arr hS hV hc' hs hl
      have e1 : cells = mc := by have : n0 + mc = V.1.length := hmc; omega
      have e2 : slots = ms := by have : t0 + ms = sn_tt V.1 := hms; omega
      subst e1
      subst e2
      exact W.vret hx hb (hrt.trans hc.2) (fun t ht hW => ⟨⟨(), rfl, trivial, by show sn_S E V t.heap; rw [ht]; exact hS⟩, hV.F ht⟩) hV.2.2 hd hlk
    · cases he
end SN10
theorem sn_lv_rep {E : sn_E} : ∀ (n k : Nat), sn_lv E k (List.replicate n none) = []
  | 0, _ => rfl
  | n + 1, k => sn_lv_rep n (k + 1)
theorem sn_ent_args {E : sn_E} : ∀ (as : List pm_V) (k n : Nat) (q : Nat × Value), q ∈ sn_lv E k (pm_ent n as) → q ∈ lv_args k (as.map (sn_cv E))
  | [], k, n, q, h => by
    have h : q ∈ sn_lv E k (List.replicate n none) := h
    rw [sn_lv_rep] at h
    exact h
  | (Sum.inr (Sum.inl x)) :: as, k, n, q, h => by
    have h : q ∈ (k, Value.long x) :: sn_lv E (k + 1 + 1) (pm_ent (n - 2) as) := h
    show q ∈ (k, Value.long x) :: lv_args (k + 2) (as.map (sn_cv E))
    rcases List.mem_cons.mp h with h | h
    · rw [h]; exact List.mem_cons_self
    · exact List.mem_cons_of_mem _ (sn_ent_args as (k + 2) (n - 2) q h)
  | (Sum.inl x) :: as, k, n, q, h => by
    have h : q ∈ (k, Value.int x) :: sn_lv E (k + 1) (pm_ent (n - 1) as) := h
    show q ∈ (k, Value.int x) :: lv_args (k + 1) (as.map (sn_cv E))
    rcases List.mem_cons.mp h with h | h
    · rw [h]; exact List.mem_cons_self
    · exact List.mem_cons_of_mem _ (sn_ent_args as (k + 1) (n - 1) q h)
  | (Sum.inr (Sum.inr u)) :: as, k, n, q, h => by
    have h : q ∈ (k, sn_rf E u) :: sn_lv E (k + 1) (pm_ent (n - 1) as) := h
    show q ∈ (k, sn_rf E u) :: lv_args (if (sn_rf E u).category = 2 then k + 2 else k + 1) (as.map (sn_cv E))
    have hc : (sn_rf E u).category = 1 := sn_cat_r
    rw [if_neg (by omega)]
    rcases List.mem_cons.mp h with h | h
    · rw [h]; exact List.mem_cons_self
    · exact List.mem_cons_of_mem _ (sn_ent_args as (k + 1) (n - 1) q h)
theorem sn_sl_len {E : sn_E} : ∀ as : List pm_V, (lg_sl (as.map (sn_cv E))).length = pm_wd as
  | [] => rfl
  | v :: as => by
    have ih := sn_sl_len (E := E) as
    unfold lg_sl at ih ⊢
    rw [List.map_cons, List.flatMap_cons, List.length_append, ih]
    rcases v with x | x | u
    · rfl
    · rfl
    · have hc : (sn_cv E (vr u)).category = 1 := sn_cat_r
      show (if (sn_cv E (vr u)).category = 2 then _ else _ : List Slot).length + pm_wd as = 1 + pm_wd as
      rw [if_neg (by omega)]
      rfl
theorem sn_entry {E : sn_E} {as : List pm_V} {n : Nat} (h : pm_wd as ≤ n) : lv_has ((lg_sl (as.map (sn_cv E)) ++ List.replicate (n - (lg_sl (as.map (sn_cv E))).length) Slot.unset).toArray) n (sn_lv E 0 (pm_ent n as)) :=
  sn_sub (lv_entry (as.map (sn_cv E)) (by rw [sn_sl_len]; exact h)) (fun q hq => sn_ent_args as 0 n q hq)
/-- every run of a method is its contract -/
theorem sn_met {E : sn_E} {l : Launch} (hck : ∀ mm pc o, pm_co mm pc = some o → sn_chk mm (sn_wm mm) pc o = true) (hpl : ∀ mm o, pm_co mm 0 = some o → plainFor (sn_y mm) = true ∧ (sn_y mm).cls = sn_ow (sn_wm mm)) : ∀ (d n mm : Nat) (as : List pm_V) (V : pm_M) (r : pm_R), pm_cal (pm_st E.2.2.2.2.2.1) pm_co pm_mx n d mm as V = some r → r.2.1 <+: E.2.1 → sn_Met E l d mm as V r
  | 0, n, mm, as, V, r, h, _ => by cases h
  | d + 1, n, mm, as, V, r, h, hr => by
    have hpre := sn_ocal (d + 1) mm as V r h
    have h : cond (Nat.ble (pm_wd as) (pm_mx mm)) (pm_run (pm_st E.2.2.2.2.2.1) (pm_cal (pm_st E.2.2.2.2.2.1) pm_co pm_mx n d) (pm_co mm) n (0, pm_ent (pm_mx mm) as, [], V)) none = some r := h
    cases hb : Nat.ble (pm_wd as) (pm_mx mm) with
    | false => rw [hb] at h; cases h
    | true =>
      rw [hb] at h
      have h : pm_run (pm_st E.2.2.2.2.2.1) (pm_cal (pm_st E.2.2.2.2.2.1) pm_co pm_mx n d) (pm_co mm) n (0, pm_ent (pm_mx mm) as, [], V) = some r := h
      have hco : ∃ o, pm_co mm 0 = some o := by
        cases n with
        | zero => cases h
        | succ n =>
          cases ho : pm_co mm 0 with
          | some o => exact ⟨o, rfl⟩
          | none =>
            have h : pm_ev _ _ (match pm_co mm 0 with | none => pm_no | some (i, np, a, b, k, x, y, sw) => pm_ins E.2.2.2.2.2.1 i np a b k x y sw (pm_ent (pm_mx mm) as) [] V) = some r := h
            rw [ho] at h
            cases h
      obtain ⟨o, ho⟩ := hco
      obtain ⟨hpf, hcw⟩ := hpl mm o ho
      have hq := sn_tt_pre hpre
      refine va_MetF (cc := sn_b mm) (maxL := pm_mx mm) (ret := sn_rt mm) hpf rfl ?_
      intro p e s m args below meth c s₁ B hml hv
      obtain ⟨rfl, hS, hK, hXs⟩ := hv
      have hts : ∀ w ∈ sn_GT, w.before (as.map (sn_cv E)).toArray s = true := fun w hw => atoms_spec (ws := sn_ws mm) B.pre w (List.mem_cons_of_mem _ hw)
      have C : sn_Cx E p (sn_rm (d + 1) (r.2.1.length - V.1.length) (sn_tt r.2.1 - sn_tt V.1)) s m (as.map (sn_cv E)).toArray meth c V.1.length mm (sn_wm mm) d := ⟨B.exec, B.bytes, hml, by rw [← hcw]; exact findClass_of_methodNamed B.named, hts, hK, hXs, hS.1, (name_of_methodNamed B.named B.method).1, by show d + 9 ≤ d + 1 + 8; omega, by show 64 * (d + 9) ≤ 64 * (d + 1 + 8); omega⟩
      rw [lg_entry_eq]
      exact sn_runW (t0 := sn_tt V.1) C (hck mm) (fun m' as' V' rc hh => ⟨sn_ocal d m' as' V' rc hh, fun hp => sn_met hck hpl d n m' as' V' rc hh hp⟩) hr ⟨by show _ ≤ _ + (r.2.1.length - V.1.length); omega, by show _ ≤ _ + (sn_tt r.2.1 - sn_tt V.1); omega⟩
        (fun pc ls st V2 i np a b f x y sw hc hi bb he hbb => sn_finM C B.returns B.notSynchronized (by omega) (by omega) (hck mm pc _ hc) hi he hbb) n _ h s.heap [] 0 0 _ hS va_S.rf (Nat.zero_add _) (Nat.zero_add _) (sn_entry (Nat.le_of_ble_eq_true hb))
