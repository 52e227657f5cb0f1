/-! SOUNDNESS, 7: what the tables say: classes, links, methods -/
def sn_ow (k : Nat) : String := cond (Nat.ble 8 k) (cond (Nat.ble 12 k) (cond (Nat.ble 14 k) (cond (Nat.ble 15 k) (cond (Nat.beq k 15) ("java/lang/Math") ("")) (cond (Nat.beq k 14) ("java/lang/Integer") (""))) (cond (Nat.ble 13 k) (cond (Nat.beq k 13) ("BellowsChoirLaw") ("")) (cond (Nat.beq k 12) ("BellowsChoir$Duel") ("")))) (cond (Nat.ble 10 k) (cond (Nat.ble 11 k) (cond (Nat.beq k 11) ("BellowsChoirModel") ("")) (cond (Nat.beq k 10) ("BellowsChoir") (""))) (cond (Nat.ble 9 k) (cond (Nat.beq k 9) ("BellowsChoir$Ways") ("")) (cond (Nat.beq k 8) ("BellowsChoir$Told") (""))))) (cond (Nat.ble 4 k) (cond (Nat.ble 6 k) (cond (Nat.ble 7 k) (cond (Nat.beq k 7) ("BellowsChoir$Shifter") ("")) (cond (Nat.beq k 6) ("BellowsChoir$Score") (""))) (cond (Nat.ble 5 k) (cond (Nat.beq k 5) ("BellowsChoir$Reader") ("")) (cond (Nat.beq k 4) ("BellowsChoir$Play") ("")))) (cond (Nat.ble 2 k) (cond (Nat.ble 3 k) (cond (Nat.beq k 3) ("BellowsChoir$Log") ("")) (cond (Nat.beq k 2) ("BellowsChoir$Leather") (""))) (cond (Nat.ble 1 k) (cond (Nat.beq k 1) ("BellowsChoir$Heard") ("")) (cond (Nat.beq k 0) ("BellowsChoir$Band") ("")))))
def sn_tm (f : Nat) (ty : FieldType) : Prop := (f = 0 ∧ ty = .int) ∨ (f = 3 ∧ ty = .boolean) ∨ (f = 1 ∧ ty = .long) ∨ (f = 2 ∧ ty.isReference = true ∧ defaultValue ty = .null)
def sn_nf (c : Nat) : Nat := cond (Nat.ble 6 c) (cond (Nat.ble 9 c) (cond (Nat.ble 10 c) (cond (Nat.ble 11 c) (cond (Nat.beq c 11) (63) (0)) (cond (Nat.beq c 10) (10) (0))) (cond (Nat.beq c 9) (4) (0))) (cond (Nat.ble 7 c) (cond (Nat.ble 8 c) (cond (Nat.beq c 8) (9) (0)) (cond (Nat.beq c 7) (7) (0))) (cond (Nat.beq c 6) (4) (0)))) (cond (Nat.ble 3 c) (cond (Nat.ble 4 c) (cond (Nat.ble 5 c) (cond (Nat.beq c 5) (12) (0)) (cond (Nat.beq c 4) (16) (0))) (cond (Nat.beq c 3) (3) (0))) (cond (Nat.ble 1 c) (cond (Nat.ble 2 c) (cond (Nat.beq c 2) (2) (0)) (cond (Nat.beq c 1) (4) (0))) (cond (Nat.beq c 0) (9) (0))))
def sn_ch (x : Nat × Nat) : Bool := cond (Nat.ble 10 x.1 && Nat.ble x.1 50) (Nat.beq x.2 (sn_nf (x.1 - 10)) && Nat.ble x.1 21) (Nat.ble x.2 5000 && (Nat.ble x.1 4 || Nat.beq x.1 6 || Nat.beq x.1 100 || Nat.beq x.1 103 || Nat.beq x.1 106 || Nat.beq x.1 108 || Nat.beq x.1 109))
def sn_ck (ci : Nat) (C : String) (T : u_T) (N : Nat) (ty0 : Nat → FieldType) : Prop := vwCl[ci]? = some (C, T, N) ∧ (∀ w ∈ u_ws C T N, w ∈ sn_GT) ∧ (∀ k, k < N → parseFieldDescriptor (T k).2.2.1 = some (ty0 k)) ∧ (∀ a, a < N → ∀ b, b < N → a ≠ b → (T a).2.1 ≠ (T b).2.1) ∧ (∀ k, k < N → (T k).1 = C ∧ sn_tm (pm_ft ci k) (ty0 k)) ∧ Cond.instantiable C N ∈ sn_GT ∧ Cond.initialized C ∈ sn_GT ∧ sn_nf ci = N ∧ sn_ow ci = C
def sn_fl : List (Nat × Nat × Nat × Nat) := [(0, 9, 0, 5), (0, 15, 0, 6), (0, 18, 0, 7), (0, 21, 0, 8), (0, 27, 0, 0), (0, 31, 0, 1), (0, 34, 0, 2), (0, 37, 0, 3), (0, 40, 0, 4), (1, 9, 1, 0), (1, 15, 1, 1), (1, 18, 1, 2), (1, 22, 1, 3), (1, 26, 3, 0), (1, 32, 3, 1), (1, 41, 3, 2), (2, 9, 2, 0), (2, 15, 2, 1), (2, 18, 0, 4), (2, 36, 0, 7), (2, 39, 0, 8), (3, 9, 3, 0), (3, 15, 3, 1), (3, 19, 3, 2), (4, 9, 4, 5), (4, 15, 4, 6), (4, 18, 4, 7), (4, 21, 4, 8), (4, 24, 4, 9), (4, 27, 4, 10), (4, 30, 4, 11), (4, 33, 4, 12), (4, 36, 4, 13), (4, 39, 4, 14), (4, 42, 0, 0), (4, 48, 4, 0), (4, 49, 0, 1), (4, 52, 4, 4), (4, 53, 0, 2), (4, 56, 4, 1), (4, 57, 0, 3), (4, 60, 4, 2), (4, 61, 0, 4), (4, 64, 4, 3), (4, 65, 0, 5), (4, 84, 6, 0), (4, 91, 6, 1), (4, 94, 6, 2), (4, 97, 6, 3), (4, 106, 4, 15), (5, 12, 5, 0), (5, 21, 5, 1), (5, 28, 5, 2), (5, 32, 5, 3), (5, 36, 5, 4), (5, 39, 5, 5), (5, 42, 5, 6), (5, 46, 5, 7), (5, 49, 5, 8), (5, 52, 5, 9), (5, 55, 5, 10), (5, 58, 5, 11), (5, 98, 6, 0), (5, 101, 3, 0), (5, 168, 0, 0), (5, 171, 0, 1), (5, 174, 0, 2), (5, 177, 0, 3), (6, 9, 6, 0), (6, 15, 6, 1), (6, 19, 6, 2), (6, 22, 6, 3), (6, 50, 0, 4), (6, 55, 0, 6), (7, 9, 7, 0), (7, 15, 7, 1), (7, 19, 7, 2), (7, 23, 7, 3), (7, 26, 7, 4), (7, 29, 7, 5), (7, 34, 7, 6), (7, 41, 6, 0), (7, 50, 6, 2), (7, 53, 6, 3), (7, 76, 4, 7), (8, 9, 8, 0), (8, 15, 8, 1), (8, 19, 8, 2), (8, 22, 8, 3), (8, 25, 8, 4), (8, 31, 8, 5), (8, 37, 8, 6), (8, 41, 8, 7), (8, 46, 8, 8), (8, 53, 5, 0), (8, 63, 5, 1), (8, 70, 5, 3), (8, 72, 5, 2), (9, 9, 9, 0), (9, 15, 9, 1), (9, 19, 9, 2), (9, 23, 9, 3), (9, 58, 4, 12), (9, 61, 4, 13), (10, 12, 10, 0), (10, 16, 10, 1), (10, 23, 10, 2), (10, 30, 10, 3), (10, 37, 10, 4), (10, 44, 10, 5), (10, 51, 10, 6), (10, 57, 10, 7), (10, 61, 10, 8), (10, 65, 10, 9), (10, 68, 8, 1), (10, 76, 8, 2), (10, 79, 8, 3), (10, 82, 8, 4), (10, 89, 8, 0), (10, 97, 5, 4), (10, 98, 5, 5), (10, 110, 9, 3), (10, 114, 8, 5), (10, 124, 8, 6), (10, 128, 6, 0), (10, 133, 6, 1), (10, 136, 6, 2), (10, 139, 6, 3), (10, 141, 8, 7), (10, 144, 8, 8), (10, 148, 3, 0), (10, 153, 3, 1), (10, 154, 3, 2), (10, 214, 4, 12), (10, 221, 4, 14), (10, 227, 0, 6), (10, 233, 4, 15), (10, 254, 4, 0), (10, 260, 4, 1), (10, 263, 4, 2), (10, 269, 4, 13), (10, 272, 0, 4), (10, 279, 4, 6), (10, 293, 4, 3), (10, 302, 7, 0), (10, 305, 7, 1), (10, 325, 9, 0), (10, 339, 9, 1), (10, 354, 9, 2), (10, 368, 2, 0), (10, 386, 0, 0), (10, 387, 0, 1), (10, 390, 0, 5), (11, 7, 11, 1), (11, 13, 11, 2), (11, 17, 11, 3), (11, 20, 11, 4), (11, 23, 11, 5), (11, 26, 11, 6), (11, 29, 11, 7), (11, 32, 11, 8), (11, 35, 11, 9), (11, 38, 11, 19), (11, 41, 11, 20), (11, 44, 11, 26), (11, 47, 11, 30), (11, 50, 11, 31), (11, 53, 11, 32), (11, 56, 11, 33), (11, 59, 11, 34), (11, 62, 11, 35), (11, 65, 11, 36), (11, 68, 11, 41), (11, 71, 11, 42), (11, 74, 11, 43), (11, 77, 11, 46), (11, 80, 11, 47), (11, 83, 11, 49), (11, 87, 11, 50), (11, 90, 11, 53), (11, 94, 11, 54), (11, 97, 11, 55), (11, 100, 11, 60), (11, 103, 11, 61), (11, 106, 11, 62), (11, 109, 11, 0), (11, 129, 11, 10), (11, 132, 11, 11), (11, 139, 11, 12), (11, 142, 11, 15), (11, 146, 11, 13), (11, 149, 11, 14), (11, 152, 11, 16), (11, 155, 11, 17), (11, 158, 11, 18), (11, 169, 11, 22), (11, 194, 11, 21), (11, 244, 11, 23), (11, 251, 11, 25), (11, 257, 11, 24), (11, 278, 11, 27), (11, 281, 11, 28), (11, 284, 11, 29), (11, 287, 11, 37), (11, 290, 11, 38), (11, 293, 11, 39), (11, 312, 11, 40), (11, 349, 11, 44), (11, 352, 11, 45), (11, 389, 11, 48), (11, 405, 11, 51), (11, 417, 11, 52), (11, 420, 11, 56), (11, 423, 11, 57), (11, 426, 11, 58), (11, 444, 11, 59), (12, 9, 0, 0), (12, 25, 0, 4), (12, 28, 0, 5), (12, 42, 0, 2), (12, 48, 0, 6)]
def sn_fk (q : Nat × Nat × Nat × Nat) : Prop := ∀ C T N, vwCl[q.2.2.1]? = some (C, T, N) → q.2.2.2 < N ∧ Cond.fieldLink (sn_ow q.1) q.2.1 C (T q.2.2.2).2.1 (T q.2.2.2).2.2.1 ∈ sn_GT
def sn_ma (m : Nat) : Nat := cond (Nat.ble 142 m) (cond (Nat.ble 213 m) (cond (Nat.ble 248 m) (cond (Nat.ble 266 m) (cond (Nat.ble 275 m) (cond (Nat.ble 279 m) (cond (Nat.ble 281 m) (cond (Nat.ble 282 m) (cond (Nat.ble 283 m) (cond (Nat.beq m 283) (1) (999)) (cond (Nat.beq m 282) (1) (999))) (cond (Nat.beq m 281) (1) (999))) (cond (Nat.ble 280 m) (cond (Nat.beq m 280) (5) (999)) (cond (Nat.beq m 279) (4) (999)))) (cond (Nat.ble 277 m) (cond (Nat.ble 278 m) (cond (Nat.beq m 278) (1) (999)) (cond (Nat.beq m 277) (3) (999))) (cond (Nat.ble 276 m) (cond (Nat.beq m 276) (2) (999)) (cond (Nat.beq m 275) (2) (999))))) (cond (Nat.ble 270 m) (cond (Nat.ble 272 m) (cond (Nat.ble 273 m) (cond (Nat.ble 274 m) (cond (Nat.beq m 274) (2) (999)) (cond (Nat.beq m 273) (0) (999))) (cond (Nat.beq m 272) (2) (999))) (cond (Nat.ble 271 m) (cond (Nat.beq m 271) (2) (999)) (cond (Nat.beq m 270) (2) (999)))) (cond (Nat.ble 268 m) (cond (Nat.ble 269 m) (cond (Nat.beq m 269) (0) (999)) (cond (Nat.beq m 268) (0) (999))) (cond (Nat.ble 267 m) (cond (Nat.beq m 267) (2) (999)) (cond (Nat.beq m 266) (3) (999)))))) (cond (Nat.ble 257 m) (cond (Nat.ble 261 m) (cond (Nat.ble 263 m) (cond (Nat.ble 264 m) (cond (Nat.ble 265 m) (cond (Nat.beq m 265) (4) (999)) (cond (Nat.beq m 264) (4) (999))) (cond (Nat.beq m 263) (4) (999))) (cond (Nat.ble 262 m) (cond (Nat.beq m 262) (0) (999)) (cond (Nat.beq m 261) (2) (999)))) (cond (Nat.ble 259 m) (cond (Nat.ble 260 m) (cond (Nat.beq m 260) (4) (999)) (cond (Nat.beq m 259) (2) (999))) (cond (Nat.ble 258 m) (cond (Nat.beq m 258) (4) (999)) (cond (Nat.beq m 257) (1) (999))))) (cond (Nat.ble 252 m) (cond (Nat.ble 254 m) (cond (Nat.ble 255 m) (cond (Nat.ble 256 m) (cond (Nat.beq m 256) (1) (999)) (cond (Nat.beq m 255) (0) (999))) (cond (Nat.beq m 254) (0) (999))) (cond (Nat.ble 253 m) (cond (Nat.beq m 253) (4) (999)) (cond (Nat.beq m 252) (1) (999)))) (cond (Nat.ble 250 m) (cond (Nat.ble 251 m) (cond (Nat.beq m 251) (4) (999)) (cond (Nat.beq m 250) (1) (999))) (cond (Nat.ble 249 m) (cond (Nat.beq m 249) (0) (999)) (cond (Nat.beq m 248) (1) (999))))))) (cond (Nat.ble 230 m) (cond (Nat.ble 239 m) (cond (Nat.ble 243 m) (cond (Nat.ble 245 m) (cond (Nat.ble 246 m) (cond (Nat.ble 247 m) (cond (Nat.beq m 247) (3) (999)) (cond (Nat.beq m 246) (0) (999))) (cond (Nat.beq m 245) (3) (999))) (cond (Nat.ble 244 m) (cond (Nat.beq m 244) (1) (999)) (cond (Nat.beq m 243) (0) (999)))) (cond (Nat.ble 241 m) (cond (Nat.ble 242 m) (cond (Nat.beq m 242) (2) (999)) (cond (Nat.beq m 241) (4) (999))) (cond (Nat.ble 240 m) (cond (Nat.beq m 240) (2) (999)) (cond (Nat.beq m 239) (3) (999))))) (cond (Nat.ble 234 m) (cond (Nat.ble 236 m) (cond (Nat.ble 237 m) (cond (Nat.ble 238 m) (cond (Nat.beq m 238) (2) (999)) (cond (Nat.beq m 237) (2) (999))) (cond (Nat.beq m 236) (1) (999))) (cond (Nat.ble 235 m) (cond (Nat.beq m 235) (3) (999)) (cond (Nat.beq m 234) (3) (999)))) (cond (Nat.ble 232 m) (cond (Nat.ble 233 m) (cond (Nat.beq m 233) (2) (999)) (cond (Nat.beq m 232) (1) (999))) (cond (Nat.ble 231 m) (cond (Nat.beq m 231) (2) (999)) (cond (Nat.beq m 230) (1) (999)))))) (cond (Nat.ble 221 m) (cond (Nat.ble 225 m) (cond (Nat.ble 227 m) (cond (Nat.ble 228 m) (cond (Nat.ble 229 m) (cond (Nat.beq m 229) (1) (999)) (cond (Nat.beq m 228) (2) (999))) (cond (Nat.beq m 227) (2) (999))) (cond (Nat.ble 226 m) (cond (Nat.beq m 226) (1) (999)) (cond (Nat.beq m 225) (1) (999)))) (cond (Nat.ble 223 m) (cond (Nat.ble 224 m) (cond (Nat.beq m 224) (2) (999)) (cond (Nat.beq m 223) (3) (999))) (cond (Nat.ble 222 m) (cond (Nat.beq m 222) (4) (999)) (cond (Nat.beq m 221) (1) (999))))) (cond (Nat.ble 217 m) (cond (Nat.ble 219 m) (cond (Nat.ble 220 m) (cond (Nat.beq m 220) (5) (999)) (cond (Nat.beq m 219) (1) (999))) (cond (Nat.ble 218 m) (cond (Nat.beq m 218) (0) (999)) (cond (Nat.beq m 217) (2) (999)))) (cond (Nat.ble 215 m) (cond (Nat.ble 216 m) (cond (Nat.beq m 216) (5) (999)) (cond (Nat.beq m 215) (2) (999))) (cond (Nat.ble 214 m) (cond (Nat.beq m 214) (3) (999)) (cond (Nat.beq m 213) (2) (999)))))))) (cond (Nat.ble 177 m) (cond (Nat.ble 195 m) (cond (Nat.ble 204 m) (cond (Nat.ble 208 m) (cond (Nat.ble 210 m) (cond (Nat.ble 211 m) (cond (Nat.ble 212 m) (cond (Nat.beq m 212) (0) (999)) (cond (Nat.beq m 211) (0) (999))) (cond (Nat.beq m 210) (2) (999))) (cond (Nat.ble 209 m) (cond (Nat.beq m 209) (1) (999)) (cond (Nat.beq m 208) (3) (999)))) (cond (Nat.ble 206 m) (cond (Nat.ble 207 m) (cond (Nat.beq m 207) (0) (999)) (cond (Nat.beq m 206) (1) (999))) (cond (Nat.ble 205 m) (cond (Nat.beq m 205) (3) (999)) (cond (Nat.beq m 204) (2) (999))))) (cond (Nat.ble 199 m) (cond (Nat.ble 201 m) (cond (Nat.ble 202 m) (cond (Nat.ble 203 m) (cond (Nat.beq m 203) (0) (999)) (cond (Nat.beq m 202) (2) (999))) (cond (Nat.beq m 201) (0) (999))) (cond (Nat.ble 200 m) (cond (Nat.beq m 200) (1) (999)) (cond (Nat.beq m 199) (2) (999)))) (cond (Nat.ble 197 m) (cond (Nat.ble 198 m) (cond (Nat.beq m 198) (0) (999)) (cond (Nat.beq m 197) (1) (999))) (cond (Nat.ble 196 m) (cond (Nat.beq m 196) (1) (999)) (cond (Nat.beq m 195) (1) (999)))))) (cond (Nat.ble 186 m) (cond (Nat.ble 190 m) (cond (Nat.ble 192 m) (cond (Nat.ble 193 m) (cond (Nat.ble 194 m) (cond (Nat.beq m 194) (1) (999)) (cond (Nat.beq m 193) (2) (999))) (cond (Nat.beq m 192) (2) (999))) (cond (Nat.ble 191 m) (cond (Nat.beq m 191) (3) (999)) (cond (Nat.beq m 190) (1) (999)))) (cond (Nat.ble 188 m) (cond (Nat.ble 189 m) (cond (Nat.beq m 189) (1) (999)) (cond (Nat.beq m 188) (3) (999))) (cond (Nat.ble 187 m) (cond (Nat.beq m 187) (2) (999)) (cond (Nat.beq m 186) (1) (999))))) (cond (Nat.ble 181 m) (cond (Nat.ble 183 m) (cond (Nat.ble 184 m) (cond (Nat.ble 185 m) (cond (Nat.beq m 185) (2) (999)) (cond (Nat.beq m 184) (2) (999))) (cond (Nat.beq m 183) (2) (999))) (cond (Nat.ble 182 m) (cond (Nat.beq m 182) (1) (999)) (cond (Nat.beq m 181) (2) (999)))) (cond (Nat.ble 179 m) (cond (Nat.ble 180 m) (cond (Nat.beq m 180) (3) (999)) (cond (Nat.beq m 179) (2) (999))) (cond (Nat.ble 178 m) (cond (Nat.beq m 178) (0) (999)) (cond (Nat.beq m 177) (0) (999))))))) (cond (Nat.ble 159 m) (cond (Nat.ble 168 m) (cond (Nat.ble 172 m) (cond (Nat.ble 174 m) (cond (Nat.ble 175 m) (cond (Nat.ble 176 m) (cond (Nat.beq m 176) (0) (999)) (cond (Nat.beq m 175) (1) (999))) (cond (Nat.beq m 174) (1) (999))) (cond (Nat.ble 173 m) (cond (Nat.beq m 173) (5) (999)) (cond (Nat.beq m 172) (2) (999)))) (cond (Nat.ble 170 m) (cond (Nat.ble 171 m) (cond (Nat.beq m 171) (2) (999)) (cond (Nat.beq m 170) (4) (999))) (cond (Nat.ble 169 m) (cond (Nat.beq m 169) (1) (999)) (cond (Nat.beq m 168) (2) (999))))) (cond (Nat.ble 163 m) (cond (Nat.ble 165 m) (cond (Nat.ble 166 m) (cond (Nat.ble 167 m) (cond (Nat.beq m 167) (2) (999)) (cond (Nat.beq m 166) (2) (999))) (cond (Nat.beq m 165) (3) (999))) (cond (Nat.ble 164 m) (cond (Nat.beq m 164) (0) (999)) (cond (Nat.beq m 163) (3) (999)))) (cond (Nat.ble 161 m) (cond (Nat.ble 162 m) (cond (Nat.beq m 162) (2) (999)) (cond (Nat.beq m 161) (1) (999))) (cond (Nat.ble 160 m) (cond (Nat.beq m 160) (1) (999)) (cond (Nat.beq m 159) (3) (999)))))) (cond (Nat.ble 150 m) (cond (Nat.ble 154 m) (cond (Nat.ble 156 m) (cond (Nat.ble 157 m) (cond (Nat.ble 158 m) (cond (Nat.beq m 158) (2) (999)) (cond (Nat.beq m 157) (3) (999))) (cond (Nat.beq m 156) (5) (999))) (cond (Nat.ble 155 m) (cond (Nat.beq m 155) (1) (999)) (cond (Nat.beq m 154) (4) (999)))) (cond (Nat.ble 152 m) (cond (Nat.ble 153 m) (cond (Nat.beq m 153) (4) (999)) (cond (Nat.beq m 152) (3) (999))) (cond (Nat.ble 151 m) (cond (Nat.beq m 151) (3) (999)) (cond (Nat.beq m 150) (4) (999))))) (cond (Nat.ble 146 m) (cond (Nat.ble 148 m) (cond (Nat.ble 149 m) (cond (Nat.beq m 149) (3) (999)) (cond (Nat.beq m 148) (1) (999))) (cond (Nat.ble 147 m) (cond (Nat.beq m 147) (2) (999)) (cond (Nat.beq m 146) (1) (999)))) (cond (Nat.ble 144 m) (cond (Nat.ble 145 m) (cond (Nat.beq m 145) (2) (999)) (cond (Nat.beq m 144) (2) (999))) (cond (Nat.ble 143 m) (cond (Nat.beq m 143) (3) (999)) (cond (Nat.beq m 142) (2) (999))))))))) (cond (Nat.ble 71 m) (cond (Nat.ble 106 m) (cond (Nat.ble 124 m) (cond (Nat.ble 133 m) (cond (Nat.ble 137 m) (cond (Nat.ble 139 m) (cond (Nat.ble 140 m) (cond (Nat.ble 141 m) (cond (Nat.beq m 141) (3) (999)) (cond (Nat.beq m 140) (4) (999))) (cond (Nat.beq m 139) (2) (999))) (cond (Nat.ble 138 m) (cond (Nat.beq m 138) (3) (999)) (cond (Nat.beq m 137) (2) (999)))) (cond (Nat.ble 135 m) (cond (Nat.ble 136 m) (cond (Nat.beq m 136) (4) (999)) (cond (Nat.beq m 135) (5) (999))) (cond (Nat.ble 134 m) (cond (Nat.beq m 134) (1) (999)) (cond (Nat.beq m 133) (4) (999))))) (cond (Nat.ble 128 m) (cond (Nat.ble 130 m) (cond (Nat.ble 131 m) (cond (Nat.ble 132 m) (cond (Nat.beq m 132) (4) (999)) (cond (Nat.beq m 131) (0) (999))) (cond (Nat.beq m 130) (1) (999))) (cond (Nat.ble 129 m) (cond (Nat.beq m 129) (1) (999)) (cond (Nat.beq m 128) (1) (999)))) (cond (Nat.ble 126 m) (cond (Nat.ble 127 m) (cond (Nat.beq m 127) (4) (999)) (cond (Nat.beq m 126) (1) (999))) (cond (Nat.ble 125 m) (cond (Nat.beq m 125) (4) (999)) (cond (Nat.beq m 124) (4) (999)))))) (cond (Nat.ble 115 m) (cond (Nat.ble 119 m) (cond (Nat.ble 121 m) (cond (Nat.ble 122 m) (cond (Nat.ble 123 m) (cond (Nat.beq m 123) (5) (999)) (cond (Nat.beq m 122) (2) (999))) (cond (Nat.beq m 121) (3) (999))) (cond (Nat.ble 120 m) (cond (Nat.beq m 120) (2) (999)) (cond (Nat.beq m 119) (2) (999)))) (cond (Nat.ble 117 m) (cond (Nat.ble 118 m) (cond (Nat.beq m 118) (2) (999)) (cond (Nat.beq m 117) (3) (999))) (cond (Nat.ble 116 m) (cond (Nat.beq m 116) (1) (999)) (cond (Nat.beq m 115) (3) (999))))) (cond (Nat.ble 110 m) (cond (Nat.ble 112 m) (cond (Nat.ble 113 m) (cond (Nat.ble 114 m) (cond (Nat.beq m 114) (2) (999)) (cond (Nat.beq m 113) (0) (999))) (cond (Nat.beq m 112) (1) (999))) (cond (Nat.ble 111 m) (cond (Nat.beq m 111) (1) (999)) (cond (Nat.beq m 110) (1) (999)))) (cond (Nat.ble 108 m) (cond (Nat.ble 109 m) (cond (Nat.beq m 109) (1) (999)) (cond (Nat.beq m 108) (2) (999))) (cond (Nat.ble 107 m) (cond (Nat.beq m 107) (1) (999)) (cond (Nat.beq m 106) (5) (999))))))) (cond (Nat.ble 88 m) (cond (Nat.ble 97 m) (cond (Nat.ble 101 m) (cond (Nat.ble 103 m) (cond (Nat.ble 104 m) (cond (Nat.ble 105 m) (cond (Nat.beq m 105) (0) (999)) (cond (Nat.beq m 104) (2) (999))) (cond (Nat.beq m 103) (2) (999))) (cond (Nat.ble 102 m) (cond (Nat.beq m 102) (1) (999)) (cond (Nat.beq m 101) (2) (999)))) (cond (Nat.ble 99 m) (cond (Nat.ble 100 m) (cond (Nat.beq m 100) (2) (999)) (cond (Nat.beq m 99) (5) (999))) (cond (Nat.ble 98 m) (cond (Nat.beq m 98) (1) (999)) (cond (Nat.beq m 97) (0) (999))))) (cond (Nat.ble 92 m) (cond (Nat.ble 94 m) (cond (Nat.ble 95 m) (cond (Nat.ble 96 m) (cond (Nat.beq m 96) (1) (999)) (cond (Nat.beq m 95) (3) (999))) (cond (Nat.beq m 94) (1) (999))) (cond (Nat.ble 93 m) (cond (Nat.beq m 93) (2) (999)) (cond (Nat.beq m 92) (0) (999)))) (cond (Nat.ble 90 m) (cond (Nat.ble 91 m) (cond (Nat.beq m 91) (4) (999)) (cond (Nat.beq m 90) (1) (999))) (cond (Nat.ble 89 m) (cond (Nat.beq m 89) (1) (999)) (cond (Nat.beq m 88) (5) (999)))))) (cond (Nat.ble 79 m) (cond (Nat.ble 83 m) (cond (Nat.ble 85 m) (cond (Nat.ble 86 m) (cond (Nat.ble 87 m) (cond (Nat.beq m 87) (4) (999)) (cond (Nat.beq m 86) (0) (999))) (cond (Nat.beq m 85) (2) (999))) (cond (Nat.ble 84 m) (cond (Nat.beq m 84) (0) (999)) (cond (Nat.beq m 83) (0) (999)))) (cond (Nat.ble 81 m) (cond (Nat.ble 82 m) (cond (Nat.beq m 82) (0) (999)) (cond (Nat.beq m 81) (1) (999))) (cond (Nat.ble 80 m) (cond (Nat.beq m 80) (0) (999)) (cond (Nat.beq m 79) (0) (999))))) (cond (Nat.ble 75 m) (cond (Nat.ble 77 m) (cond (Nat.ble 78 m) (cond (Nat.beq m 78) (1) (999)) (cond (Nat.beq m 77) (1) (999))) (cond (Nat.ble 76 m) (cond (Nat.beq m 76) (0) (999)) (cond (Nat.beq m 75) (0) (999)))) (cond (Nat.ble 73 m) (cond (Nat.ble 74 m) (cond (Nat.beq m 74) (2) (999)) (cond (Nat.beq m 73) (2) (999))) (cond (Nat.ble 72 m) (cond (Nat.beq m 72) (3) (999)) (cond (Nat.beq m 71) (1) (999)))))))) (cond (Nat.ble 36 m) (cond (Nat.ble 53 m) (cond (Nat.ble 62 m) (cond (Nat.ble 66 m) (cond (Nat.ble 68 m) (cond (Nat.ble 69 m) (cond (Nat.ble 70 m) (cond (Nat.beq m 70) (3) (999)) (cond (Nat.beq m 69) (3) (999))) (cond (Nat.beq m 68) (1) (999))) (cond (Nat.ble 67 m) (cond (Nat.beq m 67) (1) (999)) (cond (Nat.beq m 66) (1) (999)))) (cond (Nat.ble 64 m) (cond (Nat.ble 65 m) (cond (Nat.beq m 65) (1) (999)) (cond (Nat.beq m 64) (2) (999))) (cond (Nat.ble 63 m) (cond (Nat.beq m 63) (1) (999)) (cond (Nat.beq m 62) (2) (999))))) (cond (Nat.ble 57 m) (cond (Nat.ble 59 m) (cond (Nat.ble 60 m) (cond (Nat.ble 61 m) (cond (Nat.beq m 61) (3) (999)) (cond (Nat.beq m 60) (0) (999))) (cond (Nat.beq m 59) (0) (999))) (cond (Nat.ble 58 m) (cond (Nat.beq m 58) (0) (999)) (cond (Nat.beq m 57) (1) (999)))) (cond (Nat.ble 55 m) (cond (Nat.ble 56 m) (cond (Nat.beq m 56) (1) (999)) (cond (Nat.beq m 55) (0) (999))) (cond (Nat.ble 54 m) (cond (Nat.beq m 54) (0) (999)) (cond (Nat.beq m 53) (0) (999)))))) (cond (Nat.ble 44 m) (cond (Nat.ble 48 m) (cond (Nat.ble 50 m) (cond (Nat.ble 51 m) (cond (Nat.ble 52 m) (cond (Nat.beq m 52) (0) (999)) (cond (Nat.beq m 51) (2) (999))) (cond (Nat.beq m 50) (2) (999))) (cond (Nat.ble 49 m) (cond (Nat.beq m 49) (2) (999)) (cond (Nat.beq m 48) (1) (999)))) (cond (Nat.ble 46 m) (cond (Nat.ble 47 m) (cond (Nat.beq m 47) (1) (999)) (cond (Nat.beq m 46) (2) (999))) (cond (Nat.ble 45 m) (cond (Nat.beq m 45) (0) (999)) (cond (Nat.beq m 44) (1) (999))))) (cond (Nat.ble 40 m) (cond (Nat.ble 42 m) (cond (Nat.ble 43 m) (cond (Nat.beq m 43) (3) (999)) (cond (Nat.beq m 42) (0) (999))) (cond (Nat.ble 41 m) (cond (Nat.beq m 41) (2) (999)) (cond (Nat.beq m 40) (1) (999)))) (cond (Nat.ble 38 m) (cond (Nat.ble 39 m) (cond (Nat.beq m 39) (1) (999)) (cond (Nat.beq m 38) (0) (999))) (cond (Nat.ble 37 m) (cond (Nat.beq m 37) (1) (999)) (cond (Nat.beq m 36) (1) (999))))))) (cond (Nat.ble 18 m) (cond (Nat.ble 27 m) (cond (Nat.ble 31 m) (cond (Nat.ble 33 m) (cond (Nat.ble 34 m) (cond (Nat.ble 35 m) (cond (Nat.beq m 35) (0) (999)) (cond (Nat.beq m 34) (3) (999))) (cond (Nat.beq m 33) (2) (999))) (cond (Nat.ble 32 m) (cond (Nat.beq m 32) (4) (999)) (cond (Nat.beq m 31) (0) (999)))) (cond (Nat.ble 29 m) (cond (Nat.ble 30 m) (cond (Nat.beq m 30) (1) (999)) (cond (Nat.beq m 29) (1) (999))) (cond (Nat.ble 28 m) (cond (Nat.beq m 28) (1) (999)) (cond (Nat.beq m 27) (1) (999))))) (cond (Nat.ble 22 m) (cond (Nat.ble 24 m) (cond (Nat.ble 25 m) (cond (Nat.ble 26 m) (cond (Nat.beq m 26) (1) (999)) (cond (Nat.beq m 25) (1) (999))) (cond (Nat.beq m 24) (2) (999))) (cond (Nat.ble 23 m) (cond (Nat.beq m 23) (2) (999)) (cond (Nat.beq m 22) (1) (999)))) (cond (Nat.ble 20 m) (cond (Nat.ble 21 m) (cond (Nat.beq m 21) (1) (999)) (cond (Nat.beq m 20) (1) (999))) (cond (Nat.ble 19 m) (cond (Nat.beq m 19) (0) (999)) (cond (Nat.beq m 18) (5) (999)))))) (cond (Nat.ble 9 m) (cond (Nat.ble 13 m) (cond (Nat.ble 15 m) (cond (Nat.ble 16 m) (cond (Nat.ble 17 m) (cond (Nat.beq m 17) (4) (999)) (cond (Nat.beq m 16) (2) (999))) (cond (Nat.beq m 15) (2) (999))) (cond (Nat.ble 14 m) (cond (Nat.beq m 14) (1) (999)) (cond (Nat.beq m 13) (3) (999)))) (cond (Nat.ble 11 m) (cond (Nat.ble 12 m) (cond (Nat.beq m 12) (2) (999)) (cond (Nat.beq m 11) (2) (999))) (cond (Nat.ble 10 m) (cond (Nat.beq m 10) (1) (999)) (cond (Nat.beq m 9) (1) (999))))) (cond (Nat.ble 5 m) (cond (Nat.ble 7 m) (cond (Nat.ble 8 m) (cond (Nat.beq m 8) (1) (999)) (cond (Nat.beq m 7) (0) (999))) (cond (Nat.ble 6 m) (cond (Nat.beq m 6) (0) (999)) (cond (Nat.beq m 5) (2) (999)))) (cond (Nat.ble 3 m) (cond (Nat.ble 4 m) (cond (Nat.beq m 4) (2) (999)) (cond (Nat.beq m 3) (1) (999))) (cond (Nat.ble 2 m) (cond (Nat.beq m 2) (1) (999)) (cond (Nat.beq m 1) (1) (999)))))))))
def sn_mol : List (Nat × Nat) := [(1, 1), (2, 1), (3, 1), (4, 2), (5, 2), (6, 0), (7, 0), (8, 1), (9, 1), (10, 1), (11, 2), (12, 2), (13, 3), (14, 1), (15, 2), (16, 2), (17, 4), (18, 5), (19, 0), (20, 1), (21, 1), (22, 1), (23, 2), (24, 2), (25, 1), (26, 1), (27, 1), (28, 1), (29, 1), (30, 1), (31, 0), (32, 4), (33, 2), (34, 3), (35, 0), (36, 1), (37, 1), (38, 0), (39, 1), (40, 1), (41, 2), (42, 0), (43, 3), (44, 1), (45, 0), (46, 2), (47, 1), (48, 1), (49, 2), (50, 2), (51, 2), (52, 0), (53, 0), (54, 0), (55, 0), (56, 1), (57, 1), (58, 0), (59, 0), (60, 0), (61, 3), (62, 2), (63, 1), (64, 2), (65, 1), (66, 1), (67, 1), (68, 1), (69, 3), (70, 3), (71, 1), (72, 3), (73, 2), (74, 2), (75, 0), (76, 0), (77, 1), (78, 1), (79, 0), (80, 0), (81, 1), (82, 0), (83, 0), (84, 0), (85, 2), (86, 0), (87, 4), (88, 5), (89, 1), (90, 1), (91, 4), (92, 0), (93, 2), (94, 1), (95, 3), (96, 1), (97, 0), (98, 1), (99, 5), (100, 2), (101, 2), (102, 1), (103, 2), (104, 2), (105, 0), (106, 5), (107, 1), (108, 2), (109, 1), (110, 1), (111, 1), (112, 1), (113, 0), (114, 2), (115, 3), (116, 1), (117, 3), (118, 2), (119, 2), (120, 2), (121, 3), (122, 2), (123, 5), (124, 4), (125, 4), (126, 1), (127, 4), (128, 1), (129, 1), (130, 1), (131, 0), (132, 4), (133, 4), (134, 1), (135, 5), (136, 4), (137, 2), (138, 3), (139, 2), (140, 4), (141, 3), (142, 2), (143, 3), (144, 2), (145, 2), (146, 1), (147, 2), (148, 1), (149, 3), (150, 4), (151, 3), (152, 3), (153, 4), (154, 4), (155, 1), (156, 5), (157, 3), (158, 2), (159, 3), (160, 1), (161, 1), (162, 2), (163, 3), (164, 0), (165, 3), (166, 2), (167, 2), (168, 2), (169, 1), (170, 4), (171, 2), (172, 2), (173, 5), (174, 1), (175, 1), (176, 0), (177, 0), (178, 0), (179, 2), (180, 3), (181, 2), (182, 1), (183, 2), (184, 2), (185, 2), (186, 1), (187, 2), (188, 3), (189, 1), (190, 1), (191, 3), (192, 2), (193, 2), (194, 1), (195, 1), (196, 1), (197, 1), (198, 0), (199, 2), (200, 1), (201, 0), (202, 2), (203, 0), (204, 2), (205, 3), (206, 1), (207, 0), (208, 3), (209, 1), (210, 2), (211, 0), (212, 0), (213, 2), (214, 3), (215, 2), (216, 5), (217, 2), (218, 0), (219, 1), (220, 5), (221, 1), (222, 4), (223, 3), (224, 2), (225, 1), (226, 1), (227, 2), (228, 2), (229, 1), (230, 1), (231, 2), (232, 1), (233, 2), (234, 3), (235, 3), (236, 1), (237, 2), (238, 2), (239, 3), (240, 2), (241, 4), (242, 2), (243, 0), (244, 1), (245, 3), (246, 0), (247, 3), (248, 1), (249, 0), (250, 1), (251, 4), (252, 1), (253, 4), (254, 0), (255, 0), (256, 1), (257, 1), (258, 4), (259, 2), (260, 4), (261, 2), (262, 0), (263, 4), (264, 4), (265, 4), (266, 3), (267, 2), (268, 0), (269, 0), (270, 2), (271, 2), (272, 2), (273, 0), (274, 2), (275, 2), (276, 2), (277, 3), (278, 1), (279, 4), (280, 5), (281, 1), (282, 1), (283, 1)]
def sn_ls : List (Nat × Nat × Nat) := [(0, 53, 2), (12, 15, 17), (12, 21, 15), (12, 32, 18), (12, 36, 4), (12, 45, 5), (1, 35, 104), (1, 48, 1), (1, 54, 4), (1, 68, 103), (4, 100, 5), (4, 120, 1), (4, 128, 4), (5, 89, 5), (5, 128, 71), (6, 35, 4), (6, 45, 1), (7, 37, 88), (7, 56, 5), (8, 79, 4), (9, 32, 99), (9, 44, 101), (9, 48, 102), (9, 52, 1), (10, 167, 1), (10, 217, 126), (10, 280, 161), (10, 294, 162), (10, 329, 102), (10, 332, 4), (10, 342, 159), (10, 346, 158), (10, 350, 157), (10, 364, 160), (10, 378, 16), (10, 383, 15), (10, 433, 3), (10, 437, 163), (11, 113, 166), (11, 117, 170), (11, 121, 165), (11, 197, 167), (11, 296, 168), (11, 306, 169), (11, 373, 233), (11, 379, 232), (11, 382, 234), (11, 386, 236), (11, 401, 240)]
def sn_lsn : List (Nat × Nat × Nat) := [(4, 72, 161)]
def sn_lvt : List (Nat × Nat × Nat) := [(0, 24, 7), (0, 49, 11), (0, 59, 13), (1, 44, 21), (1, 60, 29), (1, 65, 30), (2, 24, 13), (2, 28, 33), (2, 32, 34), (4, 76, 81), (4, 81, 42), (4, 87, 43), (4, 109, 47), (4, 113, 45), (4, 116, 46), (4, 125, 57), (4, 131, 58), (5, 62, 62), (5, 66, 65), (5, 70, 68), (5, 73, 69), (5, 77, 63), (5, 81, 79), (5, 85, 64), (5, 95, 7), (5, 102, 66), (5, 106, 67), (5, 109, 70), (5, 113, 73), (5, 119, 74), (5, 122, 75), (5, 132, 72), (5, 179, 8), (5, 183, 77), (5, 186, 36), (6, 31, 80), (6, 41, 81), (7, 46, 89), (7, 62, 90), (7, 66, 91), (7, 81, 43), (7, 85, 49), (8, 59, 9), (8, 67, 78), (8, 76, 37), (9, 27, 45), (9, 36, 100), (9, 40, 46), (10, 72, 94), (10, 85, 93), (10, 93, 61), (10, 99, 95), (10, 103, 113), (10, 106, 96), (10, 118, 10), (10, 157, 84), (10, 161, 83), (10, 164, 81), (10, 172, 80), (10, 175, 82), (10, 178, 120), (10, 181, 39), (10, 185, 40), (10, 189, 121), (10, 193, 122), (10, 197, 48), (10, 200, 51), (10, 205, 52), (10, 208, 53), (10, 211, 54), (10, 224, 55), (10, 230, 56), (10, 236, 58), (10, 239, 59), (10, 242, 128), (10, 245, 129), (10, 248, 130), (10, 251, 131), (10, 257, 49), (10, 266, 44), (10, 275, 134), (10, 284, 50), (10, 298, 87), (10, 308, 85), (10, 312, 41), (10, 317, 98), (10, 321, 137), (10, 360, 32), (10, 371, 146), (10, 375, 14), (10, 393, 12), (10, 397, 152), (10, 400, 20), (10, 404, 22), (10, 407, 25), (10, 410, 28), (10, 413, 24), (10, 417, 26), (10, 420, 27), (10, 423, 155), (10, 426, 21), (10, 430, 23), (11, 125, 174), (11, 135, 176), (11, 161, 178), (11, 165, 179), (11, 173, 177), (11, 176, 181), (11, 179, 180), (11, 184, 182), (11, 201, 184), (11, 210, 183), (11, 214, 185), (11, 217, 186), (11, 221, 187), (11, 224, 188), (11, 228, 189), (11, 231, 191), (11, 235, 172), (11, 238, 190), (11, 241, 192), (11, 247, 195), (11, 254, 207), (11, 260, 199), (11, 263, 201), (11, 266, 198), (11, 269, 202), (11, 272, 196), (11, 275, 200), (11, 299, 208), (11, 303, 209), (11, 309, 203), (11, 315, 214), (11, 318, 210), (11, 321, 213), (11, 325, 219), (11, 328, 217), (11, 331, 218), (11, 334, 212), (11, 337, 197), (11, 340, 221), (11, 343, 215), (11, 346, 211), (11, 355, 225), (11, 358, 226), (11, 361, 227), (11, 364, 228), (11, 367, 230), (11, 370, 229), (11, 392, 237), (11, 395, 238), (11, 408, 244), (11, 411, 243), (11, 414, 242), (11, 429, 246), (11, 432, 248), (11, 435, 247), (11, 438, 250), (11, 441, 249), (11, 448, 252), (11, 451, 254), (11, 454, 255), (11, 457, 256), (11, 460, 257), (11, 464, 259), (11, 467, 261), (11, 470, 262), (11, 475, 267), (11, 478, 268), (11, 481, 269), (11, 484, 273), (11, 487, 276), (11, 490, 171), (13, 13, 106), (13, 17, 173), (13, 18, 107), (13, 22, 175), (13, 23, 108), (13, 27, 193), (13, 28, 109), (13, 31, 194), (13, 32, 114), (13, 35, 204), (13, 36, 115), (13, 40, 205), (13, 41, 116), (13, 44, 206), (13, 45, 123), (13, 48, 216), (13, 49, 135), (13, 52, 220), (13, 53, 136), (13, 57, 222), (13, 58, 138), (13, 62, 223), (13, 63, 139), (13, 67, 224), (13, 68, 142), (13, 71, 231), (13, 72, 143), (13, 76, 235), (13, 77, 149), (13, 80, 239), (13, 81, 150), (13, 85, 241), (13, 86, 117), (13, 89, 245), (13, 90, 153), (13, 94, 251), (13, 95, 124), (13, 98, 253), (13, 99, 125), (13, 102, 258), (13, 103, 127), (13, 106, 260), (13, 107, 133), (13, 110, 263), (13, 111, 132), (13, 114, 264), (13, 115, 140), (13, 118, 265), (13, 119, 141), (13, 122, 266), (13, 123, 118), (13, 126, 270), (13, 127, 119), (13, 130, 271), (13, 131, 144), (13, 134, 272), (13, 135, 145), (13, 138, 274), (13, 139, 147), (13, 142, 275), (13, 143, 151), (13, 146, 277), (13, 147, 148), (13, 150, 278), (13, 151, 154), (13, 154, 279), (13, 155, 156), (13, 159, 280), (13, 160, 110), (13, 163, 281), (13, 164, 111), (13, 168, 282), (13, 169, 112), (13, 172, 283)]
def sn_lsp : List (Nat × Nat × Nat) := [(5, 11, 6), (8, 50, 6), (10, 11, 92), (13, 9, 105), (13, 12, 164)]
def sn_lspn : List (Nat × Nat × Nat) := [(5, 20, 76), (5, 27, 35), (8, 51, 76), (8, 52, 35), (10, 22, 60), (10, 29, 38), (10, 36, 86), (10, 43, 31), (10, 50, 19), (10, 316, 97)]
def sn_lsk (q : Nat × Nat × Nat) : Prop := Cond.methodLink (sn_ow q.1) q.2.1 (sn_y q.2.2) ∈ sn_GT ∧ Cond.static (sn_y q.2.2) ∈ sn_GT
def sn_lvk (q : Nat × Nat × Nat) : Prop := Cond.methodLink (sn_ow q.1) q.2.1 (sn_y q.2.2) ∈ sn_GT ∧ Cond.instanceMethod (sn_y q.2.2) ∈ sn_GT ∧ Cond.selects (sn_y q.2.2).cls (sn_y q.2.2) (sn_y q.2.2) ∈ sn_GT
def sn_lpk (q : Nat × Nat × Nat) : Prop := Cond.methodLink (sn_ow q.1) q.2.1 (sn_y q.2.2) ∈ sn_GT ∧ Cond.instanceMethod (sn_y q.2.2) ∈ sn_GT ∧ (sn_y q.2.2).name = "<init>" ∧ sn_rt q.2.2 = none
def sn_lpnk (q : Nat × Nat × Nat) : Prop := Cond.methodLinkNest (sn_ow q.1) q.2.1 (sn_y q.2.2) RX11 ∈ sn_nest ∧ Cond.instanceMethod (sn_y q.2.2) ∈ sn_GT ∧ (sn_y q.2.2).name = "<init>" ∧ sn_rt q.2.2 = none
def sn_lsnk (q : Nat × Nat × Nat) : Prop := Cond.methodLinkNest (sn_ow q.1) q.2.1 (sn_y q.2.2) RX11 ∈ sn_nest ∧ Cond.static (sn_y q.2.2) ∈ sn_GT
def sn_ci : List (Nat × Nat × Int32) := [(14, 265, 1431655765), (14, 266, 858993459), (14, 267, 252645135), (10, 204, 1103515245), (10, 278, 1000000), (1, 64, 1000000), (11, 324, 1000000), (11, 447, 1103515245)]
def sn_cl : List (Nat × Nat × Int64) := [(10, 337, -1), (10, 358, 4096), (11, 182, 1885958245), (11, 188, 27696064067762035), (11, 190, 8319400191629685864), (11, 192, 1852798053), (11, 204, 500135453028), (11, 206, 1919251316), (11, 208, 448377483876), (11, 377, -1), (11, 399, 10), (11, 473, 4096)]
def sn_gs : List (Nat × Nat × Nat) := [(5, 116, 1), (5, 125, 0), (5, 159, 2), (5, 162, 3), (5, 165, 4)]
def sn_kl : List (Nat × Nat × Nat) := [(5, 9, 0), (5, 18, 6), (5, 25, 3), (8, 29, 0), (8, 35, 6), (8, 44, 3), (10, 9, 8), (10, 20, 5), (10, 27, 4), (10, 34, 7), (10, 41, 2), (10, 48, 1), (10, 55, 9), (13, 7, 10), (13, 10, 11)]
def sn_klk (q : Nat × Nat × Nat) : Prop := Cond.classLink (sn_ow q.1) q.2.1 (sn_ow q.2.2) ∈ sn_GT
def sn_x1007 : List (Nat × Nat) := [(0, 43), (3, 22), (4, 66), (6, 25), (7, 70), (8, 85), (10, 287)]
def sn_x1008 : List (Nat × Nat) := [(0, 3), (1, 3), (2, 3), (3, 3), (4, 3), (5, 3), (6, 3), (7, 3), (8, 3), (9, 3), (10, 3), (11, 1)]
def sn_x1005 : List (Nat × Nat) := [(5, 150)]
def sn_x1006 : List (Nat × Nat) := [(5, 155)]
theorem sn_lay_0_0 : u_lay RX0 TX0 0 ∈ sn_GT := sn_GT_of (i := 192) (by decide +kernel) rfl
theorem sn_lay_0_1 : u_lay RX0 TX0 1 ∈ sn_GT := sn_GT_of (i := 194) (by decide +kernel) rfl
theorem sn_lay_0_2 : u_lay RX0 TX0 2 ∈ sn_GT := sn_GT_of (i := 196) (by decide +kernel) rfl
theorem sn_lay_0_3 : u_lay RX0 TX0 3 ∈ sn_GT := sn_GT_of (i := 198) (by decide +kernel) rfl
theorem sn_lay_0_4 : u_lay RX0 TX0 4 ∈ sn_GT := sn_GT_of (i := 200) (by decide +kernel) rfl
theorem sn_lay_0_5 : u_lay RX0 TX0 5 ∈ sn_GT := sn_GT_of (i := 202) (by decide +kernel) rfl
theorem sn_lay_0_6 : u_lay RX0 TX0 6 ∈ sn_GT := sn_GT_of (i := 204) (by decide +kernel) rfl
theorem sn_lay_0_7 : u_lay RX0 TX0 7 ∈ sn_GT := sn_GT_of (i := 206) (by decide +kernel) rfl
theorem sn_lay_0_8 : u_lay RX0 TX0 8 ∈ sn_GT := sn_GT_of (i := 208) (by decide +kernel) rfl
theorem sn_lay_1_0 : u_lay RX2 TX2 0 ∈ sn_GT := sn_GT_of (i := 481) (by decide +kernel) rfl
theorem sn_lay_1_1 : u_lay RX2 TX2 1 ∈ sn_GT := sn_GT_of (i := 483) (by decide +kernel) rfl
theorem sn_lay_1_2 : u_lay RX2 TX2 2 ∈ sn_GT := sn_GT_of (i := 485) (by decide +kernel) rfl
theorem sn_lay_1_3 : u_lay RX2 TX2 3 ∈ sn_GT := sn_GT_of (i := 487) (by decide +kernel) rfl
theorem sn_lay_2_0 : u_lay RX3 TX3 0 ∈ sn_GT := sn_GT_of (i := 466) (by decide +kernel) rfl
theorem sn_lay_2_1 : u_lay RX3 TX3 1 ∈ sn_GT := sn_GT_of (i := 468) (by decide +kernel) rfl
theorem sn_lay_3_0 : u_lay RX4 TX4 0 ∈ sn_GT := sn_GT_of (i := 258) (by decide +kernel) rfl
theorem sn_lay_3_1 : u_lay RX4 TX4 1 ∈ sn_GT := sn_GT_of (i := 260) (by decide +kernel) rfl
theorem sn_lay_3_2 : u_lay RX4 TX4 2 ∈ sn_GT := sn_GT_of (i := 262) (by decide +kernel) rfl
theorem sn_lay_4_0 : u_lay RX5 TX5 0 ∈ sn_GT := sn_GT_of (i := 392) (by decide +kernel) rfl
theorem sn_lay_4_1 : u_lay RX5 TX5 1 ∈ sn_GT := sn_GT_of (i := 394) (by decide +kernel) rfl
theorem sn_lay_4_2 : u_lay RX5 TX5 2 ∈ sn_GT := sn_GT_of (i := 396) (by decide +kernel) rfl
theorem sn_lay_4_3 : u_lay RX5 TX5 3 ∈ sn_GT := sn_GT_of (i := 398) (by decide +kernel) rfl
theorem sn_lay_4_4 : u_lay RX5 TX5 4 ∈ sn_GT := sn_GT_of (i := 400) (by decide +kernel) rfl
theorem sn_lay_4_5 : u_lay RX5 TX5 5 ∈ sn_GT := sn_GT_of (i := 402) (by decide +kernel) rfl
theorem sn_lay_4_6 : u_lay RX5 TX5 6 ∈ sn_GT := sn_GT_of (i := 404) (by decide +kernel) rfl
theorem sn_lay_4_7 : u_lay RX5 TX5 7 ∈ sn_GT := sn_GT_of (i := 406) (by decide +kernel) rfl
theorem sn_lay_4_8 : u_lay RX5 TX5 8 ∈ sn_GT := sn_GT_of (i := 408) (by decide +kernel) rfl
theorem sn_lay_4_9 : u_lay RX5 TX5 9 ∈ sn_GT := sn_GT_of (i := 410) (by decide +kernel) rfl
theorem sn_lay_4_10 : u_lay RX5 TX5 10 ∈ sn_GT := sn_GT_of (i := 412) (by decide +kernel) rfl
theorem sn_lay_4_11 : u_lay RX5 TX5 11 ∈ sn_GT := sn_GT_of (i := 414) (by decide +kernel) rfl
theorem sn_lay_4_12 : u_lay RX5 TX5 12 ∈ sn_GT := sn_GT_of (i := 416) (by decide +kernel) rfl
theorem sn_lay_4_13 : u_lay RX5 TX5 13 ∈ sn_GT := sn_GT_of (i := 418) (by decide +kernel) rfl
theorem sn_lay_4_14 : u_lay RX5 TX5 14 ∈ sn_GT := sn_GT_of (i := 420) (by decide +kernel) rfl
theorem sn_lay_4_15 : u_lay RX5 TX5 15 ∈ sn_GT := sn_GT_of (i := 422) (by decide +kernel) rfl
theorem sn_lay_5_0 : u_lay RX6 TX6 0 ∈ sn_GT := sn_GT_of (i := 333) (by decide +kernel) rfl
theorem sn_lay_5_1 : u_lay RX6 TX6 1 ∈ sn_GT := sn_GT_of (i := 335) (by decide +kernel) rfl
theorem sn_lay_5_2 : u_lay RX6 TX6 2 ∈ sn_GT := sn_GT_of (i := 337) (by decide +kernel) rfl
theorem sn_lay_5_3 : u_lay RX6 TX6 3 ∈ sn_GT := sn_GT_of (i := 339) (by decide +kernel) rfl
theorem sn_lay_5_4 : u_lay RX6 TX6 4 ∈ sn_GT := sn_GT_of (i := 341) (by decide +kernel) rfl
theorem sn_lay_5_5 : u_lay RX6 TX6 5 ∈ sn_GT := sn_GT_of (i := 343) (by decide +kernel) rfl
theorem sn_lay_5_6 : u_lay RX6 TX6 6 ∈ sn_GT := sn_GT_of (i := 345) (by decide +kernel) rfl
theorem sn_lay_5_7 : u_lay RX6 TX6 7 ∈ sn_GT := sn_GT_of (i := 347) (by decide +kernel) rfl
theorem sn_lay_5_8 : u_lay RX6 TX6 8 ∈ sn_GT := sn_GT_of (i := 349) (by decide +kernel) rfl
theorem sn_lay_5_9 : u_lay RX6 TX6 9 ∈ sn_GT := sn_GT_of (i := 351) (by decide +kernel) rfl
theorem sn_lay_5_10 : u_lay RX6 TX6 10 ∈ sn_GT := sn_GT_of (i := 353) (by decide +kernel) rfl
theorem sn_lay_5_11 : u_lay RX6 TX6 11 ∈ sn_GT := sn_GT_of (i := 355) (by decide +kernel) rfl
theorem sn_lay_6_0 : u_lay RX7 TX7 0 ∈ sn_GT := sn_GT_of (i := 234) (by decide +kernel) rfl
theorem sn_lay_6_1 : u_lay RX7 TX7 1 ∈ sn_GT := sn_GT_of (i := 236) (by decide +kernel) rfl
theorem sn_lay_6_2 : u_lay RX7 TX7 2 ∈ sn_GT := sn_GT_of (i := 238) (by decide +kernel) rfl
theorem sn_lay_6_3 : u_lay RX7 TX7 3 ∈ sn_GT := sn_GT_of (i := 240) (by decide +kernel) rfl
theorem sn_lay_7_0 : u_lay RX8 TX8 0 ∈ sn_GT := sn_GT_of (i := 442) (by decide +kernel) rfl
theorem sn_lay_7_1 : u_lay RX8 TX8 1 ∈ sn_GT := sn_GT_of (i := 444) (by decide +kernel) rfl
theorem sn_lay_7_2 : u_lay RX8 TX8 2 ∈ sn_GT := sn_GT_of (i := 446) (by decide +kernel) rfl
theorem sn_lay_7_3 : u_lay RX8 TX8 3 ∈ sn_GT := sn_GT_of (i := 448) (by decide +kernel) rfl
theorem sn_lay_7_4 : u_lay RX8 TX8 4 ∈ sn_GT := sn_GT_of (i := 450) (by decide +kernel) rfl
theorem sn_lay_7_5 : u_lay RX8 TX8 5 ∈ sn_GT := sn_GT_of (i := 452) (by decide +kernel) rfl
theorem sn_lay_7_6 : u_lay RX8 TX8 6 ∈ sn_GT := sn_GT_of (i := 454) (by decide +kernel) rfl
theorem sn_lay_8_0 : u_lay RX9 TX9 0 ∈ sn_GT := sn_GT_of (i := 283) (by decide +kernel) rfl
theorem sn_lay_8_1 : u_lay RX9 TX9 1 ∈ sn_GT := sn_GT_of (i := 285) (by decide +kernel) rfl
theorem sn_lay_8_2 : u_lay RX9 TX9 2 ∈ sn_GT := sn_GT_of (i := 287) (by decide +kernel) rfl
theorem sn_lay_8_3 : u_lay RX9 TX9 3 ∈ sn_GT := sn_GT_of (i := 289) (by decide +kernel) rfl
theorem sn_lay_8_4 : u_lay RX9 TX9 4 ∈ sn_GT := sn_GT_of (i := 291) (by decide +kernel) rfl
theorem sn_lay_8_5 : u_lay RX9 TX9 5 ∈ sn_GT := sn_GT_of (i := 293) (by decide +kernel) rfl
theorem sn_lay_8_6 : u_lay RX9 TX9 6 ∈ sn_GT := sn_GT_of (i := 295) (by decide +kernel) rfl
theorem sn_lay_8_7 : u_lay RX9 TX9 7 ∈ sn_GT := sn_GT_of (i := 297) (by decide +kernel) rfl
theorem sn_lay_8_8 : u_lay RX9 TX9 8 ∈ sn_GT := sn_GT_of (i := 299) (by decide +kernel) rfl
theorem sn_lay_9_0 : u_lay RX10 TX10 0 ∈ sn_GT := sn_GT_of (i := 1016) (by decide +kernel) rfl
theorem sn_lay_9_1 : u_lay RX10 TX10 1 ∈ sn_GT := sn_GT_of (i := 1018) (by decide +kernel) rfl
theorem sn_lay_9_2 : u_lay RX10 TX10 2 ∈ sn_GT := sn_GT_of (i := 1020) (by decide +kernel) rfl
theorem sn_lay_9_3 : u_lay RX10 TX10 3 ∈ sn_GT := sn_GT_of (i := 1022) (by decide +kernel) rfl
theorem sn_lay_10_0 : u_lay RX11 TX11 0 ∈ sn_GT := sn_GT_of (i := 502) (by decide +kernel) rfl
theorem sn_lay_10_1 : u_lay RX11 TX11 1 ∈ sn_GT := sn_GT_of (i := 504) (by decide +kernel) rfl
theorem sn_lay_10_2 : u_lay RX11 TX11 2 ∈ sn_GT := sn_GT_of (i := 506) (by decide +kernel) rfl
theorem sn_lay_10_3 : u_lay RX11 TX11 3 ∈ sn_GT := sn_GT_of (i := 508) (by decide +kernel) rfl
theorem sn_lay_10_4 : u_lay RX11 TX11 4 ∈ sn_GT := sn_GT_of (i := 510) (by decide +kernel) rfl
theorem sn_lay_10_5 : u_lay RX11 TX11 5 ∈ sn_GT := sn_GT_of (i := 512) (by decide +kernel) rfl
theorem sn_lay_10_6 : u_lay RX11 TX11 6 ∈ sn_GT := sn_GT_of (i := 514) (by decide +kernel) rfl
theorem sn_lay_10_7 : u_lay RX11 TX11 7 ∈ sn_GT := sn_GT_of (i := 516) (by decide +kernel) rfl
theorem sn_lay_10_8 : u_lay RX11 TX11 8 ∈ sn_GT := sn_GT_of (i := 518) (by decide +kernel) rfl
theorem sn_lay_10_9 : u_lay RX11 TX11 9 ∈ sn_GT := sn_GT_of (i := 520) (by decide +kernel) rfl
theorem sn_lay_11_0 : u_lay RX12 TX12 0 ∈ sn_GT := sn_GT_of (i := 1303) (by decide +kernel) rfl
theorem sn_lay_11_1 : u_lay RX12 TX12 1 ∈ sn_GT := sn_GT_of (i := 1305) (by decide +kernel) rfl
theorem sn_lay_11_2 : u_lay RX12 TX12 2 ∈ sn_GT := sn_GT_of (i := 1307) (by decide +kernel) rfl
theorem sn_lay_11_3 : u_lay RX12 TX12 3 ∈ sn_GT := sn_GT_of (i := 1309) (by decide +kernel) rfl
theorem sn_lay_11_4 : u_lay RX12 TX12 4 ∈ sn_GT := sn_GT_of (i := 1311) (by decide +kernel) rfl
theorem sn_lay_11_5 : u_lay RX12 TX12 5 ∈ sn_GT := sn_GT_of (i := 1313) (by decide +kernel) rfl
theorem sn_lay_11_6 : u_lay RX12 TX12 6 ∈ sn_GT := sn_GT_of (i := 1315) (by decide +kernel) rfl
theorem sn_lay_11_7 : u_lay RX12 TX12 7 ∈ sn_GT := sn_GT_of (i := 1317) (by decide +kernel) rfl
theorem sn_lay_11_8 : u_lay RX12 TX12 8 ∈ sn_GT := sn_GT_of (i := 1319) (by decide +kernel) rfl
theorem sn_lay_11_9 : u_lay RX12 TX12 9 ∈ sn_GT := sn_GT_of (i := 1321) (by decide +kernel) rfl
theorem sn_lay_11_10 : u_lay RX12 TX12 10 ∈ sn_GT := sn_GT_of (i := 1323) (by decide +kernel) rfl
theorem sn_lay_11_11 : u_lay RX12 TX12 11 ∈ sn_GT := sn_GT_of (i := 1325) (by decide +kernel) rfl
theorem sn_lay_11_12 : u_lay RX12 TX12 12 ∈ sn_GT := sn_GT_of (i := 1327) (by decide +kernel) rfl
theorem sn_lay_11_13 : u_lay RX12 TX12 13 ∈ sn_GT := sn_GT_of (i := 1329) (by decide +kernel) rfl
theorem sn_lay_11_14 : u_lay RX12 TX12 14 ∈ sn_GT := sn_GT_of (i := 1331) (by decide +kernel) rfl
theorem sn_lay_11_15 : u_lay RX12 TX12 15 ∈ sn_GT := sn_GT_of (i := 1333) (by decide +kernel) rfl
theorem sn_lay_11_16 : u_lay RX12 TX12 16 ∈ sn_GT := sn_GT_of (i := 1335) (by decide +kernel) rfl
theorem sn_lay_11_17 : u_lay RX12 TX12 17 ∈ sn_GT := sn_GT_of (i := 1337) (by decide +kernel) rfl
theorem sn_lay_11_18 : u_lay RX12 TX12 18 ∈ sn_GT := sn_GT_of (i := 1339) (by decide +kernel) rfl
theorem sn_lay_11_19 : u_lay RX12 TX12 19 ∈ sn_GT := sn_GT_of (i := 1341) (by decide +kernel) rfl
theorem sn_lay_11_20 : u_lay RX12 TX12 20 ∈ sn_GT := sn_GT_of (i := 1343) (by decide +kernel) rfl
theorem sn_lay_11_21 : u_lay RX12 TX12 21 ∈ sn_GT := sn_GT_of (i := 1345) (by decide +kernel) rfl
theorem sn_lay_11_22 : u_lay RX12 TX12 22 ∈ sn_GT := sn_GT_of (i := 1347) (by decide +kernel) rfl
theorem sn_lay_11_23 : u_lay RX12 TX12 23 ∈ sn_GT := sn_GT_of (i := 1349) (by decide +kernel) rfl
theorem sn_lay_11_24 : u_lay RX12 TX12 24 ∈ sn_GT := sn_GT_of (i := 1351) (by decide +kernel) rfl
theorem sn_lay_11_25 : u_lay RX12 TX12 25 ∈ sn_GT := sn_GT_of (i := 1353) (by decide +kernel) rfl
theorem sn_lay_11_26 : u_lay RX12 TX12 26 ∈ sn_GT := sn_GT_of (i := 1355) (by decide +kernel) rfl
theorem sn_lay_11_27 : u_lay RX12 TX12 27 ∈ sn_GT := sn_GT_of (i := 1357) (by decide +kernel) rfl
theorem sn_lay_11_28 : u_lay RX12 TX12 28 ∈ sn_GT := sn_GT_of (i := 1359) (by decide +kernel) rfl
theorem sn_lay_11_29 : u_lay RX12 TX12 29 ∈ sn_GT := sn_GT_of (i := 1361) (by decide +kernel) rfl
theorem sn_lay_11_30 : u_lay RX12 TX12 30 ∈ sn_GT := sn_GT_of (i := 1363) (by decide +kernel) rfl
theorem sn_lay_11_31 : u_lay RX12 TX12 31 ∈ sn_GT := sn_GT_of (i := 1365) (by decide +kernel) rfl
theorem sn_lay_11_32 : u_lay RX12 TX12 32 ∈ sn_GT := sn_GT_of (i := 1367) (by decide +kernel) rfl
theorem sn_lay_11_33 : u_lay RX12 TX12 33 ∈ sn_GT := sn_GT_of (i := 1369) (by decide +kernel) rfl
theorem sn_lay_11_34 : u_lay RX12 TX12 34 ∈ sn_GT := sn_GT_of (i := 1371) (by decide +kernel) rfl
theorem sn_lay_11_35 : u_lay RX12 TX12 35 ∈ sn_GT := sn_GT_of (i := 1373) (by decide +kernel) rfl
theorem sn_lay_11_36 : u_lay RX12 TX12 36 ∈ sn_GT := sn_GT_of (i := 1375) (by decide +kernel) rfl
theorem sn_lay_11_37 : u_lay RX12 TX12 37 ∈ sn_GT := sn_GT_of (i := 1377) (by decide +kernel) rfl
theorem sn_lay_11_38 : u_lay RX12 TX12 38 ∈ sn_GT := sn_GT_of (i := 1379) (by decide +kernel) rfl
theorem sn_lay_11_39 : u_lay RX12 TX12 39 ∈ sn_GT := sn_GT_of (i := 1381) (by decide +kernel) rfl
theorem sn_lay_11_40 : u_lay RX12 TX12 40 ∈ sn_GT := sn_GT_of (i := 1383) (by decide +kernel) rfl
theorem sn_lay_11_41 : u_lay RX12 TX12 41 ∈ sn_GT := sn_GT_of (i := 1385) (by decide +kernel) rfl
theorem sn_lay_11_42 : u_lay RX12 TX12 42 ∈ sn_GT := sn_GT_of (i := 1387) (by decide +kernel) rfl
theorem sn_lay_11_43 : u_lay RX12 TX12 43 ∈ sn_GT := sn_GT_of (i := 1389) (by decide +kernel) rfl
theorem sn_lay_11_44 : u_lay RX12 TX12 44 ∈ sn_GT := sn_GT_of (i := 1391) (by decide +kernel) rfl
theorem sn_lay_11_45 : u_lay RX12 TX12 45 ∈ sn_GT := sn_GT_of (i := 1393) (by decide +kernel) rfl
theorem sn_lay_11_46 : u_lay RX12 TX12 46 ∈ sn_GT := sn_GT_of (i := 1395) (by decide +kernel) rfl
theorem sn_lay_11_47 : u_lay RX12 TX12 47 ∈ sn_GT := sn_GT_of (i := 1397) (by decide +kernel) rfl
theorem sn_lay_11_48 : u_lay RX12 TX12 48 ∈ sn_GT := sn_GT_of (i := 1399) (by decide +kernel) rfl
theorem sn_lay_11_49 : u_lay RX12 TX12 49 ∈ sn_GT := sn_GT_of (i := 1401) (by decide +kernel) rfl
theorem sn_lay_11_50 : u_lay RX12 TX12 50 ∈ sn_GT := sn_GT_of (i := 1403) (by decide +kernel) rfl
theorem sn_lay_11_51 : u_lay RX12 TX12 51 ∈ sn_GT := sn_GT_of (i := 1405) (by decide +kernel) rfl
theorem sn_lay_11_52 : u_lay RX12 TX12 52 ∈ sn_GT := sn_GT_of (i := 1407) (by decide +kernel) rfl
theorem sn_lay_11_53 : u_lay RX12 TX12 53 ∈ sn_GT := sn_GT_of (i := 1409) (by decide +kernel) rfl
theorem sn_lay_11_54 : u_lay RX12 TX12 54 ∈ sn_GT := sn_GT_of (i := 1411) (by decide +kernel) rfl
theorem sn_lay_11_55 : u_lay RX12 TX12 55 ∈ sn_GT := sn_GT_of (i := 1413) (by decide +kernel) rfl
theorem sn_lay_11_56 : u_lay RX12 TX12 56 ∈ sn_GT := sn_GT_of (i := 1415) (by decide +kernel) rfl
theorem sn_lay_11_57 : u_lay RX12 TX12 57 ∈ sn_GT := sn_GT_of (i := 1417) (by decide +kernel) rfl
theorem sn_lay_11_58 : u_lay RX12 TX12 58 ∈ sn_GT := sn_GT_of (i := 1419) (by decide +kernel) rfl
theorem sn_lay_11_59 : u_lay RX12 TX12 59 ∈ sn_GT := sn_GT_of (i := 1421) (by decide +kernel) rfl
theorem sn_lay_11_60 : u_lay RX12 TX12 60 ∈ sn_GT := sn_GT_of (i := 1423) (by decide +kernel) rfl
theorem sn_lay_11_61 : u_lay RX12 TX12 61 ∈ sn_GT := sn_GT_of (i := 1425) (by decide +kernel) rfl
theorem sn_lay_11_62 : u_lay RX12 TX12 62 ∈ sn_GT := sn_GT_of (i := 1427) (by decide +kernel) rfl
theorem sn_fl_0 : sn_fk (0, 9, 0, 5) := fun C T N h => by
  cases h
  exact ⟨by decide, sn_GT_of (i := 180) (by decide +kernel) rfl⟩
theorem sn_fl_1 : sn_fk (0, 15, 0, 6) := fun C T N h => by
  cases h
  exact ⟨by decide, sn_GT_of (i := 184) (by decide +kernel) rfl⟩
theorem sn_fl_2 : sn_fk (0, 18, 0, 7) := fun C T N h => by
  cases h
  exact ⟨by decide, sn_GT_of (i := 188) (by decide +kernel) rfl⟩
theorem sn_fl_3 : sn_fk (0, 21, 0, 8) := fun C T N h => by
  cases h
  exact ⟨by decide, sn_GT_of (i := 190) (by decide +kernel) rfl⟩
theorem sn_fl_4 : sn_fk (0, 27, 0, 0) := fun C T N h => by
  cases h
  exact ⟨by decide, sn_GT_of (i := 160) (by decide +kernel) rfl⟩
theorem sn_fl_5 : sn_fk (0, 31, 0, 1) := fun C T N h => by
  cases h
  exact ⟨by decide, sn_GT_of (i := 163) (by decide +kernel) rfl⟩
theorem sn_fl_6 : sn_fk (0, 34, 0, 2) := fun C T N h => by
  cases h
  exact ⟨by decide, sn_GT_of (i := 167) (by decide +kernel) rfl⟩
theorem sn_fl_7 : sn_fk (0, 37, 0, 3) := fun C T N h => by
  cases h
  exact ⟨by decide, sn_GT_of (i := 171) (by decide +kernel) rfl⟩
theorem sn_fl_8 : sn_fk (0, 40, 0, 4) := fun C T N h => by
  cases h
  exact ⟨by decide, sn_GT_of (i := 175) (by decide +kernel) rfl⟩
theorem sn_fl_9 : sn_fk (1, 9, 1, 0) := fun C T N h => by
  cases h
  exact ⟨by decide, sn_GT_of (i := 477) (by decide +kernel) rfl⟩
theorem sn_fl_10 : sn_fk (1, 15, 1, 1) := fun C T N h => by
  cases h
  exact ⟨by decide, sn_GT_of (i := 478) (by decide +kernel) rfl⟩
theorem sn_fl_11 : sn_fk (1, 18, 1, 2) := fun C T N h => by
  cases h
  exact ⟨by decide, sn_GT_of (i := 479) (by decide +kernel) rfl⟩
theorem sn_fl_12 : sn_fk (1, 22, 1, 3) := fun C T N h => by
  cases h
  exact ⟨by decide, sn_GT_of (i := 480) (by decide +kernel) rfl⟩
theorem sn_fl_13 : sn_fk (1, 26, 3, 0) := fun C T N h => by
  cases h
  exact ⟨by decide, sn_GT_of (i := 249) (by decide +kernel) rfl⟩
theorem sn_fl_14 : sn_fk (1, 32, 3, 1) := fun C T N h => by
  cases h
  exact ⟨by decide, sn_GT_of (i := 253) (by decide +kernel) rfl⟩
theorem sn_fl_15 : sn_fk (1, 41, 3, 2) := fun C T N h => by
  cases h
  exact ⟨by decide, sn_GT_of (i := 256) (by decide +kernel) rfl⟩
theorem sn_fl_16 : sn_fk (2, 9, 2, 0) := fun C T N h => by
  cases h
  exact ⟨by decide, sn_GT_of (i := 463) (by decide +kernel) rfl⟩
theorem sn_fl_17 : sn_fk (2, 15, 2, 1) := fun C T N h => by
  cases h
  exact ⟨by decide, sn_GT_of (i := 465) (by decide +kernel) rfl⟩
theorem sn_fl_18 : sn_fk (2, 18, 0, 4) := fun C T N h => by
  cases h
  exact ⟨by decide, sn_GT_of (i := 174) (by decide +kernel) rfl⟩
theorem sn_fl_19 : sn_fk (2, 36, 0, 7) := fun C T N h => by
  cases h
  exact ⟨by decide, sn_GT_of (i := 189) (by decide +kernel) rfl⟩
theorem sn_fl_20 : sn_fk (2, 39, 0, 8) := fun C T N h => by
  cases h
  exact ⟨by decide, sn_GT_of (i := 191) (by decide +kernel) rfl⟩
theorem sn_fl_21 : sn_fk (3, 9, 3, 0) := fun C T N h => by
  cases h
  exact ⟨by decide, sn_GT_of (i := 248) (by decide +kernel) rfl⟩
theorem sn_fl_22 : sn_fk (3, 15, 3, 1) := fun C T N h => by
  cases h
  exact ⟨by decide, sn_GT_of (i := 252) (by decide +kernel) rfl⟩
theorem sn_fl_23 : sn_fk (3, 19, 3, 2) := fun C T N h => by
  cases h
  exact ⟨by decide, sn_GT_of (i := 255) (by decide +kernel) rfl⟩
theorem sn_fl_24 : sn_fk (4, 9, 4, 5) := fun C T N h => by
  cases h
  exact ⟨by decide, sn_GT_of (i := 373) (by decide +kernel) rfl⟩
theorem sn_fl_25 : sn_fk (4, 15, 4, 6) := fun C T N h => by
  cases h
  exact ⟨by decide, sn_GT_of (i := 374) (by decide +kernel) rfl⟩
theorem sn_fl_26 : sn_fk (4, 18, 4, 7) := fun C T N h => by
  cases h
  exact ⟨by decide, sn_GT_of (i := 376) (by decide +kernel) rfl⟩
theorem sn_fl_27 : sn_fk (4, 21, 4, 8) := fun C T N h => by
  cases h
  exact ⟨by decide, sn_GT_of (i := 378) (by decide +kernel) rfl⟩
theorem sn_fl_28 : sn_fk (4, 24, 4, 9) := fun C T N h => by
  cases h
  exact ⟨by decide, sn_GT_of (i := 379) (by decide +kernel) rfl⟩
theorem sn_fl_29 : sn_fk (4, 27, 4, 10) := fun C T N h => by
  cases h
  exact ⟨by decide, sn_GT_of (i := 380) (by decide +kernel) rfl⟩
theorem sn_fl_30 : sn_fk (4, 30, 4, 11) := fun C T N h => by
  cases h
  exact ⟨by decide, sn_GT_of (i := 381) (by decide +kernel) rfl⟩
theorem sn_fl_31 : sn_fk (4, 33, 4, 12) := fun C T N h => by
  cases h
  exact ⟨by decide, sn_GT_of (i := 382) (by decide +kernel) rfl⟩
theorem sn_fl_32 : sn_fk (4, 36, 4, 13) := fun C T N h => by
  cases h
  exact ⟨by decide, sn_GT_of (i := 385) (by decide +kernel) rfl⟩
theorem sn_fl_33 : sn_fk (4, 39, 4, 14) := fun C T N h => by
  cases h
  exact ⟨by decide, sn_GT_of (i := 388) (by decide +kernel) rfl⟩
theorem sn_fl_34 : sn_fk (4, 42, 0, 0) := fun C T N h => by
  cases h
  exact ⟨by decide, sn_GT_of (i := 158) (by decide +kernel) rfl⟩
theorem sn_fl_35 : sn_fk (4, 48, 4, 0) := fun C T N h => by
  cases h
  exact ⟨by decide, sn_GT_of (i := 364) (by decide +kernel) rfl⟩
theorem sn_fl_36 : sn_fk (4, 49, 0, 1) := fun C T N h => by
  cases h
  exact ⟨by decide, sn_GT_of (i := 164) (by decide +kernel) rfl⟩
theorem sn_fl_37 : sn_fk (4, 52, 4, 4) := fun C T N h => by
  cases h
  exact ⟨by decide, sn_GT_of (i := 372) (by decide +kernel) rfl⟩
theorem sn_fl_38 : sn_fk (4, 53, 0, 2) := fun C T N h => by
  cases h
  exact ⟨by decide, sn_GT_of (i := 168) (by decide +kernel) rfl⟩
theorem sn_fl_39 : sn_fk (4, 56, 4, 1) := fun C T N h => by
  cases h
  exact ⟨by decide, sn_GT_of (i := 366) (by decide +kernel) rfl⟩
theorem sn_fl_40 : sn_fk (4, 57, 0, 3) := fun C T N h => by
  cases h
  exact ⟨by decide, sn_GT_of (i := 172) (by decide +kernel) rfl⟩
theorem sn_fl_41 : sn_fk (4, 60, 4, 2) := fun C T N h => by
  cases h
  exact ⟨by decide, sn_GT_of (i := 368) (by decide +kernel) rfl⟩
theorem sn_fl_42 : sn_fk (4, 61, 0, 4) := fun C T N h => by
  cases h
  exact ⟨by decide, sn_GT_of (i := 176) (by decide +kernel) rfl⟩
theorem sn_fl_43 : sn_fk (4, 64, 4, 3) := fun C T N h => by
  cases h
  exact ⟨by decide, sn_GT_of (i := 370) (by decide +kernel) rfl⟩
theorem sn_fl_44 : sn_fk (4, 65, 0, 5) := fun C T N h => by
  cases h
  exact ⟨by decide, sn_GT_of (i := 181) (by decide +kernel) rfl⟩
theorem sn_fl_45 : sn_fk (4, 84, 6, 0) := fun C T N h => by
  cases h
  exact ⟨by decide, sn_GT_of (i := 221) (by decide +kernel) rfl⟩
theorem sn_fl_46 : sn_fk (4, 91, 6, 1) := fun C T N h => by
  cases h
  exact ⟨by decide, sn_GT_of (i := 224) (by decide +kernel) rfl⟩
theorem sn_fl_47 : sn_fk (4, 94, 6, 2) := fun C T N h => by
  cases h
  exact ⟨by decide, sn_GT_of (i := 228) (by decide +kernel) rfl⟩
theorem sn_fl_48 : sn_fk (4, 97, 6, 3) := fun C T N h => by
  cases h
  exact ⟨by decide, sn_GT_of (i := 232) (by decide +kernel) rfl⟩
theorem sn_fl_49 : sn_fk (4, 106, 4, 15) := fun C T N h => by
  cases h
  exact ⟨by decide, sn_GT_of (i := 390) (by decide +kernel) rfl⟩
theorem sn_fl_50 : sn_fk (5, 12, 5, 0) := fun C T N h => by
  cases h
  exact ⟨by decide, sn_GT_of (i := 315) (by decide +kernel) rfl⟩
theorem sn_fl_51 : sn_fk (5, 21, 5, 1) := fun C T N h => by
  cases h
  exact ⟨by decide, sn_GT_of (i := 317) (by decide +kernel) rfl⟩
theorem sn_fl_52 : sn_fk (5, 28, 5, 2) := fun C T N h => by
  cases h
  exact ⟨by decide, sn_GT_of (i := 319) (by decide +kernel) rfl⟩
theorem sn_fl_53 : sn_fk (5, 32, 5, 3) := fun C T N h => by
  cases h
  exact ⟨by decide, sn_GT_of (i := 321) (by decide +kernel) rfl⟩
theorem sn_fl_54 : sn_fk (5, 36, 5, 4) := fun C T N h => by
  cases h
  exact ⟨by decide, sn_GT_of (i := 323) (by decide +kernel) rfl⟩
theorem sn_fl_55 : sn_fk (5, 39, 5, 5) := fun C T N h => by
  cases h
  exact ⟨by decide, sn_GT_of (i := 325) (by decide +kernel) rfl⟩
theorem sn_fl_56 : sn_fk (5, 42, 5, 6) := fun C T N h => by
  cases h
  exact ⟨by decide, sn_GT_of (i := 327) (by decide +kernel) rfl⟩
theorem sn_fl_57 : sn_fk (5, 46, 5, 7) := fun C T N h => by
  cases h
  exact ⟨by decide, sn_GT_of (i := 328) (by decide +kernel) rfl⟩
theorem sn_fl_58 : sn_fk (5, 49, 5, 8) := fun C T N h => by
  cases h
  exact ⟨by decide, sn_GT_of (i := 329) (by decide +kernel) rfl⟩
theorem sn_fl_59 : sn_fk (5, 52, 5, 9) := fun C T N h => by
  cases h
  exact ⟨by decide, sn_GT_of (i := 330) (by decide +kernel) rfl⟩
theorem sn_fl_60 : sn_fk (5, 55, 5, 10) := fun C T N h => by
  cases h
  exact ⟨by decide, sn_GT_of (i := 331) (by decide +kernel) rfl⟩
theorem sn_fl_61 : sn_fk (5, 58, 5, 11) := fun C T N h => by
  cases h
  exact ⟨by decide, sn_GT_of (i := 332) (by decide +kernel) rfl⟩
theorem sn_fl_62 : sn_fk (5, 98, 6, 0) := fun C T N h => by
  cases h
  exact ⟨by decide, sn_GT_of (i := 220) (by decide +kernel) rfl⟩
theorem sn_fl_63 : sn_fk (5, 101, 3, 0) := fun C T N h => by
  cases h
  exact ⟨by decide, sn_GT_of (i := 250) (by decide +kernel) rfl⟩
theorem sn_fl_64 : sn_fk (5, 168, 0, 0) := fun C T N h => by
  cases h
  exact ⟨by decide, sn_GT_of (i := 161) (by decide +kernel) rfl⟩
theorem sn_fl_65 : sn_fk (5, 171, 0, 1) := fun C T N h => by
  cases h
  exact ⟨by decide, sn_GT_of (i := 165) (by decide +kernel) rfl⟩
theorem sn_fl_66 : sn_fk (5, 174, 0, 2) := fun C T N h => by
  cases h
  exact ⟨by decide, sn_GT_of (i := 170) (by decide +kernel) rfl⟩
theorem sn_fl_67 : sn_fk (5, 177, 0, 3) := fun C T N h => by
  cases h
  exact ⟨by decide, sn_GT_of (i := 173) (by decide +kernel) rfl⟩
theorem sn_fl_68 : sn_fk (6, 9, 6, 0) := fun C T N h => by
  cases h
  exact ⟨by decide, sn_GT_of (i := 218) (by decide +kernel) rfl⟩
theorem sn_fl_69 : sn_fk (6, 15, 6, 1) := fun C T N h => by
  cases h
  exact ⟨by decide, sn_GT_of (i := 223) (by decide +kernel) rfl⟩
theorem sn_fl_70 : sn_fk (6, 19, 6, 2) := fun C T N h => by
  cases h
  exact ⟨by decide, sn_GT_of (i := 226) (by decide +kernel) rfl⟩
theorem sn_fl_71 : sn_fk (6, 22, 6, 3) := fun C T N h => by
  cases h
  exact ⟨by decide, sn_GT_of (i := 230) (by decide +kernel) rfl⟩
theorem sn_fl_72 : sn_fk (6, 50, 0, 4) := fun C T N h => by
  cases h
  exact ⟨by decide, sn_GT_of (i := 178) (by decide +kernel) rfl⟩
theorem sn_fl_73 : sn_fk (6, 55, 0, 6) := fun C T N h => by
  cases h
  exact ⟨by decide, sn_GT_of (i := 186) (by decide +kernel) rfl⟩
theorem sn_fl_74 : sn_fk (7, 9, 7, 0) := fun C T N h => by
  cases h
  exact ⟨by decide, sn_GT_of (i := 433) (by decide +kernel) rfl⟩
theorem sn_fl_75 : sn_fk (7, 15, 7, 1) := fun C T N h => by
  cases h
  exact ⟨by decide, sn_GT_of (i := 435) (by decide +kernel) rfl⟩
theorem sn_fl_76 : sn_fk (7, 19, 7, 2) := fun C T N h => by
  cases h
  exact ⟨by decide, sn_GT_of (i := 437) (by decide +kernel) rfl⟩
theorem sn_fl_77 : sn_fk (7, 23, 7, 3) := fun C T N h => by
  cases h
  exact ⟨by decide, sn_GT_of (i := 438) (by decide +kernel) rfl⟩
theorem sn_fl_78 : sn_fk (7, 26, 7, 4) := fun C T N h => by
  cases h
  exact ⟨by decide, sn_GT_of (i := 439) (by decide +kernel) rfl⟩
theorem sn_fl_79 : sn_fk (7, 29, 7, 5) := fun C T N h => by
  cases h
  exact ⟨by decide, sn_GT_of (i := 440) (by decide +kernel) rfl⟩
theorem sn_fl_80 : sn_fk (7, 34, 7, 6) := fun C T N h => by
  cases h
  exact ⟨by decide, sn_GT_of (i := 441) (by decide +kernel) rfl⟩
theorem sn_fl_81 : sn_fk (7, 41, 6, 0) := fun C T N h => by
  cases h
  exact ⟨by decide, sn_GT_of (i := 219) (by decide +kernel) rfl⟩
theorem sn_fl_82 : sn_fk (7, 50, 6, 2) := fun C T N h => by
  cases h
  exact ⟨by decide, sn_GT_of (i := 227) (by decide +kernel) rfl⟩
theorem sn_fl_83 : sn_fk (7, 53, 6, 3) := fun C T N h => by
  cases h
  exact ⟨by decide, sn_GT_of (i := 231) (by decide +kernel) rfl⟩
theorem sn_fl_84 : sn_fk (7, 76, 4, 7) := fun C T N h => by
  cases h
  exact ⟨by decide, sn_GT_of (i := 377) (by decide +kernel) rfl⟩
theorem sn_fl_85 : sn_fk (8, 9, 8, 0) := fun C T N h => by
  cases h
  exact ⟨by decide, sn_GT_of (i := 265) (by decide +kernel) rfl⟩
theorem sn_fl_86 : sn_fk (8, 15, 8, 1) := fun C T N h => by
  cases h
  exact ⟨by decide, sn_GT_of (i := 267) (by decide +kernel) rfl⟩
theorem sn_fl_87 : sn_fk (8, 19, 8, 2) := fun C T N h => by
  cases h
  exact ⟨by decide, sn_GT_of (i := 269) (by decide +kernel) rfl⟩
theorem sn_fl_88 : sn_fk (8, 22, 8, 3) := fun C T N h => by
  cases h
  exact ⟨by decide, sn_GT_of (i := 271) (by decide +kernel) rfl⟩
theorem sn_fl_89 : sn_fk (8, 25, 8, 4) := fun C T N h => by
  cases h
  exact ⟨by decide, sn_GT_of (i := 273) (by decide +kernel) rfl⟩
theorem sn_fl_90 : sn_fk (8, 31, 8, 5) := fun C T N h => by
  cases h
  exact ⟨by decide, sn_GT_of (i := 275) (by decide +kernel) rfl⟩
theorem sn_fl_91 : sn_fk (8, 37, 8, 6) := fun C T N h => by
  cases h
  exact ⟨by decide, sn_GT_of (i := 277) (by decide +kernel) rfl⟩
theorem sn_fl_92 : sn_fk (8, 41, 8, 7) := fun C T N h => by
  cases h
  exact ⟨by decide, sn_GT_of (i := 279) (by decide +kernel) rfl⟩
theorem sn_fl_93 : sn_fk (8, 46, 8, 8) := fun C T N h => by
  cases h
  exact ⟨by decide, sn_GT_of (i := 281) (by decide +kernel) rfl⟩
theorem sn_fl_94 : sn_fk (8, 53, 5, 0) := fun C T N h => by
  cases h
  exact ⟨by decide, sn_GT_of (i := 316) (by decide +kernel) rfl⟩
theorem sn_fl_95 : sn_fk (8, 63, 5, 1) := fun C T N h => by
  cases h
  exact ⟨by decide, sn_GT_of (i := 318) (by decide +kernel) rfl⟩
theorem sn_fl_96 : sn_fk (8, 70, 5, 3) := fun C T N h => by
  cases h
  exact ⟨by decide, sn_GT_of (i := 322) (by decide +kernel) rfl⟩
theorem sn_fl_97 : sn_fk (8, 72, 5, 2) := fun C T N h => by
  cases h
  exact ⟨by decide, sn_GT_of (i := 320) (by decide +kernel) rfl⟩
theorem sn_fl_98 : sn_fk (9, 9, 9, 0) := fun C T N h => by
  cases h
  exact ⟨by decide, sn_GT_of (i := 1008) (by decide +kernel) rfl⟩
theorem sn_fl_99 : sn_fk (9, 15, 9, 1) := fun C T N h => by
  cases h
  exact ⟨by decide, sn_GT_of (i := 1010) (by decide +kernel) rfl⟩
theorem sn_fl_100 : sn_fk (9, 19, 9, 2) := fun C T N h => by
  cases h
  exact ⟨by decide, sn_GT_of (i := 1012) (by decide +kernel) rfl⟩
theorem sn_fl_101 : sn_fk (9, 23, 9, 3) := fun C T N h => by
  cases h
  exact ⟨by decide, sn_GT_of (i := 1014) (by decide +kernel) rfl⟩
theorem sn_fl_102 : sn_fk (9, 58, 4, 12) := fun C T N h => by
  cases h
  exact ⟨by decide, sn_GT_of (i := 383) (by decide +kernel) rfl⟩
theorem sn_fl_103 : sn_fk (9, 61, 4, 13) := fun C T N h => by
  cases h
  exact ⟨by decide, sn_GT_of (i := 386) (by decide +kernel) rfl⟩
theorem sn_fl_104 : sn_fk (10, 12, 10, 0) := fun C T N h => by
  cases h
  exact ⟨by decide, sn_GT_of (i := 492) (by decide +kernel) rfl⟩
theorem sn_fl_105 : sn_fk (10, 16, 10, 1) := fun C T N h => by
  cases h
  exact ⟨by decide, sn_GT_of (i := 493) (by decide +kernel) rfl⟩
theorem sn_fl_106 : sn_fk (10, 23, 10, 2) := fun C T N h => by
  cases h
  exact ⟨by decide, sn_GT_of (i := 494) (by decide +kernel) rfl⟩
theorem sn_fl_107 : sn_fk (10, 30, 10, 3) := fun C T N h => by
  cases h
  exact ⟨by decide, sn_GT_of (i := 495) (by decide +kernel) rfl⟩
theorem sn_fl_108 : sn_fk (10, 37, 10, 4) := fun C T N h => by
  cases h
  exact ⟨by decide, sn_GT_of (i := 496) (by decide +kernel) rfl⟩
theorem sn_fl_109 : sn_fk (10, 44, 10, 5) := fun C T N h => by
  cases h
  exact ⟨by decide, sn_GT_of (i := 497) (by decide +kernel) rfl⟩
theorem sn_fl_110 : sn_fk (10, 51, 10, 6) := fun C T N h => by
  cases h
  exact ⟨by decide, sn_GT_of (i := 498) (by decide +kernel) rfl⟩
theorem sn_fl_111 : sn_fk (10, 57, 10, 7) := fun C T N h => by
  cases h
  exact ⟨by decide, sn_GT_of (i := 499) (by decide +kernel) rfl⟩
theorem sn_fl_112 : sn_fk (10, 61, 10, 8) := fun C T N h => by
  cases h
  exact ⟨by decide, sn_GT_of (i := 500) (by decide +kernel) rfl⟩
theorem sn_fl_113 : sn_fk (10, 65, 10, 9) := fun C T N h => by
  cases h
  exact ⟨by decide, sn_GT_of (i := 501) (by decide +kernel) rfl⟩
theorem sn_fl_114 : sn_fk (10, 68, 8, 1) := fun C T N h => by
  cases h
  exact ⟨by decide, sn_GT_of (i := 268) (by decide +kernel) rfl⟩
theorem sn_fl_115 : sn_fk (10, 76, 8, 2) := fun C T N h => by
  cases h
  exact ⟨by decide, sn_GT_of (i := 270) (by decide +kernel) rfl⟩
theorem sn_fl_116 : sn_fk (10, 79, 8, 3) := fun C T N h => by
  cases h
  exact ⟨by decide, sn_GT_of (i := 272) (by decide +kernel) rfl⟩
theorem sn_fl_117 : sn_fk (10, 82, 8, 4) := fun C T N h => by
  cases h
  exact ⟨by decide, sn_GT_of (i := 274) (by decide +kernel) rfl⟩
theorem sn_fl_118 : sn_fk (10, 89, 8, 0) := fun C T N h => by
  cases h
  exact ⟨by decide, sn_GT_of (i := 266) (by decide +kernel) rfl⟩
theorem sn_fl_119 : sn_fk (10, 97, 5, 4) := fun C T N h => by
  cases h
  exact ⟨by decide, sn_GT_of (i := 324) (by decide +kernel) rfl⟩
theorem sn_fl_120 : sn_fk (10, 98, 5, 5) := fun C T N h => by
  cases h
  exact ⟨by decide, sn_GT_of (i := 326) (by decide +kernel) rfl⟩
theorem sn_fl_121 : sn_fk (10, 110, 9, 3) := fun C T N h => by
  cases h
  exact ⟨by decide, sn_GT_of (i := 1015) (by decide +kernel) rfl⟩
theorem sn_fl_122 : sn_fk (10, 114, 8, 5) := fun C T N h => by
  cases h
  exact ⟨by decide, sn_GT_of (i := 276) (by decide +kernel) rfl⟩
theorem sn_fl_123 : sn_fk (10, 124, 8, 6) := fun C T N h => by
  cases h
  exact ⟨by decide, sn_GT_of (i := 278) (by decide +kernel) rfl⟩
theorem sn_fl_124 : sn_fk (10, 128, 6, 0) := fun C T N h => by
  cases h
  exact ⟨by decide, sn_GT_of (i := 222) (by decide +kernel) rfl⟩
theorem sn_fl_125 : sn_fk (10, 133, 6, 1) := fun C T N h => by
  cases h
  exact ⟨by decide, sn_GT_of (i := 225) (by decide +kernel) rfl⟩
theorem sn_fl_126 : sn_fk (10, 136, 6, 2) := fun C T N h => by
  cases h
  exact ⟨by decide, sn_GT_of (i := 229) (by decide +kernel) rfl⟩
theorem sn_fl_127 : sn_fk (10, 139, 6, 3) := fun C T N h => by
  cases h
  exact ⟨by decide, sn_GT_of (i := 233) (by decide +kernel) rfl⟩
theorem sn_fl_128 : sn_fk (10, 141, 8, 7) := fun C T N h => by
  cases h
  exact ⟨by decide, sn_GT_of (i := 280) (by decide +kernel) rfl⟩
theorem sn_fl_129 : sn_fk (10, 144, 8, 8) := fun C T N h => by
  cases h
  exact ⟨by decide, sn_GT_of (i := 282) (by decide +kernel) rfl⟩
theorem sn_fl_130 : sn_fk (10, 148, 3, 0) := fun C T N h => by
  cases h
  exact ⟨by decide, sn_GT_of (i := 251) (by decide +kernel) rfl⟩
theorem sn_fl_131 : sn_fk (10, 153, 3, 1) := fun C T N h => by
  cases h
  exact ⟨by decide, sn_GT_of (i := 254) (by decide +kernel) rfl⟩
theorem sn_fl_132 : sn_fk (10, 154, 3, 2) := fun C T N h => by
  cases h
  exact ⟨by decide, sn_GT_of (i := 257) (by decide +kernel) rfl⟩
theorem sn_fl_133 : sn_fk (10, 214, 4, 12) := fun C T N h => by
  cases h
  exact ⟨by decide, sn_GT_of (i := 384) (by decide +kernel) rfl⟩
theorem sn_fl_134 : sn_fk (10, 221, 4, 14) := fun C T N h => by
  cases h
  exact ⟨by decide, sn_GT_of (i := 389) (by decide +kernel) rfl⟩
theorem sn_fl_135 : sn_fk (10, 227, 0, 6) := fun C T N h => by
  cases h
  exact ⟨by decide, sn_GT_of (i := 187) (by decide +kernel) rfl⟩
theorem sn_fl_136 : sn_fk (10, 233, 4, 15) := fun C T N h => by
  cases h
  exact ⟨by decide, sn_GT_of (i := 391) (by decide +kernel) rfl⟩
theorem sn_fl_137 : sn_fk (10, 254, 4, 0) := fun C T N h => by
  cases h
  exact ⟨by decide, sn_GT_of (i := 365) (by decide +kernel) rfl⟩
theorem sn_fl_138 : sn_fk (10, 260, 4, 1) := fun C T N h => by
  cases h
  exact ⟨by decide, sn_GT_of (i := 367) (by decide +kernel) rfl⟩
theorem sn_fl_139 : sn_fk (10, 263, 4, 2) := fun C T N h => by
  cases h
  exact ⟨by decide, sn_GT_of (i := 369) (by decide +kernel) rfl⟩
theorem sn_fl_140 : sn_fk (10, 269, 4, 13) := fun C T N h => by
  cases h
  exact ⟨by decide, sn_GT_of (i := 387) (by decide +kernel) rfl⟩
theorem sn_fl_141 : sn_fk (10, 272, 0, 4) := fun C T N h => by
  cases h
  exact ⟨by decide, sn_GT_of (i := 179) (by decide +kernel) rfl⟩
theorem sn_fl_142 : sn_fk (10, 279, 4, 6) := fun C T N h => by
  cases h
  exact ⟨by decide, sn_GT_of (i := 375) (by decide +kernel) rfl⟩
theorem sn_fl_143 : sn_fk (10, 293, 4, 3) := fun C T N h => by
  cases h
  exact ⟨by decide, sn_GT_of (i := 371) (by decide +kernel) rfl⟩
theorem sn_fl_144 : sn_fk (10, 302, 7, 0) := fun C T N h => by
  cases h
  exact ⟨by decide, sn_GT_of (i := 434) (by decide +kernel) rfl⟩
theorem sn_fl_145 : sn_fk (10, 305, 7, 1) := fun C T N h => by
  cases h
  exact ⟨by decide, sn_GT_of (i := 436) (by decide +kernel) rfl⟩
theorem sn_fl_146 : sn_fk (10, 325, 9, 0) := fun C T N h => by
  cases h
  exact ⟨by decide, sn_GT_of (i := 1009) (by decide +kernel) rfl⟩
theorem sn_fl_147 : sn_fk (10, 339, 9, 1) := fun C T N h => by
  cases h
  exact ⟨by decide, sn_GT_of (i := 1011) (by decide +kernel) rfl⟩
theorem sn_fl_148 : sn_fk (10, 354, 9, 2) := fun C T N h => by
  cases h
  exact ⟨by decide, sn_GT_of (i := 1013) (by decide +kernel) rfl⟩
theorem sn_fl_149 : sn_fk (10, 368, 2, 0) := fun C T N h => by
  cases h
  exact ⟨by decide, sn_GT_of (i := 464) (by decide +kernel) rfl⟩
theorem sn_fl_150 : sn_fk (10, 386, 0, 0) := fun C T N h => by
  cases h
  exact ⟨by decide, sn_GT_of (i := 162) (by decide +kernel) rfl⟩
theorem sn_fl_151 : sn_fk (10, 387, 0, 1) := fun C T N h => by
  cases h
  exact ⟨by decide, sn_GT_of (i := 166) (by decide +kernel) rfl⟩
theorem sn_fl_152 : sn_fk (10, 390, 0, 5) := fun C T N h => by
  cases h
  exact ⟨by decide, sn_GT_of (i := 183) (by decide +kernel) rfl⟩
theorem sn_fl_153 : sn_fk (11, 7, 11, 1) := fun C T N h => by
  cases h
  exact ⟨by decide, sn_GT_of (i := 1241) (by decide +kernel) rfl⟩
theorem sn_fl_154 : sn_fk (11, 13, 11, 2) := fun C T N h => by
  cases h
  exact ⟨by decide, sn_GT_of (i := 1242) (by decide +kernel) rfl⟩
theorem sn_fl_155 : sn_fk (11, 17, 11, 3) := fun C T N h => by
  cases h
  exact ⟨by decide, sn_GT_of (i := 1243) (by decide +kernel) rfl⟩
theorem sn_fl_156 : sn_fk (11, 20, 11, 4) := fun C T N h => by
  cases h
  exact ⟨by decide, sn_GT_of (i := 1244) (by decide +kernel) rfl⟩
theorem sn_fl_157 : sn_fk (11, 23, 11, 5) := fun C T N h => by
  cases h
  exact ⟨by decide, sn_GT_of (i := 1245) (by decide +kernel) rfl⟩
theorem sn_fl_158 : sn_fk (11, 26, 11, 6) := fun C T N h => by
  cases h
  exact ⟨by decide, sn_GT_of (i := 1246) (by decide +kernel) rfl⟩
theorem sn_fl_159 : sn_fk (11, 29, 11, 7) := fun C T N h => by
  cases h
  exact ⟨by decide, sn_GT_of (i := 1247) (by decide +kernel) rfl⟩
theorem sn_fl_160 : sn_fk (11, 32, 11, 8) := fun C T N h => by
  cases h
  exact ⟨by decide, sn_GT_of (i := 1248) (by decide +kernel) rfl⟩
theorem sn_fl_161 : sn_fk (11, 35, 11, 9) := fun C T N h => by
  cases h
  exact ⟨by decide, sn_GT_of (i := 1249) (by decide +kernel) rfl⟩
theorem sn_fl_162 : sn_fk (11, 38, 11, 19) := fun C T N h => by
  cases h
  exact ⟨by decide, sn_GT_of (i := 1259) (by decide +kernel) rfl⟩
theorem sn_fl_163 : sn_fk (11, 41, 11, 20) := fun C T N h => by
  cases h
  exact ⟨by decide, sn_GT_of (i := 1260) (by decide +kernel) rfl⟩
theorem sn_fl_164 : sn_fk (11, 44, 11, 26) := fun C T N h => by
  cases h
  exact ⟨by decide, sn_GT_of (i := 1266) (by decide +kernel) rfl⟩
theorem sn_fl_165 : sn_fk (11, 47, 11, 30) := fun C T N h => by
  cases h
  exact ⟨by decide, sn_GT_of (i := 1270) (by decide +kernel) rfl⟩
theorem sn_fl_166 : sn_fk (11, 50, 11, 31) := fun C T N h => by
  cases h
  exact ⟨by decide, sn_GT_of (i := 1271) (by decide +kernel) rfl⟩
theorem sn_fl_167 : sn_fk (11, 53, 11, 32) := fun C T N h => by
  cases h
  exact ⟨by decide, sn_GT_of (i := 1272) (by decide +kernel) rfl⟩
theorem sn_fl_168 : sn_fk (11, 56, 11, 33) := fun C T N h => by
  cases h
  exact ⟨by decide, sn_GT_of (i := 1273) (by decide +kernel) rfl⟩
theorem sn_fl_169 : sn_fk (11, 59, 11, 34) := fun C T N h => by
  cases h
  exact ⟨by decide, sn_GT_of (i := 1274) (by decide +kernel) rfl⟩
theorem sn_fl_170 : sn_fk (11, 62, 11, 35) := fun C T N h => by
  cases h
  exact ⟨by decide, sn_GT_of (i := 1275) (by decide +kernel) rfl⟩
theorem sn_fl_171 : sn_fk (11, 65, 11, 36) := fun C T N h => by
  cases h
  exact ⟨by decide, sn_GT_of (i := 1276) (by decide +kernel) rfl⟩
theorem sn_fl_172 : sn_fk (11, 68, 11, 41) := fun C T N h => by
  cases h
  exact ⟨by decide, sn_GT_of (i := 1281) (by decide +kernel) rfl⟩
theorem sn_fl_173 : sn_fk (11, 71, 11, 42) := fun C T N h => by
  cases h
  exact ⟨by decide, sn_GT_of (i := 1282) (by decide +kernel) rfl⟩
theorem sn_fl_174 : sn_fk (11, 74, 11, 43) := fun C T N h => by
  cases h
  exact ⟨by decide, sn_GT_of (i := 1283) (by decide +kernel) rfl⟩
theorem sn_fl_175 : sn_fk (11, 77, 11, 46) := fun C T N h => by
  cases h
  exact ⟨by decide, sn_GT_of (i := 1286) (by decide +kernel) rfl⟩
theorem sn_fl_176 : sn_fk (11, 80, 11, 47) := fun C T N h => by
  cases h
  exact ⟨by decide, sn_GT_of (i := 1287) (by decide +kernel) rfl⟩
theorem sn_fl_177 : sn_fk (11, 83, 11, 49) := fun C T N h => by
  cases h
  exact ⟨by decide, sn_GT_of (i := 1289) (by decide +kernel) rfl⟩
theorem sn_fl_178 : sn_fk (11, 87, 11, 50) := fun C T N h => by
  cases h
  exact ⟨by decide, sn_GT_of (i := 1290) (by decide +kernel) rfl⟩
theorem sn_fl_179 : sn_fk (11, 90, 11, 53) := fun C T N h => by
  cases h
  exact ⟨by decide, sn_GT_of (i := 1293) (by decide +kernel) rfl⟩
theorem sn_fl_180 : sn_fk (11, 94, 11, 54) := fun C T N h => by
  cases h
  exact ⟨by decide, sn_GT_of (i := 1294) (by decide +kernel) rfl⟩
theorem sn_fl_181 : sn_fk (11, 97, 11, 55) := fun C T N h => by
  cases h
  exact ⟨by decide, sn_GT_of (i := 1295) (by decide +kernel) rfl⟩
theorem sn_fl_182 : sn_fk (11, 100, 11, 60) := fun C T N h => by
  cases h
  exact ⟨by decide, sn_GT_of (i := 1300) (by decide +kernel) rfl⟩
theorem sn_fl_183 : sn_fk (11, 103, 11, 61) := fun C T N h => by
  cases h
  exact ⟨by decide, sn_GT_of (i := 1301) (by decide +kernel) rfl⟩
theorem sn_fl_184 : sn_fk (11, 106, 11, 62) := fun C T N h => by
  cases h
  exact ⟨by decide, sn_GT_of (i := 1302) (by decide +kernel) rfl⟩
theorem sn_fl_185 : sn_fk (11, 109, 11, 0) := fun C T N h => by
  cases h
  exact ⟨by decide, sn_GT_of (i := 1240) (by decide +kernel) rfl⟩
theorem sn_fl_186 : sn_fk (11, 129, 11, 10) := fun C T N h => by
  cases h
  exact ⟨by decide, sn_GT_of (i := 1250) (by decide +kernel) rfl⟩
theorem sn_fl_187 : sn_fk (11, 132, 11, 11) := fun C T N h => by
  cases h
  exact ⟨by decide, sn_GT_of (i := 1251) (by decide +kernel) rfl⟩
theorem sn_fl_188 : sn_fk (11, 139, 11, 12) := fun C T N h => by
  cases h
  exact ⟨by decide, sn_GT_of (i := 1252) (by decide +kernel) rfl⟩
theorem sn_fl_189 : sn_fk (11, 142, 11, 15) := fun C T N h => by
  cases h
  exact ⟨by decide, sn_GT_of (i := 1255) (by decide +kernel) rfl⟩
theorem sn_fl_190 : sn_fk (11, 146, 11, 13) := fun C T N h => by
  cases h
  exact ⟨by decide, sn_GT_of (i := 1253) (by decide +kernel) rfl⟩
theorem sn_fl_191 : sn_fk (11, 149, 11, 14) := fun C T N h => by
  cases h
  exact ⟨by decide, sn_GT_of (i := 1254) (by decide +kernel) rfl⟩
theorem sn_fl_192 : sn_fk (11, 152, 11, 16) := fun C T N h => by
  cases h
  exact ⟨by decide, sn_GT_of (i := 1256) (by decide +kernel) rfl⟩
theorem sn_fl_193 : sn_fk (11, 155, 11, 17) := fun C T N h => by
  cases h
  exact ⟨by decide, sn_GT_of (i := 1257) (by decide +kernel) rfl⟩
theorem sn_fl_194 : sn_fk (11, 158, 11, 18) := fun C T N h => by
  cases h
  exact ⟨by decide, sn_GT_of (i := 1258) (by decide +kernel) rfl⟩
theorem sn_fl_195 : sn_fk (11, 169, 11, 22) := fun C T N h => by
  cases h
  exact ⟨by decide, sn_GT_of (i := 1262) (by decide +kernel) rfl⟩
theorem sn_fl_196 : sn_fk (11, 194, 11, 21) := fun C T N h => by
  cases h
  exact ⟨by decide, sn_GT_of (i := 1261) (by decide +kernel) rfl⟩
theorem sn_fl_197 : sn_fk (11, 244, 11, 23) := fun C T N h => by
  cases h
  exact ⟨by decide, sn_GT_of (i := 1263) (by decide +kernel) rfl⟩
theorem sn_fl_198 : sn_fk (11, 251, 11, 25) := fun C T N h => by
  cases h
  exact ⟨by decide, sn_GT_of (i := 1265) (by decide +kernel) rfl⟩
theorem sn_fl_199 : sn_fk (11, 257, 11, 24) := fun C T N h => by
  cases h
  exact ⟨by decide, sn_GT_of (i := 1264) (by decide +kernel) rfl⟩
theorem sn_fl_200 : sn_fk (11, 278, 11, 27) := fun C T N h => by
  cases h
  exact ⟨by decide, sn_GT_of (i := 1267) (by decide +kernel) rfl⟩
theorem sn_fl_201 : sn_fk (11, 281, 11, 28) := fun C T N h => by
  cases h
  exact ⟨by decide, sn_GT_of (i := 1268) (by decide +kernel) rfl⟩
theorem sn_fl_202 : sn_fk (11, 284, 11, 29) := fun C T N h => by
  cases h
  exact ⟨by decide, sn_GT_of (i := 1269) (by decide +kernel) rfl⟩
theorem sn_fl_203 : sn_fk (11, 287, 11, 37) := fun C T N h => by
  cases h
  exact ⟨by decide, sn_GT_of (i := 1277) (by decide +kernel) rfl⟩
theorem sn_fl_204 : sn_fk (11, 290, 11, 38) := fun C T N h => by
  cases h
  exact ⟨by decide, sn_GT_of (i := 1278) (by decide +kernel) rfl⟩
theorem sn_fl_205 : sn_fk (11, 293, 11, 39) := fun C T N h => by
  cases h
  exact ⟨by decide, sn_GT_of (i := 1279) (by decide +kernel) rfl⟩
theorem sn_fl_206 : sn_fk (11, 312, 11, 40) := fun C T N h => by
  cases h
  exact ⟨by decide, sn_GT_of (i := 1280) (by decide +kernel) rfl⟩
theorem sn_fl_207 : sn_fk (11, 349, 11, 44) := fun C T N h => by
  cases h
  exact ⟨by decide, sn_GT_of (i := 1284) (by decide +kernel) rfl⟩
theorem sn_fl_208 : sn_fk (11, 352, 11, 45) := fun C T N h => by
  cases h
  exact ⟨by decide, sn_GT_of (i := 1285) (by decide +kernel) rfl⟩
theorem sn_fl_209 : sn_fk (11, 389, 11, 48) := fun C T N h => by
  cases h
  exact ⟨by decide, sn_GT_of (i := 1288) (by decide +kernel) rfl⟩
theorem sn_fl_210 : sn_fk (11, 405, 11, 51) := fun C T N h => by
  cases h
  exact ⟨by decide, sn_GT_of (i := 1291) (by decide +kernel) rfl⟩
theorem sn_fl_211 : sn_fk (11, 417, 11, 52) := fun C T N h => by
  cases h
  exact ⟨by decide, sn_GT_of (i := 1292) (by decide +kernel) rfl⟩
theorem sn_fl_212 : sn_fk (11, 420, 11, 56) := fun C T N h => by
  cases h
  exact ⟨by decide, sn_GT_of (i := 1296) (by decide +kernel) rfl⟩
theorem sn_fl_213 : sn_fk (11, 423, 11, 57) := fun C T N h => by
  cases h
  exact ⟨by decide, sn_GT_of (i := 1297) (by decide +kernel) rfl⟩
theorem sn_fl_214 : sn_fk (11, 426, 11, 58) := fun C T N h => by
  cases h
  exact ⟨by decide, sn_GT_of (i := 1298) (by decide +kernel) rfl⟩
theorem sn_fl_215 : sn_fk (11, 444, 11, 59) := fun C T N h => by
  cases h
  exact ⟨by decide, sn_GT_of (i := 1299) (by decide +kernel) rfl⟩
theorem sn_fl_216 : sn_fk (12, 9, 0, 0) := fun C T N h => by
  cases h
  exact ⟨by decide, sn_GT_of (i := 159) (by decide +kernel) rfl⟩
theorem sn_fl_217 : sn_fk (12, 25, 0, 4) := fun C T N h => by
  cases h
  exact ⟨by decide, sn_GT_of (i := 177) (by decide +kernel) rfl⟩
theorem sn_fl_218 : sn_fk (12, 28, 0, 5) := fun C T N h => by
  cases h
  exact ⟨by decide, sn_GT_of (i := 182) (by decide +kernel) rfl⟩
theorem sn_fl_219 : sn_fk (12, 42, 0, 2) := fun C T N h => by
  cases h
  exact ⟨by decide, sn_GT_of (i := 169) (by decide +kernel) rfl⟩
theorem sn_fl_220 : sn_fk (12, 48, 0, 6) := fun C T N h => by
  cases h
  exact ⟨by decide, sn_GT_of (i := 185) (by decide +kernel) rfl⟩
theorem sn_mok_1 : sn_mok 1 1 := ⟨⟨by decide +kernel, by decide +kernel, by decide +kernel⟩, sn_GT_of (i := 783) (by decide +kernel) rfl, by decide, sn_GT_of (i := 127) (by decide +kernel) rfl⟩
theorem sn_mok_2 : sn_mok 2 1 := ⟨⟨by decide +kernel, by decide +kernel, by decide +kernel⟩, sn_GT_of (i := 1088) (by decide +kernel) rfl, by decide, sn_GT_of (i := 120) (by decide +kernel) rfl⟩
theorem sn_mok_3 : sn_mok 3 1 := ⟨⟨by decide +kernel, by decide +kernel, by decide +kernel⟩, sn_GT_of (i := 1068) (by decide +kernel) rfl, by decide, sn_GT_of (i := 120) (by decide +kernel) rfl⟩
theorem sn_mok_4 : sn_mok 4 2 := ⟨⟨by decide +kernel, by decide +kernel, by decide +kernel⟩, sn_GT_of (i := 693) (by decide +kernel) rfl, by decide, sn_GT_of (i := 120) (by decide +kernel) rfl⟩
theorem sn_mok_5 : sn_mok 5 2 := ⟨⟨by decide +kernel, by decide +kernel, by decide +kernel⟩, sn_GT_of (i := 553) (by decide +kernel) rfl, by decide, sn_GT_of (i := 120) (by decide +kernel) rfl⟩
theorem sn_mok_6 : sn_mok 6 0 := ⟨⟨by decide +kernel, by decide +kernel, by decide +kernel⟩, sn_GT_of (i := 152) (by decide +kernel) rfl, by decide, sn_GT_of (i := 111) (by decide +kernel) rfl⟩
theorem sn_mok_7 : sn_mok 7 0 := ⟨⟨by decide +kernel, by decide +kernel, by decide +kernel⟩, sn_GT_of (i := 157) (by decide +kernel) rfl, by decide, sn_GT_of (i := 111) (by decide +kernel) rfl⟩
theorem sn_mok_8 : sn_mok 8 1 := ⟨⟨by decide +kernel, by decide +kernel, by decide +kernel⟩, sn_GT_of (i := 674) (by decide +kernel) rfl, by decide, sn_GT_of (i := 111) (by decide +kernel) rfl⟩
theorem sn_mok_9 : sn_mok 9 1 := ⟨⟨by decide +kernel, by decide +kernel, by decide +kernel⟩, sn_GT_of (i := 701) (by decide +kernel) rfl, by decide, sn_GT_of (i := 111) (by decide +kernel) rfl⟩
theorem sn_mok_10 : sn_mok 10 1 := ⟨⟨by decide +kernel, by decide +kernel, by decide +kernel⟩, sn_GT_of (i := 748) (by decide +kernel) rfl, by decide, sn_GT_of (i := 111) (by decide +kernel) rfl⟩
theorem sn_mok_11 : sn_mok 11 2 := ⟨⟨by decide +kernel, by decide +kernel, by decide +kernel⟩, sn_GT_of (i := 752) (by decide +kernel) rfl, by decide, sn_GT_of (i := 111) (by decide +kernel) rfl⟩
theorem sn_mok_12 : sn_mok 12 2 := ⟨⟨by decide +kernel, by decide +kernel, by decide +kernel⟩, sn_GT_of (i := 1159) (by decide +kernel) rfl, by decide, sn_GT_of (i := 111) (by decide +kernel) rfl⟩
theorem sn_mok_13 : sn_mok 13 3 := ⟨⟨by decide +kernel, by decide +kernel, by decide +kernel⟩, sn_GT_of (i := 1085) (by decide +kernel) rfl, by decide, sn_GT_of (i := 111) (by decide +kernel) rfl⟩
theorem sn_mok_14 : sn_mok 14 1 := ⟨⟨by decide +kernel, by decide +kernel, by decide +kernel⟩, sn_GT_of (i := 1119) (by decide +kernel) rfl, by decide, sn_GT_of (i := 111) (by decide +kernel) rfl⟩
theorem sn_mok_15 : sn_mok 15 2 := ⟨⟨by decide +kernel, by decide +kernel, by decide +kernel⟩, sn_GT_of (i := 1138) (by decide +kernel) rfl, by decide, sn_GT_of (i := 128) (by decide +kernel) rfl⟩
theorem sn_mok_16 : sn_mok 16 2 := ⟨⟨by decide +kernel, by decide +kernel, by decide +kernel⟩, sn_GT_of (i := 1135) (by decide +kernel) rfl, by decide, sn_GT_of (i := 128) (by decide +kernel) rfl⟩
theorem sn_mok_17 : sn_mok 17 4 := ⟨⟨by decide +kernel, by decide +kernel, by decide +kernel⟩, sn_GT_of (i := 1141) (by decide +kernel) rfl, by decide, sn_GT_of (i := 128) (by decide +kernel) rfl⟩
theorem sn_mok_18 : sn_mok 18 5 := ⟨⟨by decide +kernel, by decide +kernel, by decide +kernel⟩, sn_GT_of (i := 1144) (by decide +kernel) rfl, by decide, sn_GT_of (i := 128) (by decide +kernel) rfl⟩
theorem sn_mok_19 : sn_mok 19 0 := ⟨⟨by decide +kernel, by decide +kernel, by decide +kernel⟩, sn_GT_of (i := 475) (by decide +kernel) rfl, by decide, sn_GT_of (i := 118) (by decide +kernel) rfl⟩
theorem sn_mok_20 : sn_mok 20 1 := ⟨⟨by decide +kernel, by decide +kernel, by decide +kernel⟩, sn_GT_of (i := 1171) (by decide +kernel) rfl, by decide, sn_GT_of (i := 118) (by decide +kernel) rfl⟩
theorem sn_mok_21 : sn_mok 21 1 := ⟨⟨by decide +kernel, by decide +kernel, by decide +kernel⟩, sn_GT_of (i := 1182) (by decide +kernel) rfl, by decide, sn_GT_of (i := 118) (by decide +kernel) rfl⟩
theorem sn_mok_22 : sn_mok 22 1 := ⟨⟨by decide +kernel, by decide +kernel, by decide +kernel⟩, sn_GT_of (i := 1178) (by decide +kernel) rfl, by decide, sn_GT_of (i := 118) (by decide +kernel) rfl⟩
theorem sn_mok_23 : sn_mok 23 2 := ⟨⟨by decide +kernel, by decide +kernel, by decide +kernel⟩, sn_GT_of (i := 1233) (by decide +kernel) rfl, by decide, sn_GT_of (i := 118) (by decide +kernel) rfl⟩
theorem sn_mok_24 : sn_mok 24 2 := ⟨⟨by decide +kernel, by decide +kernel, by decide +kernel⟩, sn_GT_of (i := 1207) (by decide +kernel) rfl, by decide, sn_GT_of (i := 118) (by decide +kernel) rfl⟩
theorem sn_mok_25 : sn_mok 25 1 := ⟨⟨by decide +kernel, by decide +kernel, by decide +kernel⟩, sn_GT_of (i := 1186) (by decide +kernel) rfl, by decide, sn_GT_of (i := 118) (by decide +kernel) rfl⟩
theorem sn_mok_26 : sn_mok 26 1 := ⟨⟨by decide +kernel, by decide +kernel, by decide +kernel⟩, sn_GT_of (i := 1215) (by decide +kernel) rfl, by decide, sn_GT_of (i := 118) (by decide +kernel) rfl⟩
theorem sn_mok_27 : sn_mok 27 1 := ⟨⟨by decide +kernel, by decide +kernel, by decide +kernel⟩, sn_GT_of (i := 1220) (by decide +kernel) rfl, by decide, sn_GT_of (i := 118) (by decide +kernel) rfl⟩
theorem sn_mok_28 : sn_mok 28 1 := ⟨⟨by decide +kernel, by decide +kernel, by decide +kernel⟩, sn_GT_of (i := 1190) (by decide +kernel) rfl, by decide, sn_GT_of (i := 118) (by decide +kernel) rfl⟩
theorem sn_mok_29 : sn_mok 29 1 := ⟨⟨by decide +kernel, by decide +kernel, by decide +kernel⟩, sn_GT_of (i := 1194) (by decide +kernel) rfl, by decide, sn_GT_of (i := 118) (by decide +kernel) rfl⟩
theorem sn_mok_30 : sn_mok 30 1 := ⟨⟨by decide +kernel, by decide +kernel, by decide +kernel⟩, sn_GT_of (i := 1202) (by decide +kernel) rfl, by decide, sn_GT_of (i := 118) (by decide +kernel) rfl⟩
theorem sn_mok_31 : sn_mok 31 0 := ⟨⟨by decide +kernel, by decide +kernel, by decide +kernel⟩, sn_GT_of (i := 461) (by decide +kernel) rfl, by decide, sn_GT_of (i := 117) (by decide +kernel) rfl⟩
theorem sn_mok_32 : sn_mok 32 4 := ⟨⟨by decide +kernel, by decide +kernel, by decide +kernel⟩, sn_GT_of (i := 1081) (by decide +kernel) rfl, by decide, sn_GT_of (i := 117) (by decide +kernel) rfl⟩
theorem sn_mok_33 : sn_mok 33 2 := ⟨⟨by decide +kernel, by decide +kernel, by decide +kernel⟩, sn_GT_of (i := 1092) (by decide +kernel) rfl, by decide, sn_GT_of (i := 117) (by decide +kernel) rfl⟩
theorem sn_mok_34 : sn_mok 34 3 := ⟨⟨by decide +kernel, by decide +kernel, by decide +kernel⟩, sn_GT_of (i := 1096) (by decide +kernel) rfl, by decide, sn_GT_of (i := 117) (by decide +kernel) rfl⟩
theorem sn_mok_35 : sn_mok 35 0 := ⟨⟨by decide +kernel, by decide +kernel, by decide +kernel⟩, sn_GT_of (i := 246) (by decide +kernel) rfl, by decide, sn_GT_of (i := 113) (by decide +kernel) rfl⟩
theorem sn_mok_36 : sn_mok 36 1 := ⟨⟨by decide +kernel, by decide +kernel, by decide +kernel⟩, sn_GT_of (i := 682) (by decide +kernel) rfl, by decide, sn_GT_of (i := 113) (by decide +kernel) rfl⟩
theorem sn_mok_37 : sn_mok 37 1 := ⟨⟨by decide +kernel, by decide +kernel, by decide +kernel⟩, sn_GT_of (i := 713) (by decide +kernel) rfl, by decide, sn_GT_of (i := 113) (by decide +kernel) rfl⟩
theorem sn_mok_38 : sn_mok 38 0 := ⟨⟨by decide +kernel, by decide +kernel, by decide +kernel⟩, sn_GT_of (i := 362) (by decide +kernel) rfl, by decide, sn_GT_of (i := 115) (by decide +kernel) rfl⟩
theorem sn_mok_39 : sn_mok 39 1 := ⟨⟨by decide +kernel, by decide +kernel, by decide +kernel⟩, sn_GT_of (i := 817) (by decide +kernel) rfl, by decide, sn_GT_of (i := 115) (by decide +kernel) rfl⟩
theorem sn_mok_40 : sn_mok 40 1 := ⟨⟨by decide +kernel, by decide +kernel, by decide +kernel⟩, sn_GT_of (i := 825) (by decide +kernel) rfl, by decide, sn_GT_of (i := 115) (by decide +kernel) rfl⟩
theorem sn_mok_41 : sn_mok 41 2 := ⟨⟨by decide +kernel, by decide +kernel, by decide +kernel⟩, sn_GT_of (i := 989) (by decide +kernel) rfl, by decide, sn_GT_of (i := 115) (by decide +kernel) rfl⟩
theorem sn_mok_42 : sn_mok 42 0 := ⟨⟨by decide +kernel, by decide +kernel, by decide +kernel⟩, sn_GT_of (i := 993) (by decide +kernel) rfl, by decide, sn_GT_of (i := 115) (by decide +kernel) rfl⟩
theorem sn_mok_43 : sn_mok 43 3 := ⟨⟨by decide +kernel, by decide +kernel, by decide +kernel⟩, sn_GT_of (i := 976) (by decide +kernel) rfl, by decide, sn_GT_of (i := 115) (by decide +kernel) rfl⟩
theorem sn_mok_44 : sn_mok 44 1 := ⟨⟨by decide +kernel, by decide +kernel, by decide +kernel⟩, sn_GT_of (i := 926) (by decide +kernel) rfl, by decide, sn_GT_of (i := 115) (by decide +kernel) rfl⟩
theorem sn_mok_45 : sn_mok 45 0 := ⟨⟨by decide +kernel, by decide +kernel, by decide +kernel⟩, sn_GT_of (i := 834) (by decide +kernel) rfl, by decide, sn_GT_of (i := 115) (by decide +kernel) rfl⟩
theorem sn_mok_46 : sn_mok 46 2 := ⟨⟨by decide +kernel, by decide +kernel, by decide +kernel⟩, sn_GT_of (i := 838) (by decide +kernel) rfl, by decide, sn_GT_of (i := 115) (by decide +kernel) rfl⟩
theorem sn_mok_47 : sn_mok 47 1 := ⟨⟨by decide +kernel, by decide +kernel, by decide +kernel⟩, sn_GT_of (i := 843) (by decide +kernel) rfl, by decide, sn_GT_of (i := 115) (by decide +kernel) rfl⟩
theorem sn_mok_48 : sn_mok 48 1 := ⟨⟨by decide +kernel, by decide +kernel, by decide +kernel⟩, sn_GT_of (i := 830) (by decide +kernel) rfl, by decide, sn_GT_of (i := 115) (by decide +kernel) rfl⟩
theorem sn_mok_49 : sn_mok 49 2 := ⟨⟨by decide +kernel, by decide +kernel, by decide +kernel⟩, sn_GT_of (i := 906) (by decide +kernel) rfl, by decide, sn_GT_of (i := 115) (by decide +kernel) rfl⟩
theorem sn_mok_50 : sn_mok 50 2 := ⟨⟨by decide +kernel, by decide +kernel, by decide +kernel⟩, sn_GT_of (i := 940) (by decide +kernel) rfl, by decide, sn_GT_of (i := 115) (by decide +kernel) rfl⟩
theorem sn_mok_51 : sn_mok 51 2 := ⟨⟨by decide +kernel, by decide +kernel, by decide +kernel⟩, sn_GT_of (i := 847) (by decide +kernel) rfl, by decide, sn_GT_of (i := 115) (by decide +kernel) rfl⟩
theorem sn_mok_52 : sn_mok 52 0 := ⟨⟨by decide +kernel, by decide +kernel, by decide +kernel⟩, sn_GT_of (i := 860) (by decide +kernel) rfl, by decide, sn_GT_of (i := 115) (by decide +kernel) rfl⟩
theorem sn_mok_53 : sn_mok 53 0 := ⟨⟨by decide +kernel, by decide +kernel, by decide +kernel⟩, sn_GT_of (i := 864) (by decide +kernel) rfl, by decide, sn_GT_of (i := 115) (by decide +kernel) rfl⟩
theorem sn_mok_54 : sn_mok 54 0 := ⟨⟨by decide +kernel, by decide +kernel, by decide +kernel⟩, sn_GT_of (i := 868) (by decide +kernel) rfl, by decide, sn_GT_of (i := 115) (by decide +kernel) rfl⟩
theorem sn_mok_55 : sn_mok 55 0 := ⟨⟨by decide +kernel, by decide +kernel, by decide +kernel⟩, sn_GT_of (i := 876) (by decide +kernel) rfl, by decide, sn_GT_of (i := 115) (by decide +kernel) rfl⟩
theorem sn_mok_56 : sn_mok 56 1 := ⟨⟨by decide +kernel, by decide +kernel, by decide +kernel⟩, sn_GT_of (i := 880) (by decide +kernel) rfl, by decide, sn_GT_of (i := 115) (by decide +kernel) rfl⟩
theorem sn_mok_57 : sn_mok 57 1 := ⟨⟨by decide +kernel, by decide +kernel, by decide +kernel⟩, sn_GT_of (i := 888) (by decide +kernel) rfl, by decide, sn_GT_of (i := 115) (by decide +kernel) rfl⟩
theorem sn_mok_58 : sn_mok 58 0 := ⟨⟨by decide +kernel, by decide +kernel, by decide +kernel⟩, sn_GT_of (i := 884) (by decide +kernel) rfl, by decide, sn_GT_of (i := 115) (by decide +kernel) rfl⟩
theorem sn_mok_59 : sn_mok 59 0 := ⟨⟨by decide +kernel, by decide +kernel, by decide +kernel⟩, sn_GT_of (i := 893) (by decide +kernel) rfl, by decide, sn_GT_of (i := 115) (by decide +kernel) rfl⟩
theorem sn_mok_60 : sn_mok 60 0 := ⟨⟨by decide +kernel, by decide +kernel, by decide +kernel⟩, sn_GT_of (i := 307) (by decide +kernel) rfl, by decide, sn_GT_of (i := 114) (by decide +kernel) rfl⟩
theorem sn_mok_61 : sn_mok 61 3 := ⟨⟨by decide +kernel, by decide +kernel, by decide +kernel⟩, sn_GT_of (i := 546) (by decide +kernel) rfl, by decide, sn_GT_of (i := 114) (by decide +kernel) rfl⟩
theorem sn_mok_62 : sn_mok 62 2 := ⟨⟨by decide +kernel, by decide +kernel, by decide +kernel⟩, sn_GT_of (i := 550) (by decide +kernel) rfl, by decide, sn_GT_of (i := 114) (by decide +kernel) rfl⟩
theorem sn_mok_63 : sn_mok 63 1 := ⟨⟨by decide +kernel, by decide +kernel, by decide +kernel⟩, sn_GT_of (i := 650) (by decide +kernel) rfl, by decide, sn_GT_of (i := 114) (by decide +kernel) rfl⟩
theorem sn_mok_64 : sn_mok 64 2 := ⟨⟨by decide +kernel, by decide +kernel, by decide +kernel⟩, sn_GT_of (i := 656) (by decide +kernel) rfl, by decide, sn_GT_of (i := 114) (by decide +kernel) rfl⟩
theorem sn_mok_65 : sn_mok 65 1 := ⟨⟨by decide +kernel, by decide +kernel, by decide +kernel⟩, sn_GT_of (i := 558) (by decide +kernel) rfl, by decide, sn_GT_of (i := 114) (by decide +kernel) rfl⟩
theorem sn_mok_66 : sn_mok 66 1 := ⟨⟨by decide +kernel, by decide +kernel, by decide +kernel⟩, sn_GT_of (i := 566) (by decide +kernel) rfl, by decide, sn_GT_of (i := 114) (by decide +kernel) rfl⟩
theorem sn_mok_67 : sn_mok 67 1 := ⟨⟨by decide +kernel, by decide +kernel, by decide +kernel⟩, sn_GT_of (i := 570) (by decide +kernel) rfl, by decide, sn_GT_of (i := 114) (by decide +kernel) rfl⟩
theorem sn_mok_68 : sn_mok 68 1 := ⟨⟨by decide +kernel, by decide +kernel, by decide +kernel⟩, sn_GT_of (i := 562) (by decide +kernel) rfl, by decide, sn_GT_of (i := 114) (by decide +kernel) rfl⟩
theorem sn_mok_69 : sn_mok 69 3 := ⟨⟨by decide +kernel, by decide +kernel, by decide +kernel⟩, sn_GT_of (i := 574) (by decide +kernel) rfl, by decide, sn_GT_of (i := 114) (by decide +kernel) rfl⟩
theorem sn_mok_70 : sn_mok 70 3 := ⟨⟨by decide +kernel, by decide +kernel, by decide +kernel⟩, sn_GT_of (i := 578) (by decide +kernel) rfl, by decide, sn_GT_of (i := 114) (by decide +kernel) rfl⟩
theorem sn_mok_71 : sn_mok 71 1 := ⟨⟨by decide +kernel, by decide +kernel, by decide +kernel⟩, sn_GT_of (i := 583) (by decide +kernel) rfl, by decide, sn_GT_of (i := 114) (by decide +kernel) rfl⟩
theorem sn_mok_72 : sn_mok 72 3 := ⟨⟨by decide +kernel, by decide +kernel, by decide +kernel⟩, sn_GT_of (i := 594) (by decide +kernel) rfl, by decide, sn_GT_of (i := 114) (by decide +kernel) rfl⟩
theorem sn_mok_73 : sn_mok 73 2 := ⟨⟨by decide +kernel, by decide +kernel, by decide +kernel⟩, sn_GT_of (i := 646) (by decide +kernel) rfl, by decide, sn_GT_of (i := 114) (by decide +kernel) rfl⟩
theorem sn_mok_74 : sn_mok 74 2 := ⟨⟨by decide +kernel, by decide +kernel, by decide +kernel⟩, sn_GT_of (i := 662) (by decide +kernel) rfl, by decide, sn_GT_of (i := 114) (by decide +kernel) rfl⟩
theorem sn_mok_75 : sn_mok 75 0 := ⟨⟨by decide +kernel, by decide +kernel, by decide +kernel⟩, sn_GT_of (i := 670) (by decide +kernel) rfl, by decide, sn_GT_of (i := 114) (by decide +kernel) rfl⟩
theorem sn_mok_76 : sn_mok 76 0 := ⟨⟨by decide +kernel, by decide +kernel, by decide +kernel⟩, sn_GT_of (i := 216) (by decide +kernel) rfl, by decide, sn_GT_of (i := 112) (by decide +kernel) rfl⟩
theorem sn_mok_77 : sn_mok 77 1 := ⟨⟨by decide +kernel, by decide +kernel, by decide +kernel⟩, sn_GT_of (i := 678) (by decide +kernel) rfl, by decide, sn_GT_of (i := 112) (by decide +kernel) rfl⟩
theorem sn_mok_78 : sn_mok 78 1 := ⟨⟨by decide +kernel, by decide +kernel, by decide +kernel⟩, sn_GT_of (i := 708) (by decide +kernel) rfl, by decide, sn_GT_of (i := 112) (by decide +kernel) rfl⟩
theorem sn_mok_79 : sn_mok 79 0 := ⟨⟨by decide +kernel, by decide +kernel, by decide +kernel⟩, sn_GT_of (i := 686) (by decide +kernel) rfl, by decide, sn_GT_of (i := 112) (by decide +kernel) rfl⟩
theorem sn_mok_80 : sn_mok 80 0 := ⟨⟨by decide +kernel, by decide +kernel, by decide +kernel⟩, sn_GT_of (i := 690) (by decide +kernel) rfl, by decide, sn_GT_of (i := 112) (by decide +kernel) rfl⟩
theorem sn_mok_81 : sn_mok 81 1 := ⟨⟨by decide +kernel, by decide +kernel, by decide +kernel⟩, sn_GT_of (i := 780) (by decide +kernel) rfl, by decide, sn_GT_of (i := 112) (by decide +kernel) rfl⟩
theorem sn_mok_82 : sn_mok 82 0 := ⟨⟨by decide +kernel, by decide +kernel, by decide +kernel⟩, sn_GT_of (i := 793) (by decide +kernel) rfl, by decide, sn_GT_of (i := 112) (by decide +kernel) rfl⟩
theorem sn_mok_83 : sn_mok 83 0 := ⟨⟨by decide +kernel, by decide +kernel, by decide +kernel⟩, sn_GT_of (i := 776) (by decide +kernel) rfl, by decide, sn_GT_of (i := 112) (by decide +kernel) rfl⟩
theorem sn_mok_84 : sn_mok 84 0 := ⟨⟨by decide +kernel, by decide +kernel, by decide +kernel⟩, sn_GT_of (i := 772) (by decide +kernel) rfl, by decide, sn_GT_of (i := 112) (by decide +kernel) rfl⟩
theorem sn_mok_85 : sn_mok 85 2 := ⟨⟨by decide +kernel, by decide +kernel, by decide +kernel⟩, sn_GT_of (i := 985) (by decide +kernel) rfl, by decide, sn_GT_of (i := 112) (by decide +kernel) rfl⟩
theorem sn_mok_86 : sn_mok 86 0 := ⟨⟨by decide +kernel, by decide +kernel, by decide +kernel⟩, sn_GT_of (i := 429) (by decide +kernel) rfl, by decide, sn_GT_of (i := 116) (by decide +kernel) rfl⟩
theorem sn_mok_87 : sn_mok 87 4 := ⟨⟨by decide +kernel, by decide +kernel, by decide +kernel⟩, sn_GT_of (i := 955) (by decide +kernel) rfl, by decide, sn_GT_of (i := 116) (by decide +kernel) rfl⟩
theorem sn_mok_88 : sn_mok 88 5 := ⟨⟨by decide +kernel, by decide +kernel, by decide +kernel⟩, sn_GT_of (i := 958) (by decide +kernel) rfl, by decide, sn_GT_of (i := 116) (by decide +kernel) rfl⟩
theorem sn_mok_89 : sn_mok 89 1 := ⟨⟨by decide +kernel, by decide +kernel, by decide +kernel⟩, sn_GT_of (i := 962) (by decide +kernel) rfl, by decide, sn_GT_of (i := 116) (by decide +kernel) rfl⟩
theorem sn_mok_90 : sn_mok 90 1 := ⟨⟨by decide +kernel, by decide +kernel, by decide +kernel⟩, sn_GT_of (i := 968) (by decide +kernel) rfl, by decide, sn_GT_of (i := 116) (by decide +kernel) rfl⟩
theorem sn_mok_91 : sn_mok 91 4 := ⟨⟨by decide +kernel, by decide +kernel, by decide +kernel⟩, sn_GT_of (i := 972) (by decide +kernel) rfl, by decide, sn_GT_of (i := 116) (by decide +kernel) rfl⟩
theorem sn_mok_92 : sn_mok 92 0 := ⟨⟨by decide +kernel, by decide +kernel, by decide +kernel⟩, sn_GT_of (i := 141) (by decide +kernel) rfl, by decide, sn_GT_of (i := 110) (by decide +kernel) rfl⟩
theorem sn_mok_93 : sn_mok 93 2 := ⟨⟨by decide +kernel, by decide +kernel, by decide +kernel⟩, sn_GT_of (i := 542) (by decide +kernel) rfl, by decide, sn_GT_of (i := 110) (by decide +kernel) rfl⟩
theorem sn_mok_94 : sn_mok 94 1 := ⟨⟨by decide +kernel, by decide +kernel, by decide +kernel⟩, sn_GT_of (i := 530) (by decide +kernel) rfl, by decide, sn_GT_of (i := 110) (by decide +kernel) rfl⟩
theorem sn_mok_95 : sn_mok 95 3 := ⟨⟨by decide +kernel, by decide +kernel, by decide +kernel⟩, sn_GT_of (i := 697) (by decide +kernel) rfl, by decide, sn_GT_of (i := 110) (by decide +kernel) rfl⟩
theorem sn_mok_96 : sn_mok 96 1 := ⟨⟨by decide +kernel, by decide +kernel, by decide +kernel⟩, sn_GT_of (i := 735) (by decide +kernel) rfl, by decide, sn_GT_of (i := 110) (by decide +kernel) rfl⟩
theorem sn_mok_97 : sn_mok 97 0 := ⟨⟨by decide +kernel, by decide +kernel, by decide +kernel⟩, sn_GT_of (i := 1006) (by decide +kernel) rfl, by decide, sn_GT_of (i := 126) (by decide +kernel) rfl⟩
theorem sn_mok_98 : sn_mok 98 1 := ⟨⟨by decide +kernel, by decide +kernel, by decide +kernel⟩, sn_GT_of (i := 1029) (by decide +kernel) rfl, by decide, sn_GT_of (i := 126) (by decide +kernel) rfl⟩
theorem sn_mok_99 : sn_mok 99 5 := ⟨⟨by decide +kernel, by decide +kernel, by decide +kernel⟩, sn_GT_of (i := 1033) (by decide +kernel) rfl, by decide, sn_GT_of (i := 126) (by decide +kernel) rfl⟩
theorem sn_mok_100 : sn_mok 100 2 := ⟨⟨by decide +kernel, by decide +kernel, by decide +kernel⟩, sn_GT_of (i := 1037) (by decide +kernel) rfl, by decide, sn_GT_of (i := 126) (by decide +kernel) rfl⟩
theorem sn_mok_101 : sn_mok 101 2 := ⟨⟨by decide +kernel, by decide +kernel, by decide +kernel⟩, sn_GT_of (i := 1045) (by decide +kernel) rfl, by decide, sn_GT_of (i := 126) (by decide +kernel) rfl⟩
theorem sn_mok_102 : sn_mok 102 1 := ⟨⟨by decide +kernel, by decide +kernel, by decide +kernel⟩, sn_GT_of (i := 1040) (by decide +kernel) rfl, by decide, sn_GT_of (i := 126) (by decide +kernel) rfl⟩
theorem sn_mok_103 : sn_mok 103 2 := ⟨⟨by decide +kernel, by decide +kernel, by decide +kernel⟩, sn_GT_of (i := 1197) (by decide +kernel) rfl, by decide, sn_GT_of (i := 126) (by decide +kernel) rfl⟩
theorem sn_mok_104 : sn_mok 104 2 := ⟨⟨by decide +kernel, by decide +kernel, by decide +kernel⟩, sn_GT_of (i := 1174) (by decide +kernel) rfl, by decide, sn_GT_of (i := 126) (by decide +kernel) rfl⟩
theorem sn_mok_105 : sn_mok 105 0 := ⟨⟨by decide +kernel, by decide +kernel, by decide +kernel⟩, sn_GT_of (i := 133) (by decide +kernel) rfl, by decide, sn_GT_of (i := 109) (by decide +kernel) rfl⟩
theorem sn_mok_106 : sn_mok 106 5 := ⟨⟨by decide +kernel, by decide +kernel, by decide +kernel⟩, sn_GT_of (i := 526) (by decide +kernel) rfl, by decide, sn_GT_of (i := 109) (by decide +kernel) rfl⟩
theorem sn_mok_107 : sn_mok 107 1 := ⟨⟨by decide +kernel, by decide +kernel, by decide +kernel⟩, sn_GT_of (i := 534) (by decide +kernel) rfl, by decide, sn_GT_of (i := 109) (by decide +kernel) rfl⟩
theorem sn_mok_108 : sn_mok 108 2 := ⟨⟨by decide +kernel, by decide +kernel, by decide +kernel⟩, sn_GT_of (i := 538) (by decide +kernel) rfl, by decide, sn_GT_of (i := 109) (by decide +kernel) rfl⟩
theorem sn_mok_109 : sn_mok 109 1 := ⟨⟨by decide +kernel, by decide +kernel, by decide +kernel⟩, sn_GT_of (i := 723) (by decide +kernel) rfl, by decide, sn_GT_of (i := 109) (by decide +kernel) rfl⟩
theorem sn_mok_110 : sn_mok 110 1 := ⟨⟨by decide +kernel, by decide +kernel, by decide +kernel⟩, sn_GT_of (i := 727) (by decide +kernel) rfl, by decide, sn_GT_of (i := 109) (by decide +kernel) rfl⟩
theorem sn_mok_111 : sn_mok 111 1 := ⟨⟨by decide +kernel, by decide +kernel, by decide +kernel⟩, sn_GT_of (i := 731) (by decide +kernel) rfl, by decide, sn_GT_of (i := 109) (by decide +kernel) rfl⟩
theorem sn_mok_112 : sn_mok 112 1 := ⟨⟨by decide +kernel, by decide +kernel, by decide +kernel⟩, sn_GT_of (i := 740) (by decide +kernel) rfl, by decide, sn_GT_of (i := 109) (by decide +kernel) rfl⟩
theorem sn_mok_113 : sn_mok 113 0 := ⟨⟨by decide +kernel, by decide +kernel, by decide +kernel⟩, sn_GT_of (i := 719) (by decide +kernel) rfl, by decide, sn_GT_of (i := 109) (by decide +kernel) rfl⟩
theorem sn_mok_114 : sn_mok 114 2 := ⟨⟨by decide +kernel, by decide +kernel, by decide +kernel⟩, sn_GT_of (i := 744) (by decide +kernel) rfl, by decide, sn_GT_of (i := 109) (by decide +kernel) rfl⟩
theorem sn_mok_115 : sn_mok 115 3 := ⟨⟨by decide +kernel, by decide +kernel, by decide +kernel⟩, sn_GT_of (i := 756) (by decide +kernel) rfl, by decide, sn_GT_of (i := 109) (by decide +kernel) rfl⟩
theorem sn_mok_116 : sn_mok 116 1 := ⟨⟨by decide +kernel, by decide +kernel, by decide +kernel⟩, sn_GT_of (i := 760) (by decide +kernel) rfl, by decide, sn_GT_of (i := 109) (by decide +kernel) rfl⟩
theorem sn_mok_117 : sn_mok 117 3 := ⟨⟨by decide +kernel, by decide +kernel, by decide +kernel⟩, sn_GT_of (i := 764) (by decide +kernel) rfl, by decide, sn_GT_of (i := 109) (by decide +kernel) rfl⟩
theorem sn_mok_118 : sn_mok 118 2 := ⟨⟨by decide +kernel, by decide +kernel, by decide +kernel⟩, sn_GT_of (i := 768) (by decide +kernel) rfl, by decide, sn_GT_of (i := 109) (by decide +kernel) rfl⟩
theorem sn_mok_119 : sn_mok 119 2 := ⟨⟨by decide +kernel, by decide +kernel, by decide +kernel⟩, sn_GT_of (i := 797) (by decide +kernel) rfl, by decide, sn_GT_of (i := 109) (by decide +kernel) rfl⟩
theorem sn_mok_120 : sn_mok 120 2 := ⟨⟨by decide +kernel, by decide +kernel, by decide +kernel⟩, sn_GT_of (i := 809) (by decide +kernel) rfl, by decide, sn_GT_of (i := 109) (by decide +kernel) rfl⟩
theorem sn_mok_121 : sn_mok 121 3 := ⟨⟨by decide +kernel, by decide +kernel, by decide +kernel⟩, sn_GT_of (i := 805) (by decide +kernel) rfl, by decide, sn_GT_of (i := 109) (by decide +kernel) rfl⟩
theorem sn_mok_122 : sn_mok 122 2 := ⟨⟨by decide +kernel, by decide +kernel, by decide +kernel⟩, sn_GT_of (i := 813) (by decide +kernel) rfl, by decide, sn_GT_of (i := 109) (by decide +kernel) rfl⟩
theorem sn_mok_123 : sn_mok 123 5 := ⟨⟨by decide +kernel, by decide +kernel, by decide +kernel⟩, sn_GT_of (i := 801) (by decide +kernel) rfl, by decide, sn_GT_of (i := 109) (by decide +kernel) rfl⟩
theorem sn_mok_124 : sn_mok 124 4 := ⟨⟨by decide +kernel, by decide +kernel, by decide +kernel⟩, sn_GT_of (i := 851) (by decide +kernel) rfl, by decide, sn_GT_of (i := 109) (by decide +kernel) rfl⟩
theorem sn_mok_125 : sn_mok 125 4 := ⟨⟨by decide +kernel, by decide +kernel, by decide +kernel⟩, sn_GT_of (i := 856) (by decide +kernel) rfl, by decide, sn_GT_of (i := 109) (by decide +kernel) rfl⟩
theorem sn_mok_126 : sn_mok 126 1 := ⟨⟨by decide +kernel, by decide +kernel, by decide +kernel⟩, sn_GT_of (i := 872) (by decide +kernel) rfl, by decide, sn_GT_of (i := 109) (by decide +kernel) rfl⟩
theorem sn_mok_127 : sn_mok 127 4 := ⟨⟨by decide +kernel, by decide +kernel, by decide +kernel⟩, sn_GT_of (i := 898) (by decide +kernel) rfl, by decide, sn_GT_of (i := 109) (by decide +kernel) rfl⟩
theorem sn_mok_128 : sn_mok 128 1 := ⟨⟨by decide +kernel, by decide +kernel, by decide +kernel⟩, sn_GT_of (i := 902) (by decide +kernel) rfl, by decide, sn_GT_of (i := 109) (by decide +kernel) rfl⟩
theorem sn_mok_129 : sn_mok 129 1 := ⟨⟨by decide +kernel, by decide +kernel, by decide +kernel⟩, sn_GT_of (i := 910) (by decide +kernel) rfl, by decide, sn_GT_of (i := 109) (by decide +kernel) rfl⟩
theorem sn_mok_130 : sn_mok 130 1 := ⟨⟨by decide +kernel, by decide +kernel, by decide +kernel⟩, sn_GT_of (i := 914) (by decide +kernel) rfl, by decide, sn_GT_of (i := 109) (by decide +kernel) rfl⟩
theorem sn_mok_131 : sn_mok 131 0 := ⟨⟨by decide +kernel, by decide +kernel, by decide +kernel⟩, sn_GT_of (i := 918) (by decide +kernel) rfl, by decide, sn_GT_of (i := 109) (by decide +kernel) rfl⟩
theorem sn_mok_132 : sn_mok 132 4 := ⟨⟨by decide +kernel, by decide +kernel, by decide +kernel⟩, sn_GT_of (i := 922) (by decide +kernel) rfl, by decide, sn_GT_of (i := 109) (by decide +kernel) rfl⟩
theorem sn_mok_133 : sn_mok 133 4 := ⟨⟨by decide +kernel, by decide +kernel, by decide +kernel⟩, sn_GT_of (i := 930) (by decide +kernel) rfl, by decide, sn_GT_of (i := 109) (by decide +kernel) rfl⟩
theorem sn_mok_134 : sn_mok 134 1 := ⟨⟨by decide +kernel, by decide +kernel, by decide +kernel⟩, sn_GT_of (i := 934) (by decide +kernel) rfl, by decide, sn_GT_of (i := 109) (by decide +kernel) rfl⟩
theorem sn_mok_135 : sn_mok 135 5 := ⟨⟨by decide +kernel, by decide +kernel, by decide +kernel⟩, sn_GT_of (i := 951) (by decide +kernel) rfl, by decide, sn_GT_of (i := 109) (by decide +kernel) rfl⟩
theorem sn_mok_136 : sn_mok 136 4 := ⟨⟨by decide +kernel, by decide +kernel, by decide +kernel⟩, sn_GT_of (i := 981) (by decide +kernel) rfl, by decide, sn_GT_of (i := 109) (by decide +kernel) rfl⟩
theorem sn_mok_137 : sn_mok 137 2 := ⟨⟨by decide +kernel, by decide +kernel, by decide +kernel⟩, sn_GT_of (i := 1002) (by decide +kernel) rfl, by decide, sn_GT_of (i := 109) (by decide +kernel) rfl⟩
theorem sn_mok_138 : sn_mok 138 3 := ⟨⟨by decide +kernel, by decide +kernel, by decide +kernel⟩, sn_GT_of (i := 998) (by decide +kernel) rfl, by decide, sn_GT_of (i := 109) (by decide +kernel) rfl⟩
theorem sn_mok_139 : sn_mok 139 2 := ⟨⟨by decide +kernel, by decide +kernel, by decide +kernel⟩, sn_GT_of (i := 1050) (by decide +kernel) rfl, by decide, sn_GT_of (i := 109) (by decide +kernel) rfl⟩
theorem sn_mok_140 : sn_mok 140 4 := ⟨⟨by decide +kernel, by decide +kernel, by decide +kernel⟩, sn_GT_of (i := 1055) (by decide +kernel) rfl, by decide, sn_GT_of (i := 109) (by decide +kernel) rfl⟩
theorem sn_mok_141 : sn_mok 141 3 := ⟨⟨by decide +kernel, by decide +kernel, by decide +kernel⟩, sn_GT_of (i := 1072) (by decide +kernel) rfl, by decide, sn_GT_of (i := 109) (by decide +kernel) rfl⟩
theorem sn_mok_142 : sn_mok 142 2 := ⟨⟨by decide +kernel, by decide +kernel, by decide +kernel⟩, sn_GT_of (i := 1077) (by decide +kernel) rfl, by decide, sn_GT_of (i := 109) (by decide +kernel) rfl⟩
theorem sn_mok_143 : sn_mok 143 3 := ⟨⟨by decide +kernel, by decide +kernel, by decide +kernel⟩, sn_GT_of (i := 1100) (by decide +kernel) rfl, by decide, sn_GT_of (i := 109) (by decide +kernel) rfl⟩
theorem sn_mok_144 : sn_mok 144 2 := ⟨⟨by decide +kernel, by decide +kernel, by decide +kernel⟩, sn_GT_of (i := 1107) (by decide +kernel) rfl, by decide, sn_GT_of (i := 109) (by decide +kernel) rfl⟩
theorem sn_mok_145 : sn_mok 145 2 := ⟨⟨by decide +kernel, by decide +kernel, by decide +kernel⟩, sn_GT_of (i := 1111) (by decide +kernel) rfl, by decide, sn_GT_of (i := 109) (by decide +kernel) rfl⟩
theorem sn_mok_146 : sn_mok 146 1 := ⟨⟨by decide +kernel, by decide +kernel, by decide +kernel⟩, sn_GT_of (i := 1115) (by decide +kernel) rfl, by decide, sn_GT_of (i := 109) (by decide +kernel) rfl⟩
theorem sn_mok_147 : sn_mok 147 2 := ⟨⟨by decide +kernel, by decide +kernel, by decide +kernel⟩, sn_GT_of (i := 1124) (by decide +kernel) rfl, by decide, sn_GT_of (i := 109) (by decide +kernel) rfl⟩
theorem sn_mok_148 : sn_mok 148 1 := ⟨⟨by decide +kernel, by decide +kernel, by decide +kernel⟩, sn_GT_of (i := 1128) (by decide +kernel) rfl, by decide, sn_GT_of (i := 109) (by decide +kernel) rfl⟩
theorem sn_mok_149 : sn_mok 149 3 := ⟨⟨by decide +kernel, by decide +kernel, by decide +kernel⟩, sn_GT_of (i := 1132) (by decide +kernel) rfl, by decide, sn_GT_of (i := 109) (by decide +kernel) rfl⟩
theorem sn_mok_150 : sn_mok 150 4 := ⟨⟨by decide +kernel, by decide +kernel, by decide +kernel⟩, sn_GT_of (i := 1151) (by decide +kernel) rfl, by decide, sn_GT_of (i := 109) (by decide +kernel) rfl⟩
theorem sn_mok_151 : sn_mok 151 3 := ⟨⟨by decide +kernel, by decide +kernel, by decide +kernel⟩, sn_GT_of (i := 1155) (by decide +kernel) rfl, by decide, sn_GT_of (i := 109) (by decide +kernel) rfl⟩
theorem sn_mok_152 : sn_mok 152 3 := ⟨⟨by decide +kernel, by decide +kernel, by decide +kernel⟩, sn_GT_of (i := 1167) (by decide +kernel) rfl, by decide, sn_GT_of (i := 109) (by decide +kernel) rfl⟩
theorem sn_mok_153 : sn_mok 153 4 := ⟨⟨by decide +kernel, by decide +kernel, by decide +kernel⟩, sn_GT_of (i := 1163) (by decide +kernel) rfl, by decide, sn_GT_of (i := 109) (by decide +kernel) rfl⟩
theorem sn_mok_154 : sn_mok 154 4 := ⟨⟨by decide +kernel, by decide +kernel, by decide +kernel⟩, sn_GT_of (i := 1211) (by decide +kernel) rfl, by decide, sn_GT_of (i := 109) (by decide +kernel) rfl⟩
theorem sn_mok_155 : sn_mok 155 1 := ⟨⟨by decide +kernel, by decide +kernel, by decide +kernel⟩, sn_GT_of (i := 1224) (by decide +kernel) rfl, by decide, sn_GT_of (i := 109) (by decide +kernel) rfl⟩
theorem sn_mok_156 : sn_mok 156 5 := ⟨⟨by decide +kernel, by decide +kernel, by decide +kernel⟩, sn_GT_of (i := 1229) (by decide +kernel) rfl, by decide, sn_GT_of (i := 109) (by decide +kernel) rfl⟩
theorem sn_mok_157 : sn_mok 157 3 := ⟨⟨by decide +kernel, by decide +kernel, by decide +kernel⟩, sn_GT_of (i := 1065) (by decide +kernel) rfl, by decide, sn_GT_of (i := 109) (by decide +kernel) rfl⟩
theorem sn_mok_158 : sn_mok 158 2 := ⟨⟨by decide +kernel, by decide +kernel, by decide +kernel⟩, sn_GT_of (i := 1062) (by decide +kernel) rfl, by decide, sn_GT_of (i := 109) (by decide +kernel) rfl⟩
theorem sn_mok_159 : sn_mok 159 3 := ⟨⟨by decide +kernel, by decide +kernel, by decide +kernel⟩, sn_GT_of (i := 1059) (by decide +kernel) rfl, by decide, sn_GT_of (i := 109) (by decide +kernel) rfl⟩
theorem sn_mok_160 : sn_mok 160 1 := ⟨⟨by decide +kernel, by decide +kernel, by decide +kernel⟩, sn_GT_of (i := 1103) (by decide +kernel) rfl, by decide, sn_GT_of (i := 109) (by decide +kernel) rfl⟩
theorem sn_mok_161 : sn_mok 161 1 := ⟨⟨by decide +kernel, by decide +kernel, by decide +kernel⟩, sn_GT_of (i := 821) (by decide +kernel) rfl, by decide, sn_GT_of (i := 109) (by decide +kernel) rfl⟩
theorem sn_mok_162 : sn_mok 162 2 := ⟨⟨by decide +kernel, by decide +kernel, by decide +kernel⟩, sn_GT_of (i := 944) (by decide +kernel) rfl, by decide, sn_GT_of (i := 109) (by decide +kernel) rfl⟩
theorem sn_mok_163 : sn_mok 163 3 := ⟨⟨by decide +kernel, by decide +kernel, by decide +kernel⟩, sn_GT_of (i := 947) (by decide +kernel) rfl, by decide, sn_GT_of (i := 109) (by decide +kernel) rfl⟩
theorem sn_mok_164 : sn_mok 164 0 := ⟨⟨by decide +kernel, by decide +kernel, by decide +kernel⟩, sn_GT_of (i := 1238) (by decide +kernel) rfl, by decide, sn_GT_of (i := 119) (by decide +kernel) rfl⟩
theorem sn_mok_165 : sn_mok 165 3 := ⟨⟨by decide +kernel, by decide +kernel, by decide +kernel⟩, sn_GT_of (i := 1445) (by decide +kernel) rfl, by decide, sn_GT_of (i := 119) (by decide +kernel) rfl⟩
theorem sn_mok_166 : sn_mok 166 2 := ⟨⟨by decide +kernel, by decide +kernel, by decide +kernel⟩, sn_GT_of (i := 1598) (by decide +kernel) rfl, by decide, sn_GT_of (i := 119) (by decide +kernel) rfl⟩
theorem sn_mok_167 : sn_mok 167 2 := ⟨⟨by decide +kernel, by decide +kernel, by decide +kernel⟩, sn_GT_of (i := 1508) (by decide +kernel) rfl, by decide, sn_GT_of (i := 119) (by decide +kernel) rfl⟩
theorem sn_mok_168 : sn_mok 168 2 := ⟨⟨by decide +kernel, by decide +kernel, by decide +kernel⟩, sn_GT_of (i := 1601) (by decide +kernel) rfl, by decide, sn_GT_of (i := 119) (by decide +kernel) rfl⟩
theorem sn_mok_169 : sn_mok 169 1 := ⟨⟨by decide +kernel, by decide +kernel, by decide +kernel⟩, sn_GT_of (i := 1657) (by decide +kernel) rfl, by decide, sn_GT_of (i := 119) (by decide +kernel) rfl⟩
theorem sn_mok_170 : sn_mok 170 4 := ⟨⟨by decide +kernel, by decide +kernel, by decide +kernel⟩, sn_GT_of (i := 1903) (by decide +kernel) rfl, by decide, sn_GT_of (i := 119) (by decide +kernel) rfl⟩
theorem sn_mok_171 : sn_mok 171 2 := ⟨⟨by decide +kernel, by decide +kernel, by decide +kernel⟩, sn_GT_of (i := 1900) (by decide +kernel) rfl, by decide, sn_GT_of (i := 119) (by decide +kernel) rfl⟩
theorem sn_mok_172 : sn_mok 172 2 := ⟨⟨by decide +kernel, by decide +kernel, by decide +kernel⟩, sn_GT_of (i := 1453) (by decide +kernel) rfl, by decide, sn_GT_of (i := 119) (by decide +kernel) rfl⟩
theorem sn_mok_173 : sn_mok 173 5 := ⟨⟨by decide +kernel, by decide +kernel, by decide +kernel⟩, sn_GT_of (i := 1434) (by decide +kernel) rfl, by decide, sn_GT_of (i := 119) (by decide +kernel) rfl⟩
theorem sn_mok_174 : sn_mok 174 1 := ⟨⟨by decide +kernel, by decide +kernel, by decide +kernel⟩, sn_GT_of (i := 1438) (by decide +kernel) rfl, by decide, sn_GT_of (i := 119) (by decide +kernel) rfl⟩
theorem sn_mok_175 : sn_mok 175 1 := ⟨⟨by decide +kernel, by decide +kernel, by decide +kernel⟩, sn_GT_of (i := 1442) (by decide +kernel) rfl, by decide, sn_GT_of (i := 119) (by decide +kernel) rfl⟩
theorem sn_mok_176 : sn_mok 176 0 := ⟨⟨by decide +kernel, by decide +kernel, by decide +kernel⟩, sn_GT_of (i := 1465) (by decide +kernel) rfl, by decide, sn_GT_of (i := 119) (by decide +kernel) rfl⟩
theorem sn_mok_177 : sn_mok 177 0 := ⟨⟨by decide +kernel, by decide +kernel, by decide +kernel⟩, sn_GT_of (i := 1461) (by decide +kernel) rfl, by decide, sn_GT_of (i := 119) (by decide +kernel) rfl⟩
theorem sn_mok_178 : sn_mok 178 0 := ⟨⟨by decide +kernel, by decide +kernel, by decide +kernel⟩, sn_GT_of (i := 1498) (by decide +kernel) rfl, by decide, sn_GT_of (i := 119) (by decide +kernel) rfl⟩
theorem sn_mok_179 : sn_mok 179 2 := ⟨⟨by decide +kernel, by decide +kernel, by decide +kernel⟩, sn_GT_of (i := 1490) (by decide +kernel) rfl, by decide, sn_GT_of (i := 119) (by decide +kernel) rfl⟩
theorem sn_mok_180 : sn_mok 180 3 := ⟨⟨by decide +kernel, by decide +kernel, by decide +kernel⟩, sn_GT_of (i := 1494) (by decide +kernel) rfl, by decide, sn_GT_of (i := 119) (by decide +kernel) rfl⟩
theorem sn_mok_181 : sn_mok 181 2 := ⟨⟨by decide +kernel, by decide +kernel, by decide +kernel⟩, sn_GT_of (i := 1486) (by decide +kernel) rfl, by decide, sn_GT_of (i := 119) (by decide +kernel) rfl⟩
theorem sn_mok_182 : sn_mok 182 1 := ⟨⟨by decide +kernel, by decide +kernel, by decide +kernel⟩, sn_GT_of (i := 1482) (by decide +kernel) rfl, by decide, sn_GT_of (i := 119) (by decide +kernel) rfl⟩
theorem sn_mok_183 : sn_mok 183 2 := ⟨⟨by decide +kernel, by decide +kernel, by decide +kernel⟩, sn_GT_of (i := 1477) (by decide +kernel) rfl, by decide, sn_GT_of (i := 119) (by decide +kernel) rfl⟩
theorem sn_mok_184 : sn_mok 184 2 := ⟨⟨by decide +kernel, by decide +kernel, by decide +kernel⟩, sn_GT_of (i := 1512) (by decide +kernel) rfl, by decide, sn_GT_of (i := 119) (by decide +kernel) rfl⟩
theorem sn_mok_185 : sn_mok 185 2 := ⟨⟨by decide +kernel, by decide +kernel, by decide +kernel⟩, sn_GT_of (i := 1504) (by decide +kernel) rfl, by decide, sn_GT_of (i := 119) (by decide +kernel) rfl⟩
theorem sn_mok_186 : sn_mok 186 1 := ⟨⟨by decide +kernel, by decide +kernel, by decide +kernel⟩, sn_GT_of (i := 1516) (by decide +kernel) rfl, by decide, sn_GT_of (i := 119) (by decide +kernel) rfl⟩
theorem sn_mok_187 : sn_mok 187 2 := ⟨⟨by decide +kernel, by decide +kernel, by decide +kernel⟩, sn_GT_of (i := 1522) (by decide +kernel) rfl, by decide, sn_GT_of (i := 119) (by decide +kernel) rfl⟩
theorem sn_mok_188 : sn_mok 188 3 := ⟨⟨by decide +kernel, by decide +kernel, by decide +kernel⟩, sn_GT_of (i := 1473) (by decide +kernel) rfl, by decide, sn_GT_of (i := 119) (by decide +kernel) rfl⟩
theorem sn_mok_189 : sn_mok 189 1 := ⟨⟨by decide +kernel, by decide +kernel, by decide +kernel⟩, sn_GT_of (i := 1469) (by decide +kernel) rfl, by decide, sn_GT_of (i := 119) (by decide +kernel) rfl⟩
theorem sn_mok_190 : sn_mok 190 1 := ⟨⟨by decide +kernel, by decide +kernel, by decide +kernel⟩, sn_GT_of (i := 1457) (by decide +kernel) rfl, by decide, sn_GT_of (i := 119) (by decide +kernel) rfl⟩
theorem sn_mok_191 : sn_mok 191 3 := ⟨⟨by decide +kernel, by decide +kernel, by decide +kernel⟩, sn_GT_of (i := 1531) (by decide +kernel) rfl, by decide, sn_GT_of (i := 119) (by decide +kernel) rfl⟩
theorem sn_mok_192 : sn_mok 192 2 := ⟨⟨by decide +kernel, by decide +kernel, by decide +kernel⟩, sn_GT_of (i := 1527) (by decide +kernel) rfl, by decide, sn_GT_of (i := 119) (by decide +kernel) rfl⟩
theorem sn_mok_193 : sn_mok 193 2 := ⟨⟨by decide +kernel, by decide +kernel, by decide +kernel⟩, sn_GT_of (i := 1449) (by decide +kernel) rfl, by decide, sn_GT_of (i := 119) (by decide +kernel) rfl⟩
theorem sn_mok_194 : sn_mok 194 1 := ⟨⟨by decide +kernel, by decide +kernel, by decide +kernel⟩, sn_GT_of (i := 1535) (by decide +kernel) rfl, by decide, sn_GT_of (i := 119) (by decide +kernel) rfl⟩
theorem sn_mok_195 : sn_mok 195 1 := ⟨⟨by decide +kernel, by decide +kernel, by decide +kernel⟩, sn_GT_of (i := 1547) (by decide +kernel) rfl, by decide, sn_GT_of (i := 119) (by decide +kernel) rfl⟩
theorem sn_mok_196 : sn_mok 196 1 := ⟨⟨by decide +kernel, by decide +kernel, by decide +kernel⟩, sn_GT_of (i := 1543) (by decide +kernel) rfl, by decide, sn_GT_of (i := 119) (by decide +kernel) rfl⟩
theorem sn_mok_197 : sn_mok 197 1 := ⟨⟨by decide +kernel, by decide +kernel, by decide +kernel⟩, sn_GT_of (i := 1646) (by decide +kernel) rfl, by decide, sn_GT_of (i := 119) (by decide +kernel) rfl⟩
theorem sn_mok_198 : sn_mok 198 0 := ⟨⟨by decide +kernel, by decide +kernel, by decide +kernel⟩, sn_GT_of (i := 1563) (by decide +kernel) rfl, by decide, sn_GT_of (i := 119) (by decide +kernel) rfl⟩
theorem sn_mok_199 : sn_mok 199 2 := ⟨⟨by decide +kernel, by decide +kernel, by decide +kernel⟩, sn_GT_of (i := 1567) (by decide +kernel) rfl, by decide, sn_GT_of (i := 119) (by decide +kernel) rfl⟩
theorem sn_mok_200 : sn_mok 200 1 := ⟨⟨by decide +kernel, by decide +kernel, by decide +kernel⟩, sn_GT_of (i := 1559) (by decide +kernel) rfl, by decide, sn_GT_of (i := 119) (by decide +kernel) rfl⟩
theorem sn_mok_201 : sn_mok 201 0 := ⟨⟨by decide +kernel, by decide +kernel, by decide +kernel⟩, sn_GT_of (i := 1587) (by decide +kernel) rfl, by decide, sn_GT_of (i := 119) (by decide +kernel) rfl⟩
theorem sn_mok_202 : sn_mok 202 2 := ⟨⟨by decide +kernel, by decide +kernel, by decide +kernel⟩, sn_GT_of (i := 1591) (by decide +kernel) rfl, by decide, sn_GT_of (i := 119) (by decide +kernel) rfl⟩
theorem sn_mok_203 : sn_mok 203 0 := ⟨⟨by decide +kernel, by decide +kernel, by decide +kernel⟩, sn_GT_of (i := 1583) (by decide +kernel) rfl, by decide, sn_GT_of (i := 119) (by decide +kernel) rfl⟩
theorem sn_mok_204 : sn_mok 204 2 := ⟨⟨by decide +kernel, by decide +kernel, by decide +kernel⟩, sn_GT_of (i := 1539) (by decide +kernel) rfl, by decide, sn_GT_of (i := 119) (by decide +kernel) rfl⟩
theorem sn_mok_205 : sn_mok 205 3 := ⟨⟨by decide +kernel, by decide +kernel, by decide +kernel⟩, sn_GT_of (i := 1555) (by decide +kernel) rfl, by decide, sn_GT_of (i := 119) (by decide +kernel) rfl⟩
theorem sn_mok_206 : sn_mok 206 1 := ⟨⟨by decide +kernel, by decide +kernel, by decide +kernel⟩, sn_GT_of (i := 1571) (by decide +kernel) rfl, by decide, sn_GT_of (i := 119) (by decide +kernel) rfl⟩
theorem sn_mok_207 : sn_mok 207 0 := ⟨⟨by decide +kernel, by decide +kernel, by decide +kernel⟩, sn_GT_of (i := 1551) (by decide +kernel) rfl, by decide, sn_GT_of (i := 119) (by decide +kernel) rfl⟩
theorem sn_mok_208 : sn_mok 208 3 := ⟨⟨by decide +kernel, by decide +kernel, by decide +kernel⟩, sn_GT_of (i := 1605) (by decide +kernel) rfl, by decide, sn_GT_of (i := 119) (by decide +kernel) rfl⟩
theorem sn_mok_209 : sn_mok 209 1 := ⟨⟨by decide +kernel, by decide +kernel, by decide +kernel⟩, sn_GT_of (i := 1609) (by decide +kernel) rfl, by decide, sn_GT_of (i := 119) (by decide +kernel) rfl⟩
theorem sn_mok_210 : sn_mok 210 2 := ⟨⟨by decide +kernel, by decide +kernel, by decide +kernel⟩, sn_GT_of (i := 1595) (by decide +kernel) rfl, by decide, sn_GT_of (i := 119) (by decide +kernel) rfl⟩
theorem sn_mok_211 : sn_mok 211 0 := ⟨⟨by decide +kernel, by decide +kernel, by decide +kernel⟩, sn_GT_of (i := 1665) (by decide +kernel) rfl, by decide, sn_GT_of (i := 119) (by decide +kernel) rfl⟩
theorem sn_mok_212 : sn_mok 212 0 := ⟨⟨by decide +kernel, by decide +kernel, by decide +kernel⟩, sn_GT_of (i := 1634) (by decide +kernel) rfl, by decide, sn_GT_of (i := 119) (by decide +kernel) rfl⟩
theorem sn_mok_213 : sn_mok 213 2 := ⟨⟨by decide +kernel, by decide +kernel, by decide +kernel⟩, sn_GT_of (i := 1613) (by decide +kernel) rfl, by decide, sn_GT_of (i := 119) (by decide +kernel) rfl⟩
theorem sn_mok_214 : sn_mok 214 3 := ⟨⟨by decide +kernel, by decide +kernel, by decide +kernel⟩, sn_GT_of (i := 1579) (by decide +kernel) rfl, by decide, sn_GT_of (i := 119) (by decide +kernel) rfl⟩
theorem sn_mok_215 : sn_mok 215 2 := ⟨⟨by decide +kernel, by decide +kernel, by decide +kernel⟩, sn_GT_of (i := 1654) (by decide +kernel) rfl, by decide, sn_GT_of (i := 119) (by decide +kernel) rfl⟩
theorem sn_mok_216 : sn_mok 216 5 := ⟨⟨by decide +kernel, by decide +kernel, by decide +kernel⟩, sn_GT_of (i := 1575) (by decide +kernel) rfl, by decide, sn_GT_of (i := 119) (by decide +kernel) rfl⟩
theorem sn_mok_217 : sn_mok 217 2 := ⟨⟨by decide +kernel, by decide +kernel, by decide +kernel⟩, sn_GT_of (i := 1626) (by decide +kernel) rfl, by decide, sn_GT_of (i := 119) (by decide +kernel) rfl⟩
theorem sn_mok_218 : sn_mok 218 0 := ⟨⟨by decide +kernel, by decide +kernel, by decide +kernel⟩, sn_GT_of (i := 1630) (by decide +kernel) rfl, by decide, sn_GT_of (i := 119) (by decide +kernel) rfl⟩
theorem sn_mok_219 : sn_mok 219 1 := ⟨⟨by decide +kernel, by decide +kernel, by decide +kernel⟩, sn_GT_of (i := 1622) (by decide +kernel) rfl, by decide, sn_GT_of (i := 119) (by decide +kernel) rfl⟩
theorem sn_mok_220 : sn_mok 220 5 := ⟨⟨by decide +kernel, by decide +kernel, by decide +kernel⟩, sn_GT_of (i := 1617) (by decide +kernel) rfl, by decide, sn_GT_of (i := 119) (by decide +kernel) rfl⟩
theorem sn_mok_221 : sn_mok 221 1 := ⟨⟨by decide +kernel, by decide +kernel, by decide +kernel⟩, sn_GT_of (i := 1642) (by decide +kernel) rfl, by decide, sn_GT_of (i := 119) (by decide +kernel) rfl⟩
theorem sn_mok_222 : sn_mok 222 4 := ⟨⟨by decide +kernel, by decide +kernel, by decide +kernel⟩, sn_GT_of (i := 1638) (by decide +kernel) rfl, by decide, sn_GT_of (i := 119) (by decide +kernel) rfl⟩
theorem sn_mok_223 : sn_mok 223 3 := ⟨⟨by decide +kernel, by decide +kernel, by decide +kernel⟩, sn_GT_of (i := 1650) (by decide +kernel) rfl, by decide, sn_GT_of (i := 119) (by decide +kernel) rfl⟩
theorem sn_mok_224 : sn_mok 224 2 := ⟨⟨by decide +kernel, by decide +kernel, by decide +kernel⟩, sn_GT_of (i := 1661) (by decide +kernel) rfl, by decide, sn_GT_of (i := 119) (by decide +kernel) rfl⟩
theorem sn_mok_225 : sn_mok 225 1 := ⟨⟨by decide +kernel, by decide +kernel, by decide +kernel⟩, sn_GT_of (i := 1689) (by decide +kernel) rfl, by decide, sn_GT_of (i := 119) (by decide +kernel) rfl⟩
theorem sn_mok_226 : sn_mok 226 1 := ⟨⟨by decide +kernel, by decide +kernel, by decide +kernel⟩, sn_GT_of (i := 1693) (by decide +kernel) rfl, by decide, sn_GT_of (i := 119) (by decide +kernel) rfl⟩
theorem sn_mok_227 : sn_mok 227 2 := ⟨⟨by decide +kernel, by decide +kernel, by decide +kernel⟩, sn_GT_of (i := 1685) (by decide +kernel) rfl, by decide, sn_GT_of (i := 119) (by decide +kernel) rfl⟩
theorem sn_mok_228 : sn_mok 228 2 := ⟨⟨by decide +kernel, by decide +kernel, by decide +kernel⟩, sn_GT_of (i := 1681) (by decide +kernel) rfl, by decide, sn_GT_of (i := 119) (by decide +kernel) rfl⟩
theorem sn_mok_229 : sn_mok 229 1 := ⟨⟨by decide +kernel, by decide +kernel, by decide +kernel⟩, sn_GT_of (i := 1677) (by decide +kernel) rfl, by decide, sn_GT_of (i := 119) (by decide +kernel) rfl⟩
theorem sn_mok_230 : sn_mok 230 1 := ⟨⟨by decide +kernel, by decide +kernel, by decide +kernel⟩, sn_GT_of (i := 1673) (by decide +kernel) rfl, by decide, sn_GT_of (i := 119) (by decide +kernel) rfl⟩
theorem sn_mok_231 : sn_mok 231 2 := ⟨⟨by decide +kernel, by decide +kernel, by decide +kernel⟩, sn_GT_of (i := 1669) (by decide +kernel) rfl, by decide, sn_GT_of (i := 119) (by decide +kernel) rfl⟩
theorem sn_mok_232 : sn_mok 232 1 := ⟨⟨by decide +kernel, by decide +kernel, by decide +kernel⟩, sn_GT_of (i := 1701) (by decide +kernel) rfl, by decide, sn_GT_of (i := 119) (by decide +kernel) rfl⟩
theorem sn_mok_233 : sn_mok 233 2 := ⟨⟨by decide +kernel, by decide +kernel, by decide +kernel⟩, sn_GT_of (i := 1707) (by decide +kernel) rfl, by decide, sn_GT_of (i := 119) (by decide +kernel) rfl⟩
theorem sn_mok_234 : sn_mok 234 3 := ⟨⟨by decide +kernel, by decide +kernel, by decide +kernel⟩, sn_GT_of (i := 1704) (by decide +kernel) rfl, by decide, sn_GT_of (i := 119) (by decide +kernel) rfl⟩
theorem sn_mok_235 : sn_mok 235 3 := ⟨⟨by decide +kernel, by decide +kernel, by decide +kernel⟩, sn_GT_of (i := 1697) (by decide +kernel) rfl, by decide, sn_GT_of (i := 119) (by decide +kernel) rfl⟩
theorem sn_mok_236 : sn_mok 236 1 := ⟨⟨by decide +kernel, by decide +kernel, by decide +kernel⟩, sn_GT_of (i := 1714) (by decide +kernel) rfl, by decide, sn_GT_of (i := 119) (by decide +kernel) rfl⟩
theorem sn_mok_237 : sn_mok 237 2 := ⟨⟨by decide +kernel, by decide +kernel, by decide +kernel⟩, sn_GT_of (i := 1718) (by decide +kernel) rfl, by decide, sn_GT_of (i := 119) (by decide +kernel) rfl⟩
theorem sn_mok_238 : sn_mok 238 2 := ⟨⟨by decide +kernel, by decide +kernel, by decide +kernel⟩, sn_GT_of (i := 1722) (by decide +kernel) rfl, by decide, sn_GT_of (i := 119) (by decide +kernel) rfl⟩
theorem sn_mok_239 : sn_mok 239 3 := ⟨⟨by decide +kernel, by decide +kernel, by decide +kernel⟩, sn_GT_of (i := 1711) (by decide +kernel) rfl, by decide, sn_GT_of (i := 119) (by decide +kernel) rfl⟩
theorem sn_mok_240 : sn_mok 240 2 := ⟨⟨by decide +kernel, by decide +kernel, by decide +kernel⟩, sn_GT_of (i := 1730) (by decide +kernel) rfl, by decide, sn_GT_of (i := 119) (by decide +kernel) rfl⟩
theorem sn_mok_241 : sn_mok 241 4 := ⟨⟨by decide +kernel, by decide +kernel, by decide +kernel⟩, sn_GT_of (i := 1726) (by decide +kernel) rfl, by decide, sn_GT_of (i := 119) (by decide +kernel) rfl⟩
theorem sn_mok_242 : sn_mok 242 2 := ⟨⟨by decide +kernel, by decide +kernel, by decide +kernel⟩, sn_GT_of (i := 1746) (by decide +kernel) rfl, by decide, sn_GT_of (i := 119) (by decide +kernel) rfl⟩
theorem sn_mok_243 : sn_mok 243 0 := ⟨⟨by decide +kernel, by decide +kernel, by decide +kernel⟩, sn_GT_of (i := 1742) (by decide +kernel) rfl, by decide, sn_GT_of (i := 119) (by decide +kernel) rfl⟩
theorem sn_mok_244 : sn_mok 244 1 := ⟨⟨by decide +kernel, by decide +kernel, by decide +kernel⟩, sn_GT_of (i := 1738) (by decide +kernel) rfl, by decide, sn_GT_of (i := 119) (by decide +kernel) rfl⟩
theorem sn_mok_245 : sn_mok 245 3 := ⟨⟨by decide +kernel, by decide +kernel, by decide +kernel⟩, sn_GT_of (i := 1734) (by decide +kernel) rfl, by decide, sn_GT_of (i := 119) (by decide +kernel) rfl⟩
theorem sn_mok_246 : sn_mok 246 0 := ⟨⟨by decide +kernel, by decide +kernel, by decide +kernel⟩, sn_GT_of (i := 1758) (by decide +kernel) rfl, by decide, sn_GT_of (i := 119) (by decide +kernel) rfl⟩
theorem sn_mok_247 : sn_mok 247 3 := ⟨⟨by decide +kernel, by decide +kernel, by decide +kernel⟩, sn_GT_of (i := 1754) (by decide +kernel) rfl, by decide, sn_GT_of (i := 119) (by decide +kernel) rfl⟩
theorem sn_mok_248 : sn_mok 248 1 := ⟨⟨by decide +kernel, by decide +kernel, by decide +kernel⟩, sn_GT_of (i := 1762) (by decide +kernel) rfl, by decide, sn_GT_of (i := 119) (by decide +kernel) rfl⟩
theorem sn_mok_249 : sn_mok 249 0 := ⟨⟨by decide +kernel, by decide +kernel, by decide +kernel⟩, sn_GT_of (i := 1770) (by decide +kernel) rfl, by decide, sn_GT_of (i := 119) (by decide +kernel) rfl⟩
theorem sn_mok_250 : sn_mok 250 1 := ⟨⟨by decide +kernel, by decide +kernel, by decide +kernel⟩, sn_GT_of (i := 1766) (by decide +kernel) rfl, by decide, sn_GT_of (i := 119) (by decide +kernel) rfl⟩
theorem sn_mok_251 : sn_mok 251 4 := ⟨⟨by decide +kernel, by decide +kernel, by decide +kernel⟩, sn_GT_of (i := 1750) (by decide +kernel) rfl, by decide, sn_GT_of (i := 119) (by decide +kernel) rfl⟩
theorem sn_mok_252 : sn_mok 252 1 := ⟨⟨by decide +kernel, by decide +kernel, by decide +kernel⟩, sn_GT_of (i := 1778) (by decide +kernel) rfl, by decide, sn_GT_of (i := 119) (by decide +kernel) rfl⟩
theorem sn_mok_253 : sn_mok 253 4 := ⟨⟨by decide +kernel, by decide +kernel, by decide +kernel⟩, sn_GT_of (i := 1774) (by decide +kernel) rfl, by decide, sn_GT_of (i := 119) (by decide +kernel) rfl⟩
theorem sn_mok_254 : sn_mok 254 0 := ⟨⟨by decide +kernel, by decide +kernel, by decide +kernel⟩, sn_GT_of (i := 1787) (by decide +kernel) rfl, by decide, sn_GT_of (i := 119) (by decide +kernel) rfl⟩
theorem sn_mok_255 : sn_mok 255 0 := ⟨⟨by decide +kernel, by decide +kernel, by decide +kernel⟩, sn_GT_of (i := 1791) (by decide +kernel) rfl, by decide, sn_GT_of (i := 119) (by decide +kernel) rfl⟩
theorem sn_mok_256 : sn_mok 256 1 := ⟨⟨by decide +kernel, by decide +kernel, by decide +kernel⟩, sn_GT_of (i := 1795) (by decide +kernel) rfl, by decide, sn_GT_of (i := 119) (by decide +kernel) rfl⟩
theorem sn_mok_257 : sn_mok 257 1 := ⟨⟨by decide +kernel, by decide +kernel, by decide +kernel⟩, sn_GT_of (i := 1799) (by decide +kernel) rfl, by decide, sn_GT_of (i := 119) (by decide +kernel) rfl⟩
theorem sn_mok_258 : sn_mok 258 4 := ⟨⟨by decide +kernel, by decide +kernel, by decide +kernel⟩, sn_GT_of (i := 1783) (by decide +kernel) rfl, by decide, sn_GT_of (i := 119) (by decide +kernel) rfl⟩
theorem sn_mok_259 : sn_mok 259 2 := ⟨⟨by decide +kernel, by decide +kernel, by decide +kernel⟩, sn_GT_of (i := 1807) (by decide +kernel) rfl, by decide, sn_GT_of (i := 119) (by decide +kernel) rfl⟩
theorem sn_mok_260 : sn_mok 260 4 := ⟨⟨by decide +kernel, by decide +kernel, by decide +kernel⟩, sn_GT_of (i := 1803) (by decide +kernel) rfl, by decide, sn_GT_of (i := 119) (by decide +kernel) rfl⟩
theorem sn_mok_261 : sn_mok 261 2 := ⟨⟨by decide +kernel, by decide +kernel, by decide +kernel⟩, sn_GT_of (i := 1819) (by decide +kernel) rfl, by decide, sn_GT_of (i := 119) (by decide +kernel) rfl⟩
theorem sn_mok_262 : sn_mok 262 0 := ⟨⟨by decide +kernel, by decide +kernel, by decide +kernel⟩, sn_GT_of (i := 1815) (by decide +kernel) rfl, by decide, sn_GT_of (i := 119) (by decide +kernel) rfl⟩
theorem sn_mok_263 : sn_mok 263 4 := ⟨⟨by decide +kernel, by decide +kernel, by decide +kernel⟩, sn_GT_of (i := 1811) (by decide +kernel) rfl, by decide, sn_GT_of (i := 119) (by decide +kernel) rfl⟩
theorem sn_mok_264 : sn_mok 264 4 := ⟨⟨by decide +kernel, by decide +kernel, by decide +kernel⟩, sn_GT_of (i := 1823) (by decide +kernel) rfl, by decide, sn_GT_of (i := 119) (by decide +kernel) rfl⟩
theorem sn_mok_265 : sn_mok 265 4 := ⟨⟨by decide +kernel, by decide +kernel, by decide +kernel⟩, sn_GT_of (i := 1827) (by decide +kernel) rfl, by decide, sn_GT_of (i := 119) (by decide +kernel) rfl⟩
theorem sn_mok_266 : sn_mok 266 3 := ⟨⟨by decide +kernel, by decide +kernel, by decide +kernel⟩, sn_GT_of (i := 1831) (by decide +kernel) rfl, by decide, sn_GT_of (i := 119) (by decide +kernel) rfl⟩
theorem sn_mok_267 : sn_mok 267 2 := ⟨⟨by decide +kernel, by decide +kernel, by decide +kernel⟩, sn_GT_of (i := 1844) (by decide +kernel) rfl, by decide, sn_GT_of (i := 119) (by decide +kernel) rfl⟩
theorem sn_mok_268 : sn_mok 268 0 := ⟨⟨by decide +kernel, by decide +kernel, by decide +kernel⟩, sn_GT_of (i := 1840) (by decide +kernel) rfl, by decide, sn_GT_of (i := 119) (by decide +kernel) rfl⟩
theorem sn_mok_269 : sn_mok 269 0 := ⟨⟨by decide +kernel, by decide +kernel, by decide +kernel⟩, sn_GT_of (i := 1848) (by decide +kernel) rfl, by decide, sn_GT_of (i := 119) (by decide +kernel) rfl⟩
theorem sn_mok_270 : sn_mok 270 2 := ⟨⟨by decide +kernel, by decide +kernel, by decide +kernel⟩, sn_GT_of (i := 1836) (by decide +kernel) rfl, by decide, sn_GT_of (i := 119) (by decide +kernel) rfl⟩
theorem sn_mok_271 : sn_mok 271 2 := ⟨⟨by decide +kernel, by decide +kernel, by decide +kernel⟩, sn_GT_of (i := 1852) (by decide +kernel) rfl, by decide, sn_GT_of (i := 119) (by decide +kernel) rfl⟩
theorem sn_mok_272 : sn_mok 272 2 := ⟨⟨by decide +kernel, by decide +kernel, by decide +kernel⟩, sn_GT_of (i := 1856) (by decide +kernel) rfl, by decide, sn_GT_of (i := 119) (by decide +kernel) rfl⟩
theorem sn_mok_273 : sn_mok 273 0 := ⟨⟨by decide +kernel, by decide +kernel, by decide +kernel⟩, sn_GT_of (i := 1864) (by decide +kernel) rfl, by decide, sn_GT_of (i := 119) (by decide +kernel) rfl⟩
theorem sn_mok_274 : sn_mok 274 2 := ⟨⟨by decide +kernel, by decide +kernel, by decide +kernel⟩, sn_GT_of (i := 1860) (by decide +kernel) rfl, by decide, sn_GT_of (i := 119) (by decide +kernel) rfl⟩
theorem sn_mok_275 : sn_mok 275 2 := ⟨⟨by decide +kernel, by decide +kernel, by decide +kernel⟩, sn_GT_of (i := 1868) (by decide +kernel) rfl, by decide, sn_GT_of (i := 119) (by decide +kernel) rfl⟩
theorem sn_mok_276 : sn_mok 276 2 := ⟨⟨by decide +kernel, by decide +kernel, by decide +kernel⟩, sn_GT_of (i := 1876) (by decide +kernel) rfl, by decide, sn_GT_of (i := 119) (by decide +kernel) rfl⟩
theorem sn_mok_277 : sn_mok 277 3 := ⟨⟨by decide +kernel, by decide +kernel, by decide +kernel⟩, sn_GT_of (i := 1872) (by decide +kernel) rfl, by decide, sn_GT_of (i := 119) (by decide +kernel) rfl⟩
theorem sn_mok_278 : sn_mok 278 1 := ⟨⟨by decide +kernel, by decide +kernel, by decide +kernel⟩, sn_GT_of (i := 1880) (by decide +kernel) rfl, by decide, sn_GT_of (i := 119) (by decide +kernel) rfl⟩
theorem sn_mok_279 : sn_mok 279 4 := ⟨⟨by decide +kernel, by decide +kernel, by decide +kernel⟩, sn_GT_of (i := 1884) (by decide +kernel) rfl, by decide, sn_GT_of (i := 119) (by decide +kernel) rfl⟩
theorem sn_mok_280 : sn_mok 280 5 := ⟨⟨by decide +kernel, by decide +kernel, by decide +kernel⟩, sn_GT_of (i := 1888) (by decide +kernel) rfl, by decide, sn_GT_of (i := 119) (by decide +kernel) rfl⟩
theorem sn_mok_281 : sn_mok 281 1 := ⟨⟨by decide +kernel, by decide +kernel, by decide +kernel⟩, sn_GT_of (i := 1892) (by decide +kernel) rfl, by decide, sn_GT_of (i := 119) (by decide +kernel) rfl⟩
theorem sn_mok_282 : sn_mok 282 1 := ⟨⟨by decide +kernel, by decide +kernel, by decide +kernel⟩, sn_GT_of (i := 1896) (by decide +kernel) rfl, by decide, sn_GT_of (i := 119) (by decide +kernel) rfl⟩
theorem sn_mok_283 : sn_mok 283 1 := ⟨⟨by decide +kernel, by decide +kernel, by decide +kernel⟩, sn_GT_of (i := 1907) (by decide +kernel) rfl, by decide, sn_GT_of (i := 119) (by decide +kernel) rfl⟩
theorem sn_ls_0 : sn_lsk (0, 53, 2) := ⟨sn_GT_of (i := 1086) (by decide +kernel) rfl, sn_GT_of (i := 1087) (by decide +kernel) rfl⟩
theorem sn_ls_1 : sn_lsk (12, 15, 17) := ⟨sn_GT_of (i := 1139) (by decide +kernel) rfl, sn_GT_of (i := 1140) (by decide +kernel) rfl⟩
theorem sn_ls_2 : sn_lsk (12, 21, 15) := ⟨sn_GT_of (i := 1136) (by decide +kernel) rfl, sn_GT_of (i := 1137) (by decide +kernel) rfl⟩
theorem sn_ls_3 : sn_lsk (12, 32, 18) := ⟨sn_GT_of (i := 1142) (by decide +kernel) rfl, sn_GT_of (i := 1143) (by decide +kernel) rfl⟩
theorem sn_ls_4 : sn_lsk (12, 36, 4) := ⟨sn_GT_of (i := 1146) (by decide +kernel) rfl, sn_GT_of (i := 692) (by decide +kernel) rfl⟩
theorem sn_ls_5 : sn_lsk (12, 45, 5) := ⟨sn_GT_of (i := 1145) (by decide +kernel) rfl, sn_GT_of (i := 552) (by decide +kernel) rfl⟩
theorem sn_ls_6 : sn_lsk (1, 35, 104) := ⟨sn_GT_of (i := 1172) (by decide +kernel) rfl, sn_GT_of (i := 1173) (by decide +kernel) rfl⟩
theorem sn_ls_7 : sn_lsk (1, 48, 1) := ⟨sn_GT_of (i := 1216) (by decide +kernel) rfl, sn_GT_of (i := 782) (by decide +kernel) rfl⟩
theorem sn_ls_8 : sn_lsk (1, 54, 4) := ⟨sn_GT_of (i := 1203) (by decide +kernel) rfl, sn_GT_of (i := 692) (by decide +kernel) rfl⟩
theorem sn_ls_9 : sn_lsk (1, 68, 103) := ⟨sn_GT_of (i := 1195) (by decide +kernel) rfl, sn_GT_of (i := 1196) (by decide +kernel) rfl⟩
theorem sn_ls_10 : sn_lsk (4, 100, 5) := ⟨sn_GT_of (i := 839) (by decide +kernel) rfl, sn_GT_of (i := 552) (by decide +kernel) rfl⟩
theorem sn_ls_11 : sn_lsk (4, 120, 1) := ⟨sn_GT_of (i := 869) (by decide +kernel) rfl, sn_GT_of (i := 782) (by decide +kernel) rfl⟩
theorem sn_ls_12 : sn_lsk (4, 128, 4) := ⟨sn_GT_of (i := 889) (by decide +kernel) rfl, sn_GT_of (i := 692) (by decide +kernel) rfl⟩
theorem sn_ls_13 : sn_lsk (5, 89, 5) := ⟨sn_GT_of (i := 551) (by decide +kernel) rfl, sn_GT_of (i := 552) (by decide +kernel) rfl⟩
theorem sn_ls_14 : sn_lsk (5, 128, 71) := ⟨sn_GT_of (i := 581) (by decide +kernel) rfl, sn_GT_of (i := 582) (by decide +kernel) rfl⟩
theorem sn_ls_15 : sn_lsk (6, 35, 4) := ⟨sn_GT_of (i := 691) (by decide +kernel) rfl, sn_GT_of (i := 692) (by decide +kernel) rfl⟩
theorem sn_ls_16 : sn_lsk (6, 45, 1) := ⟨sn_GT_of (i := 781) (by decide +kernel) rfl, sn_GT_of (i := 782) (by decide +kernel) rfl⟩
theorem sn_ls_17 : sn_lsk (7, 37, 88) := ⟨sn_GT_of (i := 956) (by decide +kernel) rfl, sn_GT_of (i := 957) (by decide +kernel) rfl⟩
theorem sn_ls_18 : sn_lsk (7, 56, 5) := ⟨sn_GT_of (i := 964) (by decide +kernel) rfl, sn_GT_of (i := 552) (by decide +kernel) rfl⟩
theorem sn_ls_19 : sn_lsk (8, 79, 4) := ⟨sn_GT_of (i := 715) (by decide +kernel) rfl, sn_GT_of (i := 692) (by decide +kernel) rfl⟩
theorem sn_ls_20 : sn_lsk (9, 32, 99) := ⟨sn_GT_of (i := 1031) (by decide +kernel) rfl, sn_GT_of (i := 1032) (by decide +kernel) rfl⟩
theorem sn_ls_21 : sn_lsk (9, 44, 101) := ⟨sn_GT_of (i := 1043) (by decide +kernel) rfl, sn_GT_of (i := 1044) (by decide +kernel) rfl⟩
theorem sn_ls_22 : sn_lsk (9, 48, 102) := ⟨sn_GT_of (i := 1038) (by decide +kernel) rfl, sn_GT_of (i := 1039) (by decide +kernel) rfl⟩
theorem sn_ls_23 : sn_lsk (9, 52, 1) := ⟨sn_GT_of (i := 1041) (by decide +kernel) rfl, sn_GT_of (i := 782) (by decide +kernel) rfl⟩
theorem sn_ls_24 : sn_lsk (10, 167, 1) := ⟨sn_GT_of (i := 788) (by decide +kernel) rfl, sn_GT_of (i := 782) (by decide +kernel) rfl⟩
theorem sn_ls_25 : sn_lsk (10, 217, 126) := ⟨sn_GT_of (i := 870) (by decide +kernel) rfl, sn_GT_of (i := 871) (by decide +kernel) rfl⟩
theorem sn_ls_26 : sn_lsk (10, 280, 161) := ⟨sn_GT_of (i := 936) (by decide +kernel) rfl, sn_GT_of (i := 820) (by decide +kernel) rfl⟩
theorem sn_ls_27 : sn_lsk (10, 294, 162) := ⟨sn_GT_of (i := 942) (by decide +kernel) rfl, sn_GT_of (i := 943) (by decide +kernel) rfl⟩
theorem sn_ls_28 : sn_lsk (10, 329, 102) := ⟨sn_GT_of (i := 1046) (by decide +kernel) rfl, sn_GT_of (i := 1039) (by decide +kernel) rfl⟩
theorem sn_ls_29 : sn_lsk (10, 332, 4) := ⟨sn_GT_of (i := 1051) (by decide +kernel) rfl, sn_GT_of (i := 692) (by decide +kernel) rfl⟩
theorem sn_ls_30 : sn_lsk (10, 342, 159) := ⟨sn_GT_of (i := 1057) (by decide +kernel) rfl, sn_GT_of (i := 1058) (by decide +kernel) rfl⟩
theorem sn_ls_31 : sn_lsk (10, 346, 158) := ⟨sn_GT_of (i := 1060) (by decide +kernel) rfl, sn_GT_of (i := 1061) (by decide +kernel) rfl⟩
theorem sn_ls_32 : sn_lsk (10, 350, 157) := ⟨sn_GT_of (i := 1063) (by decide +kernel) rfl, sn_GT_of (i := 1064) (by decide +kernel) rfl⟩
theorem sn_ls_33 : sn_lsk (10, 364, 160) := ⟨sn_GT_of (i := 1101) (by decide +kernel) rfl, sn_GT_of (i := 1102) (by decide +kernel) rfl⟩
theorem sn_ls_34 : sn_lsk (10, 378, 16) := ⟨sn_GT_of (i := 1133) (by decide +kernel) rfl, sn_GT_of (i := 1134) (by decide +kernel) rfl⟩
theorem sn_ls_35 : sn_lsk (10, 383, 15) := ⟨sn_GT_of (i := 1147) (by decide +kernel) rfl, sn_GT_of (i := 1137) (by decide +kernel) rfl⟩
theorem sn_ls_36 : sn_lsk (10, 433, 3) := ⟨sn_GT_of (i := 1066) (by decide +kernel) rfl, sn_GT_of (i := 1067) (by decide +kernel) rfl⟩
theorem sn_ls_37 : sn_lsk (10, 437, 163) := ⟨sn_GT_of (i := 945) (by decide +kernel) rfl, sn_GT_of (i := 946) (by decide +kernel) rfl⟩
theorem sn_ls_38 : sn_lsk (11, 113, 166) := ⟨sn_GT_of (i := 1596) (by decide +kernel) rfl, sn_GT_of (i := 1597) (by decide +kernel) rfl⟩
theorem sn_ls_39 : sn_lsk (11, 117, 170) := ⟨sn_GT_of (i := 1901) (by decide +kernel) rfl, sn_GT_of (i := 1902) (by decide +kernel) rfl⟩
theorem sn_ls_40 : sn_lsk (11, 121, 165) := ⟨sn_GT_of (i := 1443) (by decide +kernel) rfl, sn_GT_of (i := 1444) (by decide +kernel) rfl⟩
theorem sn_ls_41 : sn_lsk (11, 197, 167) := ⟨sn_GT_of (i := 1506) (by decide +kernel) rfl, sn_GT_of (i := 1507) (by decide +kernel) rfl⟩
theorem sn_ls_42 : sn_lsk (11, 296, 168) := ⟨sn_GT_of (i := 1599) (by decide +kernel) rfl, sn_GT_of (i := 1600) (by decide +kernel) rfl⟩
theorem sn_ls_43 : sn_lsk (11, 306, 169) := ⟨sn_GT_of (i := 1655) (by decide +kernel) rfl, sn_GT_of (i := 1656) (by decide +kernel) rfl⟩
theorem sn_ls_44 : sn_lsk (11, 373, 233) := ⟨sn_GT_of (i := 1705) (by decide +kernel) rfl, sn_GT_of (i := 1706) (by decide +kernel) rfl⟩
theorem sn_ls_45 : sn_lsk (11, 379, 232) := ⟨sn_GT_of (i := 1699) (by decide +kernel) rfl, sn_GT_of (i := 1700) (by decide +kernel) rfl⟩
theorem sn_ls_46 : sn_lsk (11, 382, 234) := ⟨sn_GT_of (i := 1702) (by decide +kernel) rfl, sn_GT_of (i := 1703) (by decide +kernel) rfl⟩
theorem sn_ls_47 : sn_lsk (11, 386, 236) := ⟨sn_GT_of (i := 1712) (by decide +kernel) rfl, sn_GT_of (i := 1713) (by decide +kernel) rfl⟩
theorem sn_ls_48 : sn_lsk (11, 401, 240) := ⟨sn_GT_of (i := 1728) (by decide +kernel) rfl, sn_GT_of (i := 1729) (by decide +kernel) rfl⟩
theorem sn_lvt_0 : sn_lvk (0, 24, 7) := ⟨sn_GT_of (i := 154) (by decide +kernel) rfl, sn_GT_of (i := 155) (by decide +kernel) rfl, sn_GT_of (i := 156) (by decide +kernel) rfl⟩
theorem sn_lvt_1 : sn_lvk (0, 49, 11) := ⟨sn_GT_of (i := 749) (by decide +kernel) rfl, sn_GT_of (i := 751) (by decide +kernel) rfl, sn_GT_of (i := 14) (by decide +kernel) rfl⟩
theorem sn_lvt_2 : sn_lvk (0, 59, 13) := ⟨sn_GT_of (i := 1120) (by decide +kernel) rfl, sn_GT_of (i := 1083) (by decide +kernel) rfl, sn_GT_of (i := 1084) (by decide +kernel) rfl⟩
theorem sn_lvt_3 : sn_lvk (1, 44, 21) := ⟨sn_GT_of (i := 1179) (by decide +kernel) rfl, sn_GT_of (i := 1180) (by decide +kernel) rfl, sn_GT_of (i := 1181) (by decide +kernel) rfl⟩
theorem sn_lvt_4 : sn_lvk (1, 60, 29) := ⟨sn_GT_of (i := 1191) (by decide +kernel) rfl, sn_GT_of (i := 1193) (by decide +kernel) rfl, sn_GT_of (i := 34) (by decide +kernel) rfl⟩
theorem sn_lvt_5 : sn_lvk (1, 65, 30) := ⟨sn_GT_of (i := 1199) (by decide +kernel) rfl, sn_GT_of (i := 1201) (by decide +kernel) rfl, sn_GT_of (i := 35) (by decide +kernel) rfl⟩
theorem sn_lvt_6 : sn_lvk (2, 24, 13) := ⟨sn_GT_of (i := 1082) (by decide +kernel) rfl, sn_GT_of (i := 1083) (by decide +kernel) rfl, sn_GT_of (i := 1084) (by decide +kernel) rfl⟩
theorem sn_lvt_7 : sn_lvk (2, 28, 33) := ⟨sn_GT_of (i := 1089) (by decide +kernel) rfl, sn_GT_of (i := 1091) (by decide +kernel) rfl, sn_GT_of (i := 30) (by decide +kernel) rfl⟩
theorem sn_lvt_8 : sn_lvk (2, 32, 34) := ⟨sn_GT_of (i := 1093) (by decide +kernel) rfl, sn_GT_of (i := 1095) (by decide +kernel) rfl, sn_GT_of (i := 31) (by decide +kernel) rfl⟩
theorem sn_lvt_9 : sn_lvk (4, 76, 81) := ⟨sn_GT_of (i := 826) (by decide +kernel) rfl, sn_GT_of (i := 778) (by decide +kernel) rfl, sn_GT_of (i := 779) (by decide +kernel) rfl⟩
theorem sn_lvt_10 : sn_lvk (4, 81, 42) := ⟨sn_GT_of (i := 990) (by decide +kernel) rfl, sn_GT_of (i := 991) (by decide +kernel) rfl, sn_GT_of (i := 992) (by decide +kernel) rfl⟩
theorem sn_lvt_11 : sn_lvk (4, 87, 43) := ⟨sn_GT_of (i := 994) (by decide +kernel) rfl, sn_GT_of (i := 974) (by decide +kernel) rfl, sn_GT_of (i := 975) (by decide +kernel) rfl⟩
theorem sn_lvt_12 : sn_lvk (4, 109, 47) := ⟨sn_GT_of (i := 840) (by decide +kernel) rfl, sn_GT_of (i := 842) (by decide +kernel) rfl, sn_GT_of (i := 18) (by decide +kernel) rfl⟩
theorem sn_lvt_13 : sn_lvk (4, 113, 45) := ⟨sn_GT_of (i := 831) (by decide +kernel) rfl, sn_GT_of (i := 832) (by decide +kernel) rfl, sn_GT_of (i := 833) (by decide +kernel) rfl⟩
theorem sn_lvt_14 : sn_lvk (4, 116, 46) := ⟨sn_GT_of (i := 835) (by decide +kernel) rfl, sn_GT_of (i := 836) (by decide +kernel) rfl, sn_GT_of (i := 837) (by decide +kernel) rfl⟩
theorem sn_lvt_15 : sn_lvk (4, 125, 57) := ⟨sn_GT_of (i := 885) (by decide +kernel) rfl, sn_GT_of (i := 887) (by decide +kernel) rfl, sn_GT_of (i := 19) (by decide +kernel) rfl⟩
theorem sn_lvt_16 : sn_lvk (4, 131, 58) := ⟨sn_GT_of (i := 894) (by decide +kernel) rfl, sn_GT_of (i := 882) (by decide +kernel) rfl, sn_GT_of (i := 883) (by decide +kernel) rfl⟩
theorem sn_lvt_17 : sn_lvk (5, 62, 62) := ⟨sn_GT_of (i := 547) (by decide +kernel) rfl, sn_GT_of (i := 549) (by decide +kernel) rfl, sn_GT_of (i := 0) (by decide +kernel) rfl⟩
theorem sn_lvt_18 : sn_lvk (5, 66, 65) := ⟨sn_GT_of (i := 555) (by decide +kernel) rfl, sn_GT_of (i := 557) (by decide +kernel) rfl, sn_GT_of (i := 1) (by decide +kernel) rfl⟩
theorem sn_lvt_19 : sn_lvk (5, 70, 68) := ⟨sn_GT_of (i := 559) (by decide +kernel) rfl, sn_GT_of (i := 561) (by decide +kernel) rfl, sn_GT_of (i := 2) (by decide +kernel) rfl⟩
theorem sn_lvt_20 : sn_lvk (5, 73, 69) := ⟨sn_GT_of (i := 571) (by decide +kernel) rfl, sn_GT_of (i := 573) (by decide +kernel) rfl, sn_GT_of (i := 5) (by decide +kernel) rfl⟩
theorem sn_lvt_21 : sn_lvk (5, 77, 63) := ⟨sn_GT_of (i := 647) (by decide +kernel) rfl, sn_GT_of (i := 649) (by decide +kernel) rfl, sn_GT_of (i := 9) (by decide +kernel) rfl⟩
theorem sn_lvt_22 : sn_lvk (5, 81, 79) := ⟨sn_GT_of (i := 683) (by decide +kernel) rfl, sn_GT_of (i := 684) (by decide +kernel) rfl, sn_GT_of (i := 685) (by decide +kernel) rfl⟩
theorem sn_lvt_23 : sn_lvk (5, 85, 64) := ⟨sn_GT_of (i := 653) (by decide +kernel) rfl, sn_GT_of (i := 655) (by decide +kernel) rfl, sn_GT_of (i := 10) (by decide +kernel) rfl⟩
theorem sn_lvt_24 : sn_lvk (5, 95, 7) := ⟨sn_GT_of (i := 554) (by decide +kernel) rfl, sn_GT_of (i := 155) (by decide +kernel) rfl, sn_GT_of (i := 156) (by decide +kernel) rfl⟩
theorem sn_lvt_25 : sn_lvk (5, 102, 66) := ⟨sn_GT_of (i := 563) (by decide +kernel) rfl, sn_GT_of (i := 565) (by decide +kernel) rfl, sn_GT_of (i := 3) (by decide +kernel) rfl⟩
theorem sn_lvt_26 : sn_lvk (5, 106, 67) := ⟨sn_GT_of (i := 567) (by decide +kernel) rfl, sn_GT_of (i := 569) (by decide +kernel) rfl, sn_GT_of (i := 4) (by decide +kernel) rfl⟩
theorem sn_lvt_27 : sn_lvk (5, 109, 70) := ⟨sn_GT_of (i := 575) (by decide +kernel) rfl, sn_GT_of (i := 577) (by decide +kernel) rfl, sn_GT_of (i := 6) (by decide +kernel) rfl⟩
theorem sn_lvt_28 : sn_lvk (5, 113, 73) := ⟨sn_GT_of (i := 643) (by decide +kernel) rfl, sn_GT_of (i := 645) (by decide +kernel) rfl, sn_GT_of (i := 8) (by decide +kernel) rfl⟩
theorem sn_lvt_29 : sn_lvk (5, 119, 74) := ⟨sn_GT_of (i := 659) (by decide +kernel) rfl, sn_GT_of (i := 661) (by decide +kernel) rfl, sn_GT_of (i := 11) (by decide +kernel) rfl⟩
theorem sn_lvt_30 : sn_lvk (5, 122, 75) := ⟨sn_GT_of (i := 667) (by decide +kernel) rfl, sn_GT_of (i := 669) (by decide +kernel) rfl, sn_GT_of (i := 12) (by decide +kernel) rfl⟩
theorem sn_lvt_31 : sn_lvk (5, 132, 72) := ⟨sn_GT_of (i := 591) (by decide +kernel) rfl, sn_GT_of (i := 593) (by decide +kernel) rfl, sn_GT_of (i := 7) (by decide +kernel) rfl⟩
theorem sn_lvt_32 : sn_lvk (5, 179, 8) := ⟨sn_GT_of (i := 671) (by decide +kernel) rfl, sn_GT_of (i := 672) (by decide +kernel) rfl, sn_GT_of (i := 673) (by decide +kernel) rfl⟩
theorem sn_lvt_33 : sn_lvk (5, 183, 77) := ⟨sn_GT_of (i := 675) (by decide +kernel) rfl, sn_GT_of (i := 676) (by decide +kernel) rfl, sn_GT_of (i := 677) (by decide +kernel) rfl⟩
theorem sn_lvt_34 : sn_lvk (5, 186, 36) := ⟨sn_GT_of (i := 679) (by decide +kernel) rfl, sn_GT_of (i := 680) (by decide +kernel) rfl, sn_GT_of (i := 681) (by decide +kernel) rfl⟩
theorem sn_lvt_35 : sn_lvk (6, 31, 80) := ⟨sn_GT_of (i := 687) (by decide +kernel) rfl, sn_GT_of (i := 688) (by decide +kernel) rfl, sn_GT_of (i := 689) (by decide +kernel) rfl⟩
theorem sn_lvt_36 : sn_lvk (6, 41, 81) := ⟨sn_GT_of (i := 777) (by decide +kernel) rfl, sn_GT_of (i := 778) (by decide +kernel) rfl, sn_GT_of (i := 779) (by decide +kernel) rfl⟩
theorem sn_lvt_37 : sn_lvk (7, 46, 89) := ⟨sn_GT_of (i := 959) (by decide +kernel) rfl, sn_GT_of (i := 961) (by decide +kernel) rfl, sn_GT_of (i := 25) (by decide +kernel) rfl⟩
theorem sn_lvt_38 : sn_lvk (7, 62, 90) := ⟨sn_GT_of (i := 965) (by decide +kernel) rfl, sn_GT_of (i := 967) (by decide +kernel) rfl, sn_GT_of (i := 26) (by decide +kernel) rfl⟩
theorem sn_lvt_39 : sn_lvk (7, 66, 91) := ⟨sn_GT_of (i := 969) (by decide +kernel) rfl, sn_GT_of (i := 971) (by decide +kernel) rfl, sn_GT_of (i := 27) (by decide +kernel) rfl⟩
theorem sn_lvt_40 : sn_lvk (7, 81, 43) := ⟨sn_GT_of (i := 973) (by decide +kernel) rfl, sn_GT_of (i := 974) (by decide +kernel) rfl, sn_GT_of (i := 975) (by decide +kernel) rfl⟩
theorem sn_lvt_41 : sn_lvk (7, 85, 49) := ⟨sn_GT_of (i := 977) (by decide +kernel) rfl, sn_GT_of (i := 904) (by decide +kernel) rfl, sn_GT_of (i := 905) (by decide +kernel) rfl⟩
theorem sn_lvt_42 : sn_lvk (8, 59, 9) := ⟨sn_GT_of (i := 698) (by decide +kernel) rfl, sn_GT_of (i := 699) (by decide +kernel) rfl, sn_GT_of (i := 700) (by decide +kernel) rfl⟩
theorem sn_lvt_43 : sn_lvk (8, 67, 78) := ⟨sn_GT_of (i := 705) (by decide +kernel) rfl, sn_GT_of (i := 706) (by decide +kernel) rfl, sn_GT_of (i := 707) (by decide +kernel) rfl⟩
theorem sn_lvt_44 : sn_lvk (8, 76, 37) := ⟨sn_GT_of (i := 710) (by decide +kernel) rfl, sn_GT_of (i := 711) (by decide +kernel) rfl, sn_GT_of (i := 712) (by decide +kernel) rfl⟩
theorem sn_lvt_45 : sn_lvk (9, 27, 45) := ⟨sn_GT_of (i := 1030) (by decide +kernel) rfl, sn_GT_of (i := 832) (by decide +kernel) rfl, sn_GT_of (i := 833) (by decide +kernel) rfl⟩
theorem sn_lvt_46 : sn_lvk (9, 36, 100) := ⟨sn_GT_of (i := 1034) (by decide +kernel) rfl, sn_GT_of (i := 1036) (by decide +kernel) rfl, sn_GT_of (i := 29) (by decide +kernel) rfl⟩
theorem sn_lvt_47 : sn_lvk (9, 40, 46) := ⟨sn_GT_of (i := 1042) (by decide +kernel) rfl, sn_GT_of (i := 836) (by decide +kernel) rfl, sn_GT_of (i := 837) (by decide +kernel) rfl⟩
theorem sn_lvt_48 : sn_lvk (10, 72, 94) := ⟨sn_GT_of (i := 527) (by decide +kernel) rfl, sn_GT_of (i := 528) (by decide +kernel) rfl, sn_GT_of (i := 529) (by decide +kernel) rfl⟩
theorem sn_lvt_49 : sn_lvk (10, 85, 93) := ⟨sn_GT_of (i := 539) (by decide +kernel) rfl, sn_GT_of (i := 540) (by decide +kernel) rfl, sn_GT_of (i := 541) (by decide +kernel) rfl⟩
theorem sn_lvt_50 : sn_lvk (10, 93, 61) := ⟨sn_GT_of (i := 543) (by decide +kernel) rfl, sn_GT_of (i := 544) (by decide +kernel) rfl, sn_GT_of (i := 545) (by decide +kernel) rfl⟩
theorem sn_lvt_51 : sn_lvk (10, 99, 95) := ⟨sn_GT_of (i := 694) (by decide +kernel) rfl, sn_GT_of (i := 695) (by decide +kernel) rfl, sn_GT_of (i := 696) (by decide +kernel) rfl⟩
theorem sn_lvt_52 : sn_lvk (10, 103, 113) := ⟨sn_GT_of (i := 716) (by decide +kernel) rfl, sn_GT_of (i := 718) (by decide +kernel) rfl, sn_GT_of (i := 13) (by decide +kernel) rfl⟩
theorem sn_lvt_53 : sn_lvk (10, 106, 96) := ⟨sn_GT_of (i := 732) (by decide +kernel) rfl, sn_GT_of (i := 733) (by decide +kernel) rfl, sn_GT_of (i := 734) (by decide +kernel) rfl⟩
theorem sn_lvt_54 : sn_lvk (10, 118, 10) := ⟨sn_GT_of (i := 745) (by decide +kernel) rfl, sn_GT_of (i := 746) (by decide +kernel) rfl, sn_GT_of (i := 747) (by decide +kernel) rfl⟩
theorem sn_lvt_55 : sn_lvk (10, 157, 84) := ⟨sn_GT_of (i := 769) (by decide +kernel) rfl, sn_GT_of (i := 770) (by decide +kernel) rfl, sn_GT_of (i := 771) (by decide +kernel) rfl⟩
theorem sn_lvt_56 : sn_lvk (10, 161, 83) := ⟨sn_GT_of (i := 773) (by decide +kernel) rfl, sn_GT_of (i := 774) (by decide +kernel) rfl, sn_GT_of (i := 775) (by decide +kernel) rfl⟩
theorem sn_lvt_57 : sn_lvk (10, 164, 81) := ⟨sn_GT_of (i := 787) (by decide +kernel) rfl, sn_GT_of (i := 778) (by decide +kernel) rfl, sn_GT_of (i := 779) (by decide +kernel) rfl⟩
theorem sn_lvt_58 : sn_lvk (10, 172, 80) := ⟨sn_GT_of (i := 789) (by decide +kernel) rfl, sn_GT_of (i := 688) (by decide +kernel) rfl, sn_GT_of (i := 689) (by decide +kernel) rfl⟩
theorem sn_lvt_59 : sn_lvk (10, 175, 82) := ⟨sn_GT_of (i := 790) (by decide +kernel) rfl, sn_GT_of (i := 791) (by decide +kernel) rfl, sn_GT_of (i := 792) (by decide +kernel) rfl⟩
theorem sn_lvt_60 : sn_lvk (10, 178, 120) := ⟨sn_GT_of (i := 806) (by decide +kernel) rfl, sn_GT_of (i := 808) (by decide +kernel) rfl, sn_GT_of (i := 16) (by decide +kernel) rfl⟩
theorem sn_lvt_61 : sn_lvk (10, 181, 39) := ⟨sn_GT_of (i := 814) (by decide +kernel) rfl, sn_GT_of (i := 815) (by decide +kernel) rfl, sn_GT_of (i := 816) (by decide +kernel) rfl⟩
theorem sn_lvt_62 : sn_lvk (10, 185, 40) := ⟨sn_GT_of (i := 822) (by decide +kernel) rfl, sn_GT_of (i := 823) (by decide +kernel) rfl, sn_GT_of (i := 824) (by decide +kernel) rfl⟩
theorem sn_lvt_63 : sn_lvk (10, 189, 121) := ⟨sn_GT_of (i := 802) (by decide +kernel) rfl, sn_GT_of (i := 804) (by decide +kernel) rfl, sn_GT_of (i := 15) (by decide +kernel) rfl⟩
theorem sn_lvt_64 : sn_lvk (10, 193, 122) := ⟨sn_GT_of (i := 810) (by decide +kernel) rfl, sn_GT_of (i := 812) (by decide +kernel) rfl, sn_GT_of (i := 17) (by decide +kernel) rfl⟩
theorem sn_lvt_65 : sn_lvk (10, 197, 48) := ⟨sn_GT_of (i := 827) (by decide +kernel) rfl, sn_GT_of (i := 828) (by decide +kernel) rfl, sn_GT_of (i := 829) (by decide +kernel) rfl⟩
theorem sn_lvt_66 : sn_lvk (10, 200, 51) := ⟨sn_GT_of (i := 844) (by decide +kernel) rfl, sn_GT_of (i := 845) (by decide +kernel) rfl, sn_GT_of (i := 846) (by decide +kernel) rfl⟩
theorem sn_lvt_67 : sn_lvk (10, 205, 52) := ⟨sn_GT_of (i := 857) (by decide +kernel) rfl, sn_GT_of (i := 858) (by decide +kernel) rfl, sn_GT_of (i := 859) (by decide +kernel) rfl⟩
theorem sn_lvt_68 : sn_lvk (10, 208, 53) := ⟨sn_GT_of (i := 861) (by decide +kernel) rfl, sn_GT_of (i := 862) (by decide +kernel) rfl, sn_GT_of (i := 863) (by decide +kernel) rfl⟩
theorem sn_lvt_69 : sn_lvk (10, 211, 54) := ⟨sn_GT_of (i := 865) (by decide +kernel) rfl, sn_GT_of (i := 866) (by decide +kernel) rfl, sn_GT_of (i := 867) (by decide +kernel) rfl⟩
theorem sn_lvt_70 : sn_lvk (10, 224, 55) := ⟨sn_GT_of (i := 873) (by decide +kernel) rfl, sn_GT_of (i := 874) (by decide +kernel) rfl, sn_GT_of (i := 875) (by decide +kernel) rfl⟩
theorem sn_lvt_71 : sn_lvk (10, 230, 56) := ⟨sn_GT_of (i := 877) (by decide +kernel) rfl, sn_GT_of (i := 878) (by decide +kernel) rfl, sn_GT_of (i := 879) (by decide +kernel) rfl⟩
theorem sn_lvt_72 : sn_lvk (10, 236, 58) := ⟨sn_GT_of (i := 881) (by decide +kernel) rfl, sn_GT_of (i := 882) (by decide +kernel) rfl, sn_GT_of (i := 883) (by decide +kernel) rfl⟩
theorem sn_lvt_73 : sn_lvk (10, 239, 59) := ⟨sn_GT_of (i := 890) (by decide +kernel) rfl, sn_GT_of (i := 891) (by decide +kernel) rfl, sn_GT_of (i := 892) (by decide +kernel) rfl⟩
theorem sn_lvt_74 : sn_lvk (10, 242, 128) := ⟨sn_GT_of (i := 899) (by decide +kernel) rfl, sn_GT_of (i := 901) (by decide +kernel) rfl, sn_GT_of (i := 20) (by decide +kernel) rfl⟩
theorem sn_lvt_75 : sn_lvk (10, 245, 129) := ⟨sn_GT_of (i := 907) (by decide +kernel) rfl, sn_GT_of (i := 909) (by decide +kernel) rfl, sn_GT_of (i := 21) (by decide +kernel) rfl⟩
theorem sn_lvt_76 : sn_lvk (10, 248, 130) := ⟨sn_GT_of (i := 911) (by decide +kernel) rfl, sn_GT_of (i := 913) (by decide +kernel) rfl, sn_GT_of (i := 22) (by decide +kernel) rfl⟩
theorem sn_lvt_77 : sn_lvk (10, 251, 131) := ⟨sn_GT_of (i := 915) (by decide +kernel) rfl, sn_GT_of (i := 917) (by decide +kernel) rfl, sn_GT_of (i := 23) (by decide +kernel) rfl⟩
theorem sn_lvt_78 : sn_lvk (10, 257, 49) := ⟨sn_GT_of (i := 903) (by decide +kernel) rfl, sn_GT_of (i := 904) (by decide +kernel) rfl, sn_GT_of (i := 905) (by decide +kernel) rfl⟩
theorem sn_lvt_79 : sn_lvk (10, 266, 44) := ⟨sn_GT_of (i := 923) (by decide +kernel) rfl, sn_GT_of (i := 924) (by decide +kernel) rfl, sn_GT_of (i := 925) (by decide +kernel) rfl⟩
theorem sn_lvt_80 : sn_lvk (10, 275, 134) := ⟨sn_GT_of (i := 931) (by decide +kernel) rfl, sn_GT_of (i := 933) (by decide +kernel) rfl, sn_GT_of (i := 24) (by decide +kernel) rfl⟩
theorem sn_lvt_81 : sn_lvk (10, 284, 50) := ⟨sn_GT_of (i := 937) (by decide +kernel) rfl, sn_GT_of (i := 938) (by decide +kernel) rfl, sn_GT_of (i := 939) (by decide +kernel) rfl⟩
theorem sn_lvt_82 : sn_lvk (10, 298, 87) := ⟨sn_GT_of (i := 952) (by decide +kernel) rfl, sn_GT_of (i := 953) (by decide +kernel) rfl, sn_GT_of (i := 954) (by decide +kernel) rfl⟩
theorem sn_lvt_83 : sn_lvk (10, 308, 85) := ⟨sn_GT_of (i := 982) (by decide +kernel) rfl, sn_GT_of (i := 983) (by decide +kernel) rfl, sn_GT_of (i := 984) (by decide +kernel) rfl⟩
theorem sn_lvt_84 : sn_lvk (10, 312, 41) := ⟨sn_GT_of (i := 986) (by decide +kernel) rfl, sn_GT_of (i := 987) (by decide +kernel) rfl, sn_GT_of (i := 988) (by decide +kernel) rfl⟩
theorem sn_lvt_85 : sn_lvk (10, 317, 98) := ⟨sn_GT_of (i := 1026) (by decide +kernel) rfl, sn_GT_of (i := 1027) (by decide +kernel) rfl, sn_GT_of (i := 1028) (by decide +kernel) rfl⟩
theorem sn_lvt_86 : sn_lvk (10, 321, 137) := ⟨sn_GT_of (i := 999) (by decide +kernel) rfl, sn_GT_of (i := 1001) (by decide +kernel) rfl, sn_GT_of (i := 28) (by decide +kernel) rfl⟩
theorem sn_lvt_87 : sn_lvk (10, 360, 32) := ⟨sn_GT_of (i := 1078) (by decide +kernel) rfl, sn_GT_of (i := 1079) (by decide +kernel) rfl, sn_GT_of (i := 1080) (by decide +kernel) rfl⟩
theorem sn_lvt_88 : sn_lvk (10, 371, 146) := ⟨sn_GT_of (i := 1112) (by decide +kernel) rfl, sn_GT_of (i := 1114) (by decide +kernel) rfl, sn_GT_of (i := 32) (by decide +kernel) rfl⟩
theorem sn_lvt_89 : sn_lvk (10, 375, 14) := ⟨sn_GT_of (i := 1116) (by decide +kernel) rfl, sn_GT_of (i := 1117) (by decide +kernel) rfl, sn_GT_of (i := 1118) (by decide +kernel) rfl⟩
theorem sn_lvt_90 : sn_lvk (10, 393, 12) := ⟨sn_GT_of (i := 1156) (by decide +kernel) rfl, sn_GT_of (i := 1157) (by decide +kernel) rfl, sn_GT_of (i := 1158) (by decide +kernel) rfl⟩
theorem sn_lvt_91 : sn_lvk (10, 397, 152) := ⟨sn_GT_of (i := 1164) (by decide +kernel) rfl, sn_GT_of (i := 1166) (by decide +kernel) rfl, sn_GT_of (i := 33) (by decide +kernel) rfl⟩
theorem sn_lvt_92 : sn_lvk (10, 400, 20) := ⟨sn_GT_of (i := 1168) (by decide +kernel) rfl, sn_GT_of (i := 1169) (by decide +kernel) rfl, sn_GT_of (i := 1170) (by decide +kernel) rfl⟩
theorem sn_lvt_93 : sn_lvk (10, 404, 22) := ⟨sn_GT_of (i := 1175) (by decide +kernel) rfl, sn_GT_of (i := 1176) (by decide +kernel) rfl, sn_GT_of (i := 1177) (by decide +kernel) rfl⟩
theorem sn_lvt_94 : sn_lvk (10, 407, 25) := ⟨sn_GT_of (i := 1183) (by decide +kernel) rfl, sn_GT_of (i := 1184) (by decide +kernel) rfl, sn_GT_of (i := 1185) (by decide +kernel) rfl⟩
theorem sn_lvt_95 : sn_lvk (10, 410, 28) := ⟨sn_GT_of (i := 1187) (by decide +kernel) rfl, sn_GT_of (i := 1188) (by decide +kernel) rfl, sn_GT_of (i := 1189) (by decide +kernel) rfl⟩
theorem sn_lvt_96 : sn_lvk (10, 413, 24) := ⟨sn_GT_of (i := 1204) (by decide +kernel) rfl, sn_GT_of (i := 1205) (by decide +kernel) rfl, sn_GT_of (i := 1206) (by decide +kernel) rfl⟩
theorem sn_lvt_97 : sn_lvk (10, 417, 26) := ⟨sn_GT_of (i := 1212) (by decide +kernel) rfl, sn_GT_of (i := 1213) (by decide +kernel) rfl, sn_GT_of (i := 1214) (by decide +kernel) rfl⟩
theorem sn_lvt_98 : sn_lvk (10, 420, 27) := ⟨sn_GT_of (i := 1217) (by decide +kernel) rfl, sn_GT_of (i := 1218) (by decide +kernel) rfl, sn_GT_of (i := 1219) (by decide +kernel) rfl⟩
theorem sn_lvt_99 : sn_lvk (10, 423, 155) := ⟨sn_GT_of (i := 1221) (by decide +kernel) rfl, sn_GT_of (i := 1223) (by decide +kernel) rfl, sn_GT_of (i := 36) (by decide +kernel) rfl⟩
theorem sn_lvt_100 : sn_lvk (10, 426, 21) := ⟨sn_GT_of (i := 1225) (by decide +kernel) rfl, sn_GT_of (i := 1180) (by decide +kernel) rfl, sn_GT_of (i := 1181) (by decide +kernel) rfl⟩
theorem sn_lvt_101 : sn_lvk (10, 430, 23) := ⟨sn_GT_of (i := 1230) (by decide +kernel) rfl, sn_GT_of (i := 1231) (by decide +kernel) rfl, sn_GT_of (i := 1232) (by decide +kernel) rfl⟩
theorem sn_lvt_102 : sn_lvk (11, 125, 174) := ⟨sn_GT_of (i := 1435) (by decide +kernel) rfl, sn_GT_of (i := 1437) (by decide +kernel) rfl, sn_GT_of (i := 37) (by decide +kernel) rfl⟩
theorem sn_lvt_103 : sn_lvk (11, 135, 176) := ⟨sn_GT_of (i := 1462) (by decide +kernel) rfl, sn_GT_of (i := 1464) (by decide +kernel) rfl, sn_GT_of (i := 41) (by decide +kernel) rfl⟩
theorem sn_lvt_104 : sn_lvk (11, 161, 178) := ⟨sn_GT_of (i := 1495) (by decide +kernel) rfl, sn_GT_of (i := 1497) (by decide +kernel) rfl, sn_GT_of (i := 49) (by decide +kernel) rfl⟩
theorem sn_lvt_105 : sn_lvk (11, 165, 179) := ⟨sn_GT_of (i := 1487) (by decide +kernel) rfl, sn_GT_of (i := 1489) (by decide +kernel) rfl, sn_GT_of (i := 47) (by decide +kernel) rfl⟩
theorem sn_lvt_106 : sn_lvk (11, 173, 177) := ⟨sn_GT_of (i := 1458) (by decide +kernel) rfl, sn_GT_of (i := 1460) (by decide +kernel) rfl, sn_GT_of (i := 40) (by decide +kernel) rfl⟩
theorem sn_lvt_107 : sn_lvk (11, 176, 181) := ⟨sn_GT_of (i := 1483) (by decide +kernel) rfl, sn_GT_of (i := 1485) (by decide +kernel) rfl, sn_GT_of (i := 46) (by decide +kernel) rfl⟩
theorem sn_lvt_108 : sn_lvk (11, 179, 180) := ⟨sn_GT_of (i := 1491) (by decide +kernel) rfl, sn_GT_of (i := 1493) (by decide +kernel) rfl, sn_GT_of (i := 48) (by decide +kernel) rfl⟩
theorem sn_lvt_109 : sn_lvk (11, 184, 182) := ⟨sn_GT_of (i := 1479) (by decide +kernel) rfl, sn_GT_of (i := 1481) (by decide +kernel) rfl, sn_GT_of (i := 45) (by decide +kernel) rfl⟩
theorem sn_lvt_110 : sn_lvk (11, 201, 184) := ⟨sn_GT_of (i := 1509) (by decide +kernel) rfl, sn_GT_of (i := 1511) (by decide +kernel) rfl, sn_GT_of (i := 51) (by decide +kernel) rfl⟩
theorem sn_lvt_111 : sn_lvk (11, 210, 183) := ⟨sn_GT_of (i := 1474) (by decide +kernel) rfl, sn_GT_of (i := 1476) (by decide +kernel) rfl, sn_GT_of (i := 44) (by decide +kernel) rfl⟩
theorem sn_lvt_112 : sn_lvk (11, 214, 185) := ⟨sn_GT_of (i := 1501) (by decide +kernel) rfl, sn_GT_of (i := 1503) (by decide +kernel) rfl, sn_GT_of (i := 50) (by decide +kernel) rfl⟩
theorem sn_lvt_113 : sn_lvk (11, 217, 186) := ⟨sn_GT_of (i := 1513) (by decide +kernel) rfl, sn_GT_of (i := 1515) (by decide +kernel) rfl, sn_GT_of (i := 52) (by decide +kernel) rfl⟩
theorem sn_lvt_114 : sn_lvk (11, 221, 187) := ⟨sn_GT_of (i := 1519) (by decide +kernel) rfl, sn_GT_of (i := 1521) (by decide +kernel) rfl, sn_GT_of (i := 53) (by decide +kernel) rfl⟩
theorem sn_lvt_115 : sn_lvk (11, 224, 188) := ⟨sn_GT_of (i := 1470) (by decide +kernel) rfl, sn_GT_of (i := 1472) (by decide +kernel) rfl, sn_GT_of (i := 43) (by decide +kernel) rfl⟩
theorem sn_lvt_116 : sn_lvk (11, 228, 189) := ⟨sn_GT_of (i := 1466) (by decide +kernel) rfl, sn_GT_of (i := 1468) (by decide +kernel) rfl, sn_GT_of (i := 42) (by decide +kernel) rfl⟩
theorem sn_lvt_117 : sn_lvk (11, 231, 191) := ⟨sn_GT_of (i := 1528) (by decide +kernel) rfl, sn_GT_of (i := 1530) (by decide +kernel) rfl, sn_GT_of (i := 55) (by decide +kernel) rfl⟩
theorem sn_lvt_118 : sn_lvk (11, 235, 172) := ⟨sn_GT_of (i := 1450) (by decide +kernel) rfl, sn_GT_of (i := 1452) (by decide +kernel) rfl, sn_GT_of (i := 38) (by decide +kernel) rfl⟩
theorem sn_lvt_119 : sn_lvk (11, 238, 190) := ⟨sn_GT_of (i := 1454) (by decide +kernel) rfl, sn_GT_of (i := 1456) (by decide +kernel) rfl, sn_GT_of (i := 39) (by decide +kernel) rfl⟩
theorem sn_lvt_120 : sn_lvk (11, 241, 192) := ⟨sn_GT_of (i := 1524) (by decide +kernel) rfl, sn_GT_of (i := 1526) (by decide +kernel) rfl, sn_GT_of (i := 54) (by decide +kernel) rfl⟩
theorem sn_lvt_121 : sn_lvk (11, 247, 195) := ⟨sn_GT_of (i := 1544) (by decide +kernel) rfl, sn_GT_of (i := 1546) (by decide +kernel) rfl, sn_GT_of (i := 57) (by decide +kernel) rfl⟩
theorem sn_lvt_122 : sn_lvk (11, 254, 207) := ⟨sn_GT_of (i := 1548) (by decide +kernel) rfl, sn_GT_of (i := 1550) (by decide +kernel) rfl, sn_GT_of (i := 58) (by decide +kernel) rfl⟩
theorem sn_lvt_123 : sn_lvk (11, 260, 199) := ⟨sn_GT_of (i := 1564) (by decide +kernel) rfl, sn_GT_of (i := 1566) (by decide +kernel) rfl, sn_GT_of (i := 61) (by decide +kernel) rfl⟩
theorem sn_lvt_124 : sn_lvk (11, 263, 201) := ⟨sn_GT_of (i := 1584) (by decide +kernel) rfl, sn_GT_of (i := 1586) (by decide +kernel) rfl, sn_GT_of (i := 64) (by decide +kernel) rfl⟩
theorem sn_lvt_125 : sn_lvk (11, 266, 198) := ⟨sn_GT_of (i := 1560) (by decide +kernel) rfl, sn_GT_of (i := 1562) (by decide +kernel) rfl, sn_GT_of (i := 60) (by decide +kernel) rfl⟩
theorem sn_lvt_126 : sn_lvk (11, 269, 202) := ⟨sn_GT_of (i := 1588) (by decide +kernel) rfl, sn_GT_of (i := 1590) (by decide +kernel) rfl, sn_GT_of (i := 65) (by decide +kernel) rfl⟩
theorem sn_lvt_127 : sn_lvk (11, 272, 196) := ⟨sn_GT_of (i := 1540) (by decide +kernel) rfl, sn_GT_of (i := 1542) (by decide +kernel) rfl, sn_GT_of (i := 56) (by decide +kernel) rfl⟩
theorem sn_lvt_128 : sn_lvk (11, 275, 200) := ⟨sn_GT_of (i := 1556) (by decide +kernel) rfl, sn_GT_of (i := 1558) (by decide +kernel) rfl, sn_GT_of (i := 59) (by decide +kernel) rfl⟩
theorem sn_lvt_129 : sn_lvk (11, 299, 208) := ⟨sn_GT_of (i := 1602) (by decide +kernel) rfl, sn_GT_of (i := 1604) (by decide +kernel) rfl, sn_GT_of (i := 67) (by decide +kernel) rfl⟩
theorem sn_lvt_130 : sn_lvk (11, 303, 209) := ⟨sn_GT_of (i := 1606) (by decide +kernel) rfl, sn_GT_of (i := 1608) (by decide +kernel) rfl, sn_GT_of (i := 68) (by decide +kernel) rfl⟩
theorem sn_lvt_131 : sn_lvk (11, 309, 203) := ⟨sn_GT_of (i := 1580) (by decide +kernel) rfl, sn_GT_of (i := 1582) (by decide +kernel) rfl, sn_GT_of (i := 63) (by decide +kernel) rfl⟩
theorem sn_lvt_132 : sn_lvk (11, 315, 214) := ⟨sn_GT_of (i := 1576) (by decide +kernel) rfl, sn_GT_of (i := 1578) (by decide +kernel) rfl, sn_GT_of (i := 62) (by decide +kernel) rfl⟩
theorem sn_lvt_133 : sn_lvk (11, 318, 210) := ⟨sn_GT_of (i := 1592) (by decide +kernel) rfl, sn_GT_of (i := 1594) (by decide +kernel) rfl, sn_GT_of (i := 66) (by decide +kernel) rfl⟩
theorem sn_lvt_134 : sn_lvk (11, 321, 213) := ⟨sn_GT_of (i := 1610) (by decide +kernel) rfl, sn_GT_of (i := 1612) (by decide +kernel) rfl, sn_GT_of (i := 69) (by decide +kernel) rfl⟩
theorem sn_lvt_135 : sn_lvk (11, 325, 219) := ⟨sn_GT_of (i := 1619) (by decide +kernel) rfl, sn_GT_of (i := 1621) (by decide +kernel) rfl, sn_GT_of (i := 70) (by decide +kernel) rfl⟩
theorem sn_lvt_136 : sn_lvk (11, 328, 217) := ⟨sn_GT_of (i := 1623) (by decide +kernel) rfl, sn_GT_of (i := 1625) (by decide +kernel) rfl, sn_GT_of (i := 71) (by decide +kernel) rfl⟩
theorem sn_lvt_137 : sn_lvk (11, 331, 218) := ⟨sn_GT_of (i := 1627) (by decide +kernel) rfl, sn_GT_of (i := 1629) (by decide +kernel) rfl, sn_GT_of (i := 72) (by decide +kernel) rfl⟩
theorem sn_lvt_138 : sn_lvk (11, 334, 212) := ⟨sn_GT_of (i := 1631) (by decide +kernel) rfl, sn_GT_of (i := 1633) (by decide +kernel) rfl, sn_GT_of (i := 73) (by decide +kernel) rfl⟩
theorem sn_lvt_139 : sn_lvk (11, 337, 197) := ⟨sn_GT_of (i := 1643) (by decide +kernel) rfl, sn_GT_of (i := 1645) (by decide +kernel) rfl, sn_GT_of (i := 75) (by decide +kernel) rfl⟩
theorem sn_lvt_140 : sn_lvk (11, 340, 221) := ⟨sn_GT_of (i := 1639) (by decide +kernel) rfl, sn_GT_of (i := 1641) (by decide +kernel) rfl, sn_GT_of (i := 74) (by decide +kernel) rfl⟩
theorem sn_lvt_141 : sn_lvk (11, 343, 215) := ⟨sn_GT_of (i := 1651) (by decide +kernel) rfl, sn_GT_of (i := 1653) (by decide +kernel) rfl, sn_GT_of (i := 76) (by decide +kernel) rfl⟩
theorem sn_lvt_142 : sn_lvk (11, 346, 211) := ⟨sn_GT_of (i := 1662) (by decide +kernel) rfl, sn_GT_of (i := 1664) (by decide +kernel) rfl, sn_GT_of (i := 77) (by decide +kernel) rfl⟩
theorem sn_lvt_143 : sn_lvk (11, 355, 225) := ⟨sn_GT_of (i := 1686) (by decide +kernel) rfl, sn_GT_of (i := 1688) (by decide +kernel) rfl, sn_GT_of (i := 82) (by decide +kernel) rfl⟩
theorem sn_lvt_144 : sn_lvk (11, 358, 226) := ⟨sn_GT_of (i := 1690) (by decide +kernel) rfl, sn_GT_of (i := 1692) (by decide +kernel) rfl, sn_GT_of (i := 83) (by decide +kernel) rfl⟩
theorem sn_lvt_145 : sn_lvk (11, 361, 227) := ⟨sn_GT_of (i := 1682) (by decide +kernel) rfl, sn_GT_of (i := 1684) (by decide +kernel) rfl, sn_GT_of (i := 81) (by decide +kernel) rfl⟩
theorem sn_lvt_146 : sn_lvk (11, 364, 228) := ⟨sn_GT_of (i := 1678) (by decide +kernel) rfl, sn_GT_of (i := 1680) (by decide +kernel) rfl, sn_GT_of (i := 80) (by decide +kernel) rfl⟩
theorem sn_lvt_147 : sn_lvk (11, 367, 230) := ⟨sn_GT_of (i := 1670) (by decide +kernel) rfl, sn_GT_of (i := 1672) (by decide +kernel) rfl, sn_GT_of (i := 78) (by decide +kernel) rfl⟩
theorem sn_lvt_148 : sn_lvk (11, 370, 229) := ⟨sn_GT_of (i := 1674) (by decide +kernel) rfl, sn_GT_of (i := 1676) (by decide +kernel) rfl, sn_GT_of (i := 79) (by decide +kernel) rfl⟩
theorem sn_lvt_149 : sn_lvk (11, 392, 237) := ⟨sn_GT_of (i := 1715) (by decide +kernel) rfl, sn_GT_of (i := 1717) (by decide +kernel) rfl, sn_GT_of (i := 84) (by decide +kernel) rfl⟩
theorem sn_lvt_150 : sn_lvk (11, 395, 238) := ⟨sn_GT_of (i := 1719) (by decide +kernel) rfl, sn_GT_of (i := 1721) (by decide +kernel) rfl, sn_GT_of (i := 85) (by decide +kernel) rfl⟩
theorem sn_lvt_151 : sn_lvk (11, 408, 244) := ⟨sn_GT_of (i := 1735) (by decide +kernel) rfl, sn_GT_of (i := 1737) (by decide +kernel) rfl, sn_GT_of (i := 86) (by decide +kernel) rfl⟩
theorem sn_lvt_152 : sn_lvk (11, 411, 243) := ⟨sn_GT_of (i := 1739) (by decide +kernel) rfl, sn_GT_of (i := 1741) (by decide +kernel) rfl, sn_GT_of (i := 87) (by decide +kernel) rfl⟩
theorem sn_lvt_153 : sn_lvk (11, 414, 242) := ⟨sn_GT_of (i := 1743) (by decide +kernel) rfl, sn_GT_of (i := 1745) (by decide +kernel) rfl, sn_GT_of (i := 88) (by decide +kernel) rfl⟩
theorem sn_lvt_154 : sn_lvk (11, 429, 246) := ⟨sn_GT_of (i := 1755) (by decide +kernel) rfl, sn_GT_of (i := 1757) (by decide +kernel) rfl, sn_GT_of (i := 90) (by decide +kernel) rfl⟩
theorem sn_lvt_155 : sn_lvk (11, 432, 248) := ⟨sn_GT_of (i := 1759) (by decide +kernel) rfl, sn_GT_of (i := 1761) (by decide +kernel) rfl, sn_GT_of (i := 91) (by decide +kernel) rfl⟩
theorem sn_lvt_156 : sn_lvk (11, 435, 247) := ⟨sn_GT_of (i := 1751) (by decide +kernel) rfl, sn_GT_of (i := 1753) (by decide +kernel) rfl, sn_GT_of (i := 89) (by decide +kernel) rfl⟩
theorem sn_lvt_157 : sn_lvk (11, 438, 250) := ⟨sn_GT_of (i := 1763) (by decide +kernel) rfl, sn_GT_of (i := 1765) (by decide +kernel) rfl, sn_GT_of (i := 92) (by decide +kernel) rfl⟩
theorem sn_lvt_158 : sn_lvk (11, 441, 249) := ⟨sn_GT_of (i := 1767) (by decide +kernel) rfl, sn_GT_of (i := 1769) (by decide +kernel) rfl, sn_GT_of (i := 93) (by decide +kernel) rfl⟩
theorem sn_lvt_159 : sn_lvk (11, 448, 252) := ⟨sn_GT_of (i := 1775) (by decide +kernel) rfl, sn_GT_of (i := 1777) (by decide +kernel) rfl, sn_GT_of (i := 94) (by decide +kernel) rfl⟩
theorem sn_lvt_160 : sn_lvk (11, 451, 254) := ⟨sn_GT_of (i := 1784) (by decide +kernel) rfl, sn_GT_of (i := 1786) (by decide +kernel) rfl, sn_GT_of (i := 95) (by decide +kernel) rfl⟩
theorem sn_lvt_161 : sn_lvk (11, 454, 255) := ⟨sn_GT_of (i := 1788) (by decide +kernel) rfl, sn_GT_of (i := 1790) (by decide +kernel) rfl, sn_GT_of (i := 96) (by decide +kernel) rfl⟩
theorem sn_lvt_162 : sn_lvk (11, 457, 256) := ⟨sn_GT_of (i := 1792) (by decide +kernel) rfl, sn_GT_of (i := 1794) (by decide +kernel) rfl, sn_GT_of (i := 97) (by decide +kernel) rfl⟩
theorem sn_lvt_163 : sn_lvk (11, 460, 257) := ⟨sn_GT_of (i := 1796) (by decide +kernel) rfl, sn_GT_of (i := 1798) (by decide +kernel) rfl, sn_GT_of (i := 98) (by decide +kernel) rfl⟩
theorem sn_lvt_164 : sn_lvk (11, 464, 259) := ⟨sn_GT_of (i := 1804) (by decide +kernel) rfl, sn_GT_of (i := 1806) (by decide +kernel) rfl, sn_GT_of (i := 99) (by decide +kernel) rfl⟩
theorem sn_lvt_165 : sn_lvk (11, 467, 261) := ⟨sn_GT_of (i := 1816) (by decide +kernel) rfl, sn_GT_of (i := 1818) (by decide +kernel) rfl, sn_GT_of (i := 101) (by decide +kernel) rfl⟩
theorem sn_lvt_166 : sn_lvk (11, 470, 262) := ⟨sn_GT_of (i := 1812) (by decide +kernel) rfl, sn_GT_of (i := 1814) (by decide +kernel) rfl, sn_GT_of (i := 100) (by decide +kernel) rfl⟩
theorem sn_lvt_167 : sn_lvk (11, 475, 267) := ⟨sn_GT_of (i := 1841) (by decide +kernel) rfl, sn_GT_of (i := 1843) (by decide +kernel) rfl, sn_GT_of (i := 103) (by decide +kernel) rfl⟩
theorem sn_lvt_168 : sn_lvk (11, 478, 268) := ⟨sn_GT_of (i := 1837) (by decide +kernel) rfl, sn_GT_of (i := 1839) (by decide +kernel) rfl, sn_GT_of (i := 102) (by decide +kernel) rfl⟩
theorem sn_lvt_169 : sn_lvk (11, 481, 269) := ⟨sn_GT_of (i := 1845) (by decide +kernel) rfl, sn_GT_of (i := 1847) (by decide +kernel) rfl, sn_GT_of (i := 104) (by decide +kernel) rfl⟩
theorem sn_lvt_170 : sn_lvk (11, 484, 273) := ⟨sn_GT_of (i := 1861) (by decide +kernel) rfl, sn_GT_of (i := 1863) (by decide +kernel) rfl, sn_GT_of (i := 105) (by decide +kernel) rfl⟩
theorem sn_lvt_171 : sn_lvk (11, 487, 276) := ⟨sn_GT_of (i := 1873) (by decide +kernel) rfl, sn_GT_of (i := 1875) (by decide +kernel) rfl, sn_GT_of (i := 106) (by decide +kernel) rfl⟩
theorem sn_lvt_172 : sn_lvk (11, 490, 171) := ⟨sn_GT_of (i := 1897) (by decide +kernel) rfl, sn_GT_of (i := 1899) (by decide +kernel) rfl, sn_GT_of (i := 107) (by decide +kernel) rfl⟩
theorem sn_lvt_173 : sn_lvk (13, 13, 106) := ⟨sn_GT_of (i := 523) (by decide +kernel) rfl, sn_GT_of (i := 524) (by decide +kernel) rfl, sn_GT_of (i := 525) (by decide +kernel) rfl⟩
theorem sn_lvt_174 : sn_lvk (13, 17, 173) := ⟨sn_GT_of (i := 1431) (by decide +kernel) rfl, sn_GT_of (i := 1432) (by decide +kernel) rfl, sn_GT_of (i := 1433) (by decide +kernel) rfl⟩
theorem sn_lvt_175 : sn_lvk (13, 18, 107) := ⟨sn_GT_of (i := 531) (by decide +kernel) rfl, sn_GT_of (i := 532) (by decide +kernel) rfl, sn_GT_of (i := 533) (by decide +kernel) rfl⟩
theorem sn_lvt_176 : sn_lvk (13, 22, 175) := ⟨sn_GT_of (i := 1439) (by decide +kernel) rfl, sn_GT_of (i := 1440) (by decide +kernel) rfl, sn_GT_of (i := 1441) (by decide +kernel) rfl⟩
theorem sn_lvt_177 : sn_lvk (13, 23, 108) := ⟨sn_GT_of (i := 535) (by decide +kernel) rfl, sn_GT_of (i := 536) (by decide +kernel) rfl, sn_GT_of (i := 537) (by decide +kernel) rfl⟩
theorem sn_lvt_178 : sn_lvk (13, 27, 193) := ⟨sn_GT_of (i := 1446) (by decide +kernel) rfl, sn_GT_of (i := 1447) (by decide +kernel) rfl, sn_GT_of (i := 1448) (by decide +kernel) rfl⟩
theorem sn_lvt_179 : sn_lvk (13, 28, 109) := ⟨sn_GT_of (i := 720) (by decide +kernel) rfl, sn_GT_of (i := 721) (by decide +kernel) rfl, sn_GT_of (i := 722) (by decide +kernel) rfl⟩
theorem sn_lvt_180 : sn_lvk (13, 31, 194) := ⟨sn_GT_of (i := 1532) (by decide +kernel) rfl, sn_GT_of (i := 1533) (by decide +kernel) rfl, sn_GT_of (i := 1534) (by decide +kernel) rfl⟩
theorem sn_lvt_181 : sn_lvk (13, 32, 114) := ⟨sn_GT_of (i := 741) (by decide +kernel) rfl, sn_GT_of (i := 742) (by decide +kernel) rfl, sn_GT_of (i := 743) (by decide +kernel) rfl⟩
theorem sn_lvt_182 : sn_lvk (13, 35, 204) := ⟨sn_GT_of (i := 1536) (by decide +kernel) rfl, sn_GT_of (i := 1537) (by decide +kernel) rfl, sn_GT_of (i := 1538) (by decide +kernel) rfl⟩
theorem sn_lvt_183 : sn_lvk (13, 36, 115) := ⟨sn_GT_of (i := 753) (by decide +kernel) rfl, sn_GT_of (i := 754) (by decide +kernel) rfl, sn_GT_of (i := 755) (by decide +kernel) rfl⟩
theorem sn_lvt_184 : sn_lvk (13, 40, 205) := ⟨sn_GT_of (i := 1552) (by decide +kernel) rfl, sn_GT_of (i := 1553) (by decide +kernel) rfl, sn_GT_of (i := 1554) (by decide +kernel) rfl⟩
theorem sn_lvt_185 : sn_lvk (13, 41, 116) := ⟨sn_GT_of (i := 757) (by decide +kernel) rfl, sn_GT_of (i := 758) (by decide +kernel) rfl, sn_GT_of (i := 759) (by decide +kernel) rfl⟩
theorem sn_lvt_186 : sn_lvk (13, 44, 206) := ⟨sn_GT_of (i := 1568) (by decide +kernel) rfl, sn_GT_of (i := 1569) (by decide +kernel) rfl, sn_GT_of (i := 1570) (by decide +kernel) rfl⟩
theorem sn_lvt_187 : sn_lvk (13, 45, 123) := ⟨sn_GT_of (i := 798) (by decide +kernel) rfl, sn_GT_of (i := 799) (by decide +kernel) rfl, sn_GT_of (i := 800) (by decide +kernel) rfl⟩
theorem sn_lvt_188 : sn_lvk (13, 48, 216) := ⟨sn_GT_of (i := 1572) (by decide +kernel) rfl, sn_GT_of (i := 1573) (by decide +kernel) rfl, sn_GT_of (i := 1574) (by decide +kernel) rfl⟩
theorem sn_lvt_189 : sn_lvk (13, 49, 135) := ⟨sn_GT_of (i := 948) (by decide +kernel) rfl, sn_GT_of (i := 949) (by decide +kernel) rfl, sn_GT_of (i := 950) (by decide +kernel) rfl⟩
theorem sn_lvt_190 : sn_lvk (13, 52, 220) := ⟨sn_GT_of (i := 1614) (by decide +kernel) rfl, sn_GT_of (i := 1615) (by decide +kernel) rfl, sn_GT_of (i := 1616) (by decide +kernel) rfl⟩
theorem sn_lvt_191 : sn_lvk (13, 53, 136) := ⟨sn_GT_of (i := 978) (by decide +kernel) rfl, sn_GT_of (i := 979) (by decide +kernel) rfl, sn_GT_of (i := 980) (by decide +kernel) rfl⟩
theorem sn_lvt_192 : sn_lvk (13, 57, 222) := ⟨sn_GT_of (i := 1635) (by decide +kernel) rfl, sn_GT_of (i := 1636) (by decide +kernel) rfl, sn_GT_of (i := 1637) (by decide +kernel) rfl⟩
theorem sn_lvt_193 : sn_lvk (13, 58, 138) := ⟨sn_GT_of (i := 995) (by decide +kernel) rfl, sn_GT_of (i := 996) (by decide +kernel) rfl, sn_GT_of (i := 997) (by decide +kernel) rfl⟩
theorem sn_lvt_194 : sn_lvk (13, 62, 223) := ⟨sn_GT_of (i := 1647) (by decide +kernel) rfl, sn_GT_of (i := 1648) (by decide +kernel) rfl, sn_GT_of (i := 1649) (by decide +kernel) rfl⟩
theorem sn_lvt_195 : sn_lvk (13, 63, 139) := ⟨sn_GT_of (i := 1047) (by decide +kernel) rfl, sn_GT_of (i := 1048) (by decide +kernel) rfl, sn_GT_of (i := 1049) (by decide +kernel) rfl⟩
theorem sn_lvt_196 : sn_lvk (13, 67, 224) := ⟨sn_GT_of (i := 1658) (by decide +kernel) rfl, sn_GT_of (i := 1659) (by decide +kernel) rfl, sn_GT_of (i := 1660) (by decide +kernel) rfl⟩
theorem sn_lvt_197 : sn_lvk (13, 68, 142) := ⟨sn_GT_of (i := 1074) (by decide +kernel) rfl, sn_GT_of (i := 1075) (by decide +kernel) rfl, sn_GT_of (i := 1076) (by decide +kernel) rfl⟩
theorem sn_lvt_198 : sn_lvk (13, 71, 231) := ⟨sn_GT_of (i := 1666) (by decide +kernel) rfl, sn_GT_of (i := 1667) (by decide +kernel) rfl, sn_GT_of (i := 1668) (by decide +kernel) rfl⟩
theorem sn_lvt_199 : sn_lvk (13, 72, 143) := ⟨sn_GT_of (i := 1097) (by decide +kernel) rfl, sn_GT_of (i := 1098) (by decide +kernel) rfl, sn_GT_of (i := 1099) (by decide +kernel) rfl⟩
theorem sn_lvt_200 : sn_lvk (13, 76, 235) := ⟨sn_GT_of (i := 1694) (by decide +kernel) rfl, sn_GT_of (i := 1695) (by decide +kernel) rfl, sn_GT_of (i := 1696) (by decide +kernel) rfl⟩
theorem sn_lvt_201 : sn_lvk (13, 77, 149) := ⟨sn_GT_of (i := 1129) (by decide +kernel) rfl, sn_GT_of (i := 1130) (by decide +kernel) rfl, sn_GT_of (i := 1131) (by decide +kernel) rfl⟩
theorem sn_lvt_202 : sn_lvk (13, 80, 239) := ⟨sn_GT_of (i := 1708) (by decide +kernel) rfl, sn_GT_of (i := 1709) (by decide +kernel) rfl, sn_GT_of (i := 1710) (by decide +kernel) rfl⟩
theorem sn_lvt_203 : sn_lvk (13, 81, 150) := ⟨sn_GT_of (i := 1148) (by decide +kernel) rfl, sn_GT_of (i := 1149) (by decide +kernel) rfl, sn_GT_of (i := 1150) (by decide +kernel) rfl⟩
theorem sn_lvt_204 : sn_lvk (13, 85, 241) := ⟨sn_GT_of (i := 1723) (by decide +kernel) rfl, sn_GT_of (i := 1724) (by decide +kernel) rfl, sn_GT_of (i := 1725) (by decide +kernel) rfl⟩
theorem sn_lvt_205 : sn_lvk (13, 86, 117) := ⟨sn_GT_of (i := 761) (by decide +kernel) rfl, sn_GT_of (i := 762) (by decide +kernel) rfl, sn_GT_of (i := 763) (by decide +kernel) rfl⟩
theorem sn_lvt_206 : sn_lvk (13, 89, 245) := ⟨sn_GT_of (i := 1731) (by decide +kernel) rfl, sn_GT_of (i := 1732) (by decide +kernel) rfl, sn_GT_of (i := 1733) (by decide +kernel) rfl⟩
theorem sn_lvt_207 : sn_lvk (13, 90, 153) := ⟨sn_GT_of (i := 1160) (by decide +kernel) rfl, sn_GT_of (i := 1161) (by decide +kernel) rfl, sn_GT_of (i := 1162) (by decide +kernel) rfl⟩
theorem sn_lvt_208 : sn_lvk (13, 94, 251) := ⟨sn_GT_of (i := 1747) (by decide +kernel) rfl, sn_GT_of (i := 1748) (by decide +kernel) rfl, sn_GT_of (i := 1749) (by decide +kernel) rfl⟩
theorem sn_lvt_209 : sn_lvk (13, 95, 124) := ⟨sn_GT_of (i := 848) (by decide +kernel) rfl, sn_GT_of (i := 849) (by decide +kernel) rfl, sn_GT_of (i := 850) (by decide +kernel) rfl⟩
theorem sn_lvt_210 : sn_lvk (13, 98, 253) := ⟨sn_GT_of (i := 1771) (by decide +kernel) rfl, sn_GT_of (i := 1772) (by decide +kernel) rfl, sn_GT_of (i := 1773) (by decide +kernel) rfl⟩
theorem sn_lvt_211 : sn_lvk (13, 99, 125) := ⟨sn_GT_of (i := 853) (by decide +kernel) rfl, sn_GT_of (i := 854) (by decide +kernel) rfl, sn_GT_of (i := 855) (by decide +kernel) rfl⟩
theorem sn_lvt_212 : sn_lvk (13, 102, 258) := ⟨sn_GT_of (i := 1780) (by decide +kernel) rfl, sn_GT_of (i := 1781) (by decide +kernel) rfl, sn_GT_of (i := 1782) (by decide +kernel) rfl⟩
theorem sn_lvt_213 : sn_lvk (13, 103, 127) := ⟨sn_GT_of (i := 895) (by decide +kernel) rfl, sn_GT_of (i := 896) (by decide +kernel) rfl, sn_GT_of (i := 897) (by decide +kernel) rfl⟩
theorem sn_lvt_214 : sn_lvk (13, 106, 260) := ⟨sn_GT_of (i := 1800) (by decide +kernel) rfl, sn_GT_of (i := 1801) (by decide +kernel) rfl, sn_GT_of (i := 1802) (by decide +kernel) rfl⟩
theorem sn_lvt_215 : sn_lvk (13, 107, 133) := ⟨sn_GT_of (i := 927) (by decide +kernel) rfl, sn_GT_of (i := 928) (by decide +kernel) rfl, sn_GT_of (i := 929) (by decide +kernel) rfl⟩
theorem sn_lvt_216 : sn_lvk (13, 110, 263) := ⟨sn_GT_of (i := 1808) (by decide +kernel) rfl, sn_GT_of (i := 1809) (by decide +kernel) rfl, sn_GT_of (i := 1810) (by decide +kernel) rfl⟩
theorem sn_lvt_217 : sn_lvk (13, 111, 132) := ⟨sn_GT_of (i := 919) (by decide +kernel) rfl, sn_GT_of (i := 920) (by decide +kernel) rfl, sn_GT_of (i := 921) (by decide +kernel) rfl⟩
theorem sn_lvt_218 : sn_lvk (13, 114, 264) := ⟨sn_GT_of (i := 1820) (by decide +kernel) rfl, sn_GT_of (i := 1821) (by decide +kernel) rfl, sn_GT_of (i := 1822) (by decide +kernel) rfl⟩
theorem sn_lvt_219 : sn_lvk (13, 115, 140) := ⟨sn_GT_of (i := 1052) (by decide +kernel) rfl, sn_GT_of (i := 1053) (by decide +kernel) rfl, sn_GT_of (i := 1054) (by decide +kernel) rfl⟩
theorem sn_lvt_220 : sn_lvk (13, 118, 265) := ⟨sn_GT_of (i := 1824) (by decide +kernel) rfl, sn_GT_of (i := 1825) (by decide +kernel) rfl, sn_GT_of (i := 1826) (by decide +kernel) rfl⟩
theorem sn_lvt_221 : sn_lvk (13, 119, 141) := ⟨sn_GT_of (i := 1069) (by decide +kernel) rfl, sn_GT_of (i := 1070) (by decide +kernel) rfl, sn_GT_of (i := 1071) (by decide +kernel) rfl⟩
theorem sn_lvt_222 : sn_lvk (13, 122, 266) := ⟨sn_GT_of (i := 1828) (by decide +kernel) rfl, sn_GT_of (i := 1829) (by decide +kernel) rfl, sn_GT_of (i := 1830) (by decide +kernel) rfl⟩
theorem sn_lvt_223 : sn_lvk (13, 123, 118) := ⟨sn_GT_of (i := 765) (by decide +kernel) rfl, sn_GT_of (i := 766) (by decide +kernel) rfl, sn_GT_of (i := 767) (by decide +kernel) rfl⟩
theorem sn_lvt_224 : sn_lvk (13, 126, 270) := ⟨sn_GT_of (i := 1833) (by decide +kernel) rfl, sn_GT_of (i := 1834) (by decide +kernel) rfl, sn_GT_of (i := 1835) (by decide +kernel) rfl⟩
theorem sn_lvt_225 : sn_lvk (13, 127, 119) := ⟨sn_GT_of (i := 794) (by decide +kernel) rfl, sn_GT_of (i := 795) (by decide +kernel) rfl, sn_GT_of (i := 796) (by decide +kernel) rfl⟩
theorem sn_lvt_226 : sn_lvk (13, 130, 271) := ⟨sn_GT_of (i := 1849) (by decide +kernel) rfl, sn_GT_of (i := 1850) (by decide +kernel) rfl, sn_GT_of (i := 1851) (by decide +kernel) rfl⟩
theorem sn_lvt_227 : sn_lvk (13, 131, 144) := ⟨sn_GT_of (i := 1104) (by decide +kernel) rfl, sn_GT_of (i := 1105) (by decide +kernel) rfl, sn_GT_of (i := 1106) (by decide +kernel) rfl⟩
theorem sn_lvt_228 : sn_lvk (13, 134, 272) := ⟨sn_GT_of (i := 1853) (by decide +kernel) rfl, sn_GT_of (i := 1854) (by decide +kernel) rfl, sn_GT_of (i := 1855) (by decide +kernel) rfl⟩
theorem sn_lvt_229 : sn_lvk (13, 135, 145) := ⟨sn_GT_of (i := 1108) (by decide +kernel) rfl, sn_GT_of (i := 1109) (by decide +kernel) rfl, sn_GT_of (i := 1110) (by decide +kernel) rfl⟩
theorem sn_lvt_230 : sn_lvk (13, 138, 274) := ⟨sn_GT_of (i := 1857) (by decide +kernel) rfl, sn_GT_of (i := 1858) (by decide +kernel) rfl, sn_GT_of (i := 1859) (by decide +kernel) rfl⟩
theorem sn_lvt_231 : sn_lvk (13, 139, 147) := ⟨sn_GT_of (i := 1121) (by decide +kernel) rfl, sn_GT_of (i := 1122) (by decide +kernel) rfl, sn_GT_of (i := 1123) (by decide +kernel) rfl⟩
theorem sn_lvt_232 : sn_lvk (13, 142, 275) := ⟨sn_GT_of (i := 1865) (by decide +kernel) rfl, sn_GT_of (i := 1866) (by decide +kernel) rfl, sn_GT_of (i := 1867) (by decide +kernel) rfl⟩
theorem sn_lvt_233 : sn_lvk (13, 143, 151) := ⟨sn_GT_of (i := 1152) (by decide +kernel) rfl, sn_GT_of (i := 1153) (by decide +kernel) rfl, sn_GT_of (i := 1154) (by decide +kernel) rfl⟩
theorem sn_lvt_234 : sn_lvk (13, 146, 277) := ⟨sn_GT_of (i := 1869) (by decide +kernel) rfl, sn_GT_of (i := 1870) (by decide +kernel) rfl, sn_GT_of (i := 1871) (by decide +kernel) rfl⟩
theorem sn_lvt_235 : sn_lvk (13, 147, 148) := ⟨sn_GT_of (i := 1125) (by decide +kernel) rfl, sn_GT_of (i := 1126) (by decide +kernel) rfl, sn_GT_of (i := 1127) (by decide +kernel) rfl⟩
theorem sn_lvt_236 : sn_lvk (13, 150, 278) := ⟨sn_GT_of (i := 1877) (by decide +kernel) rfl, sn_GT_of (i := 1878) (by decide +kernel) rfl, sn_GT_of (i := 1879) (by decide +kernel) rfl⟩
theorem sn_lvt_237 : sn_lvk (13, 151, 154) := ⟨sn_GT_of (i := 1208) (by decide +kernel) rfl, sn_GT_of (i := 1209) (by decide +kernel) rfl, sn_GT_of (i := 1210) (by decide +kernel) rfl⟩
theorem sn_lvt_238 : sn_lvk (13, 154, 279) := ⟨sn_GT_of (i := 1881) (by decide +kernel) rfl, sn_GT_of (i := 1882) (by decide +kernel) rfl, sn_GT_of (i := 1883) (by decide +kernel) rfl⟩
theorem sn_lvt_239 : sn_lvk (13, 155, 156) := ⟨sn_GT_of (i := 1226) (by decide +kernel) rfl, sn_GT_of (i := 1227) (by decide +kernel) rfl, sn_GT_of (i := 1228) (by decide +kernel) rfl⟩
theorem sn_lvt_240 : sn_lvk (13, 159, 280) := ⟨sn_GT_of (i := 1885) (by decide +kernel) rfl, sn_GT_of (i := 1886) (by decide +kernel) rfl, sn_GT_of (i := 1887) (by decide +kernel) rfl⟩
theorem sn_lvt_241 : sn_lvk (13, 160, 110) := ⟨sn_GT_of (i := 724) (by decide +kernel) rfl, sn_GT_of (i := 725) (by decide +kernel) rfl, sn_GT_of (i := 726) (by decide +kernel) rfl⟩
theorem sn_lvt_242 : sn_lvk (13, 163, 281) := ⟨sn_GT_of (i := 1889) (by decide +kernel) rfl, sn_GT_of (i := 1890) (by decide +kernel) rfl, sn_GT_of (i := 1891) (by decide +kernel) rfl⟩
theorem sn_lvt_243 : sn_lvk (13, 164, 111) := ⟨sn_GT_of (i := 728) (by decide +kernel) rfl, sn_GT_of (i := 729) (by decide +kernel) rfl, sn_GT_of (i := 730) (by decide +kernel) rfl⟩
theorem sn_lvt_244 : sn_lvk (13, 168, 282) := ⟨sn_GT_of (i := 1893) (by decide +kernel) rfl, sn_GT_of (i := 1894) (by decide +kernel) rfl, sn_GT_of (i := 1895) (by decide +kernel) rfl⟩
theorem sn_lvt_245 : sn_lvk (13, 169, 112) := ⟨sn_GT_of (i := 737) (by decide +kernel) rfl, sn_GT_of (i := 738) (by decide +kernel) rfl, sn_GT_of (i := 739) (by decide +kernel) rfl⟩
theorem sn_lvt_246 : sn_lvk (13, 172, 283) := ⟨sn_GT_of (i := 1904) (by decide +kernel) rfl, sn_GT_of (i := 1905) (by decide +kernel) rfl, sn_GT_of (i := 1906) (by decide +kernel) rfl⟩
theorem sn_lsp_0 : sn_lpk (5, 11, 6) := ⟨sn_GT_of (i := 310) (by decide +kernel) rfl, sn_GT_of (i := 151) (by decide +kernel) rfl, rfl, rfl⟩
theorem sn_lsp_1 : sn_lpk (8, 50, 6) := ⟨sn_GT_of (i := 150) (by decide +kernel) rfl, sn_GT_of (i := 151) (by decide +kernel) rfl, rfl, rfl⟩
theorem sn_lsp_2 : sn_lpk (10, 11, 92) := ⟨sn_GT_of (i := 139) (by decide +kernel) rfl, sn_GT_of (i := 140) (by decide +kernel) rfl, rfl, rfl⟩
theorem sn_lsp_3 : sn_lpk (13, 9, 105) := ⟨sn_GT_of (i := 131) (by decide +kernel) rfl, sn_GT_of (i := 132) (by decide +kernel) rfl, rfl, rfl⟩
theorem sn_lsp_4 : sn_lpk (13, 12, 164) := ⟨sn_GT_of (i := 1236) (by decide +kernel) rfl, sn_GT_of (i := 1237) (by decide +kernel) rfl, rfl, rfl⟩
theorem sn_lspn_0 : sn_lpnk (5, 20, 76) := ⟨List.mem_of_getElem? (i := 3) rfl, sn_GT_of (i := 215) (by decide +kernel) rfl, rfl, rfl⟩
theorem sn_lspn_1 : sn_lpnk (5, 27, 35) := ⟨List.mem_of_getElem? (i := 4) rfl, sn_GT_of (i := 245) (by decide +kernel) rfl, rfl, rfl⟩
theorem sn_lspn_2 : sn_lpnk (8, 51, 76) := ⟨List.mem_of_getElem? (i := 0) rfl, sn_GT_of (i := 215) (by decide +kernel) rfl, rfl, rfl⟩
theorem sn_lspn_3 : sn_lpnk (8, 52, 35) := ⟨List.mem_of_getElem? (i := 1) rfl, sn_GT_of (i := 245) (by decide +kernel) rfl, rfl, rfl⟩
theorem sn_lspn_4 : sn_lpnk (10, 22, 60) := ⟨List.mem_of_getElem? (i := 2) rfl, sn_GT_of (i := 306) (by decide +kernel) rfl, rfl, rfl⟩
theorem sn_lspn_5 : sn_lpnk (10, 29, 38) := ⟨List.mem_of_getElem? (i := 5) rfl, sn_GT_of (i := 361) (by decide +kernel) rfl, rfl, rfl⟩
theorem sn_lspn_6 : sn_lpnk (10, 36, 86) := ⟨List.mem_of_getElem? (i := 6) rfl, sn_GT_of (i := 428) (by decide +kernel) rfl, rfl, rfl⟩
theorem sn_lspn_7 : sn_lpnk (10, 43, 31) := ⟨List.mem_of_getElem? (i := 7) rfl, sn_GT_of (i := 460) (by decide +kernel) rfl, rfl, rfl⟩
theorem sn_lspn_8 : sn_lpnk (10, 50, 19) := ⟨List.mem_of_getElem? (i := 8) rfl, sn_GT_of (i := 474) (by decide +kernel) rfl, rfl, rfl⟩
theorem sn_lspn_9 : sn_lpnk (10, 316, 97) := ⟨List.mem_of_getElem? (i := 10) rfl, sn_GT_of (i := 1005) (by decide +kernel) rfl, rfl, rfl⟩
theorem sn_lsn_0 : sn_lsnk (4, 72, 161) := ⟨List.mem_of_getElem? (i := 9) rfl, sn_GT_of (i := 820) (by decide +kernel) rfl⟩
theorem sn_ci_0 : Cond.constant (sn_ow 14) 265 1431655765 ∈ sn_GT := sn_GT_of (i := 784) (by decide +kernel) rfl
theorem sn_ci_1 : Cond.constant (sn_ow 14) 266 858993459 ∈ sn_GT := sn_GT_of (i := 785) (by decide +kernel) rfl
theorem sn_ci_2 : Cond.constant (sn_ow 14) 267 252645135 ∈ sn_GT := sn_GT_of (i := 786) (by decide +kernel) rfl
theorem sn_ci_3 : Cond.constant (sn_ow 10) 204 1103515245 ∈ sn_GT := sn_GT_of (i := 852) (by decide +kernel) rfl
theorem sn_ci_4 : Cond.constant (sn_ow 10) 278 1000000 ∈ sn_GT := sn_GT_of (i := 935) (by decide +kernel) rfl
theorem sn_ci_5 : Cond.constant (sn_ow 1) 64 1000000 ∈ sn_GT := sn_GT_of (i := 1198) (by decide +kernel) rfl
theorem sn_ci_6 : Cond.constant (sn_ow 11) 324 1000000 ∈ sn_GT := sn_GT_of (i := 1618) (by decide +kernel) rfl
theorem sn_ci_7 : Cond.constant (sn_ow 11) 447 1103515245 ∈ sn_GT := sn_GT_of (i := 1779) (by decide +kernel) rfl
theorem sn_cl_0 : Cond.constantLong (sn_ow 10) 337 (-1) ∈ sn_GT := sn_GT_of (i := 1056) (by decide +kernel) rfl
theorem sn_cl_1 : Cond.constantLong (sn_ow 10) 358 (4096) ∈ sn_GT := sn_GT_of (i := 1073) (by decide +kernel) rfl
theorem sn_cl_2 : Cond.constantLong (sn_ow 11) 182 (1885958245) ∈ sn_GT := sn_GT_of (i := 1478) (by decide +kernel) rfl
theorem sn_cl_3 : Cond.constantLong (sn_ow 11) 188 (27696064067762035) ∈ sn_GT := sn_GT_of (i := 1499) (by decide +kernel) rfl
theorem sn_cl_4 : Cond.constantLong (sn_ow 11) 190 (8319400191629685864) ∈ sn_GT := sn_GT_of (i := 1500) (by decide +kernel) rfl
theorem sn_cl_5 : Cond.constantLong (sn_ow 11) 192 (1852798053) ∈ sn_GT := sn_GT_of (i := 1505) (by decide +kernel) rfl
theorem sn_cl_6 : Cond.constantLong (sn_ow 11) 204 (500135453028) ∈ sn_GT := sn_GT_of (i := 1517) (by decide +kernel) rfl
theorem sn_cl_7 : Cond.constantLong (sn_ow 11) 206 (1919251316) ∈ sn_GT := sn_GT_of (i := 1518) (by decide +kernel) rfl
theorem sn_cl_8 : Cond.constantLong (sn_ow 11) 208 (448377483876) ∈ sn_GT := sn_GT_of (i := 1523) (by decide +kernel) rfl
theorem sn_cl_9 : Cond.constantLong (sn_ow 11) 377 (-1) ∈ sn_GT := sn_GT_of (i := 1698) (by decide +kernel) rfl
theorem sn_cl_10 : Cond.constantLong (sn_ow 11) 399 (10) ∈ sn_GT := sn_GT_of (i := 1727) (by decide +kernel) rfl
theorem sn_cl_11 : Cond.constantLong (sn_ow 11) 473 (4096) ∈ sn_GT := sn_GT_of (i := 1832) (by decide +kernel) rfl
theorem sn_gs_0 : Cond.fieldLink (sn_ow 5) 116 RX6 (sn_sn 1) "[I" ∈ sn_GT := sn_GT_of (i := 657) (by decide +kernel) rfl
theorem sn_gs_1 : Cond.fieldLink (sn_ow 5) 125 RX6 (sn_sn 0) "[I" ∈ sn_GT := sn_GT_of (i := 579) (by decide +kernel) rfl
theorem sn_gs_2 : Cond.fieldLink (sn_ow 5) 159 RX6 (sn_sn 2) "[I" ∈ sn_GT := sn_GT_of (i := 651) (by decide +kernel) rfl
theorem sn_gs_3 : Cond.fieldLink (sn_ow 5) 162 RX6 (sn_sn 3) "[I" ∈ sn_GT := sn_GT_of (i := 663) (by decide +kernel) rfl
theorem sn_gs_4 : Cond.fieldLink (sn_ow 5) 165 RX6 (sn_sn 4) "[I" ∈ sn_GT := sn_GT_of (i := 665) (by decide +kernel) rfl
theorem sn_kl_0 : sn_klk (5, 9, 0) := sn_GT_of (i := 309) (by decide +kernel) rfl
theorem sn_kl_1 : sn_klk (5, 18, 6) := sn_GT_of (i := 311) (by decide +kernel) rfl
theorem sn_kl_2 : sn_klk (5, 25, 3) := sn_GT_of (i := 313) (by decide +kernel) rfl
theorem sn_kl_3 : sn_klk (8, 29, 0) := sn_GT_of (i := 143) (by decide +kernel) rfl
theorem sn_kl_4 : sn_klk (8, 35, 6) := sn_GT_of (i := 145) (by decide +kernel) rfl
theorem sn_kl_5 : sn_klk (8, 44, 3) := sn_GT_of (i := 147) (by decide +kernel) rfl
theorem sn_kl_6 : sn_klk (10, 9, 8) := sn_GT_of (i := 137) (by decide +kernel) rfl
theorem sn_kl_7 : sn_klk (10, 20, 5) := sn_GT_of (i := 303) (by decide +kernel) rfl
theorem sn_kl_8 : sn_klk (10, 27, 4) := sn_GT_of (i := 358) (by decide +kernel) rfl
theorem sn_kl_9 : sn_klk (10, 34, 7) := sn_GT_of (i := 425) (by decide +kernel) rfl
theorem sn_kl_10 : sn_klk (10, 41, 2) := sn_GT_of (i := 457) (by decide +kernel) rfl
theorem sn_kl_11 : sn_klk (10, 48, 1) := sn_GT_of (i := 471) (by decide +kernel) rfl
theorem sn_kl_12 : sn_klk (10, 55, 9) := sn_GT_of (i := 490) (by decide +kernel) rfl
theorem sn_kl_13 : sn_klk (13, 7, 10) := sn_GT_of (i := 129) (by decide +kernel) rfl
theorem sn_kl_14 : sn_klk (13, 10, 11) := sn_GT_of (i := 1234) (by decide +kernel) rfl
theorem sn_ac_int : Cond.arrayClass .int ∈ sn_GT := sn_GT_of (i := 212) (by decide +kernel) rfl
theorem sn_ac_byte : Cond.arrayClass .byte ∈ sn_GT := sn_GT_of (i := 211) (by decide +kernel) rfl
theorem sn_ac_boolean : Cond.arrayClass .boolean ∈ sn_GT := sn_GT_of (i := 1430) (by decide +kernel) rfl
theorem sn_ac_long : Cond.arrayClass .long ∈ sn_GT := sn_GT_of (i := 1025) (by decide +kernel) rfl
theorem sn_x1007_0 : Cond.methodLink (sn_ow 0) 43 arraycopyName ∈ sn_GT := sn_GT_of (i := 702) (by decide +kernel) rfl
theorem sn_x1007_1 : Cond.methodLink (sn_ow 3) 22 arraycopyName ∈ sn_GT := sn_GT_of (i := 714) (by decide +kernel) rfl
theorem sn_x1007_2 : Cond.methodLink (sn_ow 4) 66 arraycopyName ∈ sn_GT := sn_GT_of (i := 818) (by decide +kernel) rfl
theorem sn_x1007_3 : Cond.methodLink (sn_ow 6) 25 arraycopyName ∈ sn_GT := sn_GT_of (i := 709) (by decide +kernel) rfl
theorem sn_x1007_4 : Cond.methodLink (sn_ow 7) 70 arraycopyName ∈ sn_GT := sn_GT_of (i := 963) (by decide +kernel) rfl
theorem sn_x1007_5 : Cond.methodLink (sn_ow 8) 85 arraycopyName ∈ sn_GT := sn_GT_of (i := 736) (by decide +kernel) rfl
theorem sn_x1007_6 : Cond.methodLink (sn_ow 10) 287 arraycopyName ∈ sn_GT := sn_GT_of (i := 941) (by decide +kernel) rfl
theorem sn_x1008_0 : Cond.methodLink (sn_ow 0) 3 objectInit ∈ sn_GT := sn_GT_of (i := 153) (by decide +kernel) rfl
theorem sn_x1008_1 : Cond.methodLink (sn_ow 1) 3 objectInit ∈ sn_GT := sn_GT_of (i := 476) (by decide +kernel) rfl
theorem sn_x1008_2 : Cond.methodLink (sn_ow 2) 3 objectInit ∈ sn_GT := sn_GT_of (i := 462) (by decide +kernel) rfl
theorem sn_x1008_3 : Cond.methodLink (sn_ow 3) 3 objectInit ∈ sn_GT := sn_GT_of (i := 247) (by decide +kernel) rfl
theorem sn_x1008_4 : Cond.methodLink (sn_ow 4) 3 objectInit ∈ sn_GT := sn_GT_of (i := 363) (by decide +kernel) rfl
theorem sn_x1008_5 : Cond.methodLink (sn_ow 5) 3 objectInit ∈ sn_GT := sn_GT_of (i := 308) (by decide +kernel) rfl
theorem sn_x1008_6 : Cond.methodLink (sn_ow 6) 3 objectInit ∈ sn_GT := sn_GT_of (i := 217) (by decide +kernel) rfl
theorem sn_x1008_7 : Cond.methodLink (sn_ow 7) 3 objectInit ∈ sn_GT := sn_GT_of (i := 430) (by decide +kernel) rfl
theorem sn_x1008_8 : Cond.methodLink (sn_ow 8) 3 objectInit ∈ sn_GT := sn_GT_of (i := 142) (by decide +kernel) rfl
theorem sn_x1008_9 : Cond.methodLink (sn_ow 9) 3 objectInit ∈ sn_GT := sn_GT_of (i := 1007) (by decide +kernel) rfl
theorem sn_x1008_10 : Cond.methodLink (sn_ow 10) 3 objectInit ∈ sn_GT := sn_GT_of (i := 134) (by decide +kernel) rfl
theorem sn_x1008_11 : Cond.methodLink (sn_ow 11) 1 objectInit ∈ sn_GT := sn_GT_of (i := 1239) (by decide +kernel) rfl
theorem sn_x1005_0 : Cond.methodLink (sn_ow 5) 150 ⟨"java/lang/String", "length", "()I"⟩ ∈ sn_GT := sn_GT_of (i := 595) (by decide +kernel) rfl
theorem sn_x1006_0 : Cond.methodLink (sn_ow 5) 155 ⟨"java/lang/String", "charAt", "(I)C"⟩ ∈ sn_GT := sn_GT_of (i := 605) (by decide +kernel) rfl
theorem sn_xw : Cond.native arraycopyName ∈ sn_GT ∧ Cond.static arraycopyName ∈ sn_GT ∧ Cond.initialized "java/lang/System" ∈ sn_GT ∧ Cond.instanceMethod objectInit ∈ sn_GT ∧ Cond.code objectInit ⟨#[0xb1]⟩ 1 none ∈ sn_GT := ⟨sn_GT_of (i := 704) (by decide +kernel) rfl, sn_GT_of (i := 703) (by decide +kernel) rfl, sn_GT_of (i := 125) (by decide +kernel) rfl, sn_GT_of (i := 135) (by decide +kernel) rfl, sn_GT_of (i := 136) (by decide +kernel) rfl⟩
