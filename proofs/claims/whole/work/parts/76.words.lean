theorem tl1 {w : Cond} (i : Nat) (h0 : tables_1_1[i]? = some w) : w ∈ lw_tbl := by
  have h := List.mem_of_getElem? h0
  exact List.mem_append_right _ (show w ∈ tables_1 from (List.mem_append_left _ h))
theorem tc1 {w : Cond} (i : Nat) (h0 : tables_1_1[i]? = some w) (hg : goodWord w = true) : w ∈ xTb := xTb_in (tl1 i h0) hg
theorem tl2 {w : Cond} (i : Nat) (h0 : tables_1_2[i]? = some w) : w ∈ lw_tbl := by
  have h := List.mem_of_getElem? h0
  exact List.mem_append_right _ (show w ∈ tables_1 from (List.mem_append_right _ (List.mem_append_left _ h)))
theorem tc2 {w : Cond} (i : Nat) (h0 : tables_1_2[i]? = some w) (hg : goodWord w = true) : w ∈ xTb := xTb_in (tl2 i h0) hg
theorem tl3 {w : Cond} (i : Nat) (h0 : tables_1_3[i]? = some w) : w ∈ lw_tbl := by
  have h := List.mem_of_getElem? h0
  exact List.mem_append_right _ (show w ∈ tables_1 from (List.mem_append_right _ (List.mem_append_right _ (List.mem_append_left _ h))))
theorem tc3 {w : Cond} (i : Nat) (h0 : tables_1_3[i]? = some w) (hg : goodWord w = true) : w ∈ xTb := xTb_in (tl3 i h0) hg
theorem tl4 {w : Cond} (i : Nat) (h0 : tables_1_4[i]? = some w) : w ∈ lw_tbl := by
  have h := List.mem_of_getElem? h0
  exact List.mem_append_right _ (show w ∈ tables_1 from (List.mem_append_right _ (List.mem_append_right _ (List.mem_append_right _ (List.mem_append_left _ h)))))
theorem tc4 {w : Cond} (i : Nat) (h0 : tables_1_4[i]? = some w) (hg : goodWord w = true) : w ∈ xTb := xTb_in (tl4 i h0) hg
theorem tl5 {w : Cond} (i : Nat) (h0 : tables_1_5[i]? = some w) : w ∈ lw_tbl := by
  have h := List.mem_of_getElem? h0
  exact List.mem_append_right _ (show w ∈ tables_1 from (List.mem_append_right _ (List.mem_append_right _ (List.mem_append_right _ (List.mem_append_right _ (List.mem_append_left _ h))))))
theorem tc5 {w : Cond} (i : Nat) (h0 : tables_1_5[i]? = some w) (hg : goodWord w = true) : w ∈ xTb := xTb_in (tl5 i h0) hg
theorem tl6 {w : Cond} (i : Nat) (h0 : tables_1_6[i]? = some w) : w ∈ lw_tbl := by
  have h := List.mem_of_getElem? h0
  exact List.mem_append_right _ (show w ∈ tables_1 from (List.mem_append_right _ (List.mem_append_right _ (List.mem_append_right _ (List.mem_append_right _ (List.mem_append_right _ (List.mem_append_left _ h)))))))
theorem tc6 {w : Cond} (i : Nat) (h0 : tables_1_6[i]? = some w) (hg : goodWord w = true) : w ∈ xTb := xTb_in (tl6 i h0) hg
theorem tl7 {w : Cond} (i : Nat) (h0 : tables_1_7[i]? = some w) : w ∈ lw_tbl := by
  have h := List.mem_of_getElem? h0
  exact List.mem_append_right _ (show w ∈ tables_1 from (List.mem_append_right _ (List.mem_append_right _ (List.mem_append_right _ (List.mem_append_right _ (List.mem_append_right _ (List.mem_append_right _ (List.mem_append_left _ h))))))))
theorem tc7 {w : Cond} (i : Nat) (h0 : tables_1_7[i]? = some w) (hg : goodWord w = true) : w ∈ xTb := xTb_in (tl7 i h0) hg
theorem tl8 {w : Cond} (i : Nat) (h0 : tables_1_8[i]? = some w) : w ∈ lw_tbl := by
  have h := List.mem_of_getElem? h0
  exact List.mem_append_right _ (show w ∈ tables_1 from (List.mem_append_right _ (List.mem_append_right _ (List.mem_append_right _ (List.mem_append_right _ (List.mem_append_right _ (List.mem_append_right _ (List.mem_append_right _ (List.mem_append_left _ h)))))))))
theorem tc8 {w : Cond} (i : Nat) (h0 : tables_1_8[i]? = some w) (hg : goodWord w = true) : w ∈ xTb := xTb_in (tl8 i h0) hg
theorem tl9 {w : Cond} (i : Nat) (h0 : tables_1_9[i]? = some w) : w ∈ lw_tbl := by
  have h := List.mem_of_getElem? h0
  exact List.mem_append_right _ (show w ∈ tables_1 from (List.mem_append_right _ (List.mem_append_right _ (List.mem_append_right _ (List.mem_append_right _ (List.mem_append_right _ (List.mem_append_right _ (List.mem_append_right _ (List.mem_append_right _ h)))))))))
theorem tc9 {w : Cond} (i : Nat) (h0 : tables_1_9[i]? = some w) (hg : goodWord w = true) : w ∈ xTb := xTb_in (tl9 i h0) hg
theorem tc0 {w : Cond} (i : Nat) (h0 : (k2_sels lw_privs)[i]? = some w) (hg : goodWord w = true) : w ∈ xTb := xTb_in (List.mem_append_left _ (List.mem_of_getElem? h0)) hg
theorem ly0 : lay 0 = (0, 10, [3, 37, 41, 75, 210, 213, 218, 223, 228, 233, 234, 237, 238, 249, 251, 253, 255, 0, 0]) := by decide +kernel
theorem ly1 : lay 1 = (0, 2, [0, 0, 0, 0, 0, 0, 0, 4, 5, 6, 32, 33, 34, 35, 36]) := by decide +kernel
theorem ly2 : lay 2 = (1, 24, []) := by decide +kernel
theorem ly3 : lay 3 = (1, 24, []) := by decide +kernel
theorem ly4 : lay 4 = (5, 25, [5, 1]) := by decide +kernel
theorem lr4 (i : Nat) (h : i < 25) : lay (5 + i) = (1, 6, []) := (show ∀ i : Fin 25, lay (5 + i.val) = (1, 6, []) by decide +kernel) ⟨i, h⟩
theorem ly30 : lay 30 = (2, 24, []) := by decide +kernel
theorem ly31 : lay 31 = (1, 8, []) := by decide +kernel
theorem ly32 : lay 32 = (1, 6, []) := by decide +kernel
theorem ly33 : lay 33 = (1, 6, []) := by decide +kernel
theorem ly34 : lay 34 = (1, 6, []) := by decide +kernel
theorem ly35 : lay 35 = (0, 5, [0, 0, 0, 38, 39, 40, 3, 0, 0, 0, 0, 0, 0, 0]) := by decide +kernel
theorem ly36 : lay 36 = (1, 900, []) := by decide +kernel
theorem ly37 : lay 37 = (1, 8, []) := by decide +kernel
theorem ly38 : lay 38 = (1, 8, []) := by decide +kernel
theorem ly39 : lay 39 = (0, 2, [0, 0, 0, 0, 0, 0, 0, 42, 43, 44, 70, 71, 72, 73, 74]) := by decide +kernel
theorem ly40 : lay 40 = (1, 24, []) := by decide +kernel
theorem ly41 : lay 41 = (1, 24, []) := by decide +kernel
theorem ly42 : lay 42 = (5, 25, [43, 1]) := by decide +kernel
theorem lr42 (i : Nat) (h : i < 25) : lay (43 + i) = (1, 6, []) := (show ∀ i : Fin 25, lay (43 + i.val) = (1, 6, []) by decide +kernel) ⟨i, h⟩
theorem ly68 : lay 68 = (2, 24, []) := by decide +kernel
theorem ly69 : lay 69 = (1, 8, []) := by decide +kernel
theorem ly70 : lay 70 = (1, 6, []) := by decide +kernel
theorem ly71 : lay 71 = (1, 6, []) := by decide +kernel
theorem ly72 : lay 72 = (1, 6, []) := by decide +kernel
theorem ly73 : lay 73 = (0, 1, [41, 76, 102, 128, 154, 180, 181, 206, 207, 208, 209]) := by decide +kernel
theorem ly74 : lay 74 = (5, 25, [75, 1]) := by decide +kernel
theorem lr74 (i : Nat) (h : i < 25) : lay (75 + i) = (1, 24, []) := (show ∀ i : Fin 25, lay (75 + i.val) = (1, 24, []) by decide +kernel) ⟨i, h⟩
theorem ly100 : lay 100 = (5, 25, [101, 1]) := by decide +kernel
theorem lr100 (i : Nat) (h : i < 25) : lay (101 + i) = (1, 24, []) := (show ∀ i : Fin 25, lay (101 + i.val) = (1, 24, []) by decide +kernel) ⟨i, h⟩
theorem ly126 : lay 126 = (5, 25, [127, 1]) := by decide +kernel
theorem lr126 (i : Nat) (h : i < 25) : lay (127 + i) = (1, 24, []) := (show ∀ i : Fin 25, lay (127 + i.val) = (1, 24, []) by decide +kernel) ⟨i, h⟩
theorem ly152 : lay 152 = (5, 25, [153, 1]) := by decide +kernel
theorem lr152 (i : Nat) (h : i < 25) : lay (153 + i) = (1, 24, []) := (show ∀ i : Fin 25, lay (153 + i.val) = (1, 24, []) by decide +kernel) ⟨i, h⟩
theorem ly178 : lay 178 = (1, 25, []) := by decide +kernel
theorem ly179 : lay 179 = (5, 24, [180, 1]) := by decide +kernel
theorem lr179 (i : Nat) (h : i < 24) : lay (180 + i) = (1, 25, []) := (show ∀ i : Fin 24, lay (180 + i.val) = (1, 25, []) by decide +kernel) ⟨i, h⟩
theorem ly204 : lay 204 = (1, 24, []) := by decide +kernel
theorem ly205 : lay 205 = (1, 25, []) := by decide +kernel
theorem ly206 : lay 206 = (1, 25, []) := by decide +kernel
theorem ly207 : lay 207 = (1, 25, []) := by decide +kernel
theorem ly208 : lay 208 = (0, 3, [41, 75, 211, 212]) := by decide +kernel
theorem ly209 : lay 209 = (1, 24, []) := by decide +kernel
theorem ly210 : lay 210 = (1, 24, []) := by decide +kernel
theorem ly211 : lay 211 = (0, 9, [0, 0, 0, 0, 0, 0, 41, 214, 215, 216, 217, 0, 0, 0, 0, 0, 0, 0]) := by decide +kernel
theorem ly212 : lay 212 = (1, 26, []) := by decide +kernel
theorem ly213 : lay 213 = (1, 24, []) := by decide +kernel
theorem ly214 : lay 214 = (1, 3, []) := by decide +kernel
theorem ly215 : lay 215 = (1, 3, []) := by decide +kernel
theorem ly216 : lay 216 = (0, 9, [0, 0, 0, 0, 0, 0, 41, 219, 220, 221, 222, 0, 0, 0, 0, 0, 0, 0]) := by decide +kernel
theorem ly217 : lay 217 = (1, 26, []) := by decide +kernel
theorem ly218 : lay 218 = (1, 24, []) := by decide +kernel
theorem ly219 : lay 219 = (1, 3, []) := by decide +kernel
theorem ly220 : lay 220 = (1, 3, []) := by decide +kernel
theorem ly221 : lay 221 = (0, 9, [0, 0, 0, 0, 0, 0, 41, 224, 225, 226, 227, 0, 0, 0, 0, 0, 0, 0]) := by decide +kernel
theorem ly222 : lay 222 = (1, 26, []) := by decide +kernel
theorem ly223 : lay 223 = (1, 24, []) := by decide +kernel
theorem ly224 : lay 224 = (1, 3, []) := by decide +kernel
theorem ly225 : lay 225 = (1, 3, []) := by decide +kernel
theorem ly226 : lay 226 = (0, 9, [0, 0, 0, 0, 0, 0, 41, 229, 230, 231, 232, 0, 0, 0, 0, 0, 0, 0]) := by decide +kernel
theorem ly227 : lay 227 = (1, 26, []) := by decide +kernel
theorem ly228 : lay 228 = (1, 24, []) := by decide +kernel
theorem ly229 : lay 229 = (1, 3, []) := by decide +kernel
theorem ly230 : lay 230 = (1, 3, []) := by decide +kernel
theorem ly231 : lay 231 = (1, 26, []) := by decide +kernel
theorem ly232 : lay 232 = (0, 0, [41, 75, 235, 236, 0, 0]) := by decide +kernel
theorem ly233 : lay 233 = (1, 2925, []) := by decide +kernel
theorem ly234 : lay 234 = (1, 11700, []) := by decide +kernel
theorem ly235 : lay 235 = (0, 8, [41, 75, 234]) := by decide +kernel
theorem ly236 : lay 236 = (0, 7, [41, 75, 239, 240, 244, 1, 1, 247, 248, 0, 0, 0, 0]) := by decide +kernel
theorem ly237 : lay 237 = (1, 26, []) := by decide +kernel
theorem ly238 : lay 238 = (5, 3, [239, 1]) := by decide +kernel
theorem lr238 (i : Nat) (h : i < 3) : lay (239 + i) = (1, 25, []) := (show ∀ i : Fin 3, lay (239 + i.val) = (1, 25, []) by decide +kernel) ⟨i, h⟩
theorem ly242 : lay 242 = (1, 25, []) := by decide +kernel
theorem ly243 : lay 243 = (1, 15625, []) := by decide +kernel
theorem ly244 : lay 244 = (1, 15625, []) := by decide +kernel
theorem ly245 : lay 245 = (1, 489, []) := by decide +kernel
theorem ly246 : lay 246 = (1, 489, []) := by decide +kernel
theorem ly247 : lay 247 = (0, 6, [41, 75, 250]) := by decide +kernel
theorem ly248 : lay 248 = (1, 26, []) := by decide +kernel
theorem ly249 : lay 249 = (0, 4, [0, 0, 0, 252]) := by decide +kernel
theorem ly250 : lay 250 = (1, 3, []) := by decide +kernel
theorem ly251 : lay 251 = (0, 4, [0, 0, 0, 254]) := by decide +kernel
theorem ly252 : lay 252 = (1, 3, []) := by decide +kernel
theorem ly253 : lay 253 = (4, 3, [254, 2]) := by decide +kernel
theorem ly254 : lay 254 = (0, 4, [0, 0, 0, 257]) := by decide +kernel
theorem ly255 : lay 255 = (1, 3, []) := by decide +kernel
theorem ly256 : lay 256 = (0, 4, [0, 0, 0, 259]) := by decide +kernel
theorem ly257 : lay 257 = (1, 3, []) := by decide +kernel
theorem ly258 : lay 258 = (0, 4, [0, 0, 0, 261]) := by decide +kernel
theorem ly259 : lay 259 = (1, 3, []) := by decide +kernel
theorem ly260 : lay 260 = (0, 11, [0, 263, 0, 0, 0, 0, 0, 0, 0, 0, 0, 0, 264, 0, 0, 265, 266, 267, 268, 0, 269, 270, 271, 272, 273, 274, 275, 276, 277, 0, 0, 0, 0, 0, 278, 279, 280, 281]) := by decide +kernel
theorem ly261 : lay 261 = (1, 900, []) := by decide +kernel
theorem ly262 : lay 262 = (1, 8, []) := by decide +kernel
theorem ly263 : lay 263 = (1, 322, []) := by decide +kernel
theorem ly264 : lay 264 = (1, 322, []) := by decide +kernel
theorem ly265 : lay 265 = (1, 6, []) := by decide +kernel
theorem ly266 : lay 266 = (1, 18, []) := by decide +kernel
theorem ly267 : lay 267 = (1, 600, []) := by decide +kernel
theorem ly268 : lay 268 = (1, 24, []) := by decide +kernel
theorem ly269 : lay 269 = (1, 25, []) := by decide +kernel
theorem ly270 : lay 270 = (1, 24, []) := by decide +kernel
theorem ly271 : lay 271 = (1, 24, []) := by decide +kernel
theorem ly272 : lay 272 = (1, 26, []) := by decide +kernel
theorem ly273 : lay 273 = (1, 26, []) := by decide +kernel
theorem ly274 : lay 274 = (1, 3, []) := by decide +kernel
theorem ly275 : lay 275 = (1, 3, []) := by decide +kernel
theorem ly276 : lay 276 = (1, 140625, []) := by decide +kernel
theorem ly277 : lay 277 = (1, 15625, []) := by decide +kernel
theorem ly278 : lay 278 = (1, 15625, []) := by decide +kernel
theorem ly279 : lay 279 = (3, 62500, []) := by decide +kernel
theorem ly280 : lay 280 = (3, 1, []) := by decide +kernel
theorem inT0 : ∀ w ∈ u_ws RX0 TX0 6, w ∈ xTb := tbs [442, 444, 446, 448, 450, 452] (by decide +kernel) (by decide +kernel)
theorem inT1 : ∀ w ∈ u_ws RX1 TX1 11, w ∈ xTb := tbs [321, 323, 325, 327, 329, 331, 333, 335, 337, 339, 341] (by decide +kernel) (by decide +kernel)
theorem inT2 : ∀ w ∈ u_ws RX2 TX2 15, w ∈ xTb := tbs [218, 220, 222, 224, 226, 228, 230, 232, 234, 236, 238, 240, 242, 244, 246] (by decide +kernel) (by decide +kernel)
theorem inT3 : ∀ w ∈ u_ws RX3 TX3 4, w ∈ xTb := tbs [354, 356, 358, 360] (by decide +kernel) (by decide +kernel)
theorem inT4 : ∀ w ∈ u_ws RX4 TX4 4, w ∈ xTb := tbs [552, 554, 556, 558] (by decide +kernel) (by decide +kernel)
theorem inT5 : ∀ w ∈ u_ws RX5 TX5 14, w ∈ xTb := tbs [274, 276, 278, 280, 282, 284, 286, 288, 290, 292, 294, 296, 298, 300] (by decide +kernel) (by decide +kernel)
theorem inT6 : ∀ w ∈ u_ws RX6 TX6 3, w ∈ xTb := tbs [527, 529, 531] (by decide +kernel) (by decide +kernel)
theorem inT7 : ∀ w ∈ u_ws RX7 TX7 13, w ∈ xTb := tbs [491, 493, 495, 497, 499, 501, 503, 505, 507, 509, 511, 513, 515] (by decide +kernel) (by decide +kernel)
theorem inT8 : ∀ w ∈ u_ws RX8 TX8 3, w ∈ xTb := tbs [464, 466, 468] (by decide +kernel) (by decide +kernel)
theorem inT9 : ∀ w ∈ u_ws RX9 TX9 18, w ∈ xTb := tbs [393, 395, 397, 399, 401, 403, 405, 407, 409, 411, 413, 415, 417, 419, 421, 423, 425, 427] (by decide +kernel) (by decide +kernel)
theorem inT10 : ∀ w ∈ u_ws RX10 TX10 19, w ∈ xTb := tbs [581, 583, 585, 587, 589, 591, 593, 595, 597, 599, 601, 603, 605, 607, 609, 611, 613, 615, 617] (by decide +kernel) (by decide +kernel)
theorem inT11 : ∀ w ∈ u_ws RX11 TX11 38, w ∈ xTb := tbs [1604, 1606, 1608, 1610, 1612, 1614, 1616, 1618, 1620, 1622, 1624, 1626, 1628, 1630, 1632, 1634, 1636, 1638, 1640, 1642, 1644, 1646, 1648, 1650, 1652, 1654, 1656, 1658, 1660, 1662, 1664, 1666, 1668, 1670, 1672, 1674, 1676, 1678] (by decide +kernel) (by decide +kernel)
set_option maxRecDepth 100000 in
theorem fl_X2_45 : Cond.fieldLink RX2 45 (TX2 0).1 (TX2 0).2.1 (TX2 0).2.2.1 ∈ xTb := tc1 44 rfl rfl
set_option maxRecDepth 100000 in
theorem fl_X8_39 : Cond.fieldLink RX8 39 (TX2 0).1 (TX2 0).2.1 (TX2 0).2.2.1 ∈ xTb := tc1 45 rfl rfl
set_option maxRecDepth 100000 in
theorem fl_X0_77 : Cond.fieldLink RX0 77 (TX2 0).1 (TX2 0).2.1 (TX2 0).2.2.1 ∈ xTb := tc1 46 rfl rfl
set_option maxRecDepth 100000 in
theorem fl_X9_95 : Cond.fieldLink RX9 95 (TX2 0).1 (TX2 0).2.1 (TX2 0).2.2.1 ∈ xTb := tc1 47 rfl rfl
set_option maxRecDepth 100000 in
theorem fl_X7_106 : Cond.fieldLink RX7 106 (TX2 0).1 (TX2 0).2.1 (TX2 0).2.2.1 ∈ xTb := tc1 48 rfl rfl
set_option maxRecDepth 100000 in
theorem fl_X5_127 : Cond.fieldLink RX5 127 (TX2 0).1 (TX2 0).2.1 (TX2 0).2.2.1 ∈ xTb := tc1 49 rfl rfl
set_option maxRecDepth 100000 in
theorem fl_X10_203 : Cond.fieldLink RX10 203 (TX2 0).1 (TX2 0).2.1 (TX2 0).2.2.1 ∈ xTb := tc1 50 rfl rfl
set_option maxRecDepth 100000 in
theorem fl_X2_49 : Cond.fieldLink RX2 49 (TX2 1).1 (TX2 1).2.1 (TX2 1).2.2.1 ∈ xTb := tc1 51 rfl rfl
set_option maxRecDepth 100000 in
theorem fl_X5_131 : Cond.fieldLink RX5 131 (TX2 1).1 (TX2 1).2.1 (TX2 1).2.2.1 ∈ xTb := tc1 52 rfl rfl
set_option maxRecDepth 100000 in
theorem fl_X10_361 : Cond.fieldLink RX10 361 (TX2 1).1 (TX2 1).2.1 (TX2 1).2.2.1 ∈ xTb := tc1 53 rfl rfl
set_option maxRecDepth 100000 in
theorem fl_X2_52 : Cond.fieldLink RX2 52 (TX2 2).1 (TX2 2).2.1 (TX2 2).2.2.1 ∈ xTb := tc1 54 rfl rfl
set_option maxRecDepth 100000 in
theorem fl_X1_64 : Cond.fieldLink RX1 64 (TX2 2).1 (TX2 2).2.1 (TX2 2).2.2.1 ∈ xTb := tc1 55 rfl rfl
set_option maxRecDepth 100000 in
theorem fl_X5_140 : Cond.fieldLink RX5 140 (TX2 2).1 (TX2 2).2.1 (TX2 2).2.2.1 ∈ xTb := tc1 56 rfl rfl
set_option maxRecDepth 100000 in
theorem fl_X2_55 : Cond.fieldLink RX2 55 (TX2 3).1 (TX2 3).2.1 (TX2 3).2.2.1 ∈ xTb := tc1 57 rfl rfl
set_option maxRecDepth 100000 in
theorem fl_X3_38 : Cond.fieldLink RX3 38 (TX2 3).1 (TX2 3).2.1 (TX2 3).2.2.1 ∈ xTb := tc1 58 rfl rfl
set_option maxRecDepth 100000 in
theorem fl_X5_80 : Cond.fieldLink RX5 80 (TX2 3).1 (TX2 3).2.1 (TX2 3).2.2.1 ∈ xTb := tc1 59 rfl rfl
set_option maxRecDepth 100000 in
theorem fl_X10_364 : Cond.fieldLink RX10 364 (TX2 3).1 (TX2 3).2.1 (TX2 3).2.2.1 ∈ xTb := tc1 60 rfl rfl
set_option maxRecDepth 100000 in
theorem fl_X9_38 : Cond.fieldLink RX9 38 (TX2 4).1 (TX2 4).2.1 (TX2 4).2.2.1 ∈ xTb := tc1 61 rfl rfl
set_option maxRecDepth 100000 in
theorem fl_X2_58 : Cond.fieldLink RX2 58 (TX2 4).1 (TX2 4).2.1 (TX2 4).2.2.1 ∈ xTb := tc1 62 rfl rfl
set_option maxRecDepth 100000 in
theorem fl_X10_137 : Cond.fieldLink RX10 137 (TX2 4).1 (TX2 4).2.1 (TX2 4).2.2.1 ∈ xTb := tc1 63 rfl rfl
set_option maxRecDepth 100000 in
theorem fl_X6_53 : Cond.fieldLink RX6 53 (TX2 4).1 (TX2 4).2.1 (TX2 4).2.2.1 ∈ xTb := tc1 64 rfl rfl
set_option maxRecDepth 100000 in
theorem fl_X5_83 : Cond.fieldLink RX5 83 (TX2 4).1 (TX2 4).2.1 (TX2 4).2.2.1 ∈ xTb := tc1 65 rfl rfl
set_option maxRecDepth 100000 in
theorem fl_X0_65 : Cond.fieldLink RX0 65 (TX2 4).1 (TX2 4).2.1 (TX2 4).2.2.1 ∈ xTb := tc1 66 rfl rfl
set_option maxRecDepth 100000 in
theorem fl_X2_61 : Cond.fieldLink RX2 61 (TX2 5).1 (TX2 5).2.1 (TX2 5).2.2.1 ∈ xTb := tc1 67 rfl rfl
set_option maxRecDepth 100000 in
theorem fl_X0_94 : Cond.fieldLink RX0 94 (TX2 5).1 (TX2 5).2.1 (TX2 5).2.2.1 ∈ xTb := tc1 68 rfl rfl
set_option maxRecDepth 100000 in
theorem fl_X5_179 : Cond.fieldLink RX5 179 (TX2 5).1 (TX2 5).2.1 (TX2 5).2.2.1 ∈ xTb := tc1 69 rfl rfl
set_option maxRecDepth 100000 in
theorem fl_X10_303 : Cond.fieldLink RX10 303 (TX2 5).1 (TX2 5).2.1 (TX2 5).2.2.1 ∈ xTb := tc1 70 rfl rfl
set_option maxRecDepth 100000 in
theorem fl_X6_23 : Cond.fieldLink RX6 23 (TX2 6).1 (TX2 6).2.1 (TX2 6).2.2.1 ∈ xTb := tc1 71 rfl rfl
set_option maxRecDepth 100000 in
theorem fl_X2_64 : Cond.fieldLink RX2 64 (TX2 6).1 (TX2 6).2.1 (TX2 6).2.2.1 ∈ xTb := tc1 72 rfl rfl
set_option maxRecDepth 100000 in
theorem fl_X5_188 : Cond.fieldLink RX5 188 (TX2 6).1 (TX2 6).2.1 (TX2 6).2.2.1 ∈ xTb := tc1 73 rfl rfl
set_option maxRecDepth 100000 in
theorem fl_X10_330 : Cond.fieldLink RX10 330 (TX2 6).1 (TX2 6).2.1 (TX2 6).2.2.1 ∈ xTb := tc1 74 rfl rfl
set_option maxRecDepth 100000 in
theorem fl_X2_9 : Cond.fieldLink RX2 9 (TX2 7).1 (TX2 7).2.1 (TX2 7).2.2.1 ∈ xTb := tc1 75 rfl rfl
set_option maxRecDepth 100000 in
theorem fl_X2_15 : Cond.fieldLink RX2 15 (TX2 8).1 (TX2 8).2.1 (TX2 8).2.2.1 ∈ xTb := tc1 76 rfl rfl
set_option maxRecDepth 100000 in
theorem fl_X2_20 : Cond.fieldLink RX2 20 (TX2 9).1 (TX2 9).2.1 (TX2 9).2.2.1 ∈ xTb := tc1 77 rfl rfl
set_option maxRecDepth 100000 in
theorem fl_X2_23 : Cond.fieldLink RX2 23 (TX2 10).1 (TX2 10).2.1 (TX2 10).2.2.1 ∈ xTb := tc1 78 rfl rfl
set_option maxRecDepth 100000 in
theorem fl_X2_27 : Cond.fieldLink RX2 27 (TX2 11).1 (TX2 11).2.1 (TX2 11).2.2.1 ∈ xTb := tc1 79 rfl rfl
set_option maxRecDepth 100000 in
theorem fl_X2_30 : Cond.fieldLink RX2 30 (TX2 12).1 (TX2 12).2.1 (TX2 12).2.2.1 ∈ xTb := tc1 80 rfl rfl
set_option maxRecDepth 100000 in
theorem fl_X2_33 : Cond.fieldLink RX2 33 (TX2 13).1 (TX2 13).2.1 (TX2 13).2.2.1 ∈ xTb := tc1 81 rfl rfl
set_option maxRecDepth 100000 in
theorem fl_X2_36 : Cond.fieldLink RX2 36 (TX2 14).1 (TX2 14).2.1 (TX2 14).2.2.1 ∈ xTb := tc1 82 rfl rfl
set_option maxRecDepth 100000 in
theorem fl_X5_25 : Cond.fieldLink RX5 25 (TX5 0).1 (TX5 0).2.1 (TX5 0).2.2.1 ∈ xTb := tc1 122 rfl rfl
set_option maxRecDepth 100000 in
theorem fl_X10_112 : Cond.fieldLink RX10 112 (TX5 0).1 (TX5 0).2.1 (TX5 0).2.2.1 ∈ xTb := tc1 123 rfl rfl
set_option maxRecDepth 100000 in
theorem fl_X10_143 : Cond.fieldLink RX10 143 (TX5 1).1 (TX5 1).2.1 (TX5 1).2.2.1 ∈ xTb := tc1 124 rfl rfl
set_option maxRecDepth 100000 in
theorem fl_X5_45 : Cond.fieldLink RX5 45 (TX5 1).1 (TX5 1).2.1 (TX5 1).2.2.1 ∈ xTb := tc1 125 rfl rfl
set_option maxRecDepth 100000 in
theorem fl_X5_48 : Cond.fieldLink RX5 48 (TX5 2).1 (TX5 2).2.1 (TX5 2).2.2.1 ∈ xTb := tc1 126 rfl rfl
set_option maxRecDepth 100000 in
theorem fl_X10_149 : Cond.fieldLink RX10 149 (TX5 2).1 (TX5 2).2.1 (TX5 2).2.2.1 ∈ xTb := tc1 127 rfl rfl
set_option maxRecDepth 100000 in
theorem fl_X5_9 : Cond.fieldLink RX5 9 (TX5 3).1 (TX5 3).2.1 (TX5 3).2.2.1 ∈ xTb := tc1 128 rfl rfl
set_option maxRecDepth 100000 in
theorem fl_X5_15 : Cond.fieldLink RX5 15 (TX5 4).1 (TX5 4).2.1 (TX5 4).2.2.1 ∈ xTb := tc1 129 rfl rfl
set_option maxRecDepth 100000 in
theorem fl_X5_18 : Cond.fieldLink RX5 18 (TX5 5).1 (TX5 5).2.1 (TX5 5).2.2.1 ∈ xTb := tc1 130 rfl rfl
set_option maxRecDepth 100000 in
theorem fl_X5_21 : Cond.fieldLink RX5 21 (TX5 6).1 (TX5 6).2.1 (TX5 6).2.2.1 ∈ xTb := tc1 131 rfl rfl
set_option maxRecDepth 100000 in
theorem fl_X5_38 : Cond.fieldLink RX5 38 (TX5 7).1 (TX5 7).2.1 (TX5 7).2.2.1 ∈ xTb := tc1 132 rfl rfl
set_option maxRecDepth 100000 in
theorem fl_X5_42 : Cond.fieldLink RX5 42 (TX5 8).1 (TX5 8).2.1 (TX5 8).2.2.1 ∈ xTb := tc1 133 rfl rfl
set_option maxRecDepth 100000 in
theorem fl_X5_57 : Cond.fieldLink RX5 57 (TX5 9).1 (TX5 9).2.1 (TX5 9).2.2.1 ∈ xTb := tc1 134 rfl rfl
set_option maxRecDepth 100000 in
theorem fl_X5_70 : Cond.fieldLink RX5 70 (TX5 10).1 (TX5 10).2.1 (TX5 10).2.2.1 ∈ xTb := tc1 135 rfl rfl
set_option maxRecDepth 100000 in
theorem fl_X5_150 : Cond.fieldLink RX5 150 (TX5 11).1 (TX5 11).2.1 (TX5 11).2.2.1 ∈ xTb := tc1 136 rfl rfl
set_option maxRecDepth 100000 in
theorem fl_X5_60 : Cond.fieldLink RX5 60 (TX5 12).1 (TX5 12).2.1 (TX5 12).2.2.1 ∈ xTb := tc1 137 rfl rfl
set_option maxRecDepth 100000 in
theorem fl_X5_124 : Cond.fieldLink RX5 124 (TX5 13).1 (TX5 13).2.1 (TX5 13).2.2.1 ∈ xTb := tc1 138 rfl rfl
set_option maxRecDepth 100000 in
theorem fl_X1_44 : Cond.fieldLink RX1 44 (TX1 0).1 (TX1 0).2.1 (TX1 0).2.2.1 ∈ xTb := tc1 175 rfl rfl
set_option maxRecDepth 100000 in
theorem fl_X1_11 : Cond.fieldLink RX1 11 (TX1 1).1 (TX1 1).2.1 (TX1 1).2.2.1 ∈ xTb := tc1 176 rfl rfl
set_option maxRecDepth 100000 in
theorem fl_X1_16 : Cond.fieldLink RX1 16 (TX1 2).1 (TX1 2).2.1 (TX1 2).2.2.1 ∈ xTb := tc1 177 rfl rfl
set_option maxRecDepth 100000 in
theorem fl_X1_19 : Cond.fieldLink RX1 19 (TX1 3).1 (TX1 3).2.1 (TX1 3).2.2.1 ∈ xTb := tc1 178 rfl rfl
set_option maxRecDepth 100000 in
theorem fl_X1_22 : Cond.fieldLink RX1 22 (TX1 4).1 (TX1 4).2.1 (TX1 4).2.2.1 ∈ xTb := tc1 179 rfl rfl
set_option maxRecDepth 100000 in
theorem fl_X1_25 : Cond.fieldLink RX1 25 (TX1 5).1 (TX1 5).2.1 (TX1 5).2.2.1 ∈ xTb := tc1 180 rfl rfl
set_option maxRecDepth 100000 in
theorem fl_X1_29 : Cond.fieldLink RX1 29 (TX1 6).1 (TX1 6).2.1 (TX1 6).2.2.1 ∈ xTb := tc1 181 rfl rfl
set_option maxRecDepth 100000 in
theorem fl_X1_32 : Cond.fieldLink RX1 32 (TX1 7).1 (TX1 7).2.1 (TX1 7).2.2.1 ∈ xTb := tc1 182 rfl rfl
set_option maxRecDepth 100000 in
theorem fl_X1_35 : Cond.fieldLink RX1 35 (TX1 8).1 (TX1 8).2.1 (TX1 8).2.2.1 ∈ xTb := tc1 183 rfl rfl
set_option maxRecDepth 100000 in
theorem fl_X1_38 : Cond.fieldLink RX1 38 (TX1 9).1 (TX1 9).2.1 (TX1 9).2.2.1 ∈ xTb := tc1 184 rfl rfl
set_option maxRecDepth 100000 in
theorem fl_X1_41 : Cond.fieldLink RX1 41 (TX1 10).1 (TX1 10).2.1 (TX1 10).2.2.1 ∈ xTb := tc1 185 rfl rfl
set_option maxRecDepth 100000 in
theorem fl_X3_18 : Cond.fieldLink RX3 18 (TX3 0).1 (TX3 0).2.1 (TX3 0).2.2.1 ∈ xTb := tc1 215 rfl rfl
set_option maxRecDepth 100000 in
theorem fl_X3_22 : Cond.fieldLink RX3 22 (TX3 1).1 (TX3 1).2.1 (TX3 1).2.2.1 ∈ xTb := tc1 216 rfl rfl
set_option maxRecDepth 100000 in
theorem fl_X3_9 : Cond.fieldLink RX3 9 (TX3 2).1 (TX3 2).2.1 (TX3 2).2.2.1 ∈ xTb := tc1 217 rfl rfl
set_option maxRecDepth 100000 in
theorem fl_X3_15 : Cond.fieldLink RX3 15 (TX3 3).1 (TX3 3).2.1 (TX3 3).2.2.1 ∈ xTb := tc1 218 rfl rfl
set_option maxRecDepth 100000 in
theorem fl_X9_86 : Cond.fieldLink RX9 86 (TX9 0).1 (TX9 0).2.1 (TX9 0).2.2.1 ∈ xTb := tc1 234 rfl rfl
set_option maxRecDepth 100000 in
theorem fl_X10_270 : Cond.fieldLink RX10 270 (TX9 0).1 (TX9 0).2.1 (TX9 0).2.2.1 ∈ xTb := tc1 235 rfl rfl
set_option maxRecDepth 100000 in
theorem fl_X9_70 : Cond.fieldLink RX9 70 (TX9 1).1 (TX9 1).2.1 (TX9 1).2.2.1 ∈ xTb := tc1 236 rfl rfl
set_option maxRecDepth 100000 in
theorem fl_X10_197 : Cond.fieldLink RX10 197 (TX9 1).1 (TX9 1).2.1 (TX9 1).2.2.1 ∈ xTb := tc1 237 rfl rfl
set_option maxRecDepth 100000 in
theorem fl_X9_73 : Cond.fieldLink RX9 73 (TX9 2).1 (TX9 2).2.1 (TX9 2).2.2.1 ∈ xTb := tc1 238 rfl rfl
set_option maxRecDepth 100000 in
theorem fl_X10_200 : Cond.fieldLink RX10 200 (TX9 2).1 (TX9 2).2.1 (TX9 2).2.2.1 ∈ xTb := tc1 239 rfl rfl
set_option maxRecDepth 100000 in
theorem fl_X9_76 : Cond.fieldLink RX9 76 (TX9 3).1 (TX9 3).2.1 (TX9 3).2.2.1 ∈ xTb := tc2 0 rfl rfl
set_option maxRecDepth 100000 in
theorem fl_X10_209 : Cond.fieldLink RX10 209 (TX9 3).1 (TX9 3).2.1 (TX9 3).2.2.1 ∈ xTb := tc2 1 rfl rfl
set_option maxRecDepth 100000 in
theorem fl_X9_79 : Cond.fieldLink RX9 79 (TX9 4).1 (TX9 4).2.1 (TX9 4).2.2.1 ∈ xTb := tc2 2 rfl rfl
set_option maxRecDepth 100000 in
theorem fl_X10_212 : Cond.fieldLink RX10 212 (TX9 4).1 (TX9 4).2.1 (TX9 4).2.2.1 ∈ xTb := tc2 3 rfl rfl
set_option maxRecDepth 100000 in
theorem fl_X9_89 : Cond.fieldLink RX9 89 (TX9 5).1 (TX9 5).2.1 (TX9 5).2.2.1 ∈ xTb := tc2 4 rfl rfl
set_option maxRecDepth 100000 in
theorem fl_X10_218 : Cond.fieldLink RX10 218 (TX9 5).1 (TX9 5).2.1 (TX9 5).2.2.1 ∈ xTb := tc2 5 rfl rfl
set_option maxRecDepth 100000 in
theorem fl_X9_24 : Cond.fieldLink RX9 24 (TX9 6).1 (TX9 6).2.1 (TX9 6).2.2.1 ∈ xTb := tc2 6 rfl rfl
set_option maxRecDepth 100000 in
theorem fl_X9_9 : Cond.fieldLink RX9 9 (TX9 7).1 (TX9 7).2.1 (TX9 7).2.2.1 ∈ xTb := tc2 7 rfl rfl
set_option maxRecDepth 100000 in
theorem fl_X9_15 : Cond.fieldLink RX9 15 (TX9 8).1 (TX9 8).2.1 (TX9 8).2.2.1 ∈ xTb := tc2 8 rfl rfl
set_option maxRecDepth 100000 in
theorem fl_X9_18 : Cond.fieldLink RX9 18 (TX9 9).1 (TX9 9).2.1 (TX9 9).2.2.1 ∈ xTb := tc2 9 rfl rfl
set_option maxRecDepth 100000 in
theorem fl_X9_21 : Cond.fieldLink RX9 21 (TX9 10).1 (TX9 10).2.1 (TX9 10).2.2.1 ∈ xTb := tc2 10 rfl rfl
set_option maxRecDepth 100000 in
theorem fl_X9_63 : Cond.fieldLink RX9 63 (TX9 11).1 (TX9 11).2.1 (TX9 11).2.2.1 ∈ xTb := tc2 11 rfl rfl
set_option maxRecDepth 100000 in
theorem fl_X9_51 : Cond.fieldLink RX9 51 (TX9 12).1 (TX9 12).2.1 (TX9 12).2.2.1 ∈ xTb := tc2 12 rfl rfl
set_option maxRecDepth 100000 in
theorem fl_X9_34 : Cond.fieldLink RX9 34 (TX9 13).1 (TX9 13).2.1 (TX9 13).2.2.1 ∈ xTb := tc2 13 rfl rfl
set_option maxRecDepth 100000 in
theorem fl_X9_54 : Cond.fieldLink RX9 54 (TX9 14).1 (TX9 14).2.1 (TX9 14).2.2.1 ∈ xTb := tc2 14 rfl rfl
set_option maxRecDepth 100000 in
theorem fl_X9_57 : Cond.fieldLink RX9 57 (TX9 15).1 (TX9 15).2.1 (TX9 15).2.2.1 ∈ xTb := tc2 15 rfl rfl
set_option maxRecDepth 100000 in
theorem fl_X9_67 : Cond.fieldLink RX9 67 (TX9 16).1 (TX9 16).2.1 (TX9 16).2.2.1 ∈ xTb := tc2 16 rfl rfl
set_option maxRecDepth 100000 in
theorem fl_X9_60 : Cond.fieldLink RX9 60 (TX9 17).1 (TX9 17).2.1 (TX9 17).2.2.1 ∈ xTb := tc2 17 rfl rfl
set_option maxRecDepth 100000 in
theorem fl_X0_18 : Cond.fieldLink RX0 18 (TX0 0).1 (TX0 0).2.1 (TX0 0).2.2.1 ∈ xTb := tc2 61 rfl rfl
set_option maxRecDepth 100000 in
theorem fl_X0_22 : Cond.fieldLink RX0 22 (TX0 1).1 (TX0 1).2.1 (TX0 1).2.2.1 ∈ xTb := tc2 62 rfl rfl
set_option maxRecDepth 100000 in
theorem fl_X0_11 : Cond.fieldLink RX0 11 (TX0 2).1 (TX0 2).2.1 (TX0 2).2.2.1 ∈ xTb := tc2 63 rfl rfl
set_option maxRecDepth 100000 in
theorem fl_X0_15 : Cond.fieldLink RX0 15 (TX0 3).1 (TX0 3).2.1 (TX0 3).2.2.1 ∈ xTb := tc2 64 rfl rfl
set_option maxRecDepth 100000 in
theorem fl_X0_26 : Cond.fieldLink RX0 26 (TX0 4).1 (TX0 4).2.1 (TX0 4).2.2.1 ∈ xTb := tc2 65 rfl rfl
set_option maxRecDepth 100000 in
theorem fl_X0_36 : Cond.fieldLink RX0 36 (TX0 5).1 (TX0 5).2.1 (TX0 5).2.2.1 ∈ xTb := tc2 66 rfl rfl
set_option maxRecDepth 100000 in
theorem fl_X8_9 : Cond.fieldLink RX8 9 (TX8 0).1 (TX8 0).2.1 (TX8 0).2.2.1 ∈ xTb := tc2 86 rfl rfl
set_option maxRecDepth 100000 in
theorem fl_X8_15 : Cond.fieldLink RX8 15 (TX8 1).1 (TX8 1).2.1 (TX8 1).2.2.1 ∈ xTb := tc2 87 rfl rfl
set_option maxRecDepth 100000 in
theorem fl_X8_19 : Cond.fieldLink RX8 19 (TX8 2).1 (TX8 2).2.1 (TX8 2).2.2.1 ∈ xTb := tc2 88 rfl rfl
set_option maxRecDepth 100000 in
theorem fl_X7_35 : Cond.fieldLink RX7 35 (TX7 0).1 (TX7 0).2.1 (TX7 0).2.2.1 ∈ xTb := tc2 103 rfl rfl
set_option maxRecDepth 100000 in
theorem fl_X7_39 : Cond.fieldLink RX7 39 (TX7 1).1 (TX7 1).2.1 (TX7 1).2.2.1 ∈ xTb := tc2 104 rfl rfl
set_option maxRecDepth 100000 in
theorem fl_X7_9 : Cond.fieldLink RX7 9 (TX7 2).1 (TX7 2).2.1 (TX7 2).2.2.1 ∈ xTb := tc2 105 rfl rfl
set_option maxRecDepth 100000 in
theorem fl_X7_17 : Cond.fieldLink RX7 17 (TX7 3).1 (TX7 3).2.1 (TX7 3).2.2.1 ∈ xTb := tc2 106 rfl rfl
set_option maxRecDepth 100000 in
theorem fl_X7_20 : Cond.fieldLink RX7 20 (TX7 4).1 (TX7 4).2.1 (TX7 4).2.2.1 ∈ xTb := tc2 107 rfl rfl
set_option maxRecDepth 100000 in
theorem fl_X7_23 : Cond.fieldLink RX7 23 (TX7 5).1 (TX7 5).2.1 (TX7 5).2.2.1 ∈ xTb := tc2 108 rfl rfl
set_option maxRecDepth 100000 in
theorem fl_X7_26 : Cond.fieldLink RX7 26 (TX7 6).1 (TX7 6).2.1 (TX7 6).2.2.1 ∈ xTb := tc2 109 rfl rfl
set_option maxRecDepth 100000 in
theorem fl_X7_29 : Cond.fieldLink RX7 29 (TX7 7).1 (TX7 7).2.1 (TX7 7).2.2.1 ∈ xTb := tc2 110 rfl rfl
set_option maxRecDepth 100000 in
theorem fl_X7_32 : Cond.fieldLink RX7 32 (TX7 8).1 (TX7 8).2.1 (TX7 8).2.2.1 ∈ xTb := tc2 111 rfl rfl
set_option maxRecDepth 100000 in
theorem fl_X7_75 : Cond.fieldLink RX7 75 (TX7 9).1 (TX7 9).2.1 (TX7 9).2.2.1 ∈ xTb := tc2 112 rfl rfl
set_option maxRecDepth 100000 in
theorem fl_X7_78 : Cond.fieldLink RX7 78 (TX7 10).1 (TX7 10).2.1 (TX7 10).2.2.1 ∈ xTb := tc2 113 rfl rfl
set_option maxRecDepth 100000 in
theorem fl_X7_98 : Cond.fieldLink RX7 98 (TX7 11).1 (TX7 11).2.1 (TX7 11).2.2.1 ∈ xTb := tc2 114 rfl rfl
set_option maxRecDepth 100000 in
theorem fl_X7_57 : Cond.fieldLink RX7 57 (TX7 12).1 (TX7 12).2.1 (TX7 12).2.2.1 ∈ xTb := tc2 115 rfl rfl
set_option maxRecDepth 100000 in
theorem fl_X6_15 : Cond.fieldLink RX6 15 (TX6 0).1 (TX6 0).2.1 (TX6 0).2.2.1 ∈ xTb := tc2 149 rfl rfl
set_option maxRecDepth 100000 in
theorem fl_X6_19 : Cond.fieldLink RX6 19 (TX6 1).1 (TX6 1).2.1 (TX6 1).2.2.1 ∈ xTb := tc2 150 rfl rfl
set_option maxRecDepth 100000 in
theorem fl_X6_9 : Cond.fieldLink RX6 9 (TX6 2).1 (TX6 2).2.1 (TX6 2).2.2.1 ∈ xTb := tc2 151 rfl rfl
set_option maxRecDepth 100000 in
theorem fl_X4_21 : Cond.fieldLink RX4 21 (TX4 0).1 (TX4 0).2.1 (TX4 0).2.2.1 ∈ xTb := tc2 166 rfl rfl
set_option maxRecDepth 100000 in
theorem fl_X8_61 : Cond.fieldLink RX8 61 (TX4 0).1 (TX4 0).2.1 (TX4 0).2.2.1 ∈ xTb := tc2 167 rfl rfl
set_option maxRecDepth 100000 in
theorem fl_X10_345 : Cond.fieldLink RX10 345 (TX4 0).1 (TX4 0).2.1 (TX4 0).2.2.1 ∈ xTb := tc2 168 rfl rfl
set_option maxRecDepth 100000 in
theorem fl_X8_23 : Cond.fieldLink RX8 23 (TX4 1).1 (TX4 1).2.1 (TX4 1).2.2.1 ∈ xTb := tc2 169 rfl rfl
set_option maxRecDepth 100000 in
theorem fl_X4_25 : Cond.fieldLink RX4 25 (TX4 1).1 (TX4 1).2.1 (TX4 1).2.2.1 ∈ xTb := tc2 170 rfl rfl
set_option maxRecDepth 100000 in
theorem fl_X0_43 : Cond.fieldLink RX0 43 (TX4 1).1 (TX4 1).2.1 (TX4 1).2.2.1 ∈ xTb := tc2 171 rfl rfl
set_option maxRecDepth 100000 in
theorem fl_X7_95 : Cond.fieldLink RX7 95 (TX4 1).1 (TX4 1).2.1 (TX4 1).2.2.1 ∈ xTb := tc2 172 rfl rfl
set_option maxRecDepth 100000 in
theorem fl_X10_243 : Cond.fieldLink RX10 243 (TX4 1).1 (TX4 1).2.1 (TX4 1).2.2.1 ∈ xTb := tc2 173 rfl rfl
set_option maxRecDepth 100000 in
theorem fl_X4_28 : Cond.fieldLink RX4 28 (TX4 2).1 (TX4 2).2.1 (TX4 2).2.2.1 ∈ xTb := tc2 174 rfl rfl
set_option maxRecDepth 100000 in
theorem fl_X10_295 : Cond.fieldLink RX10 295 (TX4 2).1 (TX4 2).2.1 (TX4 2).2.2.1 ∈ xTb := tc2 175 rfl rfl
set_option maxRecDepth 100000 in
theorem fl_X4_9 : Cond.fieldLink RX4 9 (TX4 3).1 (TX4 3).2.1 (TX4 3).2.2.1 ∈ xTb := tc2 176 rfl rfl
set_option maxRecDepth 100000 in
theorem fl_X10_12 : Cond.fieldLink RX10 12 (TX10 0).1 (TX10 0).2.1 (TX10 0).2.2.1 ∈ xTb := tc2 187 rfl rfl
set_option maxRecDepth 100000 in
theorem fl_X10_21 : Cond.fieldLink RX10 21 (TX10 1).1 (TX10 1).2.1 (TX10 1).2.2.1 ∈ xTb := tc2 188 rfl rfl
set_option maxRecDepth 100000 in
theorem fl_X10_25 : Cond.fieldLink RX10 25 (TX10 2).1 (TX10 2).2.1 (TX10 2).2.2.1 ∈ xTb := tc2 189 rfl rfl
set_option maxRecDepth 100000 in
theorem fl_X10_31 : Cond.fieldLink RX10 31 (TX10 3).1 (TX10 3).2.1 (TX10 3).2.2.1 ∈ xTb := tc2 190 rfl rfl
set_option maxRecDepth 100000 in
theorem fl_X10_40 : Cond.fieldLink RX10 40 (TX10 4).1 (TX10 4).2.1 (TX10 4).2.2.1 ∈ xTb := tc2 191 rfl rfl
set_option maxRecDepth 100000 in
theorem fl_X10_47 : Cond.fieldLink RX10 47 (TX10 5).1 (TX10 5).2.1 (TX10 5).2.2.1 ∈ xTb := tc2 192 rfl rfl
set_option maxRecDepth 100000 in
theorem fl_X10_51 : Cond.fieldLink RX10 51 (TX10 6).1 (TX10 6).2.1 (TX10 6).2.2.1 ∈ xTb := tc2 193 rfl rfl
set_option maxRecDepth 100000 in
theorem fl_X10_54 : Cond.fieldLink RX10 54 (TX10 7).1 (TX10 7).2.1 (TX10 7).2.2.1 ∈ xTb := tc2 194 rfl rfl
set_option maxRecDepth 100000 in
theorem fl_X10_57 : Cond.fieldLink RX10 57 (TX10 8).1 (TX10 8).2.1 (TX10 8).2.2.1 ∈ xTb := tc2 195 rfl rfl
set_option maxRecDepth 100000 in
theorem fl_X10_60 : Cond.fieldLink RX10 60 (TX10 9).1 (TX10 9).2.1 (TX10 9).2.2.1 ∈ xTb := tc2 196 rfl rfl
set_option maxRecDepth 100000 in
theorem fl_X10_67 : Cond.fieldLink RX10 67 (TX10 10).1 (TX10 10).2.1 (TX10 10).2.2.1 ∈ xTb := tc2 197 rfl rfl
set_option maxRecDepth 100000 in
theorem fl_X10_76 : Cond.fieldLink RX10 76 (TX10 11).1 (TX10 11).2.1 (TX10 11).2.2.1 ∈ xTb := tc2 198 rfl rfl
set_option maxRecDepth 100000 in
theorem fl_X10_83 : Cond.fieldLink RX10 83 (TX10 12).1 (TX10 12).2.1 (TX10 12).2.2.1 ∈ xTb := tc2 199 rfl rfl
set_option maxRecDepth 100000 in
theorem fl_X10_90 : Cond.fieldLink RX10 90 (TX10 13).1 (TX10 13).2.1 (TX10 13).2.2.1 ∈ xTb := tc2 200 rfl rfl
set_option maxRecDepth 100000 in
theorem fl_X10_97 : Cond.fieldLink RX10 97 (TX10 14).1 (TX10 14).2.1 (TX10 14).2.2.1 ∈ xTb := tc2 201 rfl rfl
set_option maxRecDepth 100000 in
theorem fl_X10_101 : Cond.fieldLink RX10 101 (TX10 15).1 (TX10 15).2.1 (TX10 15).2.2.1 ∈ xTb := tc2 202 rfl rfl
set_option maxRecDepth 100000 in
theorem fl_X10_104 : Cond.fieldLink RX10 104 (TX10 16).1 (TX10 16).2.1 (TX10 16).2.2.1 ∈ xTb := tc2 203 rfl rfl
set_option maxRecDepth 100000 in
theorem fl_X10_325 : Cond.fieldLink RX10 325 (TX10 17).1 (TX10 17).2.1 (TX10 17).2.2.1 ∈ xTb := tc2 204 rfl rfl
set_option maxRecDepth 100000 in
theorem fl_X10_146 : Cond.fieldLink RX10 146 (TX10 18).1 (TX10 18).2.1 (TX10 18).2.2.1 ∈ xTb := tc2 205 rfl rfl
set_option maxRecDepth 100000 in
theorem cn_J6_265 : Cond.constant RJ6 265 (Int32.ofInt 1431655765) ∈ xTb := tc6 14 rfl rfl
set_option maxRecDepth 100000 in
theorem cn_J6_266 : Cond.constant RJ6 266 (Int32.ofInt 858993459) ∈ xTb := tc6 15 rfl rfl
set_option maxRecDepth 100000 in
theorem cn_J6_267 : Cond.constant RJ6 267 (Int32.ofInt 252645135) ∈ xTb := tc6 16 rfl rfl
set_option maxRecDepth 100000 in
theorem cn_X11_59 : Cond.constant RX11 59 (Int32.ofInt 140625) ∈ xTb := tc6 229 rfl rfl
set_option maxRecDepth 100000 in
theorem cn_X11_69 : Cond.constant RX11 69 (Int32.ofInt 62500) ∈ xTb := tc6 230 rfl rfl
set_option maxRecDepth 100000 in
theorem fl_X11_74 : Cond.fieldLink RX11 74 (TX11 0).1 (TX11 0).2.1 (TX11 0).2.2.1 ∈ xTb := tc6 231 rfl rfl
set_option maxRecDepth 100000 in
theorem fl_X11_7 : Cond.fieldLink RX11 7 (TX11 1).1 (TX11 1).2.1 (TX11 1).2.2.1 ∈ xTb := tc6 232 rfl rfl
set_option maxRecDepth 100000 in
theorem fl_X11_80 : Cond.fieldLink RX11 80 (TX11 2).1 (TX11 2).2.1 (TX11 2).2.2.1 ∈ xTb := tc6 233 rfl rfl
set_option maxRecDepth 100000 in
theorem fl_X11_83 : Cond.fieldLink RX11 83 (TX11 3).1 (TX11 3).2.1 (TX11 3).2.2.1 ∈ xTb := tc6 234 rfl rfl
set_option maxRecDepth 100000 in
theorem fl_X11_93 : Cond.fieldLink RX11 93 (TX11 4).1 (TX11 4).2.1 (TX11 4).2.2.1 ∈ xTb := tc6 235 rfl rfl
set_option maxRecDepth 100000 in
theorem fl_X11_86 : Cond.fieldLink RX11 86 (TX11 5).1 (TX11 5).2.1 (TX11 5).2.2.1 ∈ xTb := tc6 236 rfl rfl
set_option maxRecDepth 100000 in
theorem fl_X11_102 : Cond.fieldLink RX11 102 (TX11 6).1 (TX11 6).2.1 (TX11 6).2.2.1 ∈ xTb := tc6 237 rfl rfl
set_option maxRecDepth 100000 in
theorem fl_X11_99 : Cond.fieldLink RX11 99 (TX11 7).1 (TX11 7).2.1 (TX11 7).2.2.1 ∈ xTb := tc6 238 rfl rfl
set_option maxRecDepth 100000 in
theorem fl_X11_96 : Cond.fieldLink RX11 96 (TX11 8).1 (TX11 8).2.1 (TX11 8).2.2.1 ∈ xTb := tc6 239 rfl rfl
set_option maxRecDepth 100000 in
theorem fl_X11_116 : Cond.fieldLink RX11 116 (TX11 9).1 (TX11 9).2.1 (TX11 9).2.2.1 ∈ xTb := tc7 0 rfl rfl
set_option maxRecDepth 100000 in
theorem fl_X11_13 : Cond.fieldLink RX11 13 (TX11 10).1 (TX11 10).2.1 (TX11 10).2.2.1 ∈ xTb := tc7 1 rfl rfl
set_option maxRecDepth 100000 in
theorem fl_X11_77 : Cond.fieldLink RX11 77 (TX11 11).1 (TX11 11).2.1 (TX11 11).2.2.1 ∈ xTb := tc7 2 rfl rfl
set_option maxRecDepth 100000 in
theorem fl_X11_17 : Cond.fieldLink RX11 17 (TX11 12).1 (TX11 12).2.1 (TX11 12).2.2.1 ∈ xTb := tc7 3 rfl rfl
set_option maxRecDepth 100000 in
theorem fl_X11_112 : Cond.fieldLink RX11 112 (TX11 13).1 (TX11 13).2.1 (TX11 13).2.2.1 ∈ xTb := tc7 4 rfl rfl
set_option maxRecDepth 100000 in
theorem fl_X11_164 : Cond.fieldLink RX11 164 (TX11 14).1 (TX11 14).2.1 (TX11 14).2.2.1 ∈ xTb := tc7 5 rfl rfl
set_option maxRecDepth 100000 in
theorem fl_X11_20 : Cond.fieldLink RX11 20 (TX11 15).1 (TX11 15).2.1 (TX11 15).2.2.1 ∈ xTb := tc7 6 rfl rfl
set_option maxRecDepth 100000 in
theorem fl_X11_23 : Cond.fieldLink RX11 23 (TX11 16).1 (TX11 16).2.1 (TX11 16).2.2.1 ∈ xTb := tc7 7 rfl rfl
set_option maxRecDepth 100000 in
theorem fl_X11_26 : Cond.fieldLink RX11 26 (TX11 17).1 (TX11 17).2.1 (TX11 17).2.2.1 ∈ xTb := tc7 8 rfl rfl
set_option maxRecDepth 100000 in
theorem fl_X11_29 : Cond.fieldLink RX11 29 (TX11 18).1 (TX11 18).2.1 (TX11 18).2.2.1 ∈ xTb := tc7 9 rfl rfl
set_option maxRecDepth 100000 in
theorem fl_X11_174 : Cond.fieldLink RX11 174 (TX11 19).1 (TX11 19).2.1 (TX11 19).2.2.1 ∈ xTb := tc7 10 rfl rfl
set_option maxRecDepth 100000 in
theorem fl_X11_32 : Cond.fieldLink RX11 32 (TX11 20).1 (TX11 20).2.1 (TX11 20).2.2.1 ∈ xTb := tc7 11 rfl rfl
set_option maxRecDepth 100000 in
theorem fl_X11_35 : Cond.fieldLink RX11 35 (TX11 21).1 (TX11 21).2.1 (TX11 21).2.2.1 ∈ xTb := tc7 12 rfl rfl
set_option maxRecDepth 100000 in
theorem fl_X11_38 : Cond.fieldLink RX11 38 (TX11 22).1 (TX11 22).2.1 (TX11 22).2.2.1 ∈ xTb := tc7 13 rfl rfl
set_option maxRecDepth 100000 in
theorem fl_X11_41 : Cond.fieldLink RX11 41 (TX11 23).1 (TX11 23).2.1 (TX11 23).2.2.1 ∈ xTb := tc7 14 rfl rfl
set_option maxRecDepth 100000 in
theorem fl_X11_44 : Cond.fieldLink RX11 44 (TX11 24).1 (TX11 24).2.1 (TX11 24).2.2.1 ∈ xTb := tc7 15 rfl rfl
set_option maxRecDepth 100000 in
theorem fl_X11_47 : Cond.fieldLink RX11 47 (TX11 25).1 (TX11 25).2.1 (TX11 25).2.2.1 ∈ xTb := tc7 16 rfl rfl
set_option maxRecDepth 100000 in
theorem fl_X11_50 : Cond.fieldLink RX11 50 (TX11 26).1 (TX11 26).2.1 (TX11 26).2.2.1 ∈ xTb := tc7 17 rfl rfl
set_option maxRecDepth 100000 in
theorem fl_X11_53 : Cond.fieldLink RX11 53 (TX11 27).1 (TX11 27).2.1 (TX11 27).2.2.1 ∈ xTb := tc7 18 rfl rfl
set_option maxRecDepth 100000 in
theorem fl_X11_56 : Cond.fieldLink RX11 56 (TX11 28).1 (TX11 28).2.1 (TX11 28).2.2.1 ∈ xTb := tc7 19 rfl rfl
set_option maxRecDepth 100000 in
theorem fl_X11_258 : Cond.fieldLink RX11 258 (TX11 29).1 (TX11 29).2.1 (TX11 29).2.2.1 ∈ xTb := tc7 20 rfl rfl
set_option maxRecDepth 100000 in
theorem fl_X11_261 : Cond.fieldLink RX11 261 (TX11 30).1 (TX11 30).2.1 (TX11 30).2.2.1 ∈ xTb := tc7 21 rfl rfl
set_option maxRecDepth 100000 in
theorem fl_X11_264 : Cond.fieldLink RX11 264 (TX11 31).1 (TX11 31).2.1 (TX11 31).2.2.1 ∈ xTb := tc7 22 rfl rfl
set_option maxRecDepth 100000 in
theorem fl_X11_267 : Cond.fieldLink RX11 267 (TX11 32).1 (TX11 32).2.1 (TX11 32).2.2.1 ∈ xTb := tc7 23 rfl rfl
set_option maxRecDepth 100000 in
theorem fl_X11_270 : Cond.fieldLink RX11 270 (TX11 33).1 (TX11 33).2.1 (TX11 33).2.2.1 ∈ xTb := tc7 24 rfl rfl
set_option maxRecDepth 100000 in
theorem fl_X11_60 : Cond.fieldLink RX11 60 (TX11 34).1 (TX11 34).2.1 (TX11 34).2.2.1 ∈ xTb := tc7 25 rfl rfl
set_option maxRecDepth 100000 in
theorem fl_X11_63 : Cond.fieldLink RX11 63 (TX11 35).1 (TX11 35).2.1 (TX11 35).2.2.1 ∈ xTb := tc7 26 rfl rfl
set_option maxRecDepth 100000 in
theorem fl_X11_66 : Cond.fieldLink RX11 66 (TX11 36).1 (TX11 36).2.1 (TX11 36).2.2.1 ∈ xTb := tc7 27 rfl rfl
set_option maxRecDepth 100000 in
theorem fl_X11_70 : Cond.fieldLink RX11 70 (TX11 37).1 (TX11 37).2.1 (TX11 37).2.2.1 ∈ xTb := tc7 28 rfl rfl
set_option maxRecDepth 100000 in
theorem cnl : Cond.constantLong RX11 370 (Int64.ofInt (-1)) ∈ xTb := tc9 4 rfl rfl
set_option maxRecDepth 100000 in
theorem nat_ac : Cond.native arraycopyName ∈ xTb := tc3 219 rfl rfl
set_option maxRecDepth 100000 in
theorem sta_ac : Cond.static arraycopyName ∈ xTb := tc3 218 rfl rfl
set_option maxRecDepth 100000 in
theorem ini_sys : Cond.initialized "java/lang/System" ∈ xTb := tc1 19 rfl rfl
set_option maxRecDepth 100000 in
theorem ini_math : Cond.initialized "java/lang/Math" ∈ xTb := tc1 14 rfl rfl
set_option maxRecDepth 100000 in
theorem sta_mmax : Cond.static Lib.Math.max.name ∈ xTb := tc4 20 rfl rfl
set_option maxRecDepth 100000 in
theorem cod_mmax : Cond.code Lib.Math.max.name Lib.Math.max.code 2 (some .int) ∈ xTb := tc4 21 rfl rfl
set_option maxRecDepth 100000 in
theorem sta_mmin : Cond.static Lib.Math.min.name ∈ xTb := tc3 34 rfl rfl
set_option maxRecDepth 100000 in
theorem cod_mmin : Cond.code Lib.Math.min.name Lib.Math.min.code 2 (some .int) ∈ xTb := tc3 35 rfl rfl
set_option maxRecDepth 100000 in
theorem ml_X10_108 : Cond.methodLink RX10 108 yX5_append ∈ xTb := tc3 9 rfl rfl
set_option maxRecDepth 100000 in
theorem ml_X10_116 : Cond.methodLink RX10 116 yX10_refused ∈ xTb := tc3 21 rfl rfl
set_option maxRecDepth 100000 in
theorem ml_X10_120 : Cond.methodLink RX10 120 yX5_readInn ∈ xTb := tc3 25 rfl rfl
set_option maxRecDepth 100000 in
theorem ml_X10_124 : Cond.methodLink RX10 124 yX2_copyFrom ∈ xTb := tc3 213 rfl rfl
set_option maxRecDepth 100000 in
theorem ml_X10_127 : Cond.methodLink RX10 127 yX1_weave ∈ xTb := tc3 220 rfl rfl
set_option maxRecDepth 100000 in
theorem ml_X10_130 : Cond.methodLink RX10 130 yX4_begin ∈ xTb := tc4 38 rfl rfl
set_option maxRecDepth 100000 in
theorem ml_X10_134 : Cond.methodLink RX10 134 yX10_renew ∈ xTb := tc4 42 rfl rfl
set_option maxRecDepth 100000 in
theorem ml_X10_140 : Cond.methodLink RX10 140 yX10_granted ∈ xTb := tc4 52 rfl rfl
set_option maxRecDepth 100000 in
theorem ml_X10_152 : Cond.methodLink RX10 152 yX2_isWord ∈ xTb := tc4 69 rfl rfl
set_option maxRecDepth 100000 in
theorem ml_X10_155 : Cond.methodLink RX10 155 yX2_lengthOf ∈ xTb := tc4 70 rfl rfl
set_option maxRecDepth 100000 in
theorem ml_X10_158 : Cond.methodLink RX10 158 yX2_valueOf ∈ xTb := tc4 71 rfl rfl
set_option maxRecDepth 100000 in
theorem ml_X10_161 : Cond.methodLink RX10 161 yX2_isBarred ∈ xTb := tc4 75 rfl rfl
set_option maxRecDepth 100000 in
theorem ml_X10_164 : Cond.methodLink RX10 164 yX2_isGood ∈ xTb := tc4 79 rfl rfl
set_option maxRecDepth 100000 in
theorem ml_X10_167 : Cond.methodLink RX10 167 yX2_glyphOf ∈ xTb := tc4 84 rfl rfl
set_option maxRecDepth 100000 in
theorem ml_X10_171 : Cond.methodLink RX10 171 yX1_letterOf ∈ xTb := tc4 89 rfl rfl
set_option maxRecDepth 100000 in
theorem ml_X10_174 : Cond.methodLink RX10 174 yX1_chainOf ∈ xTb := tc4 101 rfl rfl
set_option maxRecDepth 100000 in
theorem ml_X10_177 : Cond.methodLink RX10 177 yX3_measure ∈ xTb := tc4 106 rfl rfl
set_option maxRecDepth 100000 in
theorem ml_X10_180 : Cond.methodLink RX10 180 yX3_farOf ∈ xTb := tc4 122 rfl rfl
set_option maxRecDepth 100000 in
theorem ml_X10_183 : Cond.methodLink RX10 183 yX3_after ∈ xTb := tc4 127 rfl rfl
set_option maxRecDepth 100000 in
theorem ml_X10_186 : Cond.methodLink RX10 186 yX2_isOpen ∈ xTb := tc4 139 rfl rfl
set_option maxRecDepth 100000 in
theorem ml_X10_190 : Cond.methodLink RX10 190 yX1_nimOf ∈ xTb := tc4 143 rfl rfl
set_option maxRecDepth 100000 in
theorem ml_X10_193 : Cond.methodLink RX10 193 yX10_bestPlan ∈ xTb := tc4 148 rfl rfl
set_option maxRecDepth 100000 in
theorem ml_X10_206 : Cond.methodLink RX10 206 yX9_foundAt ∈ xTb := tc4 221 rfl rfl
set_option maxRecDepth 100000 in
theorem ml_X10_215 : Cond.methodLink RX10 215 yX10_lackingPlan ∈ xTb := tc4 237 rfl rfl
set_option maxRecDepth 100000 in
theorem ml_X10_221 : Cond.methodLink RX10 221 yX9_lackingAt ∈ xTb := tc5 9 rfl rfl
set_option maxRecDepth 100000 in
theorem ml_X10_224 : Cond.methodLink RX10 224 yX9_gather ∈ xTb := tc4 152 rfl rfl
set_option maxRecDepth 100000 in
theorem ml_X10_227 : Cond.methodLink RX10 227 yX10_offerGood ∈ xTb := tc4 169 rfl rfl
set_option maxRecDepth 100000 in
theorem ml_X10_231 : Cond.methodLink RX10 231 yX9_findPlans ∈ xTb := tc4 178 rfl rfl
set_option maxRecDepth 100000 in
theorem ml_X10_234 : Cond.methodLink RX10 234 yX10_isHost ∈ xTb := tc5 21 rfl rfl
set_option maxRecDepth 100000 in
theorem ml_X10_237 : Cond.methodLink RX10 237 yX10_denied ∈ xTb := tc5 25 rfl rfl
set_option maxRecDepth 100000 in
theorem ml_X10_240 : Cond.methodLink RX10 240 yX10_allowed ∈ xTb := tc5 29 rfl rfl
set_option maxRecDepth 100000 in
theorem ml_X10_246 : Cond.methodLink RX10 246 yX8_receive ∈ xTb := tc5 37 rfl rfl
set_option maxRecDepth 100000 in
theorem ml_X10_250 : Cond.methodLink RX10 250 yX4_at ∈ xTb := tc5 99 rfl rfl
set_option maxRecDepth 100000 in
theorem ml_X10_253 : Cond.methodLink RX10 253 yX2_firstOf ∈ xTb := tc5 100 rfl rfl
set_option maxRecDepth 100000 in
theorem ml_X10_256 : Cond.methodLink RX10 256 yX4_sitDown ∈ xTb := tc5 101 rfl rfl
set_option maxRecDepth 100000 in
theorem ml_X10_260 : Cond.methodLink RX10 260 yX4_leaveStanding ∈ xTb := tc5 106 rfl rfl
set_option maxRecDepth 100000 in
theorem ml_X10_263 : Cond.methodLink RX10 263 yX1_waysBy ∈ xTb := tc5 111 rfl rfl
set_option maxRecDepth 100000 in
theorem ml_X10_266 : Cond.methodLink RX10 266 yX4_standingBits ∈ xTb := tc5 125 rfl rfl
set_option maxRecDepth 100000 in
theorem ml_X10_274 : Cond.methodLink RX10 274 yX1_riseOf ∈ xTb := tc4 173 rfl rfl
set_option maxRecDepth 100000 in
theorem ml_X10_277 : Cond.methodLink RX10 277 yX10_isTold ∈ xTb := tc5 141 rfl rfl
set_option maxRecDepth 100000 in
theorem ml_X10_281 : Cond.methodLink RX10 281 yX10_isEmptyOrGood ∈ xTb := tc5 145 rfl rfl
set_option maxRecDepth 100000 in
theorem ml_X10_284 : Cond.methodLink RX10 284 yX7_codeOf ∈ xTb := tc5 149 rfl rfl
set_option maxRecDepth 100000 in
theorem ml_X10_288 : Cond.methodLink RX10 288 yX7_climb ∈ xTb := tc5 153 rfl rfl
set_option maxRecDepth 100000 in
theorem ml_X10_292 : Cond.methodLink RX10 292 yX0_fromBeginning ∈ xTb := tc6 3 rfl rfl
set_option maxRecDepth 100000 in
theorem ml_X10_298 : Cond.methodLink RX10 298 yJ6_bitCount_0f7a4 ∈ xTb := tc6 11 rfl rfl
set_option maxRecDepth 100000 in
theorem ml_X10_306 : Cond.methodLink RX10 306 yX0_hopeFrom ∈ xTb := tc6 21 rfl rfl
set_option maxRecDepth 100000 in
theorem ml_X10_310 : Cond.methodLink RX10 310 yX0_weightOf ∈ xTb := tc6 42 rfl rfl
set_option maxRecDepth 100000 in
theorem ml_X10_313 : Cond.methodLink RX10 313 yX10_commonDivisor ∈ xTb := tc6 43 rfl rfl
set_option maxRecDepth 100000 in
theorem ml_X10_316 : Cond.methodLink RX10 316 yX10_nimTonight ∈ xTb := tc6 52 rfl rfl
set_option maxRecDepth 100000 in
theorem ml_X10_319 : Cond.methodLink RX10 319 yX1_ups ∈ xTb := tc6 60 rfl rfl
set_option maxRecDepth 100000 in
theorem ml_X10_322 : Cond.methodLink RX10 322 yX1_upOf ∈ xTb := tc6 61 rfl rfl
set_option maxRecDepth 100000 in
theorem ml_X10_328 : Cond.methodLink RX10 328 yX4_copyFrom ∈ xTb := tc6 66 rfl rfl
set_option maxRecDepth 100000 in
theorem ml_X10_333 : Cond.methodLink RX10 333 yX6_firstWrong ∈ xTb := tc6 79 rfl rfl
set_option maxRecDepth 100000 in
theorem ml_X10_336 : Cond.methodLink RX10 336 yX6_rowsWith ∈ xTb := tc6 97 rfl rfl
set_option maxRecDepth 100000 in
theorem ml_X10_339 : Cond.methodLink RX10 339 yX2_isGuest ∈ xTb := tc6 123 rfl rfl
set_option maxRecDepth 100000 in
theorem ml_X10_342 : Cond.methodLink RX10 342 yX2_setFirst ∈ xTb := tc6 128 rfl rfl
set_option maxRecDepth 100000 in
theorem ml_X10_348 : Cond.methodLink RX10 348 yX2_setBarred ∈ xTb := tc6 136 rfl rfl
set_option maxRecDepth 100000 in
theorem ml_X10_352 : Cond.methodLink RX10 352 yX1_settle ∈ xTb := tc6 137 rfl rfl
set_option maxRecDepth 100000 in
theorem ml_X10_355 : Cond.methodLink RX10 355 yX4_seatedGuest ∈ xTb := tc6 158 rfl rfl
set_option maxRecDepth 100000 in
theorem ml_X10_367 : Cond.methodLink RX10 367 yJ7_fill_53178 ∈ xTb := tc4 46 rfl rfl
set_option maxRecDepth 100000 in
theorem ml_X10_373 : Cond.methodLink RX10 373 yX0_forget ∈ xTb := tc4 47 rfl rfl
set_option maxRecDepth 100000 in
theorem ml_X10_376 : Cond.methodLink RX10 376 yX9_findLack ∈ xTb := tc5 1 rfl rfl
set_option maxRecDepth 100000 in
theorem ml_X10_379 : Cond.methodLink RX10 379 yX9_offer ∈ xTb := tc4 174 rfl rfl
set_option maxRecDepth 100000 in
theorem ml_X10_382 : Cond.methodLink RX10 382 yJ9_max_7cf53 ∈ xTb := tc6 46 rfl rfl
set_option maxRecDepth 100000 in
theorem ml_X10_387 : Cond.methodLink RX10 387 yJ9_min_7cf53 ∈ xTb := tc6 47 rfl rfl
set_option maxRecDepth 100000 in
theorem ml_X0_30 : Cond.methodLink RX0 30 yJ7_fill_53178 ∈ xTb := tc4 51 rfl rfl
set_option maxRecDepth 100000 in
theorem ml_X0_39 : Cond.methodLink RX0 39 yX0_mostFrom ∈ xTb := tc5 70 rfl rfl
set_option maxRecDepth 100000 in
theorem ml_X0_49 : Cond.methodLink RX0 49 yX4_at ∈ xTb := tc5 69 rfl rfl
set_option maxRecDepth 100000 in
theorem ml_X0_53 : Cond.methodLink RX0 53 yX0_hoped ∈ xTb := tc6 25 rfl rfl
set_option maxRecDepth 100000 in
theorem ml_X0_56 : Cond.methodLink RX0 56 yJ9_min_7cf53 ∈ xTb := tc5 74 rfl rfl
set_option maxRecDepth 100000 in
theorem ml_X0_62 : Cond.methodLink RX0 62 yJ9_max_7cf53 ∈ xTb := tc5 75 rfl rfl
set_option maxRecDepth 100000 in
theorem ml_X0_70 : Cond.methodLink RX0 70 yX0_slotOf ∈ xTb := tc5 76 rfl rfl
set_option maxRecDepth 100000 in
theorem ml_X0_74 : Cond.methodLink RX0 74 yX0_mostSeated ∈ xTb := tc5 79 rfl rfl
set_option maxRecDepth 100000 in
theorem ml_X0_80 : Cond.methodLink RX0 80 yX2_firstOf ∈ xTb := tc5 83 rfl rfl
set_option maxRecDepth 100000 in
theorem ml_X0_83 : Cond.methodLink RX0 83 yX1_ups ∈ xTb := tc5 84 rfl rfl
set_option maxRecDepth 100000 in
theorem ml_X0_88 : Cond.methodLink RX0 88 yX1_byOf ∈ xTb := tc5 85 rfl rfl
set_option maxRecDepth 100000 in
theorem ml_X0_91 : Cond.methodLink RX0 91 yX1_upOf ∈ xTb := tc5 86 rfl rfl
set_option maxRecDepth 100000 in
theorem ml_X0_97 : Cond.methodLink RX0 97 yX2_likelyOf ∈ xTb := tc6 29 rfl rfl
set_option maxRecDepth 100000 in
theorem ml_X0_100 : Cond.methodLink RX0 100 yX0_hopedSeated ∈ xTb := tc6 30 rfl rfl
set_option maxRecDepth 100000 in
theorem ml_X0_104 : Cond.methodLink RX0 104 yX2_weightOf ∈ xTb := tc6 38 rfl rfl
set_option maxRecDepth 100000 in
theorem ml_X0_107 : Cond.methodLink RX0 107 yX0_weightOf ∈ xTb := tc6 34 rfl rfl
set_option maxRecDepth 100000 in
theorem ml_X1_48 : Cond.methodLink RX1 48 yX1_letterBetween ∈ xTb := tc3 224 rfl rfl
set_option maxRecDepth 100000 in
theorem ml_X1_52 : Cond.methodLink RX1 52 yX2_lengthOf ∈ xTb := tc3 228 rfl rfl
set_option maxRecDepth 100000 in
theorem ml_X1_58 : Cond.methodLink RX1 58 yX2_glyphOf ∈ xTb := tc3 233 rfl rfl
set_option maxRecDepth 100000 in
theorem ml_X1_61 : Cond.methodLink RX1 61 yX1_settle ∈ xTb := tc3 234 rfl rfl
set_option maxRecDepth 100000 in
theorem ml_X1_68 : Cond.methodLink RX1 68 yX1_isWithout ∈ xTb := tc3 229 rfl rfl
set_option maxRecDepth 100000 in
theorem ml_X1_72 : Cond.methodLink RX1 72 yJ7_fill_53178 ∈ xTb := tc3 238 rfl rfl
set_option maxRecDepth 100000 in
theorem ml_X1_78 : Cond.methodLink RX1 78 yX2_isGood ∈ xTb := tc3 239 rfl rfl
set_option maxRecDepth 100000 in
theorem ml_X1_82 : Cond.methodLink RX1 82 yX1_link ∈ xTb := tc4 3 rfl rfl
set_option maxRecDepth 100000 in
theorem ml_X1_86 : Cond.methodLink RX1 86 yX1_lookUp ∈ xTb := tc4 7 rfl rfl
set_option maxRecDepth 100000 in
theorem ml_X1_90 : Cond.methodLink RX1 90 yX1_lookDown ∈ xTb := tc4 29 rfl rfl
set_option maxRecDepth 100000 in
theorem ml_X1_93 : Cond.methodLink RX1 93 yX1_chainOf ∈ xTb := tc4 11 rfl rfl
set_option maxRecDepth 100000 in
theorem ml_X1_96 : Cond.methodLink RX1 96 yJ9_max_7cf53 ∈ xTb := tc4 19 rfl rfl
set_option maxRecDepth 100000 in
theorem ml_X1_101 : Cond.methodLink RX1 101 yX1_nimOf ∈ xTb := tc4 22 rfl rfl
set_option maxRecDepth 100000 in
theorem ml_X1_104 : Cond.methodLink RX1 104 yX1_leastWithout ∈ xTb := tc4 26 rfl rfl
set_option maxRecDepth 100000 in
theorem ml_X1_107 : Cond.methodLink RX1 107 yX1_riseOf ∈ xTb := tc4 33 rfl rfl
set_option maxRecDepth 100000 in
theorem ml_X1_110 : Cond.methodLink RX1 110 yJ9_min_7cf53 ∈ xTb := tc4 37 rfl rfl
set_option maxRecDepth 100000 in
theorem ml_X1_113 : Cond.methodLink RX1 113 yX1_isKind ∈ xTb := tc4 15 rfl rfl
set_option maxRecDepth 100000 in
theorem ml_X1_116 : Cond.methodLink RX1 116 yX1_isSpot ∈ xTb := tc4 93 rfl rfl
set_option maxRecDepth 100000 in
theorem ml_X1_119 : Cond.methodLink RX1 119 yX1_ups ∈ xTb := tc5 115 rfl rfl
set_option maxRecDepth 100000 in
theorem ml_X1_122 : Cond.methodLink RX1 122 yX1_byOf ∈ xTb := tc5 116 rfl rfl
set_option maxRecDepth 100000 in
theorem ml_X2_39 : Cond.methodLink RX2 39 yJ7_fill_53178 ∈ xTb := tc1 41 rfl rfl
set_option maxRecDepth 100000 in
theorem ml_X2_67 : Cond.methodLink RX2 67 arraycopyName ∈ xTb := tc3 217 rfl rfl
set_option maxRecDepth 100000 in
theorem ml_X2_73 : Cond.methodLink RX2 73 yX2_isWord ∈ xTb := tc3 148 rfl rfl
set_option maxRecDepth 100000 in
theorem ml_X2_77 : Cond.methodLink RX2 77 yX2_isGuest ∈ xTb := tc4 161 rfl rfl
set_option maxRecDepth 100000 in
theorem ml_X3_26 : Cond.methodLink RX3 26 yJ7_fill_53178 ∈ xTb := tc4 110 rfl rfl
set_option maxRecDepth 100000 in
theorem ml_X3_32 : Cond.methodLink RX3 32 yX2_isGood ∈ xTb := tc4 111 rfl rfl
set_option maxRecDepth 100000 in
theorem ml_X3_42 : Cond.methodLink RX3 42 yX3_farOf ∈ xTb := tc4 112 rfl rfl
set_option maxRecDepth 100000 in
theorem ml_X3_46 : Cond.methodLink RX3 46 yX3_isRung ∈ xTb := tc4 116 rfl rfl
set_option maxRecDepth 100000 in
theorem ml_X3_50 : Cond.methodLink RX3 50 yX2_isWord ∈ xTb := tc4 120 rfl rfl
set_option maxRecDepth 100000 in
theorem ml_X3_53 : Cond.methodLink RX3 53 yX1_letterOf ∈ xTb := tc4 121 rfl rfl
set_option maxRecDepth 100000 in
theorem ml_X3_59 : Cond.methodLink RX3 59 yX3_nearer ∈ xTb := tc4 131 rfl rfl
set_option maxRecDepth 100000 in
theorem ml_X4_15 : Cond.methodLink RX4 15 yJ7_fill_53178 ∈ xTb := tc2 165 rfl rfl
set_option maxRecDepth 100000 in
theorem ml_X4_31 : Cond.methodLink RX4 31 arraycopyName ∈ xTb := tc6 70 rfl rfl
set_option maxRecDepth 100000 in
theorem ml_X5_29 : Cond.methodLink RX5 29 yX5_appendFour ∈ xTb := tc3 13 rfl rfl
set_option maxRecDepth 100000 in
theorem ml_X5_33 : Cond.methodLink RX5 33 yX2_clear ∈ xTb := tc3 29 rfl rfl
set_option maxRecDepth 100000 in
theorem ml_X5_51 : Cond.methodLink RX5 51 yJ9_min_7cf53 ∈ xTb := tc3 33 rfl rfl
set_option maxRecDepth 100000 in
theorem ml_X5_63 : Cond.methodLink RX5 63 yX5_next ∈ xTb := tc3 36 rfl rfl
set_option maxRecDepth 100000 in
theorem ml_X5_66 : Cond.methodLink RX5 66 yX5_readLine ∈ xTb := tc3 48 rfl rfl
set_option maxRecDepth 100000 in
theorem ml_X5_73 : Cond.methodLink RX5 73 yX5_ends ∈ xTb := tc3 209 rfl rfl
set_option maxRecDepth 100000 in
theorem ml_X5_76 : Cond.methodLink RX5 76 yX5_fails ∈ xTb := tc3 109 rfl rfl
set_option maxRecDepth 100000 in
theorem ml_X5_88 : Cond.methodLink RX5 88 yX5_reads ∈ xTb := tc3 53 rfl rfl
set_option maxRecDepth 100000 in
theorem ml_X5_92 : Cond.methodLink RX5 92 yX5_readHouse ∈ xTb := tc3 105 rfl rfl
set_option maxRecDepth 100000 in
theorem ml_X5_97 : Cond.methodLink RX5 97 yX5_readWord ∈ xTb := tc3 132 rfl rfl
set_option maxRecDepth 100000 in
theorem ml_X5_102 : Cond.methodLink RX5 102 yX5_readGuests ∈ xTb := tc3 171 rfl rfl
set_option maxRecDepth 100000 in
theorem ml_X5_107 : Cond.methodLink RX5 107 yX5_readLikely ∈ xTb := tc3 188 rfl rfl
set_option maxRecDepth 100000 in
theorem ml_X5_112 : Cond.methodLink RX5 112 yX5_readSeen ∈ xTb := tc3 201 rfl rfl
set_option maxRecDepth 100000 in
theorem ml_X5_117 : Cond.methodLink RX5 117 yX5_readKey ∈ xTb := tc3 114 rfl rfl
set_option maxRecDepth 100000 in
theorem ml_X5_120 : Cond.methodLink RX5 120 yX5_readWhole ∈ xTb := tc3 118 rfl rfl
set_option maxRecDepth 100000 in
theorem ml_X5_135 : Cond.methodLink RX5 135 yX5_readManner ∈ xTb := tc3 124 rfl rfl
set_option maxRecDepth 100000 in
theorem ml_X5_146 : Cond.methodLink RX5 146 yX5_toldWord ∈ xTb := tc3 136 rfl rfl
set_option maxRecDepth 100000 in
theorem ml_X5_153 : Cond.methodLink RX5 153 yX2_addWord ∈ xTb := tc3 156 rfl rfl
set_option maxRecDepth 100000 in
theorem ml_X5_159 : Cond.methodLink RX5 159 yX2_setValue ∈ xTb := tc3 161 rfl rfl
set_option maxRecDepth 100000 in
theorem ml_X5_165 : Cond.methodLink RX5 165 yX2_setBarred ∈ xTb := tc3 166 rfl rfl
set_option maxRecDepth 100000 in
theorem ml_X5_169 : Cond.methodLink RX5 169 yX5_isNamed ∈ xTb := tc3 175 rfl rfl
set_option maxRecDepth 100000 in
theorem ml_X5_172 : Cond.methodLink RX5 172 yX5_byteAt ∈ xTb := tc3 40 rfl rfl
set_option maxRecDepth 100000 in
theorem ml_X5_176 : Cond.methodLink RX5 176 yX2_addGuest ∈ xTb := tc3 183 rfl rfl
set_option maxRecDepth 100000 in
theorem ml_X5_182 : Cond.methodLink RX5 182 yX2_likelyOf ∈ xTb := tc3 192 rfl rfl
set_option maxRecDepth 100000 in
theorem ml_X5_185 : Cond.methodLink RX5 185 yX2_addLikely ∈ xTb := tc3 196 rfl rfl
set_option maxRecDepth 100000 in
theorem ml_X5_191 : Cond.methodLink RX5 191 yX2_addSeen ∈ xTb := tc3 205 rfl rfl
set_option maxRecDepth 100000 in
theorem ml_X5_194 : Cond.methodLink RX5 194 yJ0_length_8abf5 ∈ xTb := tc3 57 rfl rfl
set_option maxRecDepth 100000 in
theorem ml_X5_199 : Cond.methodLink RX5 199 yJ0_charAt_5068e ∈ xTb := tc3 67 rfl rfl
set_option maxRecDepth 100000 in
theorem ml_X5_203 : Cond.methodLink RX5 203 yX5_isWordHere ∈ xTb := tc3 140 rfl rfl
set_option maxRecDepth 100000 in
theorem ml_X5_206 : Cond.methodLink RX5 206 yX2_lengthOf ∈ xTb := tc3 144 rfl rfl
set_option maxRecDepth 100000 in
theorem ml_X5_209 : Cond.methodLink RX5 209 yX2_glyphOf ∈ xTb := tc3 152 rfl rfl
set_option maxRecDepth 100000 in
theorem ml_X5_212 : Cond.methodLink RX5 212 yX5_isNameHere ∈ xTb := tc3 179 rfl rfl
set_option maxRecDepth 100000 in
theorem ml_X5_215 : Cond.methodLink RX5 215 yX5_runEnd ∈ xTb := tc3 44 rfl rfl
set_option maxRecDepth 100000 in
theorem ml_X6_29 : Cond.methodLink RX6 29 yX2_seenOf ∈ xTb := tc6 83 rfl rfl
set_option maxRecDepth 100000 in
theorem ml_X6_33 : Cond.methodLink RX6 33 yX2_isGood ∈ xTb := tc6 87 rfl rfl
set_option maxRecDepth 100000 in
theorem ml_X6_37 : Cond.methodLink RX6 37 yX6_grownBy ∈ xTb := tc6 88 rfl rfl
set_option maxRecDepth 100000 in
theorem ml_X6_40 : Cond.methodLink RX6 40 yX1_letterOf ∈ xTb := tc6 92 rfl rfl
set_option maxRecDepth 100000 in
theorem ml_X6_46 : Cond.methodLink RX6 46 yX6_firstWrong ∈ xTb := tc6 101 rfl rfl
set_option maxRecDepth 100000 in
theorem ml_X6_50 : Cond.methodLink RX6 50 yX2_lengthOf ∈ xTb := tc6 102 rfl rfl
set_option maxRecDepth 100000 in
theorem ml_X6_56 : Cond.methodLink RX6 56 yJ6_bitCount_0f7a4 ∈ xTb := tc6 103 rfl rfl
set_option maxRecDepth 100000 in
theorem ml_X6_61 : Cond.methodLink RX6 61 yX6_isRow ∈ xTb := tc6 104 rfl rfl
set_option maxRecDepth 100000 in
theorem ml_X6_64 : Cond.methodLink RX6 64 yX2_glyphsOf ∈ xTb := tc6 108 rfl rfl
set_option maxRecDepth 100000 in
theorem ml_X6_68 : Cond.methodLink RX6 68 yX6_layOut ∈ xTb := tc6 109 rfl rfl
set_option maxRecDepth 100000 in
theorem ml_X6_72 : Cond.methodLink RX6 72 yX2_firstOf ∈ xTb := tc6 114 rfl rfl
set_option maxRecDepth 100000 in
theorem ml_X6_75 : Cond.methodLink RX6 75 yX6_takes ∈ xTb := tc6 115 rfl rfl
set_option maxRecDepth 100000 in
theorem ml_X6_78 : Cond.methodLink RX6 78 yJ7_fill_53178 ∈ xTb := tc6 113 rfl rfl
set_option maxRecDepth 100000 in
theorem ml_X7_43 : Cond.methodLink RX7 43 yX4_at ∈ xTb := tc5 157 rfl rfl
set_option maxRecDepth 100000 in
theorem ml_X7_49 : Cond.methodLink RX7 49 yX7_codeOf ∈ xTb := tc5 158 rfl rfl
set_option maxRecDepth 100000 in
theorem ml_X7_53 : Cond.methodLink RX7 53 yX7_gather ∈ xTb := tc5 159 rfl rfl
set_option maxRecDepth 100000 in
theorem ml_X7_61 : Cond.methodLink RX7 61 yX7_awayFrom ∈ xTb := tc5 165 rfl rfl
set_option maxRecDepth 100000 in
theorem ml_X7_65 : Cond.methodLink RX7 65 yX7_canBe ∈ xTb := tc5 190 rfl rfl
set_option maxRecDepth 100000 in
theorem ml_X7_69 : Cond.methodLink RX7 69 yJ7_fill_53178 ∈ xTb := tc5 163 rfl rfl
set_option maxRecDepth 100000 in
theorem ml_X7_81 : Cond.methodLink RX7 81 yX7_putNow ∈ xTb := tc5 204 rfl rfl
set_option maxRecDepth 100000 in
theorem ml_X7_85 : Cond.methodLink RX7 85 yX7_goOnAll ∈ xTb := tc5 211 rfl rfl
set_option maxRecDepth 100000 in
theorem ml_X7_88 : Cond.methodLink RX7 88 yX7_isIn ∈ xTb := tc5 208 rfl rfl
set_option maxRecDepth 100000 in
theorem ml_X7_92 : Cond.methodLink RX7 92 yX7_takeLater ∈ xTb := tc5 235 rfl rfl
set_option maxRecDepth 100000 in
theorem ml_X7_101 : Cond.methodLink RX7 101 yX2_firstOf ∈ xTb := tc5 164 rfl rfl
set_option maxRecDepth 100000 in
theorem ml_X7_109 : Cond.methodLink RX7 109 yX7_kindAt ∈ xTb := tc5 169 rfl rfl
set_option maxRecDepth 100000 in
theorem ml_X7_112 : Cond.methodLink RX7 112 yX7_measure ∈ xTb := tc5 172 rfl rfl
set_option maxRecDepth 100000 in
theorem ml_X7_115 : Cond.methodLink RX7 115 yX7_farOf ∈ xTb := tc5 186 rfl rfl
set_option maxRecDepth 100000 in
theorem ml_X7_118 : Cond.methodLink RX7 118 yX1_ups ∈ xTb := tc5 176 rfl rfl
set_option maxRecDepth 100000 in
theorem ml_X7_123 : Cond.methodLink RX7 123 yX1_downs ∈ xTb := tc5 177 rfl rfl
set_option maxRecDepth 100000 in
theorem ml_X7_126 : Cond.methodLink RX7 126 yX1_upOf ∈ xTb := tc5 181 rfl rfl
set_option maxRecDepth 100000 in
theorem ml_X7_129 : Cond.methodLink RX7 129 yX1_downOf ∈ xTb := tc5 182 rfl rfl
set_option maxRecDepth 100000 in
theorem ml_X7_132 : Cond.methodLink RX7 132 yX2_glyphsOf ∈ xTb := tc5 203 rfl rfl
set_option maxRecDepth 100000 in
theorem ml_X7_136 : Cond.methodLink RX7 136 yX7_standingAt ∈ xTb := tc5 194 rfl rfl
set_option maxRecDepth 100000 in
theorem ml_X7_139 : Cond.methodLink RX7 139 yX7_shift ∈ xTb := tc5 199 rfl rfl
set_option maxRecDepth 100000 in
theorem ml_X7_143 : Cond.methodLink RX7 143 yX2_lengthOf ∈ xTb := tc5 198 rfl rfl
set_option maxRecDepth 100000 in
theorem ml_X7_146 : Cond.methodLink RX7 146 yX7_goOn ∈ xTb := tc5 215 rfl rfl
set_option maxRecDepth 100000 in
theorem ml_X7_149 : Cond.methodLink RX7 149 yX1_byOf ∈ xTb := tc5 219 rfl rfl
set_option maxRecDepth 100000 in
theorem ml_X7_152 : Cond.methodLink RX7 152 yX7_isStanding ∈ xTb := tc5 220 rfl rfl
set_option maxRecDepth 100000 in
theorem ml_X7_155 : Cond.methodLink RX7 155 yX7_step ∈ xTb := tc5 224 rfl rfl
set_option maxRecDepth 100000 in
theorem ml_X7_159 : Cond.methodLink RX7 159 yX7_placeOf ∈ xTb := tc5 228 rfl rfl
set_option maxRecDepth 100000 in
theorem ml_X7_162 : Cond.methodLink RX7 162 yX7_putLater ∈ xTb := tc5 231 rfl rfl
set_option maxRecDepth 100000 in
theorem ml_X8_29 : Cond.methodLink RX8 29 yX2_isGuest ∈ xTb := tc5 41 rfl rfl
set_option maxRecDepth 100000 in
theorem ml_X8_35 : Cond.methodLink RX8 35 yX2_firstOf ∈ xTb := tc5 42 rfl rfl
set_option maxRecDepth 100000 in
theorem ml_X8_42 : Cond.methodLink RX8 42 yX4_at ∈ xTb := tc5 43 rfl rfl
set_option maxRecDepth 100000 in
theorem ml_X8_45 : Cond.methodLink RX8 45 yX1_ups ∈ xTb := tc5 47 rfl rfl
set_option maxRecDepth 100000 in
theorem ml_X8_50 : Cond.methodLink RX8 50 yX1_byOf ∈ xTb := tc5 51 rfl rfl
set_option maxRecDepth 100000 in
theorem ml_X8_54 : Cond.methodLink RX8 54 yX1_upOf ∈ xTb := tc5 55 rfl rfl
set_option maxRecDepth 100000 in
theorem ml_X8_57 : Cond.methodLink RX8 57 yX8_scoreOf ∈ xTb := tc5 59 rfl rfl
set_option maxRecDepth 100000 in
theorem ml_X8_64 : Cond.methodLink RX8 64 yX0_behindNext ∈ xTb := tc5 65 rfl rfl
set_option maxRecDepth 100000 in
theorem ml_X8_69 : Cond.methodLink RX8 69 yX4_leaveStanding ∈ xTb := tc5 87 rfl rfl
set_option maxRecDepth 100000 in
theorem ml_X8_72 : Cond.methodLink RX8 72 yX4_sitDown ∈ xTb := tc5 91 rfl rfl
set_option maxRecDepth 100000 in
theorem ml_X8_76 : Cond.methodLink RX8 76 yX1_chainOf ∈ xTb := tc5 63 rfl rfl
set_option maxRecDepth 100000 in
theorem ml_X8_79 : Cond.methodLink RX8 79 yX2_valueOf ∈ xTb := tc5 64 rfl rfl
set_option maxRecDepth 100000 in
theorem ml_X9_28 : Cond.methodLink RX9 28 yJ7_fill_53178 ∈ xTb := tc4 156 rfl rfl
set_option maxRecDepth 100000 in
theorem ml_X9_43 : Cond.methodLink RX9 43 yX2_firstOf ∈ xTb := tc4 157 rfl rfl
set_option maxRecDepth 100000 in
theorem ml_X9_47 : Cond.methodLink RX9 47 yX9_addLetter ∈ xTb := tc4 165 rfl rfl
set_option maxRecDepth 100000 in
theorem ml_X9_82 : Cond.methodLink RX9 82 yX9_spread ∈ xTb := tc4 182 rfl rfl
set_option maxRecDepth 100000 in
theorem ml_X9_92 : Cond.methodLink RX9 92 yX9_take ∈ xTb := tc4 187 rfl rfl
set_option maxRecDepth 100000 in
theorem ml_X9_98 : Cond.methodLink RX9 98 yJ9_max_7cf53 ∈ xTb := tc4 186 rfl rfl
set_option maxRecDepth 100000 in
theorem ml_X9_104 : Cond.methodLink RX9 104 yX9_giveBack ∈ xTb := tc4 196 rfl rfl
set_option maxRecDepth 100000 in
theorem ml_X9_107 : Cond.methodLink RX9 107 yX9_judgeLack ∈ xTb := tc4 200 rfl rfl
set_option maxRecDepth 100000 in
theorem ml_X9_110 : Cond.methodLink RX9 110 yX9_judgePlan ∈ xTb := tc4 208 rfl rfl
set_option maxRecDepth 100000 in
theorem ml_X9_113 : Cond.methodLink RX9 113 yJ9_min_7cf53 ∈ xTb := tc4 212 rfl rfl
set_option maxRecDepth 100000 in
theorem ml_X9_116 : Cond.methodLink RX9 116 yX9_keep ∈ xTb := tc4 204 rfl rfl
set_option maxRecDepth 100000 in
theorem ml_X9_119 : Cond.methodLink RX9 119 yX2_glyphsOf ∈ xTb := tc4 191 rfl rfl
set_option maxRecDepth 100000 in
theorem ml_X9_123 : Cond.methodLink RX9 123 yX2_valueOf ∈ xTb := tc4 195 rfl rfl
set_option maxRecDepth 100000 in
theorem ml_L_7 : Cond.methodLink RL 7 yX10_led ∈ xTb := tc6 154 rfl rfl
set_option maxRecDepth 100000 in
theorem ml_L_19 : Cond.methodLink RL 19 yX10_feed ∈ xTb := tc3 5 rfl rfl
set_option maxRecDepth 100000 in
theorem ml_L_23 : Cond.methodLink RL 23 yX11_feed ∈ xTb := tc7 111 rfl rfl
set_option maxRecDepth 100000 in
theorem ml_L_24 : Cond.methodLink RL 24 yX10_inn ∈ xTb := tc3 17 rfl rfl
set_option maxRecDepth 100000 in
theorem ml_L_27 : Cond.methodLink RL 27 yX11_inn ∈ xTb := tc7 115 rfl rfl
set_option maxRecDepth 100000 in
theorem ml_L_28 : Cond.methodLink RL 28 yX10_fault ∈ xTb := tc4 57 rfl rfl
set_option maxRecDepth 100000 in
theorem ml_L_32 : Cond.methodLink RL 32 yX11_fault ∈ xTb := tc8 7 rfl rfl
set_option maxRecDepth 100000 in
theorem ml_L_33 : Cond.methodLink RL 33 yX10_where ∈ xTb := tc4 61 rfl rfl
set_option maxRecDepth 100000 in
theorem ml_L_36 : Cond.methodLink RL 36 yX11_where ∈ xTb := tc8 11 rfl rfl
set_option maxRecDepth 100000 in
theorem ml_L_37 : Cond.methodLink RL 37 yX10_word ∈ xTb := tc4 65 rfl rfl
set_option maxRecDepth 100000 in
theorem ml_L_41 : Cond.methodLink RL 41 yX11_word ∈ xTb := tc8 15 rfl rfl
set_option maxRecDepth 100000 in
theorem ml_L_42 : Cond.methodLink RL 42 yX10_letter ∈ xTb := tc4 80 rfl rfl
set_option maxRecDepth 100000 in
theorem ml_L_45 : Cond.methodLink RL 45 yX11_letter ∈ xTb := tc8 23 rfl rfl
set_option maxRecDepth 100000 in
theorem ml_L_46 : Cond.methodLink RL 46 yX10_grows ∈ xTb := tc4 85 rfl rfl
set_option maxRecDepth 100000 in
theorem ml_L_49 : Cond.methodLink RL 49 yX11_grows ∈ xTb := tc8 27 rfl rfl
set_option maxRecDepth 100000 in
theorem ml_L_50 : Cond.methodLink RL 50 yX10_chain ∈ xTb := tc4 97 rfl rfl
set_option maxRecDepth 100000 in
theorem ml_L_53 : Cond.methodLink RL 53 yX11_chain ∈ xTb := tc8 31 rfl rfl
set_option maxRecDepth 100000 in
theorem ml_L_54 : Cond.methodLink RL 54 yX10_ladder ∈ xTb := tc4 102 rfl rfl
set_option maxRecDepth 100000 in
theorem ml_L_57 : Cond.methodLink RL 57 yX11_ladder ∈ xTb := tc8 43 rfl rfl
set_option maxRecDepth 100000 in
theorem ml_L_58 : Cond.methodLink RL 58 yX10_rung ∈ xTb := tc4 123 rfl rfl
set_option maxRecDepth 100000 in
theorem ml_L_62 : Cond.methodLink RL 62 yX11_rung ∈ xTb := tc8 55 rfl rfl
set_option maxRecDepth 100000 in
theorem ml_L_63 : Cond.methodLink RL 63 yX10_grundy ∈ xTb := tc4 135 rfl rfl
set_option maxRecDepth 100000 in
theorem ml_L_66 : Cond.methodLink RL 66 yX11_grundy ∈ xTb := tc8 39 rfl rfl
set_option maxRecDepth 100000 in
theorem ml_L_67 : Cond.methodLink RL 67 yX10_most ∈ xTb := tc4 144 rfl rfl
set_option maxRecDepth 100000 in
theorem ml_L_70 : Cond.methodLink RL 70 yX11_most ∈ xTb := tc8 59 rfl rfl
set_option maxRecDepth 100000 in
theorem ml_L_71 : Cond.methodLink RL 71 yX10_worth ∈ xTb := tc4 213 rfl rfl
set_option maxRecDepth 100000 in
theorem ml_L_74 : Cond.methodLink RL 74 yX11_worth ∈ xTb := tc8 107 rfl rfl
set_option maxRecDepth 100000 in
theorem ml_L_75 : Cond.methodLink RL 75 yX10_plan ∈ xTb := tc4 217 rfl rfl
set_option maxRecDepth 100000 in
theorem ml_L_78 : Cond.methodLink RL 78 yX11_plan ∈ xTb := tc8 111 rfl rfl
set_option maxRecDepth 100000 in
theorem ml_L_79 : Cond.methodLink RL 79 yX10_richest ∈ xTb := tc4 225 rfl rfl
set_option maxRecDepth 100000 in
theorem ml_L_82 : Cond.methodLink RL 82 yX11_richest ∈ xTb := tc8 119 rfl rfl
set_option maxRecDepth 100000 in
theorem ml_L_83 : Cond.methodLink RL 83 yX10_fewest ∈ xTb := tc4 229 rfl rfl
set_option maxRecDepth 100000 in
theorem ml_L_86 : Cond.methodLink RL 86 yX11_fewest ∈ xTb := tc8 123 rfl rfl
set_option maxRecDepth 100000 in
theorem ml_L_87 : Cond.methodLink RL 87 yX10_wanted ∈ xTb := tc4 233 rfl rfl
set_option maxRecDepth 100000 in
theorem ml_L_90 : Cond.methodLink RL 90 yX11_wanted_ ∈ xTb := tc8 127 rfl rfl
set_option maxRecDepth 100000 in
theorem ml_L_91 : Cond.methodLink RL 91 yX10_wants ∈ xTb := tc5 5 rfl rfl
set_option maxRecDepth 100000 in
theorem ml_L_94 : Cond.methodLink RL 94 yX11_wants ∈ xTb := tc8 131 rfl rfl
set_option maxRecDepth 100000 in
theorem ml_L_95 : Cond.methodLink RL 95 yX10_gains ∈ xTb := tc5 13 rfl rfl
set_option maxRecDepth 100000 in
theorem ml_L_98 : Cond.methodLink RL 98 yX11_gains ∈ xTb := tc8 135 rfl rfl
set_option maxRecDepth 100000 in
theorem ml_L_99 : Cond.methodLink RL 99 yX10_night ∈ xTb := tc5 17 rfl rfl
set_option maxRecDepth 100000 in
theorem ml_L_103 : Cond.methodLink RL 103 yX11_night ∈ xTb := tc8 139 rfl rfl
set_option maxRecDepth 100000 in
theorem ml_L_104 : Cond.methodLink RL 104 yX10_come ∈ xTb := tc5 33 rfl rfl
set_option maxRecDepth 100000 in
theorem ml_L_107 : Cond.methodLink RL 107 yX11_come ∈ xTb := tc8 147 rfl rfl
set_option maxRecDepth 100000 in
theorem ml_L_108 : Cond.methodLink RL 108 yX10_seat ∈ xTb := tc5 95 rfl rfl
set_option maxRecDepth 100000 in
theorem ml_L_112 : Cond.methodLink RL 112 yX11_seat ∈ xTb := tc8 181 rfl rfl
set_option maxRecDepth 100000 in
theorem ml_L_113 : Cond.methodLink RL 113 yX10_stand ∈ xTb := tc5 102 rfl rfl
set_option maxRecDepth 100000 in
theorem ml_L_117 : Cond.methodLink RL 117 yX11_stand ∈ xTb := tc8 185 rfl rfl
set_option maxRecDepth 100000 in
theorem ml_L_118 : Cond.methodLink RL 118 yX10_can ∈ xTb := tc5 107 rfl rfl
set_option maxRecDepth 100000 in
theorem ml_L_121 : Cond.methodLink RL 121 yX11_can ∈ xTb := tc8 189 rfl rfl
set_option maxRecDepth 100000 in
theorem ml_L_122 : Cond.methodLink RL 122 yX10_table ∈ xTb := tc5 117 rfl rfl
set_option maxRecDepth 100000 in
theorem ml_L_125 : Cond.methodLink RL 125 yX11_table ∈ xTb := tc8 193 rfl rfl
set_option maxRecDepth 100000 in
theorem ml_L_126 : Cond.methodLink RL 126 yX10_standing ∈ xTb := tc5 121 rfl rfl
set_option maxRecDepth 100000 in
theorem ml_L_129 : Cond.methodLink RL 129 yX11_standing ∈ xTb := tc8 197 rfl rfl
set_option maxRecDepth 100000 in
theorem ml_L_130 : Cond.methodLink RL 130 yX10_ever ∈ xTb := tc5 129 rfl rfl
set_option maxRecDepth 100000 in
theorem ml_L_133 : Cond.methodLink RL 133 yX11_ever ∈ xTb := tc8 212 rfl rfl
set_option maxRecDepth 100000 in
theorem ml_L_134 : Cond.methodLink RL 134 yX10_rises ∈ xTb := tc5 133 rfl rfl
set_option maxRecDepth 100000 in
theorem ml_L_137 : Cond.methodLink RL 137 yX11_rises ∈ xTb := tc8 35 rfl rfl
set_option maxRecDepth 100000 in
theorem ml_L_138 : Cond.methodLink RL 138 yX10_steps ∈ xTb := tc5 137 rfl rfl
set_option maxRecDepth 100000 in
theorem ml_L_142 : Cond.methodLink RL 142 yX11_steps ∈ xTb := tc8 228 rfl rfl
set_option maxRecDepth 100000 in
theorem ml_L_143 : Cond.methodLink RL 143 yX10_able ∈ xTb := tc5 239 rfl rfl
set_option maxRecDepth 100000 in
theorem ml_L_146 : Cond.methodLink RL 146 yX11_able ∈ xTb := tc8 201 rfl rfl
set_option maxRecDepth 100000 in
theorem ml_L_147 : Cond.methodLink RL 147 yX10_sits ∈ xTb := tc6 7 rfl rfl
set_option maxRecDepth 100000 in
theorem ml_L_150 : Cond.methodLink RL 150 yX11_sits ∈ xTb := tc8 208 rfl rfl
set_option maxRecDepth 100000 in
theorem ml_L_151 : Cond.methodLink RL 151 yX10_hope ∈ xTb := tc6 17 rfl rfl
set_option maxRecDepth 100000 in
theorem ml_L_155 : Cond.methodLink RL 155 yX11_hope ∈ xTb := tc9 0 rfl rfl
set_option maxRecDepth 100000 in
theorem ml_L_156 : Cond.methodLink RL 156 yX10_game ∈ xTb := tc6 48 rfl rfl
set_option maxRecDepth 100000 in
theorem ml_L_159 : Cond.methodLink RL 159 yX11_game ∈ xTb := tc9 20 rfl rfl
set_option maxRecDepth 100000 in
theorem ml_L_160 : Cond.methodLink RL 160 yX10_move ∈ xTb := tc6 56 rfl rfl
set_option maxRecDepth 100000 in
theorem ml_L_163 : Cond.methodLink RL 163 yX11_move ∈ xTb := tc9 28 rfl rfl
set_option maxRecDepth 100000 in
theorem ml_L_164 : Cond.methodLink RL 164 yX10_mark ∈ xTb := tc6 62 rfl rfl
set_option maxRecDepth 100000 in
theorem ml_L_167 : Cond.methodLink RL 167 yX11_mark ∈ xTb := tc9 32 rfl rfl
set_option maxRecDepth 100000 in
theorem ml_L_168 : Cond.methodLink RL 168 yX10_back ∈ xTb := tc6 71 rfl rfl
set_option maxRecDepth 100000 in
theorem ml_L_171 : Cond.methodLink RL 171 yX11_back ∈ xTb := tc9 36 rfl rfl
set_option maxRecDepth 100000 in
theorem ml_L_172 : Cond.methodLink RL 172 yX10_wrong ∈ xTb := tc6 75 rfl rfl
set_option maxRecDepth 100000 in
theorem ml_L_175 : Cond.methodLink RL 175 yX11_wrong_ ∈ xTb := tc9 40 rfl rfl
set_option maxRecDepth 100000 in
theorem ml_L_176 : Cond.methodLink RL 176 yX10_ways ∈ xTb := tc6 93 rfl rfl
set_option maxRecDepth 100000 in
theorem ml_L_179 : Cond.methodLink RL 179 yX11_ways ∈ xTb := tc9 52 rfl rfl
set_option maxRecDepth 100000 in
theorem ml_L_180 : Cond.methodLink RL 180 yX10_waysOf ∈ xTb := tc6 119 rfl rfl
set_option maxRecDepth 100000 in
theorem ml_L_183 : Cond.methodLink RL 183 yX11_waysOf ∈ xTb := tc9 64 rfl rfl
set_option maxRecDepth 100000 in
theorem ml_L_184 : Cond.methodLink RL 184 yX10_rename ∈ xTb := tc6 124 rfl rfl
set_option maxRecDepth 100000 in
theorem ml_L_187 : Cond.methodLink RL 187 yX11_rename ∈ xTb := tc9 72 rfl rfl
set_option maxRecDepth 100000 in
theorem ml_L_188 : Cond.methodLink RL 188 yX10_bar ∈ xTb := tc6 132 rfl rfl
set_option maxRecDepth 100000 in
theorem ml_L_192 : Cond.methodLink RL 192 yX11_bar ∈ xTb := tc9 80 rfl rfl
set_option maxRecDepth 100000 in
theorem ml_L_193 : Cond.methodLink RL 193 yX10_guest ∈ xTb := tc6 138 rfl rfl
set_option maxRecDepth 100000 in
theorem ml_L_196 : Cond.methodLink RL 196 yX11_guest ∈ xTb := tc9 84 rfl rfl
set_option maxRecDepth 100000 in
theorem ml_L_197 : Cond.methodLink RL 197 yL_led ∈ xTb := tc6 150 rfl rfl
set_option maxRecDepth 100000 in
theorem ml_L_202 : Cond.methodLink RL 202 yX11_led ∈ xTb := tc9 88 rfl rfl
set_option maxRecDepth 100000 in
theorem ml_L_203 : Cond.methodLink RL 203 yX11_thrown ∈ xTb := tc7 107 rfl rfl
set_option maxRecDepth 100000 in
theorem ml_L_206 : Cond.methodLink RL 206 yX10_size ∈ xTb := tc6 142 rfl rfl
set_option maxRecDepth 100000 in
theorem ml_L_209 : Cond.methodLink RL 209 yX11_size ∈ xTb := tc9 92 rfl rfl
set_option maxRecDepth 100000 in
theorem ml_L_210 : Cond.methodLink RL 210 yX10_trouble ∈ xTb := tc6 146 rfl rfl
set_option maxRecDepth 100000 in
theorem ml_L_213 : Cond.methodLink RL 213 yX11_trouble ∈ xTb := tc9 96 rfl rfl
set_option maxRecDepth 100000 in
theorem ml_X11_89 : Cond.methodLink RX11 89 yX11_look ∈ xTb := tc7 134 rfl rfl
set_option maxRecDepth 100000 in
theorem ml_X11_105 : Cond.methodLink RX11 105 yX11_isSmall ∈ xTb := tc7 138 rfl rfl
set_option maxRecDepth 100000 in
theorem ml_X11_109 : Cond.methodLink RX11 109 yX11_isDigit ∈ xTb := tc7 141 rfl rfl
set_option maxRecDepth 100000 in
theorem ml_X11_119 : Cond.methodLink RX11 119 yJ0_length_8abf5 ∈ xTb := tc7 157 rfl rfl
set_option maxRecDepth 100000 in
theorem ml_X11_125 : Cond.methodLink RX11 125 yJ0_charAt_5068e ∈ xTb := tc7 158 rfl rfl
set_option maxRecDepth 100000 in
theorem ml_X11_129 : Cond.methodLink RX11 129 yX11_isWord ∈ xTb := tc7 153 rfl rfl
set_option maxRecDepth 100000 in
theorem ml_X11_133 : Cond.methodLink RX11 133 yX11_next ∈ xTb := tc7 130 rfl rfl
set_option maxRecDepth 100000 in
theorem ml_X11_136 : Cond.methodLink RX11 136 yX11_takes ∈ xTb := tc7 176 rfl rfl
set_option maxRecDepth 100000 in
theorem ml_X11_139 : Cond.methodLink RX11 139 yX11_wrong ∈ xTb := tc7 159 rfl rfl
set_option maxRecDepth 100000 in
theorem ml_X11_143 : Cond.methodLink RX11 143 yX11_within ∈ xTb := tc7 123 rfl rfl
set_option maxRecDepth 100000 in
theorem ml_X11_147 : Cond.methodLink RX11 147 yX11_must ∈ xTb := tc7 172 rfl rfl
set_option maxRecDepth 100000 in
theorem ml_X11_151 : Cond.methodLink RX11 151 yX11_number ∈ xTb := tc7 180 rfl rfl
set_option maxRecDepth 100000 in
theorem ml_X11_155 : Cond.methodLink RX11 155 yX11_good ∈ xTb := tc7 119 rfl rfl
set_option maxRecDepth 100000 in
theorem ml_X11_158 : Cond.methodLink RX11 158 yX11_no ∈ xTb := tc7 126 rfl rfl
set_option maxRecDepth 100000 in
theorem ml_X11_161 : Cond.methodLink RX11 161 yX11_readLine ∈ xTb := tc7 144 rfl rfl
set_option maxRecDepth 100000 in
theorem ml_X11_167 : Cond.methodLink RX11 167 yX11_layGrows ∈ xTb := tc7 223 rfl rfl
set_option maxRecDepth 100000 in
theorem ml_X11_170 : Cond.methodLink RX11 170 yX11_begin ∈ xTb := tc8 3 rfl rfl
set_option maxRecDepth 100000 in
theorem ml_X11_179 : Cond.methodLink RX11 179 yX11_begins ∈ xTb := tc7 149 rfl rfl
set_option maxRecDepth 100000 in
theorem ml_X11_183 : Cond.methodLink RX11 183 yX11_innLine ∈ xTb := tc7 163 rfl rfl
set_option maxRecDepth 100000 in
theorem ml_X11_188 : Cond.methodLink RX11 188 yX11_wordLine ∈ xTb := tc7 190 rfl rfl
set_option maxRecDepth 100000 in
theorem ml_X11_193 : Cond.methodLink RX11 193 yX11_guestLine ∈ xTb := tc7 205 rfl rfl
set_option maxRecDepth 100000 in
theorem ml_X11_198 : Cond.methodLink RX11 198 yX11_likelyLine ∈ xTb := tc7 214 rfl rfl
set_option maxRecDepth 100000 in
theorem ml_X11_203 : Cond.methodLink RX11 203 yX11_seenLine ∈ xTb := tc7 219 rfl rfl
set_option maxRecDepth 100000 in
theorem ml_X11_208 : Cond.methodLink RX11 208 yX11_told ∈ xTb := tc7 168 rfl rfl
set_option maxRecDepth 100000 in
theorem ml_X11_222 : Cond.methodLink RX11 222 yX11_mustWord ∈ xTb := tc7 194 rfl rfl
set_option maxRecDepth 100000 in
theorem ml_X11_225 : Cond.methodLink RX11 225 yX11_find ∈ xTb := tc7 198 rfl rfl
set_option maxRecDepth 100000 in
theorem ml_X11_233 : Cond.methodLink RX11 233 yX11_comma ∈ xTb := tc7 209 rfl rfl
set_option maxRecDepth 100000 in
theorem ml_X11_237 : Cond.methodLink RX11 237 yX11_growth ∈ xTb := tc7 227 rfl rfl
set_option maxRecDepth 100000 in
theorem ml_X11_240 : Cond.methodLink RX11 240 yX11_isGood ∈ xTb := tc7 231 rfl rfl
set_option maxRecDepth 100000 in
theorem ml_X11_243 : Cond.methodLink RX11 243 yX11_letterAt ∈ xTb := tc7 235 rfl rfl
set_option maxRecDepth 100000 in
theorem ml_X11_246 : Cond.methodLink RX11 246 yX11_isWithout ∈ xTb := tc7 239 rfl rfl
set_option maxRecDepth 100000 in
theorem ml_X11_249 : Cond.methodLink RX11 249 yX11_isWordThere ∈ xTb := tc8 19 rfl rfl
set_option maxRecDepth 100000 in
theorem ml_X11_252 : Cond.methodLink RX11 252 yX11_pairWhy ∈ xTb := tc8 47 rfl rfl
set_option maxRecDepth 100000 in
theorem ml_X11_255 : Cond.methodLink RX11 255 yX11_layFar ∈ xTb := tc8 51 rfl rfl
set_option maxRecDepth 100000 in
theorem ml_X11_273 : Cond.methodLink RX11 273 yX11_mayStand ∈ xTb := tc8 75 rfl rfl
set_option maxRecDepth 100000 in
theorem ml_X11_277 : Cond.methodLink RX11 277 yX11_wanted ∈ xTb := tc8 79 rfl rfl
set_option maxRecDepth 100000 in
theorem ml_X11_280 : Cond.methodLink RX11 280 yX11_addUp ∈ xTb := tc8 83 rfl rfl
set_option maxRecDepth 100000 in
theorem ml_X11_283 : Cond.methodLink RX11 283 yX11_judge ∈ xTb := tc8 95 rfl rfl
set_option maxRecDepth 100000 in
theorem ml_X11_286 : Cond.methodLink RX11 286 yX11_lettersOf ∈ xTb := tc8 87 rfl rfl
set_option maxRecDepth 100000 in
theorem ml_X11_289 : Cond.methodLink RX11 289 yX11_worthOf ∈ xTb := tc8 99 rfl rfl
set_option maxRecDepth 100000 in
theorem ml_X11_292 : Cond.methodLink RX11 292 yX11_wordsOf ∈ xTb := tc8 103 rfl rfl
set_option maxRecDepth 100000 in
theorem ml_X11_295 : Cond.methodLink RX11 295 yX11_keepRow ∈ xTb := tc8 91 rfl rfl
set_option maxRecDepth 100000 in
theorem ml_X11_298 : Cond.methodLink RX11 298 yX11_layLetters ∈ xTb := tc8 67 rfl rfl
set_option maxRecDepth 100000 in
theorem ml_X11_301 : Cond.methodLink RX11 301 yX11_plans ∈ xTb := tc8 71 rfl rfl
set_option maxRecDepth 100000 in
theorem ml_X11_305 : Cond.methodLink RX11 305 yX11_laysPlans ∈ xTb := tc8 63 rfl rfl
set_option maxRecDepth 100000 in
theorem ml_X11_309 : Cond.methodLink RX11 309 yX11_isTable ∈ xTb := tc8 115 rfl rfl
set_option maxRecDepth 100000 in
theorem ml_X11_312 : Cond.methodLink RX11 312 yX11_isNot ∈ xTb := tc8 143 rfl rfl
set_option maxRecDepth 100000 in
theorem ml_X11_315 : Cond.methodLink RX11 315 yX11_wordOf ∈ xTb := tc8 167 rfl rfl
set_option maxRecDepth 100000 in
theorem ml_X11_318 : Cond.methodLink RX11 318 yX11_withWord ∈ xTb := tc8 170 rfl rfl
set_option maxRecDepth 100000 in
theorem ml_X11_322 : Cond.methodLink RX11 322 yX11_mostOf ∈ xTb := tc8 173 rfl rfl
set_option maxRecDepth 100000 in
theorem ml_X11_325 : Cond.methodLink RX11 325 yX11_wordAfter ∈ xTb := tc8 163 rfl rfl
set_option maxRecDepth 100000 in
theorem ml_X11_328 : Cond.methodLink RX11 328 yX11_forget ∈ xTb := tc8 151 rfl rfl
set_option maxRecDepth 100000 in
theorem ml_X11_331 : Cond.methodLink RX11 331 yX11_code ∈ xTb := tc8 155 rfl rfl
set_option maxRecDepth 100000 in
theorem ml_X11_334 : Cond.methodLink RX11 334 yX11_seated ∈ xTb := tc8 159 rfl rfl
set_option maxRecDepth 100000 in
theorem ml_X11_337 : Cond.methodLink RX11 337 yX11_laysTables ∈ xTb := tc8 177 rfl rfl
set_option maxRecDepth 100000 in
theorem ml_X11_340 : Cond.methodLink RX11 340 yX11_empty ∈ xTb := tc8 205 rfl rfl
set_option maxRecDepth 100000 in
theorem ml_X11_343 : Cond.methodLink RX11 343 yX11_lettersAt ∈ xTb := tc8 220 rfl rfl
set_option maxRecDepth 100000 in
theorem ml_X11_346 : Cond.methodLink RX11 346 yX11_areThere ∈ xTb := tc8 224 rfl rfl
set_option maxRecDepth 100000 in
theorem ml_X11_349 : Cond.methodLink RX11 349 yX11_walk ∈ xTb := tc8 216 rfl rfl
set_option maxRecDepth 100000 in
theorem ml_X11_353 : Cond.methodLink RX11 353 yX11_mayBe ∈ xTb := tc8 232 rfl rfl
set_option maxRecDepth 100000 in
theorem ml_X11_356 : Cond.methodLink RX11 356 yX11_isGoodOrNone ∈ xTb := tc8 236 rfl rfl
set_option maxRecDepth 100000 in
theorem ml_X11_359 : Cond.methodLink RX11 359 yX11_weights ∈ xTb := tc9 13 rfl rfl
set_option maxRecDepth 100000 in
theorem ml_X11_362 : Cond.methodLink RX11 362 yX11_hopeOf ∈ xTb := tc9 5 rfl rfl
set_option maxRecDepth 100000 in
theorem ml_X11_366 : Cond.methodLink RX11 366 yX11_power ∈ xTb := tc9 9 rfl rfl
set_option maxRecDepth 100000 in
theorem ml_X11_372 : Cond.methodLink RX11 372 yX11_common ∈ xTb := tc9 17 rfl rfl
set_option maxRecDepth 100000 in
theorem ml_X11_376 : Cond.methodLink RX11 376 yX11_grundyOf ∈ xTb := tc9 24 rfl rfl
set_option maxRecDepth 100000 in
theorem ml_X11_379 : Cond.methodLink RX11 379 yX11_seenWhy ∈ xTb := tc9 44 rfl rfl
set_option maxRecDepth 100000 in
theorem ml_X11_382 : Cond.methodLink RX11 382 yX11_firstWrong ∈ xTb := tc9 48 rfl rfl
set_option maxRecDepth 100000 in
theorem ml_X11_385 : Cond.methodLink RX11 385 yX11_mayBeThose ∈ xTb := tc9 60 rfl rfl
set_option maxRecDepth 100000 in
theorem ml_X11_388 : Cond.methodLink RX11 388 yX11_waysWith ∈ xTb := tc9 56 rfl rfl
set_option maxRecDepth 100000 in
theorem ml_X11_391 : Cond.methodLink RX11 391 yX11_isGuest ∈ xTb := tc9 68 rfl rfl
set_option maxRecDepth 100000 in
theorem ml_X11_394 : Cond.methodLink RX11 394 yX11_did ∈ xTb := tc9 76 rfl rfl
set_option maxRecDepth 100000 in
theorem cal_J7_fill_53178 : xCal yJ7_fill_53178 cJ7_fill_53178 4 none 2 := ⟨tl1 43 rfl, tc1 3 rfl rfl, ⟨by decide +kernel, by decide +kernel, by decide +kernel⟩, by decide⟩
set_option maxRecDepth 100000 in
theorem sta_J7_fill_53178 : Cond.static yJ7_fill_53178 ∈ xTb := tc1 42 rfl rfl
set_option maxRecDepth 100000 in
theorem cal_X0_forget : xCal yX0_forget cX0_forget 1 none 0 := ⟨tl4 50 rfl, tc1 8 rfl rfl, ⟨by decide +kernel, by decide +kernel, by decide +kernel⟩, by decide⟩
set_option maxRecDepth 100000 in
theorem ins_X0_forget : Cond.instanceMethod yX0_forget ∈ xTb := tc4 48 rfl rfl
set_option maxRecDepth 100000 in
theorem sel_X0_forget : Cond.selects yX0_forget.cls yX0_forget yX0_forget ∈ xTb := tc4 49 rfl rfl
set_option maxRecDepth 100000 in
theorem cal_X0_slotOf : xCal yX0_slotOf cX0_slotOf 4 (some .int) 3 := ⟨tl5 78 rfl, tc1 8 rfl rfl, ⟨by decide +kernel, by decide +kernel, by decide +kernel⟩, by decide⟩
set_option maxRecDepth 100000 in
theorem sta_X0_slotOf : Cond.static yX0_slotOf ∈ xTb := tc5 77 rfl rfl
set_option maxRecDepth 100000 in
theorem cal_X2_isGuest : xCal yX2_isGuest cX2_isGuest 2 (some .boolean) 1 := ⟨tl4 164 rfl, tc1 2 rfl rfl, ⟨by decide +kernel, by decide +kernel, by decide +kernel⟩, by decide⟩
set_option maxRecDepth 100000 in
theorem ins_X2_isGuest : Cond.instanceMethod yX2_isGuest ∈ xTb := tc4 162 rfl rfl
set_option maxRecDepth 100000 in
theorem sel_X2_isGuest : Cond.selects yX2_isGuest.cls yX2_isGuest yX2_isGuest ∈ xTb := tc4 163 rfl rfl
set_option maxRecDepth 100000 in
theorem cal_X2_firstOf : xCal yX2_firstOf cX2_firstOf 2 (some .int) 1 := ⟨tl4 160 rfl, tc1 2 rfl rfl, ⟨by decide +kernel, by decide +kernel, by decide +kernel⟩, by decide⟩
set_option maxRecDepth 100000 in
theorem ins_X2_firstOf : Cond.instanceMethod yX2_firstOf ∈ xTb := tc4 158 rfl rfl
set_option maxRecDepth 100000 in
theorem sel_X2_firstOf : Cond.selects yX2_firstOf.cls yX2_firstOf yX2_firstOf ∈ xTb := tc4 159 rfl rfl
set_option maxRecDepth 100000 in
theorem cal_X1_isKind : xCal yX1_isKind cX1_isKind 2 (some .boolean) 1 := ⟨tl4 18 rfl, tc1 5 rfl rfl, ⟨by decide +kernel, by decide +kernel, by decide +kernel⟩, by decide⟩
set_option maxRecDepth 100000 in
theorem ins_X1_isKind : Cond.instanceMethod yX1_isKind ∈ xTb := tc4 17 rfl rfl
set_option maxRecDepth 100000 in
theorem sel_X1_isKind : Cond.selects yX1_isKind.cls yX1_isKind yX1_isKind ∈ xTb := tc0 25 rfl rfl
set_option maxRecDepth 100000 in
theorem cal_X1_ups : xCal yX1_ups cX1_ups 2 (some .int) 1 := ⟨tl5 50 rfl, tc1 5 rfl rfl, ⟨by decide +kernel, by decide +kernel, by decide +kernel⟩, by decide⟩
set_option maxRecDepth 100000 in
theorem ins_X1_ups : Cond.instanceMethod yX1_ups ∈ xTb := tc5 48 rfl rfl
set_option maxRecDepth 100000 in
theorem sel_X1_ups : Cond.selects yX1_ups.cls yX1_ups yX1_ups ∈ xTb := tc5 49 rfl rfl
set_option maxRecDepth 100000 in
theorem cal_X1_isSpot : xCal yX1_isSpot cX1_isSpot 2 (some .boolean) 1 := ⟨tl4 96 rfl, tc1 5 rfl rfl, ⟨by decide +kernel, by decide +kernel, by decide +kernel⟩, by decide⟩
set_option maxRecDepth 100000 in
theorem ins_X1_isSpot : Cond.instanceMethod yX1_isSpot ∈ xTb := tc4 95 rfl rfl
set_option maxRecDepth 100000 in
theorem sel_X1_isSpot : Cond.selects yX1_isSpot.cls yX1_isSpot yX1_isSpot ∈ xTb := tc0 29 rfl rfl
set_option maxRecDepth 100000 in
theorem cal_X1_byOf : xCal yX1_byOf cX1_byOf 3 (some .int) 2 := ⟨tl5 54 rfl, tc1 5 rfl rfl, ⟨by decide +kernel, by decide +kernel, by decide +kernel⟩, by decide⟩
set_option maxRecDepth 100000 in
theorem ins_X1_byOf : Cond.instanceMethod yX1_byOf ∈ xTb := tc5 52 rfl rfl
set_option maxRecDepth 100000 in
theorem sel_X1_byOf : Cond.selects yX1_byOf.cls yX1_byOf yX1_byOf ∈ xTb := tc5 53 rfl rfl
set_option maxRecDepth 100000 in
theorem cal_X1_upOf : xCal yX1_upOf cX1_upOf 3 (some .int) 2 := ⟨tl5 58 rfl, tc1 5 rfl rfl, ⟨by decide +kernel, by decide +kernel, by decide +kernel⟩, by decide⟩
set_option maxRecDepth 100000 in
theorem ins_X1_upOf : Cond.instanceMethod yX1_upOf ∈ xTb := tc5 56 rfl rfl
set_option maxRecDepth 100000 in
theorem sel_X1_upOf : Cond.selects yX1_upOf.cls yX1_upOf yX1_upOf ∈ xTb := tc5 57 rfl rfl
set_option maxRecDepth 100000 in
theorem cal_X0_mostSeated : xCal yX0_mostSeated cX0_mostSeated 8 (some .int) 4 := ⟨tl5 82 rfl, tc1 8 rfl rfl, ⟨by decide +kernel, by decide +kernel, by decide +kernel⟩, by decide⟩
set_option maxRecDepth 100000 in
theorem ins_X0_mostSeated : Cond.instanceMethod yX0_mostSeated ∈ xTb := tc5 81 rfl rfl
set_option maxRecDepth 100000 in
theorem sel_X0_mostSeated : Cond.selects yX0_mostSeated.cls yX0_mostSeated yX0_mostSeated ∈ xTb := tc0 47 rfl rfl
set_option maxRecDepth 100000 in
theorem cal_X0_mostFrom : xCal yX0_mostFrom cX0_mostFrom 12 (some .int) 4 := ⟨tl5 73 rfl, tc1 8 rfl rfl, ⟨by decide +kernel, by decide +kernel, by decide +kernel⟩, by decide⟩
set_option maxRecDepth 100000 in
theorem ins_X0_mostFrom : Cond.instanceMethod yX0_mostFrom ∈ xTb := tc5 72 rfl rfl
set_option maxRecDepth 100000 in
theorem sel_X0_mostFrom : Cond.selects yX0_mostFrom.cls yX0_mostFrom yX0_mostFrom ∈ xTb := tc0 46 rfl rfl
set_option maxRecDepth 100000 in
theorem cal_X0_fromBeginning : xCal yX0_fromBeginning cX0_fromBeginning 1 (some .int) 0 := ⟨tl6 6 rfl, tc1 8 rfl rfl, ⟨by decide +kernel, by decide +kernel, by decide +kernel⟩, by decide⟩
set_option maxRecDepth 100000 in
theorem ins_X0_fromBeginning : Cond.instanceMethod yX0_fromBeginning ∈ xTb := tc6 4 rfl rfl
set_option maxRecDepth 100000 in
theorem sel_X0_fromBeginning : Cond.selects yX0_fromBeginning.cls yX0_fromBeginning yX0_fromBeginning ∈ xTb := tc6 5 rfl rfl
set_option maxRecDepth 100000 in
theorem cal_X4_at : xCal yX4_at cX4_at 2 (some .int) 1 := ⟨tl5 46 rfl, tc1 12 rfl rfl, ⟨by decide +kernel, by decide +kernel, by decide +kernel⟩, by decide⟩
set_option maxRecDepth 100000 in
theorem ins_X4_at : Cond.instanceMethod yX4_at ∈ xTb := tc5 44 rfl rfl
set_option maxRecDepth 100000 in
theorem sel_X4_at : Cond.selects yX4_at.cls yX4_at yX4_at ∈ xTb := tc5 45 rfl rfl
set_option maxRecDepth 100000 in
theorem cal_X0_behindNext : xCal yX0_behindNext cX0_behindNext 4 (some .int) 3 := ⟨tl5 68 rfl, tc1 8 rfl rfl, ⟨by decide +kernel, by decide +kernel, by decide +kernel⟩, by decide⟩
set_option maxRecDepth 100000 in
theorem ins_X0_behindNext : Cond.instanceMethod yX0_behindNext ∈ xTb := tc5 66 rfl rfl
set_option maxRecDepth 100000 in
theorem sel_X0_behindNext : Cond.selects yX0_behindNext.cls yX0_behindNext yX0_behindNext ∈ xTb := tc5 67 rfl rfl
set_option maxRecDepth 100000 in
theorem cal_X2_likelyOf : xCal yX2_likelyOf cX2_likelyOf 2 (some .int) 1 := ⟨tl3 195 rfl, tc1 2 rfl rfl, ⟨by decide +kernel, by decide +kernel, by decide +kernel⟩, by decide⟩
set_option maxRecDepth 100000 in
theorem ins_X2_likelyOf : Cond.instanceMethod yX2_likelyOf ∈ xTb := tc3 193 rfl rfl
set_option maxRecDepth 100000 in
theorem sel_X2_likelyOf : Cond.selects yX2_likelyOf.cls yX2_likelyOf yX2_likelyOf ∈ xTb := tc3 194 rfl rfl
set_option maxRecDepth 100000 in
theorem cal_X2_weightOf : xCal yX2_weightOf cX2_weightOf 2 (some .int) 1 := ⟨tl6 41 rfl, tc1 2 rfl rfl, ⟨by decide +kernel, by decide +kernel, by decide +kernel⟩, by decide⟩
set_option maxRecDepth 100000 in
theorem ins_X2_weightOf : Cond.instanceMethod yX2_weightOf ∈ xTb := tc6 39 rfl rfl
set_option maxRecDepth 100000 in
theorem sel_X2_weightOf : Cond.selects yX2_weightOf.cls yX2_weightOf yX2_weightOf ∈ xTb := tc6 40 rfl rfl
set_option maxRecDepth 100000 in
theorem cal_X0_weightOf : xCal yX0_weightOf cX0_weightOf 5 (some .int) 1 := ⟨tl6 37 rfl, tc1 8 rfl rfl, ⟨by decide +kernel, by decide +kernel, by decide +kernel⟩, by decide⟩
set_option maxRecDepth 100000 in
theorem ins_X0_weightOf : Cond.instanceMethod yX0_weightOf ∈ xTb := tc6 35 rfl rfl
set_option maxRecDepth 100000 in
theorem sel_X0_weightOf : Cond.selects yX0_weightOf.cls yX0_weightOf yX0_weightOf ∈ xTb := tc6 36 rfl rfl
set_option maxRecDepth 100000 in
theorem cal_X0_hopedSeated : xCal yX0_hopedSeated cX0_hopedSeated 8 (some .int) 5 := ⟨tl6 33 rfl, tc1 8 rfl rfl, ⟨by decide +kernel, by decide +kernel, by decide +kernel⟩, by decide⟩
set_option maxRecDepth 100000 in
theorem ins_X0_hopedSeated : Cond.instanceMethod yX0_hopedSeated ∈ xTb := tc6 32 rfl rfl
set_option maxRecDepth 100000 in
theorem sel_X0_hopedSeated : Cond.selects yX0_hopedSeated.cls yX0_hopedSeated yX0_hopedSeated ∈ xTb := tc0 65 rfl rfl
set_option maxRecDepth 100000 in
theorem cal_X0_hoped : xCal yX0_hoped cX0_hoped 14 (some .int) 4 := ⟨tl6 28 rfl, tc1 8 rfl rfl, ⟨by decide +kernel, by decide +kernel, by decide +kernel⟩, by decide⟩
set_option maxRecDepth 100000 in
theorem ins_X0_hoped : Cond.instanceMethod yX0_hoped ∈ xTb := tc6 27 rfl rfl
set_option maxRecDepth 100000 in
theorem sel_X0_hoped : Cond.selects yX0_hoped.cls yX0_hoped yX0_hoped ∈ xTb := tc0 64 rfl rfl
set_option maxRecDepth 100000 in
theorem cal_X0_hopeFrom : xCal yX0_hopeFrom cX0_hopeFrom 3 (some .int) 2 := ⟨tl6 24 rfl, tc1 8 rfl rfl, ⟨by decide +kernel, by decide +kernel, by decide +kernel⟩, by decide⟩
set_option maxRecDepth 100000 in
theorem ins_X0_hopeFrom : Cond.instanceMethod yX0_hopeFrom ∈ xTb := tc6 22 rfl rfl
set_option maxRecDepth 100000 in
theorem sel_X0_hopeFrom : Cond.selects yX0_hopeFrom.cls yX0_hopeFrom yX0_hopeFrom ∈ xTb := tc6 23 rfl rfl
set_option maxRecDepth 100000 in
theorem cal_X2_isWord : xCal yX2_isWord cX2_isWord 2 (some .boolean) 1 := ⟨tl3 151 rfl, tc1 2 rfl rfl, ⟨by decide +kernel, by decide +kernel, by decide +kernel⟩, by decide⟩
set_option maxRecDepth 100000 in
theorem ins_X2_isWord : Cond.instanceMethod yX2_isWord ∈ xTb := tc3 149 rfl rfl
set_option maxRecDepth 100000 in
theorem sel_X2_isWord : Cond.selects yX2_isWord.cls yX2_isWord yX2_isWord ∈ xTb := tc3 150 rfl rfl
set_option maxRecDepth 100000 in
theorem cal_X2_lengthOf : xCal yX2_lengthOf cX2_lengthOf 2 (some .int) 1 := ⟨tl3 147 rfl, tc1 2 rfl rfl, ⟨by decide +kernel, by decide +kernel, by decide +kernel⟩, by decide⟩
set_option maxRecDepth 100000 in
theorem ins_X2_lengthOf : Cond.instanceMethod yX2_lengthOf ∈ xTb := tc3 145 rfl rfl
set_option maxRecDepth 100000 in
theorem sel_X2_lengthOf : Cond.selects yX2_lengthOf.cls yX2_lengthOf yX2_lengthOf ∈ xTb := tc3 146 rfl rfl
set_option maxRecDepth 100000 in
theorem cal_X2_glyphOf : xCal yX2_glyphOf cX2_glyphOf 3 (some .int) 2 := ⟨tl3 155 rfl, tc1 2 rfl rfl, ⟨by decide +kernel, by decide +kernel, by decide +kernel⟩, by decide⟩
set_option maxRecDepth 100000 in
theorem ins_X2_glyphOf : Cond.instanceMethod yX2_glyphOf ∈ xTb := tc3 153 rfl rfl
set_option maxRecDepth 100000 in
theorem sel_X2_glyphOf : Cond.selects yX2_glyphOf.cls yX2_glyphOf yX2_glyphOf ∈ xTb := tc3 154 rfl rfl
set_option maxRecDepth 100000 in
theorem cal_X1_isWithout : xCal yX1_isWithout cX1_isWithout 5 (some .boolean) 3 := ⟨tl3 232 rfl, tc1 5 rfl rfl, ⟨by decide +kernel, by decide +kernel, by decide +kernel⟩, by decide⟩
set_option maxRecDepth 100000 in
theorem ins_X1_isWithout : Cond.instanceMethod yX1_isWithout ∈ xTb := tc3 231 rfl rfl
set_option maxRecDepth 100000 in
theorem sel_X1_isWithout : Cond.selects yX1_isWithout.cls yX1_isWithout yX1_isWithout ∈ xTb := tc0 22 rfl rfl
set_option maxRecDepth 100000 in
theorem cal_X1_letterBetween : xCal yX1_letterBetween cX1_letterBetween 6 (some .int) 2 := ⟨tl3 227 rfl, tc1 5 rfl rfl, ⟨by decide +kernel, by decide +kernel, by decide +kernel⟩, by decide⟩
set_option maxRecDepth 100000 in
theorem ins_X1_letterBetween : Cond.instanceMethod yX1_letterBetween ∈ xTb := tc3 226 rfl rfl
set_option maxRecDepth 100000 in
theorem sel_X1_letterBetween : Cond.selects yX1_letterBetween.cls yX1_letterBetween yX1_letterBetween ∈ xTb := tc0 21 rfl rfl
set_option maxRecDepth 100000 in
theorem cal_X2_isGood : xCal yX2_isGood cX2_isGood 2 (some .boolean) 1 := ⟨tl4 2 rfl, tc1 2 rfl rfl, ⟨by decide +kernel, by decide +kernel, by decide +kernel⟩, by decide⟩
set_option maxRecDepth 100000 in
theorem ins_X2_isGood : Cond.instanceMethod yX2_isGood ∈ xTb := tc4 0 rfl rfl
set_option maxRecDepth 100000 in
theorem sel_X2_isGood : Cond.selects yX2_isGood.cls yX2_isGood yX2_isGood ∈ xTb := tc4 1 rfl rfl
set_option maxRecDepth 100000 in
theorem cal_X1_link : xCal yX1_link cX1_link 3 none 2 := ⟨tl4 6 rfl, tc1 5 rfl rfl, ⟨by decide +kernel, by decide +kernel, by decide +kernel⟩, by decide⟩
set_option maxRecDepth 100000 in
theorem ins_X1_link : Cond.instanceMethod yX1_link ∈ xTb := tc4 5 rfl rfl
set_option maxRecDepth 100000 in
theorem sel_X1_link : Cond.selects yX1_link.cls yX1_link yX1_link ∈ xTb := tc0 23 rfl rfl
set_option maxRecDepth 100000 in
theorem cal_X1_chainOf : xCal yX1_chainOf cX1_chainOf 2 (some .int) 1 := ⟨tl4 14 rfl, tc1 5 rfl rfl, ⟨by decide +kernel, by decide +kernel, by decide +kernel⟩, by decide⟩
set_option maxRecDepth 100000 in
theorem ins_X1_chainOf : Cond.instanceMethod yX1_chainOf ∈ xTb := tc4 12 rfl rfl
set_option maxRecDepth 100000 in
theorem sel_X1_chainOf : Cond.selects yX1_chainOf.cls yX1_chainOf yX1_chainOf ∈ xTb := tc4 13 rfl rfl
set_option maxRecDepth 100000 in
theorem cal_X1_nimOf : xCal yX1_nimOf cX1_nimOf 2 (some .int) 1 := ⟨tl4 25 rfl, tc1 5 rfl rfl, ⟨by decide +kernel, by decide +kernel, by decide +kernel⟩, by decide⟩
set_option maxRecDepth 100000 in
theorem ins_X1_nimOf : Cond.instanceMethod yX1_nimOf ∈ xTb := tc4 23 rfl rfl
set_option maxRecDepth 100000 in
theorem sel_X1_nimOf : Cond.selects yX1_nimOf.cls yX1_nimOf yX1_nimOf ∈ xTb := tc4 24 rfl rfl
set_option maxRecDepth 100000 in
theorem cal_X1_leastWithout : xCal yX1_leastWithout cX1_leastWithout 2 (some .int) 1 := ⟨tl4 28 rfl, tc1 5 rfl rfl, ⟨by decide +kernel, by decide +kernel, by decide +kernel⟩, by decide⟩
set_option maxRecDepth 100000 in
theorem sta_X1_leastWithout : Cond.static yX1_leastWithout ∈ xTb := tc4 27 rfl rfl
set_option maxRecDepth 100000 in
theorem cal_X1_lookUp : xCal yX1_lookUp cX1_lookUp 6 none 1 := ⟨tl4 10 rfl, tc1 5 rfl rfl, ⟨by decide +kernel, by decide +kernel, by decide +kernel⟩, by decide⟩
set_option maxRecDepth 100000 in
theorem ins_X1_lookUp : Cond.instanceMethod yX1_lookUp ∈ xTb := tc4 9 rfl rfl
set_option maxRecDepth 100000 in
theorem sel_X1_lookUp : Cond.selects yX1_lookUp.cls yX1_lookUp yX1_lookUp ∈ xTb := tc0 24 rfl rfl
set_option maxRecDepth 100000 in
theorem cal_X1_riseOf : xCal yX1_riseOf cX1_riseOf 2 (some .int) 1 := ⟨tl4 36 rfl, tc1 5 rfl rfl, ⟨by decide +kernel, by decide +kernel, by decide +kernel⟩, by decide⟩
set_option maxRecDepth 100000 in
theorem ins_X1_riseOf : Cond.instanceMethod yX1_riseOf ∈ xTb := tc4 34 rfl rfl
set_option maxRecDepth 100000 in
theorem sel_X1_riseOf : Cond.selects yX1_riseOf.cls yX1_riseOf yX1_riseOf ∈ xTb := tc4 35 rfl rfl
set_option maxRecDepth 100000 in
theorem cal_X1_lookDown : xCal yX1_lookDown cX1_lookDown 5 none 1 := ⟨tl4 32 rfl, tc1 5 rfl rfl, ⟨by decide +kernel, by decide +kernel, by decide +kernel⟩, by decide⟩
set_option maxRecDepth 100000 in
theorem ins_X1_lookDown : Cond.instanceMethod yX1_lookDown ∈ xTb := tc4 31 rfl rfl
set_option maxRecDepth 100000 in
theorem sel_X1_lookDown : Cond.selects yX1_lookDown.cls yX1_lookDown yX1_lookDown ∈ xTb := tc0 26 rfl rfl
set_option maxRecDepth 100000 in
theorem cal_X1_settle : xCal yX1_settle cX1_settle 4 none 0 := ⟨tl3 237 rfl, tc1 5 rfl rfl, ⟨by decide +kernel, by decide +kernel, by decide +kernel⟩, by decide⟩
set_option maxRecDepth 100000 in
theorem ins_X1_settle : Cond.instanceMethod yX1_settle ∈ xTb := tc3 235 rfl rfl
set_option maxRecDepth 100000 in
theorem sel_X1_settle : Cond.selects yX1_settle.cls yX1_settle yX1_settle ∈ xTb := tc3 236 rfl rfl
set_option maxRecDepth 100000 in
theorem cal_X1_weave : xCal yX1_weave cX1_weave 3 none 0 := ⟨tl3 223 rfl, tc1 5 rfl rfl, ⟨by decide +kernel, by decide +kernel, by decide +kernel⟩, by decide⟩
set_option maxRecDepth 100000 in
theorem ins_X1_weave : Cond.instanceMethod yX1_weave ∈ xTb := tc3 221 rfl rfl
set_option maxRecDepth 100000 in
theorem sel_X1_weave : Cond.selects yX1_weave.cls yX1_weave yX1_weave ∈ xTb := tc3 222 rfl rfl
set_option maxRecDepth 100000 in
theorem cal_X1_letterOf : xCal yX1_letterOf cX1_letterOf 3 (some .int) 2 := ⟨tl4 92 rfl, tc1 5 rfl rfl, ⟨by decide +kernel, by decide +kernel, by decide +kernel⟩, by decide⟩
set_option maxRecDepth 100000 in
theorem ins_X1_letterOf : Cond.instanceMethod yX1_letterOf ∈ xTb := tc4 90 rfl rfl
set_option maxRecDepth 100000 in
theorem sel_X1_letterOf : Cond.selects yX1_letterOf.cls yX1_letterOf yX1_letterOf ∈ xTb := tc4 91 rfl rfl
set_option maxRecDepth 100000 in
theorem cal_X1_downs : xCal yX1_downs cX1_downs 2 (some .int) 1 := ⟨tl5 180 rfl, tc1 5 rfl rfl, ⟨by decide +kernel, by decide +kernel, by decide +kernel⟩, by decide⟩
set_option maxRecDepth 100000 in
theorem ins_X1_downs : Cond.instanceMethod yX1_downs ∈ xTb := tc5 178 rfl rfl
set_option maxRecDepth 100000 in
theorem sel_X1_downs : Cond.selects yX1_downs.cls yX1_downs yX1_downs ∈ xTb := tc5 179 rfl rfl
set_option maxRecDepth 100000 in
theorem cal_X1_downOf : xCal yX1_downOf cX1_downOf 3 (some .int) 2 := ⟨tl5 185 rfl, tc1 5 rfl rfl, ⟨by decide +kernel, by decide +kernel, by decide +kernel⟩, by decide⟩
set_option maxRecDepth 100000 in
theorem ins_X1_downOf : Cond.instanceMethod yX1_downOf ∈ xTb := tc5 183 rfl rfl
set_option maxRecDepth 100000 in
theorem sel_X1_downOf : Cond.selects yX1_downOf.cls yX1_downOf yX1_downOf ∈ xTb := tc5 184 rfl rfl
set_option maxRecDepth 100000 in
theorem cal_X1_waysBy : xCal yX1_waysBy cX1_waysBy 5 (some .int) 2 := ⟨tl5 114 rfl, tc1 5 rfl rfl, ⟨by decide +kernel, by decide +kernel, by decide +kernel⟩, by decide⟩
set_option maxRecDepth 100000 in
theorem ins_X1_waysBy : Cond.instanceMethod yX1_waysBy ∈ xTb := tc5 112 rfl rfl
set_option maxRecDepth 100000 in
theorem sel_X1_waysBy : Cond.selects yX1_waysBy.cls yX1_waysBy yX1_waysBy ∈ xTb := tc5 113 rfl rfl
set_option maxRecDepth 100000 in
theorem cal_X2_clear : xCal yX2_clear cX2_clear 1 none 0 := ⟨tl3 32 rfl, tc1 2 rfl rfl, ⟨by decide +kernel, by decide +kernel, by decide +kernel⟩, by decide⟩
set_option maxRecDepth 100000 in
theorem ins_X2_clear : Cond.instanceMethod yX2_clear ∈ xTb := tc3 30 rfl rfl
set_option maxRecDepth 100000 in
theorem sel_X2_clear : Cond.selects yX2_clear.cls yX2_clear yX2_clear ∈ xTb := tc3 31 rfl rfl
set_option maxRecDepth 100000 in
theorem cal_X2_copyFrom : xCal yX2_copyFrom cX2_copyFrom 3 none 1 := ⟨tl3 216 rfl, tc1 2 rfl rfl, ⟨by decide +kernel, by decide +kernel, by decide +kernel⟩, by decide⟩
set_option maxRecDepth 100000 in
theorem ins_X2_copyFrom : Cond.instanceMethod yX2_copyFrom ∈ xTb := tc3 214 rfl rfl
set_option maxRecDepth 100000 in
theorem sel_X2_copyFrom : Cond.selects yX2_copyFrom.cls yX2_copyFrom yX2_copyFrom ∈ xTb := tc3 215 rfl rfl
set_option maxRecDepth 100000 in
theorem cal_X2_isOpen : xCal yX2_isOpen cX2_isOpen 1 (some .boolean) 0 := ⟨tl4 142 rfl, tc1 2 rfl rfl, ⟨by decide +kernel, by decide +kernel, by decide +kernel⟩, by decide⟩
set_option maxRecDepth 100000 in
theorem ins_X2_isOpen : Cond.instanceMethod yX2_isOpen ∈ xTb := tc4 140 rfl rfl
set_option maxRecDepth 100000 in
theorem sel_X2_isOpen : Cond.selects yX2_isOpen.cls yX2_isOpen yX2_isOpen ∈ xTb := tc4 141 rfl rfl
set_option maxRecDepth 100000 in
theorem cal_X2_isBarred : xCal yX2_isBarred cX2_isBarred 2 (some .boolean) 1 := ⟨tl4 78 rfl, tc1 2 rfl rfl, ⟨by decide +kernel, by decide +kernel, by decide +kernel⟩, by decide⟩
set_option maxRecDepth 100000 in
theorem ins_X2_isBarred : Cond.instanceMethod yX2_isBarred ∈ xTb := tc4 76 rfl rfl
set_option maxRecDepth 100000 in
theorem sel_X2_isBarred : Cond.selects yX2_isBarred.cls yX2_isBarred yX2_isBarred ∈ xTb := tc4 77 rfl rfl
set_option maxRecDepth 100000 in
theorem cal_X2_valueOf : xCal yX2_valueOf cX2_valueOf 2 (some .int) 1 := ⟨tl4 74 rfl, tc1 2 rfl rfl, ⟨by decide +kernel, by decide +kernel, by decide +kernel⟩, by decide⟩
set_option maxRecDepth 100000 in
theorem ins_X2_valueOf : Cond.instanceMethod yX2_valueOf ∈ xTb := tc4 72 rfl rfl
set_option maxRecDepth 100000 in
theorem sel_X2_valueOf : Cond.selects yX2_valueOf.cls yX2_valueOf yX2_valueOf ∈ xTb := tc4 73 rfl rfl
set_option maxRecDepth 100000 in
theorem cal_X2_glyphsOf : xCal yX2_glyphsOf cX2_glyphsOf 2 (some (.array .int)) 1 := ⟨tl4 194 rfl, tc1 2 rfl rfl, ⟨by decide +kernel, by decide +kernel, by decide +kernel⟩, by decide⟩
set_option maxRecDepth 100000 in
theorem ins_X2_glyphsOf : Cond.instanceMethod yX2_glyphsOf ∈ xTb := tc4 192 rfl rfl
set_option maxRecDepth 100000 in
theorem sel_X2_glyphsOf : Cond.selects yX2_glyphsOf.cls yX2_glyphsOf yX2_glyphsOf ∈ xTb := tc4 193 rfl rfl
set_option maxRecDepth 100000 in
theorem cal_X2_seenOf : xCal yX2_seenOf cX2_seenOf 2 (some .int) 1 := ⟨tl6 86 rfl, tc1 2 rfl rfl, ⟨by decide +kernel, by decide +kernel, by decide +kernel⟩, by decide⟩
set_option maxRecDepth 100000 in
theorem ins_X2_seenOf : Cond.instanceMethod yX2_seenOf ∈ xTb := tc6 84 rfl rfl
set_option maxRecDepth 100000 in
theorem sel_X2_seenOf : Cond.selects yX2_seenOf.cls yX2_seenOf yX2_seenOf ∈ xTb := tc6 85 rfl rfl
set_option maxRecDepth 100000 in
theorem cal_X2_setBarred : xCal yX2_setBarred cX2_setBarred 3 none 2 := ⟨tl3 169 rfl, tc1 2 rfl rfl, ⟨by decide +kernel, by decide +kernel, by decide +kernel⟩, by decide⟩
set_option maxRecDepth 100000 in
theorem ins_X2_setBarred : Cond.instanceMethod yX2_setBarred ∈ xTb := tc3 167 rfl rfl
set_option maxRecDepth 100000 in
theorem sel_X2_setBarred : Cond.selects yX2_setBarred.cls yX2_setBarred yX2_setBarred ∈ xTb := tc3 168 rfl rfl
set_option maxRecDepth 100000 in
theorem cal_X2_setValue : xCal yX2_setValue cX2_setValue 3 none 2 := ⟨tl3 164 rfl, tc1 2 rfl rfl, ⟨by decide +kernel, by decide +kernel, by decide +kernel⟩, by decide⟩
set_option maxRecDepth 100000 in
theorem ins_X2_setValue : Cond.instanceMethod yX2_setValue ∈ xTb := tc3 162 rfl rfl
set_option maxRecDepth 100000 in
theorem sel_X2_setValue : Cond.selects yX2_setValue.cls yX2_setValue yX2_setValue ∈ xTb := tc3 163 rfl rfl
set_option maxRecDepth 100000 in
theorem cal_X2_setFirst : xCal yX2_setFirst cX2_setFirst 3 none 2 := ⟨tl6 131 rfl, tc1 2 rfl rfl, ⟨by decide +kernel, by decide +kernel, by decide +kernel⟩, by decide⟩
set_option maxRecDepth 100000 in
theorem ins_X2_setFirst : Cond.instanceMethod yX2_setFirst ∈ xTb := tc6 129 rfl rfl
set_option maxRecDepth 100000 in
theorem sel_X2_setFirst : Cond.selects yX2_setFirst.cls yX2_setFirst yX2_setFirst ∈ xTb := tc6 130 rfl rfl
set_option maxRecDepth 100000 in
theorem cal_X2_addWord : xCal yX2_addWord cX2_addWord 5 none 3 := ⟨tl3 159 rfl, tc1 2 rfl rfl, ⟨by decide +kernel, by decide +kernel, by decide +kernel⟩, by decide⟩
set_option maxRecDepth 100000 in
theorem ins_X2_addWord : Cond.instanceMethod yX2_addWord ∈ xTb := tc3 157 rfl rfl
set_option maxRecDepth 100000 in
theorem sel_X2_addWord : Cond.selects yX2_addWord.cls yX2_addWord yX2_addWord ∈ xTb := tc3 158 rfl rfl
set_option maxRecDepth 100000 in
theorem cal_X2_addGuest : xCal yX2_addGuest cX2_addGuest 2 none 1 := ⟨tl3 186 rfl, tc1 2 rfl rfl, ⟨by decide +kernel, by decide +kernel, by decide +kernel⟩, by decide⟩
set_option maxRecDepth 100000 in
theorem ins_X2_addGuest : Cond.instanceMethod yX2_addGuest ∈ xTb := tc3 184 rfl rfl
set_option maxRecDepth 100000 in
theorem sel_X2_addGuest : Cond.selects yX2_addGuest.cls yX2_addGuest yX2_addGuest ∈ xTb := tc3 185 rfl rfl
set_option maxRecDepth 100000 in
theorem cal_X2_addLikely : xCal yX2_addLikely cX2_addLikely 3 none 2 := ⟨tl3 199 rfl, tc1 2 rfl rfl, ⟨by decide +kernel, by decide +kernel, by decide +kernel⟩, by decide⟩
set_option maxRecDepth 100000 in
theorem ins_X2_addLikely : Cond.instanceMethod yX2_addLikely ∈ xTb := tc3 197 rfl rfl
set_option maxRecDepth 100000 in
theorem sel_X2_addLikely : Cond.selects yX2_addLikely.cls yX2_addLikely yX2_addLikely ∈ xTb := tc3 198 rfl rfl
set_option maxRecDepth 100000 in
theorem cal_X2_addSeen : xCal yX2_addSeen cX2_addSeen 2 none 1 := ⟨tl3 208 rfl, tc1 2 rfl rfl, ⟨by decide +kernel, by decide +kernel, by decide +kernel⟩, by decide⟩
set_option maxRecDepth 100000 in
theorem ins_X2_addSeen : Cond.instanceMethod yX2_addSeen ∈ xTb := tc3 206 rfl rfl
set_option maxRecDepth 100000 in
theorem sel_X2_addSeen : Cond.selects yX2_addSeen.cls yX2_addSeen yX2_addSeen ∈ xTb := tc3 207 rfl rfl
set_option maxRecDepth 100000 in
theorem cal_X3_farOf : xCal yX3_farOf cX3_farOf 2 (some .int) 1 := ⟨tl4 115 rfl, tc1 6 rfl rfl, ⟨by decide +kernel, by decide +kernel, by decide +kernel⟩, by decide⟩
set_option maxRecDepth 100000 in
theorem ins_X3_farOf : Cond.instanceMethod yX3_farOf ∈ xTb := tc4 113 rfl rfl
set_option maxRecDepth 100000 in
theorem sel_X3_farOf : Cond.selects yX3_farOf.cls yX3_farOf yX3_farOf ∈ xTb := tc4 114 rfl rfl
set_option maxRecDepth 100000 in
theorem cal_X3_isRung : xCal yX3_isRung cX3_isRung 3 (some .boolean) 2 := ⟨tl4 119 rfl, tc1 6 rfl rfl, ⟨by decide +kernel, by decide +kernel, by decide +kernel⟩, by decide⟩
set_option maxRecDepth 100000 in
theorem ins_X3_isRung : Cond.instanceMethod yX3_isRung ∈ xTb := tc4 118 rfl rfl
set_option maxRecDepth 100000 in
theorem sel_X3_isRung : Cond.selects yX3_isRung.cls yX3_isRung yX3_isRung ∈ xTb := tc0 30 rfl rfl
set_option maxRecDepth 100000 in
theorem cal_X3_measure : xCal yX3_measure cX3_measure 6 none 1 := ⟨tl4 109 rfl, tc1 6 rfl rfl, ⟨by decide +kernel, by decide +kernel, by decide +kernel⟩, by decide⟩
set_option maxRecDepth 100000 in
theorem ins_X3_measure : Cond.instanceMethod yX3_measure ∈ xTb := tc4 107 rfl rfl
set_option maxRecDepth 100000 in
theorem sel_X3_measure : Cond.selects yX3_measure.cls yX3_measure yX3_measure ∈ xTb := tc4 108 rfl rfl
set_option maxRecDepth 100000 in
theorem cal_X3_nearer : xCal yX3_nearer cX3_nearer 3 (some .int) 1 := ⟨tl4 134 rfl, tc1 6 rfl rfl, ⟨by decide +kernel, by decide +kernel, by decide +kernel⟩, by decide⟩
set_option maxRecDepth 100000 in
theorem ins_X3_nearer : Cond.instanceMethod yX3_nearer ∈ xTb := tc4 133 rfl rfl
set_option maxRecDepth 100000 in
theorem sel_X3_nearer : Cond.selects yX3_nearer.cls yX3_nearer yX3_nearer ∈ xTb := tc0 31 rfl rfl
set_option maxRecDepth 100000 in
theorem cal_X3_after : xCal yX3_after cX3_after 5 (some .int) 2 := ⟨tl4 130 rfl, tc1 6 rfl rfl, ⟨by decide +kernel, by decide +kernel, by decide +kernel⟩, by decide⟩
set_option maxRecDepth 100000 in
theorem ins_X3_after : Cond.instanceMethod yX3_after ∈ xTb := tc4 128 rfl rfl
set_option maxRecDepth 100000 in
theorem sel_X3_after : Cond.selects yX3_after.cls yX3_after yX3_after ∈ xTb := tc4 129 rfl rfl
set_option maxRecDepth 100000 in
theorem cal_X4_begin : xCal yX4_begin cX4_begin 2 none 1 := ⟨tl4 41 rfl, tc1 12 rfl rfl, ⟨by decide +kernel, by decide +kernel, by decide +kernel⟩, by decide⟩
set_option maxRecDepth 100000 in
theorem ins_X4_begin : Cond.instanceMethod yX4_begin ∈ xTb := tc4 39 rfl rfl
set_option maxRecDepth 100000 in
theorem sel_X4_begin : Cond.selects yX4_begin.cls yX4_begin yX4_begin ∈ xTb := tc4 40 rfl rfl
set_option maxRecDepth 100000 in
theorem cal_X4_copyFrom : xCal yX4_copyFrom cX4_copyFrom 2 none 1 := ⟨tl6 69 rfl, tc1 12 rfl rfl, ⟨by decide +kernel, by decide +kernel, by decide +kernel⟩, by decide⟩
set_option maxRecDepth 100000 in
theorem ins_X4_copyFrom : Cond.instanceMethod yX4_copyFrom ∈ xTb := tc6 67 rfl rfl
set_option maxRecDepth 100000 in
theorem sel_X4_copyFrom : Cond.selects yX4_copyFrom.cls yX4_copyFrom yX4_copyFrom ∈ xTb := tc6 68 rfl rfl
set_option maxRecDepth 100000 in
theorem cal_X4_sitDown : xCal yX4_sitDown cX4_sitDown 3 none 2 := ⟨tl5 94 rfl, tc1 12 rfl rfl, ⟨by decide +kernel, by decide +kernel, by decide +kernel⟩, by decide⟩
set_option maxRecDepth 100000 in
theorem ins_X4_sitDown : Cond.instanceMethod yX4_sitDown ∈ xTb := tc5 92 rfl rfl
set_option maxRecDepth 100000 in
theorem sel_X4_sitDown : Cond.selects yX4_sitDown.cls yX4_sitDown yX4_sitDown ∈ xTb := tc5 93 rfl rfl
set_option maxRecDepth 100000 in
theorem cal_X4_leaveStanding : xCal yX4_leaveStanding cX4_leaveStanding 1 none 0 := ⟨tl5 90 rfl, tc1 12 rfl rfl, ⟨by decide +kernel, by decide +kernel, by decide +kernel⟩, by decide⟩
set_option maxRecDepth 100000 in
theorem ins_X4_leaveStanding : Cond.instanceMethod yX4_leaveStanding ∈ xTb := tc5 88 rfl rfl
set_option maxRecDepth 100000 in
theorem sel_X4_leaveStanding : Cond.selects yX4_leaveStanding.cls yX4_leaveStanding yX4_leaveStanding ∈ xTb := tc5 89 rfl rfl
set_option maxRecDepth 100000 in
theorem cal_X4_standingBits : xCal yX4_standingBits cX4_standingBits 1 (some .int) 0 := ⟨tl5 128 rfl, tc1 12 rfl rfl, ⟨by decide +kernel, by decide +kernel, by decide +kernel⟩, by decide⟩
set_option maxRecDepth 100000 in
theorem ins_X4_standingBits : Cond.instanceMethod yX4_standingBits ∈ xTb := tc5 126 rfl rfl
set_option maxRecDepth 100000 in
theorem sel_X4_standingBits : Cond.selects yX4_standingBits.cls yX4_standingBits yX4_standingBits ∈ xTb := tc5 127 rfl rfl
set_option maxRecDepth 100000 in
theorem cal_X4_seatedGuest : xCal yX4_seatedGuest cX4_seatedGuest 4 (some .int) 1 := ⟨tl6 161 rfl, tc1 12 rfl rfl, ⟨by decide +kernel, by decide +kernel, by decide +kernel⟩, by decide⟩
set_option maxRecDepth 100000 in
theorem ins_X4_seatedGuest : Cond.instanceMethod yX4_seatedGuest ∈ xTb := tc6 159 rfl rfl
set_option maxRecDepth 100000 in
theorem sel_X4_seatedGuest : Cond.selects yX4_seatedGuest.cls yX4_seatedGuest yX4_seatedGuest ∈ xTb := tc6 160 rfl rfl
set_option maxRecDepth 100000 in
theorem cal_X5_appendFour : xCal yX5_appendFour cX5_appendFour 3 none 1 := ⟨tl3 16 rfl, tc1 4 rfl rfl, ⟨by decide +kernel, by decide +kernel, by decide +kernel⟩, by decide⟩
set_option maxRecDepth 100000 in
theorem ins_X5_appendFour : Cond.instanceMethod yX5_appendFour ∈ xTb := tc3 15 rfl rfl
set_option maxRecDepth 100000 in
theorem sel_X5_appendFour : Cond.selects yX5_appendFour.cls yX5_appendFour yX5_appendFour ∈ xTb := tc0 0 rfl rfl
set_option maxRecDepth 100000 in
theorem cal_X5_append : xCal yX5_append cX5_append 6 (some .int) 5 := ⟨tl3 12 rfl, tc1 4 rfl rfl, ⟨by decide +kernel, by decide +kernel, by decide +kernel⟩, by decide⟩
set_option maxRecDepth 100000 in
theorem ins_X5_append : Cond.instanceMethod yX5_append ∈ xTb := tc3 10 rfl rfl
set_option maxRecDepth 100000 in
theorem sel_X5_append : Cond.selects yX5_append.cls yX5_append yX5_append ∈ xTb := tc3 11 rfl rfl
set_option maxRecDepth 100000 in
theorem cal_X5_byteAt : xCal yX5_byteAt cX5_byteAt 2 (some .int) 1 := ⟨tl3 43 rfl, tc1 4 rfl rfl, ⟨by decide +kernel, by decide +kernel, by decide +kernel⟩, by decide⟩
set_option maxRecDepth 100000 in
theorem ins_X5_byteAt : Cond.instanceMethod yX5_byteAt ∈ xTb := tc3 42 rfl rfl
set_option maxRecDepth 100000 in
theorem sel_X5_byteAt : Cond.selects yX5_byteAt.cls yX5_byteAt yX5_byteAt ∈ xTb := tc0 3 rfl rfl
set_option maxRecDepth 100000 in
theorem cal_X5_runEnd : xCal yX5_runEnd cX5_runEnd 4 (some .int) 2 := ⟨tl3 47 rfl, tc1 4 rfl rfl, ⟨by decide +kernel, by decide +kernel, by decide +kernel⟩, by decide⟩
set_option maxRecDepth 100000 in
theorem ins_X5_runEnd : Cond.instanceMethod yX5_runEnd ∈ xTb := tc3 46 rfl rfl
set_option maxRecDepth 100000 in
theorem sel_X5_runEnd : Cond.selects yX5_runEnd.cls yX5_runEnd yX5_runEnd ∈ xTb := tc0 4 rfl rfl
set_option maxRecDepth 100000 in
theorem cal_X5_next : xCal yX5_next cX5_next 2 none 0 := ⟨tl3 39 rfl, tc1 4 rfl rfl, ⟨by decide +kernel, by decide +kernel, by decide +kernel⟩, by decide⟩
set_option maxRecDepth 100000 in
theorem ins_X5_next : Cond.instanceMethod yX5_next ∈ xTb := tc3 38 rfl rfl
set_option maxRecDepth 100000 in
theorem sel_X5_next : Cond.selects yX5_next.cls yX5_next yX5_next ∈ xTb := tc0 2 rfl rfl
set_option maxRecDepth 100000 in
theorem cal_X5_reads : xCal yX5_reads cX5_reads 3 (some .boolean) 1 := ⟨tl3 56 rfl, tc1 4 rfl rfl, ⟨by decide +kernel, by decide +kernel, by decide +kernel⟩, by decide⟩
set_option maxRecDepth 100000 in
theorem ins_X5_reads : Cond.instanceMethod yX5_reads ∈ xTb := tc3 55 rfl rfl
set_option maxRecDepth 100000 in
theorem sel_X5_reads : Cond.selects yX5_reads.cls yX5_reads yX5_reads ∈ xTb := tc0 6 rfl rfl
set_option maxRecDepth 100000 in
theorem cal_X5_fails : xCal yX5_fails cX5_fails 2 (some .boolean) 1 := ⟨tl3 112 rfl, tc1 4 rfl rfl, ⟨by decide +kernel, by decide +kernel, by decide +kernel⟩, by decide⟩
set_option maxRecDepth 100000 in
theorem ins_X5_fails : Cond.instanceMethod yX5_fails ∈ xTb := tc3 111 rfl rfl
set_option maxRecDepth 100000 in
theorem sel_X5_fails : Cond.selects yX5_fails.cls yX5_fails yX5_fails ∈ xTb := tc0 8 rfl rfl
set_option maxRecDepth 100000 in
theorem cal_X5_readKey : xCal yX5_readKey cX5_readKey 2 (some .boolean) 1 := ⟨tl3 117 rfl, tc1 4 rfl rfl, ⟨by decide +kernel, by decide +kernel, by decide +kernel⟩, by decide⟩
set_option maxRecDepth 100000 in
theorem ins_X5_readKey : Cond.instanceMethod yX5_readKey ∈ xTb := tc3 116 rfl rfl
set_option maxRecDepth 100000 in
theorem sel_X5_readKey : Cond.selects yX5_readKey.cls yX5_readKey yX5_readKey ∈ xTb := tc0 9 rfl rfl
set_option maxRecDepth 100000 in
theorem cal_X5_readWhole : xCal yX5_readWhole cX5_readWhole 4 (some .boolean) 2 := ⟨tl3 121 rfl, tc1 4 rfl rfl, ⟨by decide +kernel, by decide +kernel, by decide +kernel⟩, by decide⟩
set_option maxRecDepth 100000 in
theorem ins_X5_readWhole : Cond.instanceMethod yX5_readWhole ∈ xTb := tc3 120 rfl rfl
set_option maxRecDepth 100000 in
theorem sel_X5_readWhole : Cond.selects yX5_readWhole.cls yX5_readWhole yX5_readWhole ∈ xTb := tc0 10 rfl rfl
set_option maxRecDepth 100000 in
theorem cal_X5_readManner : xCal yX5_readManner cX5_readManner 1 (some .boolean) 0 := ⟨tl3 127 rfl, tc1 4 rfl rfl, ⟨by decide +kernel, by decide +kernel, by decide +kernel⟩, by decide⟩
set_option maxRecDepth 100000 in
theorem ins_X5_readManner : Cond.instanceMethod yX5_readManner ∈ xTb := tc3 126 rfl rfl
set_option maxRecDepth 100000 in
theorem sel_X5_readManner : Cond.selects yX5_readManner.cls yX5_readManner yX5_readManner ∈ xTb := tc0 11 rfl rfl
set_option maxRecDepth 100000 in
theorem cal_X5_readHouse : xCal yX5_readHouse cX5_readHouse 1 (some .boolean) 0 := ⟨tl3 108 rfl, tc1 4 rfl rfl, ⟨by decide +kernel, by decide +kernel, by decide +kernel⟩, by decide⟩
set_option maxRecDepth 100000 in
theorem ins_X5_readHouse : Cond.instanceMethod yX5_readHouse ∈ xTb := tc3 107 rfl rfl
set_option maxRecDepth 100000 in
theorem sel_X5_readHouse : Cond.selects yX5_readHouse.cls yX5_readHouse yX5_readHouse ∈ xTb := tc0 7 rfl rfl
set_option maxRecDepth 100000 in
theorem cal_X5_isWordHere : xCal yX5_isWordHere cX5_isWordHere 3 (some .boolean) 1 := ⟨tl3 143 rfl, tc1 4 rfl rfl, ⟨by decide +kernel, by decide +kernel, by decide +kernel⟩, by decide⟩
set_option maxRecDepth 100000 in
theorem ins_X5_isWordHere : Cond.instanceMethod yX5_isWordHere ∈ xTb := tc3 142 rfl rfl
set_option maxRecDepth 100000 in
theorem sel_X5_isWordHere : Cond.selects yX5_isWordHere.cls yX5_isWordHere yX5_isWordHere ∈ xTb := tc0 14 rfl rfl
set_option maxRecDepth 100000 in
theorem cal_X5_toldWord : xCal yX5_toldWord cX5_toldWord 2 (some .int) 0 := ⟨tl3 139 rfl, tc1 4 rfl rfl, ⟨by decide +kernel, by decide +kernel, by decide +kernel⟩, by decide⟩
set_option maxRecDepth 100000 in
theorem ins_X5_toldWord : Cond.instanceMethod yX5_toldWord ∈ xTb := tc3 138 rfl rfl
set_option maxRecDepth 100000 in
theorem sel_X5_toldWord : Cond.selects yX5_toldWord.cls yX5_toldWord yX5_toldWord ∈ xTb := tc0 13 rfl rfl
set_option maxRecDepth 100000 in
theorem cal_X5_readWord : xCal yX5_readWord cX5_readWord 2 (some .boolean) 0 := ⟨tl3 135 rfl, tc1 4 rfl rfl, ⟨by decide +kernel, by decide +kernel, by decide +kernel⟩, by decide⟩
set_option maxRecDepth 100000 in
theorem ins_X5_readWord : Cond.instanceMethod yX5_readWord ∈ xTb := tc3 134 rfl rfl
set_option maxRecDepth 100000 in
theorem sel_X5_readWord : Cond.selects yX5_readWord.cls yX5_readWord yX5_readWord ∈ xTb := tc0 12 rfl rfl
set_option maxRecDepth 100000 in
theorem cal_X5_isNameHere : xCal yX5_isNameHere cX5_isNameHere 4 (some .boolean) 2 := ⟨tl3 182 rfl, tc1 4 rfl rfl, ⟨by decide +kernel, by decide +kernel, by decide +kernel⟩, by decide⟩
set_option maxRecDepth 100000 in
theorem ins_X5_isNameHere : Cond.instanceMethod yX5_isNameHere ∈ xTb := tc3 181 rfl rfl
set_option maxRecDepth 100000 in
theorem sel_X5_isNameHere : Cond.selects yX5_isNameHere.cls yX5_isNameHere yX5_isNameHere ∈ xTb := tc0 17 rfl rfl
set_option maxRecDepth 100000 in
theorem cal_X5_isNamed : xCal yX5_isNamed cX5_isNamed 2 (some .boolean) 0 := ⟨tl3 178 rfl, tc1 4 rfl rfl, ⟨by decide +kernel, by decide +kernel, by decide +kernel⟩, by decide⟩
set_option maxRecDepth 100000 in
theorem ins_X5_isNamed : Cond.instanceMethod yX5_isNamed ∈ xTb := tc3 177 rfl rfl
set_option maxRecDepth 100000 in
theorem sel_X5_isNamed : Cond.selects yX5_isNamed.cls yX5_isNamed yX5_isNamed ∈ xTb := tc0 16 rfl rfl
set_option maxRecDepth 100000 in
theorem cal_X5_readGuests : xCal yX5_readGuests cX5_readGuests 2 (some .boolean) 0 := ⟨tl3 174 rfl, tc1 4 rfl rfl, ⟨by decide +kernel, by decide +kernel, by decide +kernel⟩, by decide⟩
set_option maxRecDepth 100000 in
theorem ins_X5_readGuests : Cond.instanceMethod yX5_readGuests ∈ xTb := tc3 173 rfl rfl
set_option maxRecDepth 100000 in
theorem sel_X5_readGuests : Cond.selects yX5_readGuests.cls yX5_readGuests yX5_readGuests ∈ xTb := tc0 15 rfl rfl
set_option maxRecDepth 100000 in
theorem cal_X5_readLikely : xCal yX5_readLikely cX5_readLikely 3 (some .boolean) 0 := ⟨tl3 191 rfl, tc1 4 rfl rfl, ⟨by decide +kernel, by decide +kernel, by decide +kernel⟩, by decide⟩
set_option maxRecDepth 100000 in
theorem ins_X5_readLikely : Cond.instanceMethod yX5_readLikely ∈ xTb := tc3 190 rfl rfl
set_option maxRecDepth 100000 in
theorem sel_X5_readLikely : Cond.selects yX5_readLikely.cls yX5_readLikely yX5_readLikely ∈ xTb := tc0 18 rfl rfl
set_option maxRecDepth 100000 in
theorem cal_X5_readSeen : xCal yX5_readSeen cX5_readSeen 3 (some .boolean) 0 := ⟨tl3 204 rfl, tc1 4 rfl rfl, ⟨by decide +kernel, by decide +kernel, by decide +kernel⟩, by decide⟩
set_option maxRecDepth 100000 in
theorem ins_X5_readSeen : Cond.instanceMethod yX5_readSeen ∈ xTb := tc3 203 rfl rfl
set_option maxRecDepth 100000 in
theorem sel_X5_readSeen : Cond.selects yX5_readSeen.cls yX5_readSeen yX5_readSeen ∈ xTb := tc0 19 rfl rfl
set_option maxRecDepth 100000 in
theorem cal_X5_readLine : xCal yX5_readLine cX5_readLine 1 (some .boolean) 0 := ⟨tl3 51 rfl, tc1 4 rfl rfl, ⟨by decide +kernel, by decide +kernel, by decide +kernel⟩, by decide⟩
set_option maxRecDepth 100000 in
theorem ins_X5_readLine : Cond.instanceMethod yX5_readLine ∈ xTb := tc3 50 rfl rfl
set_option maxRecDepth 100000 in
theorem sel_X5_readLine : Cond.selects yX5_readLine.cls yX5_readLine yX5_readLine ∈ xTb := tc0 5 rfl rfl
set_option maxRecDepth 100000 in
theorem cal_X5_ends : xCal yX5_ends cX5_ends 1 (some .boolean) 0 := ⟨tl3 212 rfl, tc1 4 rfl rfl, ⟨by decide +kernel, by decide +kernel, by decide +kernel⟩, by decide⟩
set_option maxRecDepth 100000 in
theorem ins_X5_ends : Cond.instanceMethod yX5_ends ∈ xTb := tc3 211 rfl rfl
set_option maxRecDepth 100000 in
theorem sel_X5_ends : Cond.selects yX5_ends.cls yX5_ends yX5_ends ∈ xTb := tc0 20 rfl rfl
set_option maxRecDepth 100000 in
theorem cal_X5_readInn : xCal yX5_readInn cX5_readInn 4 (some .boolean) 1 := ⟨tl3 28 rfl, tc1 4 rfl rfl, ⟨by decide +kernel, by decide +kernel, by decide +kernel⟩, by decide⟩
set_option maxRecDepth 100000 in
theorem ins_X5_readInn : Cond.instanceMethod yX5_readInn ∈ xTb := tc3 26 rfl rfl
set_option maxRecDepth 100000 in
theorem sel_X5_readInn : Cond.selects yX5_readInn.cls yX5_readInn yX5_readInn ∈ xTb := tc3 27 rfl rfl
set_option maxRecDepth 100000 in
theorem cal_X6_grownBy : xCal yX6_grownBy cX6_grownBy 2 (some .int) 1 := ⟨tl6 91 rfl, tc1 11 rfl rfl, ⟨by decide +kernel, by decide +kernel, by decide +kernel⟩, by decide⟩
set_option maxRecDepth 100000 in
theorem ins_X6_grownBy : Cond.instanceMethod yX6_grownBy ∈ xTb := tc6 90 rfl rfl
set_option maxRecDepth 100000 in
theorem sel_X6_grownBy : Cond.selects yX6_grownBy.cls yX6_grownBy yX6_grownBy ∈ xTb := tc0 67 rfl rfl
set_option maxRecDepth 100000 in
theorem cal_X6_firstWrong : xCal yX6_firstWrong cX6_firstWrong 2 (some .int) 0 := ⟨tl6 82 rfl, tc1 11 rfl rfl, ⟨by decide +kernel, by decide +kernel, by decide +kernel⟩, by decide⟩
set_option maxRecDepth 100000 in
theorem ins_X6_firstWrong : Cond.instanceMethod yX6_firstWrong ∈ xTb := tc6 80 rfl rfl
set_option maxRecDepth 100000 in
theorem sel_X6_firstWrong : Cond.selects yX6_firstWrong.cls yX6_firstWrong yX6_firstWrong ∈ xTb := tc6 81 rfl rfl
set_option maxRecDepth 100000 in
theorem cal_J6_bitCount_0f7a4 : xCal yJ6_bitCount_0f7a4 cJ6_bitCount_0f7a4 1 (some .int) 1 := ⟨tl6 13 rfl, tc1 20 rfl rfl, ⟨by decide +kernel, by decide +kernel, by decide +kernel⟩, by decide⟩
set_option maxRecDepth 100000 in
theorem sta_J6_bitCount_0f7a4 : Cond.static yJ6_bitCount_0f7a4 ∈ xTb := tc6 12 rfl rfl
set_option maxRecDepth 100000 in
theorem cal_X6_layOut : xCal yX6_layOut cX6_layOut 3 none 1 := ⟨tl6 112 rfl, tc1 11 rfl rfl, ⟨by decide +kernel, by decide +kernel, by decide +kernel⟩, by decide⟩
set_option maxRecDepth 100000 in
theorem ins_X6_layOut : Cond.instanceMethod yX6_layOut ∈ xTb := tc6 111 rfl rfl
set_option maxRecDepth 100000 in
theorem sel_X6_layOut : Cond.selects yX6_layOut.cls yX6_layOut yX6_layOut ∈ xTb := tc0 69 rfl rfl
set_option maxRecDepth 100000 in
theorem cal_X6_takes : xCal yX6_takes cX6_takes 2 (some .boolean) 1 := ⟨tl6 118 rfl, tc1 11 rfl rfl, ⟨by decide +kernel, by decide +kernel, by decide +kernel⟩, by decide⟩
set_option maxRecDepth 100000 in
theorem ins_X6_takes : Cond.instanceMethod yX6_takes ∈ xTb := tc6 117 rfl rfl
set_option maxRecDepth 100000 in
theorem sel_X6_takes : Cond.selects yX6_takes.cls yX6_takes yX6_takes ∈ xTb := tc0 70 rfl rfl
set_option maxRecDepth 100000 in
theorem cal_X6_isRow : xCal yX6_isRow cX6_isRow 7 (some .boolean) 1 := ⟨tl6 107 rfl, tc1 11 rfl rfl, ⟨by decide +kernel, by decide +kernel, by decide +kernel⟩, by decide⟩
set_option maxRecDepth 100000 in
theorem ins_X6_isRow : Cond.instanceMethod yX6_isRow ∈ xTb := tc6 106 rfl rfl
set_option maxRecDepth 100000 in
theorem sel_X6_isRow : Cond.selects yX6_isRow.cls yX6_isRow yX6_isRow ∈ xTb := tc0 68 rfl rfl
set_option maxRecDepth 100000 in
theorem cal_X6_rowsWith : xCal yX6_rowsWith cX6_rowsWith 6 (some .int) 1 := ⟨tl6 100 rfl, tc1 11 rfl rfl, ⟨by decide +kernel, by decide +kernel, by decide +kernel⟩, by decide⟩
set_option maxRecDepth 100000 in
theorem ins_X6_rowsWith : Cond.instanceMethod yX6_rowsWith ∈ xTb := tc6 98 rfl rfl
set_option maxRecDepth 100000 in
theorem sel_X6_rowsWith : Cond.selects yX6_rowsWith.cls yX6_rowsWith yX6_rowsWith ∈ xTb := tc6 99 rfl rfl
set_option maxRecDepth 100000 in
theorem cal_X7_codeOf : xCal yX7_codeOf cX7_codeOf 4 (some .int) 3 := ⟨tl5 152 rfl, tc1 10 rfl rfl, ⟨by decide +kernel, by decide +kernel, by decide +kernel⟩, by decide⟩
set_option maxRecDepth 100000 in
theorem ins_X7_codeOf : Cond.instanceMethod yX7_codeOf ∈ xTb := tc5 150 rfl rfl
set_option maxRecDepth 100000 in
theorem sel_X7_codeOf : Cond.selects yX7_codeOf.cls yX7_codeOf yX7_codeOf ∈ xTb := tc5 151 rfl rfl
set_option maxRecDepth 100000 in
theorem cal_X7_kindAt : xCal yX7_kindAt cX7_kindAt 2 (some .int) 2 := ⟨tl5 171 rfl, tc1 10 rfl rfl, ⟨by decide +kernel, by decide +kernel, by decide +kernel⟩, by decide⟩
set_option maxRecDepth 100000 in
theorem sta_X7_kindAt : Cond.static yX7_kindAt ∈ xTb := tc5 170 rfl rfl
set_option maxRecDepth 100000 in
theorem cal_X7_placeOf : xCal yX7_placeOf cX7_placeOf 1 (some .int) 1 := ⟨tl5 230 rfl, tc1 10 rfl rfl, ⟨by decide +kernel, by decide +kernel, by decide +kernel⟩, by decide⟩
set_option maxRecDepth 100000 in
theorem sta_X7_placeOf : Cond.static yX7_placeOf ∈ xTb := tc5 229 rfl rfl
set_option maxRecDepth 100000 in
theorem cal_X7_gather : xCal yX7_gather cX7_gather 4 none 1 := ⟨tl5 162 rfl, tc1 10 rfl rfl, ⟨by decide +kernel, by decide +kernel, by decide +kernel⟩, by decide⟩
set_option maxRecDepth 100000 in
theorem ins_X7_gather : Cond.instanceMethod yX7_gather ∈ xTb := tc5 161 rfl rfl
set_option maxRecDepth 100000 in
theorem sel_X7_gather : Cond.selects yX7_gather.cls yX7_gather yX7_gather ∈ xTb := tc0 50 rfl rfl
set_option maxRecDepth 100000 in
theorem cal_X7_measure : xCal yX7_measure cX7_measure 9 none 2 := ⟨tl5 175 rfl, tc1 10 rfl rfl, ⟨by decide +kernel, by decide +kernel, by decide +kernel⟩, by decide⟩
set_option maxRecDepth 100000 in
theorem ins_X7_measure : Cond.instanceMethod yX7_measure ∈ xTb := tc5 174 rfl rfl
set_option maxRecDepth 100000 in
theorem sel_X7_measure : Cond.selects yX7_measure.cls yX7_measure yX7_measure ∈ xTb := tc0 52 rfl rfl
set_option maxRecDepth 100000 in
theorem cal_X7_farOf : xCal yX7_farOf cX7_farOf 3 (some .int) 2 := ⟨tl5 189 rfl, tc1 10 rfl rfl, ⟨by decide +kernel, by decide +kernel, by decide +kernel⟩, by decide⟩
set_option maxRecDepth 100000 in
theorem ins_X7_farOf : Cond.instanceMethod yX7_farOf ∈ xTb := tc5 188 rfl rfl
set_option maxRecDepth 100000 in
theorem sel_X7_farOf : Cond.selects yX7_farOf.cls yX7_farOf yX7_farOf ∈ xTb := tc0 53 rfl rfl
set_option maxRecDepth 100000 in
theorem cal_X7_awayFrom : xCal yX7_awayFrom cX7_awayFrom 6 (some .int) 2 := ⟨tl5 168 rfl, tc1 10 rfl rfl, ⟨by decide +kernel, by decide +kernel, by decide +kernel⟩, by decide⟩
set_option maxRecDepth 100000 in
theorem ins_X7_awayFrom : Cond.instanceMethod yX7_awayFrom ∈ xTb := tc5 167 rfl rfl
set_option maxRecDepth 100000 in
theorem sel_X7_awayFrom : Cond.selects yX7_awayFrom.cls yX7_awayFrom yX7_awayFrom ∈ xTb := tc0 51 rfl rfl
set_option maxRecDepth 100000 in
theorem cal_X7_standingAt : xCal yX7_standingAt cX7_standingAt 2 (some .int) 1 := ⟨tl5 197 rfl, tc1 10 rfl rfl, ⟨by decide +kernel, by decide +kernel, by decide +kernel⟩, by decide⟩
set_option maxRecDepth 100000 in
theorem ins_X7_standingAt : Cond.instanceMethod yX7_standingAt ∈ xTb := tc5 196 rfl rfl
set_option maxRecDepth 100000 in
theorem sel_X7_standingAt : Cond.selects yX7_standingAt.cls yX7_standingAt yX7_standingAt ∈ xTb := tc0 55 rfl rfl
set_option maxRecDepth 100000 in
theorem cal_X7_shift : xCal yX7_shift cX7_shift 6 none 2 := ⟨tl5 202 rfl, tc1 10 rfl rfl, ⟨by decide +kernel, by decide +kernel, by decide +kernel⟩, by decide⟩
set_option maxRecDepth 100000 in
theorem ins_X7_shift : Cond.instanceMethod yX7_shift ∈ xTb := tc5 201 rfl rfl
set_option maxRecDepth 100000 in
theorem sel_X7_shift : Cond.selects yX7_shift.cls yX7_shift yX7_shift ∈ xTb := tc0 56 rfl rfl
set_option maxRecDepth 100000 in
theorem cal_X7_canBe : xCal yX7_canBe cX7_canBe 4 (some .boolean) 1 := ⟨tl5 193 rfl, tc1 10 rfl rfl, ⟨by decide +kernel, by decide +kernel, by decide +kernel⟩, by decide⟩
set_option maxRecDepth 100000 in
theorem ins_X7_canBe : Cond.instanceMethod yX7_canBe ∈ xTb := tc5 192 rfl rfl
set_option maxRecDepth 100000 in
theorem sel_X7_canBe : Cond.selects yX7_canBe.cls yX7_canBe yX7_canBe ∈ xTb := tc0 54 rfl rfl
set_option maxRecDepth 100000 in
theorem cal_X7_isIn : xCal yX7_isIn cX7_isIn 2 (some .boolean) 2 := ⟨tl5 210 rfl, tc1 10 rfl rfl, ⟨by decide +kernel, by decide +kernel, by decide +kernel⟩, by decide⟩
set_option maxRecDepth 100000 in
theorem sta_X7_isIn : Cond.static yX7_isIn ∈ xTb := tc5 209 rfl rfl
set_option maxRecDepth 100000 in
theorem cal_X7_putNow : xCal yX7_putNow cX7_putNow 2 none 1 := ⟨tl5 207 rfl, tc1 10 rfl rfl, ⟨by decide +kernel, by decide +kernel, by decide +kernel⟩, by decide⟩
set_option maxRecDepth 100000 in
theorem ins_X7_putNow : Cond.instanceMethod yX7_putNow ∈ xTb := tc5 206 rfl rfl
set_option maxRecDepth 100000 in
theorem sel_X7_putNow : Cond.selects yX7_putNow.cls yX7_putNow yX7_putNow ∈ xTb := tc0 57 rfl rfl
set_option maxRecDepth 100000 in
theorem cal_X7_isStanding : xCal yX7_isStanding cX7_isStanding 2 (some .boolean) 1 := ⟨tl5 223 rfl, tc1 10 rfl rfl, ⟨by decide +kernel, by decide +kernel, by decide +kernel⟩, by decide⟩
set_option maxRecDepth 100000 in
theorem ins_X7_isStanding : Cond.instanceMethod yX7_isStanding ∈ xTb := tc5 222 rfl rfl
set_option maxRecDepth 100000 in
theorem sel_X7_isStanding : Cond.selects yX7_isStanding.cls yX7_isStanding yX7_isStanding ∈ xTb := tc0 60 rfl rfl
set_option maxRecDepth 100000 in
theorem cal_X7_putLater : xCal yX7_putLater cX7_putLater 2 none 1 := ⟨tl5 234 rfl, tc1 10 rfl rfl, ⟨by decide +kernel, by decide +kernel, by decide +kernel⟩, by decide⟩
set_option maxRecDepth 100000 in
theorem ins_X7_putLater : Cond.instanceMethod yX7_putLater ∈ xTb := tc5 233 rfl rfl
set_option maxRecDepth 100000 in
theorem sel_X7_putLater : Cond.selects yX7_putLater.cls yX7_putLater yX7_putLater ∈ xTb := tc0 62 rfl rfl
set_option maxRecDepth 100000 in
theorem cal_X7_step : xCal yX7_step cX7_step 6 none 4 := ⟨tl5 227 rfl, tc1 10 rfl rfl, ⟨by decide +kernel, by decide +kernel, by decide +kernel⟩, by decide⟩
set_option maxRecDepth 100000 in
theorem ins_X7_step : Cond.instanceMethod yX7_step ∈ xTb := tc5 226 rfl rfl
set_option maxRecDepth 100000 in
theorem sel_X7_step : Cond.selects yX7_step.cls yX7_step yX7_step ∈ xTb := tc0 61 rfl rfl
set_option maxRecDepth 100000 in
theorem cal_X7_goOn : xCal yX7_goOn cX7_goOn 6 none 1 := ⟨tl5 218 rfl, tc1 10 rfl rfl, ⟨by decide +kernel, by decide +kernel, by decide +kernel⟩, by decide⟩
set_option maxRecDepth 100000 in
theorem ins_X7_goOn : Cond.instanceMethod yX7_goOn ∈ xTb := tc5 217 rfl rfl
set_option maxRecDepth 100000 in
theorem sel_X7_goOn : Cond.selects yX7_goOn.cls yX7_goOn yX7_goOn ∈ xTb := tc0 59 rfl rfl
set_option maxRecDepth 100000 in
theorem cal_X7_goOnAll : xCal yX7_goOnAll cX7_goOnAll 2 none 0 := ⟨tl5 214 rfl, tc1 10 rfl rfl, ⟨by decide +kernel, by decide +kernel, by decide +kernel⟩, by decide⟩
set_option maxRecDepth 100000 in
theorem ins_X7_goOnAll : Cond.instanceMethod yX7_goOnAll ∈ xTb := tc5 213 rfl rfl
set_option maxRecDepth 100000 in
theorem sel_X7_goOnAll : Cond.selects yX7_goOnAll.cls yX7_goOnAll yX7_goOnAll ∈ xTb := tc0 58 rfl rfl
set_option maxRecDepth 100000 in
theorem cal_X7_takeLater : xCal yX7_takeLater cX7_takeLater 4 none 0 := ⟨tl5 238 rfl, tc1 10 rfl rfl, ⟨by decide +kernel, by decide +kernel, by decide +kernel⟩, by decide⟩
set_option maxRecDepth 100000 in
theorem ins_X7_takeLater : Cond.instanceMethod yX7_takeLater ∈ xTb := tc5 237 rfl rfl
set_option maxRecDepth 100000 in
theorem sel_X7_takeLater : Cond.selects yX7_takeLater.cls yX7_takeLater yX7_takeLater ∈ xTb := tc0 63 rfl rfl
set_option maxRecDepth 100000 in
theorem cal_X7_climb : xCal yX7_climb cX7_climb 7 (some .int) 3 := ⟨tl5 156 rfl, tc1 10 rfl rfl, ⟨by decide +kernel, by decide +kernel, by decide +kernel⟩, by decide⟩
set_option maxRecDepth 100000 in
theorem ins_X7_climb : Cond.instanceMethod yX7_climb ∈ xTb := tc5 154 rfl rfl
set_option maxRecDepth 100000 in
theorem sel_X7_climb : Cond.selects yX7_climb.cls yX7_climb yX7_climb ∈ xTb := tc5 155 rfl rfl
set_option maxRecDepth 100000 in
theorem cal_X8_scoreOf : xCal yX8_scoreOf cX8_scoreOf 4 (some .int) 3 := ⟨tl5 62 rfl, tc1 9 rfl rfl, ⟨by decide +kernel, by decide +kernel, by decide +kernel⟩, by decide⟩
set_option maxRecDepth 100000 in
theorem ins_X8_scoreOf : Cond.instanceMethod yX8_scoreOf ∈ xTb := tc5 61 rfl rfl
set_option maxRecDepth 100000 in
theorem sel_X8_scoreOf : Cond.selects yX8_scoreOf.cls yX8_scoreOf yX8_scoreOf ∈ xTb := tc0 45 rfl rfl
set_option maxRecDepth 100000 in
theorem cal_X8_receive : xCal yX8_receive cX8_receive 10 none 1 := ⟨tl5 40 rfl, tc1 9 rfl rfl, ⟨by decide +kernel, by decide +kernel, by decide +kernel⟩, by decide⟩
set_option maxRecDepth 100000 in
theorem ins_X8_receive : Cond.instanceMethod yX8_receive ∈ xTb := tc5 38 rfl rfl
set_option maxRecDepth 100000 in
theorem sel_X8_receive : Cond.selects yX8_receive.cls yX8_receive yX8_receive ∈ xTb := tc5 39 rfl rfl
set_option maxRecDepth 100000 in
theorem cal_X9_addLetter : xCal yX9_addLetter cX9_addLetter 2 none 1 := ⟨tl4 168 rfl, tc1 7 rfl rfl, ⟨by decide +kernel, by decide +kernel, by decide +kernel⟩, by decide⟩
set_option maxRecDepth 100000 in
theorem ins_X9_addLetter : Cond.instanceMethod yX9_addLetter ∈ xTb := tc4 167 rfl rfl
set_option maxRecDepth 100000 in
theorem sel_X9_addLetter : Cond.selects yX9_addLetter.cls yX9_addLetter yX9_addLetter ∈ xTb := tc0 33 rfl rfl
set_option maxRecDepth 100000 in
theorem cal_X9_gather : xCal yX9_gather cX9_gather 3 none 1 := ⟨tl4 155 rfl, tc1 7 rfl rfl, ⟨by decide +kernel, by decide +kernel, by decide +kernel⟩, by decide⟩
set_option maxRecDepth 100000 in
theorem ins_X9_gather : Cond.instanceMethod yX9_gather ∈ xTb := tc4 153 rfl rfl
set_option maxRecDepth 100000 in
theorem sel_X9_gather : Cond.selects yX9_gather.cls yX9_gather yX9_gather ∈ xTb := tc4 154 rfl rfl
set_option maxRecDepth 100000 in
theorem cal_X9_offer : xCal yX9_offer cX9_offer 2 none 1 := ⟨tl4 177 rfl, tc1 7 rfl rfl, ⟨by decide +kernel, by decide +kernel, by decide +kernel⟩, by decide⟩
set_option maxRecDepth 100000 in
theorem ins_X9_offer : Cond.instanceMethod yX9_offer ∈ xTb := tc4 175 rfl rfl
set_option maxRecDepth 100000 in
theorem sel_X9_offer : Cond.selects yX9_offer.cls yX9_offer yX9_offer ∈ xTb := tc4 176 rfl rfl
set_option maxRecDepth 100000 in
theorem cal_X9_take : xCal yX9_take cX9_take 4 none 1 := ⟨tl4 190 rfl, tc1 7 rfl rfl, ⟨by decide +kernel, by decide +kernel, by decide +kernel⟩, by decide⟩
set_option maxRecDepth 100000 in
theorem ins_X9_take : Cond.instanceMethod yX9_take ∈ xTb := tc4 189 rfl rfl
set_option maxRecDepth 100000 in
theorem sel_X9_take : Cond.selects yX9_take.cls yX9_take yX9_take ∈ xTb := tc0 36 rfl rfl
set_option maxRecDepth 100000 in
theorem cal_X9_giveBack : xCal yX9_giveBack cX9_giveBack 4 none 1 := ⟨tl4 199 rfl, tc1 7 rfl rfl, ⟨by decide +kernel, by decide +kernel, by decide +kernel⟩, by decide⟩
set_option maxRecDepth 100000 in
theorem ins_X9_giveBack : Cond.instanceMethod yX9_giveBack ∈ xTb := tc4 198 rfl rfl
set_option maxRecDepth 100000 in
theorem sel_X9_giveBack : Cond.selects yX9_giveBack.cls yX9_giveBack yX9_giveBack ∈ xTb := tc0 37 rfl rfl
set_option maxRecDepth 100000 in
theorem cal_X9_keep : xCal yX9_keep cX9_keep 3 none 1 := ⟨tl4 207 rfl, tc1 7 rfl rfl, ⟨by decide +kernel, by decide +kernel, by decide +kernel⟩, by decide⟩
set_option maxRecDepth 100000 in
theorem ins_X9_keep : Cond.instanceMethod yX9_keep ∈ xTb := tc4 206 rfl rfl
set_option maxRecDepth 100000 in
theorem sel_X9_keep : Cond.selects yX9_keep.cls yX9_keep yX9_keep ∈ xTb := tc0 39 rfl rfl
set_option maxRecDepth 100000 in
theorem cal_X9_judgeLack : xCal yX9_judgeLack cX9_judgeLack 2 none 1 := ⟨tl4 203 rfl, tc1 7 rfl rfl, ⟨by decide +kernel, by decide +kernel, by decide +kernel⟩, by decide⟩
set_option maxRecDepth 100000 in
theorem ins_X9_judgeLack : Cond.instanceMethod yX9_judgeLack ∈ xTb := tc4 202 rfl rfl
set_option maxRecDepth 100000 in
theorem sel_X9_judgeLack : Cond.selects yX9_judgeLack.cls yX9_judgeLack yX9_judgeLack ∈ xTb := tc0 38 rfl rfl
set_option maxRecDepth 100000 in
theorem cal_X9_judgePlan : xCal yX9_judgePlan cX9_judgePlan 2 none 1 := ⟨tl4 211 rfl, tc1 7 rfl rfl, ⟨by decide +kernel, by decide +kernel, by decide +kernel⟩, by decide⟩
set_option maxRecDepth 100000 in
theorem ins_X9_judgePlan : Cond.instanceMethod yX9_judgePlan ∈ xTb := tc4 210 rfl rfl
set_option maxRecDepth 100000 in
theorem sel_X9_judgePlan : Cond.selects yX9_judgePlan.cls yX9_judgePlan yX9_judgePlan ∈ xTb := tc0 40 rfl rfl
set_option maxRecDepth 100000 in
theorem cal_X9_spread : xCal yX9_spread cX9_spread 4 none 2 := ⟨tl4 185 rfl, tc1 7 rfl rfl, ⟨by decide +kernel, by decide +kernel, by decide +kernel⟩, by decide⟩
set_option maxRecDepth 100000 in
theorem ins_X9_spread : Cond.instanceMethod yX9_spread ∈ xTb := tc4 184 rfl rfl
set_option maxRecDepth 100000 in
theorem sel_X9_spread : Cond.selects yX9_spread.cls yX9_spread yX9_spread ∈ xTb := tc0 35 rfl rfl
set_option maxRecDepth 100000 in
theorem cal_X9_findPlans : xCal yX9_findPlans cX9_findPlans 1 none 0 := ⟨tl4 181 rfl, tc1 7 rfl rfl, ⟨by decide +kernel, by decide +kernel, by decide +kernel⟩, by decide⟩
set_option maxRecDepth 100000 in
theorem ins_X9_findPlans : Cond.instanceMethod yX9_findPlans ∈ xTb := tc4 179 rfl rfl
set_option maxRecDepth 100000 in
theorem sel_X9_findPlans : Cond.selects yX9_findPlans.cls yX9_findPlans yX9_findPlans ∈ xTb := tc4 180 rfl rfl
set_option maxRecDepth 100000 in
theorem cal_X9_findLack : xCal yX9_findLack cX9_findLack 2 none 0 := ⟨tl5 4 rfl, tc1 7 rfl rfl, ⟨by decide +kernel, by decide +kernel, by decide +kernel⟩, by decide⟩
set_option maxRecDepth 100000 in
theorem ins_X9_findLack : Cond.instanceMethod yX9_findLack ∈ xTb := tc5 2 rfl rfl
set_option maxRecDepth 100000 in
theorem sel_X9_findLack : Cond.selects yX9_findLack.cls yX9_findLack yX9_findLack ∈ xTb := tc5 3 rfl rfl
set_option maxRecDepth 100000 in
theorem cal_X9_foundAt : xCal yX9_foundAt cX9_foundAt 2 (some .int) 1 := ⟨tl4 224 rfl, tc1 7 rfl rfl, ⟨by decide +kernel, by decide +kernel, by decide +kernel⟩, by decide⟩
set_option maxRecDepth 100000 in
theorem ins_X9_foundAt : Cond.instanceMethod yX9_foundAt ∈ xTb := tc4 222 rfl rfl
set_option maxRecDepth 100000 in
theorem sel_X9_foundAt : Cond.selects yX9_foundAt.cls yX9_foundAt yX9_foundAt ∈ xTb := tc4 223 rfl rfl
set_option maxRecDepth 100000 in
theorem cal_X9_lackingAt : xCal yX9_lackingAt cX9_lackingAt 4 (some .int) 1 := ⟨tl5 12 rfl, tc1 7 rfl rfl, ⟨by decide +kernel, by decide +kernel, by decide +kernel⟩, by decide⟩
set_option maxRecDepth 100000 in
theorem ins_X9_lackingAt : Cond.instanceMethod yX9_lackingAt ∈ xTb := tc5 10 rfl rfl
set_option maxRecDepth 100000 in
theorem sel_X9_lackingAt : Cond.selects yX9_lackingAt.cls yX9_lackingAt yX9_lackingAt ∈ xTb := tc5 11 rfl rfl
set_option maxRecDepth 100000 in
theorem cal_X10_feed : xCal yX10_feed cX10_feed 6 (some .int) 5 := ⟨tl3 8 rfl, tc1 1 rfl rfl, ⟨by decide +kernel, by decide +kernel, by decide +kernel⟩, by decide⟩
set_option maxRecDepth 100000 in
theorem ins_X10_feed : Cond.instanceMethod yX10_feed ∈ xTb := tc3 6 rfl rfl
set_option maxRecDepth 100000 in
theorem sel_X10_feed : Cond.selects yX10_feed.cls yX10_feed yX10_feed ∈ xTb := tc3 7 rfl rfl
set_option maxRecDepth 100000 in
theorem cal_X10_refused : xCal yX10_refused cX10_refused 2 (some .int) 1 := ⟨tl3 24 rfl, tc1 1 rfl rfl, ⟨by decide +kernel, by decide +kernel, by decide +kernel⟩, by decide⟩
set_option maxRecDepth 100000 in
theorem ins_X10_refused : Cond.instanceMethod yX10_refused ∈ xTb := tc3 23 rfl rfl
set_option maxRecDepth 100000 in
theorem sel_X10_refused : Cond.selects yX10_refused.cls yX10_refused yX10_refused ∈ xTb := tc0 1 rfl rfl
set_option maxRecDepth 100000 in
theorem cal_X10_renew : xCal yX10_renew cX10_renew 1 none 0 := ⟨tl4 45 rfl, tc1 1 rfl rfl, ⟨by decide +kernel, by decide +kernel, by decide +kernel⟩, by decide⟩
set_option maxRecDepth 100000 in
theorem ins_X10_renew : Cond.instanceMethod yX10_renew ∈ xTb := tc4 44 rfl rfl
set_option maxRecDepth 100000 in
theorem sel_X10_renew : Cond.selects yX10_renew.cls yX10_renew yX10_renew ∈ xTb := tc0 27 rfl rfl
set_option maxRecDepth 100000 in
theorem cal_X10_granted : xCal yX10_granted cX10_granted 2 (some .int) 1 := ⟨tl4 55 rfl, tc1 1 rfl rfl, ⟨by decide +kernel, by decide +kernel, by decide +kernel⟩, by decide⟩
set_option maxRecDepth 100000 in
theorem ins_X10_granted : Cond.instanceMethod yX10_granted ∈ xTb := tc4 54 rfl rfl
set_option maxRecDepth 100000 in
theorem sel_X10_granted : Cond.selects yX10_granted.cls yX10_granted yX10_granted ∈ xTb := tc0 28 rfl rfl
set_option maxRecDepth 100000 in
theorem cal_X10_inn : xCal yX10_inn cX10_inn 2 (some .int) 1 := ⟨tl3 20 rfl, tc1 1 rfl rfl, ⟨by decide +kernel, by decide +kernel, by decide +kernel⟩, by decide⟩
set_option maxRecDepth 100000 in
theorem ins_X10_inn : Cond.instanceMethod yX10_inn ∈ xTb := tc3 18 rfl rfl
set_option maxRecDepth 100000 in
theorem sel_X10_inn : Cond.selects yX10_inn.cls yX10_inn yX10_inn ∈ xTb := tc3 19 rfl rfl
set_option maxRecDepth 100000 in
theorem cal_X10_fault : xCal yX10_fault cX10_fault 1 (some .int) 0 := ⟨tl4 60 rfl, tc1 1 rfl rfl, ⟨by decide +kernel, by decide +kernel, by decide +kernel⟩, by decide⟩
set_option maxRecDepth 100000 in
theorem ins_X10_fault : Cond.instanceMethod yX10_fault ∈ xTb := tc4 58 rfl rfl
set_option maxRecDepth 100000 in
theorem sel_X10_fault : Cond.selects yX10_fault.cls yX10_fault yX10_fault ∈ xTb := tc4 59 rfl rfl
set_option maxRecDepth 100000 in
theorem cal_X10_where : xCal yX10_where cX10_where 1 (some .int) 0 := ⟨tl4 64 rfl, tc1 1 rfl rfl, ⟨by decide +kernel, by decide +kernel, by decide +kernel⟩, by decide⟩
set_option maxRecDepth 100000 in
theorem ins_X10_where : Cond.instanceMethod yX10_where ∈ xTb := tc4 62 rfl rfl
set_option maxRecDepth 100000 in
theorem sel_X10_where : Cond.selects yX10_where.cls yX10_where yX10_where ∈ xTb := tc4 63 rfl rfl
set_option maxRecDepth 100000 in
theorem cal_X10_word : xCal yX10_word cX10_word 3 (some .int) 2 := ⟨tl4 68 rfl, tc1 1 rfl rfl, ⟨by decide +kernel, by decide +kernel, by decide +kernel⟩, by decide⟩
set_option maxRecDepth 100000 in
theorem ins_X10_word : Cond.instanceMethod yX10_word ∈ xTb := tc4 66 rfl rfl
set_option maxRecDepth 100000 in
theorem sel_X10_word : Cond.selects yX10_word.cls yX10_word yX10_word ∈ xTb := tc4 67 rfl rfl
set_option maxRecDepth 100000 in
theorem cal_X10_letter : xCal yX10_letter cX10_letter 3 (some .int) 2 := ⟨tl4 83 rfl, tc1 1 rfl rfl, ⟨by decide +kernel, by decide +kernel, by decide +kernel⟩, by decide⟩
set_option maxRecDepth 100000 in
theorem ins_X10_letter : Cond.instanceMethod yX10_letter ∈ xTb := tc4 81 rfl rfl
set_option maxRecDepth 100000 in
theorem sel_X10_letter : Cond.selects yX10_letter.cls yX10_letter yX10_letter ∈ xTb := tc4 82 rfl rfl
set_option maxRecDepth 100000 in
theorem cal_X10_grows : xCal yX10_grows cX10_grows 4 (some .int) 2 := ⟨tl4 88 rfl, tc1 1 rfl rfl, ⟨by decide +kernel, by decide +kernel, by decide +kernel⟩, by decide⟩
set_option maxRecDepth 100000 in
theorem ins_X10_grows : Cond.instanceMethod yX10_grows ∈ xTb := tc4 86 rfl rfl
set_option maxRecDepth 100000 in
theorem sel_X10_grows : Cond.selects yX10_grows.cls yX10_grows yX10_grows ∈ xTb := tc4 87 rfl rfl
set_option maxRecDepth 100000 in
theorem cal_X10_chain : xCal yX10_chain cX10_chain 2 (some .int) 1 := ⟨tl4 100 rfl, tc1 1 rfl rfl, ⟨by decide +kernel, by decide +kernel, by decide +kernel⟩, by decide⟩
set_option maxRecDepth 100000 in
theorem ins_X10_chain : Cond.instanceMethod yX10_chain ∈ xTb := tc4 98 rfl rfl
set_option maxRecDepth 100000 in
theorem sel_X10_chain : Cond.selects yX10_chain.cls yX10_chain yX10_chain ∈ xTb := tc4 99 rfl rfl
set_option maxRecDepth 100000 in
theorem cal_X10_ladder : xCal yX10_ladder cX10_ladder 4 (some .int) 2 := ⟨tl4 105 rfl, tc1 1 rfl rfl, ⟨by decide +kernel, by decide +kernel, by decide +kernel⟩, by decide⟩
set_option maxRecDepth 100000 in
theorem ins_X10_ladder : Cond.instanceMethod yX10_ladder ∈ xTb := tc4 103 rfl rfl
set_option maxRecDepth 100000 in
theorem sel_X10_ladder : Cond.selects yX10_ladder.cls yX10_ladder yX10_ladder ∈ xTb := tc4 104 rfl rfl
set_option maxRecDepth 100000 in
theorem cal_X10_rung : xCal yX10_rung cX10_rung 5 (some .int) 3 := ⟨tl4 126 rfl, tc1 1 rfl rfl, ⟨by decide +kernel, by decide +kernel, by decide +kernel⟩, by decide⟩
set_option maxRecDepth 100000 in
theorem ins_X10_rung : Cond.instanceMethod yX10_rung ∈ xTb := tc4 124 rfl rfl
set_option maxRecDepth 100000 in
theorem sel_X10_rung : Cond.selects yX10_rung.cls yX10_rung yX10_rung ∈ xTb := tc4 125 rfl rfl
set_option maxRecDepth 100000 in
theorem cal_X10_grundy : xCal yX10_grundy cX10_grundy 2 (some .int) 1 := ⟨tl4 138 rfl, tc1 1 rfl rfl, ⟨by decide +kernel, by decide +kernel, by decide +kernel⟩, by decide⟩
set_option maxRecDepth 100000 in
theorem ins_X10_grundy : Cond.instanceMethod yX10_grundy ∈ xTb := tc4 136 rfl rfl
set_option maxRecDepth 100000 in
theorem sel_X10_grundy : Cond.selects yX10_grundy.cls yX10_grundy yX10_grundy ∈ xTb := tc4 137 rfl rfl
set_option maxRecDepth 100000 in
theorem cal_X10_offerGood : xCal yX10_offerGood cX10_offerGood 4 none 2 := ⟨tl4 172 rfl, tc1 1 rfl rfl, ⟨by decide +kernel, by decide +kernel, by decide +kernel⟩, by decide⟩
set_option maxRecDepth 100000 in
theorem ins_X10_offerGood : Cond.instanceMethod yX10_offerGood ∈ xTb := tc4 171 rfl rfl
set_option maxRecDepth 100000 in
theorem sel_X10_offerGood : Cond.selects yX10_offerGood.cls yX10_offerGood yX10_offerGood ∈ xTb := tc0 34 rfl rfl
set_option maxRecDepth 100000 in
theorem cal_X10_bestPlan : xCal yX10_bestPlan cX10_bestPlan 1 (some (.object "WordTables$Survey")) 0 := ⟨tl4 151 rfl, tc1 1 rfl rfl, ⟨by decide +kernel, by decide +kernel, by decide +kernel⟩, by decide⟩
set_option maxRecDepth 100000 in
theorem ins_X10_bestPlan : Cond.instanceMethod yX10_bestPlan ∈ xTb := tc4 150 rfl rfl
set_option maxRecDepth 100000 in
theorem sel_X10_bestPlan : Cond.selects yX10_bestPlan.cls yX10_bestPlan yX10_bestPlan ∈ xTb := tc0 32 rfl rfl
set_option maxRecDepth 100000 in
theorem cal_X10_most : xCal yX10_most cX10_most 1 (some .int) 0 := ⟨tl4 147 rfl, tc1 1 rfl rfl, ⟨by decide +kernel, by decide +kernel, by decide +kernel⟩, by decide⟩
set_option maxRecDepth 100000 in
theorem ins_X10_most : Cond.instanceMethod yX10_most ∈ xTb := tc4 145 rfl rfl
set_option maxRecDepth 100000 in
theorem sel_X10_most : Cond.selects yX10_most.cls yX10_most yX10_most ∈ xTb := tc4 146 rfl rfl
set_option maxRecDepth 100000 in
theorem cal_X10_worth : xCal yX10_worth cX10_worth 1 (some .int) 0 := ⟨tl4 216 rfl, tc1 1 rfl rfl, ⟨by decide +kernel, by decide +kernel, by decide +kernel⟩, by decide⟩
set_option maxRecDepth 100000 in
theorem ins_X10_worth : Cond.instanceMethod yX10_worth ∈ xTb := tc4 214 rfl rfl
set_option maxRecDepth 100000 in
theorem sel_X10_worth : Cond.selects yX10_worth.cls yX10_worth yX10_worth ∈ xTb := tc4 215 rfl rfl
set_option maxRecDepth 100000 in
theorem cal_X10_plan : xCal yX10_plan cX10_plan 3 (some .int) 1 := ⟨tl4 220 rfl, tc1 1 rfl rfl, ⟨by decide +kernel, by decide +kernel, by decide +kernel⟩, by decide⟩
set_option maxRecDepth 100000 in
theorem ins_X10_plan : Cond.instanceMethod yX10_plan ∈ xTb := tc4 218 rfl rfl
set_option maxRecDepth 100000 in
theorem sel_X10_plan : Cond.selects yX10_plan.cls yX10_plan yX10_plan ∈ xTb := tc4 219 rfl rfl
set_option maxRecDepth 100000 in
theorem cal_X10_richest : xCal yX10_richest cX10_richest 1 (some .int) 0 := ⟨tl4 228 rfl, tc1 1 rfl rfl, ⟨by decide +kernel, by decide +kernel, by decide +kernel⟩, by decide⟩
set_option maxRecDepth 100000 in
theorem ins_X10_richest : Cond.instanceMethod yX10_richest ∈ xTb := tc4 226 rfl rfl
set_option maxRecDepth 100000 in
theorem sel_X10_richest : Cond.selects yX10_richest.cls yX10_richest yX10_richest ∈ xTb := tc4 227 rfl rfl
set_option maxRecDepth 100000 in
theorem cal_X10_fewest : xCal yX10_fewest cX10_fewest 2 (some .int) 0 := ⟨tl4 232 rfl, tc1 1 rfl rfl, ⟨by decide +kernel, by decide +kernel, by decide +kernel⟩, by decide⟩
set_option maxRecDepth 100000 in
theorem ins_X10_fewest : Cond.instanceMethod yX10_fewest ∈ xTb := tc4 230 rfl rfl
set_option maxRecDepth 100000 in
theorem sel_X10_fewest : Cond.selects yX10_fewest.cls yX10_fewest yX10_fewest ∈ xTb := tc4 231 rfl rfl
set_option maxRecDepth 100000 in
theorem cal_X10_lackingPlan : xCal yX10_lackingPlan cX10_lackingPlan 1 (some (.object "WordTables$Survey")) 0 := ⟨tl5 0 rfl, tc1 1 rfl rfl, ⟨by decide +kernel, by decide +kernel, by decide +kernel⟩, by decide⟩
set_option maxRecDepth 100000 in
theorem ins_X10_lackingPlan : Cond.instanceMethod yX10_lackingPlan ∈ xTb := tc4 239 rfl rfl
set_option maxRecDepth 100000 in
theorem sel_X10_lackingPlan : Cond.selects yX10_lackingPlan.cls yX10_lackingPlan yX10_lackingPlan ∈ xTb := tc0 41 rfl rfl
set_option maxRecDepth 100000 in
theorem cal_X10_wanted : xCal yX10_wanted cX10_wanted 2 (some .int) 0 := ⟨tl4 236 rfl, tc1 1 rfl rfl, ⟨by decide +kernel, by decide +kernel, by decide +kernel⟩, by decide⟩
set_option maxRecDepth 100000 in
theorem ins_X10_wanted : Cond.instanceMethod yX10_wanted ∈ xTb := tc4 234 rfl rfl
set_option maxRecDepth 100000 in
theorem sel_X10_wanted : Cond.selects yX10_wanted.cls yX10_wanted yX10_wanted ∈ xTb := tc4 235 rfl rfl
set_option maxRecDepth 100000 in
theorem cal_X10_wants : xCal yX10_wants cX10_wants 3 (some .int) 1 := ⟨tl5 8 rfl, tc1 1 rfl rfl, ⟨by decide +kernel, by decide +kernel, by decide +kernel⟩, by decide⟩
set_option maxRecDepth 100000 in
theorem ins_X10_wants : Cond.instanceMethod yX10_wants ∈ xTb := tc5 6 rfl rfl
set_option maxRecDepth 100000 in
theorem sel_X10_wants : Cond.selects yX10_wants.cls yX10_wants yX10_wants ∈ xTb := tc5 7 rfl rfl
set_option maxRecDepth 100000 in
theorem cal_X10_gains : xCal yX10_gains cX10_gains 2 (some .int) 1 := ⟨tl5 16 rfl, tc1 1 rfl rfl, ⟨by decide +kernel, by decide +kernel, by decide +kernel⟩, by decide⟩
set_option maxRecDepth 100000 in
theorem ins_X10_gains : Cond.instanceMethod yX10_gains ∈ xTb := tc5 14 rfl rfl
set_option maxRecDepth 100000 in
theorem sel_X10_gains : Cond.selects yX10_gains.cls yX10_gains yX10_gains ∈ xTb := tc5 15 rfl rfl
set_option maxRecDepth 100000 in
theorem cal_X10_isHost : xCal yX10_isHost cX10_isHost 2 (some .boolean) 1 := ⟨tl5 24 rfl, tc1 1 rfl rfl, ⟨by decide +kernel, by decide +kernel, by decide +kernel⟩, by decide⟩
set_option maxRecDepth 100000 in
theorem ins_X10_isHost : Cond.instanceMethod yX10_isHost ∈ xTb := tc5 23 rfl rfl
set_option maxRecDepth 100000 in
theorem sel_X10_isHost : Cond.selects yX10_isHost.cls yX10_isHost yX10_isHost ∈ xTb := tc0 42 rfl rfl
set_option maxRecDepth 100000 in
theorem cal_X10_denied : xCal yX10_denied cX10_denied 2 (some .boolean) 1 := ⟨tl5 28 rfl, tc1 1 rfl rfl, ⟨by decide +kernel, by decide +kernel, by decide +kernel⟩, by decide⟩
set_option maxRecDepth 100000 in
theorem ins_X10_denied : Cond.instanceMethod yX10_denied ∈ xTb := tc5 27 rfl rfl
set_option maxRecDepth 100000 in
theorem sel_X10_denied : Cond.selects yX10_denied.cls yX10_denied yX10_denied ∈ xTb := tc0 43 rfl rfl
set_option maxRecDepth 100000 in
theorem cal_X10_allowed : xCal yX10_allowed cX10_allowed 1 (some .boolean) 0 := ⟨tl5 32 rfl, tc1 1 rfl rfl, ⟨by decide +kernel, by decide +kernel, by decide +kernel⟩, by decide⟩
set_option maxRecDepth 100000 in
theorem ins_X10_allowed : Cond.instanceMethod yX10_allowed ∈ xTb := tc5 31 rfl rfl
set_option maxRecDepth 100000 in
theorem sel_X10_allowed : Cond.selects yX10_allowed.cls yX10_allowed yX10_allowed ∈ xTb := tc0 44 rfl rfl
set_option maxRecDepth 100000 in
theorem cal_X10_night : xCal yX10_night cX10_night 2 (some .boolean) 1 := ⟨tl5 20 rfl, tc1 1 rfl rfl, ⟨by decide +kernel, by decide +kernel, by decide +kernel⟩, by decide⟩
set_option maxRecDepth 100000 in
theorem ins_X10_night : Cond.instanceMethod yX10_night ∈ xTb := tc5 18 rfl rfl
set_option maxRecDepth 100000 in
theorem sel_X10_night : Cond.selects yX10_night.cls yX10_night yX10_night ∈ xTb := tc5 19 rfl rfl
set_option maxRecDepth 100000 in
theorem cal_X10_come : xCal yX10_come cX10_come 4 (some .int) 1 := ⟨tl5 36 rfl, tc1 1 rfl rfl, ⟨by decide +kernel, by decide +kernel, by decide +kernel⟩, by decide⟩
set_option maxRecDepth 100000 in
theorem ins_X10_come : Cond.instanceMethod yX10_come ∈ xTb := tc5 34 rfl rfl
set_option maxRecDepth 100000 in
theorem sel_X10_come : Cond.selects yX10_come.cls yX10_come yX10_come ∈ xTb := tc5 35 rfl rfl
set_option maxRecDepth 100000 in
theorem cal_X10_seat : xCal yX10_seat cX10_seat 3 (some .boolean) 2 := ⟨tl5 98 rfl, tc1 1 rfl rfl, ⟨by decide +kernel, by decide +kernel, by decide +kernel⟩, by decide⟩
set_option maxRecDepth 100000 in
theorem ins_X10_seat : Cond.instanceMethod yX10_seat ∈ xTb := tc5 96 rfl rfl
set_option maxRecDepth 100000 in
theorem sel_X10_seat : Cond.selects yX10_seat.cls yX10_seat yX10_seat ∈ xTb := tc5 97 rfl rfl
set_option maxRecDepth 100000 in
theorem cal_X10_stand : xCal yX10_stand cX10_stand 1 (some .boolean) 0 := ⟨tl5 105 rfl, tc1 1 rfl rfl, ⟨by decide +kernel, by decide +kernel, by decide +kernel⟩, by decide⟩
set_option maxRecDepth 100000 in
theorem ins_X10_stand : Cond.instanceMethod yX10_stand ∈ xTb := tc5 103 rfl rfl
set_option maxRecDepth 100000 in
theorem sel_X10_stand : Cond.selects yX10_stand.cls yX10_stand yX10_stand ∈ xTb := tc5 104 rfl rfl
set_option maxRecDepth 100000 in
theorem cal_X10_can : xCal yX10_can cX10_can 4 (some .int) 0 := ⟨tl5 110 rfl, tc1 1 rfl rfl, ⟨by decide +kernel, by decide +kernel, by decide +kernel⟩, by decide⟩
set_option maxRecDepth 100000 in
theorem ins_X10_can : Cond.instanceMethod yX10_can ∈ xTb := tc5 108 rfl rfl
set_option maxRecDepth 100000 in
theorem sel_X10_can : Cond.selects yX10_can.cls yX10_can yX10_can ∈ xTb := tc5 109 rfl rfl
set_option maxRecDepth 100000 in
theorem cal_X10_table : xCal yX10_table cX10_table 3 (some .int) 1 := ⟨tl5 120 rfl, tc1 1 rfl rfl, ⟨by decide +kernel, by decide +kernel, by decide +kernel⟩, by decide⟩
set_option maxRecDepth 100000 in
theorem ins_X10_table : Cond.instanceMethod yX10_table ∈ xTb := tc5 118 rfl rfl
set_option maxRecDepth 100000 in
theorem sel_X10_table : Cond.selects yX10_table.cls yX10_table yX10_table ∈ xTb := tc5 119 rfl rfl
set_option maxRecDepth 100000 in
theorem cal_X10_standing : xCal yX10_standing cX10_standing 1 (some .int) 0 := ⟨tl5 124 rfl, tc1 1 rfl rfl, ⟨by decide +kernel, by decide +kernel, by decide +kernel⟩, by decide⟩
set_option maxRecDepth 100000 in
theorem ins_X10_standing : Cond.instanceMethod yX10_standing ∈ xTb := tc5 122 rfl rfl
set_option maxRecDepth 100000 in
theorem sel_X10_standing : Cond.selects yX10_standing.cls yX10_standing yX10_standing ∈ xTb := tc5 123 rfl rfl
set_option maxRecDepth 100000 in
theorem cal_X10_ever : xCal yX10_ever cX10_ever 1 (some .int) 0 := ⟨tl5 132 rfl, tc1 1 rfl rfl, ⟨by decide +kernel, by decide +kernel, by decide +kernel⟩, by decide⟩
set_option maxRecDepth 100000 in
theorem ins_X10_ever : Cond.instanceMethod yX10_ever ∈ xTb := tc5 130 rfl rfl
set_option maxRecDepth 100000 in
theorem sel_X10_ever : Cond.selects yX10_ever.cls yX10_ever yX10_ever ∈ xTb := tc5 131 rfl rfl
set_option maxRecDepth 100000 in
theorem cal_X10_rises : xCal yX10_rises cX10_rises 2 (some .int) 1 := ⟨tl5 136 rfl, tc1 1 rfl rfl, ⟨by decide +kernel, by decide +kernel, by decide +kernel⟩, by decide⟩
set_option maxRecDepth 100000 in
theorem ins_X10_rises : Cond.instanceMethod yX10_rises ∈ xTb := tc5 134 rfl rfl
set_option maxRecDepth 100000 in
theorem sel_X10_rises : Cond.selects yX10_rises.cls yX10_rises yX10_rises ∈ xTb := tc5 135 rfl rfl
set_option maxRecDepth 100000 in
theorem cal_X10_isTold : xCal yX10_isTold cX10_isTold 3 (some .boolean) 2 := ⟨tl5 144 rfl, tc1 1 rfl rfl, ⟨by decide +kernel, by decide +kernel, by decide +kernel⟩, by decide⟩
set_option maxRecDepth 100000 in
theorem ins_X10_isTold : Cond.instanceMethod yX10_isTold ∈ xTb := tc5 143 rfl rfl
set_option maxRecDepth 100000 in
theorem sel_X10_isTold : Cond.selects yX10_isTold.cls yX10_isTold yX10_isTold ∈ xTb := tc0 48 rfl rfl
set_option maxRecDepth 100000 in
theorem cal_X10_isEmptyOrGood : xCal yX10_isEmptyOrGood cX10_isEmptyOrGood 2 (some .boolean) 1 := ⟨tl5 148 rfl, tc1 1 rfl rfl, ⟨by decide +kernel, by decide +kernel, by decide +kernel⟩, by decide⟩
set_option maxRecDepth 100000 in
theorem ins_X10_isEmptyOrGood : Cond.instanceMethod yX10_isEmptyOrGood ∈ xTb := tc5 147 rfl rfl
set_option maxRecDepth 100000 in
theorem sel_X10_isEmptyOrGood : Cond.selects yX10_isEmptyOrGood.cls yX10_isEmptyOrGood yX10_isEmptyOrGood ∈ xTb := tc0 49 rfl rfl
set_option maxRecDepth 100000 in
theorem cal_X10_steps : xCal yX10_steps cX10_steps 6 (some .int) 4 := ⟨tl5 140 rfl, tc1 1 rfl rfl, ⟨by decide +kernel, by decide +kernel, by decide +kernel⟩, by decide⟩
set_option maxRecDepth 100000 in
theorem ins_X10_steps : Cond.instanceMethod yX10_steps ∈ xTb := tc5 138 rfl rfl
set_option maxRecDepth 100000 in
theorem sel_X10_steps : Cond.selects yX10_steps.cls yX10_steps yX10_steps ∈ xTb := tc5 139 rfl rfl
set_option maxRecDepth 100000 in
theorem cal_X10_able : xCal yX10_able cX10_able 1 (some .int) 0 := ⟨tl6 2 rfl, tc1 1 rfl rfl, ⟨by decide +kernel, by decide +kernel, by decide +kernel⟩, by decide⟩
set_option maxRecDepth 100000 in
theorem ins_X10_able : Cond.instanceMethod yX10_able ∈ xTb := tc6 0 rfl rfl
set_option maxRecDepth 100000 in
theorem sel_X10_able : Cond.selects yX10_able.cls yX10_able yX10_able ∈ xTb := tc6 1 rfl rfl
set_option maxRecDepth 100000 in
theorem cal_X10_sits : xCal yX10_sits cX10_sits 3 (some .int) 1 := ⟨tl6 10 rfl, tc1 1 rfl rfl, ⟨by decide +kernel, by decide +kernel, by decide +kernel⟩, by decide⟩
set_option maxRecDepth 100000 in
theorem ins_X10_sits : Cond.instanceMethod yX10_sits ∈ xTb := tc6 8 rfl rfl
set_option maxRecDepth 100000 in
theorem sel_X10_sits : Cond.selects yX10_sits.cls yX10_sits yX10_sits ∈ xTb := tc6 9 rfl rfl
set_option maxRecDepth 100000 in
theorem cal_X10_commonDivisor : xCal yX10_commonDivisor cX10_commonDivisor 6 (some .int) 2 := ⟨tl6 45 rfl, tc1 1 rfl rfl, ⟨by decide +kernel, by decide +kernel, by decide +kernel⟩, by decide⟩
set_option maxRecDepth 100000 in
theorem sta_X10_commonDivisor : Cond.static yX10_commonDivisor ∈ xTb := tc6 44 rfl rfl
set_option maxRecDepth 100000 in
theorem cal_X10_hope : xCal yX10_hope cX10_hope 6 (some .long) 2 := ⟨tl6 20 rfl, tc1 1 rfl rfl, ⟨by decide +kernel, by decide +kernel, by decide +kernel⟩, by decide⟩
set_option maxRecDepth 100000 in
theorem ins_X10_hope : Cond.instanceMethod yX10_hope ∈ xTb := tc6 18 rfl rfl
set_option maxRecDepth 100000 in
theorem sel_X10_hope : Cond.selects yX10_hope.cls yX10_hope yX10_hope ∈ xTb := tc6 19 rfl rfl
set_option maxRecDepth 100000 in
theorem cal_X10_nimTonight : xCal yX10_nimTonight cX10_nimTonight 3 (some .int) 0 := ⟨tl6 55 rfl, tc1 1 rfl rfl, ⟨by decide +kernel, by decide +kernel, by decide +kernel⟩, by decide⟩
set_option maxRecDepth 100000 in
theorem ins_X10_nimTonight : Cond.instanceMethod yX10_nimTonight ∈ xTb := tc6 54 rfl rfl
set_option maxRecDepth 100000 in
theorem sel_X10_nimTonight : Cond.selects yX10_nimTonight.cls yX10_nimTonight yX10_nimTonight ∈ xTb := tc0 66 rfl rfl
set_option maxRecDepth 100000 in
theorem cal_X10_game : xCal yX10_game cX10_game 1 (some .int) 0 := ⟨tl6 51 rfl, tc1 1 rfl rfl, ⟨by decide +kernel, by decide +kernel, by decide +kernel⟩, by decide⟩
set_option maxRecDepth 100000 in
theorem ins_X10_game : Cond.instanceMethod yX10_game ∈ xTb := tc6 49 rfl rfl
set_option maxRecDepth 100000 in
theorem sel_X10_game : Cond.selects yX10_game.cls yX10_game yX10_game ∈ xTb := tc6 50 rfl rfl
set_option maxRecDepth 100000 in
theorem cal_X10_move : xCal yX10_move cX10_move 7 (some .int) 0 := ⟨tl6 59 rfl, tc1 1 rfl rfl, ⟨by decide +kernel, by decide +kernel, by decide +kernel⟩, by decide⟩
set_option maxRecDepth 100000 in
theorem ins_X10_move : Cond.instanceMethod yX10_move ∈ xTb := tc6 57 rfl rfl
set_option maxRecDepth 100000 in
theorem sel_X10_move : Cond.selects yX10_move.cls yX10_move yX10_move ∈ xTb := tc6 58 rfl rfl
set_option maxRecDepth 100000 in
theorem cal_X10_mark : xCal yX10_mark cX10_mark 1 (some .int) 0 := ⟨tl6 65 rfl, tc1 1 rfl rfl, ⟨by decide +kernel, by decide +kernel, by decide +kernel⟩, by decide⟩
set_option maxRecDepth 100000 in
theorem ins_X10_mark : Cond.instanceMethod yX10_mark ∈ xTb := tc6 63 rfl rfl
set_option maxRecDepth 100000 in
theorem sel_X10_mark : Cond.selects yX10_mark.cls yX10_mark yX10_mark ∈ xTb := tc6 64 rfl rfl
set_option maxRecDepth 100000 in
theorem cal_X10_back : xCal yX10_back cX10_back 2 (some .boolean) 1 := ⟨tl6 74 rfl, tc1 1 rfl rfl, ⟨by decide +kernel, by decide +kernel, by decide +kernel⟩, by decide⟩
set_option maxRecDepth 100000 in
theorem ins_X10_back : Cond.instanceMethod yX10_back ∈ xTb := tc6 72 rfl rfl
set_option maxRecDepth 100000 in
theorem sel_X10_back : Cond.selects yX10_back.cls yX10_back yX10_back ∈ xTb := tc6 73 rfl rfl
set_option maxRecDepth 100000 in
theorem cal_X10_wrong : xCal yX10_wrong cX10_wrong 1 (some .int) 0 := ⟨tl6 78 rfl, tc1 1 rfl rfl, ⟨by decide +kernel, by decide +kernel, by decide +kernel⟩, by decide⟩
set_option maxRecDepth 100000 in
theorem ins_X10_wrong : Cond.instanceMethod yX10_wrong ∈ xTb := tc6 76 rfl rfl
set_option maxRecDepth 100000 in
theorem sel_X10_wrong : Cond.selects yX10_wrong.cls yX10_wrong yX10_wrong ∈ xTb := tc6 77 rfl rfl
set_option maxRecDepth 100000 in
theorem cal_X10_ways : xCal yX10_ways cX10_ways 1 (some .int) 0 := ⟨tl6 96 rfl, tc1 1 rfl rfl, ⟨by decide +kernel, by decide +kernel, by decide +kernel⟩, by decide⟩
set_option maxRecDepth 100000 in
theorem ins_X10_ways : Cond.instanceMethod yX10_ways ∈ xTb := tc6 94 rfl rfl
set_option maxRecDepth 100000 in
theorem sel_X10_ways : Cond.selects yX10_ways.cls yX10_ways yX10_ways ∈ xTb := tc6 95 rfl rfl
set_option maxRecDepth 100000 in
theorem cal_X10_waysOf : xCal yX10_waysOf cX10_waysOf 2 (some .int) 1 := ⟨tl6 122 rfl, tc1 1 rfl rfl, ⟨by decide +kernel, by decide +kernel, by decide +kernel⟩, by decide⟩
set_option maxRecDepth 100000 in
theorem ins_X10_waysOf : Cond.instanceMethod yX10_waysOf ∈ xTb := tc6 120 rfl rfl
set_option maxRecDepth 100000 in
theorem sel_X10_waysOf : Cond.selects yX10_waysOf.cls yX10_waysOf yX10_waysOf ∈ xTb := tc6 121 rfl rfl
set_option maxRecDepth 100000 in
theorem cal_X10_rename : xCal yX10_rename cX10_rename 3 (some .boolean) 2 := ⟨tl6 127 rfl, tc1 1 rfl rfl, ⟨by decide +kernel, by decide +kernel, by decide +kernel⟩, by decide⟩
set_option maxRecDepth 100000 in
theorem ins_X10_rename : Cond.instanceMethod yX10_rename ∈ xTb := tc6 125 rfl rfl
set_option maxRecDepth 100000 in
theorem sel_X10_rename : Cond.selects yX10_rename.cls yX10_rename yX10_rename ∈ xTb := tc6 126 rfl rfl
set_option maxRecDepth 100000 in
theorem cal_X10_bar : xCal yX10_bar cX10_bar 3 (some .boolean) 2 := ⟨tl6 135 rfl, tc1 1 rfl rfl, ⟨by decide +kernel, by decide +kernel, by decide +kernel⟩, by decide⟩
set_option maxRecDepth 100000 in
theorem ins_X10_bar : Cond.instanceMethod yX10_bar ∈ xTb := tc6 133 rfl rfl
set_option maxRecDepth 100000 in
theorem sel_X10_bar : Cond.selects yX10_bar.cls yX10_bar yX10_bar ∈ xTb := tc6 134 rfl rfl
set_option maxRecDepth 100000 in
theorem cal_X10_guest : xCal yX10_guest cX10_guest 2 (some .int) 1 := ⟨tl6 141 rfl, tc1 1 rfl rfl, ⟨by decide +kernel, by decide +kernel, by decide +kernel⟩, by decide⟩
set_option maxRecDepth 100000 in
theorem ins_X10_guest : Cond.instanceMethod yX10_guest ∈ xTb := tc6 139 rfl rfl
set_option maxRecDepth 100000 in
theorem sel_X10_guest : Cond.selects yX10_guest.cls yX10_guest yX10_guest ∈ xTb := tc6 140 rfl rfl
set_option maxRecDepth 100000 in
theorem cal_X10_size : xCal yX10_size cX10_size 2 (some .int) 1 := ⟨tl6 145 rfl, tc1 1 rfl rfl, ⟨by decide +kernel, by decide +kernel, by decide +kernel⟩, by decide⟩
set_option maxRecDepth 100000 in
theorem ins_X10_size : Cond.instanceMethod yX10_size ∈ xTb := tc6 143 rfl rfl
set_option maxRecDepth 100000 in
theorem sel_X10_size : Cond.selects yX10_size.cls yX10_size yX10_size ∈ xTb := tc6 144 rfl rfl
set_option maxRecDepth 100000 in
theorem cal_X10_trouble : xCal yX10_trouble cX10_trouble 1 (some .int) 0 := ⟨tl6 149 rfl, tc1 1 rfl rfl, ⟨by decide +kernel, by decide +kernel, by decide +kernel⟩, by decide⟩
set_option maxRecDepth 100000 in
theorem ins_X10_trouble : Cond.instanceMethod yX10_trouble ∈ xTb := tc6 147 rfl rfl
set_option maxRecDepth 100000 in
theorem sel_X10_trouble : Cond.selects yX10_trouble.cls yX10_trouble yX10_trouble ∈ xTb := tc6 148 rfl rfl
set_option maxRecDepth 100000 in
theorem cal_X11_thrown : xCal yX11_thrown cX11_thrown 1 (some .int) 0 := ⟨tl7 110 rfl, tc1 13 rfl rfl, ⟨by decide +kernel, by decide +kernel, by decide +kernel⟩, by decide⟩
set_option maxRecDepth 100000 in
theorem ins_X11_thrown : Cond.instanceMethod yX11_thrown ∈ xTb := tc7 108 rfl rfl
set_option maxRecDepth 100000 in
theorem sel_X11_thrown : Cond.selects yX11_thrown.cls yX11_thrown yX11_thrown ∈ xTb := tc7 109 rfl rfl
set_option maxRecDepth 100000 in
theorem cal_X11_good : xCal yX11_good cX11_good 1 none 0 := ⟨tl7 122 rfl, tc1 13 rfl rfl, ⟨by decide +kernel, by decide +kernel, by decide +kernel⟩, by decide⟩
set_option maxRecDepth 100000 in
theorem ins_X11_good : Cond.instanceMethod yX11_good ∈ xTb := tc7 121 rfl rfl
set_option maxRecDepth 100000 in
theorem sel_X11_good : Cond.selects yX11_good.cls yX11_good yX11_good ∈ xTb := tc0 72 rfl rfl
set_option maxRecDepth 100000 in
theorem cal_X11_no : xCal yX11_no cX11_no 2 (some .int) 1 := ⟨tl7 129 rfl, tc1 13 rfl rfl, ⟨by decide +kernel, by decide +kernel, by decide +kernel⟩, by decide⟩
set_option maxRecDepth 100000 in
theorem ins_X11_no : Cond.instanceMethod yX11_no ∈ xTb := tc7 128 rfl rfl
set_option maxRecDepth 100000 in
theorem sel_X11_no : Cond.selects yX11_no.cls yX11_no yX11_no ∈ xTb := tc0 73 rfl rfl
set_option maxRecDepth 100000 in
theorem cal_X11_isNot : xCal yX11_isNot cX11_isNot 2 (some .boolean) 1 := ⟨tl8 146 rfl, tc1 13 rfl rfl, ⟨by decide +kernel, by decide +kernel, by decide +kernel⟩, by decide⟩
set_option maxRecDepth 100000 in
theorem ins_X11_isNot : Cond.instanceMethod yX11_isNot ∈ xTb := tc8 145 rfl rfl
set_option maxRecDepth 100000 in
theorem sel_X11_isNot : Cond.selects yX11_isNot.cls yX11_isNot yX11_isNot ∈ xTb := tc0 113 rfl rfl
set_option maxRecDepth 100000 in
theorem cal_X11_within : xCal yX11_within cX11_within 3 (some .boolean) 3 := ⟨tl7 125 rfl, tc1 13 rfl rfl, ⟨by decide +kernel, by decide +kernel, by decide +kernel⟩, by decide⟩
set_option maxRecDepth 100000 in
theorem sta_X11_within : Cond.static yX11_within ∈ xTb := tc7 124 rfl rfl
set_option maxRecDepth 100000 in
theorem cal_X11_feed : xCal yX11_feed cX11_feed 8 (some .int) 5 := ⟨tl7 114 rfl, tc1 13 rfl rfl, ⟨by decide +kernel, by decide +kernel, by decide +kernel⟩, by decide⟩
set_option maxRecDepth 100000 in
theorem ins_X11_feed : Cond.instanceMethod yX11_feed ∈ xTb := tc7 112 rfl rfl
set_option maxRecDepth 100000 in
theorem sel_X11_feed : Cond.selects yX11_feed.cls yX11_feed yX11_feed ∈ xTb := tc7 113 rfl rfl
set_option maxRecDepth 100000 in
theorem cal_X11_look : xCal yX11_look cX11_look 2 (some .int) 1 := ⟨tl7 137 rfl, tc1 13 rfl rfl, ⟨by decide +kernel, by decide +kernel, by decide +kernel⟩, by decide⟩
set_option maxRecDepth 100000 in
theorem ins_X11_look : Cond.instanceMethod yX11_look ∈ xTb := tc7 136 rfl rfl
set_option maxRecDepth 100000 in
theorem sel_X11_look : Cond.selects yX11_look.cls yX11_look yX11_look ∈ xTb := tc0 75 rfl rfl
set_option maxRecDepth 100000 in
theorem cal_X11_isSmall : xCal yX11_isSmall cX11_isSmall 1 (some .boolean) 1 := ⟨tl7 140 rfl, tc1 13 rfl rfl, ⟨by decide +kernel, by decide +kernel, by decide +kernel⟩, by decide⟩
set_option maxRecDepth 100000 in
theorem sta_X11_isSmall : Cond.static yX11_isSmall ∈ xTb := tc7 139 rfl rfl
set_option maxRecDepth 100000 in
theorem cal_X11_isDigit : xCal yX11_isDigit cX11_isDigit 1 (some .boolean) 1 := ⟨tl7 143 rfl, tc1 13 rfl rfl, ⟨by decide +kernel, by decide +kernel, by decide +kernel⟩, by decide⟩
set_option maxRecDepth 100000 in
theorem sta_X11_isDigit : Cond.static yX11_isDigit ∈ xTb := tc7 142 rfl rfl
set_option maxRecDepth 100000 in
theorem cal_X11_next : xCal yX11_next cX11_next 4 none 0 := ⟨tl7 133 rfl, tc1 13 rfl rfl, ⟨by decide +kernel, by decide +kernel, by decide +kernel⟩, by decide⟩
set_option maxRecDepth 100000 in
theorem ins_X11_next : Cond.instanceMethod yX11_next ∈ xTb := tc7 132 rfl rfl
set_option maxRecDepth 100000 in
theorem sel_X11_next : Cond.selects yX11_next.cls yX11_next yX11_next ∈ xTb := tc0 74 rfl rfl
set_option maxRecDepth 100000 in
theorem cal_X11_wrong : xCal yX11_wrong cX11_wrong 3 none 2 := ⟨tl7 162 rfl, tc1 13 rfl rfl, ⟨by decide +kernel, by decide +kernel, by decide +kernel⟩, by decide⟩
set_option maxRecDepth 100000 in
theorem ins_X11_wrong : Cond.instanceMethod yX11_wrong ∈ xTb := tc7 161 rfl rfl
set_option maxRecDepth 100000 in
theorem sel_X11_wrong : Cond.selects yX11_wrong.cls yX11_wrong yX11_wrong ∈ xTb := tc0 79 rfl rfl
set_option maxRecDepth 100000 in
theorem cal_X11_isWord : xCal yX11_isWord cX11_isWord 4 (some .boolean) 1 := ⟨tl7 156 rfl, tc1 13 rfl rfl, ⟨by decide +kernel, by decide +kernel, by decide +kernel⟩, by decide⟩
set_option maxRecDepth 100000 in
theorem ins_X11_isWord : Cond.instanceMethod yX11_isWord ∈ xTb := tc7 155 rfl rfl
set_option maxRecDepth 100000 in
theorem sel_X11_isWord : Cond.selects yX11_isWord.cls yX11_isWord yX11_isWord ∈ xTb := tc0 78 rfl rfl
set_option maxRecDepth 100000 in
theorem cal_X11_takes : xCal yX11_takes cX11_takes 2 (some .boolean) 1 := ⟨tl7 179 rfl, tc1 13 rfl rfl, ⟨by decide +kernel, by decide +kernel, by decide +kernel⟩, by decide⟩
set_option maxRecDepth 100000 in
theorem ins_X11_takes : Cond.instanceMethod yX11_takes ∈ xTb := tc7 178 rfl rfl
set_option maxRecDepth 100000 in
theorem sel_X11_takes : Cond.selects yX11_takes.cls yX11_takes yX11_takes ∈ xTb := tc0 83 rfl rfl
set_option maxRecDepth 100000 in
theorem cal_X11_must : xCal yX11_must cX11_must 2 none 1 := ⟨tl7 175 rfl, tc1 13 rfl rfl, ⟨by decide +kernel, by decide +kernel, by decide +kernel⟩, by decide⟩
set_option maxRecDepth 100000 in
theorem ins_X11_must : Cond.instanceMethod yX11_must ∈ xTb := tc7 174 rfl rfl
set_option maxRecDepth 100000 in
theorem sel_X11_must : Cond.selects yX11_must.cls yX11_must yX11_must ∈ xTb := tc0 82 rfl rfl
set_option maxRecDepth 100000 in
theorem cal_X11_mustWord : xCal yX11_mustWord cX11_mustWord 1 none 0 := ⟨tl7 197 rfl, tc1 13 rfl rfl, ⟨by decide +kernel, by decide +kernel, by decide +kernel⟩, by decide⟩
set_option maxRecDepth 100000 in
theorem ins_X11_mustWord : Cond.instanceMethod yX11_mustWord ∈ xTb := tc7 196 rfl rfl
set_option maxRecDepth 100000 in
theorem sel_X11_mustWord : Cond.selects yX11_mustWord.cls yX11_mustWord yX11_mustWord ∈ xTb := tc0 86 rfl rfl
set_option maxRecDepth 100000 in
theorem cal_X11_number : xCal yX11_number cX11_number 4 (some .int) 2 := ⟨tl7 183 rfl, tc1 13 rfl rfl, ⟨by decide +kernel, by decide +kernel, by decide +kernel⟩, by decide⟩
set_option maxRecDepth 100000 in
theorem ins_X11_number : Cond.instanceMethod yX11_number ∈ xTb := tc7 182 rfl rfl
set_option maxRecDepth 100000 in
theorem sel_X11_number : Cond.selects yX11_number.cls yX11_number yX11_number ∈ xTb := tc0 84 rfl rfl
set_option maxRecDepth 100000 in
theorem cal_X11_told : xCal yX11_told cX11_told 4 (some .int) 3 := ⟨tl7 171 rfl, tc1 13 rfl rfl, ⟨by decide +kernel, by decide +kernel, by decide +kernel⟩, by decide⟩
set_option maxRecDepth 100000 in
theorem ins_X11_told : Cond.instanceMethod yX11_told ∈ xTb := tc7 170 rfl rfl
set_option maxRecDepth 100000 in
theorem sel_X11_told : Cond.selects yX11_told.cls yX11_told yX11_told ∈ xTb := tc0 81 rfl rfl
set_option maxRecDepth 100000 in
theorem cal_X11_comma : xCal yX11_comma cX11_comma 1 (some .boolean) 0 := ⟨tl7 212 rfl, tc1 13 rfl rfl, ⟨by decide +kernel, by decide +kernel, by decide +kernel⟩, by decide⟩
set_option maxRecDepth 100000 in
theorem ins_X11_comma : Cond.instanceMethod yX11_comma ∈ xTb := tc7 211 rfl rfl
set_option maxRecDepth 100000 in
theorem sel_X11_comma : Cond.selects yX11_comma.cls yX11_comma yX11_comma ∈ xTb := tc0 89 rfl rfl
set_option maxRecDepth 100000 in
theorem cal_X11_find : xCal yX11_find cX11_find 8 (some .int) 4 := ⟨tl7 201 rfl, tc1 13 rfl rfl, ⟨by decide +kernel, by decide +kernel, by decide +kernel⟩, by decide⟩
set_option maxRecDepth 100000 in
theorem ins_X11_find : Cond.instanceMethod yX11_find ∈ xTb := tc7 200 rfl rfl
set_option maxRecDepth 100000 in
theorem sel_X11_find : Cond.selects yX11_find.cls yX11_find yX11_find ∈ xTb := tc0 87 rfl rfl
set_option maxRecDepth 100000 in
theorem cal_X11_begins : xCal yX11_begins cX11_begins 4 (some .boolean) 3 := ⟨tl7 152 rfl, tc1 13 rfl rfl, ⟨by decide +kernel, by decide +kernel, by decide +kernel⟩, by decide⟩
set_option maxRecDepth 100000 in
theorem ins_X11_begins : Cond.instanceMethod yX11_begins ∈ xTb := tc7 151 rfl rfl
set_option maxRecDepth 100000 in
theorem sel_X11_begins : Cond.selects yX11_begins.cls yX11_begins yX11_begins ∈ xTb := tc0 77 rfl rfl
set_option maxRecDepth 100000 in
theorem cal_X11_innLine : xCal yX11_innLine cX11_innLine 3 none 0 := ⟨tl7 166 rfl, tc1 13 rfl rfl, ⟨by decide +kernel, by decide +kernel, by decide +kernel⟩, by decide⟩
set_option maxRecDepth 100000 in
theorem ins_X11_innLine : Cond.instanceMethod yX11_innLine ∈ xTb := tc7 165 rfl rfl
set_option maxRecDepth 100000 in
theorem sel_X11_innLine : Cond.selects yX11_innLine.cls yX11_innLine yX11_innLine ∈ xTb := tc0 80 rfl rfl
set_option maxRecDepth 100000 in
theorem cal_X11_wordLine : xCal yX11_wordLine cX11_wordLine 3 none 0 := ⟨tl7 193 rfl, tc1 13 rfl rfl, ⟨by decide +kernel, by decide +kernel, by decide +kernel⟩, by decide⟩
set_option maxRecDepth 100000 in
theorem ins_X11_wordLine : Cond.instanceMethod yX11_wordLine ∈ xTb := tc7 192 rfl rfl
set_option maxRecDepth 100000 in
theorem sel_X11_wordLine : Cond.selects yX11_wordLine.cls yX11_wordLine yX11_wordLine ∈ xTb := tc0 85 rfl rfl
set_option maxRecDepth 100000 in
theorem cal_X11_guestLine : xCal yX11_guestLine cX11_guestLine 4 none 0 := ⟨tl7 208 rfl, tc1 13 rfl rfl, ⟨by decide +kernel, by decide +kernel, by decide +kernel⟩, by decide⟩
set_option maxRecDepth 100000 in
theorem ins_X11_guestLine : Cond.instanceMethod yX11_guestLine ∈ xTb := tc7 207 rfl rfl
set_option maxRecDepth 100000 in
theorem sel_X11_guestLine : Cond.selects yX11_guestLine.cls yX11_guestLine yX11_guestLine ∈ xTb := tc0 88 rfl rfl
set_option maxRecDepth 100000 in
theorem cal_X11_likelyLine : xCal yX11_likelyLine cX11_likelyLine 4 none 0 := ⟨tl7 217 rfl, tc1 13 rfl rfl, ⟨by decide +kernel, by decide +kernel, by decide +kernel⟩, by decide⟩
set_option maxRecDepth 100000 in
theorem ins_X11_likelyLine : Cond.instanceMethod yX11_likelyLine ∈ xTb := tc7 216 rfl rfl
set_option maxRecDepth 100000 in
theorem sel_X11_likelyLine : Cond.selects yX11_likelyLine.cls yX11_likelyLine yX11_likelyLine ∈ xTb := tc0 90 rfl rfl
set_option maxRecDepth 100000 in
theorem cal_X11_seenLine : xCal yX11_seenLine cX11_seenLine 3 none 0 := ⟨tl7 222 rfl, tc1 13 rfl rfl, ⟨by decide +kernel, by decide +kernel, by decide +kernel⟩, by decide⟩
set_option maxRecDepth 100000 in
theorem ins_X11_seenLine : Cond.instanceMethod yX11_seenLine ∈ xTb := tc7 221 rfl rfl
set_option maxRecDepth 100000 in
theorem sel_X11_seenLine : Cond.selects yX11_seenLine.cls yX11_seenLine yX11_seenLine ∈ xTb := tc0 91 rfl rfl
set_option maxRecDepth 100000 in
theorem cal_X11_readLine : xCal yX11_readLine cX11_readLine 1 none 0 := ⟨tl7 147 rfl, tc1 13 rfl rfl, ⟨by decide +kernel, by decide +kernel, by decide +kernel⟩, by decide⟩
set_option maxRecDepth 100000 in
theorem ins_X11_readLine : Cond.instanceMethod yX11_readLine ∈ xTb := tc7 146 rfl rfl
set_option maxRecDepth 100000 in
theorem sel_X11_readLine : Cond.selects yX11_readLine.cls yX11_readLine yX11_readLine ∈ xTb := tc0 76 rfl rfl
set_option maxRecDepth 100000 in
theorem cal_X11_isGood : xCal yX11_isGood cX11_isGood 2 (some .boolean) 1 := ⟨tl7 234 rfl, tc1 13 rfl rfl, ⟨by decide +kernel, by decide +kernel, by decide +kernel⟩, by decide⟩
set_option maxRecDepth 100000 in
theorem ins_X11_isGood : Cond.instanceMethod yX11_isGood ∈ xTb := tc7 233 rfl rfl
set_option maxRecDepth 100000 in
theorem sel_X11_isGood : Cond.selects yX11_isGood.cls yX11_isGood yX11_isGood ∈ xTb := tc0 94 rfl rfl
set_option maxRecDepth 100000 in
theorem cal_X11_letterAt : xCal yX11_letterAt cX11_letterAt 3 (some .int) 2 := ⟨tl7 238 rfl, tc1 13 rfl rfl, ⟨by decide +kernel, by decide +kernel, by decide +kernel⟩, by decide⟩
set_option maxRecDepth 100000 in
theorem ins_X11_letterAt : Cond.instanceMethod yX11_letterAt ∈ xTb := tc7 237 rfl rfl
set_option maxRecDepth 100000 in
theorem sel_X11_letterAt : Cond.selects yX11_letterAt.cls yX11_letterAt yX11_letterAt ∈ xTb := tc0 95 rfl rfl
set_option maxRecDepth 100000 in
theorem cal_X11_isWithout : xCal yX11_isWithout cX11_isWithout 6 (some .boolean) 3 := ⟨tl8 2 rfl, tc1 13 rfl rfl, ⟨by decide +kernel, by decide +kernel, by decide +kernel⟩, by decide⟩
set_option maxRecDepth 100000 in
theorem ins_X11_isWithout : Cond.instanceMethod yX11_isWithout ∈ xTb := tc8 1 rfl rfl
set_option maxRecDepth 100000 in
theorem sel_X11_isWithout : Cond.selects yX11_isWithout.cls yX11_isWithout yX11_isWithout ∈ xTb := tc0 96 rfl rfl
set_option maxRecDepth 100000 in
theorem cal_X11_growth : xCal yX11_growth cX11_growth 6 (some .int) 2 := ⟨tl7 230 rfl, tc1 13 rfl rfl, ⟨by decide +kernel, by decide +kernel, by decide +kernel⟩, by decide⟩
set_option maxRecDepth 100000 in
theorem ins_X11_growth : Cond.instanceMethod yX11_growth ∈ xTb := tc7 229 rfl rfl
set_option maxRecDepth 100000 in
theorem sel_X11_growth : Cond.selects yX11_growth.cls yX11_growth yX11_growth ∈ xTb := tc0 93 rfl rfl
set_option maxRecDepth 100000 in
theorem cal_X11_layGrows : xCal yX11_layGrows cX11_layGrows 6 none 0 := ⟨tl7 226 rfl, tc1 13 rfl rfl, ⟨by decide +kernel, by decide +kernel, by decide +kernel⟩, by decide⟩
set_option maxRecDepth 100000 in
theorem ins_X11_layGrows : Cond.instanceMethod yX11_layGrows ∈ xTb := tc7 225 rfl rfl
set_option maxRecDepth 100000 in
theorem sel_X11_layGrows : Cond.selects yX11_layGrows.cls yX11_layGrows yX11_layGrows ∈ xTb := tc0 92 rfl rfl
set_option maxRecDepth 100000 in
theorem cal_X11_begin : xCal yX11_begin cX11_begin 3 none 1 := ⟨tl8 6 rfl, tc1 13 rfl rfl, ⟨by decide +kernel, by decide +kernel, by decide +kernel⟩, by decide⟩
set_option maxRecDepth 100000 in
theorem ins_X11_begin : Cond.instanceMethod yX11_begin ∈ xTb := tc8 5 rfl rfl
set_option maxRecDepth 100000 in
theorem sel_X11_begin : Cond.selects yX11_begin.cls yX11_begin yX11_begin ∈ xTb := tc0 97 rfl rfl
set_option maxRecDepth 100000 in
theorem cal_X11_inn : xCal yX11_inn cX11_inn 3 (some .int) 1 := ⟨tl7 118 rfl, tc1 13 rfl rfl, ⟨by decide +kernel, by decide +kernel, by decide +kernel⟩, by decide⟩
set_option maxRecDepth 100000 in
theorem ins_X11_inn : Cond.instanceMethod yX11_inn ∈ xTb := tc7 116 rfl rfl
set_option maxRecDepth 100000 in
theorem sel_X11_inn : Cond.selects yX11_inn.cls yX11_inn yX11_inn ∈ xTb := tc7 117 rfl rfl
set_option maxRecDepth 100000 in
theorem cal_X11_fault : xCal yX11_fault cX11_fault 1 (some .int) 0 := ⟨tl8 10 rfl, tc1 13 rfl rfl, ⟨by decide +kernel, by decide +kernel, by decide +kernel⟩, by decide⟩
set_option maxRecDepth 100000 in
theorem ins_X11_fault : Cond.instanceMethod yX11_fault ∈ xTb := tc8 8 rfl rfl
set_option maxRecDepth 100000 in
theorem sel_X11_fault : Cond.selects yX11_fault.cls yX11_fault yX11_fault ∈ xTb := tc8 9 rfl rfl
set_option maxRecDepth 100000 in
theorem cal_X11_where : xCal yX11_where cX11_where 1 (some .int) 0 := ⟨tl8 14 rfl, tc1 13 rfl rfl, ⟨by decide +kernel, by decide +kernel, by decide +kernel⟩, by decide⟩
set_option maxRecDepth 100000 in
theorem ins_X11_where : Cond.instanceMethod yX11_where ∈ xTb := tc8 12 rfl rfl
set_option maxRecDepth 100000 in
theorem sel_X11_where : Cond.selects yX11_where.cls yX11_where yX11_where ∈ xTb := tc8 13 rfl rfl
set_option maxRecDepth 100000 in
theorem cal_X11_isWordThere : xCal yX11_isWordThere cX11_isWordThere 2 (some .boolean) 1 := ⟨tl8 22 rfl, tc1 13 rfl rfl, ⟨by decide +kernel, by decide +kernel, by decide +kernel⟩, by decide⟩
set_option maxRecDepth 100000 in
theorem ins_X11_isWordThere : Cond.instanceMethod yX11_isWordThere ∈ xTb := tc8 21 rfl rfl
set_option maxRecDepth 100000 in
theorem sel_X11_isWordThere : Cond.selects yX11_isWordThere.cls yX11_isWordThere yX11_isWordThere ∈ xTb := tc0 98 rfl rfl
set_option maxRecDepth 100000 in
theorem cal_X11_isGuest : xCal yX11_isGuest cX11_isGuest 2 (some .boolean) 1 := ⟨tl9 71 rfl, tc1 13 rfl rfl, ⟨by decide +kernel, by decide +kernel, by decide +kernel⟩, by decide⟩
set_option maxRecDepth 100000 in
theorem ins_X11_isGuest : Cond.instanceMethod yX11_isGuest ∈ xTb := tc9 70 rfl rfl
set_option maxRecDepth 100000 in
theorem sel_X11_isGuest : Cond.selects yX11_isGuest.cls yX11_isGuest yX11_isGuest ∈ xTb := tc0 133 rfl rfl
set_option maxRecDepth 100000 in
theorem cal_X11_isTable : xCal yX11_isTable cX11_isTable 2 (some .boolean) 1 := ⟨tl8 118 rfl, tc1 13 rfl rfl, ⟨by decide +kernel, by decide +kernel, by decide +kernel⟩, by decide⟩
set_option maxRecDepth 100000 in
theorem ins_X11_isTable : Cond.instanceMethod yX11_isTable ∈ xTb := tc8 117 rfl rfl
set_option maxRecDepth 100000 in
theorem sel_X11_isTable : Cond.selects yX11_isTable.cls yX11_isTable yX11_isTable ∈ xTb := tc0 112 rfl rfl
set_option maxRecDepth 100000 in
theorem cal_X11_word : xCal yX11_word cX11_word 3 (some .int) 2 := ⟨tl8 18 rfl, tc1 13 rfl rfl, ⟨by decide +kernel, by decide +kernel, by decide +kernel⟩, by decide⟩
set_option maxRecDepth 100000 in
theorem ins_X11_word : Cond.instanceMethod yX11_word ∈ xTb := tc8 16 rfl rfl
set_option maxRecDepth 100000 in
theorem sel_X11_word : Cond.selects yX11_word.cls yX11_word yX11_word ∈ xTb := tc8 17 rfl rfl
set_option maxRecDepth 100000 in
theorem cal_X11_letter : xCal yX11_letter cX11_letter 3 (some .int) 2 := ⟨tl8 26 rfl, tc1 13 rfl rfl, ⟨by decide +kernel, by decide +kernel, by decide +kernel⟩, by decide⟩
set_option maxRecDepth 100000 in
theorem ins_X11_letter : Cond.instanceMethod yX11_letter ∈ xTb := tc8 24 rfl rfl
set_option maxRecDepth 100000 in
theorem sel_X11_letter : Cond.selects yX11_letter.cls yX11_letter yX11_letter ∈ xTb := tc8 25 rfl rfl
set_option maxRecDepth 100000 in
theorem cal_X11_grows : xCal yX11_grows cX11_grows 4 (some .int) 2 := ⟨tl8 30 rfl, tc1 13 rfl rfl, ⟨by decide +kernel, by decide +kernel, by decide +kernel⟩, by decide⟩
set_option maxRecDepth 100000 in
theorem ins_X11_grows : Cond.instanceMethod yX11_grows ∈ xTb := tc8 28 rfl rfl
set_option maxRecDepth 100000 in
theorem sel_X11_grows : Cond.selects yX11_grows.cls yX11_grows yX11_grows ∈ xTb := tc8 29 rfl rfl
set_option maxRecDepth 100000 in
theorem cal_X11_chain : xCal yX11_chain cX11_chain 2 (some .int) 1 := ⟨tl8 34 rfl, tc1 13 rfl rfl, ⟨by decide +kernel, by decide +kernel, by decide +kernel⟩, by decide⟩
set_option maxRecDepth 100000 in
theorem ins_X11_chain : Cond.instanceMethod yX11_chain ∈ xTb := tc8 32 rfl rfl
set_option maxRecDepth 100000 in
theorem sel_X11_chain : Cond.selects yX11_chain.cls yX11_chain yX11_chain ∈ xTb := tc8 33 rfl rfl
set_option maxRecDepth 100000 in
theorem cal_X11_rises : xCal yX11_rises cX11_rises 2 (some .int) 1 := ⟨tl8 38 rfl, tc1 13 rfl rfl, ⟨by decide +kernel, by decide +kernel, by decide +kernel⟩, by decide⟩
set_option maxRecDepth 100000 in
theorem ins_X11_rises : Cond.instanceMethod yX11_rises ∈ xTb := tc8 36 rfl rfl
set_option maxRecDepth 100000 in
theorem sel_X11_rises : Cond.selects yX11_rises.cls yX11_rises yX11_rises ∈ xTb := tc8 37 rfl rfl
set_option maxRecDepth 100000 in
theorem cal_X11_grundy : xCal yX11_grundy cX11_grundy 2 (some .int) 1 := ⟨tl8 42 rfl, tc1 13 rfl rfl, ⟨by decide +kernel, by decide +kernel, by decide +kernel⟩, by decide⟩
set_option maxRecDepth 100000 in
theorem ins_X11_grundy : Cond.instanceMethod yX11_grundy ∈ xTb := tc8 40 rfl rfl
set_option maxRecDepth 100000 in
theorem sel_X11_grundy : Cond.selects yX11_grundy.cls yX11_grundy yX11_grundy ∈ xTb := tc8 41 rfl rfl
set_option maxRecDepth 100000 in
theorem cal_X11_layFar : xCal yX11_layFar cX11_layFar 5 none 1 := ⟨tl8 54 rfl, tc1 13 rfl rfl, ⟨by decide +kernel, by decide +kernel, by decide +kernel⟩, by decide⟩
set_option maxRecDepth 100000 in
theorem ins_X11_layFar : Cond.instanceMethod yX11_layFar ∈ xTb := tc8 53 rfl rfl
set_option maxRecDepth 100000 in
theorem sel_X11_layFar : Cond.selects yX11_layFar.cls yX11_layFar yX11_layFar ∈ xTb := tc0 100 rfl rfl
set_option maxRecDepth 100000 in
theorem cal_X11_pairWhy : xCal yX11_pairWhy cX11_pairWhy 3 (some .int) 2 := ⟨tl8 50 rfl, tc1 13 rfl rfl, ⟨by decide +kernel, by decide +kernel, by decide +kernel⟩, by decide⟩
set_option maxRecDepth 100000 in
theorem ins_X11_pairWhy : Cond.instanceMethod yX11_pairWhy ∈ xTb := tc8 49 rfl rfl
set_option maxRecDepth 100000 in
theorem sel_X11_pairWhy : Cond.selects yX11_pairWhy.cls yX11_pairWhy yX11_pairWhy ∈ xTb := tc0 99 rfl rfl
set_option maxRecDepth 100000 in
theorem cal_X11_ladder : xCal yX11_ladder cX11_ladder 4 (some .int) 2 := ⟨tl8 46 rfl, tc1 13 rfl rfl, ⟨by decide +kernel, by decide +kernel, by decide +kernel⟩, by decide⟩
set_option maxRecDepth 100000 in
theorem ins_X11_ladder : Cond.instanceMethod yX11_ladder ∈ xTb := tc8 44 rfl rfl
set_option maxRecDepth 100000 in
theorem sel_X11_ladder : Cond.selects yX11_ladder.cls yX11_ladder yX11_ladder ∈ xTb := tc8 45 rfl rfl
set_option maxRecDepth 100000 in
theorem cal_X11_rung : xCal yX11_rung cX11_rung 8 (some .int) 3 := ⟨tl8 58 rfl, tc1 13 rfl rfl, ⟨by decide +kernel, by decide +kernel, by decide +kernel⟩, by decide⟩
set_option maxRecDepth 100000 in
theorem ins_X11_rung : Cond.instanceMethod yX11_rung ∈ xTb := tc8 56 rfl rfl
set_option maxRecDepth 100000 in
theorem sel_X11_rung : Cond.selects yX11_rung.cls yX11_rung yX11_rung ∈ xTb := tc8 57 rfl rfl
set_option maxRecDepth 100000 in
theorem cal_X11_layLetters : xCal yX11_layLetters cX11_layLetters 2 none 0 := ⟨tl8 70 rfl, tc1 13 rfl rfl, ⟨by decide +kernel, by decide +kernel, by decide +kernel⟩, by decide⟩
set_option maxRecDepth 100000 in
theorem ins_X11_layLetters : Cond.instanceMethod yX11_layLetters ∈ xTb := tc8 69 rfl rfl
set_option maxRecDepth 100000 in
theorem sel_X11_layLetters : Cond.selects yX11_layLetters.cls yX11_layLetters yX11_layLetters ∈ xTb := tc0 102 rfl rfl
set_option maxRecDepth 100000 in
theorem cal_X11_addUp : xCal yX11_addUp cX11_addUp 3 (some .boolean) 0 := ⟨tl8 86 rfl, tc1 13 rfl rfl, ⟨by decide +kernel, by decide +kernel, by decide +kernel⟩, by decide⟩
set_option maxRecDepth 100000 in
theorem ins_X11_addUp : Cond.instanceMethod yX11_addUp ∈ xTb := tc8 85 rfl rfl
set_option maxRecDepth 100000 in
theorem sel_X11_addUp : Cond.selects yX11_addUp.cls yX11_addUp yX11_addUp ∈ xTb := tc0 106 rfl rfl
set_option maxRecDepth 100000 in
theorem cal_X11_lettersOf : xCal yX11_lettersOf cX11_lettersOf 3 (some .int) 0 := ⟨tl8 90 rfl, tc1 13 rfl rfl, ⟨by decide +kernel, by decide +kernel, by decide +kernel⟩, by decide⟩
set_option maxRecDepth 100000 in
theorem ins_X11_lettersOf : Cond.instanceMethod yX11_lettersOf ∈ xTb := tc8 89 rfl rfl
set_option maxRecDepth 100000 in
theorem sel_X11_lettersOf : Cond.selects yX11_lettersOf.cls yX11_lettersOf yX11_lettersOf ∈ xTb := tc0 107 rfl rfl
set_option maxRecDepth 100000 in
theorem cal_X11_worthOf : xCal yX11_worthOf cX11_worthOf 3 (some .int) 0 := ⟨tl8 102 rfl, tc1 13 rfl rfl, ⟨by decide +kernel, by decide +kernel, by decide +kernel⟩, by decide⟩
set_option maxRecDepth 100000 in
theorem ins_X11_worthOf : Cond.instanceMethod yX11_worthOf ∈ xTb := tc8 101 rfl rfl
set_option maxRecDepth 100000 in
theorem sel_X11_worthOf : Cond.selects yX11_worthOf.cls yX11_worthOf yX11_worthOf ∈ xTb := tc0 110 rfl rfl
set_option maxRecDepth 100000 in
theorem cal_X11_wordsOf : xCal yX11_wordsOf cX11_wordsOf 3 (some .int) 0 := ⟨tl8 106 rfl, tc1 13 rfl rfl, ⟨by decide +kernel, by decide +kernel, by decide +kernel⟩, by decide⟩
set_option maxRecDepth 100000 in
theorem ins_X11_wordsOf : Cond.instanceMethod yX11_wordsOf ∈ xTb := tc8 105 rfl rfl
set_option maxRecDepth 100000 in
theorem sel_X11_wordsOf : Cond.selects yX11_wordsOf.cls yX11_wordsOf yX11_wordsOf ∈ xTb := tc0 111 rfl rfl
set_option maxRecDepth 100000 in
theorem cal_X11_mayStand : xCal yX11_mayStand cX11_mayStand 3 (some .boolean) 2 := ⟨tl8 78 rfl, tc1 13 rfl rfl, ⟨by decide +kernel, by decide +kernel, by decide +kernel⟩, by decide⟩
set_option maxRecDepth 100000 in
theorem ins_X11_mayStand : Cond.instanceMethod yX11_mayStand ∈ xTb := tc8 77 rfl rfl
set_option maxRecDepth 100000 in
theorem sel_X11_mayStand : Cond.selects yX11_mayStand.cls yX11_mayStand yX11_mayStand ∈ xTb := tc0 104 rfl rfl
set_option maxRecDepth 100000 in
theorem cal_X11_keepRow : xCal yX11_keepRow cX11_keepRow 2 none 0 := ⟨tl8 94 rfl, tc1 13 rfl rfl, ⟨by decide +kernel, by decide +kernel, by decide +kernel⟩, by decide⟩
set_option maxRecDepth 100000 in
theorem ins_X11_keepRow : Cond.instanceMethod yX11_keepRow ∈ xTb := tc8 93 rfl rfl
set_option maxRecDepth 100000 in
theorem sel_X11_keepRow : Cond.selects yX11_keepRow.cls yX11_keepRow yX11_keepRow ∈ xTb := tc0 108 rfl rfl
set_option maxRecDepth 100000 in
theorem cal_X11_wanted : xCal yX11_wanted cX11_wanted 4 none 1 := ⟨tl8 82 rfl, tc1 13 rfl rfl, ⟨by decide +kernel, by decide +kernel, by decide +kernel⟩, by decide⟩
set_option maxRecDepth 100000 in
theorem ins_X11_wanted : Cond.instanceMethod yX11_wanted ∈ xTb := tc8 81 rfl rfl
set_option maxRecDepth 100000 in
theorem sel_X11_wanted : Cond.selects yX11_wanted.cls yX11_wanted yX11_wanted ∈ xTb := tc0 105 rfl rfl
set_option maxRecDepth 100000 in
theorem cal_X11_judge : xCal yX11_judge cX11_judge 4 none 1 := ⟨tl8 98 rfl, tc1 13 rfl rfl, ⟨by decide +kernel, by decide +kernel, by decide +kernel⟩, by decide⟩
set_option maxRecDepth 100000 in
theorem ins_X11_judge : Cond.instanceMethod yX11_judge ∈ xTb := tc8 97 rfl rfl
set_option maxRecDepth 100000 in
theorem sel_X11_judge : Cond.selects yX11_judge.cls yX11_judge yX11_judge ∈ xTb := tc0 109 rfl rfl
set_option maxRecDepth 100000 in
theorem cal_X11_plans : xCal yX11_plans cX11_plans 6 none 1 := ⟨tl8 74 rfl, tc1 13 rfl rfl, ⟨by decide +kernel, by decide +kernel, by decide +kernel⟩, by decide⟩
set_option maxRecDepth 100000 in
theorem ins_X11_plans : Cond.instanceMethod yX11_plans ∈ xTb := tc8 73 rfl rfl
set_option maxRecDepth 100000 in
theorem sel_X11_plans : Cond.selects yX11_plans.cls yX11_plans yX11_plans ∈ xTb := tc0 103 rfl rfl
set_option maxRecDepth 100000 in
theorem cal_X11_laysPlans : xCal yX11_laysPlans cX11_laysPlans 2 (some .boolean) 1 := ⟨tl8 66 rfl, tc1 13 rfl rfl, ⟨by decide +kernel, by decide +kernel, by decide +kernel⟩, by decide⟩
set_option maxRecDepth 100000 in
theorem ins_X11_laysPlans : Cond.instanceMethod yX11_laysPlans ∈ xTb := tc8 65 rfl rfl
set_option maxRecDepth 100000 in
theorem sel_X11_laysPlans : Cond.selects yX11_laysPlans.cls yX11_laysPlans yX11_laysPlans ∈ xTb := tc0 101 rfl rfl
set_option maxRecDepth 100000 in
theorem cal_X11_most : xCal yX11_most cX11_most 1 (some .int) 0 := ⟨tl8 62 rfl, tc1 13 rfl rfl, ⟨by decide +kernel, by decide +kernel, by decide +kernel⟩, by decide⟩
set_option maxRecDepth 100000 in
theorem ins_X11_most : Cond.instanceMethod yX11_most ∈ xTb := tc8 60 rfl rfl
set_option maxRecDepth 100000 in
theorem sel_X11_most : Cond.selects yX11_most.cls yX11_most yX11_most ∈ xTb := tc8 61 rfl rfl
set_option maxRecDepth 100000 in
theorem cal_X11_worth : xCal yX11_worth cX11_worth 1 (some .int) 0 := ⟨tl8 110 rfl, tc1 13 rfl rfl, ⟨by decide +kernel, by decide +kernel, by decide +kernel⟩, by decide⟩
set_option maxRecDepth 100000 in
theorem ins_X11_worth : Cond.instanceMethod yX11_worth ∈ xTb := tc8 108 rfl rfl
set_option maxRecDepth 100000 in
theorem sel_X11_worth : Cond.selects yX11_worth.cls yX11_worth yX11_worth ∈ xTb := tc8 109 rfl rfl
set_option maxRecDepth 100000 in
theorem cal_X11_plan : xCal yX11_plan cX11_plan 2 (some .int) 1 := ⟨tl8 114 rfl, tc1 13 rfl rfl, ⟨by decide +kernel, by decide +kernel, by decide +kernel⟩, by decide⟩
set_option maxRecDepth 100000 in
theorem ins_X11_plan : Cond.instanceMethod yX11_plan ∈ xTb := tc8 112 rfl rfl
set_option maxRecDepth 100000 in
theorem sel_X11_plan : Cond.selects yX11_plan.cls yX11_plan yX11_plan ∈ xTb := tc8 113 rfl rfl
set_option maxRecDepth 100000 in
theorem cal_X11_richest : xCal yX11_richest cX11_richest 1 (some .int) 0 := ⟨tl8 122 rfl, tc1 13 rfl rfl, ⟨by decide +kernel, by decide +kernel, by decide +kernel⟩, by decide⟩
set_option maxRecDepth 100000 in
theorem ins_X11_richest : Cond.instanceMethod yX11_richest ∈ xTb := tc8 120 rfl rfl
set_option maxRecDepth 100000 in
theorem sel_X11_richest : Cond.selects yX11_richest.cls yX11_richest yX11_richest ∈ xTb := tc8 121 rfl rfl
set_option maxRecDepth 100000 in
theorem cal_X11_fewest : xCal yX11_fewest cX11_fewest 1 (some .int) 0 := ⟨tl8 126 rfl, tc1 13 rfl rfl, ⟨by decide +kernel, by decide +kernel, by decide +kernel⟩, by decide⟩
set_option maxRecDepth 100000 in
theorem ins_X11_fewest : Cond.instanceMethod yX11_fewest ∈ xTb := tc8 124 rfl rfl
set_option maxRecDepth 100000 in
theorem sel_X11_fewest : Cond.selects yX11_fewest.cls yX11_fewest yX11_fewest ∈ xTb := tc8 125 rfl rfl
set_option maxRecDepth 100000 in
theorem cal_X11_wanted_ : xCal yX11_wanted_ cX11_wanted_ 1 (some .int) 0 := ⟨tl8 130 rfl, tc1 13 rfl rfl, ⟨by decide +kernel, by decide +kernel, by decide +kernel⟩, by decide⟩
set_option maxRecDepth 100000 in
theorem ins_X11_wanted_ : Cond.instanceMethod yX11_wanted_ ∈ xTb := tc8 128 rfl rfl
set_option maxRecDepth 100000 in
theorem sel_X11_wanted_ : Cond.selects yX11_wanted_.cls yX11_wanted_ yX11_wanted_ ∈ xTb := tc8 129 rfl rfl
set_option maxRecDepth 100000 in
theorem cal_X11_wants : xCal yX11_wants cX11_wants 4 (some .int) 1 := ⟨tl8 134 rfl, tc1 13 rfl rfl, ⟨by decide +kernel, by decide +kernel, by decide +kernel⟩, by decide⟩
set_option maxRecDepth 100000 in
theorem ins_X11_wants : Cond.instanceMethod yX11_wants ∈ xTb := tc8 132 rfl rfl
set_option maxRecDepth 100000 in
theorem sel_X11_wants : Cond.selects yX11_wants.cls yX11_wants yX11_wants ∈ xTb := tc8 133 rfl rfl
set_option maxRecDepth 100000 in
theorem cal_X11_gains : xCal yX11_gains cX11_gains 3 (some .int) 1 := ⟨tl8 138 rfl, tc1 13 rfl rfl, ⟨by decide +kernel, by decide +kernel, by decide +kernel⟩, by decide⟩
set_option maxRecDepth 100000 in
theorem ins_X11_gains : Cond.instanceMethod yX11_gains ∈ xTb := tc8 136 rfl rfl
set_option maxRecDepth 100000 in
theorem sel_X11_gains : Cond.selects yX11_gains.cls yX11_gains yX11_gains ∈ xTb := tc8 137 rfl rfl
set_option maxRecDepth 100000 in
theorem cal_X11_night : xCal yX11_night cX11_night 2 (some .boolean) 1 := ⟨tl8 142 rfl, tc1 13 rfl rfl, ⟨by decide +kernel, by decide +kernel, by decide +kernel⟩, by decide⟩
set_option maxRecDepth 100000 in
theorem ins_X11_night : Cond.instanceMethod yX11_night ∈ xTb := tc8 140 rfl rfl
set_option maxRecDepth 100000 in
theorem sel_X11_night : Cond.selects yX11_night.cls yX11_night yX11_night ∈ xTb := tc8 141 rfl rfl
set_option maxRecDepth 100000 in
theorem cal_X11_code : xCal yX11_code cX11_code 1 (some .int) 0 := ⟨tl8 158 rfl, tc1 13 rfl rfl, ⟨by decide +kernel, by decide +kernel, by decide +kernel⟩, by decide⟩
set_option maxRecDepth 100000 in
theorem ins_X11_code : Cond.instanceMethod yX11_code ∈ xTb := tc8 157 rfl rfl
set_option maxRecDepth 100000 in
theorem sel_X11_code : Cond.selects yX11_code.cls yX11_code yX11_code ∈ xTb := tc0 115 rfl rfl
set_option maxRecDepth 100000 in
theorem cal_X11_wordOf : xCal yX11_wordOf cX11_wordOf 2 (some .int) 2 := ⟨tl8 169 rfl, tc1 13 rfl rfl, ⟨by decide +kernel, by decide +kernel, by decide +kernel⟩, by decide⟩
set_option maxRecDepth 100000 in
theorem sta_X11_wordOf : Cond.static yX11_wordOf ∈ xTb := tc8 168 rfl rfl
set_option maxRecDepth 100000 in
theorem cal_X11_withWord : xCal yX11_withWord cX11_withWord 4 (some .int) 3 := ⟨tl8 172 rfl, tc1 13 rfl rfl, ⟨by decide +kernel, by decide +kernel, by decide +kernel⟩, by decide⟩
set_option maxRecDepth 100000 in
theorem sta_X11_withWord : Cond.static yX11_withWord ∈ xTb := tc8 171 rfl rfl
set_option maxRecDepth 100000 in
theorem cal_X11_empty : xCal yX11_empty cX11_empty 0 (some .int) 0 := ⟨tl8 207 rfl, tc1 13 rfl rfl, ⟨by decide +kernel, by decide +kernel, by decide +kernel⟩, by decide⟩
set_option maxRecDepth 100000 in
theorem sta_X11_empty : Cond.static yX11_empty ∈ xTb := tc8 206 rfl rfl
set_option maxRecDepth 100000 in
theorem cal_X11_wordAfter : xCal yX11_wordAfter cX11_wordAfter 5 (some .int) 4 := ⟨tl8 166 rfl, tc1 13 rfl rfl, ⟨by decide +kernel, by decide +kernel, by decide +kernel⟩, by decide⟩
set_option maxRecDepth 100000 in
theorem ins_X11_wordAfter : Cond.instanceMethod yX11_wordAfter ∈ xTb := tc8 165 rfl rfl
set_option maxRecDepth 100000 in
theorem sel_X11_wordAfter : Cond.selects yX11_wordAfter.cls yX11_wordAfter yX11_wordAfter ∈ xTb := tc0 117 rfl rfl
set_option maxRecDepth 100000 in
theorem cal_X11_forget : xCal yX11_forget cX11_forget 2 none 0 := ⟨tl8 154 rfl, tc1 13 rfl rfl, ⟨by decide +kernel, by decide +kernel, by decide +kernel⟩, by decide⟩
set_option maxRecDepth 100000 in
theorem ins_X11_forget : Cond.instanceMethod yX11_forget ∈ xTb := tc8 153 rfl rfl
set_option maxRecDepth 100000 in
theorem sel_X11_forget : Cond.selects yX11_forget.cls yX11_forget yX11_forget ∈ xTb := tc0 114 rfl rfl
set_option maxRecDepth 100000 in
theorem cal_X11_mostOf : xCal yX11_mostOf cX11_mostOf 9 (some .int) 2 := ⟨tl8 176 rfl, tc1 13 rfl rfl, ⟨by decide +kernel, by decide +kernel, by decide +kernel⟩, by decide⟩
set_option maxRecDepth 100000 in
theorem ins_X11_mostOf : Cond.instanceMethod yX11_mostOf ∈ xTb := tc8 175 rfl rfl
set_option maxRecDepth 100000 in
theorem sel_X11_mostOf : Cond.selects yX11_mostOf.cls yX11_mostOf yX11_mostOf ∈ xTb := tc0 118 rfl rfl
set_option maxRecDepth 100000 in
theorem cal_X11_seated : xCal yX11_seated cX11_seated 11 (some .int) 3 := ⟨tl8 162 rfl, tc1 13 rfl rfl, ⟨by decide +kernel, by decide +kernel, by decide +kernel⟩, by decide⟩
set_option maxRecDepth 100000 in
theorem ins_X11_seated : Cond.instanceMethod yX11_seated ∈ xTb := tc8 161 rfl rfl
set_option maxRecDepth 100000 in
theorem sel_X11_seated : Cond.selects yX11_seated.cls yX11_seated yX11_seated ∈ xTb := tc0 116 rfl rfl
set_option maxRecDepth 100000 in
theorem cal_X11_laysTables : xCal yX11_laysTables cX11_laysTables 3 none 1 := ⟨tl8 180 rfl, tc1 13 rfl rfl, ⟨by decide +kernel, by decide +kernel, by decide +kernel⟩, by decide⟩
set_option maxRecDepth 100000 in
theorem ins_X11_laysTables : Cond.instanceMethod yX11_laysTables ∈ xTb := tc8 179 rfl rfl
set_option maxRecDepth 100000 in
theorem sel_X11_laysTables : Cond.selects yX11_laysTables.cls yX11_laysTables yX11_laysTables ∈ xTb := tc0 119 rfl rfl
set_option maxRecDepth 100000 in
theorem cal_X11_come : xCal yX11_come cX11_come 4 (some .int) 1 := ⟨tl8 150 rfl, tc1 13 rfl rfl, ⟨by decide +kernel, by decide +kernel, by decide +kernel⟩, by decide⟩
set_option maxRecDepth 100000 in
theorem ins_X11_come : Cond.instanceMethod yX11_come ∈ xTb := tc8 148 rfl rfl
set_option maxRecDepth 100000 in
theorem sel_X11_come : Cond.selects yX11_come.cls yX11_come yX11_come ∈ xTb := tc8 149 rfl rfl
set_option maxRecDepth 100000 in
theorem cal_X11_seat : xCal yX11_seat cX11_seat 4 (some .boolean) 2 := ⟨tl8 184 rfl, tc1 13 rfl rfl, ⟨by decide +kernel, by decide +kernel, by decide +kernel⟩, by decide⟩
set_option maxRecDepth 100000 in
theorem ins_X11_seat : Cond.instanceMethod yX11_seat ∈ xTb := tc8 182 rfl rfl
set_option maxRecDepth 100000 in
theorem sel_X11_seat : Cond.selects yX11_seat.cls yX11_seat yX11_seat ∈ xTb := tc8 183 rfl rfl
set_option maxRecDepth 100000 in
theorem cal_X11_stand : xCal yX11_stand cX11_stand 1 (some .boolean) 0 := ⟨tl8 188 rfl, tc1 13 rfl rfl, ⟨by decide +kernel, by decide +kernel, by decide +kernel⟩, by decide⟩
set_option maxRecDepth 100000 in
theorem ins_X11_stand : Cond.instanceMethod yX11_stand ∈ xTb := tc8 186 rfl rfl
set_option maxRecDepth 100000 in
theorem sel_X11_stand : Cond.selects yX11_stand.cls yX11_stand yX11_stand ∈ xTb := tc8 187 rfl rfl
set_option maxRecDepth 100000 in
theorem cal_X11_can : xCal yX11_can cX11_can 4 (some .int) 0 := ⟨tl8 192 rfl, tc1 13 rfl rfl, ⟨by decide +kernel, by decide +kernel, by decide +kernel⟩, by decide⟩
set_option maxRecDepth 100000 in
theorem ins_X11_can : Cond.instanceMethod yX11_can ∈ xTb := tc8 190 rfl rfl
set_option maxRecDepth 100000 in
theorem sel_X11_can : Cond.selects yX11_can.cls yX11_can yX11_can ∈ xTb := tc8 191 rfl rfl
set_option maxRecDepth 100000 in
theorem cal_X11_table : xCal yX11_table cX11_table 2 (some .int) 1 := ⟨tl8 196 rfl, tc1 13 rfl rfl, ⟨by decide +kernel, by decide +kernel, by decide +kernel⟩, by decide⟩
set_option maxRecDepth 100000 in
theorem ins_X11_table : Cond.instanceMethod yX11_table ∈ xTb := tc8 194 rfl rfl
set_option maxRecDepth 100000 in
theorem sel_X11_table : Cond.selects yX11_table.cls yX11_table yX11_table ∈ xTb := tc8 195 rfl rfl
set_option maxRecDepth 100000 in
theorem cal_X11_standing : xCal yX11_standing cX11_standing 1 (some .int) 0 := ⟨tl8 200 rfl, tc1 13 rfl rfl, ⟨by decide +kernel, by decide +kernel, by decide +kernel⟩, by decide⟩
set_option maxRecDepth 100000 in
theorem ins_X11_standing : Cond.instanceMethod yX11_standing ∈ xTb := tc8 198 rfl rfl
set_option maxRecDepth 100000 in
theorem sel_X11_standing : Cond.selects yX11_standing.cls yX11_standing yX11_standing ∈ xTb := tc8 199 rfl rfl
set_option maxRecDepth 100000 in
theorem cal_X11_able : xCal yX11_able cX11_able 1 (some .int) 0 := ⟨tl8 204 rfl, tc1 13 rfl rfl, ⟨by decide +kernel, by decide +kernel, by decide +kernel⟩, by decide⟩
set_option maxRecDepth 100000 in
theorem ins_X11_able : Cond.instanceMethod yX11_able ∈ xTb := tc8 202 rfl rfl
set_option maxRecDepth 100000 in
theorem sel_X11_able : Cond.selects yX11_able.cls yX11_able yX11_able ∈ xTb := tc8 203 rfl rfl
set_option maxRecDepth 100000 in
theorem cal_X11_sits : xCal yX11_sits cX11_sits 6 (some .int) 1 := ⟨tl8 211 rfl, tc1 13 rfl rfl, ⟨by decide +kernel, by decide +kernel, by decide +kernel⟩, by decide⟩
set_option maxRecDepth 100000 in
theorem ins_X11_sits : Cond.instanceMethod yX11_sits ∈ xTb := tc8 209 rfl rfl
set_option maxRecDepth 100000 in
theorem sel_X11_sits : Cond.selects yX11_sits.cls yX11_sits yX11_sits ∈ xTb := tc8 210 rfl rfl
set_option maxRecDepth 100000 in
theorem cal_X11_lettersAt : xCal yX11_lettersAt cX11_lettersAt 4 (some .int) 1 := ⟨tl8 223 rfl, tc1 13 rfl rfl, ⟨by decide +kernel, by decide +kernel, by decide +kernel⟩, by decide⟩
set_option maxRecDepth 100000 in
theorem ins_X11_lettersAt : Cond.instanceMethod yX11_lettersAt ∈ xTb := tc8 222 rfl rfl
set_option maxRecDepth 100000 in
theorem sel_X11_lettersAt : Cond.selects yX11_lettersAt.cls yX11_lettersAt yX11_lettersAt ∈ xTb := tc0 121 rfl rfl
set_option maxRecDepth 100000 in
theorem cal_X11_areThere : xCal yX11_areThere cX11_areThere 6 (some .boolean) 2 := ⟨tl8 227 rfl, tc1 13 rfl rfl, ⟨by decide +kernel, by decide +kernel, by decide +kernel⟩, by decide⟩
set_option maxRecDepth 100000 in
theorem ins_X11_areThere : Cond.instanceMethod yX11_areThere ∈ xTb := tc8 226 rfl rfl
set_option maxRecDepth 100000 in
theorem sel_X11_areThere : Cond.selects yX11_areThere.cls yX11_areThere yX11_areThere ∈ xTb := tc0 122 rfl rfl
set_option maxRecDepth 100000 in
theorem cal_X11_walk : xCal yX11_walk cX11_walk 14 (some .int) 4 := ⟨tl8 219 rfl, tc1 13 rfl rfl, ⟨by decide +kernel, by decide +kernel, by decide +kernel⟩, by decide⟩
set_option maxRecDepth 100000 in
theorem ins_X11_walk : Cond.instanceMethod yX11_walk ∈ xTb := tc8 218 rfl rfl
set_option maxRecDepth 100000 in
theorem sel_X11_walk : Cond.selects yX11_walk.cls yX11_walk yX11_walk ∈ xTb := tc0 120 rfl rfl
set_option maxRecDepth 100000 in
theorem cal_X11_ever : xCal yX11_ever cX11_ever 4 (some .int) 0 := ⟨tl8 215 rfl, tc1 13 rfl rfl, ⟨by decide +kernel, by decide +kernel, by decide +kernel⟩, by decide⟩
set_option maxRecDepth 100000 in
theorem ins_X11_ever : Cond.instanceMethod yX11_ever ∈ xTb := tc8 213 rfl rfl
set_option maxRecDepth 100000 in
theorem sel_X11_ever : Cond.selects yX11_ever.cls yX11_ever yX11_ever ∈ xTb := tc8 214 rfl rfl
set_option maxRecDepth 100000 in
theorem cal_X11_mayBe : xCal yX11_mayBe cX11_mayBe 3 (some .boolean) 2 := ⟨tl8 235 rfl, tc1 13 rfl rfl, ⟨by decide +kernel, by decide +kernel, by decide +kernel⟩, by decide⟩
set_option maxRecDepth 100000 in
theorem ins_X11_mayBe : Cond.instanceMethod yX11_mayBe ∈ xTb := tc8 234 rfl rfl
set_option maxRecDepth 100000 in
theorem sel_X11_mayBe : Cond.selects yX11_mayBe.cls yX11_mayBe yX11_mayBe ∈ xTb := tc0 123 rfl rfl
set_option maxRecDepth 100000 in
theorem cal_X11_isGoodOrNone : xCal yX11_isGoodOrNone cX11_isGoodOrNone 2 (some .boolean) 1 := ⟨tl8 239 rfl, tc1 13 rfl rfl, ⟨by decide +kernel, by decide +kernel, by decide +kernel⟩, by decide⟩
set_option maxRecDepth 100000 in
theorem ins_X11_isGoodOrNone : Cond.instanceMethod yX11_isGoodOrNone ∈ xTb := tc8 238 rfl rfl
set_option maxRecDepth 100000 in
theorem sel_X11_isGoodOrNone : Cond.selects yX11_isGoodOrNone.cls yX11_isGoodOrNone yX11_isGoodOrNone ∈ xTb := tc0 124 rfl rfl
set_option maxRecDepth 100000 in
theorem cal_X11_steps : xCal yX11_steps cX11_steps 6 (some .int) 4 := ⟨tl8 231 rfl, tc1 13 rfl rfl, ⟨by decide +kernel, by decide +kernel, by decide +kernel⟩, by decide⟩
set_option maxRecDepth 100000 in
theorem ins_X11_steps : Cond.instanceMethod yX11_steps ∈ xTb := tc8 229 rfl rfl
set_option maxRecDepth 100000 in
theorem sel_X11_steps : Cond.selects yX11_steps.cls yX11_steps yX11_steps ∈ xTb := tc8 230 rfl rfl
set_option maxRecDepth 100000 in
theorem cal_X11_weights : xCal yX11_weights cX11_weights 3 (some .int) 0 := ⟨tl9 16 rfl, tc1 13 rfl rfl, ⟨by decide +kernel, by decide +kernel, by decide +kernel⟩, by decide⟩
set_option maxRecDepth 100000 in
theorem ins_X11_weights : Cond.instanceMethod yX11_weights ∈ xTb := tc9 15 rfl rfl
set_option maxRecDepth 100000 in
theorem sel_X11_weights : Cond.selects yX11_weights.cls yX11_weights yX11_weights ∈ xTb := tc0 127 rfl rfl
set_option maxRecDepth 100000 in
theorem cal_X11_power : xCal yX11_power cX11_power 5 (some .long) 1 := ⟨tl9 12 rfl, tc1 13 rfl rfl, ⟨by decide +kernel, by decide +kernel, by decide +kernel⟩, by decide⟩
set_option maxRecDepth 100000 in
theorem ins_X11_power : Cond.instanceMethod yX11_power ∈ xTb := tc9 11 rfl rfl
set_option maxRecDepth 100000 in
theorem sel_X11_power : Cond.selects yX11_power.cls yX11_power yX11_power ∈ xTb := tc0 126 rfl rfl
set_option maxRecDepth 100000 in
theorem cal_X11_hopeOf : xCal yX11_hopeOf cX11_hopeOf 14 (some .long) 2 := ⟨tl9 8 rfl, tc1 13 rfl rfl, ⟨by decide +kernel, by decide +kernel, by decide +kernel⟩, by decide⟩
set_option maxRecDepth 100000 in
theorem ins_X11_hopeOf : Cond.instanceMethod yX11_hopeOf ∈ xTb := tc9 7 rfl rfl
set_option maxRecDepth 100000 in
theorem sel_X11_hopeOf : Cond.selects yX11_hopeOf.cls yX11_hopeOf yX11_hopeOf ∈ xTb := tc0 125 rfl rfl
set_option maxRecDepth 100000 in
theorem cal_X11_common : xCal yX11_common cX11_common 10 (some .long) 2 := ⟨tl9 19 rfl, tc1 13 rfl rfl, ⟨by decide +kernel, by decide +kernel, by decide +kernel⟩, by decide⟩
set_option maxRecDepth 100000 in
theorem sta_X11_common : Cond.static yX11_common ∈ xTb := tc9 18 rfl rfl
set_option maxRecDepth 100000 in
theorem cal_X11_hope : xCal yX11_hope cX11_hope 7 (some .long) 2 := ⟨tl9 3 rfl, tc1 13 rfl rfl, ⟨by decide +kernel, by decide +kernel, by decide +kernel⟩, by decide⟩
set_option maxRecDepth 100000 in
theorem ins_X11_hope : Cond.instanceMethod yX11_hope ∈ xTb := tc9 1 rfl rfl
set_option maxRecDepth 100000 in
theorem sel_X11_hope : Cond.selects yX11_hope.cls yX11_hope yX11_hope ∈ xTb := tc9 2 rfl rfl
set_option maxRecDepth 100000 in
theorem cal_X11_grundyOf : xCal yX11_grundyOf cX11_grundyOf 4 (some .int) 1 := ⟨tl9 27 rfl, tc1 13 rfl rfl, ⟨by decide +kernel, by decide +kernel, by decide +kernel⟩, by decide⟩
set_option maxRecDepth 100000 in
theorem ins_X11_grundyOf : Cond.instanceMethod yX11_grundyOf ∈ xTb := tc9 26 rfl rfl
set_option maxRecDepth 100000 in
theorem sel_X11_grundyOf : Cond.selects yX11_grundyOf.cls yX11_grundyOf yX11_grundyOf ∈ xTb := tc0 128 rfl rfl
set_option maxRecDepth 100000 in
theorem cal_X11_game : xCal yX11_game cX11_game 1 (some .int) 0 := ⟨tl9 23 rfl, tc1 13 rfl rfl, ⟨by decide +kernel, by decide +kernel, by decide +kernel⟩, by decide⟩
set_option maxRecDepth 100000 in
theorem ins_X11_game : Cond.instanceMethod yX11_game ∈ xTb := tc9 21 rfl rfl
set_option maxRecDepth 100000 in
theorem sel_X11_game : Cond.selects yX11_game.cls yX11_game yX11_game ∈ xTb := tc9 22 rfl rfl
set_option maxRecDepth 100000 in
theorem cal_X11_move : xCal yX11_move cX11_move 3 (some .int) 0 := ⟨tl9 31 rfl, tc1 13 rfl rfl, ⟨by decide +kernel, by decide +kernel, by decide +kernel⟩, by decide⟩
set_option maxRecDepth 100000 in
theorem ins_X11_move : Cond.instanceMethod yX11_move ∈ xTb := tc9 29 rfl rfl
set_option maxRecDepth 100000 in
theorem sel_X11_move : Cond.selects yX11_move.cls yX11_move yX11_move ∈ xTb := tc9 30 rfl rfl
set_option maxRecDepth 100000 in
theorem cal_X11_mark : xCal yX11_mark cX11_mark 2 (some .int) 0 := ⟨tl9 35 rfl, tc1 13 rfl rfl, ⟨by decide +kernel, by decide +kernel, by decide +kernel⟩, by decide⟩
set_option maxRecDepth 100000 in
theorem ins_X11_mark : Cond.instanceMethod yX11_mark ∈ xTb := tc9 33 rfl rfl
set_option maxRecDepth 100000 in
theorem sel_X11_mark : Cond.selects yX11_mark.cls yX11_mark yX11_mark ∈ xTb := tc9 34 rfl rfl
set_option maxRecDepth 100000 in
theorem cal_X11_back : xCal yX11_back cX11_back 3 (some .boolean) 1 := ⟨tl9 39 rfl, tc1 13 rfl rfl, ⟨by decide +kernel, by decide +kernel, by decide +kernel⟩, by decide⟩
set_option maxRecDepth 100000 in
theorem ins_X11_back : Cond.instanceMethod yX11_back ∈ xTb := tc9 37 rfl rfl
set_option maxRecDepth 100000 in
theorem sel_X11_back : Cond.selects yX11_back.cls yX11_back yX11_back ∈ xTb := tc9 38 rfl rfl
set_option maxRecDepth 100000 in
theorem cal_X11_firstWrong : xCal yX11_firstWrong cX11_firstWrong 3 (some .int) 0 := ⟨tl9 51 rfl, tc1 13 rfl rfl, ⟨by decide +kernel, by decide +kernel, by decide +kernel⟩, by decide⟩
set_option maxRecDepth 100000 in
theorem ins_X11_firstWrong : Cond.instanceMethod yX11_firstWrong ∈ xTb := tc9 50 rfl rfl
set_option maxRecDepth 100000 in
theorem sel_X11_firstWrong : Cond.selects yX11_firstWrong.cls yX11_firstWrong yX11_firstWrong ∈ xTb := tc0 130 rfl rfl
set_option maxRecDepth 100000 in
theorem cal_X11_seenWhy : xCal yX11_seenWhy cX11_seenWhy 1 (some .int) 0 := ⟨tl9 47 rfl, tc1 13 rfl rfl, ⟨by decide +kernel, by decide +kernel, by decide +kernel⟩, by decide⟩
set_option maxRecDepth 100000 in
theorem ins_X11_seenWhy : Cond.instanceMethod yX11_seenWhy ∈ xTb := tc9 46 rfl rfl
set_option maxRecDepth 100000 in
theorem sel_X11_seenWhy : Cond.selects yX11_seenWhy.cls yX11_seenWhy yX11_seenWhy ∈ xTb := tc0 129 rfl rfl
set_option maxRecDepth 100000 in
theorem cal_X11_wrong_ : xCal yX11_wrong_ cX11_wrong_ 2 (some .int) 0 := ⟨tl9 43 rfl, tc1 13 rfl rfl, ⟨by decide +kernel, by decide +kernel, by decide +kernel⟩, by decide⟩
set_option maxRecDepth 100000 in
theorem ins_X11_wrong_ : Cond.instanceMethod yX11_wrong_ ∈ xTb := tc9 41 rfl rfl
set_option maxRecDepth 100000 in
theorem sel_X11_wrong_ : Cond.selects yX11_wrong_.cls yX11_wrong_ yX11_wrong_ ∈ xTb := tc9 42 rfl rfl
set_option maxRecDepth 100000 in
theorem cal_X11_mayBeThose : xCal yX11_mayBeThose cX11_mayBeThose 9 (some .boolean) 1 := ⟨tl9 63 rfl, tc1 13 rfl rfl, ⟨by decide +kernel, by decide +kernel, by decide +kernel⟩, by decide⟩
set_option maxRecDepth 100000 in
theorem ins_X11_mayBeThose : Cond.instanceMethod yX11_mayBeThose ∈ xTb := tc9 62 rfl rfl
set_option maxRecDepth 100000 in
theorem sel_X11_mayBeThose : Cond.selects yX11_mayBeThose.cls yX11_mayBeThose yX11_mayBeThose ∈ xTb := tc0 132 rfl rfl
set_option maxRecDepth 100000 in
theorem cal_X11_waysWith : xCal yX11_waysWith cX11_waysWith 4 (some .int) 1 := ⟨tl9 59 rfl, tc1 13 rfl rfl, ⟨by decide +kernel, by decide +kernel, by decide +kernel⟩, by decide⟩
set_option maxRecDepth 100000 in
theorem ins_X11_waysWith : Cond.instanceMethod yX11_waysWith ∈ xTb := tc9 58 rfl rfl
set_option maxRecDepth 100000 in
theorem sel_X11_waysWith : Cond.selects yX11_waysWith.cls yX11_waysWith yX11_waysWith ∈ xTb := tc0 131 rfl rfl
set_option maxRecDepth 100000 in
theorem cal_X11_ways : xCal yX11_ways cX11_ways 2 (some .int) 0 := ⟨tl9 55 rfl, tc1 13 rfl rfl, ⟨by decide +kernel, by decide +kernel, by decide +kernel⟩, by decide⟩
set_option maxRecDepth 100000 in
theorem ins_X11_ways : Cond.instanceMethod yX11_ways ∈ xTb := tc9 53 rfl rfl
set_option maxRecDepth 100000 in
theorem sel_X11_ways : Cond.selects yX11_ways.cls yX11_ways yX11_ways ∈ xTb := tc9 54 rfl rfl
set_option maxRecDepth 100000 in
theorem cal_X11_waysOf : xCal yX11_waysOf cX11_waysOf 3 (some .int) 1 := ⟨tl9 67 rfl, tc1 13 rfl rfl, ⟨by decide +kernel, by decide +kernel, by decide +kernel⟩, by decide⟩
set_option maxRecDepth 100000 in
theorem ins_X11_waysOf : Cond.instanceMethod yX11_waysOf ∈ xTb := tc9 65 rfl rfl
set_option maxRecDepth 100000 in
theorem sel_X11_waysOf : Cond.selects yX11_waysOf.cls yX11_waysOf yX11_waysOf ∈ xTb := tc9 66 rfl rfl
set_option maxRecDepth 100000 in
theorem cal_X11_did : xCal yX11_did cX11_did 1 (some .boolean) 0 := ⟨tl9 79 rfl, tc1 13 rfl rfl, ⟨by decide +kernel, by decide +kernel, by decide +kernel⟩, by decide⟩
set_option maxRecDepth 100000 in
theorem ins_X11_did : Cond.instanceMethod yX11_did ∈ xTb := tc9 78 rfl rfl
set_option maxRecDepth 100000 in
theorem sel_X11_did : Cond.selects yX11_did.cls yX11_did yX11_did ∈ xTb := tc0 134 rfl rfl
set_option maxRecDepth 100000 in
theorem cal_X11_rename : xCal yX11_rename cX11_rename 3 (some .boolean) 2 := ⟨tl9 75 rfl, tc1 13 rfl rfl, ⟨by decide +kernel, by decide +kernel, by decide +kernel⟩, by decide⟩
set_option maxRecDepth 100000 in
theorem ins_X11_rename : Cond.instanceMethod yX11_rename ∈ xTb := tc9 73 rfl rfl
set_option maxRecDepth 100000 in
theorem sel_X11_rename : Cond.selects yX11_rename.cls yX11_rename yX11_rename ∈ xTb := tc9 74 rfl rfl
set_option maxRecDepth 100000 in
theorem cal_X11_bar : xCal yX11_bar cX11_bar 3 (some .boolean) 2 := ⟨tl9 83 rfl, tc1 13 rfl rfl, ⟨by decide +kernel, by decide +kernel, by decide +kernel⟩, by decide⟩
set_option maxRecDepth 100000 in
theorem ins_X11_bar : Cond.instanceMethod yX11_bar ∈ xTb := tc9 81 rfl rfl
set_option maxRecDepth 100000 in
theorem sel_X11_bar : Cond.selects yX11_bar.cls yX11_bar yX11_bar ∈ xTb := tc9 82 rfl rfl
set_option maxRecDepth 100000 in
theorem cal_X11_guest : xCal yX11_guest cX11_guest 2 (some .int) 1 := ⟨tl9 87 rfl, tc1 13 rfl rfl, ⟨by decide +kernel, by decide +kernel, by decide +kernel⟩, by decide⟩
set_option maxRecDepth 100000 in
theorem ins_X11_guest : Cond.instanceMethod yX11_guest ∈ xTb := tc9 85 rfl rfl
set_option maxRecDepth 100000 in
theorem sel_X11_guest : Cond.selects yX11_guest.cls yX11_guest yX11_guest ∈ xTb := tc9 86 rfl rfl
set_option maxRecDepth 100000 in
theorem cal_X11_led : xCal yX11_led cX11_led 4 (some .int) 1 := ⟨tl9 91 rfl, tc1 13 rfl rfl, ⟨by decide +kernel, by decide +kernel, by decide +kernel⟩, by decide⟩
set_option maxRecDepth 100000 in
theorem ins_X11_led : Cond.instanceMethod yX11_led ∈ xTb := tc9 89 rfl rfl
set_option maxRecDepth 100000 in
theorem sel_X11_led : Cond.selects yX11_led.cls yX11_led yX11_led ∈ xTb := tc9 90 rfl rfl
set_option maxRecDepth 100000 in
theorem cal_X11_size : xCal yX11_size cX11_size 2 (some .int) 1 := ⟨tl9 95 rfl, tc1 13 rfl rfl, ⟨by decide +kernel, by decide +kernel, by decide +kernel⟩, by decide⟩
set_option maxRecDepth 100000 in
theorem ins_X11_size : Cond.instanceMethod yX11_size ∈ xTb := tc9 93 rfl rfl
set_option maxRecDepth 100000 in
theorem sel_X11_size : Cond.selects yX11_size.cls yX11_size yX11_size ∈ xTb := tc9 94 rfl rfl
set_option maxRecDepth 100000 in
theorem cal_X11_trouble : xCal yX11_trouble cX11_trouble 1 (some .int) 0 := ⟨tl9 99 rfl, tc1 13 rfl rfl, ⟨by decide +kernel, by decide +kernel, by decide +kernel⟩, by decide⟩
set_option maxRecDepth 100000 in
theorem ins_X11_trouble : Cond.instanceMethod yX11_trouble ∈ xTb := tc9 97 rfl rfl
set_option maxRecDepth 100000 in
theorem sel_X11_trouble : Cond.selects yX11_trouble.cls yX11_trouble yX11_trouble ∈ xTb := tc9 98 rfl rfl
