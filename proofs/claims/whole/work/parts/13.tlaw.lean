def tl_0 (sc : Int → Int) (i : Int) (μ : xM) (K : xM → Prop) : Prop :=
  tX10_feed (sc (i + 1)) (sc (i + 2)) (sc (i + 3)) (sc (i + 4)) (sc (i + 5)) μ (fun r3 μ1 => (xIn r3) → xRan μ1 → (tX11_feed (sc (i + 1)) (sc (i + 2)) (sc (i + 3)) (sc (i + 4)) (sc (i + 5)) μ1 (fun r7 μ5 => (xIn r7) → xRan μ5 → ((r3 = r7) ∧ (K μ5)))))
def tl_1 (sc : Int → Int) (i : Int) (μ : xM) (K : xM → Prop) : Prop :=
  tX10_inn (sc (i + 1)) μ (fun r12 μ10 => (xIn r12) → xRan μ10 → (tX11_inn (sc (i + 1)) μ10 (fun r16 μ14 => (xIn r16) → xRan μ14 → ((r12 = r16) ∧ (K μ14)))))
def tl_2 (sc : Int → Int) (i : Int) (μ : xM) (K : xM → Prop) : Prop :=
  tX10_fault μ (fun r21 μ19 => (xIn r21) → xRan μ19 → (tX11_fault μ19 (fun r25 μ23 => (xIn r25) → xRan μ23 → ((r21 = r25) ∧ (K μ23)))))
def tl_3 (sc : Int → Int) (i : Int) (μ : xM) (K : xM → Prop) : Prop :=
  tX10_where μ (fun r30 μ28 => (xIn r30) → xRan μ28 → (tX11_where μ28 (fun r34 μ32 => (xIn r34) → xRan μ32 → ((r30 = r34) ∧ (K μ32)))))
def tl_4 (sc : Int → Int) (i : Int) (μ : xM) (K : xM → Prop) : Prop :=
  tX10_word (sc (i + 1)) (sc (i + 2)) μ (fun r39 μ37 => (xIn r39) → xRan μ37 → (tX11_word (sc (i + 1)) (sc (i + 2)) μ37 (fun r43 μ41 => (xIn r43) → xRan μ41 → ((r39 = r43) ∧ (K μ41)))))
def tl_5 (sc : Int → Int) (i : Int) (μ : xM) (K : xM → Prop) : Prop :=
  tX10_letter (sc (i + 1)) (sc (i + 2)) μ (fun r48 μ46 => (xIn r48) → xRan μ46 → (tX11_letter (sc (i + 1)) (sc (i + 2)) μ46 (fun r52 μ50 => (xIn r52) → xRan μ50 → ((r48 = r52) ∧ (K μ50)))))
def tl_6 (sc : Int → Int) (i : Int) (μ : xM) (K : xM → Prop) : Prop :=
  tX10_grows (sc (i + 1)) (sc (i + 2)) μ (fun r57 μ55 => (xIn r57) → xRan μ55 → (tX11_grows (sc (i + 1)) (sc (i + 2)) μ55 (fun r61 μ59 => (xIn r61) → xRan μ59 → ((r57 = r61) ∧ (K μ59)))))
def tl_7 (sc : Int → Int) (i : Int) (μ : xM) (K : xM → Prop) : Prop :=
  tX10_chain (sc (i + 1)) μ (fun r66 μ64 => (xIn r66) → xRan μ64 → (tX11_chain (sc (i + 1)) μ64 (fun r70 μ68 => (xIn r70) → xRan μ68 → ((r66 = r70) ∧ (K μ68)))))
def tl_8 (sc : Int → Int) (i : Int) (μ : xM) (K : xM → Prop) : Prop :=
  tX10_ladder (sc (i + 1)) (sc (i + 2)) μ (fun r75 μ73 => (xIn r75) → xRan μ73 → (tX11_ladder (sc (i + 1)) (sc (i + 2)) μ73 (fun r79 μ77 => (xIn r79) → xRan μ77 → ((r75 = r79) ∧ (K μ77)))))
def tl_9 (sc : Int → Int) (i : Int) (μ : xM) (K : xM → Prop) : Prop :=
  tX10_rung (sc (i + 1)) (sc (i + 2)) (sc (i + 3)) μ (fun r84 μ82 => (xIn r84) → xRan μ82 → (tX11_rung (sc (i + 1)) (sc (i + 2)) (sc (i + 3)) μ82 (fun r88 μ86 => (xIn r88) → xRan μ86 → ((r84 = r88) ∧ (K μ86)))))
def tl_10 (sc : Int → Int) (i : Int) (μ : xM) (K : xM → Prop) : Prop :=
  tX10_grundy (sc (i + 1)) μ (fun r93 μ91 => (xIn r93) → xRan μ91 → (tX11_grundy (sc (i + 1)) μ91 (fun r97 μ95 => (xIn r97) → xRan μ95 → ((r93 = r97) ∧ (K μ95)))))
def tl_11 (sc : Int → Int) (i : Int) (μ : xM) (K : xM → Prop) : Prop :=
  tX10_most μ (fun r102 μ100 => (xIn r102) → xRan μ100 → (tX11_most μ100 (fun r106 μ104 => (xIn r106) → xRan μ104 → ((r102 = r106) ∧ (K μ104)))))
def tl_12 (sc : Int → Int) (i : Int) (μ : xM) (K : xM → Prop) : Prop :=
  tX10_worth μ (fun r111 μ109 => (xIn r111) → xRan μ109 → (tX11_worth μ109 (fun r115 μ113 => (xIn r115) → xRan μ113 → ((r111 = r115) ∧ (K μ113)))))
def tl_13 (sc : Int → Int) (i : Int) (μ : xM) (K : xM → Prop) : Prop :=
  tX10_plan (sc (i + 1)) μ (fun r120 μ118 => (xIn r120) → xRan μ118 → (tX11_plan (sc (i + 1)) μ118 (fun r124 μ122 => (xIn r124) → xRan μ122 → ((r120 = r124) ∧ (K μ122)))))
def tl_14 (sc : Int → Int) (i : Int) (μ : xM) (K : xM → Prop) : Prop :=
  tX10_richest μ (fun r129 μ127 => (xIn r129) → xRan μ127 → (tX11_richest μ127 (fun r133 μ131 => (xIn r133) → xRan μ131 → ((r129 = r133) ∧ (K μ131)))))
def tl_15 (sc : Int → Int) (i : Int) (μ : xM) (K : xM → Prop) : Prop :=
  tX10_fewest μ (fun r138 μ136 => (xIn r138) → xRan μ136 → (tX11_fewest μ136 (fun r142 μ140 => (xIn r142) → xRan μ140 → ((r138 = r142) ∧ (K μ140)))))
def tl_16 (sc : Int → Int) (i : Int) (μ : xM) (K : xM → Prop) : Prop :=
  tX10_wanted μ (fun r147 μ145 => (xIn r147) → xRan μ145 → (tX11_wanted_ μ145 (fun r151 μ149 => (xIn r151) → xRan μ149 → ((r147 = r151) ∧ (K μ149)))))
def tl_17 (sc : Int → Int) (i : Int) (μ : xM) (K : xM → Prop) : Prop :=
  tX10_wants (sc (i + 1)) μ (fun r156 μ154 => (xIn r156) → xRan μ154 → (tX11_wants (sc (i + 1)) μ154 (fun r160 μ158 => (xIn r160) → xRan μ158 → ((r156 = r160) ∧ (K μ158)))))
def tl_18 (sc : Int → Int) (i : Int) (μ : xM) (K : xM → Prop) : Prop :=
  tX10_gains (sc (i + 1)) μ (fun r165 μ163 => (xIn r165) → xRan μ163 → (tX11_gains (sc (i + 1)) μ163 (fun r169 μ167 => (xIn r169) → xRan μ167 → ((r165 = r169) ∧ (K μ167)))))
def tl_19 (sc : Int → Int) (i : Int) (μ : xM) (K : xM → Prop) : Prop :=
  tX10_night (sc (i + 1)) μ (fun r174 μ172 => (r174 = 0 ∨ r174 = 1) → xRan μ172 → (tX11_night (sc (i + 1)) μ172 (fun r178 μ176 => (r178 = 0 ∨ r178 = 1) → xRan μ176 → ((r174 = r178) ∧ (K μ176)))))
def tl_20 (sc : Int → Int) (i : Int) (μ : xM) (K : xM → Prop) : Prop :=
  tX10_come (sc (i + 1)) μ (fun r183 μ181 => (xIn r183) → xRan μ181 → (tX11_come (sc (i + 1)) μ181 (fun r187 μ185 => (xIn r187) → xRan μ185 → ((r183 = r187) ∧ (K μ185)))))
def tl_21 (sc : Int → Int) (i : Int) (μ : xM) (K : xM → Prop) : Prop :=
  tX10_seat (sc (i + 1)) (sc (i + 2)) μ (fun r192 μ190 => (r192 = 0 ∨ r192 = 1) → xRan μ190 → (tX11_seat (sc (i + 1)) (sc (i + 2)) μ190 (fun r196 μ194 => (r196 = 0 ∨ r196 = 1) → xRan μ194 → ((r192 = r196) ∧ (K μ194)))))
def tl_22 (sc : Int → Int) (i : Int) (μ : xM) (K : xM → Prop) : Prop :=
  tX10_stand μ (fun r201 μ199 => (r201 = 0 ∨ r201 = 1) → xRan μ199 → (tX11_stand μ199 (fun r205 μ203 => (r205 = 0 ∨ r205 = 1) → xRan μ203 → ((r201 = r205) ∧ (K μ203)))))
def tl_23 (sc : Int → Int) (i : Int) (μ : xM) (K : xM → Prop) : Prop :=
  tX10_can μ (fun r210 μ208 => (xIn r210) → xRan μ208 → (tX11_can μ208 (fun r214 μ212 => (xIn r214) → xRan μ212 → ((r210 = r214) ∧ (K μ212)))))
def tl_24 (sc : Int → Int) (i : Int) (μ : xM) (K : xM → Prop) : Prop :=
  tX10_table (sc (i + 1)) μ (fun r219 μ217 => (xIn r219) → xRan μ217 → (tX11_table (sc (i + 1)) μ217 (fun r223 μ221 => (xIn r223) → xRan μ221 → ((r219 = r223) ∧ (K μ221)))))
def tl_25 (sc : Int → Int) (i : Int) (μ : xM) (K : xM → Prop) : Prop :=
  tX10_standing μ (fun r228 μ226 => (xIn r228) → xRan μ226 → (tX11_standing μ226 (fun r232 μ230 => (xIn r232) → xRan μ230 → ((r228 = r232) ∧ (K μ230)))))
def tl_26 (sc : Int → Int) (i : Int) (μ : xM) (K : xM → Prop) : Prop :=
  tX10_ever μ (fun r237 μ235 => (xIn r237) → xRan μ235 → (tX11_ever μ235 (fun r241 μ239 => (xIn r241) → xRan μ239 → ((r237 = r241) ∧ (K μ239)))))
def tl_27 (sc : Int → Int) (i : Int) (μ : xM) (K : xM → Prop) : Prop :=
  tX10_rises (sc (i + 1)) μ (fun r246 μ244 => (xIn r246) → xRan μ244 → (tX11_rises (sc (i + 1)) μ244 (fun r250 μ248 => (xIn r250) → xRan μ248 → ((r246 = r250) ∧ (K μ248)))))
def tl_28 (sc : Int → Int) (i : Int) (μ : xM) (K : xM → Prop) : Prop :=
  tX10_steps (sc (i + 1)) (sc (i + 2)) (sc (i + 3)) (sc (i + 4)) μ (fun r255 μ253 => (xIn r255) → xRan μ253 → (tX11_steps (sc (i + 1)) (sc (i + 2)) (sc (i + 3)) (sc (i + 4)) μ253 (fun r259 μ257 => (xIn r259) → xRan μ257 → ((r255 = r259) ∧ (K μ257)))))
def tl_29 (sc : Int → Int) (i : Int) (μ : xM) (K : xM → Prop) : Prop :=
  tX10_able μ (fun r264 μ262 => (xIn r264) → xRan μ262 → (tX11_able μ262 (fun r268 μ266 => (xIn r268) → xRan μ266 → ((r264 = r268) ∧ (K μ266)))))
def tl_30 (sc : Int → Int) (i : Int) (μ : xM) (K : xM → Prop) : Prop :=
  tX10_sits (sc (i + 1)) μ (fun r273 μ271 => (xIn r273) → xRan μ271 → (tX11_sits (sc (i + 1)) μ271 (fun r277 μ275 => (xIn r277) → xRan μ275 → ((r273 = r277) ∧ (K μ275)))))
def tl_31 (sc : Int → Int) (i : Int) (μ : xM) (K : xM → Prop) : Prop :=
  (((sc (i + 2)) = 0 → tX10_hope (sc (i + 1)) 0 μ (fun r283 μ281 => (xIl r283) → xRan μ281 → ((((sc (i + 2)) = 0 → tX11_hope (sc (i + 1)) 0 μ281 (fun r288 μ286 => (xIl r288) → xRan μ286 → ((r283 = r288) ∧ (K μ286)))) ∧
  (¬ (sc (i + 2)) = 0 → tX11_hope (sc (i + 1)) 1 μ281 (fun r293 μ291 => (xIl r293) → xRan μ291 → ((r283 = r293) ∧ (K μ291)))))))) ∧
  (¬ (sc (i + 2)) = 0 → tX10_hope (sc (i + 1)) 1 μ (fun r298 μ296 => (xIl r298) → xRan μ296 → ((((sc (i + 2)) = 0 → tX11_hope (sc (i + 1)) 0 μ296 (fun r303 μ301 => (xIl r303) → xRan μ301 → ((r298 = r303) ∧ (K μ301)))) ∧
  (¬ (sc (i + 2)) = 0 → tX11_hope (sc (i + 1)) 1 μ296 (fun r308 μ306 => (xIl r308) → xRan μ306 → ((r298 = r308) ∧ (K μ306)))))))))
def tl_32 (sc : Int → Int) (i : Int) (μ : xM) (K : xM → Prop) : Prop :=
  tX10_game μ (fun r313 μ311 => (xIn r313) → xRan μ311 → (tX11_game μ311 (fun r317 μ315 => (xIn r317) → xRan μ315 → ((r313 = r317) ∧ (K μ315)))))
def tl_33 (sc : Int → Int) (i : Int) (μ : xM) (K : xM → Prop) : Prop :=
  tX10_move μ (fun r322 μ320 => (xIn r322) → xRan μ320 → (tX11_move μ320 (fun r326 μ324 => (xIn r326) → xRan μ324 → ((r322 = r326) ∧ (K μ324)))))
def tl_34 (sc : Int → Int) (i : Int) (μ : xM) (K : xM → Prop) : Prop :=
  tX10_mark μ (fun r331 μ329 => (xIn r331) → xRan μ329 → (tX11_mark μ329 (fun r335 μ333 => (xIn r335) → xRan μ333 → ((r331 = r335) ∧ (K μ333)))))
def tl_35 (sc : Int → Int) (i : Int) (μ : xM) (K : xM → Prop) : Prop :=
  tX10_back (sc (i + 1)) μ (fun r340 μ338 => (r340 = 0 ∨ r340 = 1) → xRan μ338 → (tX11_back (sc (i + 1)) μ338 (fun r344 μ342 => (r344 = 0 ∨ r344 = 1) → xRan μ342 → ((r340 = r344) ∧ (K μ342)))))
def tl_36 (sc : Int → Int) (i : Int) (μ : xM) (K : xM → Prop) : Prop :=
  tX10_wrong μ (fun r349 μ347 => (xIn r349) → xRan μ347 → (tX11_wrong_ μ347 (fun r353 μ351 => (xIn r353) → xRan μ351 → ((r349 = r353) ∧ (K μ351)))))
def tl_37 (sc : Int → Int) (i : Int) (μ : xM) (K : xM → Prop) : Prop :=
  tX10_ways μ (fun r358 μ356 => (xIn r358) → xRan μ356 → (tX11_ways μ356 (fun r362 μ360 => (xIn r362) → xRan μ360 → ((r358 = r362) ∧ (K μ360)))))
def tl_38 (sc : Int → Int) (i : Int) (μ : xM) (K : xM → Prop) : Prop :=
  tX10_waysOf (sc (i + 1)) μ (fun r367 μ365 => (xIn r367) → xRan μ365 → (tX11_waysOf (sc (i + 1)) μ365 (fun r371 μ369 => (xIn r371) → xRan μ369 → ((r367 = r371) ∧ (K μ369)))))
def tl_39 (sc : Int → Int) (i : Int) (μ : xM) (K : xM → Prop) : Prop :=
  tX10_rename (sc (i + 1)) (sc (i + 2)) μ (fun r376 μ374 => (r376 = 0 ∨ r376 = 1) → xRan μ374 → (tX11_rename (sc (i + 1)) (sc (i + 2)) μ374 (fun r380 μ378 => (r380 = 0 ∨ r380 = 1) → xRan μ378 → ((r376 = r380) ∧ (K μ378)))))
def tl_40 (sc : Int → Int) (i : Int) (μ : xM) (K : xM → Prop) : Prop :=
  (((sc (i + 2)) = 0 → tX10_bar (sc (i + 1)) 0 μ (fun r386 μ384 => (r386 = 0 ∨ r386 = 1) → xRan μ384 → ((((sc (i + 2)) = 0 → tX11_bar (sc (i + 1)) 0 μ384 (fun r391 μ389 => (r391 = 0 ∨ r391 = 1) → xRan μ389 → ((r386 = r391) ∧ (K μ389)))) ∧
  (¬ (sc (i + 2)) = 0 → tX11_bar (sc (i + 1)) 1 μ384 (fun r396 μ394 => (r396 = 0 ∨ r396 = 1) → xRan μ394 → ((r386 = r396) ∧ (K μ394)))))))) ∧
  (¬ (sc (i + 2)) = 0 → tX10_bar (sc (i + 1)) 1 μ (fun r401 μ399 => (r401 = 0 ∨ r401 = 1) → xRan μ399 → ((((sc (i + 2)) = 0 → tX11_bar (sc (i + 1)) 0 μ399 (fun r406 μ404 => (r406 = 0 ∨ r406 = 1) → xRan μ404 → ((r401 = r406) ∧ (K μ404)))) ∧
  (¬ (sc (i + 2)) = 0 → tX11_bar (sc (i + 1)) 1 μ399 (fun r411 μ409 => (r411 = 0 ∨ r411 = 1) → xRan μ409 → ((r401 = r411) ∧ (K μ409)))))))))
def tl_41 (sc : Int → Int) (i : Int) (μ : xM) (K : xM → Prop) : Prop :=
  tX10_guest (sc (i + 1)) μ (fun r416 μ414 => (xIn r416) → xRan μ414 → (tX11_guest (sc (i + 1)) μ414 (fun r420 μ418 => (xIn r420) → xRan μ418 → ((r416 = r420) ∧ (K μ418)))))
def tl_43 (sc : Int → Int) (i : Int) (μ : xM) (K : xM → Prop) : Prop :=
  tX10_size (sc (i + 1)) μ (fun r425 μ423 => (xIn r425) → xRan μ423 → (tX11_size (sc (i + 1)) μ423 (fun r429 μ427 => (xIn r429) → xRan μ427 → ((r425 = r429) ∧ (K μ427)))))
def tl_44 (sc : Int → Int) (i : Int) (μ : xM) (K : xM → Prop) : Prop :=
  tX10_trouble μ (fun r434 μ432 => (xIn r434) → xRan μ432 → (tX11_trouble μ432 (fun r438 μ436 => (xIn r438) → xRan μ436 → ((r434 = r438) ∧ (K μ436)))))
def tl_42r (sc : Int → Int) (i : Int) (K : xM → Prop) (k : Int) (ω : xM) : Prop :=
  tX11_led (sc (i + 1)) ω (fun b ω1 => (xIn b) → xRan ω1 → (tX11_thrown ω1 (fun t ω2 => (xIn t) → xRan ω2 → ((t = k) ∧ (k = 0 → ω2 280 0 = b) ∧ K ω2))))
def tl_42 (sc : Int → Int) (i : Int) (μ : xM) (K : xM → Prop) : Prop :=
  tX4_seatedGuest 249 (sc (i + 1)) μ (fun g ν => (xIn g) → xRan ν → (g < 0 → tl_42r sc i K 1 ν) ∧ (¬ g < 0 → xIn g → ∀ ω : xM, ω = wi ν 280 0 g → xRan ω → tl_42r sc i K 0 ω))
def tlaw (sc : Int → Int) (i : Int) (μ : xM) (K : xM → Prop) : Prop :=
  (xAnd (sc i) 63 = 0 → tl_0 sc i μ K) ∧
  (xAnd (sc i) 63 = 1 → tl_1 sc i μ K) ∧
  (xAnd (sc i) 63 = 2 → tl_2 sc i μ K) ∧
  (xAnd (sc i) 63 = 3 → tl_3 sc i μ K) ∧
  (xAnd (sc i) 63 = 4 → tl_4 sc i μ K) ∧
  (xAnd (sc i) 63 = 5 → tl_5 sc i μ K) ∧
  (xAnd (sc i) 63 = 6 → tl_6 sc i μ K) ∧
  (xAnd (sc i) 63 = 7 → tl_7 sc i μ K) ∧
  (xAnd (sc i) 63 = 8 → tl_8 sc i μ K) ∧
  (xAnd (sc i) 63 = 9 → tl_9 sc i μ K) ∧
  (xAnd (sc i) 63 = 10 → tl_10 sc i μ K) ∧
  (xAnd (sc i) 63 = 11 → tl_11 sc i μ K) ∧
  (xAnd (sc i) 63 = 12 → tl_12 sc i μ K) ∧
  (xAnd (sc i) 63 = 13 → tl_13 sc i μ K) ∧
  (xAnd (sc i) 63 = 14 → tl_14 sc i μ K) ∧
  (xAnd (sc i) 63 = 15 → tl_15 sc i μ K) ∧
  (xAnd (sc i) 63 = 16 → tl_16 sc i μ K) ∧
  (xAnd (sc i) 63 = 17 → tl_17 sc i μ K) ∧
  (xAnd (sc i) 63 = 18 → tl_18 sc i μ K) ∧
  (xAnd (sc i) 63 = 19 → tl_19 sc i μ K) ∧
  (xAnd (sc i) 63 = 20 → tl_20 sc i μ K) ∧
  (xAnd (sc i) 63 = 21 → tl_21 sc i μ K) ∧
  (xAnd (sc i) 63 = 22 → tl_22 sc i μ K) ∧
  (xAnd (sc i) 63 = 23 → tl_23 sc i μ K) ∧
  (xAnd (sc i) 63 = 24 → tl_24 sc i μ K) ∧
  (xAnd (sc i) 63 = 25 → tl_25 sc i μ K) ∧
  (xAnd (sc i) 63 = 26 → tl_26 sc i μ K) ∧
  (xAnd (sc i) 63 = 27 → tl_27 sc i μ K) ∧
  (xAnd (sc i) 63 = 28 → tl_28 sc i μ K) ∧
  (xAnd (sc i) 63 = 29 → tl_29 sc i μ K) ∧
  (xAnd (sc i) 63 = 30 → tl_30 sc i μ K) ∧
  (xAnd (sc i) 63 = 31 → tl_31 sc i μ K) ∧
  (xAnd (sc i) 63 = 32 → tl_32 sc i μ K) ∧
  (xAnd (sc i) 63 = 33 → tl_33 sc i μ K) ∧
  (xAnd (sc i) 63 = 34 → tl_34 sc i μ K) ∧
  (xAnd (sc i) 63 = 35 → tl_35 sc i μ K) ∧
  (xAnd (sc i) 63 = 36 → tl_36 sc i μ K) ∧
  (xAnd (sc i) 63 = 37 → tl_37 sc i μ K) ∧
  (xAnd (sc i) 63 = 38 → tl_38 sc i μ K) ∧
  (xAnd (sc i) 63 = 39 → tl_39 sc i μ K) ∧
  (xAnd (sc i) 63 = 40 → tl_40 sc i μ K) ∧
  (xAnd (sc i) 63 = 41 → tl_41 sc i μ K) ∧
  (xAnd (sc i) 63 = 42 → tl_42 sc i μ K) ∧
  (xAnd (sc i) 63 = 43 → tl_43 sc i μ K) ∧
  (xAnd (sc i) 63 = 44 → tl_44 sc i μ K) ∧
  ((xAnd (sc i) 63 < 0 ∨ 44 < xAnd (sc i) 63) → K μ)
