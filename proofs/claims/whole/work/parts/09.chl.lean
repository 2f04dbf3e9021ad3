theorem ck_x_undo : aCkM 140 K_x_undo = true := by decide +kernel
theorem ck_x_image : aCkM 141 K_x_image = true := by decide +kernel
theorem ck_x_look : aCkM 142 K_x_look = true := by decide +kernel
theorem ck_x_within : aCkM 143 K_x_within = true := by decide +kernel
theorem ck_x_setWood : aCkM 144 K_x_setWood = true := by decide +kernel
theorem ck_x_setDeer : aCkM 145 K_x_setDeer = true := by decide +kernel
theorem ck_x_takeText : aCkM 146 K_x_takeText = true := by decide +kernel
theorem ck_x_likelyWithin : aCkM 147 K_x_likelyWithin = true := by decide +kernel
theorem ck_m_isIn : aCkM 148 K_m_isIn = true := by decide +kernel
theorem ck_m_lesser : aCkM 149 K_m_lesser = true := by decide +kernel
theorem ck_m_greater : aCkM 150 K_m_greater = true := by decide +kernel
theorem ck_m_size : aCkM 151 K_m_size = true := by decide +kernel
theorem ck_m_isDeer : aCkM 152 K_m_isDeer = true := by decide +kernel
theorem ck_m_isAlive : aCkM 153 K_m_isAlive = true := by decide +kernel
theorem ck_m_count : aCkM 154 K_m_count = true := by decide +kernel
theorem ck_m_forgets : aCkM 155 K_m_forgets = true := by decide +kernel
theorem ck_m_state : aCkM 156 K_m_state = true := by decide +kernel
theorem ck_m_draw : aCkM 157 K_m_draw = true := by decide +kernel
theorem ck_m_deer : aCkM 158 K_m_deer = true := by decide +kernel
theorem ck_m_canSet : aCkM 159 K_m_canSet = true := by decide +kernel
theorem ck_m_placeOf : aCkM 160 K_m_placeOf = true := by decide +kernel
theorem ck_m_set : aCkM 161 K_m_set = true := by decide +kernel
theorem ck_m_feed : aCkM 162 K_m_feed = true := by decide +kernel
theorem ck_m_end : aCkM 163 K_m_end = true := by decide +kernel
theorem ck_m_see : aCkM 164 K_m_see = true := by decide +kernel
theorem ck_m_isLetter : aCkM 165 K_m_isLetter = true := by decide +kernel
theorem ck_m_isDigit : aCkM 166 K_m_isDigit = true := by decide +kernel
theorem ck_m_is : aCkM 167 K_m_is = true := by decide +kernel
theorem ck_m_asked : aCkM 168 K_m_asked = true := by decide +kernel
theorem ck_m_lawWord : aCkM 169 K_m_lawWord = true := by decide +kernel
theorem ck_m_planWord : aCkM 170 K_m_planWord = true := by decide +kernel
theorem ck_m_word : aCkM 171 K_m_word = true := by decide +kernel
theorem ck_m_next0 : aCkM 172 K_m_next0 = true := by decide +kernel
theorem ck_m_bad : aCkM 173 K_m_bad = true := by decide +kernel
theorem ck_m_need : aCkM 174 K_m_need = true := by decide +kernel
theorem ck_m_lay : aCkM 175 K_m_lay = true := by decide +kernel
theorem ck_m_opens : aCkM 176 K_m_opens = true := by decide +kernel
theorem ck_m_sumUp : aCkM 177 K_m_sumUp = true := by decide +kernel
theorem ck_m_product : aCkM 178 K_m_product = true := by decide +kernel
theorem ck_m_unit : aCkM 179 K_m_unit = true := by decide +kernel
theorem ck_m_any : aCkM 180 K_m_any = true := by decide +kernel
theorem ck_m_every : aCkM 181 K_m_every = true := by decide +kernel
theorem ck_m_oneTest : aCkM 182 K_m_oneTest = true := by decide +kernel
theorem ck_m_aLine : aCkM 183 K_m_aLine = true := by decide +kernel
theorem ck_m_readsLaw : aCkM 184 K_m_readsLaw = true := by decide +kernel
theorem ck_m_number : aCkM 185 K_m_number = true := by decide +kernel
theorem ck_m_told : aCkM 186 K_m_told = true := by decide +kernel
theorem ck_m_aPlan : aCkM 187 K_m_aPlan = true := by decide +kernel
theorem ck_m_aDue : aCkM 188 K_m_aDue = true := by decide +kernel
theorem ck_m_aFeast : aCkM 189 K_m_aFeast = true := by decide +kernel
theorem ck_m_aRow : aCkM 190 K_m_aRow = true := by decide +kernel
theorem ck_m_readsRows : aCkM 191 K_m_readsRows = true := by decide +kernel
theorem ck_m_putsLaw : aCkM 192 K_m_putsLaw = true := by decide +kernel
theorem ck_m_puts : aCkM 193 K_m_puts = true := by decide +kernel
theorem ck_m_putsText : aCkM 194 K_m_putsText = true := by decide +kernel
theorem ck_m_text : aCkM 195 K_m_text = true := by decide +kernel
theorem ck_m_fault : aCkM 196 K_m_fault = true := by decide +kernel
theorem ck_m_both : aCkM 197 K_m_both = true := by decide +kernel
theorem ck_m_comesTo : aCkM 198 K_m_comesTo = true := by decide +kernel
theorem ck_m_isSo : aCkM 199 K_m_isSo = true := by decide +kernel
theorem ck_m_says : aCkM 200 K_m_says = true := by decide +kernel
theorem ck_m_comeOf : aCkM 201 K_m_comeOf = true := by decide +kernel
theorem ck_m_longOf : aCkM 202 K_m_longOf = true := by decide +kernel
theorem ck_m_shyOf : aCkM 203 K_m_shyOf = true := by decide +kernel
theorem ck_m_sumOfCome : aCkM 204 K_m_sumOfCome = true := by decide +kernel
theorem ck_m_likeliestOne : aCkM 205 K_m_likeliestOne = true := by decide +kernel
theorem ck_m_keeps : aCkM 206 K_m_keeps = true := by decide +kernel
theorem ck_m_undo : aCkM 207 K_m_undo = true := by decide +kernel
theorem ck_m_notes : aCkM 208 K_m_notes = true := by decide +kernel
theorem ck_m_eats : aCkM 209 K_m_eats = true := by decide +kernel
theorem ck_m_eat : aCkM 210 K_m_eat = true := by decide +kernel
theorem ck_m_does : aCkM 211 K_m_does = true := by decide +kernel
theorem ck_m_byDraw : aCkM 212 K_m_byDraw = true := by decide +kernel
theorem ck_m_dawns : aCkM 213 K_m_dawns = true := by decide +kernel
theorem ck_m_comes : aCkM 214 K_m_comes = true := by decide +kernel
theorem ck_m_pays : aCkM 215 K_m_pays = true := by decide +kernel
theorem ck_m_wolves : aCkM 216 K_m_wolves = true := by decide +kernel
theorem ck_m_aDay : aCkM 217 K_m_aDay = true := by decide +kernel
theorem ck_m_days : aCkM 218 K_m_days = true := by decide +kernel
theorem ck_m_waitFor : aCkM 219 K_m_waitFor = true := by decide +kernel
theorem ck_m_of : aCkM 220 K_m_of = true := by decide +kernel
theorem ck_m_due : aCkM 221 K_m_due = true := by decide +kernel
theorem ck_m_book : aCkM 222 K_m_book = true := by decide +kernel
theorem ck_m_nextOf : aCkM 223 K_m_nextOf = true := by decide +kernel
theorem ck_m_next : aCkM 224 K_m_next = true := by decide +kernel
theorem ck_m_likeliest : aCkM 225 K_m_likeliest = true := by decide +kernel
theorem ck_m_goes : aCkM 226 K_m_goes = true := by decide +kernel
theorem ck_m_reads : aCkM 227 K_m_reads = true := by decide +kernel
theorem ck_m_seen : aCkM 228 K_m_seen = true := by decide +kernel
theorem ck_m_laysAhead : aCkM 229 K_m_laysAhead = true := by decide +kernel
theorem ck_m_laysOrders : aCkM 230 K_m_laysOrders = true := by decide +kernel
theorem ck_m_waysWith : aCkM 231 K_m_waysWith = true := by decide +kernel
theorem ck_m_bestCouple : aCkM 232 K_m_bestCouple = true := by decide +kernel
theorem ck_m_firstOrder : aCkM 233 K_m_firstOrder = true := by decide +kernel
theorem ck_m_orders : aCkM 234 K_m_orders = true := by decide +kernel
theorem ck_m_canLie : aCkM 235 K_m_canLie = true := by decide +kernel
theorem ck_m_laysFeasts : aCkM 236 K_m_laysFeasts = true := by decide +kernel
theorem ck_m_moves : aCkM 237 K_m_moves = true := by decide +kernel
theorem ck_m_work : aCkM 238 K_m_work = true := by decide +kernel
theorem ck_m_laysHerd : aCkM 239 K_m_laysHerd = true := by decide +kernel
theorem ck_m_behind : aCkM 240 K_m_behind = true := by decide +kernel
theorem ck_m_inOrder : aCkM 241 K_m_inOrder = true := by decide +kernel
theorem ck_m_bestOrder : aCkM 242 K_m_bestOrder = true := by decide +kernel
theorem ck_m_works : aCkM 243 K_m_works = true := by decide +kernel
theorem ck_m_isGate : aCkM 244 K_m_isGate = true := by decide +kernel
theorem ck_m_gate : aCkM 245 K_m_gate = true := by decide +kernel
theorem ck_m_watches : aCkM 246 K_m_watches = true := by decide +kernel
theorem ck_m_watch : aCkM 247 K_m_watch = true := by decide +kernel
theorem ck_m_ate : aCkM 248 K_m_ate = true := by decide +kernel
theorem ck_m_laysAte : aCkM 249 K_m_laysAte = true := by decide +kernel
theorem ck_m_waysFrom : aCkM 250 K_m_waysFrom = true := by decide +kernel
theorem ck_m_sureOnes : aCkM 251 K_m_sureOnes = true := by decide +kernel
theorem ck_m_ways : aCkM 252 K_m_ways = true := by decide +kernel
theorem ck_m_vote : aCkM 253 K_m_vote = true := by decide +kernel
theorem ck_m_farFrom : aCkM 254 K_m_farFrom = true := by decide +kernel
theorem ck_m_votes : aCkM 255 K_m_votes = true := by decide +kernel
theorem ck_m_laysSalt : aCkM 256 K_m_laysSalt = true := by decide +kernel
theorem ck_m_salts : aCkM 257 K_m_salts = true := by decide +kernel
theorem ck_m_marked : aCkM 258 K_m_marked = true := by decide +kernel
theorem ck_m_nods : aCkM 259 K_m_nods = true := by decide +kernel
theorem ck_m_heapOf : aCkM 260 K_m_heapOf = true := by decide +kernel
theorem ck_m_game : aCkM 261 K_m_game = true := by decide +kernel
theorem ck_m_image : aCkM 262 K_m_image = true := by decide +kernel
theorem ck_m_look : aCkM 263 K_m_look = true := by decide +kernel
theorem ck_ji_bitCount : aCkM 264 K_ji_bitCount = true := by decide +kernel
theorem ck_jm_floorMod : aCkM 265 K_jm_floorMod = true := by decide +kernel
theorem ck_js_length : aCkM 266 K_js_length = true := by decide +kernel
theorem ck_js_charAt : aCkM 267 K_js_charAt = true := by decide +kernel
theorem ck_js_indexOf4 : aCkM 268 K_js_indexOf4 = true := by decide +kernel
theorem ck_js_indexOf5 : aCkM 269 K_js_indexOf5 = true := by decide +kernel
theorem ck_js_coder : aCkM 270 K_js_coder = true := by decide +kernel
theorem ck_js_isLatin1 : aCkM 271 K_js_isLatin1 = true := by decide +kernel
theorem ck_js_checkIndex : aCkM 272 K_js_checkIndex = true := by decide +kernel
theorem ck_jl_charAt : aCkM 273 K_jl_charAt = true := by decide +kernel
theorem ck_jl_canEncode : aCkM 274 K_jl_canEncode = true := by decide +kernel
theorem ck_jl_indexOf : aCkM 275 K_jl_indexOf = true := by decide +kernel
theorem ck_jl_indexOfChar : aCkM 276 K_jl_indexOfChar = true := by decide +kernel
theorem ck_ja_fillJ : aCkM 277 K_ja_fillJ = true := by decide +kernel
theorem ck_ja_fillI : aCkM 278 K_ja_fillI = true := by decide +kernel
theorem ck_jp_checkIndex : aCkM 279 K_jp_checkIndex = true := by decide +kernel
theorem ck_law_0 : K_lw_law_0.all (aCkE (aMe 280).2.2.2.2.2.2.2 (aMe 280).2.2.1 (aRt (aMe 280).2.2.2.1) (aMe 280).2.1) = true := by decide +kernel
theorem ck_law_1 : K_lw_law_1.all (aCkE (aMe 280).2.2.2.2.2.2.2 (aMe 280).2.2.1 (aRt (aMe 280).2.2.2.1) (aMe 280).2.1) = true := by decide +kernel
theorem ck_law_2 : K_lw_law_2.all (aCkE (aMe 280).2.2.2.2.2.2.2 (aMe 280).2.2.1 (aRt (aMe 280).2.2.2.1) (aMe 280).2.1) = true := by decide +kernel
theorem ck_law_3 : K_lw_law_3.all (aCkE (aMe 280).2.2.2.2.2.2.2 (aMe 280).2.2.1 (aRt (aMe 280).2.2.2.1) (aMe 280).2.1) = true := by decide +kernel
theorem ck_law_4 : K_lw_law_4.all (aCkE (aMe 280).2.2.2.2.2.2.2 (aMe 280).2.2.1 (aRt (aMe 280).2.2.2.1) (aMe 280).2.1) = true := by decide +kernel
theorem ck_law_5 : K_lw_law_5.all (aCkE (aMe 280).2.2.2.2.2.2.2 (aMe 280).2.2.1 (aRt (aMe 280).2.2.2.1) (aMe 280).2.1) = true := by decide +kernel
theorem ck_law_6 : K_lw_law_6.all (aCkE (aMe 280).2.2.2.2.2.2.2 (aMe 280).2.2.1 (aRt (aMe 280).2.2.2.1) (aMe 280).2.1) = true := by decide +kernel
theorem ck_law_7 : K_lw_law_7.all (aCkE (aMe 280).2.2.2.2.2.2.2 (aMe 280).2.2.1 (aRt (aMe 280).2.2.2.1) (aMe 280).2.1) = true := by decide +kernel
theorem ck_law_8 : K_lw_law_8.all (aCkE (aMe 280).2.2.2.2.2.2.2 (aMe 280).2.2.1 (aRt (aMe 280).2.2.2.1) (aMe 280).2.1) = true := by decide +kernel
theorem ck_law_9 : K_lw_law_9.all (aCkE (aMe 280).2.2.2.2.2.2.2 (aMe 280).2.2.1 (aRt (aMe 280).2.2.2.1) (aMe 280).2.1) = true := by decide +kernel
theorem ck_law_10 : K_lw_law_10.all (aCkE (aMe 280).2.2.2.2.2.2.2 (aMe 280).2.2.1 (aRt (aMe 280).2.2.2.1) (aMe 280).2.1) = true := by decide +kernel
theorem ck_law_11 : K_lw_law_11.all (aCkE (aMe 280).2.2.2.2.2.2.2 (aMe 280).2.2.1 (aRt (aMe 280).2.2.2.1) (aMe 280).2.1) = true := by decide +kernel
theorem ck_law_12 : K_lw_law_12.all (aCkE (aMe 280).2.2.2.2.2.2.2 (aMe 280).2.2.1 (aRt (aMe 280).2.2.2.1) (aMe 280).2.1) = true := by decide +kernel
theorem ck_law_13 : K_lw_law_13.all (aCkE (aMe 280).2.2.2.2.2.2.2 (aMe 280).2.2.1 (aRt (aMe 280).2.2.2.1) (aMe 280).2.1) = true := by decide +kernel
theorem ck_law_14 : K_lw_law_14.all (aCkE (aMe 280).2.2.2.2.2.2.2 (aMe 280).2.2.1 (aRt (aMe 280).2.2.2.1) (aMe 280).2.1) = true := by decide +kernel
theorem ck_law_15 : K_lw_law_15.all (aCkE (aMe 280).2.2.2.2.2.2.2 (aMe 280).2.2.1 (aRt (aMe 280).2.2.2.1) (aMe 280).2.1) = true := by decide +kernel
theorem ck_law_s : aSeq K_lw_law = true := by decide +kernel
theorem ck_lw_law : aCkM 280 K_lw_law = true := by
  unfold aCkM
  rw [ck_law_s, Bool.and_true]
  unfold K_lw_law
  simp only [List.all_append, ck_law_0, ck_law_1, ck_law_2, ck_law_3, ck_law_4, ck_law_5, ck_law_6, ck_law_7, ck_law_8, ck_law_9, ck_law_10, ck_law_11, ck_law_12, ck_law_13, ck_law_14, ck_law_15, Bool.and_true]
set_option maxRecDepth 100000 in
theorem aCk_all : ∀ y, y < 281 → aCkM y (aLkC aCodes y).2.2 = true := by
  have h : aAllP aCkM 0 aCodes := ⟨ck_acts_forget, ⟨ck_acts_keep, ⟨ck_acts_goBack, ⟨ck_labour_takeTurns, ⟨ck_labour_lengthOf, ⟨ck_labour_spotBehind, ⟨ck_labour_lastSpot, ⟨ck_labour_bestSpot, ⟨ck_labour_daysOf, ⟨ck_labour_deerOf, ⟨ck_law_emit, ⟨ck_law_tell, ⟨ck_law_held, ⟨ck_law_unsaid, ⟨ck_law_value, ⟨ck_law_joined, ⟨ck_law_clear, ⟨ck_law_copyFrom, ⟨ck_ord_howMany, ⟨ck_ord_herdSize, ⟨ck_ord_learn, ⟨ck_ord_canFollow, ⟨ck_ord_countUpTo, ⟨ck_ord_countBehind, ⟨ck_ord_countCouples, ⟨ck_ord_asks, ⟨ck_ord_placeOfFirst, ⟨ck_ord_leastToFollow, ⟨ck_rd_read, ⟨ck_rd_wordsOf, ⟨ck_rd_step, ⟨ck_rd_fail, ⟨ck_rd_take, ⟨ck_rd_takeNumber, ⟨ck_rd_planLine, ⟨ck_rd_dueLine, ⟨ck_rd_feastLine, ⟨ck_rd_lawLine, ⟨ck_rd_expression, ⟨ck_rd_operand, ⟨ck_rd_condition, ⟨ck_rd_openOne, ⟨ck_rd_comparison, ⟨ck_rd_goOnBehind, ⟨ck_rd_hold, ⟨ck_rd_lastWaiting, ⟨ck_rd_closeNots, ⟨ck_rd_joinDownTo, ⟨ck_rows_has, ⟨ck_rows_cell, ⟨ck_rows_put, ⟨ck_rows_tell, ⟨ck_rows_copyFrom, ⟨ck_tape_append, ⟨ck_tape_split, ⟨ck_tape_byteAt, ⟨ck_tape_addToken, ⟨ck_tape_behindRun, ⟨ck_tape_numberOf, ⟨ck_tape_wordToken, ⟨ck_tape_startsAt, ⟨ck_tape_isLetter, ⟨ck_tape_isDigit, ⟨ck_th_movedDays, ⟨ck_th_movedTo, ⟨ck_th_firstWay, ⟨ck_th_weighDay, ⟨ck_th_offerDay, ⟨ck_th_leastWatch, ⟨ck_th_watchesAll, ⟨ck_th_waysToHaveEaten, ⟨ck_th_waysFrom, ⟨ck_th_sureCouples, ⟨ck_th_nearestHour, ⟨ck_th_farness, ⟨ck_th_saltedSum, ⟨ck_th_saltGiven, ⟨ck_th_fewest, ⟨ck_th_giveSalts, ⟨ck_th_askGains, ⟨ck_th_addGains, ⟨ck_th_antlersOf, ⟨ck_th_antlersTaken, ⟨ck_wood_has, ⟨ck_wood_isAlive, ⟨ck_wood_isPaid, ⟨ck_wood_enter, ⟨ck_wood_draw, ⟨ck_wood_putFacts, ⟨ck_wood_bring, ⟨ck_wood_leastCalm, ⟨ck_wood_nearestTo, ⟨ck_wood_aliveWithMark, ⟨ck_wood_copyFrom, ⟨ck_world_asked, ⟨ck_world_comeWithSalt, ⟨ck_world_askComes, ⟨ck_world_likeliestDeer, ⟨ck_world_greatestCome, ⟨ck_world_likelihood, ⟨ck_world_eatOrFree, ⟨ck_world_passDay, ⟨ck_world_followPlan, ⟨ck_world_followLine, ⟨ck_world_dreamtDeer, ⟨ck_world_drawnDeer, ⟨ck_world_payDues, ⟨ck_world_sendWolves, ⟨ck_world_copyFrom, ⟨ck_x_state, ⟨ck_x_deer, ⟨ck_x_set, ⟨ck_x_eat, ⟨ck_x_days, ⟨ck_x_waitFor, ⟨ck_x_feed, ⟨ck_x_end, ⟨ck_x_text, ⟨ck_x_fault, ⟨ck_x_of, ⟨ck_x_due, ⟨ck_x_book, ⟨ck_x_next, ⟨ck_x_likeliest, ⟨ck_x_goes, ⟨ck_x_reads, ⟨ck_x_seen, ⟨ck_x_orders, ⟨ck_x_moves, ⟨ck_x_work, ⟨ck_x_works, ⟨ck_x_gate, ⟨ck_x_watch, ⟨ck_x_ate, ⟨ck_x_ways, ⟨ck_x_vote, ⟨ck_x_votes, ⟨ck_x_salts, ⟨ck_x_nods, ⟨ck_x_game, ⟨ck_x_undo, ⟨ck_x_image, ⟨ck_x_look, ⟨ck_x_within, ⟨ck_x_setWood, ⟨ck_x_setDeer, ⟨ck_x_takeText, ⟨ck_x_likelyWithin, ⟨ck_m_isIn, ⟨ck_m_lesser, ⟨ck_m_greater, ⟨ck_m_size, ⟨ck_m_isDeer, ⟨ck_m_isAlive, ⟨ck_m_count, ⟨ck_m_forgets, ⟨ck_m_state, ⟨ck_m_draw, ⟨ck_m_deer, ⟨ck_m_canSet, ⟨ck_m_placeOf, ⟨ck_m_set, ⟨ck_m_feed, ⟨ck_m_end, ⟨ck_m_see, ⟨ck_m_isLetter, ⟨ck_m_isDigit, ⟨ck_m_is, ⟨ck_m_asked, ⟨ck_m_lawWord, ⟨ck_m_planWord, ⟨ck_m_word, ⟨ck_m_next0, ⟨ck_m_bad, ⟨ck_m_need, ⟨ck_m_lay, ⟨ck_m_opens, ⟨ck_m_sumUp, ⟨ck_m_product, ⟨ck_m_unit, ⟨ck_m_any, ⟨ck_m_every, ⟨ck_m_oneTest, ⟨ck_m_aLine, ⟨ck_m_readsLaw, ⟨ck_m_number, ⟨ck_m_told, ⟨ck_m_aPlan, ⟨ck_m_aDue, ⟨ck_m_aFeast, ⟨ck_m_aRow, ⟨ck_m_readsRows, ⟨ck_m_putsLaw, ⟨ck_m_puts, ⟨ck_m_putsText, ⟨ck_m_text, ⟨ck_m_fault, ⟨ck_m_both, ⟨ck_m_comesTo, ⟨ck_m_isSo, ⟨ck_m_says, ⟨ck_m_comeOf, ⟨ck_m_longOf, ⟨ck_m_shyOf, ⟨ck_m_sumOfCome, ⟨ck_m_likeliestOne, ⟨ck_m_keeps, ⟨ck_m_undo, ⟨ck_m_notes, ⟨ck_m_eats, ⟨ck_m_eat, ⟨ck_m_does, ⟨ck_m_byDraw, ⟨ck_m_dawns, ⟨ck_m_comes, ⟨ck_m_pays, ⟨ck_m_wolves, ⟨ck_m_aDay, ⟨ck_m_days, ⟨ck_m_waitFor, ⟨ck_m_of, ⟨ck_m_due, ⟨ck_m_book, ⟨ck_m_nextOf, ⟨ck_m_next, ⟨ck_m_likeliest, ⟨ck_m_goes, ⟨ck_m_reads, ⟨ck_m_seen, ⟨ck_m_laysAhead, ⟨ck_m_laysOrders, ⟨ck_m_waysWith, ⟨ck_m_bestCouple, ⟨ck_m_firstOrder, ⟨ck_m_orders, ⟨ck_m_canLie, ⟨ck_m_laysFeasts, ⟨ck_m_moves, ⟨ck_m_work, ⟨ck_m_laysHerd, ⟨ck_m_behind, ⟨ck_m_inOrder, ⟨ck_m_bestOrder, ⟨ck_m_works, ⟨ck_m_isGate, ⟨ck_m_gate, ⟨ck_m_watches, ⟨ck_m_watch, ⟨ck_m_ate, ⟨ck_m_laysAte, ⟨ck_m_waysFrom, ⟨ck_m_sureOnes, ⟨ck_m_ways, ⟨ck_m_vote, ⟨ck_m_farFrom, ⟨ck_m_votes, ⟨ck_m_laysSalt, ⟨ck_m_salts, ⟨ck_m_marked, ⟨ck_m_nods, ⟨ck_m_heapOf, ⟨ck_m_game, ⟨ck_m_image, ⟨ck_m_look, ⟨ck_ji_bitCount, ⟨ck_jm_floorMod, ⟨ck_js_length, ⟨ck_js_charAt, ⟨ck_js_indexOf4, ⟨ck_js_indexOf5, ⟨ck_js_coder, ⟨ck_js_isLatin1, ⟨ck_js_checkIndex, ⟨ck_jl_charAt, ⟨ck_jl_canEncode, ⟨ck_jl_indexOf, ⟨ck_jl_indexOfChar, ⟨ck_ja_fillJ, ⟨ck_ja_fillI, ⟨ck_jp_checkIndex, ⟨ck_lw_law, trivial⟩⟩⟩⟩⟩⟩⟩⟩⟩⟩⟩⟩⟩⟩⟩⟩⟩⟩⟩⟩⟩⟩⟩⟩⟩⟩⟩⟩⟩⟩⟩⟩⟩⟩⟩⟩⟩⟩⟩⟩⟩⟩⟩⟩⟩⟩⟩⟩⟩⟩⟩⟩⟩⟩⟩⟩⟩⟩⟩⟩⟩⟩⟩⟩⟩⟩⟩⟩⟩⟩⟩⟩⟩⟩⟩⟩⟩⟩⟩⟩⟩⟩⟩⟩⟩⟩⟩⟩⟩⟩⟩⟩⟩⟩⟩⟩⟩⟩⟩⟩⟩⟩⟩⟩⟩⟩⟩⟩⟩⟩⟩⟩⟩⟩⟩⟩⟩⟩⟩⟩⟩⟩⟩⟩⟩⟩⟩⟩⟩⟩⟩⟩⟩⟩⟩⟩⟩⟩⟩⟩⟩⟩⟩⟩⟩⟩⟩⟩⟩⟩⟩⟩⟩⟩⟩⟩⟩⟩⟩⟩⟩⟩⟩⟩⟩⟩⟩⟩⟩⟩⟩⟩⟩⟩⟩⟩⟩⟩⟩⟩⟩⟩⟩⟩⟩⟩⟩⟩⟩⟩⟩⟩⟩⟩⟩⟩⟩⟩⟩⟩⟩⟩⟩⟩⟩⟩⟩⟩⟩⟩⟩⟩⟩⟩⟩⟩⟩⟩⟩⟩⟩⟩⟩⟩⟩⟩⟩⟩⟩⟩⟩⟩⟩⟩⟩⟩⟩⟩⟩⟩⟩⟩⟩⟩⟩⟩⟩⟩⟩⟩⟩⟩⟩⟩⟩⟩⟩⟩⟩⟩⟩⟩⟩⟩⟩⟩⟩⟩⟩⟩⟩⟩⟩⟩⟩⟩⟩⟩⟩⟩⟩
  intro y hy
  have := aAllP_get aCkM aCodes 0 h y hy
  rwa [Nat.zero_add] at this
