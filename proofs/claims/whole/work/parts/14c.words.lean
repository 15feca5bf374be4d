abbrev kX6_errandFrom : zK := (cX6_errandFrom, RX6, 6, (some .int), yX6_errandFrom)
theorem zmX6_errandFrom : zM kX6_errandFrom 4 := ⟨(z_mem (z_m5 39 rfl) rfl), (z_mem (z_m1 3 rfl) rfl), rfl, by decide +kernel, by decide +kernel, by decide +kernel, by decide +kernel, Nat.le_of_ble_eq_true rfl⟩
theorem ziX6_errandFrom : Cond.instanceMethod yX6_errandFrom ∈ zT := (z_mem (z_m5 37 rfl) rfl)
theorem zvX6_errandFrom : Cond.selects (zcR 6) yX6_errandFrom yX6_errandFrom ∈ zT := (z_mem (z_m5 38 rfl) rfl)
abbrev kX7_init : zK := (cX7_init, RX7, 1, none, yX7_init)
theorem zmX7_init : zM kX7_init 0 := ⟨(z_mem (z_m2 142 rfl) rfl), (z_mem (z_m1 12 rfl) rfl), rfl, by decide +kernel, by decide +kernel, by decide +kernel, by decide +kernel, Nat.le_of_ble_eq_true rfl⟩
theorem ziX7_init : Cond.instanceMethod yX7_init ∈ zT := (z_mem (z_m2 141 rfl) rfl)
abbrev kX7_look : zK := (cX7_look, RX7, 4, none, yX7_look)
theorem zmX7_look : zM kX7_look 2 := ⟨(z_mem (z_m4 201 rfl) rfl), (z_mem (z_m1 12 rfl) rfl), rfl, by decide +kernel, by decide +kernel, by decide +kernel, by decide +kernel, Nat.le_of_ble_eq_true rfl⟩
theorem ziX7_look : Cond.instanceMethod yX7_look ∈ zT := (z_mem (z_m4 199 rfl) rfl)
theorem zvX7_look : Cond.selects (zcR 7) yX7_look yX7_look ∈ zT := (z_mem (z_m4 200 rfl) rfl)
abbrev kX7_lookAt : zK := (cX7_lookAt, RX7, 8, none, yX7_lookAt)
theorem zmX7_lookAt : zM kX7_lookAt 2 := ⟨(z_mem (z_m4 211 rfl) rfl), (z_mem (z_m1 12 rfl) rfl), rfl, by decide +kernel, by decide +kernel, by decide +kernel, by decide +kernel, Nat.le_of_ble_eq_true rfl⟩
theorem ziX7_lookAt : Cond.instanceMethod yX7_lookAt ∈ zT := (z_mem (z_m4 210 rfl) rfl)
theorem zvX7_lookAt : Cond.selects (zcR 7) yX7_lookAt yX7_lookAt ∈ zT := (z_mem (z_m0 25 rfl) rfl)
abbrev kX7_countOrders : zK := (cX7_countOrders, RX7, 5, (some .int), yX7_countOrders)
theorem zmX7_countOrders : zM kX7_countOrders 0 := ⟨(z_mem (z_m4 221 rfl) rfl), (z_mem (z_m1 12 rfl) rfl), rfl, by decide +kernel, by decide +kernel, by decide +kernel, by decide +kernel, Nat.le_of_ble_eq_true rfl⟩
theorem ziX7_countOrders : Cond.instanceMethod yX7_countOrders ∈ zT := (z_mem (z_m4 219 rfl) rfl)
theorem zvX7_countOrders : Cond.selects (zcR 7) yX7_countOrders yX7_countOrders ∈ zT := (z_mem (z_m4 220 rfl) rfl)
abbrev kX7_findOrder : zK := (cX7_findOrder, RX7, 5, (some .boolean), yX7_findOrder)
theorem zmX7_findOrder : zM kX7_findOrder 1 := ⟨(z_mem (z_m4 229 rfl) rfl), (z_mem (z_m1 12 rfl) rfl), rfl, by decide +kernel, by decide +kernel, by decide +kernel, by decide +kernel, Nat.le_of_ble_eq_true rfl⟩
theorem ziX7_findOrder : Cond.instanceMethod yX7_findOrder ∈ zT := (z_mem (z_m4 227 rfl) rfl)
theorem zvX7_findOrder : Cond.selects (zcR 7) yX7_findOrder yX7_findOrder ∈ zT := (z_mem (z_m4 228 rfl) rfl)
abbrev kX7_firstFree : zK := (cX7_firstFree, RX7, 3, (some .int), yX7_firstFree)
theorem zmX7_firstFree : zM kX7_firstFree 1 := ⟨(z_mem (z_m4 233 rfl) rfl), (z_mem (z_m1 12 rfl) rfl), rfl, by decide +kernel, by decide +kernel, by decide +kernel, by decide +kernel, Nat.le_of_ble_eq_true rfl⟩
theorem ziX7_firstFree : Cond.instanceMethod yX7_firstFree ∈ zT := (z_mem (z_m4 232 rfl) rfl)
theorem zvX7_firstFree : Cond.selects (zcR 7) yX7_firstFree yX7_firstFree ∈ zT := (z_mem (z_m0 26 rfl) rfl)
abbrev kX7_fewestCuts : zK := (cX7_fewestCuts, RX7, 5, (some .int), yX7_fewestCuts)
theorem zmX7_fewestCuts : zM kX7_fewestCuts 2 := ⟨(z_mem (z_m5 7 rfl) rfl), (z_mem (z_m1 12 rfl) rfl), rfl, by decide +kernel, by decide +kernel, by decide +kernel, by decide +kernel, Nat.le_of_ble_eq_true rfl⟩
theorem ziX7_fewestCuts : Cond.instanceMethod yX7_fewestCuts ∈ zT := (z_mem (z_m5 5 rfl) rfl)
theorem zvX7_fewestCuts : Cond.selects (zcR 7) yX7_fewestCuts yX7_fewestCuts ∈ zT := (z_mem (z_m5 6 rfl) rfl)
abbrev kX7_isLess : zK := (cX7_isLess, RX7, 5, (some .boolean), yX7_isLess)
theorem zmX7_isLess : zM kX7_isLess 4 := ⟨(z_mem (z_m5 11 rfl) rfl), (z_mem (z_m1 12 rfl) rfl), rfl, by decide +kernel, by decide +kernel, by decide +kernel, by decide +kernel, Nat.le_of_ble_eq_true rfl⟩
theorem zsX7_isLess : Cond.static yX7_isLess ∈ zT := (z_mem (z_m5 10 rfl) rfl)
abbrev kX7_widened : zK := (cX7_widened, RX7, 4, (some .int), yX7_widened)
theorem zmX7_widened : zM kX7_widened 1 := ⟨(z_mem (z_m5 169 rfl) rfl), (z_mem (z_m1 12 rfl) rfl), rfl, by decide +kernel, by decide +kernel, by decide +kernel, by decide +kernel, Nat.le_of_ble_eq_true rfl⟩
theorem ziX7_widened : Cond.instanceMethod yX7_widened ∈ zT := (z_mem (z_m5 168 rfl) rfl)
theorem zvX7_widened : Cond.selects (zcR 7) yX7_widened yX7_widened ∈ zT := (z_mem (z_m0 32 rfl) rfl)
abbrev kX7_countLinks : zK := (cX7_countLinks, RX7, 5, (some .int), yX7_countLinks)
theorem zmX7_countLinks : zM kX7_countLinks 2 := ⟨(z_mem (z_m5 165 rfl) rfl), (z_mem (z_m1 12 rfl) rfl), rfl, by decide +kernel, by decide +kernel, by decide +kernel, by decide +kernel, Nat.le_of_ble_eq_true rfl⟩
theorem ziX7_countLinks : Cond.instanceMethod yX7_countLinks ∈ zT := (z_mem (z_m5 163 rfl) rfl)
theorem zvX7_countLinks : Cond.selects (zcR 7) yX7_countLinks yX7_countLinks ∈ zT := (z_mem (z_m5 164 rfl) rfl)
abbrev kX7_countRounds : zK := (cX7_countRounds, RX7, 5, (some .int), yX7_countRounds)
theorem zmX7_countRounds : zM kX7_countRounds 0 := ⟨(z_mem (z_m5 177 rfl) rfl), (z_mem (z_m1 12 rfl) rfl), rfl, by decide +kernel, by decide +kernel, by decide +kernel, by decide +kernel, Nat.le_of_ble_eq_true rfl⟩
theorem ziX7_countRounds : Cond.instanceMethod yX7_countRounds ∈ zT := (z_mem (z_m5 175 rfl) rfl)
theorem zvX7_countRounds : Cond.selects (zcR 7) yX7_countRounds yX7_countRounds ∈ zT := (z_mem (z_m5 176 rfl) rfl)
abbrev kX7_mostCrowded : zK := (cX7_mostCrowded, RX7, 5, (some .int), yX7_mostCrowded)
theorem zmX7_mostCrowded : zM kX7_mostCrowded 2 := ⟨(z_mem (z_m5 185 rfl) rfl), (z_mem (z_m1 12 rfl) rfl), rfl, by decide +kernel, by decide +kernel, by decide +kernel, by decide +kernel, Nat.le_of_ble_eq_true rfl⟩
theorem ziX7_mostCrowded : Cond.instanceMethod yX7_mostCrowded ∈ zT := (z_mem (z_m5 183 rfl) rfl)
theorem zvX7_mostCrowded : Cond.selects (zcR 7) yX7_mostCrowded yX7_mostCrowded ∈ zT := (z_mem (z_m5 184 rfl) rfl)
abbrev kX7_visit : zK := (cX7_visit, RX7, 7, none, yX7_visit)
theorem zmX7_visit : zM kX7_visit 3 := ⟨(z_mem (z_m5 189 rfl) rfl), (z_mem (z_m1 12 rfl) rfl), rfl, by decide +kernel, by decide +kernel, by decide +kernel, by decide +kernel, Nat.le_of_ble_eq_true rfl⟩
theorem ziX7_visit : Cond.instanceMethod yX7_visit ∈ zT := (z_mem (z_m5 188 rfl) rfl)
theorem zvX7_visit : Cond.selects (zcR 7) yX7_visit yX7_visit ∈ zT := (z_mem (z_m0 33 rfl) rfl)
abbrev kX8_init : zK := (cX8_init, RX8, 5, none, yX8_init)
theorem zmX8_init : zM kX8_init 0 := ⟨(z_mem (z_m1 169 rfl) rfl), (z_mem (z_m1 5 rfl) rfl), rfl, by decide +kernel, by decide +kernel, by decide +kernel, by decide +kernel, Nat.le_of_ble_eq_true rfl⟩
theorem ziX8_init : Cond.instanceMethod yX8_init ∈ zT := (z_mem (z_m1 168 rfl) rfl)
abbrev kX8_nameAt : zK := (cX8_nameAt, RX8, 2, (some .long), yX8_nameAt)
theorem zmX8_nameAt : zM kX8_nameAt 1 := ⟨(z_mem (z_m3 156 rfl) rfl), (z_mem (z_m1 5 rfl) rfl), rfl, by decide +kernel, by decide +kernel, by decide +kernel, by decide +kernel, Nat.le_of_ble_eq_true rfl⟩
theorem ziX8_nameAt : Cond.instanceMethod yX8_nameAt ∈ zT := (z_mem (z_m3 154 rfl) rfl)
theorem zvX8_nameAt : Cond.selects (zcR 8) yX8_nameAt yX8_nameAt ∈ zT := (z_mem (z_m3 155 rfl) rfl)
abbrev kX8_split : zK := (cX8_split, RX8, 7, none, yX8_split)
theorem zmX8_split : zM kX8_split 2 := ⟨(z_mem (z_m3 87 rfl) rfl), (z_mem (z_m1 5 rfl) rfl), rfl, by decide +kernel, by decide +kernel, by decide +kernel, by decide +kernel, Nat.le_of_ble_eq_true rfl⟩
theorem ziX8_split : Cond.instanceMethod yX8_split ∈ zT := (z_mem (z_m3 85 rfl) rfl)
theorem zvX8_split : Cond.selects (zcR 8) yX8_split yX8_split ∈ zT := (z_mem (z_m3 86 rfl) rfl)
abbrev kX8_afterBlanks : zK := (cX8_afterBlanks, RX8, 4, (some .int), yX8_afterBlanks)
theorem zmX8_afterBlanks : zM kX8_afterBlanks 3 := ⟨(z_mem (z_m3 90 rfl) rfl), (z_mem (z_m1 5 rfl) rfl), rfl, by decide +kernel, by decide +kernel, by decide +kernel, by decide +kernel, Nat.le_of_ble_eq_true rfl⟩
theorem zsX8_afterBlanks : Cond.static yX8_afterBlanks ∈ zT := (z_mem (z_m3 89 rfl) rfl)
abbrev kX8_tokenEnd : zK := (cX8_tokenEnd, RX8, 4, (some .int), yX8_tokenEnd)
theorem zmX8_tokenEnd : zM kX8_tokenEnd 3 := ⟨(z_mem (z_m3 99 rfl) rfl), (z_mem (z_m1 5 rfl) rfl), rfl, by decide +kernel, by decide +kernel, by decide +kernel, by decide +kernel, Nat.le_of_ble_eq_true rfl⟩
theorem zsX8_tokenEnd : Cond.static yX8_tokenEnd ∈ zT := (z_mem (z_m3 98 rfl) rfl)
abbrev kX8_kindOf : zK := (cX8_kindOf, RX8, 7, (some .int), yX8_kindOf)
theorem zmX8_kindOf : zM kX8_kindOf 3 := ⟨(z_mem (z_m3 109 rfl) rfl), (z_mem (z_m1 5 rfl) rfl), rfl, by decide +kernel, by decide +kernel, by decide +kernel, by decide +kernel, Nat.le_of_ble_eq_true rfl⟩
theorem ziX8_kindOf : Cond.instanceMethod yX8_kindOf ∈ zT := (z_mem (z_m3 108 rfl) rfl)
theorem zvX8_kindOf : Cond.selects (zcR 8) yX8_kindOf yX8_kindOf ∈ zT := (z_mem (z_m0 1 rfl) rfl)
abbrev kX8_wordKind : zK := (cX8_wordKind, RX8, 7, (some .int), yX8_wordKind)
theorem zmX8_wordKind : zM kX8_wordKind 3 := ⟨(z_mem (z_m3 113 rfl) rfl), (z_mem (z_m1 5 rfl) rfl), rfl, by decide +kernel, by decide +kernel, by decide +kernel, by decide +kernel, Nat.le_of_ble_eq_true rfl⟩
theorem ziX8_wordKind : Cond.instanceMethod yX8_wordKind ∈ zT := (z_mem (z_m3 112 rfl) rfl)
theorem zvX8_wordKind : Cond.selects (zcR 8) yX8_wordKind yX8_wordKind ∈ zT := (z_mem (z_m0 2 rfl) rfl)
abbrev kX8_intKind : zK := (cX8_intKind, RX8, 6, (some .int), yX8_intKind)
theorem zmX8_intKind : zM kX8_intKind 3 := ⟨(z_mem (z_m3 117 rfl) rfl), (z_mem (z_m1 5 rfl) rfl), rfl, by decide +kernel, by decide +kernel, by decide +kernel, by decide +kernel, Nat.le_of_ble_eq_true rfl⟩
theorem ziX8_intKind : Cond.instanceMethod yX8_intKind ∈ zT := (z_mem (z_m3 116 rfl) rfl)
theorem zvX8_intKind : Cond.selects (zcR 8) yX8_intKind yX8_intKind ∈ zT := (z_mem (z_m0 3 rfl) rfl)
abbrev kX8_isBlank : zK := (cX8_isBlank, RX8, 1, (some .boolean), yX8_isBlank)
theorem zmX8_isBlank : zM kX8_isBlank 1 := ⟨(z_mem (z_m3 96 rfl) rfl), (z_mem (z_m1 5 rfl) rfl), rfl, by decide +kernel, by decide +kernel, by decide +kernel, by decide +kernel, Nat.le_of_ble_eq_true rfl⟩
theorem zsX8_isBlank : Cond.static yX8_isBlank ∈ zT := (z_mem (z_m3 95 rfl) rfl)
abbrev kX8_isLetter : zK := (cX8_isLetter, RX8, 1, (some .boolean), yX8_isLetter)
theorem zmX8_isLetter : zM kX8_isLetter 1 := ⟨(z_mem (z_m3 102 rfl) rfl), (z_mem (z_m1 5 rfl) rfl), rfl, by decide +kernel, by decide +kernel, by decide +kernel, by decide +kernel, Nat.le_of_ble_eq_true rfl⟩
theorem zsX8_isLetter : Cond.static yX8_isLetter ∈ zT := (z_mem (z_m3 101 rfl) rfl)
abbrev kX8_isDigit : zK := (cX8_isDigit, RX8, 1, (some .boolean), yX8_isDigit)
theorem zmX8_isDigit : zM kX8_isDigit 1 := ⟨(z_mem (z_m3 105 rfl) rfl), (z_mem (z_m1 5 rfl) rfl), rfl, by decide +kernel, by decide +kernel, by decide +kernel, by decide +kernel, Nat.le_of_ble_eq_true rfl⟩
theorem zsX8_isDigit : Cond.static yX8_isDigit ∈ zT := (z_mem (z_m3 104 rfl) rfl)
abbrev kX9_init : zK := (cX9_init, RX9, 1, none, yX9_init)
theorem zmX9_init : zM kX9_init 0 := ⟨(z_mem (z_m2 226 rfl) rfl), (z_mem (z_m1 16 rfl) rfl), rfl, by decide +kernel, by decide +kernel, by decide +kernel, by decide +kernel, Nat.le_of_ble_eq_true rfl⟩
theorem ziX9_init : Cond.instanceMethod yX9_init ∈ zT := (z_mem (z_m2 225 rfl) rfl)
abbrev kX9_add : zK := (cX9_add, RX9, 4, (some .int), yX9_add)
theorem zmX9_add : zM kX9_add 3 := ⟨(z_mem (z_m6 11 rfl) rfl), (z_mem (z_m1 16 rfl) rfl), rfl, by decide +kernel, by decide +kernel, by decide +kernel, by decide +kernel, Nat.le_of_ble_eq_true rfl⟩
theorem ziX9_add : Cond.instanceMethod yX9_add ∈ zT := (z_mem (z_m6 9 rfl) rfl)
theorem zvX9_add : Cond.selects (zcR 9) yX9_add yX9_add ∈ zT := (z_mem (z_m6 10 rfl) rfl)
abbrev kX9_countRows : zK := (cX9_countRows, RX9, 9, (some .int), yX9_countRows)
theorem zmX9_countRows : zM kX9_countRows 5 := ⟨(z_mem (z_m6 24 rfl) rfl), (z_mem (z_m1 16 rfl) rfl), rfl, by decide +kernel, by decide +kernel, by decide +kernel, by decide +kernel, Nat.le_of_ble_eq_true rfl⟩
theorem ziX9_countRows : Cond.instanceMethod yX9_countRows ∈ zT := (z_mem (z_m6 22 rfl) rfl)
theorem zvX9_countRows : Cond.selects (zcR 9) yX9_countRows yX9_countRows ∈ zT := (z_mem (z_m6 23 rfl) rfl)
abbrev kX9_play : zK := (cX9_play, RX9, 6, none, yX9_play)
theorem zmX9_play : zM kX9_play 3 := ⟨(z_mem (z_m6 29 rfl) rfl), (z_mem (z_m1 16 rfl) rfl), rfl, by decide +kernel, by decide +kernel, by decide +kernel, by decide +kernel, Nat.le_of_ble_eq_true rfl⟩
theorem ziX9_play : Cond.instanceMethod yX9_play ∈ zT := (z_mem (z_m6 28 rfl) rfl)
theorem zvX9_play : Cond.selects (zcR 9) yX9_play yX9_play ∈ zT := (z_mem (z_m0 39 rfl) rfl)
abbrev kX9_fits : zK := (cX9_fits, RX9, 5, (some .boolean), yX9_fits)
theorem zmX9_fits : zM kX9_fits 2 := ⟨(z_mem (z_m6 36 rfl) rfl), (z_mem (z_m1 16 rfl) rfl), rfl, by decide +kernel, by decide +kernel, by decide +kernel, by decide +kernel, Nat.le_of_ble_eq_true rfl⟩
theorem ziX9_fits : Cond.instanceMethod yX9_fits ∈ zT := (z_mem (z_m6 35 rfl) rfl)
theorem zvX9_fits : Cond.selects (zcR 9) yX9_fits yX9_fits ∈ zT := (z_mem (z_m0 40 rfl) rfl)
abbrev kX9_advance : zK := (cX9_advance, RX9, 4, none, yX9_advance)
theorem zmX9_advance : zM kX9_advance 2 := ⟨(z_mem (z_m6 41 rfl) rfl), (z_mem (z_m1 16 rfl) rfl), rfl, by decide +kernel, by decide +kernel, by decide +kernel, by decide +kernel, Nat.le_of_ble_eq_true rfl⟩
theorem ziX9_advance : Cond.instanceMethod yX9_advance ∈ zT := (z_mem (z_m6 40 rfl) rfl)
theorem zvX9_advance : Cond.selects (zcR 9) yX9_advance yX9_advance ∈ zT := (z_mem (z_m0 41 rfl) rfl)
abbrev kX10_init : zK := (cX10_init, RX10, 1, none, yX10_init)
theorem zmX10_init : zM kX10_init 0 := ⟨(z_mem (z_m2 172 rfl) rfl), (z_mem (z_m1 13 rfl) rfl), rfl, by decide +kernel, by decide +kernel, by decide +kernel, by decide +kernel, Nat.le_of_ble_eq_true rfl⟩
theorem ziX10_init : Cond.instanceMethod yX10_init ∈ zT := (z_mem (z_m2 171 rfl) rfl)
abbrev kX10_prepare : zK := (cX10_prepare, RX10, 9, none, yX10_prepare)
theorem zmX10_prepare : zM kX10_prepare 2 := ⟨(z_mem (z_m5 25 rfl) rfl), (z_mem (z_m1 13 rfl) rfl), rfl, by decide +kernel, by decide +kernel, by decide +kernel, by decide +kernel, Nat.le_of_ble_eq_true rfl⟩
theorem ziX10_prepare : Cond.instanceMethod yX10_prepare ∈ zT := (z_mem (z_m5 23 rfl) rfl)
theorem zvX10_prepare : Cond.selects (zcR 10) yX10_prepare yX10_prepare ∈ zT := (z_mem (z_m5 24 rfl) rfl)
abbrev kX10_nextOf : zK := (cX10_nextOf, RX10, 10, (some .int), yX10_nextOf)
theorem zmX10_nextOf : zM kX10_nextOf 5 := ⟨(z_mem (z_m5 34 rfl) rfl), (z_mem (z_m1 13 rfl) rfl), rfl, by decide +kernel, by decide +kernel, by decide +kernel, by decide +kernel, Nat.le_of_ble_eq_true rfl⟩
theorem ziX10_nextOf : Cond.instanceMethod yX10_nextOf ∈ zT := (z_mem (z_m5 33 rfl) rfl)
theorem zvX10_nextOf : Cond.selects (zcR 10) yX10_nextOf yX10_nextOf ∈ zT := (z_mem (z_m0 28 rfl) rfl)
abbrev kX10_cheapest : zK := (cX10_cheapest, RX10, 7, (some .int), yX10_cheapest)
theorem zmX10_cheapest : zM kX10_cheapest 5 := ⟨(z_mem (z_m5 30 rfl) rfl), (z_mem (z_m1 13 rfl) rfl), rfl, by decide +kernel, by decide +kernel, by decide +kernel, by decide +kernel, Nat.le_of_ble_eq_true rfl⟩
theorem ziX10_cheapest : Cond.instanceMethod yX10_cheapest ∈ zT := (z_mem (z_m5 29 rfl) rfl)
theorem zvX10_cheapest : Cond.selects (zcR 10) yX10_cheapest yX10_cheapest ∈ zT := (z_mem (z_m0 27 rfl) rfl)
abbrev kX10_fewest : zK := (cX10_fewest, RX10, 5, (some .int), yX10_fewest)
theorem zmX10_fewest : zM kX10_fewest 4 := ⟨(z_mem (z_m5 45 rfl) rfl), (z_mem (z_m1 13 rfl) rfl), rfl, by decide +kernel, by decide +kernel, by decide +kernel, by decide +kernel, Nat.le_of_ble_eq_true rfl⟩
theorem ziX10_fewest : Cond.instanceMethod yX10_fewest ∈ zT := (z_mem (z_m5 43 rfl) rfl)
theorem zvX10_fewest : Cond.selects (zcR 10) yX10_fewest yX10_fewest ∈ zT := (z_mem (z_m5 44 rfl) rfl)
abbrev kX10_findOrder : zK := (cX10_findOrder, RX10, 8, none, yX10_findOrder)
theorem zmX10_findOrder : zM kX10_findOrder 2 := ⟨(z_mem (z_m5 53 rfl) rfl), (z_mem (z_m1 13 rfl) rfl), rfl, by decide +kernel, by decide +kernel, by decide +kernel, by decide +kernel, Nat.le_of_ble_eq_true rfl⟩
theorem ziX10_findOrder : Cond.instanceMethod yX10_findOrder ∈ zT := (z_mem (z_m5 51 rfl) rfl)
theorem zvX10_findOrder : Cond.selects (zcR 10) yX10_findOrder yX10_findOrder ∈ zT := (z_mem (z_m5 52 rfl) rfl)
abbrev kX10_countHomes : zK := (cX10_countHomes, RX10, 7, (some .int), yX10_countHomes)
theorem zmX10_countHomes : zM kX10_countHomes 2 := ⟨(z_mem (z_m5 61 rfl) rfl), (z_mem (z_m1 13 rfl) rfl), rfl, by decide +kernel, by decide +kernel, by decide +kernel, by decide +kernel, Nat.le_of_ble_eq_true rfl⟩
theorem ziX10_countHomes : Cond.instanceMethod yX10_countHomes ∈ zT := (z_mem (z_m5 59 rfl) rfl)
theorem zvX10_countHomes : Cond.selects (zcR 10) yX10_countHomes yX10_countHomes ∈ zT := (z_mem (z_m5 60 rfl) rfl)
abbrev kJ6_bitCount_0f7a4 : zK := (cJ6_bitCount_0f7a4, RJ6, 1, (some .int), yJ6_bitCount_0f7a4)
theorem zmJ6_bitCount_0f7a4 : zM kJ6_bitCount_0f7a4 1 := ⟨(z_mem (z_m4 236 rfl) rfl), (z_mem (z_m1 21 rfl) rfl), rfl, by decide +kernel, by decide +kernel, by decide +kernel, by decide +kernel, Nat.le_of_ble_eq_true rfl⟩
theorem zsJ6_bitCount_0f7a4 : Cond.static yJ6_bitCount_0f7a4 ∈ zT := (z_mem (z_m4 235 rfl) rfl)
abbrev kJ9_abs_0f7a4 : zK := (cJ9_abs_0f7a4, RJ9, 1, (some .int), yJ9_abs_0f7a4)
abbrev kJ9_max_7cf53 : zK := (cJ9_max_7cf53, RJ9, 2, (some .int), yJ9_max_7cf53)
abbrev kJ9_min_7cf53 : zK := (cJ9_min_7cf53, RJ9, 2, (some .int), yJ9_min_7cf53)
abbrev kJ0_length_8abf5 : zK := (cJ0_length_8abf5, RJ0, 1, (some .int), yJ0_length_8abf5)
theorem zmJ0_length_8abf5 : zM kJ0_length_8abf5 0 := ⟨(z_mem (z_m1 175 rfl) rfl), (z_mem (z_m1 6 rfl) rfl), rfl, by decide +kernel, by decide +kernel, by decide +kernel, by decide +kernel, Nat.le_of_ble_eq_true rfl⟩
theorem ziJ0_length_8abf5 : Cond.instanceMethod yJ0_length_8abf5 ∈ zT := (z_mem (z_m1 173 rfl) rfl)
theorem zvJ0_length_8abf5 : Cond.selects "java/lang/String" yJ0_length_8abf5 yJ0_length_8abf5 ∈ zT := (z_mem (z_m1 174 rfl) rfl)
abbrev kJ0_charAt_5068e : zK := (cJ0_charAt_5068e, RJ0, 2, (some .char), yJ0_charAt_5068e)
theorem zmJ0_charAt_5068e : zM kJ0_charAt_5068e 1 := ⟨(z_mem (z_m1 185 rfl) rfl), (z_mem (z_m1 6 rfl) rfl), rfl, by decide +kernel, by decide +kernel, by decide +kernel, by decide +kernel, Nat.le_of_ble_eq_true rfl⟩
theorem ziJ0_charAt_5068e : Cond.instanceMethod yJ0_charAt_5068e ∈ zT := (z_mem (z_m1 183 rfl) rfl)
theorem zvJ0_charAt_5068e : Cond.selects "java/lang/String" yJ0_charAt_5068e yJ0_charAt_5068e ∈ zT := (z_mem (z_m1 184 rfl) rfl)
abbrev kJ0_coder_7d493 : zK := (cJ0_coder_7d493, RJ0, 1, (some .byte), yJ0_coder_7d493)
theorem zmJ0_coder_7d493 : zM kJ0_coder_7d493 0 := ⟨(z_mem (z_m1 179 rfl) rfl), (z_mem (z_m1 6 rfl) rfl), rfl, by decide +kernel, by decide +kernel, by decide +kernel, by decide +kernel, Nat.le_of_ble_eq_true rfl⟩
theorem ziJ0_coder_7d493 : Cond.instanceMethod yJ0_coder_7d493 ∈ zT := (z_mem (z_m1 177 rfl) rfl)
theorem zvJ0_coder_7d493 : Cond.selects "java/lang/String" yJ0_coder_7d493 yJ0_coder_7d493 ∈ zT := (z_mem (z_m1 178 rfl) rfl)
abbrev kJ0_isLatin1_aae02 : zK := (cJ0_isLatin1_aae02, RJ0, 1, (some .boolean), yJ0_isLatin1_aae02)
theorem zmJ0_isLatin1_aae02 : zM kJ0_isLatin1_aae02 0 := ⟨(z_mem (z_m1 189 rfl) rfl), (z_mem (z_m1 6 rfl) rfl), rfl, by decide +kernel, by decide +kernel, by decide +kernel, by decide +kernel, Nat.le_of_ble_eq_true rfl⟩
theorem ziJ0_isLatin1_aae02 : Cond.instanceMethod yJ0_isLatin1_aae02 ∈ zT := (z_mem (z_m1 187 rfl) rfl)
theorem zvJ0_isLatin1_aae02 : Cond.selects "java/lang/String" yJ0_isLatin1_aae02 yJ0_isLatin1_aae02 ∈ zT := (z_mem (z_m1 188 rfl) rfl)
abbrev kJ0_checkIndex_df160 : zK := (cJ0_checkIndex_df160, RJ0, 2, none, yJ0_checkIndex_df160)
theorem zmJ0_checkIndex_df160 : zM kJ0_checkIndex_df160 2 := ⟨(z_mem (z_m1 195 rfl) rfl), (z_mem (z_m1 6 rfl) rfl), rfl, by decide +kernel, by decide +kernel, by decide +kernel, by decide +kernel, Nat.le_of_ble_eq_true rfl⟩
theorem zsJ0_checkIndex_df160 : Cond.static yJ0_checkIndex_df160 ∈ zT := (z_mem (z_m1 194 rfl) rfl)
abbrev kJ1_charAt_3b067 : zK := (cJ1_charAt_3b067, RJ1, 2, (some .char), yJ1_charAt_3b067)
theorem zmJ1_charAt_3b067 : zM kJ1_charAt_3b067 2 := ⟨(z_mem (z_m1 192 rfl) rfl), (z_mem (z_m1 7 rfl) rfl), rfl, by decide +kernel, by decide +kernel, by decide +kernel, by decide +kernel, Nat.le_of_ble_eq_true rfl⟩
theorem zsJ1_charAt_3b067 : Cond.static yJ1_charAt_3b067 ∈ zT := (z_mem (z_m1 191 rfl) rfl)
abbrev kJ2_getChar_3b067 : zK := (cJ2_getChar_3b067, RJ2, 2, (some .char), yJ2_getChar_3b067)
theorem zmJ2_getChar_3b067 : zM kJ2_getChar_3b067 2 := ⟨(z_mem (z_m1 213 rfl) rfl), (z_mem (z_m1 9 rfl) rfl), rfl, by decide +kernel, by decide +kernel, by decide +kernel, by decide +kernel, Nat.le_of_ble_eq_true rfl⟩
theorem zsJ2_getChar_3b067 : Cond.static yJ2_getChar_3b067 ∈ zT := (z_mem (z_m1 212 rfl) rfl)
abbrev kJ2_length_9d52b : zK := (cJ2_length_9d52b, RJ2, 1, (some .int), yJ2_length_9d52b)
theorem zmJ2_length_9d52b : zM kJ2_length_9d52b 1 := ⟨(z_mem (z_m1 209 rfl) rfl), (z_mem (z_m1 9 rfl) rfl), rfl, by decide +kernel, by decide +kernel, by decide +kernel, by decide +kernel, Nat.le_of_ble_eq_true rfl⟩
theorem zsJ2_length_9d52b : Cond.static yJ2_length_9d52b ∈ zT := (z_mem (z_m1 208 rfl) rfl)
abbrev kJ2_charAt_3b067 : zK := (cJ2_charAt_3b067, RJ2, 2, (some .char), yJ2_charAt_3b067)
theorem zmJ2_charAt_3b067 : zM kJ2_charAt_3b067 2 := ⟨(z_mem (z_m1 203 rfl) rfl), (z_mem (z_m1 9 rfl) rfl), rfl, by decide +kernel, by decide +kernel, by decide +kernel, by decide +kernel, Nat.le_of_ble_eq_true rfl⟩
theorem zsJ2_charAt_3b067 : Cond.static yJ2_charAt_3b067 ∈ zT := (z_mem (z_m1 202 rfl) rfl)
abbrev kJ2_checkIndex_2214a : zK := (cJ2_checkIndex_2214a, RJ2, 2, none, yJ2_checkIndex_2214a)
theorem zmJ2_checkIndex_2214a : zM kJ2_checkIndex_2214a 2 := ⟨(z_mem (z_m1 206 rfl) rfl), (z_mem (z_m1 9 rfl) rfl), rfl, by decide +kernel, by decide +kernel, by decide +kernel, by decide +kernel, Nat.le_of_ble_eq_true rfl⟩
theorem zsJ2_checkIndex_2214a : Cond.static yJ2_checkIndex_2214a ∈ zT := (z_mem (z_m1 205 rfl) rfl)
abbrev kJ7_fill_53178 : zK := (cJ7_fill_53178, RJ7, 4, none, yJ7_fill_53178)
theorem zmJ7_fill_53178 : zM kJ7_fill_53178 2 := ⟨(z_mem (z_m3 20 rfl) rfl), (z_mem (z_m1 19 rfl) rfl), rfl, by decide +kernel, by decide +kernel, by decide +kernel, by decide +kernel, Nat.le_of_ble_eq_true rfl⟩
theorem zsJ7_fill_53178 : Cond.static yJ7_fill_53178 ∈ zT := (z_mem (z_m3 19 rfl) rfl)
abbrev kJ3_checkIndex_8e157 : zK := (cJ3_checkIndex_8e157, RJ3, 3, (some .int), yJ3_checkIndex_8e157)
theorem zmJ3_checkIndex_8e157 : zM kJ3_checkIndex_8e157 3 := ⟨(z_mem (z_m1 200 rfl) rfl), (z_mem (z_m1 8 rfl) rfl), rfl, by decide +kernel, by decide +kernel, by decide +kernel, by decide +kernel, Nat.le_of_ble_eq_true rfl⟩
theorem zsJ3_checkIndex_8e157 : Cond.static yJ3_checkIndex_8e157 ∈ zT := (z_mem (z_m1 199 rfl) rfl)
theorem zl_RX11_3 : Cond.methodLink RX11 3 objectInit ∈ zT := (z_mem (z_m1 27 rfl) rfl)
theorem wp_RX11_9 (k0 : zK) (h : k0.2.2.2.2.name = "<init>") : zFput RX11 9 11 0 k0 := ⟨by decide, by decide, (z_mem (z_m3 21 rfl) rfl), Or.inr ⟨h, by decide +kernel⟩⟩
theorem wp_RX11_13 (k0 : zK) : zFput RX11 13 11 2 k0 := ⟨by decide, by decide, (z_mem (z_m3 23 rfl) rfl), Or.inl (by decide +kernel)⟩
theorem zn_RX11_17 : Cond.classLink RX11 17 (zcR 5) ∈ zT := (z_mem (z_m1 30 rfl) rfl)
theorem zl_RX11_19 : zlink RX11 19 yX5_init := Or.inr ⟨"ThreadTown", (z_m1 32 rfl)⟩
theorem wp_RX11_20 (k0 : zK) (h : k0.2.2.2.2.name = "<init>") : zFput RX11 20 11 3 k0 := ⟨by decide, by decide, (z_mem (z_m3 24 rfl) rfl), Or.inr ⟨h, by decide +kernel⟩⟩
theorem zn_RX11_24 : Cond.classLink RX11 24 (zcR 6) ∈ zT := (z_mem (z_m2 55 rfl) rfl)
theorem zl_RX11_26 : zlink RX11 26 yX6_init := Or.inl (z_mem (z_m2 56 rfl) rfl)
theorem wp_RX11_27 (k0 : zK) : zFput RX11 27 11 4 k0 := ⟨by decide, by decide, (z_mem (z_m3 25 rfl) rfl), Or.inl (by decide +kernel)⟩
theorem zn_RX11_31 : Cond.classLink RX11 31 (zcR 0) ∈ zT := (z_mem (z_m2 57 rfl) rfl)
theorem zl_RX11_33 : zlink RX11 33 yX0_init := Or.inr ⟨"ThreadTown", (z_m2 59 rfl)⟩
theorem wp_RX11_34 (k0 : zK) (h : k0.2.2.2.2.name = "<init>") : zFput RX11 34 11 5 k0 := ⟨by decide, by decide, (z_mem (z_m3 26 rfl) rfl), Or.inr ⟨h, by decide +kernel⟩⟩
theorem wp_RX11_38 (k0 : zK) (h : k0.2.2.2.2.name = "<init>") : zFput RX11 38 11 6 k0 := ⟨by decide, by decide, (z_mem (z_m3 27 rfl) rfl), Or.inr ⟨h, by decide +kernel⟩⟩
theorem zn_RX11_41 : Cond.classLink RX11 41 (zcR 3) ∈ zT := (z_mem (z_m2 112 rfl) rfl)
theorem zl_RX11_43 : zlink RX11 43 yX3_init := Or.inl (z_mem (z_m2 114 rfl) rfl)
theorem wp_RX11_44 (k0 : zK) (h : k0.2.2.2.2.name = "<init>") : zFput RX11 44 11 7 k0 := ⟨by decide, by decide, (z_mem (z_m3 28 rfl) rfl), Or.inr ⟨h, by decide +kernel⟩⟩
theorem zn_RX11_48 : Cond.classLink RX11 48 (zcR 7) ∈ zT := (z_mem (z_m2 138 rfl) rfl)
theorem zl_RX11_50 : zlink RX11 50 yX7_init := Or.inr ⟨"ThreadTown", (z_m2 140 rfl)⟩
theorem wp_RX11_51 (k0 : zK) (h : k0.2.2.2.2.name = "<init>") : zFput RX11 51 11 8 k0 := ⟨by decide, by decide, (z_mem (z_m3 29 rfl) rfl), Or.inr ⟨h, by decide +kernel⟩⟩
theorem zn_RX11_55 : Cond.classLink RX11 55 (zcR 10) ∈ zT := (z_mem (z_m2 168 rfl) rfl)
theorem zl_RX11_57 : zlink RX11 57 yX10_init := Or.inr ⟨"ThreadTown", (z_m2 170 rfl)⟩
theorem wp_RX11_58 (k0 : zK) (h : k0.2.2.2.2.name = "<init>") : zFput RX11 58 11 9 k0 := ⟨by decide, by decide, (z_mem (z_m3 30 rfl) rfl), Or.inr ⟨h, by decide +kernel⟩⟩
theorem zn_RX11_62 : Cond.classLink RX11 62 (zcR 4) ∈ zT := (z_mem (z_m2 183 rfl) rfl)
theorem zl_RX11_64 : zlink RX11 64 yX4_init := Or.inr ⟨"ThreadTown", (z_m2 185 rfl)⟩
theorem wp_RX11_65 (k0 : zK) (h : k0.2.2.2.2.name = "<init>") : zFput RX11 65 11 10 k0 := ⟨by decide, by decide, (z_mem (z_m3 31 rfl) rfl), Or.inr ⟨h, by decide +kernel⟩⟩
theorem zn_RX11_69 : Cond.classLink RX11 69 (zcR 1) ∈ zT := (z_mem (z_m2 204 rfl) rfl)
theorem zl_RX11_71 : zlink RX11 71 yX1_init := Or.inr ⟨"ThreadTown", (z_m2 206 rfl)⟩
theorem wp_RX11_72 (k0 : zK) (h : k0.2.2.2.2.name = "<init>") : zFput RX11 72 11 11 k0 := ⟨by decide, by decide, (z_mem (z_m3 32 rfl) rfl), Or.inr ⟨h, by decide +kernel⟩⟩
theorem zn_RX11_76 : Cond.classLink RX11 76 (zcR 9) ∈ zT := (z_mem (z_m2 222 rfl) rfl)
theorem zl_RX11_78 : zlink RX11 78 yX9_init := Or.inr ⟨"ThreadTown", (z_m2 224 rfl)⟩
theorem wp_RX11_79 (k0 : zK) (h : k0.2.2.2.2.name = "<init>") : zFput RX11 79 11 12 k0 := ⟨by decide, by decide, (z_mem (z_m3 33 rfl) rfl), Or.inr ⟨h, by decide +kernel⟩⟩
theorem wf_RX11_34 : zF RX11 34 11 5 := ⟨by decide, by decide, Or.inl (z_mem (z_m3 26 rfl) rfl)⟩
theorem wf_RX11_27 : zF RX11 27 11 4 := ⟨by decide, by decide, Or.inl (z_mem (z_m3 25 rfl) rfl)⟩
theorem zl_RX11_83 : zlink RX11 83 yX0_begin := Or.inl (z_mem (z_m3 5 rfl) rfl)
theorem wf_RX11_87 : zF RX11 87 11 1 := ⟨by decide, by decide, Or.inl (z_mem (z_m3 22 rfl) rfl)⟩
theorem zl_RX11_90 : zlink RX11 90 yX11_putWord := Or.inl (z_mem (z_m3 65 rfl) rfl)
theorem wf_RX11_9 : zF RX11 9 11 0 := ⟨by decide, by decide, Or.inl (z_mem (z_m3 21 rfl) rfl)⟩
theorem zl_RX11_94 : zlink RX11 94 yX11_put := Or.inl (z_mem (z_m3 69 rfl) rfl)
theorem wp_RX11_87 (k0 : zK) : zFput RX11 87 11 1 k0 := ⟨by decide, by decide, (z_mem (z_m3 22 rfl) rfl), Or.inl (by decide +kernel)⟩
theorem wf_RX11_20 : zF RX11 20 11 3 := ⟨by decide, by decide, Or.inl (z_mem (z_m3 24 rfl) rfl)⟩
theorem zl_RX11_98 : zlink RX11 98 yX5_begin := Or.inl (z_mem (z_m3 80 rfl) rfl)
theorem zl_RX11_101 : zlink RX11 101 yX5_readTells := Or.inl (z_mem (z_m3 129 rfl) rfl)
theorem zl_RX11_104 : zlink RX11 104 yX5_finish := Or.inl (z_mem (z_m3 232 rfl) rfl)
theorem wf_RX11_108 : zF RX11 108 5 1 := ⟨by decide, by decide, Or.inl (z_mem (z_m2 6 rfl) rfl)⟩
theorem wf_RX11_111 : zF RX11 111 5 0 := ⟨by decide, by decide, Or.inl (z_mem (z_m2 5 rfl) rfl)⟩
theorem wp_RX11_111 (k0 : zK) : zFput RX11 111 5 0 k0 := ⟨by decide, by decide, (z_mem (z_m2 5 rfl) rfl), Or.inl (by decide +kernel)⟩
theorem wf_RX11_44 : zF RX11 44 11 7 := ⟨by decide, by decide, Or.inl (z_mem (z_m3 28 rfl) rfl)⟩
theorem zl_RX11_112 : zlink RX11 112 yX3_empty := Or.inl (z_mem (z_m4 20 rfl) rfl)
theorem wf_RX11_79 : zF RX11 79 11 12 := ⟨by decide, by decide, Or.inl (z_mem (z_m3 33 rfl) rfl)⟩
theorem wp_RX11_115 (k0 : zK) : zFput RX11 115 9 0 k0 := ⟨by decide, by decide, (z_mem (z_m2 229 rfl) rfl), Or.inl (by decide +kernel)⟩
theorem wf_RX11_13 : zF RX11 13 11 2 := ⟨by decide, by decide, Or.inl (z_mem (z_m3 23 rfl) rfl)⟩
theorem zl_RX11_118 : zlink RX11 118 yX11_isMan := Or.inl (z_mem (z_m4 33 rfl) rfl)
theorem wf_RX11_122 : zF RX11 122 0 1 := ⟨by decide, by decide, Or.inl (z_mem (z_m2 67 rfl) rfl)⟩
theorem zl_RX11_125 : zlink RX11 125 yX11_at := Or.inl (z_mem (z_m4 37 rfl) rfl)
theorem wf_RX11_129 : zF RX11 129 0 2 := ⟨by decide, by decide, Or.inl (z_mem (z_m2 69 rfl) rfl)⟩
theorem wf_RX11_132 : zF RX11 132 0 3 := ⟨by decide, by decide, Or.inl (z_mem (z_m2 72 rfl) rfl)⟩
theorem zl_RX11_135 : zlink RX11 135 yX0_left := Or.inl (z_mem (z_m4 38 rfl) rfl)
theorem wf_RX11_139 : zF RX11 139 0 4 := ⟨by decide, by decide, Or.inl (z_mem (z_m2 75 rfl) rfl)⟩
theorem wf_RX11_142 : zF RX11 142 6 7 := ⟨by decide, by decide, Or.inl (z_mem (z_m1 95 rfl) rfl)⟩
theorem wf_RX11_145 : zF RX11 145 6 8 := ⟨by decide, by decide, Or.inl (z_mem (z_m1 101 rfl) rfl)⟩
theorem zl_RX11_148 : zlink RX11 148 yX11_apart := Or.inl (z_mem (z_m4 43 rfl) rfl)
theorem wf_RX11_152 : zF RX11 152 0 0 := ⟨by decide, by decide, Or.inl (z_mem (z_m2 65 rfl) rfl)⟩
theorem zl_RX11_155 : zlink RX11 155 yX0_wants := Or.inl (z_mem (z_m4 49 rfl) rfl)
theorem wf_RX11_159 : zF RX11 159 6 11 := ⟨by decide, by decide, Or.inl (z_mem (z_m1 110 rfl) rfl)⟩
theorem zl_RX11_162 : zlink RX11 162 yX11_pieceOf := Or.inl (z_mem (z_m4 69 rfl) rfl)
theorem wf_RX11_166 : zF RX11 166 0 5 := ⟨by decide, by decide, Or.inl (z_mem (z_m2 77 rfl) rfl)⟩
theorem zl_RX11_168 : zlink RX11 168 yX0_countUnder := Or.inl (z_mem (z_m4 72 rfl) rfl)
theorem wf_RX11_172 : zF RX11 172 0 6 := ⟨by decide, by decide, Or.inl (z_mem (z_m2 80 rfl) rfl)⟩
theorem zl_RX11_175 : zlink RX11 175 yX0_countOn := Or.inl (z_mem (z_m4 76 rfl) rfl)
theorem zl_RX11_178 : zlink RX11 178 yX0_canLay := Or.inl (z_mem (z_m4 85 rfl) rfl)
theorem zl_RX11_182 : zlink RX11 182 yX3_remember := Or.inl (z_mem (z_m4 98 rfl) rfl)
theorem zl_RX11_186 : zlink RX11 186 yX0_lay := Or.inl (z_mem (z_m4 107 rfl) rfl)
theorem zl_RX11_190 : zlink RX11 190 yX0_canTakeUp := Or.inl (z_mem (z_m4 123 rfl) rfl)
theorem zl_RX11_193 : zlink RX11 193 yX0_takeUp := Or.inl (z_mem (z_m4 131 rfl) rfl)
theorem zl_RX11_196 : zlink RX11 196 yX0_takeUpAll := Or.inl (z_mem (z_m4 140 rfl) rfl)
theorem zl_RX11_199 : zlink RX11 199 yX0_lose := Or.inl (z_mem (z_m4 149 rfl) rfl)
theorem zl_RX11_202 : zlink RX11 202 yX0_goBy := Or.inl (z_mem (z_m4 161 rfl) rfl)
theorem zl_RX11_205 : zlink RX11 205 yX3_takeBack := Or.inl (z_mem (z_m4 175 rfl) rfl)
theorem zl_RX11_209 : zlink RX11 209 yX11_areTwo := Or.inl (z_mem (z_m4 183 rfl) rfl)
theorem zl_RX11_213 : zlink RX11 213 yX0_countOver := Or.inl (z_mem (z_m4 187 rfl) rfl)
theorem wf_RX11_51 : zF RX11 51 11 8 := ⟨by decide, by decide, Or.inl (z_mem (z_m3 29 rfl) rfl)⟩
theorem zl_RX11_216 : zlink RX11 216 yX7_look := Or.inl (z_mem (z_m4 198 rfl) rfl)
theorem wf_RX11_220 : zF RX11 220 7 0 := ⟨by decide, by decide, Or.inl (z_mem (z_m2 145 rfl) rfl)⟩
theorem zl_RX11_223 : zlink RX11 223 yX7_countOrders := Or.inl (z_mem (z_m4 218 rfl) rfl)
theorem zl_RX11_226 : zlink RX11 226 yX7_findOrder := Or.inl (z_mem (z_m4 226 rfl) rfl)
theorem wf_RX11_229 : zF RX11 229 7 3 := ⟨by decide, by decide, Or.inl (z_mem (z_m2 151 rfl) rfl)⟩
theorem zl_RX11_232 : zlink RX11 232 yJ6_bitCount_0f7a4 := Or.inl (z_mem (z_m4 234 rfl) rfl)
theorem wf_RX11_237 : zF RX11 237 7 2 := ⟨by decide, by decide, Or.inl (z_mem (z_m2 149 rfl) rfl)⟩
theorem zl_RX11_240 : zlink RX11 240 yX7_fewestCuts := Or.inl (z_mem (z_m5 4 rfl) rfl)
theorem zl_RX11_244 : zlink RX11 244 yX0_countLying := Or.inl (z_mem (z_m5 17 rfl) rfl)
theorem wf_RX11_58 : zF RX11 58 11 9 := ⟨by decide, by decide, Or.inl (z_mem (z_m3 30 rfl) rfl)⟩
theorem zl_RX11_247 : zlink RX11 247 yX10_prepare := Or.inl (z_mem (z_m5 22 rfl) rfl)
theorem zl_RX11_251 : zlink RX11 251 yX10_fewest := Or.inl (z_mem (z_m5 42 rfl) rfl)
theorem wf_RX11_255 : zF RX11 255 6 12 := ⟨by decide, by decide, Or.inl (z_mem (z_m1 115 rfl) rfl)⟩
theorem zl_RX11_258 : zlink RX11 258 yX10_findOrder := Or.inl (z_mem (z_m5 50 rfl) rfl)
theorem wf_RX11_260 : zF RX11 260 10 0 := ⟨by decide, by decide, Or.inl (z_mem (z_m2 176 rfl) rfl)⟩
theorem zl_RX11_261 : zlink RX11 261 yX10_countHomes := Or.inl (z_mem (z_m5 58 rfl) rfl)
theorem wf_RX11_264 : zF RX11 264 6 3 := ⟨by decide, by decide, Or.inl (z_mem (z_m1 83 rfl) rfl)⟩
theorem wf_RX11_267 : zF RX11 267 6 15 := ⟨by decide, by decide, Or.inl (z_mem (z_m1 123 rfl) rfl)⟩
theorem wf_RX11_270 : zF RX11 270 6 16 := ⟨by decide, by decide, Or.inl (z_mem (z_m1 125 rfl) rfl)⟩
theorem zl_RX11_273 : zlink RX11 273 yX0_turnsAbout := Or.inl (z_mem (z_m5 68 rfl) rfl)
theorem wf_RX11_38 : zF RX11 38 11 6 := ⟨by decide, by decide, Or.inl (z_mem (z_m3 27 rfl) rfl)⟩
theorem zl_RX11_277 : zlink RX11 277 yX0_copy := Or.inl (z_mem (z_m5 76 rfl) rfl)
theorem zl_RX11_280 : zlink RX11 280 yX0_span := Or.inl (z_mem (z_m5 77 rfl) rfl)
theorem wf_RX11_283 : zF RX11 283 6 2 := ⟨by decide, by decide, Or.inl (z_mem (z_m1 80 rfl) rfl)⟩
theorem zl_RX11_286 : zlink RX11 286 yX0_countOverOthers := Or.inl (z_mem (z_m5 86 rfl) rfl)
theorem zl_RX11_289 : zlink RX11 289 yX6_hasStreet := Or.inl (z_mem (z_m5 95 rfl) rfl)
theorem zl_RX11_293 : zlink RX11 293 yX11_streetOf := Or.inl (z_mem (z_m5 96 rfl) rfl)
theorem zl_RX11_296 : zlink RX11 296 yX0_fromTop := Or.inl (z_mem (z_m5 97 rfl) rfl)
theorem zl_RX11_299 : zlink RX11 299 yX11_ownerOf := Or.inl (z_mem (z_m5 101 rfl) rfl)
theorem wf_RX11_72 : zF RX11 72 11 11 := ⟨by decide, by decide, Or.inl (z_mem (z_m3 32 rfl) rfl)⟩
theorem zl_RX11_302 : zlink RX11 302 yX1_pass := Or.inl (z_mem (z_m5 106 rfl) rfl)
theorem wf_RX11_306 : zF RX11 306 1 0 := ⟨by decide, by decide, Or.inl (z_mem (z_m2 211 rfl) rfl)⟩
theorem wf_RX11_309 : zF RX11 309 1 1 := ⟨by decide, by decide, Or.inl (z_mem (z_m2 213 rfl) rfl)⟩
theorem zl_RX11_312 : zlink RX11 312 yX0_whoseThreadLies := Or.inl (z_mem (z_m5 129 rfl) rfl)
theorem zl_RX11_316 : zlink RX11 316 yX0_lostBits := Or.inl (z_mem (z_m5 130 rfl) rfl)
theorem wf_RX11_320 : zF RX11 320 0 9 := ⟨by decide, by decide, Or.inl (z_mem (z_m2 87 rfl) rfl)⟩
theorem zl_RX11_323 : zlink RX11 323 yX0_countTops := Or.inl (z_mem (z_m5 146 rfl) rfl)
theorem wf_RX11_326 : zF RX11 326 7 1 := ⟨by decide, by decide, Or.inl (z_mem (z_m2 147 rfl) rfl)⟩
theorem zl_RX11_329 : zlink RX11 329 yX7_countLinks := Or.inl (z_mem (z_m5 162 rfl) rfl)
theorem zl_RX11_332 : zlink RX11 332 yX7_countRounds := Or.inl (z_mem (z_m5 174 rfl) rfl)
theorem zl_RX11_335 : zlink RX11 335 yX7_mostCrowded := Or.inl (z_mem (z_m5 182 rfl) rfl)
theorem wf_RX11_338 : zF RX11 338 7 4 := ⟨by decide, by decide, Or.inl (z_mem (z_m2 153 rfl) rfl)⟩
theorem wf_RX11_65 : zF RX11 65 11 10 := ⟨by decide, by decide, Or.inl (z_mem (z_m3 31 rfl) rfl)⟩
theorem zl_RX11_341 : zlink RX11 341 yX4_choose := Or.inl (z_mem (z_m5 197 rfl) rfl)
theorem wf_RX11_345 : zF RX11 345 4 0 := ⟨by decide, by decide, Or.inl (z_mem (z_m2 190 rfl) rfl)⟩
theorem wf_RX11_347 : zF RX11 347 4 1 := ⟨by decide, by decide, Or.inl (z_mem (z_m2 192 rfl) rfl)⟩
theorem zk_RX11_350 : Cond.constant RX11 350 (1000000) ∈ zT := (z_mem (z_m5 238 rfl) rfl)
theorem zl_RX11_351 : Cond.methodLink RX11 351 Lib.Math.max.name ∈ zT := (z_mem (z_m6 3 rfl) rfl)
theorem zl_RX11_356 : Cond.methodLink RX11 356 Lib.Math.min.name ∈ zT := (z_mem (z_m3 12 rfl) rfl)
theorem zl_RX11_359 : zlink RX11 359 yX9_add := Or.inl (z_mem (z_m6 8 rfl) rfl)
theorem wf_RX11_115 : zF RX11 115 9 0 := ⟨by decide, by decide, Or.inl (z_mem (z_m2 229 rfl) rfl)⟩
theorem zl_RX11_363 : zlink RX11 363 yX9_countRows := Or.inl (z_mem (z_m6 21 rfl) rfl)
theorem zl_RX11_367 : zlink RX11 367 yX3_keep := Or.inl (z_mem (z_m6 46 rfl) rfl)
theorem zl_RX11_371 : zlink RX11 371 yX3_goOnFrom := Or.inl (z_mem (z_m6 59 rfl) rfl)
theorem wf_RX11_374 : zF RX11 374 6 0 := ⟨by decide, by decide, Or.inl (z_mem (z_m1 69 rfl) rfl)⟩
theorem wf_RX11_377 : zF RX11 377 6 1 := ⟨by decide, by decide, Or.inl (z_mem (z_m1 72 rfl) rfl)⟩
theorem zl_RX11_380 : zlink RX11 380 yX6_countErrands := Or.inl (z_mem (z_m6 68 rfl) rfl)
theorem wf_RX11_383 : zF RX11 383 3 0 := ⟨by decide, by decide, Or.inl (z_mem (z_m2 122 rfl) rfl)⟩
theorem zl_RX11_384 : zlink RX11 384 yX3_countHeld := Or.inl (z_mem (z_m6 72 rfl) rfl)
theorem zl_RX11_387 : Cond.methodLink RX11 387 arraycopyName ∈ zT := (z_mem (z_m3 15 rfl) rfl)
theorem zl_RX11_393 : Cond.methodLink RX11 393 Lib.Math.abs.name ∈ zT := (z_mem (z_m4 46 rfl) rfl)
theorem zl_RX11_396 : zlink RX11 396 yX11_stir := Or.inl (z_mem (z_m4 61 rfl) rfl)
theorem zk_RX11_399 : Cond.constant RX11 399 (1103515245) ∈ zT := (z_mem (z_m4 64 rfl) rfl)
theorem zl_RX12_7 : Cond.methodLink RX12 7 objectInit ∈ zT := (z_mem (z_m6 81 rfl) rfl)
theorem wp_RX12_13 (k0 : zK) (h : k0.2.2.2.2.name = "<init>") : zFput RX12 13 12 1 k0 := ⟨by decide, by decide, (z_mem (z_m6 102 rfl) rfl), Or.inr ⟨h, by decide +kernel⟩⟩
theorem wp_RX12_17 (k0 : zK) (h : k0.2.2.2.2.name = "<init>") : zFput RX12 17 12 3 k0 := ⟨by decide, by decide, (z_mem (z_m6 104 rfl) rfl), Or.inr ⟨h, by decide +kernel⟩⟩
theorem wp_RX12_20 (k0 : zK) (h : k0.2.2.2.2.name = "<init>") : zFput RX12 20 12 5 k0 := ⟨by decide, by decide, (z_mem (z_m6 106 rfl) rfl), Or.inr ⟨h, by decide +kernel⟩⟩
theorem wp_RX12_24 (k0 : zK) (h : k0.2.2.2.2.name = "<init>") : zFput RX12 24 12 6 k0 := ⟨by decide, by decide, (z_mem (z_m6 107 rfl) rfl), Or.inr ⟨h, by decide +kernel⟩⟩
theorem wp_RX12_27 (k0 : zK) (h : k0.2.2.2.2.name = "<init>") : zFput RX12 27 12 7 k0 := ⟨by decide, by decide, (z_mem (z_m6 108 rfl) rfl), Or.inr ⟨h, by decide +kernel⟩⟩
theorem wp_RX12_30 (k0 : zK) (h : k0.2.2.2.2.name = "<init>") : zFput RX12 30 12 8 k0 := ⟨by decide, by decide, (z_mem (z_m6 109 rfl) rfl), Or.inr ⟨h, by decide +kernel⟩⟩
theorem wp_RX12_34 (k0 : zK) (h : k0.2.2.2.2.name = "<init>") : zFput RX12 34 12 9 k0 := ⟨by decide, by decide, (z_mem (z_m6 110 rfl) rfl), Or.inr ⟨h, by decide +kernel⟩⟩
theorem wp_RX12_37 (k0 : zK) : zFput RX12 37 12 17 k0 := ⟨by decide, by decide, (z_mem (z_m6 118 rfl) rfl), Or.inl (by decide +kernel)⟩
theorem wp_RX12_40 (k0 : zK) (h : k0.2.2.2.2.name = "<init>") : zFput RX12 40 12 21 k0 := ⟨by decide, by decide, (z_mem (z_m6 122 rfl) rfl), Or.inr ⟨h, by decide +kernel⟩⟩
theorem wp_RX12_43 (k0 : zK) (h : k0.2.2.2.2.name = "<init>") : zFput RX12 43 12 22 k0 := ⟨by decide, by decide, (z_mem (z_m6 123 rfl) rfl), Or.inr ⟨h, by decide +kernel⟩⟩
theorem wp_RX12_46 (k0 : zK) (h : k0.2.2.2.2.name = "<init>") : zFput RX12 46 12 23 k0 := ⟨by decide, by decide, (z_mem (z_m6 124 rfl) rfl), Or.inr ⟨h, by decide +kernel⟩⟩
theorem wp_RX12_49 (k0 : zK) (h : k0.2.2.2.2.name = "<init>") : zFput RX12 49 12 24 k0 := ⟨by decide, by decide, (z_mem (z_m6 125 rfl) rfl), Or.inr ⟨h, by decide +kernel⟩⟩
theorem wp_RX12_52 (k0 : zK) (h : k0.2.2.2.2.name = "<init>") : zFput RX12 52 12 25 k0 := ⟨by decide, by decide, (z_mem (z_m6 126 rfl) rfl), Or.inr ⟨h, by decide +kernel⟩⟩
theorem wp_RX12_55 (k0 : zK) (h : k0.2.2.2.2.name = "<init>") : zFput RX12 55 12 26 k0 := ⟨by decide, by decide, (z_mem (z_m6 127 rfl) rfl), Or.inr ⟨h, by decide +kernel⟩⟩
theorem wp_RX12_58 (k0 : zK) (h : k0.2.2.2.2.name = "<init>") : zFput RX12 58 12 27 k0 := ⟨by decide, by decide, (z_mem (z_m6 128 rfl) rfl), Or.inr ⟨h, by decide +kernel⟩⟩
theorem wp_RX12_61 (k0 : zK) (h : k0.2.2.2.2.name = "<init>") : zFput RX12 61 12 28 k0 := ⟨by decide, by decide, (z_mem (z_m6 129 rfl) rfl), Or.inr ⟨h, by decide +kernel⟩⟩
theorem wp_RX12_64 (k0 : zK) (h : k0.2.2.2.2.name = "<init>") : zFput RX12 64 12 29 k0 := ⟨by decide, by decide, (z_mem (z_m6 130 rfl) rfl), Or.inr ⟨h, by decide +kernel⟩⟩
theorem wp_RX12_67 (k0 : zK) (h : k0.2.2.2.2.name = "<init>") : zFput RX12 67 12 30 k0 := ⟨by decide, by decide, (z_mem (z_m6 131 rfl) rfl), Or.inr ⟨h, by decide +kernel⟩⟩
theorem wp_RX12_70 (k0 : zK) (h : k0.2.2.2.2.name = "<init>") : zFput RX12 70 12 31 k0 := ⟨by decide, by decide, (z_mem (z_m6 132 rfl) rfl), Or.inr ⟨h, by decide +kernel⟩⟩
theorem wp_RX12_73 (k0 : zK) (h : k0.2.2.2.2.name = "<init>") : zFput RX12 73 12 32 k0 := ⟨by decide, by decide, (z_mem (z_m6 133 rfl) rfl), Or.inr ⟨h, by decide +kernel⟩⟩
theorem wp_RX12_76 (k0 : zK) (h : k0.2.2.2.2.name = "<init>") : zFput RX12 76 12 33 k0 := ⟨by decide, by decide, (z_mem (z_m6 134 rfl) rfl), Or.inr ⟨h, by decide +kernel⟩⟩
theorem wp_RX12_79 (k0 : zK) (h : k0.2.2.2.2.name = "<init>") : zFput RX12 79 12 34 k0 := ⟨by decide, by decide, (z_mem (z_m6 135 rfl) rfl), Or.inr ⟨h, by decide +kernel⟩⟩
theorem wp_RX12_82 (k0 : zK) (h : k0.2.2.2.2.name = "<init>") : zFput RX12 82 12 36 k0 := ⟨by decide, by decide, (z_mem (z_m6 137 rfl) rfl), Or.inr ⟨h, by decide +kernel⟩⟩
theorem wp_RX12_85 (k0 : zK) (h : k0.2.2.2.2.name = "<init>") : zFput RX12 85 12 37 k0 := ⟨by decide, by decide, (z_mem (z_m6 138 rfl) rfl), Or.inr ⟨h, by decide +kernel⟩⟩
theorem wp_RX12_88 (k0 : zK) (h : k0.2.2.2.2.name = "<init>") : zFput RX12 88 12 38 k0 := ⟨by decide, by decide, (z_mem (z_m6 139 rfl) rfl), Or.inr ⟨h, by decide +kernel⟩⟩
theorem wp_RX12_91 (k0 : zK) (h : k0.2.2.2.2.name = "<init>") : zFput RX12 91 12 39 k0 := ⟨by decide, by decide, (z_mem (z_m6 140 rfl) rfl), Or.inr ⟨h, by decide +kernel⟩⟩
theorem wp_RX12_94 (k0 : zK) (h : k0.2.2.2.2.name = "<init>") : zFput RX12 94 12 40 k0 := ⟨by decide, by decide, (z_mem (z_m6 141 rfl) rfl), Or.inr ⟨h, by decide +kernel⟩⟩
theorem wp_RX12_97 (k0 : zK) (h : k0.2.2.2.2.name = "<init>") : zFput RX12 97 12 42 k0 := ⟨by decide, by decide, (z_mem (z_m6 143 rfl) rfl), Or.inr ⟨h, by decide +kernel⟩⟩
theorem wp_RX12_101 (k0 : zK) (h : k0.2.2.2.2.name = "<init>") : zFput RX12 101 12 43 k0 := ⟨by decide, by decide, (z_mem (z_m6 144 rfl) rfl), Or.inr ⟨h, by decide +kernel⟩⟩
theorem wp_RX12_104 (k0 : zK) (h : k0.2.2.2.2.name = "<init>") : zFput RX12 104 12 44 k0 := ⟨by decide, by decide, (z_mem (z_m6 145 rfl) rfl), Or.inr ⟨h, by decide +kernel⟩⟩
theorem wp_RX12_107 (k0 : zK) (h : k0.2.2.2.2.name = "<init>") : zFput RX12 107 12 45 k0 := ⟨by decide, by decide, (z_mem (z_m6 146 rfl) rfl), Or.inr ⟨h, by decide +kernel⟩⟩
theorem wp_RX12_110 (k0 : zK) (h : k0.2.2.2.2.name = "<init>") : zFput RX12 110 12 46 k0 := ⟨by decide, by decide, (z_mem (z_m6 147 rfl) rfl), Or.inr ⟨h, by decide +kernel⟩⟩
theorem wp_RX12_113 (k0 : zK) (h : k0.2.2.2.2.name = "<init>") : zFput RX12 113 12 48 k0 := ⟨by decide, by decide, (z_mem (z_m6 149 rfl) rfl), Or.inr ⟨h, by decide +kernel⟩⟩
theorem wp_RX12_116 (k0 : zK) (h : k0.2.2.2.2.name = "<init>") : zFput RX12 116 12 49 k0 := ⟨by decide, by decide, (z_mem (z_m6 150 rfl) rfl), Or.inr ⟨h, by decide +kernel⟩⟩
theorem wp_RX12_119 (k0 : zK) (h : k0.2.2.2.2.name = "<init>") : zFput RX12 119 12 50 k0 := ⟨by decide, by decide, (z_mem (z_m6 151 rfl) rfl), Or.inr ⟨h, by decide +kernel⟩⟩
theorem wp_RX12_122 (k0 : zK) (h : k0.2.2.2.2.name = "<init>") : zFput RX12 122 12 52 k0 := ⟨by decide, by decide, (z_mem (z_m6 153 rfl) rfl), Or.inr ⟨h, by decide +kernel⟩⟩
theorem wp_RX12_125 (k0 : zK) (h : k0.2.2.2.2.name = "<init>") : zFput RX12 125 12 53 k0 := ⟨by decide, by decide, (z_mem (z_m6 154 rfl) rfl), Or.inr ⟨h, by decide +kernel⟩⟩
theorem wp_RX12_128 (k0 : zK) (h : k0.2.2.2.2.name = "<init>") : zFput RX12 128 12 55 k0 := ⟨by decide, by decide, (z_mem (z_m6 156 rfl) rfl), Or.inr ⟨h, by decide +kernel⟩⟩
theorem wp_RX12_131 (k0 : zK) (h : k0.2.2.2.2.name = "<init>") : zFput RX12 131 12 56 k0 := ⟨by decide, by decide, (z_mem (z_m6 157 rfl) rfl), Or.inr ⟨h, by decide +kernel⟩⟩
theorem wp_RX12_134 (k0 : zK) (h : k0.2.2.2.2.name = "<init>") : zFput RX12 134 12 57 k0 := ⟨by decide, by decide, (z_mem (z_m6 158 rfl) rfl), Or.inr ⟨h, by decide +kernel⟩⟩
theorem zk_RX12_137 : Cond.constant RX12 137 (38700) ∈ zT := (z_mem (z_m6 82 rfl) rfl)
theorem wp_RX12_138 (k0 : zK) (h : k0.2.2.2.2.name = "<init>") : zFput RX12 138 12 59 k0 := ⟨by decide, by decide, (z_mem (z_m6 160 rfl) rfl), Or.inr ⟨h, by decide +kernel⟩⟩
theorem wp_RX12_141 (k0 : zK) (h : k0.2.2.2.2.name = "<init>") : zFput RX12 141 12 60 k0 := ⟨by decide, by decide, (z_mem (z_m6 161 rfl) rfl), Or.inr ⟨h, by decide +kernel⟩⟩
theorem wp_RX12_144 (k0 : zK) (h : k0.2.2.2.2.name = "<init>") : zFput RX12 144 12 61 k0 := ⟨by decide, by decide, (z_mem (z_m6 162 rfl) rfl), Or.inr ⟨h, by decide +kernel⟩⟩
theorem wp_RX12_147 (k0 : zK) (h : k0.2.2.2.2.name = "<init>") : zFput RX12 147 12 62 k0 := ⟨by decide, by decide, (z_mem (z_m6 163 rfl) rfl), Or.inr ⟨h, by decide +kernel⟩⟩
theorem wp_RX12_150 (k0 : zK) (h : k0.2.2.2.2.name = "<init>") : zFput RX12 150 12 63 k0 := ⟨by decide, by decide, (z_mem (z_m6 164 rfl) rfl), Or.inr ⟨h, by decide +kernel⟩⟩
theorem wp_RX12_153 (k0 : zK) (h : k0.2.2.2.2.name = "<init>") : zFput RX12 153 12 66 k0 := ⟨by decide, by decide, (z_mem (z_m6 167 rfl) rfl), Or.inr ⟨h, by decide +kernel⟩⟩
theorem wp_RX12_156 (k0 : zK) (h : k0.2.2.2.2.name = "<init>") : zFput RX12 156 12 67 k0 := ⟨by decide, by decide, (z_mem (z_m6 168 rfl) rfl), Or.inr ⟨h, by decide +kernel⟩⟩
theorem wp_RX12_159 (k0 : zK) (h : k0.2.2.2.2.name = "<init>") : zFput RX12 159 12 68 k0 := ⟨by decide, by decide, (z_mem (z_m6 169 rfl) rfl), Or.inr ⟨h, by decide +kernel⟩⟩
theorem wp_RX12_162 (k0 : zK) (h : k0.2.2.2.2.name = "<init>") : zFput RX12 162 12 70 k0 := ⟨by decide, by decide, (z_mem (z_m6 171 rfl) rfl), Or.inr ⟨h, by decide +kernel⟩⟩
theorem wp_RX12_165 (k0 : zK) (h : k0.2.2.2.2.name = "<init>") : zFput RX12 165 12 71 k0 := ⟨by decide, by decide, (z_mem (z_m6 172 rfl) rfl), Or.inr ⟨h, by decide +kernel⟩⟩
theorem wp_RX12_168 (k0 : zK) (h : k0.2.2.2.2.name = "<init>") : zFput RX12 168 12 72 k0 := ⟨by decide, by decide, (z_mem (z_m6 173 rfl) rfl), Or.inr ⟨h, by decide +kernel⟩⟩
theorem wp_RX12_171 (k0 : zK) (h : k0.2.2.2.2.name = "<init>") : zFput RX12 171 12 73 k0 := ⟨by decide, by decide, (z_mem (z_m6 174 rfl) rfl), Or.inr ⟨h, by decide +kernel⟩⟩
theorem wp_RX12_174 (k0 : zK) (h : k0.2.2.2.2.name = "<init>") : zFput RX12 174 12 74 k0 := ⟨by decide, by decide, (z_mem (z_m6 175 rfl) rfl), Or.inr ⟨h, by decide +kernel⟩⟩
theorem zl_RX12_177 : zlink RX12 177 yX12_plain0 := Or.inl (z_mem (z_m6 83 rfl) rfl)
theorem wf_RX12_34 : zF RX12 34 12 9 := ⟨by decide, by decide, Or.inl (z_mem (z_m6 110 rfl) rfl)⟩
theorem zl_RX12_181 : zlink RX12 181 yX12_word := Or.inl (z_mem (z_m6 87 rfl) rfl)
theorem zl_RX12_185 : zlink RX12 185 yX12_begins := Or.inl (z_mem (z_m6 94 rfl) rfl)
theorem zl_RX12_188 : zlink RX12 188 yX12_keepsRow := Or.inl (z_mem (z_m6 98 rfl) rfl)
theorem wf_RX12_191 : zF RX12 191 12 2 := ⟨by decide, by decide, Or.inl (z_mem (z_m6 103 rfl) rfl)⟩
theorem zl_RX12_194 : zlink RX12 194 yX12_put := Or.inl (z_mem (z_m7 92 rfl) rfl)
theorem wf_RX12_13 : zF RX12 13 12 1 := ⟨by decide, by decide, Or.inl (z_mem (z_m6 102 rfl) rfl)⟩
theorem wp_RX12_191 (k0 : zK) : zFput RX12 191 12 2 k0 := ⟨by decide, by decide, (z_mem (z_m6 103 rfl) rfl), Or.inl (by decide +kernel)⟩
theorem wf_RX12_197 : zF RX12 197 12 4 := ⟨by decide, by decide, Or.inl (z_mem (z_m6 105 rfl) rfl)⟩
theorem wf_RX12_17 : zF RX12 17 12 3 := ⟨by decide, by decide, Or.inl (z_mem (z_m6 104 rfl) rfl)⟩
theorem zk_RX12_200 : Cond.constantLong RX12 200 (27) ∈ zT := (z_mem (z_m6 93 rfl) rfl)
theorem zl_RX12_202 : zlink RX12 202 yX12_appends := Or.inl (z_mem (z_m6 90 rfl) rfl)
theorem wf_RX12_20 : zF RX12 20 12 5 := ⟨by decide, by decide, Or.inl (z_mem (z_m6 106 rfl) rfl)⟩
theorem wf_RX12_206 : zF RX12 206 12 10 := ⟨by decide, by decide, Or.inl (z_mem (z_m6 111 rfl) rfl)⟩
theorem wf_RX12_24 : zF RX12 24 12 6 := ⟨by decide, by decide, Or.inl (z_mem (z_m6 107 rfl) rfl)⟩
theorem wf_RX12_27 : zF RX12 27 12 7 := ⟨by decide, by decide, Or.inl (z_mem (z_m6 108 rfl) rfl)⟩
theorem wf_RX12_30 : zF RX12 30 12 8 := ⟨by decide, by decide, Or.inl (z_mem (z_m6 109 rfl) rfl)⟩
theorem wp_RX12_206 (k0 : zK) : zFput RX12 206 12 10 k0 := ⟨by decide, by decide, (z_mem (z_m6 111 rfl) rfl), Or.inl (by decide +kernel)⟩
theorem zl_RX12_209 : zlink RX12 209 yX12_byteAt := Or.inl (z_mem (z_m7 108 rfl) rfl)
theorem zl_RX12_213 : zlink RX12 213 yX12_token := Or.inl (z_mem (z_m7 112 rfl) rfl)
theorem zl_RX12_217 : zlink RX12 217 yX12_isLetter := Or.inl (z_mem (z_m7 116 rfl) rfl)
theorem zl_RX12_221 : zlink RX12 221 yX12_isDigit := Or.inl (z_mem (z_m7 119 rfl) rfl)
theorem zl_RX12_224 : zlink RX12 224 yX12_sign := Or.inl (z_mem (z_m7 122 rfl) rfl)
theorem wf_RX12_228 : zF RX12 228 12 13 := ⟨by decide, by decide, Or.inl (z_mem (z_m6 114 rfl) rfl)⟩
theorem wf_RX12_231 : zF RX12 231 12 11 := ⟨by decide, by decide, Or.inl (z_mem (z_m6 112 rfl) rfl)⟩
theorem wp_RX12_228 (k0 : zK) : zFput RX12 228 12 13 k0 := ⟨by decide, by decide, (z_mem (z_m6 114 rfl) rfl), Or.inl (by decide +kernel)⟩
theorem wp_RX12_234 (k0 : zK) : zFput RX12 234 12 14 k0 := ⟨by decide, by decide, (z_mem (z_m6 115 rfl) rfl), Or.inl (by decide +kernel)⟩
theorem wf_RX12_237 : zF RX12 237 12 15 := ⟨by decide, by decide, Or.inl (z_mem (z_m6 116 rfl) rfl)⟩
theorem wf_RX12_240 : zF RX12 240 12 16 := ⟨by decide, by decide, Or.inl (z_mem (z_m6 117 rfl) rfl)⟩
theorem wp_RX12_237 (k0 : zK) : zFput RX12 237 12 15 k0 := ⟨by decide, by decide, (z_mem (z_m6 116 rfl) rfl), Or.inl (by decide +kernel)⟩
theorem wp_RX12_240 (k0 : zK) : zFput RX12 240 12 16 k0 := ⟨by decide, by decide, (z_mem (z_m6 117 rfl) rfl), Or.inl (by decide +kernel)⟩
theorem zl_RX12_243 : zlink RX12 243 yX12_fail := Or.inl (z_mem (z_m7 138 rfl) rfl)
theorem wp_RX12_231 (k0 : zK) : zFput RX12 231 12 11 k0 := ⟨by decide, by decide, (z_mem (z_m6 112 rfl) rfl), Or.inl (by decide +kernel)⟩
theorem zl_RX12_246 : zlink RX12 246 yX12_is := Or.inl (z_mem (z_m7 126 rfl) rfl)
theorem zl_RX12_249 : zlink RX12 249 yX12_goesOn := Or.inl (z_mem (z_m7 134 rfl) rfl)
theorem wf_RX12_43 : zF RX12 43 12 22 := ⟨by decide, by decide, Or.inl (z_mem (z_m6 123 rfl) rfl)⟩
theorem wf_RX12_46 : zF RX12 46 12 23 := ⟨by decide, by decide, Or.inl (z_mem (z_m6 124 rfl) rfl)⟩
theorem wf_RX12_49 : zF RX12 49 12 24 := ⟨by decide, by decide, Or.inl (z_mem (z_m6 125 rfl) rfl)⟩
theorem wf_RX12_70 : zF RX12 70 12 31 := ⟨by decide, by decide, Or.inl (z_mem (z_m6 132 rfl) rfl)⟩
theorem wf_RX12_79 : zF RX12 79 12 34 := ⟨by decide, by decide, Or.inl (z_mem (z_m6 135 rfl) rfl)⟩
theorem wf_RX12_91 : zF RX12 91 12 39 := ⟨by decide, by decide, Or.inl (z_mem (z_m6 140 rfl) rfl)⟩
theorem wf_RX12_94 : zF RX12 94 12 40 := ⟨by decide, by decide, Or.inl (z_mem (z_m6 141 rfl) rfl)⟩
theorem wf_RX12_58 : zF RX12 58 12 27 := ⟨by decide, by decide, Or.inl (z_mem (z_m6 128 rfl) rfl)⟩
theorem wf_RX12_61 : zF RX12 61 12 28 := ⟨by decide, by decide, Or.inl (z_mem (z_m6 129 rfl) rfl)⟩
theorem wp_RX12_197 (k0 : zK) : zFput RX12 197 12 4 k0 := ⟨by decide, by decide, (z_mem (z_m6 105 rfl) rfl), Or.inl (by decide +kernel)⟩
theorem zl_RX12_252 : zlink RX12 252 yX12_cut0 := Or.inl (z_mem (z_m7 104 rfl) rfl)
theorem wp_RX12_255 (k0 : zK) : zFput RX12 255 12 12 k0 := ⟨by decide, by decide, (z_mem (z_m6 113 rfl) rfl), Or.inl (by decide +kernel)⟩
theorem wf_RX12_258 : zF RX12 258 12 18 := ⟨by decide, by decide, Or.inl (z_mem (z_m6 119 rfl) rfl)⟩
theorem wp_RX12_261 (k0 : zK) : zFput RX12 261 12 19 k0 := ⟨by decide, by decide, (z_mem (z_m6 120 rfl) rfl), Or.inl (by decide +kernel)⟩
theorem wp_RX12_264 (k0 : zK) : zFput RX12 264 12 20 k0 := ⟨by decide, by decide, (z_mem (z_m6 121 rfl) rfl), Or.inl (by decide +kernel)⟩
theorem wp_RX12_267 (k0 : zK) : zFput RX12 267 12 35 k0 := ⟨by decide, by decide, (z_mem (z_m6 136 rfl) rfl), Or.inl (by decide +kernel)⟩
theorem wf_RX12_261 : zF RX12 261 12 19 := ⟨by decide, by decide, Or.inl (z_mem (z_m6 120 rfl) rfl)⟩
theorem wp_RX12_270 (k0 : zK) : zFput RX12 270 12 41 k0 := ⟨by decide, by decide, (z_mem (z_m6 142 rfl) rfl), Or.inl (by decide +kernel)⟩
theorem wp_RX12_273 (k0 : zK) : zFput RX12 273 12 47 k0 := ⟨by decide, by decide, (z_mem (z_m6 148 rfl) rfl), Or.inl (by decide +kernel)⟩
theorem zl_RX12_276 : zlink RX12 276 yX12_tell0 := Or.inl (z_mem (z_m7 130 rfl) rfl)
theorem wf_RX12_267 : zF RX12 267 12 35 := ⟨by decide, by decide, Or.inl (z_mem (z_m6 136 rfl) rfl)⟩
theorem wf_RX12_82 : zF RX12 82 12 36 := ⟨by decide, by decide, Or.inl (z_mem (z_m6 137 rfl) rfl)⟩
theorem wf_RX12_85 : zF RX12 85 12 37 := ⟨by decide, by decide, Or.inl (z_mem (z_m6 138 rfl) rfl)⟩
theorem wf_RX12_88 : zF RX12 88 12 38 := ⟨by decide, by decide, Or.inl (z_mem (z_m6 139 rfl) rfl)⟩
theorem zl_RX12_279 : zlink RX12 279 yX12_wrong := Or.inl (z_mem (z_m7 146 rfl) rfl)
theorem wf_RX12_234 : zF RX12 234 12 14 := ⟨by decide, by decide, Or.inl (z_mem (z_m6 115 rfl) rfl)⟩
theorem wp_RX12_258 (k0 : zK) : zFput RX12 258 12 18 k0 := ⟨by decide, by decide, (z_mem (z_m6 119 rfl) rfl), Or.inl (by decide +kernel)⟩
theorem wp_RX12_283 (k0 : zK) : zFput RX12 283 12 58 k0 := ⟨by decide, by decide, (z_mem (z_m6 159 rfl) rfl), Or.inl (by decide +kernel)⟩
theorem wp_RX12_286 (k0 : zK) : zFput RX12 286 12 69 k0 := ⟨by decide, by decide, (z_mem (z_m6 170 rfl) rfl), Or.inl (by decide +kernel)⟩
theorem wf_RX12_171 : zF RX12 171 12 73 := ⟨by decide, by decide, Or.inl (z_mem (z_m6 174 rfl) rfl)⟩
theorem wf_RX12_37 : zF RX12 37 12 17 := ⟨by decide, by decide, Or.inl (z_mem (z_m6 118 rfl) rfl)⟩
theorem zl_RX12_289 : zlink RX12 289 yX12_bounded := Or.inl (z_mem (z_m7 142 rfl) rfl)
theorem zl_RX12_293 : zlink RX12 293 yX12_must := Or.inl (z_mem (z_m7 150 rfl) rfl)
theorem zl_RX12_296 : zlink RX12 296 yX12_roomFor := Or.inl (z_mem (z_m7 154 rfl) rfl)
theorem zl_RX12_299 : zlink RX12 299 yX12_tellMan := Or.inl (z_mem (z_m7 158 rfl) rfl)
theorem zl_RX12_302 : zlink RX12 302 yX12_known := Or.inl (z_mem (z_m7 170 rfl) rfl)
theorem zl_RX12_306 : zlink RX12 306 yX12_tellLaw := Or.inl (z_mem (z_m7 174 rfl) rfl)
theorem zl_RX12_309 : zlink RX12 309 yX12_tellErrand := Or.inl (z_mem (z_m7 198 rfl) rfl)
theorem zl_RX12_312 : zlink RX12 312 yX12_tellPillar := Or.inl (z_mem (z_m7 202 rfl) rfl)
theorem wf_RX12_264 : zF RX12 264 12 20 := ⟨by decide, by decide, Or.inl (z_mem (z_m6 121 rfl) rfl)⟩
theorem wf_RX12_40 : zF RX12 40 12 21 := ⟨by decide, by decide, Or.inl (z_mem (z_m6 122 rfl) rfl)⟩
theorem zl_RX12_315 : zlink RX12 315 yX12_manAt := Or.inl (z_mem (z_m7 162 rfl) rfl)
theorem wf_RX12_52 : zF RX12 52 12 25 := ⟨by decide, by decide, Or.inl (z_mem (z_m6 126 rfl) rfl)⟩
theorem wf_RX12_55 : zF RX12 55 12 26 := ⟨by decide, by decide, Or.inl (z_mem (z_m6 127 rfl) rfl)⟩
theorem zl_RX12_318 : zlink RX12 318 yX12_notesCorner := Or.inl (z_mem (z_m7 166 rfl) rfl)
theorem wf_RX12_64 : zF RX12 64 12 29 := ⟨by decide, by decide, Or.inl (z_mem (z_m6 130 rfl) rfl)⟩
theorem wf_RX12_67 : zF RX12 67 12 30 := ⟨by decide, by decide, Or.inl (z_mem (z_m6 131 rfl) rfl)⟩
theorem wf_RX12_73 : zF RX12 73 12 32 := ⟨by decide, by decide, Or.inl (z_mem (z_m6 133 rfl) rfl)⟩
theorem wf_RX12_76 : zF RX12 76 12 33 := ⟨by decide, by decide, Or.inl (z_mem (z_m6 134 rfl) rfl)⟩
theorem wf_RX12_270 : zF RX12 270 12 41 := ⟨by decide, by decide, Or.inl (z_mem (z_m6 142 rfl) rfl)⟩
theorem wf_RX12_97 : zF RX12 97 12 42 := ⟨by decide, by decide, Or.inl (z_mem (z_m6 143 rfl) rfl)⟩
theorem wf_RX12_101 : zF RX12 101 12 43 := ⟨by decide, by decide, Or.inl (z_mem (z_m6 144 rfl) rfl)⟩
theorem wf_RX12_273 : zF RX12 273 12 47 := ⟨by decide, by decide, Or.inl (z_mem (z_m6 148 rfl) rfl)⟩
theorem zl_RX12_322 : zlink RX12 322 yX12_expression := Or.inl (z_mem (z_m7 178 rfl) rfl)
theorem wf_RX12_104 : zF RX12 104 12 44 := ⟨by decide, by decide, Or.inl (z_mem (z_m6 145 rfl) rfl)⟩
theorem zl_RX12_325 : zlink RX12 325 yX12_term := Or.inl (z_mem (z_m7 194 rfl) rfl)
theorem wf_RX12_107 : zF RX12 107 12 45 := ⟨by decide, by decide, Or.inl (z_mem (z_m6 146 rfl) rfl)⟩
theorem wf_RX12_110 : zF RX12 110 12 46 := ⟨by decide, by decide, Or.inl (z_mem (z_m6 147 rfl) rfl)⟩
theorem wf_RX12_113 : zF RX12 113 12 48 := ⟨by decide, by decide, Or.inl (z_mem (z_m6 149 rfl) rfl)⟩
theorem wf_RX12_116 : zF RX12 116 12 49 := ⟨by decide, by decide, Or.inl (z_mem (z_m6 150 rfl) rfl)⟩
theorem wf_RX12_328 : zF RX12 328 12 51 := ⟨by decide, by decide, Or.inl (z_mem (z_m6 152 rfl) rfl)⟩
theorem wf_RX12_119 : zF RX12 119 12 50 := ⟨by decide, by decide, Or.inl (z_mem (z_m6 151 rfl) rfl)⟩
theorem wp_RX12_328 (k0 : zK) : zFput RX12 328 12 51 k0 := ⟨by decide, by decide, (z_mem (z_m6 152 rfl) rfl), Or.inl (by decide +kernel)⟩
theorem zl_RX12_331 : zlink RX12 331 yX12_emit := Or.inl (z_mem (z_m7 186 rfl) rfl)
theorem wf_RX12_255 : zF RX12 255 12 12 := ⟨by decide, by decide, Or.inl (z_mem (z_m6 113 rfl) rfl)⟩
theorem zl_RX12_334 : zlink RX12 334 yX12_unit := Or.inl (z_mem (z_m7 182 rfl) rfl)
theorem zl_RX12_337 : zlink RX12 337 yX12_comesOut := Or.inl (z_mem (z_m7 190 rfl) rfl)
theorem wf_RX12_125 : zF RX12 125 12 53 := ⟨by decide, by decide, Or.inl (z_mem (z_m6 154 rfl) rfl)⟩
theorem wf_RX12_122 : zF RX12 122 12 52 := ⟨by decide, by decide, Or.inl (z_mem (z_m6 153 rfl) rfl)⟩
theorem wp_RX12_341 (k0 : zK) : zFput RX12 341 12 54 k0 := ⟨by decide, by decide, (z_mem (z_m6 155 rfl) rfl), Or.inl (by decide +kernel)⟩
theorem zl_RX12_345 : zlink RX12 345 yX12_in := Or.inl (z_mem (z_m7 218 rfl) rfl)
theorem wf_RX12_131 : zF RX12 131 12 56 := ⟨by decide, by decide, Or.inl (z_mem (z_m6 157 rfl) rfl)⟩
theorem wf_RX12_134 : zF RX12 134 12 57 := ⟨by decide, by decide, Or.inl (z_mem (z_m6 158 rfl) rfl)⟩
theorem wf_RX12_128 : zF RX12 128 12 55 := ⟨by decide, by decide, Or.inl (z_mem (z_m6 156 rfl) rfl)⟩
theorem zk_RX12_349 : Cond.constant RX12 349 (1103515245) ∈ zT := (z_mem (z_m8 14 rfl) rfl)
theorem zl_RX12_350 : zlink RX12 350 yX12_mixed := Or.inl (z_mem (z_m8 11 rfl) rfl)
theorem zl_RX12_353 : zlink RX12 353 yX12_termOf := Or.inl (z_mem (z_m7 237 rfl) rfl)
