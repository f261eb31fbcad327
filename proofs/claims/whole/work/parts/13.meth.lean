/-! THE METHODS: tuples and static facts (by gen.py) -/
theorem rp_k0 : rp_sh 0 = (4 + 4, 0, [some 1, some 7, some 8, some 9, none]) := by decide +kernel
theorem rp_k1 : rp_sh 1 = (2, 5, [some 2, some 3, some 4, some 5, some 6]) := by decide +kernel
theorem rp_k2 : rp_sh 2 = (0, 12, []) := by decide +kernel
theorem rp_k3 : rp_sh 3 = (0, 12, []) := by decide +kernel
theorem rp_k4 : rp_sh 4 = (0, 12, []) := by decide +kernel
theorem rp_k5 : rp_sh 5 = (0, 12, []) := by decide +kernel
theorem rp_k6 : rp_sh 6 = (0, 12, []) := by decide +kernel
theorem rp_k7 : rp_sh 7 = (0, 12, []) := by decide +kernel
theorem rp_k8 : rp_sh 8 = (0, 12, []) := by decide +kernel
theorem rp_k9 : rp_sh 9 = (0, 3, []) := by decide +kernel
theorem rp_k130 : rp_sh 130 = (3, 12, [some 10, some 20, some 30, some 40, some 50, some 60, some 70, some 80, some 90, some 100, some 110, some 120]) := by decide +kernel
theorem rp_k131 : rp_sh 131 = (1 + 4, 0, [some 132, none, some 133, none, none]) := by decide +kernel
theorem rp_k132 : rp_sh 132 = (0, 80, []) := by decide +kernel
theorem rp_k133 : rp_sh 133 = (2, 5, [some 134, some 135, some 136, some 137, some 138]) := by decide +kernel
theorem rp_k134 : rp_sh 134 = (0, 20, []) := by decide +kernel
theorem rp_k135 : rp_sh 135 = (0, 20, []) := by decide +kernel
theorem rp_k136 : rp_sh 136 = (0, 20, []) := by decide +kernel
theorem rp_k137 : rp_sh 137 = (0, 20, []) := by decide +kernel
theorem rp_k138 : rp_sh 138 = (0, 20, []) := by decide +kernel
theorem rp_k139 : rp_sh 139 = (0 + 4, 0, [some 140, some 141, some 142, some 143, some 144, some 145, some 146, none, none, none]) := by decide +kernel
theorem rp_k140 : rp_sh 140 = (0, 4096, []) := by decide +kernel
theorem rp_k141 : rp_sh 141 = (0, 4096, []) := by decide +kernel
theorem rp_k142 : rp_sh 142 = (0, 4096, []) := by decide +kernel
theorem rp_k143 : rp_sh 143 = (0, 4096, []) := by decide +kernel
theorem rp_k144 : rp_sh 144 = (0, 4096, []) := by decide +kernel
theorem rp_k145 : rp_sh 145 = (0, 12, []) := by decide +kernel
theorem rp_k146 : rp_sh 146 = (0, 12, []) := by decide +kernel
theorem rp_k147 : rp_sh 147 = (3 + 4, 0, [some 148, none]) := by decide +kernel
theorem rp_k148 : rp_sh 148 = (0, 10000, []) := by decide +kernel
theorem rp_k149 : rp_sh 149 = (2 + 4, 0, [some 150, some 151, some 152, some 153, none]) := by decide +kernel
theorem rp_k150 : rp_sh 150 = (0, 4096, []) := by decide +kernel
theorem rp_k151 : rp_sh 151 = (0, 4096, []) := by decide +kernel
theorem rp_k152 : rp_sh 152 = (0, 4096, []) := by decide +kernel
theorem rp_k153 : rp_sh 153 = (0, 12, []) := by decide +kernel
theorem rp_k154 : rp_sh 154 = (5 + 4, 0, [some 0, some 130, none, none, some 131, some 139, some 147, some 149]) := by decide +kernel
theorem rp_k155 : rp_sh 155 = (6 + 4, 0, [some 156, some 157, none, some 158, none, none, none, some 159, none, some 160, some 161, some 162, some 163, some 164, none, some 165, some 166, some 167, some 168, some 169, none]) := by decide +kernel
theorem rp_k156 : rp_sh 156 = (0, 88, []) := by decide +kernel
theorem rp_k157 : rp_sh 157 = (0, 1056, []) := by decide +kernel
theorem rp_k158 : rp_sh 158 = (0, 80, []) := by decide +kernel
theorem rp_k159 : rp_sh 159 = (0, 120, []) := by decide +kernel
theorem rp_k160 : rp_sh 160 = (0, 4096, []) := by decide +kernel
theorem rp_k161 : rp_sh 161 = (0, 4096, []) := by decide +kernel
theorem rp_k162 : rp_sh 162 = (1, 4096, []) := by decide +kernel
theorem rp_k163 : rp_sh 163 = (0, 4096, []) := by decide +kernel
theorem rp_k164 : rp_sh 164 = (0, 4096, []) := by decide +kernel
theorem rp_k165 : rp_sh 165 = (0, 13, []) := by decide +kernel
theorem rp_k166 : rp_sh 166 = (0, 4096, []) := by decide +kernel
theorem rp_k167 : rp_sh 167 = (0, 4096, []) := by decide +kernel
theorem rp_k168 : rp_sh 168 = (0, 4096, []) := by decide +kernel
theorem rp_k169 : rp_sh 169 = (0, 4096, []) := by decide +kernel
abbrev YX0_sortByChange : rp_Y := (yX0_sortByChange, cX0_sortByChange, 4, none, wsX0_sortByChange, { frames := 0, cells := 0, slots := 0, locals := 0 })
theorem oX0_sortByChange : rp_code YX0_sortByChange := ⟨_, rfl⟩
theorem uX0_sortByChange : rp_name YX0_sortByChange 1 := ⟨by decide +kernel, by decide +kernel, by decide +kernel⟩
abbrev YJ6_bitCount_0f7a4 : rp_Y := (yJ6_bitCount_0f7a4, cJ6_bitCount_0f7a4, 1, (some .int), wsJ6_bitCount_0f7a4, { frames := 0, cells := 0, slots := 0, locals := 0 })
theorem oJ6_bitCount_0f7a4 : rp_code YJ6_bitCount_0f7a4 := ⟨_, rfl⟩
theorem uJ6_bitCount_0f7a4 : rp_name YJ6_bitCount_0f7a4 1 := ⟨by decide +kernel, by decide +kernel, by decide +kernel⟩
abbrev YX0_fillProtected : rp_Y := (yX0_fillProtected, cX0_fillProtected, 12, none, wsX0_fillProtected, { frames := 1, cells := 0, slots := 0, locals := 23 })
theorem oX0_fillProtected : rp_code YX0_fillProtected := ⟨_, rfl⟩
theorem uX0_fillProtected : rp_name YX0_fillProtected 5 := ⟨by decide +kernel, by decide +kernel, by decide +kernel⟩
abbrev YX5_sumUp : rp_Y := (yX5_sumUp, cX5_sumUp, 6, none, wsX5_sumUp, { frames := 0, cells := 0, slots := 0, locals := 0 })
theorem oX5_sumUp : rp_code YX5_sumUp := ⟨_, rfl⟩
theorem uX5_sumUp : rp_name YX5_sumUp 3 := ⟨by decide +kernel, by decide +kernel, by decide +kernel⟩
abbrev YX4_rivals : rp_Y := (yX4_rivals, cX4_rivals, 5, (some .int), wsX4_rivals, { frames := 0, cells := 0, slots := 0, locals := 0 })
theorem oX4_rivals : rp_code YX4_rivals := ⟨_, rfl⟩
theorem uX4_rivals : rp_name YX4_rivals 1 := ⟨by decide +kernel, by decide +kernel, by decide +kernel⟩
abbrev YX0_fillRequired : rp_Y := (yX0_fillRequired, cX0_fillRequired, 6, none, wsX0_fillRequired, { frames := 1, cells := 0, slots := 0, locals := 24 })
theorem oX0_fillRequired : rp_code YX0_fillRequired := ⟨_, rfl⟩
theorem uX0_fillRequired : rp_name YX0_fillRequired 1 := ⟨by decide +kernel, by decide +kernel, by decide +kernel⟩
abbrev YX0_fill : rp_Y := (yX0_fill, cX0_fill, 4, none, wsX0_fill, { frames := 2, cells := 0, slots := 0, locals := 54 })
theorem oX0_fill : rp_code YX0_fill := ⟨_, rfl⟩
theorem uX0_fill : rp_name YX0_fill 3 := ⟨by decide +kernel, by decide +kernel, by decide +kernel⟩
abbrev YX0_fillWeights : rp_Y := (yX0_fillWeights, cX0_fillWeights, 5, none, wsX0_fillWeights, { frames := 2, cells := 0, slots := 0, locals := 60 })
theorem oX0_fillWeights : rp_code YX0_fillWeights := ⟨_, rfl⟩
theorem uX0_fillWeights : rp_name YX0_fillWeights 4 := ⟨by decide +kernel, by decide +kernel, by decide +kernel⟩
abbrev YX0_allows : rp_Y := (yX0_allows, cX0_allows, 2, (some .boolean), wsX0_allows, { frames := 0, cells := 0, slots := 0, locals := 0 })
theorem oX0_allows : rp_code YX0_allows := ⟨_, rfl⟩
theorem uX0_allows : rp_name YX0_allows 1 := ⟨by decide +kernel, by decide +kernel, by decide +kernel⟩
abbrev YX0_stands : rp_Y := (yX0_stands, cX0_stands, 3, (some .boolean), wsX0_stands, { frames := 1, cells := 0, slots := 0, locals := 21 })
theorem oX0_stands : rp_code YX0_stands := ⟨_, rfl⟩
theorem uX0_stands : rp_name YX0_stands 2 := ⟨by decide +kernel, by decide +kernel, by decide +kernel⟩
abbrev YX0_isBefore : rp_Y := (yX0_isBefore, cX0_isBefore, 3, (some .boolean), wsX0_isBefore, { frames := 0, cells := 0, slots := 0, locals := 0 })
theorem oX0_isBefore : rp_code YX0_isBefore := ⟨_, rfl⟩
theorem uX0_isBefore : rp_name YX0_isBefore 2 := ⟨by decide +kernel, by decide +kernel, by decide +kernel⟩
abbrev YX0_first : rp_Y := (yX0_first, cX0_first, 7, (some .int), wsX0_first, { frames := 2, cells := 0, slots := 0, locals := 43 })
theorem oX0_first : rp_code YX0_first := ⟨_, rfl⟩
theorem uX0_first : rp_name YX0_first 3 := ⟨by decide +kernel, by decide +kernel, by decide +kernel⟩
abbrev YX0_firstOfAll : rp_Y := (yX0_firstOfAll, cX0_firstOfAll, 2, (some .int), wsX0_firstOfAll, { frames := 3, cells := 0, slots := 0, locals := 69 })
theorem oX0_firstOfAll : rp_code YX0_firstOfAll := ⟨_, rfl⟩
theorem uX0_firstOfAll : rp_name YX0_firstOfAll 1 := ⟨by decide +kernel, by decide +kernel, by decide +kernel⟩
abbrev YX0_firstNear : rp_Y := (yX0_firstNear, cX0_firstNear, 8, (some .int), wsX0_firstNear, { frames := 2, cells := 0, slots := 0, locals := 43 })
theorem oX0_firstNear : rp_code YX0_firstNear := ⟨_, rfl⟩
theorem uX0_firstNear : rp_name YX0_firstNear 2 := ⟨by decide +kernel, by decide +kernel, by decide +kernel⟩
abbrev YX0_fitting : rp_Y := (yX0_fitting, cX0_fitting, 4, (some .int), wsX0_fitting, { frames := 2, cells := 0, slots := 0, locals := 43 })
theorem oX0_fitting : rp_code YX0_fitting := ⟨_, rfl⟩
theorem uX0_fitting : rp_name YX0_fitting 1 := ⟨by decide +kernel, by decide +kernel, by decide +kernel⟩
abbrev YX0_shiftedProfit : rp_Y := (yX0_shiftedProfit, cX0_shiftedProfit, 2, (some .int), wsX0_shiftedProfit, { frames := 0, cells := 0, slots := 0, locals := 0 })
theorem oX0_shiftedProfit : rp_code YX0_shiftedProfit := ⟨_, rfl⟩
theorem uX0_shiftedProfit : rp_name YX0_shiftedProfit 1 := ⟨by decide +kernel, by decide +kernel, by decide +kernel⟩
abbrev YX1_lengthOf : rp_Y := (yX1_lengthOf, cX1_lengthOf, 7, (some .int), wsX1_lengthOf, { frames := 0, cells := 0, slots := 0, locals := 0 })
theorem oX1_lengthOf : rp_code YX1_lengthOf := ⟨_, rfl⟩
theorem uX1_lengthOf : rp_name YX1_lengthOf 1 := ⟨by decide +kernel, by decide +kernel, by decide +kernel⟩
abbrev YX1_append : rp_Y := (yX1_append, cX1_append, 5, none, wsX1_append, { frames := 0, cells := 0, slots := 0, locals := 0 })
theorem oX1_append : rp_code YX1_append := ⟨_, rfl⟩
theorem uX1_append : rp_name YX1_append 2 := ⟨by decide +kernel, by decide +kernel, by decide +kernel⟩
abbrev YX1_digit : rp_Y := (yX1_digit, cX1_digit, 1, (some .int), wsX1_digit, { frames := 0, cells := 0, slots := 0, locals := 0 })
theorem oX1_digit : rp_code YX1_digit := ⟨_, rfl⟩
theorem uX1_digit : rp_name YX1_digit 0 := ⟨by decide +kernel, by decide +kernel, by decide +kernel⟩
abbrev YX1_readNumber : rp_Y := (yX1_readNumber, cX1_readNumber, 5, (some .boolean), wsX1_readNumber, { frames := 1, cells := 0, slots := 0, locals := 20 })
theorem oX1_readNumber : rp_code YX1_readNumber := ⟨_, rfl⟩
theorem uX1_readNumber : rp_name YX1_readNumber 2 := ⟨by decide +kernel, by decide +kernel, by decide +kernel⟩
abbrev YX1_accept : rp_Y := (yX1_accept, cX1_accept, 2, (some .boolean), wsX1_accept, { frames := 0, cells := 0, slots := 0, locals := 0 })
theorem oX1_accept : rp_code YX1_accept := ⟨_, rfl⟩
theorem uX1_accept : rp_name YX1_accept 1 := ⟨by decide +kernel, by decide +kernel, by decide +kernel⟩
abbrev YX1_readDeviation : rp_Y := (yX1_readDeviation, cX1_readDeviation, 3, (some .boolean), wsX1_readDeviation, { frames := 2, cells := 0, slots := 0, locals := 44 })
theorem oX1_readDeviation : rp_code YX1_readDeviation := ⟨_, rfl⟩
theorem uX1_readDeviation : rp_name YX1_readDeviation 2 := ⟨by decide +kernel, by decide +kernel, by decide +kernel⟩
abbrev YX1_readGroup : rp_Y := (yX1_readGroup, cX1_readGroup, 2, (some .boolean), wsX1_readGroup, { frames := 1, cells := 0, slots := 0, locals := 21 })
theorem oX1_readGroup : rp_code YX1_readGroup := ⟨_, rfl⟩
theorem uX1_readGroup : rp_name YX1_readGroup 0 := ⟨by decide +kernel, by decide +kernel, by decide +kernel⟩
abbrev YX1_readItem : rp_Y := (yX1_readItem, cX1_readItem, 1, (some .boolean), wsX1_readItem, { frames := 3, cells := 0, slots := 0, locals := 66 })
theorem oX1_readItem : rp_code YX1_readItem := ⟨_, rfl⟩
theorem uX1_readItem : rp_name YX1_readItem 0 := ⟨by decide +kernel, by decide +kernel, by decide +kernel⟩
abbrev YX1_read : rp_Y := (yX1_read, cX1_read, 2, (some .boolean), wsX1_read, { frames := 4, cells := 0, slots := 0, locals := 86 })
theorem oX1_read : rp_code YX1_read := ⟨_, rfl⟩
theorem uX1_read : rp_name YX1_read 0 := ⟨by decide +kernel, by decide +kernel, by decide +kernel⟩
abbrev YX2_collect : rp_Y := (yX2_collect, cX2_collect, 7, none, wsX2_collect, { frames := 1, cells := 0, slots := 0, locals := 25 })
theorem oX2_collect : rp_code YX2_collect := ⟨_, rfl⟩
theorem uX2_collect : rp_name YX2_collect 4 := ⟨by decide +kernel, by decide +kernel, by decide +kernel⟩
abbrev YX2_profitIn : rp_Y := (yX2_profitIn, cX2_profitIn, 8, (some .int), wsX2_profitIn, { frames := 0, cells := 0, slots := 0, locals := 0 })
theorem oX2_profitIn : rp_code YX2_profitIn := ⟨_, rfl⟩
theorem uX2_profitIn : rp_name YX2_profitIn 4 := ⟨by decide +kernel, by decide +kernel, by decide +kernel⟩
abbrev YX2_plainValue : rp_Y := (yX2_plainValue, cX2_plainValue, 7, (some .int), wsX2_plainValue, { frames := 1, cells := 0, slots := 0, locals := 30 })
theorem oX2_plainValue : rp_code YX2_plainValue := ⟨_, rfl⟩
theorem uX2_plainValue : rp_name YX2_plainValue 4 := ⟨by decide +kernel, by decide +kernel, by decide +kernel⟩
abbrev YX3_clear : rp_Y := (yX3_clear, cX3_clear, 5, (some .int), wsX3_clear, { frames := 1, cells := 0, slots := 0, locals := 30 })
theorem oX3_clear : rp_code YX3_clear := ⟨_, rfl⟩
theorem uX3_clear : rp_name YX3_clear 2 := ⟨by decide +kernel, by decide +kernel, by decide +kernel⟩
abbrev YX3_offer : rp_Y := (yX3_offer, cX3_offer, 4, none, wsX3_offer, { frames := 0, cells := 0, slots := 0, locals := 0 })
theorem oX3_offer : rp_code YX3_offer := ⟨_, rfl⟩
theorem uX3_offer : rp_name YX3_offer 3 := ⟨by decide +kernel, by decide +kernel, by decide +kernel⟩
abbrev YX3_keepRising : rp_Y := (yX3_keepRising, cX3_keepRising, 5, none, wsX3_keepRising, { frames := 0, cells := 0, slots := 0, locals := 0 })
theorem oX3_keepRising : rp_code YX3_keepRising := ⟨_, rfl⟩
theorem uX3_keepRising : rp_name YX3_keepRising 2 := ⟨by decide +kernel, by decide +kernel, by decide +kernel⟩
abbrev YX3_buildFrontier : rp_Y := (yX3_buildFrontier, cX3_buildFrontier, 4, none, wsX3_buildFrontier, { frames := 2, cells := 0, slots := 0, locals := 54 })
theorem oX3_buildFrontier : rp_code YX3_buildFrontier := ⟨_, rfl⟩
theorem uX3_buildFrontier : rp_name YX3_buildFrontier 1 := ⟨by decide +kernel, by decide +kernel, by decide +kernel⟩
abbrev YX3_buildList : rp_Y := (yX3_buildList, cX3_buildList, 7, none, wsX3_buildList, { frames := 2, cells := 0, slots := 0, locals := 54 })
theorem oX3_buildList : rp_code YX3_buildList := ⟨_, rfl⟩
theorem uX3_buildList : rp_name YX3_buildList 3 := ⟨by decide +kernel, by decide +kernel, by decide +kernel⟩
abbrev YX3_stepAt : rp_Y := (yX3_stepAt, cX3_stepAt, 2, (some .int), wsX3_stepAt, { frames := 0, cells := 0, slots := 0, locals := 0 })
theorem oX3_stepAt : rp_code YX3_stepAt := ⟨_, rfl⟩
theorem uX3_stepAt : rp_name YX3_stepAt 1 := ⟨by decide +kernel, by decide +kernel, by decide +kernel⟩
abbrev YX3_firstWith : rp_Y := (yX3_firstWith, cX3_firstWith, 4, (some .int), wsX3_firstWith, { frames := 0, cells := 0, slots := 0, locals := 0 })
theorem oX3_firstWith : rp_code YX3_firstWith := ⟨_, rfl⟩
theorem uX3_firstWith : rp_name YX3_firstWith 2 := ⟨by decide +kernel, by decide +kernel, by decide +kernel⟩
abbrev YX4_copyFrom : rp_Y := (yX4_copyFrom, cX4_copyFrom, 3, none, wsX4_copyFrom, { frames := 1, cells := 0, slots := 0, locals := 60 })
theorem oX4_copyFrom : rp_code YX4_copyFrom := ⟨_, rfl⟩
theorem uX4_copyFrom : rp_name YX4_copyFrom 1 := ⟨by decide +kernel, by decide +kernel, by decide +kernel⟩
abbrev YX4_append : rp_Y := (yX4_append, cX4_append, 6, none, wsX4_append, { frames := 0, cells := 0, slots := 0, locals := 0 })
theorem oX4_append : rp_code YX4_append := ⟨_, rfl⟩
theorem uX4_append : rp_name YX4_append 5 := ⟨by decide +kernel, by decide +kernel, by decide +kernel⟩
abbrev YX4_closeGap : rp_Y := (yX4_closeGap, cX4_closeGap, 3, (some .int), wsX4_closeGap, { frames := 0, cells := 0, slots := 0, locals := 0 })
theorem oX4_closeGap : rp_code YX4_closeGap := ⟨_, rfl⟩
theorem uX4_closeGap : rp_name YX4_closeGap 2 := ⟨by decide +kernel, by decide +kernel, by decide +kernel⟩
abbrev YX4_takeOut : rp_Y := (yX4_takeOut, cX4_takeOut, 4, none, wsX4_takeOut, { frames := 1, cells := 0, slots := 0, locals := 22 })
theorem oX4_takeOut : rp_code YX4_takeOut := ⟨_, rfl⟩
theorem uX4_takeOut : rp_name YX4_takeOut 1 := ⟨by decide +kernel, by decide +kernel, by decide +kernel⟩
abbrev YX4_neededBy : rp_Y := (yX4_neededBy, cX4_neededBy, 4, (some .int), wsX4_neededBy, { frames := 0, cells := 0, slots := 0, locals := 0 })
theorem oX4_neededBy : rp_code YX4_neededBy := ⟨_, rfl⟩
theorem uX4_neededBy : rp_name YX4_neededBy 1 := ⟨by decide +kernel, by decide +kernel, by decide +kernel⟩
abbrev YX4_bitsIn : rp_Y := (yX4_bitsIn, cX4_bitsIn, 4, (some .int), wsX4_bitsIn, { frames := 1, cells := 0, slots := 0, locals := 20 })
theorem oX4_bitsIn : rp_code YX4_bitsIn := ⟨_, rfl⟩
theorem uX4_bitsIn : rp_name YX4_bitsIn 1 := ⟨by decide +kernel, by decide +kernel, by decide +kernel⟩
abbrev YX4_sumOf : rp_Y := (yX4_sumOf, cX4_sumOf, 5, (some .int), wsX4_sumOf, { frames := 0, cells := 0, slots := 0, locals := 0 })
theorem oX4_sumOf : rp_code YX4_sumOf := ⟨_, rfl⟩
theorem uX4_sumOf : rp_name YX4_sumOf 2 := ⟨by decide +kernel, by decide +kernel, by decide +kernel⟩
abbrev YX4_weightUnder : rp_Y := (yX4_weightUnder, cX4_weightUnder, 3, (some .int), wsX4_weightUnder, { frames := 1, cells := 0, slots := 0, locals := 24 })
theorem oX4_weightUnder : rp_code YX4_weightUnder := ⟨_, rfl⟩
theorem uX4_weightUnder : rp_name YX4_weightUnder 2 := ⟨by decide +kernel, by decide +kernel, by decide +kernel⟩
abbrev YX4_profitUnder : rp_Y := (yX4_profitUnder, cX4_profitUnder, 3, (some .int), wsX4_profitUnder, { frames := 1, cells := 0, slots := 0, locals := 24 })
theorem oX4_profitUnder : rp_code YX4_profitUnder := ⟨_, rfl⟩
theorem uX4_profitUnder : rp_name YX4_profitUnder 2 := ⟨by decide +kernel, by decide +kernel, by decide +kernel⟩
abbrev YX4_worst : rp_Y := (yX4_worst, cX4_worst, 10, (some .int), wsX4_worst, { frames := 0, cells := 0, slots := 0, locals := 0 })
theorem oX4_worst : rp_code YX4_worst := ⟨_, rfl⟩
theorem uX4_worst : rp_name YX4_worst 3 := ⟨by decide +kernel, by decide +kernel, by decide +kernel⟩
abbrev YX4_isMoreFruitful : rp_Y := (yX4_isMoreFruitful, cX4_isMoreFruitful, 5, (some .boolean), wsX4_isMoreFruitful, { frames := 0, cells := 0, slots := 0, locals := 0 })
theorem oX4_isMoreFruitful : rp_code YX4_isMoreFruitful := ⟨_, rfl⟩
theorem uX4_isMoreFruitful : rp_name YX4_isMoreFruitful 2 := ⟨by decide +kernel, by decide +kernel, by decide +kernel⟩
abbrev YX4_mostFruitful : rp_Y := (yX4_mostFruitful, cX4_mostFruitful, 5, (some .int), wsX4_mostFruitful, { frames := 1, cells := 0, slots := 0, locals := 30 })
theorem oX4_mostFruitful : rp_code YX4_mostFruitful := ⟨_, rfl⟩
theorem uX4_mostFruitful : rp_name YX4_mostFruitful 1 := ⟨by decide +kernel, by decide +kernel, by decide +kernel⟩
abbrev YX4_thresholdBelow : rp_Y := (yX4_thresholdBelow, cX4_thresholdBelow, 5, (some .int), wsX4_thresholdBelow, { frames := 0, cells := 0, slots := 0, locals := 0 })
theorem oX4_thresholdBelow : rp_code YX4_thresholdBelow := ⟨_, rfl⟩
theorem uX4_thresholdBelow : rp_name YX4_thresholdBelow 1 := ⟨by decide +kernel, by decide +kernel, by decide +kernel⟩
abbrev YX5_inRange : rp_Y := (yX5_inRange, cX5_inRange, 2, (some .boolean), wsX5_inRange, { frames := 0, cells := 0, slots := 0, locals := 0 })
theorem oX5_inRange : rp_code YX5_inRange := ⟨_, rfl⟩
theorem uX5_inRange : rp_name YX5_inRange 2 := ⟨by decide +kernel, by decide +kernel, by decide +kernel⟩
abbrev YX5_remember : rp_Y := (yX5_remember, cX5_remember, 1, none, wsX5_remember, { frames := 2, cells := 0, slots := 0, locals := 82 })
theorem oX5_remember : rp_code YX5_remember := ⟨_, rfl⟩
theorem uX5_remember : rp_name YX5_remember 0 := ⟨by decide +kernel, by decide +kernel, by decide +kernel⟩
abbrev YX5_add : rp_Y := (yX5_add, cX5_add, 5, (some .int), wsX5_add, { frames := 3, cells := 0, slots := 0, locals := 102 })
theorem oX5_add : rp_code YX5_add := ⟨_, rfl⟩
theorem uX5_add : rp_name YX5_add 4 := ⟨by decide +kernel, by decide +kernel, by decide +kernel⟩
abbrev YX5_exists : rp_Y := (yX5_exists, cX5_exists, 2, (some .boolean), wsX5_exists, { frames := 0, cells := 0, slots := 0, locals := 0 })
theorem oX5_exists : rp_code YX5_exists := ⟨_, rfl⟩
theorem uX5_exists : rp_name YX5_exists 1 := ⟨by decide +kernel, by decide +kernel, by decide +kernel⟩
abbrev YX5_remove : rp_Y := (yX5_remove, cX5_remove, 2, (some .int), wsX5_remove, { frames := 3, cells := 0, slots := 0, locals := 102 })
theorem oX5_remove : rp_code YX5_remove := ⟨_, rfl⟩
theorem uX5_remove : rp_name YX5_remove 1 := ⟨by decide +kernel, by decide +kernel, by decide +kernel⟩
abbrev YX5_propertyOf : rp_Y := (yX5_propertyOf, cX5_propertyOf, 4, (some .int), wsX5_propertyOf, { frames := 0, cells := 0, slots := 0, locals := 0 })
theorem oX5_propertyOf : rp_code YX5_propertyOf := ⟨_, rfl⟩
theorem uX5_propertyOf : rp_name YX5_propertyOf 2 := ⟨by decide +kernel, by decide +kernel, by decide +kernel⟩
abbrev YX5_set : rp_Y := (yX5_set, cX5_set, 5, (some .int), wsX5_set, { frames := 3, cells := 0, slots := 0, locals := 102 })
theorem oX5_set : rp_code YX5_set := ⟨_, rfl⟩
theorem uX5_set : rp_name YX5_set 3 := ⟨by decide +kernel, by decide +kernel, by decide +kernel⟩
abbrev YX5_item : rp_Y := (yX5_item, cX5_item, 3, (some .int), wsX5_item, { frames := 1, cells := 0, slots := 0, locals := 23 })
theorem oX5_item : rp_code YX5_item := ⟨_, rfl⟩
theorem uX5_item : rp_name YX5_item 2 := ⟨by decide +kernel, by decide +kernel, by decide +kernel⟩
abbrev YX5_pairError : rp_Y := (yX5_pairError, cX5_pairError, 3, (some .int), wsX5_pairError, { frames := 1, cells := 0, slots := 0, locals := 21 })
theorem oX5_pairError : rp_code YX5_pairError := ⟨_, rfl⟩
theorem uX5_pairError : rp_name YX5_pairError 2 := ⟨by decide +kernel, by decide +kernel, by decide +kernel⟩
abbrev YX5_conflict : rp_Y := (yX5_conflict, cX5_conflict, 4, (some .int), wsX5_conflict, { frames := 3, cells := 0, slots := 0, locals := 102 })
theorem oX5_conflict : rp_code YX5_conflict := ⟨_, rfl⟩
theorem uX5_conflict : rp_name YX5_conflict 2 := ⟨by decide +kernel, by decide +kernel, by decide +kernel⟩
abbrev YX5_need : rp_Y := (yX5_need, cX5_need, 4, (some .int), wsX5_need, { frames := 3, cells := 0, slots := 0, locals := 102 })
theorem oX5_need : rp_code YX5_need := ⟨_, rfl⟩
theorem uX5_need : rp_name YX5_need 2 := ⟨by decide +kernel, by decide +kernel, by decide +kernel⟩
abbrev YX5_rule : rp_Y := (yX5_rule, cX5_rule, 4, (some .int), wsX5_rule, { frames := 3, cells := 0, slots := 0, locals := 102 })
theorem oX5_rule : rp_code YX5_rule := ⟨_, rfl⟩
theorem uX5_rule : rp_name YX5_rule 2 := ⟨by decide +kernel, by decide +kernel, by decide +kernel⟩
abbrev YX5_put : rp_Y := (yX5_put, cX5_put, 4, (some .int), wsX5_put, { frames := 1, cells := 0, slots := 0, locals := 26 })
theorem oX5_put : rp_code YX5_put := ⟨_, rfl⟩
theorem uX5_put : rp_name YX5_put 1 := ⟨by decide +kernel, by decide +kernel, by decide +kernel⟩
abbrev YX5_wipe : rp_Y := (yX5_wipe, cX5_wipe, 2, (some .int), wsX5_wipe, { frames := 0, cells := 0, slots := 0, locals := 0 })
theorem oX5_wipe : rp_code YX5_wipe := ⟨_, rfl⟩
theorem uX5_wipe : rp_name YX5_wipe 0 := ⟨by decide +kernel, by decide +kernel, by decide +kernel⟩
abbrev YX5_fault : rp_Y := (yX5_fault, cX5_fault, 1, (some .int), wsX5_fault, { frames := 5, cells := 0, slots := 0, locals := 107 })
theorem oX5_fault : rp_code YX5_fault := ⟨_, rfl⟩
theorem uX5_fault : rp_name YX5_fault 0 := ⟨by decide +kernel, by decide +kernel, by decide +kernel⟩
abbrev YX5_load : rp_Y := (yX5_load, cX5_load, 2, (some .int), wsX5_load, { frames := 5, cells := 0, slots := 0, locals := 107 })
theorem oX5_load : rp_code YX5_load := ⟨_, rfl⟩
theorem uX5_load : rp_name YX5_load 0 := ⟨by decide +kernel, by decide +kernel, by decide +kernel⟩
abbrev YX5_isChoice : rp_Y := (yX5_isChoice, cX5_isChoice, 2, (some .boolean), wsX5_isChoice, { frames := 0, cells := 0, slots := 0, locals := 0 })
theorem oX5_isChoice : rp_code YX5_isChoice := ⟨_, rfl⟩
theorem uX5_isChoice : rp_name YX5_isChoice 1 := ⟨by decide +kernel, by decide +kernel, by decide +kernel⟩
abbrev YX5_budget : rp_Y := (yX5_budget, cX5_budget, 2, (some .int), wsX5_budget, { frames := 0, cells := 0, slots := 0, locals := 0 })
theorem oX5_budget : rp_code YX5_budget := ⟨_, rfl⟩
theorem uX5_budget : rp_name YX5_budget 1 := ⟨by decide +kernel, by decide +kernel, by decide +kernel⟩
abbrev YX5_protectedWeight : rp_Y := (yX5_protectedWeight, cX5_protectedWeight, 3, (some .int), wsX5_protectedWeight, { frames := 2, cells := 0, slots := 0, locals := 46 })
theorem oX5_protectedWeight : rp_code YX5_protectedWeight := ⟨_, rfl⟩
theorem uX5_protectedWeight : rp_name YX5_protectedWeight 2 := ⟨by decide +kernel, by decide +kernel, by decide +kernel⟩
abbrev YX5_worstProfitScenario : rp_Y := (yX5_worstProfitScenario, cX5_worstProfitScenario, 2, (some .int), wsX5_worstProfitScenario, { frames := 1, cells := 0, slots := 0, locals := 29 })
theorem oX5_worstProfitScenario : rp_code YX5_worstProfitScenario := ⟨_, rfl⟩
theorem uX5_worstProfitScenario : rp_name YX5_worstProfitScenario 1 := ⟨by decide +kernel, by decide +kernel, by decide +kernel⟩
abbrev YX5_prepare : rp_Y := (yX5_prepare, cX5_prepare, 1, none, wsX5_prepare, { frames := 3, cells := 0, slots := 0, locals := 77 })
theorem oX5_prepare : rp_code YX5_prepare := ⟨_, rfl⟩
theorem uX5_prepare : rp_name YX5_prepare 0 := ⟨by decide +kernel, by decide +kernel, by decide +kernel⟩
abbrev YX5_capacity : rp_Y := (yX5_capacity, cX5_capacity, 1, (some .int), wsX5_capacity, { frames := 0, cells := 0, slots := 0, locals := 0 })
theorem oX5_capacity : rp_code YX5_capacity := ⟨_, rfl⟩
theorem uX5_capacity : rp_name YX5_capacity 0 := ⟨by decide +kernel, by decide +kernel, by decide +kernel⟩
abbrev YX5_greatestBudget : rp_Y := (yX5_greatestBudget, cX5_greatestBudget, 3, (some .int), wsX5_greatestBudget, { frames := 3, cells := 0, slots := 0, locals := 68 })
theorem oX5_greatestBudget : rp_code YX5_greatestBudget := ⟨_, rfl⟩
theorem uX5_greatestBudget : rp_name YX5_greatestBudget 1 := ⟨by decide +kernel, by decide +kernel, by decide +kernel⟩
abbrev YX5_choice : rp_Y := (yX5_choice, cX5_choice, 3, (some .int), wsX5_choice, { frames := 4, cells := 0, slots := 0, locals := 97 })
theorem oX5_choice : rp_code YX5_choice := ⟨_, rfl⟩
theorem uX5_choice : rp_name YX5_choice 2 := ⟨by decide +kernel, by decide +kernel, by decide +kernel⟩
abbrev YX5_weightIn : rp_Y := (yX5_weightIn, cX5_weightIn, 3, (some .int), wsX5_weightIn, { frames := 2, cells := 0, slots := 0, locals := 46 })
theorem oX5_weightIn : rp_code YX5_weightIn := ⟨_, rfl⟩
theorem uX5_weightIn : rp_name YX5_weightIn 2 := ⟨by decide +kernel, by decide +kernel, by decide +kernel⟩
abbrev YX5_amongBest : rp_Y := (yX5_amongBest, cX5_amongBest, 8, (some .int), wsX5_amongBest, { frames := 2, cells := 0, slots := 0, locals := 43 })
theorem oX5_amongBest : rp_code YX5_amongBest := ⟨_, rfl⟩
theorem uX5_amongBest : rp_name YX5_amongBest 2 := ⟨by decide +kernel, by decide +kernel, by decide +kernel⟩
abbrev YX5_best : rp_Y := (yX5_best, cX5_best, 3, (some .int), wsX5_best, { frames := 4, cells := 0, slots := 0, locals := 97 })
theorem oX5_best : rp_code YX5_best := ⟨_, rfl⟩
theorem uX5_best : rp_name YX5_best 1 := ⟨by decide +kernel, by decide +kernel, by decide +kernel⟩
abbrev YX5_isBudget : rp_Y := (yX5_isBudget, cX5_isBudget, 1, (some .boolean), wsX5_isBudget, { frames := 0, cells := 0, slots := 0, locals := 0 })
theorem oX5_isBudget : rp_code YX5_isBudget := ⟨_, rfl⟩
theorem uX5_isBudget : rp_name YX5_isBudget 1 := ⟨by decide +kernel, by decide +kernel, by decide +kernel⟩
abbrev YX5_bestWith : rp_Y := (yX5_bestWith, cX5_bestWith, 4, (some .int), wsX5_bestWith, { frames := 4, cells := 0, slots := 0, locals := 90 })
theorem oX5_bestWith : rp_code YX5_bestWith := ⟨_, rfl⟩
theorem uX5_bestWith : rp_name YX5_bestWith 3 := ⟨by decide +kernel, by decide +kernel, by decide +kernel⟩
abbrev YX5_leastCapacity : rp_Y := (yX5_leastCapacity, cX5_leastCapacity, 4, (some .int), wsX5_leastCapacity, { frames := 4, cells := 0, slots := 0, locals := 97 })
theorem oX5_leastCapacity : rp_code YX5_leastCapacity := ⟨_, rfl⟩
theorem uX5_leastCapacity : rp_name YX5_leastCapacity 1 := ⟨by decide +kernel, by decide +kernel, by decide +kernel⟩
abbrev YX5_staysBest : rp_Y := (yX5_staysBest, cX5_staysBest, 4, (some .boolean), wsX5_staysBest, { frames := 4, cells := 0, slots := 0, locals := 90 })
theorem oX5_staysBest : rp_code YX5_staysBest := ⟨_, rfl⟩
theorem uX5_staysBest : rp_name YX5_staysBest 3 := ⟨by decide +kernel, by decide +kernel, by decide +kernel⟩
abbrev YX5_headroom : rp_Y := (yX5_headroom, cX5_headroom, 6, (some .int), wsX5_headroom, { frames := 5, cells := 0, slots := 0, locals := 113 })
theorem oX5_headroom : rp_code YX5_headroom := ⟨_, rfl⟩
theorem uX5_headroom : rp_name YX5_headroom 1 := ⟨by decide +kernel, by decide +kernel, by decide +kernel⟩
abbrev YX5_greedy : rp_Y := (yX5_greedy, cX5_greedy, 6, (some .int), wsX5_greedy, { frames := 4, cells := 0, slots := 0, locals := 97 })
theorem oX5_greedy : rp_code YX5_greedy := ⟨_, rfl⟩
theorem uX5_greedy : rp_name YX5_greedy 1 := ⟨by decide +kernel, by decide +kernel, by decide +kernel⟩
abbrev YX5_forced : rp_Y := (yX5_forced, cX5_forced, 5, (some .int), wsX5_forced, { frames := 4, cells := 0, slots := 0, locals := 97 })
theorem oX5_forced : rp_code YX5_forced := ⟨_, rfl⟩
theorem uX5_forced : rp_name YX5_forced 3 := ⟨by decide +kernel, by decide +kernel, by decide +kernel⟩
abbrev YX5_frontier : rp_Y := (yX5_frontier, cX5_frontier, 4, (some .int), wsX5_frontier, { frames := 4, cells := 0, slots := 0, locals := 97 })
theorem oX5_frontier : rp_code YX5_frontier := ⟨_, rfl⟩
theorem uX5_frontier : rp_name YX5_frontier 2 := ⟨by decide +kernel, by decide +kernel, by decide +kernel⟩
abbrev YX5_improve : rp_Y := (yX5_improve, cX5_improve, 7, (some .int), wsX5_improve, { frames := 4, cells := 0, slots := 0, locals := 97 })
theorem oX5_improve : rp_code YX5_improve := ⟨_, rfl⟩
theorem uX5_improve : rp_name YX5_improve 2 := ⟨by decide +kernel, by decide +kernel, by decide +kernel⟩
abbrev YX5_isLevel : rp_Y := (yX5_isLevel, cX5_isLevel, 2, (some .boolean), wsX5_isLevel, { frames := 0, cells := 0, slots := 0, locals := 0 })
theorem oX5_isLevel : rp_code YX5_isLevel := ⟨_, rfl⟩
theorem uX5_isLevel : rp_name YX5_isLevel 1 := ⟨by decide +kernel, by decide +kernel, by decide +kernel⟩
abbrev YX5_list : rp_Y := (yX5_list, cX5_list, 3, (some .int), wsX5_list, { frames := 4, cells := 0, slots := 0, locals := 97 })
theorem oX5_list : rp_code YX5_list := ⟨_, rfl⟩
theorem uX5_list : rp_name YX5_list 2 := ⟨by decide +kernel, by decide +kernel, by decide +kernel⟩
abbrev YX5_dominator : rp_Y := (yX5_dominator, cX5_dominator, 4, (some .int), wsX5_dominator, { frames := 4, cells := 0, slots := 0, locals := 97 })
theorem oX5_dominator : rp_code YX5_dominator := ⟨_, rfl⟩
theorem uX5_dominator : rp_name YX5_dominator 2 := ⟨by decide +kernel, by decide +kernel, by decide +kernel⟩
abbrev YX5_thresholds : rp_Y := (yX5_thresholds, cX5_thresholds, 4, (some .int), wsX5_thresholds, { frames := 1, cells := 0, slots := 0, locals := 24 })
theorem oX5_thresholds : rp_code YX5_thresholds := ⟨_, rfl⟩
theorem uX5_thresholds : rp_name YX5_thresholds 0 := ⟨by decide +kernel, by decide +kernel, by decide +kernel⟩
abbrev YX5_thresholdAt : rp_Y := (yX5_thresholdAt, cX5_thresholdAt, 4, (some .int), wsX5_thresholdAt, { frames := 1, cells := 0, slots := 0, locals := 24 })
theorem oX5_thresholdAt : rp_code YX5_thresholdAt := ⟨_, rfl⟩
theorem uX5_thresholdAt : rp_name YX5_thresholdAt 1 := ⟨by decide +kernel, by decide +kernel, by decide +kernel⟩
abbrev YX5_threshold : rp_Y := (yX5_threshold, cX5_threshold, 2, (some .int), wsX5_threshold, { frames := 2, cells := 0, slots := 0, locals := 47 })
theorem oX5_threshold : rp_code YX5_threshold := ⟨_, rfl⟩
theorem uX5_threshold : rp_name YX5_threshold 1 := ⟨by decide +kernel, by decide +kernel, by decide +kernel⟩
abbrev YX5_plain : rp_Y := (yX5_plain, cX5_plain, 4, (some .int), wsX5_plain, { frames := 4, cells := 0, slots := 0, locals := 97 })
theorem oX5_plain : rp_code YX5_plain := ⟨_, rfl⟩
theorem uX5_plain : rp_name YX5_plain 1 := ⟨by decide +kernel, by decide +kernel, by decide +kernel⟩
abbrev YX5_recovered : rp_Y := (yX5_recovered, cX5_recovered, 4, (some .int), wsX5_recovered, { frames := 4, cells := 0, slots := 0, locals := 97 })
theorem oX5_recovered : rp_code YX5_recovered := ⟨_, rfl⟩
theorem uX5_recovered : rp_name YX5_recovered 3 := ⟨by decide +kernel, by decide +kernel, by decide +kernel⟩
abbrev YX5_adversary : rp_Y := (yX5_adversary, cX5_adversary, 8, (some .int), wsX5_adversary, { frames := 4, cells := 0, slots := 0, locals := 97 })
theorem oX5_adversary : rp_code YX5_adversary := ⟨_, rfl⟩
theorem uX5_adversary : rp_name YX5_adversary 3 := ⟨by decide +kernel, by decide +kernel, by decide +kernel⟩
abbrev YX5_undo : rp_Y := (yX5_undo, cX5_undo, 1, (some .int), wsX5_undo, { frames := 2, cells := 0, slots := 0, locals := 82 })
theorem oX5_undo : rp_code YX5_undo := ⟨_, rfl⟩
theorem uX5_undo : rp_name YX5_undo 0 := ⟨by decide +kernel, by decide +kernel, by decide +kernel⟩
abbrev YX5_count : rp_Y := (yX5_count, cX5_count, 2, (some .int), wsX5_count, { frames := 2, cells := 0, slots := 0, locals := 43 })
theorem oX5_count : rp_code YX5_count := ⟨_, rfl⟩
theorem uX5_count : rp_name YX5_count 1 := ⟨by decide +kernel, by decide +kernel, by decide +kernel⟩
abbrev YX6_in : rp_Y := (yX6_in, cX6_in, 3, (some .boolean), wsX6_in, { frames := 0, cells := 0, slots := 0, locals := 0 })
theorem oX6_in : rp_code YX6_in := ⟨_, rfl⟩
theorem uX6_in : rp_name YX6_in 3 := ⟨by decide +kernel, by decide +kernel, by decide +kernel⟩
abbrev YX6_has : rp_Y := (yX6_has, cX6_has, 2, (some .boolean), wsX6_has, { frames := 0, cells := 0, slots := 0, locals := 0 })
theorem oX6_has : rp_code YX6_has := ⟨_, rfl⟩
theorem uX6_has : rp_name YX6_has 2 := ⟨by decide +kernel, by decide +kernel, by decide +kernel⟩
abbrev YX6_sizeOf : rp_Y := (yX6_sizeOf, cX6_sizeOf, 3, (some .int), wsX6_sizeOf, { frames := 0, cells := 0, slots := 0, locals := 0 })
theorem oX6_sizeOf : rp_code YX6_sizeOf := ⟨_, rfl⟩
theorem uX6_sizeOf : rp_name YX6_sizeOf 1 := ⟨by decide +kernel, by decide +kernel, by decide +kernel⟩
abbrev YX6_isItem : rp_Y := (yX6_isItem, cX6_isItem, 2, (some .boolean), wsX6_isItem, { frames := 1, cells := 0, slots := 0, locals := 22 })
theorem oX6_isItem : rp_code YX6_isItem := ⟨_, rfl⟩
theorem uX6_isItem : rp_name YX6_isItem 1 := ⟨by decide +kernel, by decide +kernel, by decide +kernel⟩
abbrev YX6_isChoice : rp_Y := (yX6_isChoice, cX6_isChoice, 2, (some .boolean), wsX6_isChoice, { frames := 1, cells := 0, slots := 0, locals := 22 })
theorem oX6_isChoice : rp_code YX6_isChoice := ⟨_, rfl⟩
theorem uX6_isChoice : rp_name YX6_isChoice 1 := ⟨by decide +kernel, by decide +kernel, by decide +kernel⟩
abbrev YX6_of : rp_Y := (yX6_of, cX6_of, 3, (some .int), wsX6_of, { frames := 0, cells := 0, slots := 0, locals := 0 })
theorem oX6_of : rp_code YX6_of := ⟨_, rfl⟩
theorem uX6_of : rp_name YX6_of 2 := ⟨by decide +kernel, by decide +kernel, by decide +kernel⟩
abbrev YX6_record : rp_Y := (yX6_record, cX6_record, 2, none, wsX6_record, { frames := 0, cells := 0, slots := 0, locals := 0 })
theorem oX6_record : rp_code YX6_record := ⟨_, rfl⟩
theorem uX6_record : rp_name YX6_record 0 := ⟨by decide +kernel, by decide +kernel, by decide +kernel⟩
abbrev YX6_append : rp_Y := (yX6_append, cX6_append, 7, none, wsX6_append, { frames := 0, cells := 0, slots := 0, locals := 0 })
theorem oX6_append : rp_code YX6_append := ⟨_, rfl⟩
theorem uX6_append : rp_name YX6_append 5 := ⟨by decide +kernel, by decide +kernel, by decide +kernel⟩
abbrev YX6_add : rp_Y := (yX6_add, cX6_add, 5, (some .int), wsX6_add, { frames := 1, cells := 0, slots := 0, locals := 26 })
theorem oX6_add : rp_code YX6_add := ⟨_, rfl⟩
theorem uX6_add : rp_name YX6_add 4 := ⟨by decide +kernel, by decide +kernel, by decide +kernel⟩
abbrev YX6_without : rp_Y := (yX6_without, cX6_without, 3, (some .int), wsX6_without, { frames := 0, cells := 0, slots := 0, locals := 0 })
theorem oX6_without : rp_code YX6_without := ⟨_, rfl⟩
theorem uX6_without : rp_name YX6_without 2 := ⟨by decide +kernel, by decide +kernel, by decide +kernel⟩
abbrev YX6_remove : rp_Y := (yX6_remove, cX6_remove, 4, (some .int), wsX6_remove, { frames := 2, cells := 0, slots := 0, locals := 43 })
theorem oX6_remove : rp_code YX6_remove := ⟨_, rfl⟩
theorem uX6_remove : rp_name YX6_remove 1 := ⟨by decide +kernel, by decide +kernel, by decide +kernel⟩
abbrev YX6_isProperty : rp_Y := (yX6_isProperty, cX6_isProperty, 2, (some .boolean), wsX6_isProperty, { frames := 1, cells := 0, slots := 0, locals := 22 })
theorem oX6_isProperty : rp_code YX6_isProperty := ⟨_, rfl⟩
theorem uX6_isProperty : rp_name YX6_isProperty 2 := ⟨by decide +kernel, by decide +kernel, by decide +kernel⟩
abbrev YX6_set : rp_Y := (yX6_set, cX6_set, 5, (some .int), wsX6_set, { frames := 2, cells := 0, slots := 0, locals := 43 })
theorem oX6_set : rp_code YX6_set := ⟨_, rfl⟩
theorem uX6_set : rp_name YX6_set 3 := ⟨by decide +kernel, by decide +kernel, by decide +kernel⟩
abbrev YX6_neededBy : rp_Y := (yX6_neededBy, cX6_neededBy, 4, (some .int), wsX6_neededBy, { frames := 1, cells := 0, slots := 0, locals := 21 })
theorem oX6_neededBy : rp_code YX6_neededBy := ⟨_, rfl⟩
theorem uX6_neededBy : rp_name YX6_neededBy 1 := ⟨by decide +kernel, by decide +kernel, by decide +kernel⟩
abbrev YX6_item : rp_Y := (yX6_item, cX6_item, 3, (some .int), wsX6_item, { frames := 2, cells := 0, slots := 0, locals := 44 })
theorem oX6_item : rp_code YX6_item := ⟨_, rfl⟩
theorem uX6_item : rp_name YX6_item 2 := ⟨by decide +kernel, by decide +kernel, by decide +kernel⟩
abbrev YX6_conflict : rp_Y := (yX6_conflict, cX6_conflict, 3, (some .int), wsX6_conflict, { frames := 2, cells := 0, slots := 0, locals := 43 })
theorem oX6_conflict : rp_code YX6_conflict := ⟨_, rfl⟩
theorem uX6_conflict : rp_name YX6_conflict 2 := ⟨by decide +kernel, by decide +kernel, by decide +kernel⟩
abbrev YX6_need : rp_Y := (yX6_need, cX6_need, 3, (some .int), wsX6_need, { frames := 2, cells := 0, slots := 0, locals := 43 })
theorem oX6_need : rp_code YX6_need := ⟨_, rfl⟩
theorem uX6_need : rp_name YX6_need 2 := ⟨by decide +kernel, by decide +kernel, by decide +kernel⟩
abbrev YX6_rule : rp_Y := (yX6_rule, cX6_rule, 5, (some .int), wsX6_rule, { frames := 1, cells := 0, slots := 0, locals := 22 })
theorem oX6_rule : rp_code YX6_rule := ⟨_, rfl⟩
theorem uX6_rule : rp_name YX6_rule 2 := ⟨by decide +kernel, by decide +kernel, by decide +kernel⟩
abbrev YX6_put : rp_Y := (yX6_put, cX6_put, 7, (some .int), wsX6_put, { frames := 1, cells := 0, slots := 0, locals := 22 })
theorem oX6_put : rp_code YX6_put := ⟨_, rfl⟩
theorem uX6_put : rp_name YX6_put 1 := ⟨by decide +kernel, by decide +kernel, by decide +kernel⟩
abbrev YX6_wipe : rp_Y := (yX6_wipe, cX6_wipe, 2, (some .int), wsX6_wipe, { frames := 0, cells := 0, slots := 0, locals := 0 })
theorem oX6_wipe : rp_code YX6_wipe := ⟨_, rfl⟩
theorem uX6_wipe : rp_name YX6_wipe 0 := ⟨by decide +kernel, by decide +kernel, by decide +kernel⟩
abbrev YX6_next : rp_Y := (yX6_next, cX6_next, 1, (some .int), wsX6_next, { frames := 0, cells := 0, slots := 0, locals := 0 })
theorem oX6_next : rp_code YX6_next := ⟨_, rfl⟩
theorem uX6_next : rp_name YX6_next 0 := ⟨by decide +kernel, by decide +kernel, by decide +kernel⟩
abbrev YX6_readNumber : rp_Y := (yX6_readNumber, cX6_readNumber, 4, (some .int), wsX6_readNumber, { frames := 1, cells := 0, slots := 0, locals := 22 })
theorem oX6_readNumber : rp_code YX6_readNumber := ⟨_, rfl⟩
theorem uX6_readNumber : rp_name YX6_readNumber 1 := ⟨by decide +kernel, by decide +kernel, by decide +kernel⟩
abbrev YX6_takes : rp_Y := (yX6_takes, cX6_takes, 2, (some .boolean), wsX6_takes, { frames := 1, cells := 0, slots := 0, locals := 20 })
theorem oX6_takes : rp_code YX6_takes := ⟨_, rfl⟩
theorem uX6_takes : rp_name YX6_takes 1 := ⟨by decide +kernel, by decide +kernel, by decide +kernel⟩
abbrev YX6_readGroup : rp_Y := (yX6_readGroup, cX6_readGroup, 2, none, wsX6_readGroup, { frames := 1, cells := 0, slots := 0, locals := 22 })
theorem oX6_readGroup : rp_code YX6_readGroup := ⟨_, rfl⟩
theorem uX6_readGroup : rp_name YX6_readGroup 1 := ⟨by decide +kernel, by decide +kernel, by decide +kernel⟩
abbrev YX6_readItem : rp_Y := (yX6_readItem, cX6_readItem, 2, none, wsX6_readItem, { frames := 2, cells := 0, slots := 0, locals := 45 })
theorem oX6_readItem : rp_code YX6_readItem := ⟨_, rfl⟩
theorem uX6_readItem : rp_name YX6_readItem 0 := ⟨by decide +kernel, by decide +kernel, by decide +kernel⟩
abbrev YX6_fault : rp_Y := (yX6_fault, cX6_fault, 1, (some .int), wsX6_fault, { frames := 3, cells := 0, slots := 0, locals := 66 })
theorem oX6_fault : rp_code YX6_fault := ⟨_, rfl⟩
theorem uX6_fault : rp_name YX6_fault 0 := ⟨by decide +kernel, by decide +kernel, by decide +kernel⟩
abbrev YX6_load : rp_Y := (yX6_load, cX6_load, 3, (some .int), wsX6_load, { frames := 4, cells := 0, slots := 0, locals := 86 })
theorem oX6_load : rp_code YX6_load := ⟨_, rfl⟩
theorem uX6_load : rp_name YX6_load 0 := ⟨by decide +kernel, by decide +kernel, by decide +kernel⟩
abbrev YX6_sum : rp_Y := (yX6_sum, cX6_sum, 5, (some .int), wsX6_sum, { frames := 1, cells := 0, slots := 0, locals := 22 })
theorem oX6_sum : rp_code YX6_sum := ⟨_, rfl⟩
theorem uX6_sum : rp_name YX6_sum 2 := ⟨by decide +kernel, by decide +kernel, by decide +kernel⟩
abbrev YX6_worst : rp_Y := (yX6_worst, cX6_worst, 9, (some .int), wsX6_worst, { frames := 1, cells := 0, slots := 0, locals := 22 })
theorem oX6_worst : rp_code YX6_worst := ⟨_, rfl⟩
theorem uX6_worst : rp_name YX6_worst 3 := ⟨by decide +kernel, by decide +kernel, by decide +kernel⟩
abbrev YX6_protectedWeight : rp_Y := (yX6_protectedWeight, cX6_protectedWeight, 3, (some .int), wsX6_protectedWeight, { frames := 2, cells := 0, slots := 0, locals := 50 })
theorem oX6_protectedWeight : rp_code YX6_protectedWeight := ⟨_, rfl⟩
theorem uX6_protectedWeight : rp_name YX6_protectedWeight 2 := ⟨by decide +kernel, by decide +kernel, by decide +kernel⟩
abbrev YX6_protectedProfit : rp_Y := (yX6_protectedProfit, cX6_protectedProfit, 3, (some .int), wsX6_protectedProfit, { frames := 2, cells := 0, slots := 0, locals := 50 })
theorem oX6_protectedProfit : rp_code YX6_protectedProfit := ⟨_, rfl⟩
theorem uX6_protectedProfit : rp_name YX6_protectedProfit 2 := ⟨by decide +kernel, by decide +kernel, by decide +kernel⟩
abbrev YX6_isAllowed : rp_Y := (yX6_isAllowed, cX6_isAllowed, 5, (some .boolean), wsX6_isAllowed, { frames := 1, cells := 0, slots := 0, locals := 22 })
theorem oX6_isAllowed : rp_code YX6_isAllowed := ⟨_, rfl⟩
theorem uX6_isAllowed : rp_name YX6_isAllowed 1 := ⟨by decide +kernel, by decide +kernel, by decide +kernel⟩
abbrev YX6_sets : rp_Y := (yX6_sets, cX6_sets, 1, (some .int), wsX6_sets, { frames := 0, cells := 0, slots := 0, locals := 0 })
theorem oX6_sets : rp_code YX6_sets := ⟨_, rfl⟩
theorem uX6_sets : rp_name YX6_sets 0 := ⟨by decide +kernel, by decide +kernel, by decide +kernel⟩
abbrev YX6_layTables : rp_Y := (yX6_layTables, cX6_layTables, 4, none, wsX6_layTables, { frames := 3, cells := 0, slots := 0, locals := 72 })
theorem oX6_layTables : rp_code YX6_layTables := ⟨_, rfl⟩
theorem uX6_layTables : rp_name YX6_layTables 2 := ⟨by decide +kernel, by decide +kernel, by decide +kernel⟩
abbrev YX6_layOwnTables : rp_Y := (yX6_layOwnTables, cX6_layOwnTables, 1, none, wsX6_layOwnTables, { frames := 4, cells := 0, slots := 0, locals := 95 })
theorem oX6_layOwnTables : rp_code YX6_layOwnTables := ⟨_, rfl⟩
theorem uX6_layOwnTables : rp_name YX6_layOwnTables 0 := ⟨by decide +kernel, by decide +kernel, by decide +kernel⟩
abbrev YX6_mostBudget : rp_Y := (yX6_mostBudget, cX6_mostBudget, 4, (some .int), wsX6_mostBudget, { frames := 3, cells := 0, slots := 0, locals := 72 })
theorem oX6_mostBudget : rp_code YX6_mostBudget := ⟨_, rfl⟩
theorem uX6_mostBudget : rp_name YX6_mostBudget 1 := ⟨by decide +kernel, by decide +kernel, by decide +kernel⟩
abbrev YX6_choice : rp_Y := (yX6_choice, cX6_choice, 4, (some .int), wsX6_choice, { frames := 4, cells := 0, slots := 0, locals := 95 })
theorem oX6_choice : rp_code YX6_choice := ⟨_, rfl⟩
theorem uX6_choice : rp_name YX6_choice 2 := ⟨by decide +kernel, by decide +kernel, by decide +kernel⟩
abbrev YX6_weightIn : rp_Y := (yX6_weightIn, cX6_weightIn, 3, (some .int), wsX6_weightIn, { frames := 2, cells := 0, slots := 0, locals := 46 })
theorem oX6_weightIn : rp_code YX6_weightIn := ⟨_, rfl⟩
theorem uX6_weightIn : rp_name YX6_weightIn 2 := ⟨by decide +kernel, by decide +kernel, by decide +kernel⟩
abbrev YX6_bestBy : rp_Y := (yX6_bestBy, cX6_bestBy, 5, (some .int), wsX6_bestBy, { frames := 1, cells := 0, slots := 0, locals := 20 })
theorem oX6_bestBy : rp_code YX6_bestBy := ⟨_, rfl⟩
theorem uX6_bestBy : rp_name YX6_bestBy 1 := ⟨by decide +kernel, by decide +kernel, by decide +kernel⟩
abbrev YX6_amongBest : rp_Y := (yX6_amongBest, cX6_amongBest, 9, (some .int), wsX6_amongBest, { frames := 2, cells := 0, slots := 0, locals := 44 })
theorem oX6_amongBest : rp_code YX6_amongBest := ⟨_, rfl⟩
theorem uX6_amongBest : rp_name YX6_amongBest 1 := ⟨by decide +kernel, by decide +kernel, by decide +kernel⟩
abbrev YX6_best : rp_Y := (yX6_best, cX6_best, 3, (some .int), wsX6_best, { frames := 5, cells := 0, slots := 0, locals := 115 })
theorem oX6_best : rp_code YX6_best := ⟨_, rfl⟩
theorem uX6_best : rp_name YX6_best 1 := ⟨by decide +kernel, by decide +kernel, by decide +kernel⟩
abbrev YX6_bestWith : rp_Y := (yX6_bestWith, cX6_bestWith, 4, (some .int), wsX6_bestWith, { frames := 4, cells := 0, slots := 0, locals := 95 })
theorem oX6_bestWith : rp_code YX6_bestWith := ⟨_, rfl⟩
theorem uX6_bestWith : rp_name YX6_bestWith 3 := ⟨by decide +kernel, by decide +kernel, by decide +kernel⟩
abbrev YX6_leastCapacity : rp_Y := (yX6_leastCapacity, cX6_leastCapacity, 4, (some .int), wsX6_leastCapacity, { frames := 5, cells := 0, slots := 0, locals := 115 })
theorem oX6_leastCapacity : rp_code YX6_leastCapacity := ⟨_, rfl⟩
theorem uX6_leastCapacity : rp_name YX6_leastCapacity 1 := ⟨by decide +kernel, by decide +kernel, by decide +kernel⟩
abbrev YX6_staysBest : rp_Y := (yX6_staysBest, cX6_staysBest, 5, (some .boolean), wsX6_staysBest, { frames := 3, cells := 0, slots := 0, locals := 72 })
theorem oX6_staysBest : rp_code YX6_staysBest := ⟨_, rfl⟩
theorem uX6_staysBest : rp_name YX6_staysBest 1 := ⟨by decide +kernel, by decide +kernel, by decide +kernel⟩
abbrev YX6_headroom : rp_Y := (yX6_headroom, cX6_headroom, 7, (some .int), wsX6_headroom, { frames := 5, cells := 0, slots := 0, locals := 115 })
theorem oX6_headroom : rp_code YX6_headroom := ⟨_, rfl⟩
theorem uX6_headroom : rp_name YX6_headroom 1 := ⟨by decide +kernel, by decide +kernel, by decide +kernel⟩
abbrev YX6_isAhead : rp_Y := (yX6_isAhead, cX6_isAhead, 5, (some .boolean), wsX6_isAhead, { frames := 1, cells := 0, slots := 0, locals := 22 })
theorem oX6_isAhead : rp_code YX6_isAhead := ⟨_, rfl⟩
theorem uX6_isAhead : rp_name YX6_isAhead 2 := ⟨by decide +kernel, by decide +kernel, by decide +kernel⟩
abbrev YX6_greedy : rp_Y := (yX6_greedy, cX6_greedy, 7, (some .int), wsX6_greedy, { frames := 3, cells := 0, slots := 0, locals := 72 })
theorem oX6_greedy : rp_code YX6_greedy := ⟨_, rfl⟩
theorem uX6_greedy : rp_name YX6_greedy 1 := ⟨by decide +kernel, by decide +kernel, by decide +kernel⟩
abbrev YX6_comesAhead : rp_Y := (yX6_comesAhead, cX6_comesAhead, 3, (some .boolean), wsX6_comesAhead, { frames := 0, cells := 0, slots := 0, locals := 0 })
theorem oX6_comesAhead : rp_code YX6_comesAhead := ⟨_, rfl⟩
theorem uX6_comesAhead : rp_name YX6_comesAhead 2 := ⟨by decide +kernel, by decide +kernel, by decide +kernel⟩
abbrev YX6_isGood : rp_Y := (yX6_isGood, cX6_isGood, 2, (some .boolean), wsX6_isGood, { frames := 0, cells := 0, slots := 0, locals := 0 })
theorem oX6_isGood : rp_code YX6_isGood := ⟨_, rfl⟩
theorem uX6_isGood : rp_name YX6_isGood 1 := ⟨by decide +kernel, by decide +kernel, by decide +kernel⟩
abbrev YX6_forced : rp_Y := (yX6_forced, cX6_forced, 6, (some .int), wsX6_forced, { frames := 5, cells := 0, slots := 0, locals := 115 })
theorem oX6_forced : rp_code YX6_forced := ⟨_, rfl⟩
theorem uX6_forced : rp_name YX6_forced 3 := ⟨by decide +kernel, by decide +kernel, by decide +kernel⟩
abbrev YX6_nextStep : rp_Y := (yX6_nextStep, cX6_nextStep, 4, (some .int), wsX6_nextStep, { frames := 1, cells := 0, slots := 0, locals := 20 })
theorem oX6_nextStep : rp_code YX6_nextStep := ⟨_, rfl⟩
theorem uX6_nextStep : rp_name YX6_nextStep 1 := ⟨by decide +kernel, by decide +kernel, by decide +kernel⟩
abbrev YX6_frontier : rp_Y := (yX6_frontier, cX6_frontier, 5, (some .int), wsX6_frontier, { frames := 5, cells := 0, slots := 0, locals := 115 })
theorem oX6_frontier : rp_code YX6_frontier := ⟨_, rfl⟩
theorem uX6_frontier : rp_name YX6_frontier 2 := ⟨by decide +kernel, by decide +kernel, by decide +kernel⟩
abbrev YX6_firstNear : rp_Y := (yX6_firstNear, cX6_firstNear, 7, (some .int), wsX6_firstNear, { frames := 1, cells := 0, slots := 0, locals := 22 })
theorem oX6_firstNear : rp_code YX6_firstNear := ⟨_, rfl⟩
theorem uX6_firstNear : rp_name YX6_firstNear 1 := ⟨by decide +kernel, by decide +kernel, by decide +kernel⟩
abbrev YX6_improve : rp_Y := (yX6_improve, cX6_improve, 6, (some .int), wsX6_improve, { frames := 5, cells := 0, slots := 0, locals := 115 })
theorem oX6_improve : rp_code YX6_improve := ⟨_, rfl⟩
theorem uX6_improve : rp_name YX6_improve 2 := ⟨by decide +kernel, by decide +kernel, by decide +kernel⟩
abbrev YX6_layList : rp_Y := (yX6_layList, cX6_layList, 7, none, wsX6_layList, { frames := 3, cells := 0, slots := 0, locals := 72 })
theorem oX6_layList : rp_code YX6_layList := ⟨_, rfl⟩
theorem uX6_layList : rp_name YX6_layList 1 := ⟨by decide +kernel, by decide +kernel, by decide +kernel⟩
abbrev YX6_list : rp_Y := (yX6_list, cX6_list, 3, (some .int), wsX6_list, { frames := 4, cells := 0, slots := 0, locals := 98 })
theorem oX6_list : rp_code YX6_list := ⟨_, rfl⟩
theorem uX6_list : rp_name YX6_list 2 := ⟨by decide +kernel, by decide +kernel, by decide +kernel⟩
abbrev YX6_dominator : rp_Y := (yX6_dominator, cX6_dominator, 4, (some .int), wsX6_dominator, { frames := 4, cells := 0, slots := 0, locals := 98 })
theorem oX6_dominator : rp_code YX6_dominator := ⟨_, rfl⟩
theorem uX6_dominator : rp_name YX6_dominator 2 := ⟨by decide +kernel, by decide +kernel, by decide +kernel⟩
abbrev YX6_layThresholds : rp_Y := (yX6_layThresholds, cX6_layThresholds, 6, (some .int), wsX6_layThresholds, { frames := 1, cells := 0, slots := 0, locals := 22 })
theorem oX6_layThresholds : rp_code YX6_layThresholds := ⟨_, rfl⟩
theorem uX6_layThresholds : rp_name YX6_layThresholds 0 := ⟨by decide +kernel, by decide +kernel, by decide +kernel⟩
abbrev YX6_threshold : rp_Y := (yX6_threshold, cX6_threshold, 3, (some .int), wsX6_threshold, { frames := 2, cells := 0, slots := 0, locals := 47 })
theorem oX6_threshold : rp_code YX6_threshold := ⟨_, rfl⟩
theorem uX6_threshold : rp_name YX6_threshold 1 := ⟨by decide +kernel, by decide +kernel, by decide +kernel⟩
abbrev YX6_plain : rp_Y := (yX6_plain, cX6_plain, 9, (some .int), wsX6_plain, { frames := 2, cells := 0, slots := 0, locals := 47 })
theorem oX6_plain : rp_code YX6_plain := ⟨_, rfl⟩
theorem uX6_plain : rp_name YX6_plain 1 := ⟨by decide +kernel, by decide +kernel, by decide +kernel⟩
abbrev YX6_layRests : rp_Y := (yX6_layRests, cX6_layRests, 4, none, wsX6_layRests, { frames := 2, cells := 0, slots := 0, locals := 46 })
theorem oX6_layRests : rp_code YX6_layRests := ⟨_, rfl⟩
theorem uX6_layRests : rp_name YX6_layRests 2 := ⟨by decide +kernel, by decide +kernel, by decide +kernel⟩
abbrev YX6_recoveredBy : rp_Y := (yX6_recoveredBy, cX6_recoveredBy, 4, (some .int), wsX6_recoveredBy, { frames := 0, cells := 0, slots := 0, locals := 0 })
theorem oX6_recoveredBy : rp_code YX6_recoveredBy := ⟨_, rfl⟩
theorem uX6_recoveredBy : rp_name YX6_recoveredBy 1 := ⟨by decide +kernel, by decide +kernel, by decide +kernel⟩
abbrev YX6_recovered : rp_Y := (yX6_recovered, cX6_recovered, 4, (some .int), wsX6_recovered, { frames := 3, cells := 0, slots := 0, locals := 69 })
theorem oX6_recovered : rp_code YX6_recovered := ⟨_, rfl⟩
theorem uX6_recovered : rp_name YX6_recovered 3 := ⟨by decide +kernel, by decide +kernel, by decide +kernel⟩
abbrev YX6_adversary : rp_Y := (yX6_adversary, cX6_adversary, 8, (some .int), wsX6_adversary, { frames := 3, cells := 0, slots := 0, locals := 69 })
theorem oX6_adversary : rp_code YX6_adversary := ⟨_, rfl⟩
theorem uX6_adversary : rp_name YX6_adversary 3 := ⟨by decide +kernel, by decide +kernel, by decide +kernel⟩
abbrev YX6_undo : rp_Y := (yX6_undo, cX6_undo, 2, (some .int), wsX6_undo, { frames := 0, cells := 0, slots := 0, locals := 0 })
theorem oX6_undo : rp_code YX6_undo := ⟨_, rfl⟩
theorem uX6_undo : rp_name YX6_undo 0 := ⟨by decide +kernel, by decide +kernel, by decide +kernel⟩
abbrev YX6_pairs : rp_Y := (yX6_pairs, cX6_pairs, 4, (some .int), wsX6_pairs, { frames := 1, cells := 0, slots := 0, locals := 22 })
theorem oX6_pairs : rp_code YX6_pairs := ⟨_, rfl⟩
theorem uX6_pairs : rp_name YX6_pairs 1 := ⟨by decide +kernel, by decide +kernel, by decide +kernel⟩
abbrev YX6_count : rp_Y := (yX6_count, cX6_count, 2, (some .int), wsX6_count, { frames := 2, cells := 0, slots := 0, locals := 45 })
theorem oX6_count : rp_code YX6_count := ⟨_, rfl⟩
theorem uX6_count : rp_name YX6_count 1 := ⟨by decide +kernel, by decide +kernel, by decide +kernel⟩
abbrev YJ9_max_7cf53 : rp_Y := (yJ9_max_7cf53, cJ9_max_7cf53, 2, (some .int), wsJ9_max_7cf53, { frames := 0, cells := 0, slots := 0, locals := 0 })
theorem oJ9_max_7cf53 : rp_code YJ9_max_7cf53 := ⟨_, rfl⟩
theorem uJ9_max_7cf53 : rp_name YJ9_max_7cf53 2 := ⟨by decide +kernel, by decide +kernel, by decide +kernel⟩
abbrev YJ9_min_7cf53 : rp_Y := (yJ9_min_7cf53, cJ9_min_7cf53, 2, (some .int), wsJ9_min_7cf53, { frames := 0, cells := 0, slots := 0, locals := 0 })
theorem oJ9_min_7cf53 : rp_code YJ9_min_7cf53 := ⟨_, rfl⟩
theorem uJ9_min_7cf53 : rp_name YJ9_min_7cf53 2 := ⟨by decide +kernel, by decide +kernel, by decide +kernel⟩
theorem fX0_sortByChange_33 : rp_fl YX0_sortByChange 33 0 7 := ⟨(RX0, TX0, 10), rfl, by decide, rfl, by decide +kernel, rp_inc (by decide +kernel)⟩
theorem fX0_sortByChange_27 : rp_fl YX0_sortByChange 27 0 5 := ⟨(RX0, TX0, 10), rfl, by decide, rfl, by decide +kernel, rp_inc (by decide +kernel)⟩
theorem fJ6_bitCount_0f7a4_265 : Cond.constant YJ6_bitCount_0f7a4.1.cls 265 (1431655765) ∈ YJ6_bitCount_0f7a4.2.2.2.2.1 := by decide +kernel
theorem fJ6_bitCount_0f7a4_266 : Cond.constant YJ6_bitCount_0f7a4.1.cls 266 (858993459) ∈ YJ6_bitCount_0f7a4.2.2.2.2.1 := by decide +kernel
theorem fJ6_bitCount_0f7a4_267 : Cond.constant YJ6_bitCount_0f7a4.1.cls 267 (252645135) ∈ YJ6_bitCount_0f7a4.2.2.2.2.1 := by decide +kernel
theorem kX0_fillProtected_69 : rp_cv YX0_fillProtected 69 YX0_sortByChange 1 0 := ⟨gX0_fillProtected_X0_sortByChange, oX0_sortByChange, uX0_sortByChange, ⟨rfl, rfl, by decide, by decide⟩, ⟨_, rfl, rfl⟩⟩
theorem fX0_fillProtected_24 : rp_fl YX0_fillProtected 24 0 4 := ⟨(RX0, TX0, 10), rfl, by decide, rfl, by decide +kernel, rp_inc (by decide +kernel)⟩
theorem fX0_fillProtected_33 : rp_fl YX0_fillProtected 33 0 7 := ⟨(RX0, TX0, 10), rfl, by decide, rfl, by decide +kernel, rp_inc (by decide +kernel)⟩
theorem fX0_fillProtected_27 : rp_fl YX0_fillProtected 27 0 5 := ⟨(RX0, TX0, 10), rfl, by decide, rfl, by decide +kernel, rp_inc (by decide +kernel)⟩
theorem kX0_fillProtected_73 : rp_cs YX0_fillProtected 73 YJ6_bitCount_0f7a4 1 := ⟨gX0_fillProtected_J6_bitCount_0f7a4, oJ6_bitCount_0f7a4, uJ6_bitCount_0f7a4, ⟨rfl, rfl, by decide, by decide⟩⟩
theorem fX4_rivals_16 : rp_fl YX4_rivals 16 4 1 := ⟨(RX4, TX4, 5), rfl, by decide, rfl, by decide +kernel, rp_inc (by decide +kernel)⟩
theorem fX4_rivals_11 : rp_fl YX4_rivals 11 4 0 := ⟨(RX4, TX4, 5), rfl, by decide, rfl, by decide +kernel, rp_inc (by decide +kernel)⟩
theorem fX4_rivals_26 : rp_fl YX4_rivals 26 4 4 := ⟨(RX4, TX4, 5), rfl, by decide, rfl, by decide +kernel, rp_inc (by decide +kernel)⟩
theorem fX0_fillRequired_21 : rp_fl YX0_fillRequired 21 0 3 := ⟨(RX0, TX0, 10), rfl, by decide, rfl, by decide +kernel, rp_inc (by decide +kernel)⟩
theorem fX0_fillRequired_33 : rp_fl YX0_fillRequired 33 0 7 := ⟨(RX0, TX0, 10), rfl, by decide, rfl, by decide +kernel, rp_inc (by decide +kernel)⟩
theorem kX0_fillRequired_79 : rp_cv YX0_fillRequired 79 YX4_rivals 1 4 := ⟨gX0_fillRequired_X4_rivals, oX4_rivals, uX4_rivals, ⟨rfl, rfl, by decide, by decide⟩, ⟨_, rfl, rfl⟩⟩
theorem fX0_fillRequired_82 : rp_fl YX0_fillRequired 82 4 2 := ⟨(RX4, TX4, 5), rfl, by decide, rfl, by decide +kernel, rp_inc (by decide +kernel)⟩
theorem fX0_fill_44 : rp_fl YX0_fill 44 4 4 := ⟨(RX4, TX4, 5), rfl, by decide, rfl, by decide +kernel, rp_inc (by decide +kernel)⟩
theorem pX0_fill_33 : rp_pl YX0_fill 33 0 7 .int := ⟨(RX0, TX0, 10), tyX0, rfl, by decide, rfl, by decide +kernel, rp_inc (by decide +kernel), tyX0_ok, nmX0, rfl, by decide +kernel⟩
theorem fX0_fill_33 : rp_fl YX0_fill 33 0 7 := ⟨(RX0, TX0, 10), rfl, by decide, rfl, by decide +kernel, rp_inc (by decide +kernel)⟩
theorem pX0_fill_37 : rp_pl YX0_fill 37 0 8 .int := ⟨(RX0, TX0, 10), tyX0, rfl, by decide, rfl, by decide +kernel, rp_inc (by decide +kernel), tyX0_ok, nmX0, rfl, by decide +kernel⟩
theorem fX0_fill_9 : rp_fl YX0_fill 9 0 0 := ⟨(RX0, TX0, 10), rfl, by decide, rfl, by decide +kernel, rp_inc (by decide +kernel)⟩
theorem fX0_fill_47 : rp_fl YX0_fill 47 4 0 := ⟨(RX4, TX4, 5), rfl, by decide, rfl, by decide +kernel, rp_inc (by decide +kernel)⟩
theorem kX0_fill_51 : rp_cv YX0_fill 51 YX0_fillProtected 5 0 := ⟨gX0_fill_X0_fillProtected, oX0_fillProtected, uX0_fillProtected, ⟨rfl, rfl, by decide, by decide⟩, ⟨_, rfl, rfl⟩⟩
theorem fX0_fill_15 : rp_fl YX0_fill 15 0 1 := ⟨(RX0, TX0, 10), rfl, by decide, rfl, by decide +kernel, rp_inc (by decide +kernel)⟩
theorem fX0_fill_18 : rp_fl YX0_fill 18 0 2 := ⟨(RX0, TX0, 10), rfl, by decide, rfl, by decide +kernel, rp_inc (by decide +kernel)⟩
theorem kX0_fill_55 : GoodIn YX0_fill.2.2.2.2.1 YX5_sumUp.2.2.2.2.1 ∧ rp_room YX0_fill YX5_sumUp ∧ Cond.initialized YX5_sumUp.1.cls ∈ YX0_fill.2.2.2.2.1 ∧ Cond.static YX5_sumUp.1 ∈ YX0_fill.2.2.2.2.1 := ⟨gX0_fill_X5_sumUp_n55, ⟨rfl, rfl, by decide, by decide⟩, by decide +kernel, by decide +kernel⟩
theorem kX0_fill_59 : rp_cv YX0_fill 59 YX0_fillRequired 1 0 := ⟨gX0_fill_X0_fillRequired, oX0_fillRequired, uX0_fillRequired, ⟨rfl, rfl, by decide, by decide⟩, ⟨_, rfl, rfl⟩⟩
theorem fX0_fillWeights_47 : rp_fl YX0_fillWeights 47 4 0 := ⟨(RX4, TX4, 5), rfl, by decide, rfl, by decide +kernel, rp_inc (by decide +kernel)⟩
theorem fX0_fillWeights_30 : rp_fl YX0_fillWeights 30 0 6 := ⟨(RX0, TX0, 10), rfl, by decide, rfl, by decide +kernel, rp_inc (by decide +kernel)⟩
theorem kX0_fillWeights_63 : Cond.methodLink YX0_fillWeights.1.cls 63 arraycopyName ∈ YX0_fillWeights.2.2.2.2.1 ∧ Cond.native arraycopyName ∈ YX0_fillWeights.2.2.2.2.1 ∧ Cond.static arraycopyName ∈ YX0_fillWeights.2.2.2.2.1 ∧ Cond.initialized "java/lang/System" ∈ YX0_fillWeights.2.2.2.2.1 := ⟨by decide +kernel, by decide +kernel, by decide +kernel, by decide +kernel⟩
theorem fX0_fillWeights_9 : rp_fl YX0_fillWeights 9 0 0 := ⟨(RX0, TX0, 10), rfl, by decide, rfl, by decide +kernel, rp_inc (by decide +kernel)⟩
theorem kX0_fillWeights_51 : rp_cv YX0_fillWeights 51 YX0_fillProtected 5 0 := ⟨gX0_fillWeights_X0_fillProtected, oX0_fillProtected, uX0_fillProtected, ⟨rfl, rfl, by decide, by decide⟩, ⟨_, rfl, rfl⟩⟩
theorem fX0_allows_21 : rp_fl YX0_allows 21 0 3 := ⟨(RX0, TX0, 10), rfl, by decide, rfl, by decide +kernel, rp_inc (by decide +kernel)⟩
theorem fX0_stands_9 : rp_fl YX0_stands 9 0 0 := ⟨(RX0, TX0, 10), rfl, by decide, rfl, by decide +kernel, rp_inc (by decide +kernel)⟩
theorem kX0_stands_85 : rp_cv YX0_stands 85 YX0_allows 1 0 := ⟨gX0_stands_X0_allows, oX0_allows, uX0_allows, ⟨rfl, rfl, by decide, by decide⟩, ⟨_, rfl, rfl⟩⟩
theorem fX0_isBefore_15 : rp_fl YX0_isBefore 15 0 1 := ⟨(RX0, TX0, 10), rfl, by decide, rfl, by decide +kernel, rp_inc (by decide +kernel)⟩
theorem fX0_isBefore_9 : rp_fl YX0_isBefore 9 0 0 := ⟨(RX0, TX0, 10), rfl, by decide, rfl, by decide +kernel, rp_inc (by decide +kernel)⟩
theorem fX0_first_37 : rp_fl YX0_first 37 0 8 := ⟨(RX0, TX0, 10), rfl, by decide, rfl, by decide +kernel, rp_inc (by decide +kernel)⟩
theorem kX0_first_89 : rp_cv YX0_first 89 YX0_stands 2 0 := ⟨gX0_first_X0_stands, oX0_stands, uX0_stands, ⟨rfl, rfl, by decide, by decide⟩, ⟨_, rfl, rfl⟩⟩
theorem kX0_first_93 : rp_cv YX0_first 93 YX0_isBefore 2 0 := ⟨gX0_first_X0_isBefore, oX0_isBefore, uX0_isBefore, ⟨rfl, rfl, by decide, by decide⟩, ⟨_, rfl, rfl⟩⟩
theorem kX0_firstOfAll_96 : rp_cv YX0_firstOfAll 96 YX0_first 3 0 := ⟨gX0_firstOfAll_X0_first, oX0_first, uX0_first, ⟨rfl, rfl, by decide, by decide⟩, ⟨_, rfl, rfl⟩⟩
theorem kX0_firstOfAll_100 : Cond.methodLink YX0_firstOfAll.1.cls 100 Lib.Math.max.name ∈ YX0_firstOfAll.2.2.2.2.1 ∧ Cond.static Lib.Math.max.name ∈ YX0_firstOfAll.2.2.2.2.1 ∧ Cond.initialized "java/lang/Math" ∈ YX0_firstOfAll.2.2.2.2.1 ∧ Cond.code Lib.Math.max.name Lib.Math.max.code 2 (some .int) ∈ YX0_firstOfAll.2.2.2.2.1 := ⟨by decide +kernel, by decide +kernel, by decide +kernel, by decide +kernel⟩
theorem fX0_firstNear_33 : rp_fl YX0_firstNear 33 0 7 := ⟨(RX0, TX0, 10), rfl, by decide, rfl, by decide +kernel, rp_inc (by decide +kernel)⟩
theorem kX0_firstNear_89 : rp_cv YX0_firstNear 89 YX0_stands 2 0 := ⟨gX0_firstNear_X0_stands, oX0_stands, uX0_stands, ⟨rfl, rfl, by decide, by decide⟩, ⟨_, rfl, rfl⟩⟩
theorem kX0_firstNear_93 : rp_cv YX0_firstNear 93 YX0_isBefore 2 0 := ⟨gX0_firstNear_X0_isBefore, oX0_isBefore, uX0_isBefore, ⟨rfl, rfl, by decide, by decide⟩, ⟨_, rfl, rfl⟩⟩
theorem fX0_fitting_37 : rp_fl YX0_fitting 37 0 8 := ⟨(RX0, TX0, 10), rfl, by decide, rfl, by decide +kernel, rp_inc (by decide +kernel)⟩
theorem kX0_fitting_89 : rp_cv YX0_fitting 89 YX0_stands 2 0 := ⟨gX0_fitting_X0_stands, oX0_stands, uX0_stands, ⟨rfl, rfl, by decide, by decide⟩, ⟨_, rfl, rfl⟩⟩
theorem fX0_shiftedProfit_15 : rp_fl YX0_shiftedProfit 15 0 1 := ⟨(RX0, TX0, 10), rfl, by decide, rfl, by decide +kernel, rp_inc (by decide +kernel)⟩
theorem fX0_shiftedProfit_106 : Cond.constant YX0_shiftedProfit.1.cls 106 (100000) ∈ YX0_shiftedProfit.2.2.2.2.1 := by decide +kernel
theorem fX1_lengthOf_30 : Cond.constantLong YX1_lengthOf.1.cls 30 (255) ∈ YX1_lengthOf.2.2.2.2.1 := by decide +kernel
theorem fX1_append_15 : rp_fl YX1_append 15 1 1 := ⟨(RX1, TX1, 5), rfl, by decide, rfl, by decide +kernel, rp_inc (by decide +kernel)⟩
theorem fX1_append_9 : rp_fl YX1_append 9 1 0 := ⟨(RX1, TX1, 5), rfl, by decide, rfl, by decide +kernel, rp_inc (by decide +kernel)⟩
theorem fX1_append_30 : Cond.constantLong YX1_append.1.cls 30 (255) ∈ YX1_append.2.2.2.2.1 := by decide +kernel
theorem pX1_append_15 : rp_pl YX1_append 15 1 1 .int := ⟨(RX1, TX1, 5), tyX1, rfl, by decide, rfl, by decide +kernel, rp_inc (by decide +kernel), tyX1_ok, nmX1, rfl, by decide +kernel⟩
theorem fX1_digit_27 : rp_fl YX1_digit 27 1 4 := ⟨(RX1, TX1, 5), rfl, by decide, rfl, by decide +kernel, rp_inc (by decide +kernel)⟩
theorem fX1_digit_15 : rp_fl YX1_digit 15 1 1 := ⟨(RX1, TX1, 5), rfl, by decide, rfl, by decide +kernel, rp_inc (by decide +kernel)⟩
theorem fX1_digit_9 : rp_fl YX1_digit 9 1 0 := ⟨(RX1, TX1, 5), rfl, by decide, rfl, by decide +kernel, rp_inc (by decide +kernel)⟩
theorem kX1_readNumber_51 : rp_cv YX1_readNumber 51 YX1_digit 0 1 := ⟨gX1_readNumber_X1_digit, oX1_digit, uX1_digit, ⟨rfl, rfl, by decide, by decide⟩, ⟨_, rfl, rfl⟩⟩
theorem fX1_readNumber_27 : rp_fl YX1_readNumber 27 1 4 := ⟨(RX1, TX1, 5), rfl, by decide, rfl, by decide +kernel, rp_inc (by decide +kernel)⟩
theorem pX1_readNumber_27 : rp_pl YX1_readNumber 27 1 4 .int := ⟨(RX1, TX1, 5), tyX1, rfl, by decide, rfl, by decide +kernel, rp_inc (by decide +kernel), tyX1_ok, nmX1, rfl, by decide +kernel⟩
theorem fX1_readNumber_21 : rp_fl YX1_readNumber 21 1 2 := ⟨(RX1, TX1, 5), rfl, by decide, rfl, by decide +kernel, rp_inc (by decide +kernel)⟩
theorem fX1_readNumber_24 : rp_fl YX1_readNumber 24 1 3 := ⟨(RX1, TX1, 5), rfl, by decide, rfl, by decide +kernel, rp_inc (by decide +kernel)⟩
theorem fX1_accept_27 : rp_fl YX1_accept 27 1 4 := ⟨(RX1, TX1, 5), rfl, by decide, rfl, by decide +kernel, rp_inc (by decide +kernel)⟩
theorem fX1_accept_15 : rp_fl YX1_accept 15 1 1 := ⟨(RX1, TX1, 5), rfl, by decide, rfl, by decide +kernel, rp_inc (by decide +kernel)⟩
theorem fX1_accept_9 : rp_fl YX1_accept 9 1 0 := ⟨(RX1, TX1, 5), rfl, by decide, rfl, by decide +kernel, rp_inc (by decide +kernel)⟩
theorem pX1_accept_27 : rp_pl YX1_accept 27 1 4 .int := ⟨(RX1, TX1, 5), tyX1, rfl, by decide, rfl, by decide +kernel, rp_inc (by decide +kernel), tyX1_ok, nmX1, rfl, by decide +kernel⟩
theorem kX1_readDeviation_36 : rp_cv YX1_readDeviation 36 YX1_accept 1 1 := ⟨gX1_readDeviation_X1_accept, oX1_accept, uX1_accept, ⟨rfl, rfl, by decide, by decide⟩, ⟨_, rfl, rfl⟩⟩
theorem kX1_readDeviation_40 : rp_cv YX1_readDeviation 40 YX1_readNumber 2 1 := ⟨gX1_readDeviation_X1_readNumber, oX1_readNumber, uX1_readNumber, ⟨rfl, rfl, by decide, by decide⟩, ⟨_, rfl, rfl⟩⟩
theorem fX1_readDeviation_21 : rp_fl YX1_readDeviation 21 1 2 := ⟨(RX1, TX1, 5), rfl, by decide, rfl, by decide +kernel, rp_inc (by decide +kernel)⟩
theorem fX1_readDeviation_24 : rp_fl YX1_readDeviation 24 1 3 := ⟨(RX1, TX1, 5), rfl, by decide, rfl, by decide +kernel, rp_inc (by decide +kernel)⟩
theorem fX1_readGroup_21 : rp_fl YX1_readGroup 21 1 2 := ⟨(RX1, TX1, 5), rfl, by decide, rfl, by decide +kernel, rp_inc (by decide +kernel)⟩
theorem fX1_readGroup_24 : rp_fl YX1_readGroup 24 1 3 := ⟨(RX1, TX1, 5), rfl, by decide, rfl, by decide +kernel, rp_inc (by decide +kernel)⟩
theorem kX1_readGroup_36 : rp_cv YX1_readGroup 36 YX1_accept 1 1 := ⟨gX1_readGroup_X1_accept, oX1_accept, uX1_accept, ⟨rfl, rfl, by decide, by decide⟩, ⟨_, rfl, rfl⟩⟩
theorem kX1_readGroup_51 : rp_cv YX1_readGroup 51 YX1_digit 0 1 := ⟨gX1_readGroup_X1_digit, oX1_digit, uX1_digit, ⟨rfl, rfl, by decide, by decide⟩, ⟨_, rfl, rfl⟩⟩
theorem fX1_readGroup_27 : rp_fl YX1_readGroup 27 1 4 := ⟨(RX1, TX1, 5), rfl, by decide, rfl, by decide +kernel, rp_inc (by decide +kernel)⟩
theorem pX1_readGroup_27 : rp_pl YX1_readGroup 27 1 4 .int := ⟨(RX1, TX1, 5), tyX1, rfl, by decide, rfl, by decide +kernel, rp_inc (by decide +kernel), tyX1_ok, nmX1, rfl, by decide +kernel⟩
theorem kX1_readItem_40 : rp_cv YX1_readItem 40 YX1_readNumber 2 1 := ⟨gX1_readItem_X1_readNumber, oX1_readNumber, uX1_readNumber, ⟨rfl, rfl, by decide, by decide⟩, ⟨_, rfl, rfl⟩⟩
theorem kX1_readItem_36 : rp_cv YX1_readItem 36 YX1_accept 1 1 := ⟨gX1_readItem_X1_accept, oX1_accept, uX1_accept, ⟨rfl, rfl, by decide, by decide⟩, ⟨_, rfl, rfl⟩⟩
theorem kX1_readItem_44 : rp_cv YX1_readItem 44 YX1_readDeviation 2 1 := ⟨gX1_readItem_X1_readDeviation, oX1_readDeviation, uX1_readDeviation, ⟨rfl, rfl, by decide, by decide⟩, ⟨_, rfl, rfl⟩⟩
theorem kX1_readItem_48 : rp_cv YX1_readItem 48 YX1_readGroup 0 1 := ⟨gX1_readItem_X1_readGroup, oX1_readGroup, uX1_readGroup, ⟨rfl, rfl, by decide, by decide⟩, ⟨_, rfl, rfl⟩⟩
theorem pX1_read_27 : rp_pl YX1_read 27 1 4 .int := ⟨(RX1, TX1, 5), tyX1, rfl, by decide, rfl, by decide +kernel, rp_inc (by decide +kernel), tyX1_ok, nmX1, rfl, by decide +kernel⟩
theorem pX1_read_24 : rp_pl YX1_read 24 1 3 .int := ⟨(RX1, TX1, 5), tyX1, rfl, by decide, rfl, by decide +kernel, rp_inc (by decide +kernel), tyX1_ok, nmX1, rfl, by decide +kernel⟩
theorem kX1_read_32 : rp_cv YX1_read 32 YX1_readItem 0 1 := ⟨gX1_read_X1_readItem, oX1_readItem, uX1_readItem, ⟨rfl, rfl, by decide, by decide⟩, ⟨_, rfl, rfl⟩⟩
theorem fX1_read_24 : rp_fl YX1_read 24 1 3 := ⟨(RX1, TX1, 5), rfl, by decide, rfl, by decide +kernel, rp_inc (by decide +kernel)⟩
theorem fX1_read_27 : rp_fl YX1_read 27 1 4 := ⟨(RX1, TX1, 5), rfl, by decide, rfl, by decide +kernel, rp_inc (by decide +kernel)⟩
theorem fX1_read_15 : rp_fl YX1_read 15 1 1 := ⟨(RX1, TX1, 5), rfl, by decide, rfl, by decide +kernel, rp_inc (by decide +kernel)⟩
theorem kX1_read_36 : rp_cv YX1_read 36 YX1_accept 1 1 := ⟨gX1_read_X1_accept, oX1_accept, uX1_accept, ⟨rfl, rfl, by decide, by decide⟩, ⟨_, rfl, rfl⟩⟩
theorem fX2_collect_9 : rp_fl YX2_collect 9 2 0 := ⟨(RX2, TX2, 5), rfl, by decide, rfl, by decide +kernel, rp_inc (by decide +kernel)⟩
theorem fX2_collect_28 : rp_fl YX2_collect 28 4 0 := ⟨(RX4, TX4, 5), rfl, by decide, rfl, by decide +kernel, rp_inc (by decide +kernel)⟩
theorem fX2_collect_34 : rp_fl YX2_collect 34 4 4 := ⟨(RX4, TX4, 5), rfl, by decide, rfl, by decide +kernel, rp_inc (by decide +kernel)⟩
theorem kX2_collect_37 : GoodIn YX2_collect.2.2.2.2.1 YX5_sumUp.2.2.2.2.1 ∧ rp_room YX2_collect YX5_sumUp ∧ Cond.initialized YX5_sumUp.1.cls ∈ YX2_collect.2.2.2.2.1 ∧ Cond.static YX5_sumUp.1 ∈ YX2_collect.2.2.2.2.1 := ⟨gX2_collect_X5_sumUp_n37, ⟨rfl, rfl, by decide, by decide⟩, by decide +kernel, by decide +kernel⟩
theorem fX2_collect_15 : rp_fl YX2_collect 15 2 1 := ⟨(RX2, TX2, 5), rfl, by decide, rfl, by decide +kernel, rp_inc (by decide +kernel)⟩
theorem pX2_collect_24 : rp_pl YX2_collect 24 2 4 .int := ⟨(RX2, TX2, 5), tyX2, rfl, by decide, rfl, by decide +kernel, rp_inc (by decide +kernel), tyX2_ok, nmX2, rfl, by decide +kernel⟩
theorem kX2_collect_41 : rp_cs YX2_collect 41 YJ6_bitCount_0f7a4 1 := ⟨gX2_collect_J6_bitCount_0f7a4, oJ6_bitCount_0f7a4, uJ6_bitCount_0f7a4, ⟨rfl, rfl, by decide, by decide⟩⟩
theorem kX2_collect_47 : rp_cv YX2_collect 47 YX0_allows 1 0 := ⟨gX2_collect_X0_allows, oX0_allows, uX0_allows, ⟨rfl, rfl, by decide, by decide⟩, ⟨_, rfl, rfl⟩⟩
theorem fX2_collect_18 : rp_fl YX2_collect 18 2 2 := ⟨(RX2, TX2, 5), rfl, by decide, rfl, by decide +kernel, rp_inc (by decide +kernel)⟩
theorem fX2_collect_24 : rp_fl YX2_collect 24 2 4 := ⟨(RX2, TX2, 5), rfl, by decide, rfl, by decide +kernel, rp_inc (by decide +kernel)⟩
theorem fX2_profitIn_24 : rp_fl YX2_profitIn 24 2 4 := ⟨(RX2, TX2, 5), rfl, by decide, rfl, by decide +kernel, rp_inc (by decide +kernel)⟩
theorem fX2_profitIn_18 : rp_fl YX2_profitIn 18 2 2 := ⟨(RX2, TX2, 5), rfl, by decide, rfl, by decide +kernel, rp_inc (by decide +kernel)⟩
theorem fX2_profitIn_9 : rp_fl YX2_profitIn 9 2 0 := ⟨(RX2, TX2, 5), rfl, by decide, rfl, by decide +kernel, rp_inc (by decide +kernel)⟩
theorem fX2_profitIn_15 : rp_fl YX2_profitIn 15 2 1 := ⟨(RX2, TX2, 5), rfl, by decide, rfl, by decide +kernel, rp_inc (by decide +kernel)⟩
theorem fX2_plainValue_34 : rp_fl YX2_plainValue 34 4 4 := ⟨(RX4, TX4, 5), rfl, by decide, rfl, by decide +kernel, rp_inc (by decide +kernel)⟩
theorem fX2_plainValue_28 : rp_fl YX2_plainValue 28 4 0 := ⟨(RX4, TX4, 5), rfl, by decide, rfl, by decide +kernel, rp_inc (by decide +kernel)⟩
theorem kX2_plainValue_53 : Cond.methodLink YX2_plainValue.1.cls 53 Lib.Math.max.name ∈ YX2_plainValue.2.2.2.2.1 ∧ Cond.static Lib.Math.max.name ∈ YX2_plainValue.2.2.2.2.1 ∧ Cond.initialized "java/lang/Math" ∈ YX2_plainValue.2.2.2.2.1 ∧ Cond.code Lib.Math.max.name Lib.Math.max.code 2 (some .int) ∈ YX2_plainValue.2.2.2.2.1 := ⟨by decide +kernel, by decide +kernel, by decide +kernel, by decide +kernel⟩
theorem fX2_plainValue_21 : rp_fl YX2_plainValue 21 2 3 := ⟨(RX2, TX2, 5), rfl, by decide, rfl, by decide +kernel, rp_inc (by decide +kernel)⟩
theorem fX2_plainValue_9 : rp_fl YX2_plainValue 9 2 0 := ⟨(RX2, TX2, 5), rfl, by decide, rfl, by decide +kernel, rp_inc (by decide +kernel)⟩
theorem kX2_plainValue_37 : GoodIn YX2_plainValue.2.2.2.2.1 YX5_sumUp.2.2.2.2.1 ∧ rp_room YX2_plainValue YX5_sumUp ∧ Cond.initialized YX5_sumUp.1.cls ∈ YX2_plainValue.2.2.2.2.1 ∧ Cond.static YX5_sumUp.1 ∈ YX2_plainValue.2.2.2.2.1 := ⟨gX2_plainValue_X5_sumUp_n37, ⟨rfl, rfl, by decide, by decide⟩, by decide +kernel, by decide +kernel⟩
theorem fX2_plainValue_59 : rp_fl YX2_plainValue 59 0 8 := ⟨(RX0, TX0, 10), rfl, by decide, rfl, by decide +kernel, rp_inc (by decide +kernel)⟩
theorem fX2_plainValue_62 : rp_fl YX2_plainValue 62 0 2 := ⟨(RX0, TX0, 10), rfl, by decide, rfl, by decide +kernel, rp_inc (by decide +kernel)⟩
theorem kX2_plainValue_47 : rp_cv YX2_plainValue 47 YX0_allows 1 0 := ⟨gX2_plainValue_X0_allows, oX0_allows, uX0_allows, ⟨rfl, rfl, by decide, by decide⟩, ⟨_, rfl, rfl⟩⟩
theorem kX3_clear_49 : Cond.methodLink YX3_clear.1.cls 49 Lib.Math.min.name ∈ YX3_clear.2.2.2.2.1 ∧ Cond.static Lib.Math.min.name ∈ YX3_clear.2.2.2.2.1 ∧ Cond.initialized "java/lang/Math" ∈ YX3_clear.2.2.2.2.1 ∧ Cond.code Lib.Math.min.name Lib.Math.min.code 2 (some .int) ∈ YX3_clear.2.2.2.2.1 := ⟨by decide +kernel, by decide +kernel, by decide +kernel, by decide +kernel⟩
theorem fX3_clear_9 : rp_fl YX3_clear 9 3 0 := ⟨(RX3, TX3, 2), rfl, by decide, rfl, by decide +kernel, rp_inc (by decide +kernel)⟩
theorem fX3_offer_9 : rp_fl YX3_offer 9 3 0 := ⟨(RX3, TX3, 2), rfl, by decide, rfl, by decide +kernel, rp_inc (by decide +kernel)⟩
theorem pX3_keepRising_15 : rp_pl YX3_keepRising 15 3 1 .int := ⟨(RX3, TX3, 2), tyX3, rfl, by decide, rfl, by decide +kernel, rp_inc (by decide +kernel), tyX3_ok, nmX3, rfl, by decide +kernel⟩
theorem fX3_keepRising_9 : rp_fl YX3_keepRising 9 3 0 := ⟨(RX3, TX3, 2), rfl, by decide, rfl, by decide +kernel, rp_inc (by decide +kernel)⟩
theorem fX3_keepRising_15 : rp_fl YX3_keepRising 15 3 1 := ⟨(RX3, TX3, 2), rfl, by decide, rfl, by decide +kernel, rp_inc (by decide +kernel)⟩
theorem fX3_buildFrontier_19 : rp_fl YX3_buildFrontier 19 0 0 := ⟨(RX0, TX0, 10), rfl, by decide, rfl, by decide +kernel, rp_inc (by decide +kernel)⟩
theorem fX3_buildFrontier_24 : rp_fl YX3_buildFrontier 24 0 8 := ⟨(RX0, TX0, 10), rfl, by decide, rfl, by decide +kernel, rp_inc (by decide +kernel)⟩
theorem kX3_buildFrontier_27 : rp_cv YX3_buildFrontier 27 YX3_clear 2 3 := ⟨gX3_buildFrontier_X3_clear, oX3_clear, uX3_clear, ⟨rfl, rfl, by decide, by decide⟩, ⟨_, rfl, rfl⟩⟩
theorem kX3_buildFrontier_31 : rp_cv YX3_buildFrontier 31 YX0_stands 2 0 := ⟨gX3_buildFrontier_X0_stands, oX0_stands, uX0_stands, ⟨rfl, rfl, by decide, by decide⟩, ⟨_, rfl, rfl⟩⟩
theorem fX3_buildFrontier_35 : rp_fl YX3_buildFrontier 35 0 1 := ⟨(RX0, TX0, 10), rfl, by decide, rfl, by decide +kernel, rp_inc (by decide +kernel)⟩
theorem kX3_buildFrontier_38 : rp_cv YX3_buildFrontier 38 YX3_offer 3 3 := ⟨gX3_buildFrontier_X3_offer, oX3_offer, uX3_offer, ⟨rfl, rfl, by decide, by decide⟩, ⟨_, rfl, rfl⟩⟩
theorem kX3_buildFrontier_42 : rp_cv YX3_buildFrontier 42 YX3_keepRising 2 3 := ⟨gX3_buildFrontier_X3_keepRising, oX3_keepRising, uX3_keepRising, ⟨rfl, rfl, by decide, by decide⟩, ⟨_, rfl, rfl⟩⟩
theorem fX3_buildList_19 : rp_fl YX3_buildList 19 0 0 := ⟨(RX0, TX0, 10), rfl, by decide, rfl, by decide +kernel, rp_inc (by decide +kernel)⟩
theorem kX3_buildList_27 : rp_cv YX3_buildList 27 YX3_clear 2 3 := ⟨gX3_buildList_X3_clear, oX3_clear, uX3_clear, ⟨rfl, rfl, by decide, by decide⟩, ⟨_, rfl, rfl⟩⟩
theorem fX3_buildList_46 : rp_fl YX3_buildList 46 0 2 := ⟨(RX0, TX0, 10), rfl, by decide, rfl, by decide +kernel, rp_inc (by decide +kernel)⟩
theorem kX3_buildList_38 : rp_cv YX3_buildList 38 YX3_offer 3 3 := ⟨gX3_buildList_X3_offer, oX3_offer, uX3_offer, ⟨rfl, rfl, by decide, by decide⟩, ⟨_, rfl, rfl⟩⟩
theorem kX3_buildList_42 : rp_cv YX3_buildList 42 YX3_keepRising 2 3 := ⟨gX3_buildList_X3_keepRising, oX3_keepRising, uX3_keepRising, ⟨rfl, rfl, by decide, by decide⟩, ⟨_, rfl, rfl⟩⟩
theorem fX3_stepAt_15 : rp_fl YX3_stepAt 15 3 1 := ⟨(RX3, TX3, 2), rfl, by decide, rfl, by decide +kernel, rp_inc (by decide +kernel)⟩
theorem fX3_stepAt_9 : rp_fl YX3_stepAt 9 3 0 := ⟨(RX3, TX3, 2), rfl, by decide, rfl, by decide +kernel, rp_inc (by decide +kernel)⟩
theorem fX3_firstWith_15 : rp_fl YX3_firstWith 15 3 1 := ⟨(RX3, TX3, 2), rfl, by decide, rfl, by decide +kernel, rp_inc (by decide +kernel)⟩
theorem fX3_firstWith_9 : rp_fl YX3_firstWith 9 3 0 := ⟨(RX3, TX3, 2), rfl, by decide, rfl, by decide +kernel, rp_inc (by decide +kernel)⟩
theorem fX4_copyFrom_11 : rp_fl YX4_copyFrom 11 4 0 := ⟨(RX4, TX4, 5), rfl, by decide, rfl, by decide +kernel, rp_inc (by decide +kernel)⟩
theorem kX4_copyFrom_30 : Cond.methodLink YX4_copyFrom.1.cls 30 arraycopyName ∈ YX4_copyFrom.2.2.2.2.1 ∧ Cond.native arraycopyName ∈ YX4_copyFrom.2.2.2.2.1 ∧ Cond.static arraycopyName ∈ YX4_copyFrom.2.2.2.2.1 ∧ Cond.initialized "java/lang/System" ∈ YX4_copyFrom.2.2.2.2.1 := ⟨by decide +kernel, by decide +kernel, by decide +kernel, by decide +kernel⟩
theorem fX4_copyFrom_16 : rp_fl YX4_copyFrom 16 4 1 := ⟨(RX4, TX4, 5), rfl, by decide, rfl, by decide +kernel, rp_inc (by decide +kernel)⟩
theorem fX4_copyFrom_20 : rp_fl YX4_copyFrom 20 4 2 := ⟨(RX4, TX4, 5), rfl, by decide, rfl, by decide +kernel, rp_inc (by decide +kernel)⟩
theorem fX4_copyFrom_23 : rp_fl YX4_copyFrom 23 4 3 := ⟨(RX4, TX4, 5), rfl, by decide, rfl, by decide +kernel, rp_inc (by decide +kernel)⟩
theorem fX4_copyFrom_26 : rp_fl YX4_copyFrom 26 4 4 := ⟨(RX4, TX4, 5), rfl, by decide, rfl, by decide +kernel, rp_inc (by decide +kernel)⟩
theorem pX4_copyFrom_26 : rp_pl YX4_copyFrom 26 4 4 .int := ⟨(RX4, TX4, 5), tyX4, rfl, by decide, rfl, by decide +kernel, rp_inc (by decide +kernel), tyX4_ok, nmX4, rfl, by decide +kernel⟩
theorem fX4_append_26 : rp_fl YX4_append 26 4 4 := ⟨(RX4, TX4, 5), rfl, by decide, rfl, by decide +kernel, rp_inc (by decide +kernel)⟩
theorem fX4_append_11 : rp_fl YX4_append 11 4 0 := ⟨(RX4, TX4, 5), rfl, by decide, rfl, by decide +kernel, rp_inc (by decide +kernel)⟩
theorem fX4_append_16 : rp_fl YX4_append 16 4 1 := ⟨(RX4, TX4, 5), rfl, by decide, rfl, by decide +kernel, rp_inc (by decide +kernel)⟩
theorem fX4_append_20 : rp_fl YX4_append 20 4 2 := ⟨(RX4, TX4, 5), rfl, by decide, rfl, by decide +kernel, rp_inc (by decide +kernel)⟩
theorem pX4_append_26 : rp_pl YX4_append 26 4 4 .int := ⟨(RX4, TX4, 5), tyX4, rfl, by decide, rfl, by decide +kernel, rp_inc (by decide +kernel), tyX4_ok, nmX4, rfl, by decide +kernel⟩
theorem fX4_takeOut_26 : rp_fl YX4_takeOut 26 4 4 := ⟨(RX4, TX4, 5), rfl, by decide, rfl, by decide +kernel, rp_inc (by decide +kernel)⟩
theorem fX4_takeOut_11 : rp_fl YX4_takeOut 11 4 0 := ⟨(RX4, TX4, 5), rfl, by decide, rfl, by decide +kernel, rp_inc (by decide +kernel)⟩
theorem fX4_takeOut_16 : rp_fl YX4_takeOut 16 4 1 := ⟨(RX4, TX4, 5), rfl, by decide, rfl, by decide +kernel, rp_inc (by decide +kernel)⟩
theorem fX4_takeOut_20 : rp_fl YX4_takeOut 20 4 2 := ⟨(RX4, TX4, 5), rfl, by decide, rfl, by decide +kernel, rp_inc (by decide +kernel)⟩
theorem pX4_takeOut_26 : rp_pl YX4_takeOut 26 4 4 .int := ⟨(RX4, TX4, 5), tyX4, rfl, by decide, rfl, by decide +kernel, rp_inc (by decide +kernel), tyX4_ok, nmX4, rfl, by decide +kernel⟩
theorem kX4_takeOut_36 : rp_cs YX4_takeOut 36 YX4_closeGap 2 := ⟨gX4_takeOut_X4_closeGap, oX4_closeGap, uX4_closeGap, ⟨rfl, rfl, by decide, by decide⟩⟩
theorem fX4_neededBy_26 : rp_fl YX4_neededBy 26 4 4 := ⟨(RX4, TX4, 5), rfl, by decide, rfl, by decide +kernel, rp_inc (by decide +kernel)⟩
theorem fX4_neededBy_20 : rp_fl YX4_neededBy 20 4 2 := ⟨(RX4, TX4, 5), rfl, by decide, rfl, by decide +kernel, rp_inc (by decide +kernel)⟩
theorem fX4_bitsIn_26 : rp_fl YX4_bitsIn 26 4 4 := ⟨(RX4, TX4, 5), rfl, by decide, rfl, by decide +kernel, rp_inc (by decide +kernel)⟩
theorem kX4_bitsIn_40 : rp_cs YX4_bitsIn 40 YJ6_bitCount_0f7a4 1 := ⟨gX4_bitsIn_J6_bitCount_0f7a4, oJ6_bitCount_0f7a4, uJ6_bitCount_0f7a4, ⟨rfl, rfl, by decide, by decide⟩⟩
theorem fX4_sumOf_26 : rp_fl YX4_sumOf 26 4 4 := ⟨(RX4, TX4, 5), rfl, by decide, rfl, by decide +kernel, rp_inc (by decide +kernel)⟩
theorem fX4_sumOf_11 : rp_fl YX4_sumOf 11 4 0 := ⟨(RX4, TX4, 5), rfl, by decide, rfl, by decide +kernel, rp_inc (by decide +kernel)⟩
theorem kX4_weightUnder_46 : rp_cv YX4_weightUnder 46 YX4_sumOf 2 4 := ⟨gX4_weightUnder_X4_sumOf, oX4_sumOf, uX4_sumOf, ⟨rfl, rfl, by decide, by decide⟩, ⟨_, rfl, rfl⟩⟩
theorem kX4_profitUnder_46 : rp_cv YX4_profitUnder 46 YX4_sumOf 2 4 := ⟨gX4_profitUnder_X4_sumOf, oX4_sumOf, uX4_sumOf, ⟨rfl, rfl, by decide, by decide⟩, ⟨_, rfl, rfl⟩⟩
theorem fX4_worst_26 : rp_fl YX4_worst 26 4 4 := ⟨(RX4, TX4, 5), rfl, by decide, rfl, by decide +kernel, rp_inc (by decide +kernel)⟩
theorem fX4_worst_11 : rp_fl YX4_worst 11 4 0 := ⟨(RX4, TX4, 5), rfl, by decide, rfl, by decide +kernel, rp_inc (by decide +kernel)⟩
theorem fX4_isMoreFruitful_11 : rp_fl YX4_isMoreFruitful 11 4 0 := ⟨(RX4, TX4, 5), rfl, by decide, rfl, by decide +kernel, rp_inc (by decide +kernel)⟩
theorem fX4_mostFruitful_26 : rp_fl YX4_mostFruitful 26 4 4 := ⟨(RX4, TX4, 5), rfl, by decide, rfl, by decide +kernel, rp_inc (by decide +kernel)⟩
theorem kX4_mostFruitful_49 : rp_cv YX4_mostFruitful 49 YX4_isMoreFruitful 2 4 := ⟨gX4_mostFruitful_X4_isMoreFruitful, oX4_isMoreFruitful, uX4_isMoreFruitful, ⟨rfl, rfl, by decide, by decide⟩, ⟨_, rfl, rfl⟩⟩
theorem kX4_mostFruitful_53 : Cond.methodLink YX4_mostFruitful.1.cls 53 Lib.Math.max.name ∈ YX4_mostFruitful.2.2.2.2.1 ∧ Cond.static Lib.Math.max.name ∈ YX4_mostFruitful.2.2.2.2.1 ∧ Cond.initialized "java/lang/Math" ∈ YX4_mostFruitful.2.2.2.2.1 ∧ Cond.code Lib.Math.max.name Lib.Math.max.code 2 (some .int) ∈ YX4_mostFruitful.2.2.2.2.1 := ⟨by decide +kernel, by decide +kernel, by decide +kernel, by decide +kernel⟩
theorem fX4_thresholdBelow_26 : rp_fl YX4_thresholdBelow 26 4 4 := ⟨(RX4, TX4, 5), rfl, by decide, rfl, by decide +kernel, rp_inc (by decide +kernel)⟩
theorem fX4_thresholdBelow_11 : rp_fl YX4_thresholdBelow 11 4 0 := ⟨(RX4, TX4, 5), rfl, by decide, rfl, by decide +kernel, rp_inc (by decide +kernel)⟩
theorem fX5_inRange_270 : Cond.fieldLink YX5_inRange.1.cls 270 "RobustPacking" (rp_sn 0) "[I" ∈ YX5_inRange.2.2.2.2.1 := by decide +kernel
theorem fX5_inRange_273 : Cond.fieldLink YX5_inRange.1.cls 273 "RobustPacking" (rp_sn 1) "[I" ∈ YX5_inRange.2.2.2.2.1 := by decide +kernel
theorem fX5_remember_16 : rp_fl YX5_remember 16 5 1 := ⟨(RX5, TX5, 8), rfl, by decide, rfl, by decide +kernel, rp_inc (by decide +kernel)⟩
theorem fX5_remember_24 : rp_fl YX5_remember 24 5 3 := ⟨(RX5, TX5, 8), rfl, by decide, rfl, by decide +kernel, rp_inc (by decide +kernel)⟩
theorem fX5_remember_10 : rp_fl YX5_remember 10 5 0 := ⟨(RX5, TX5, 8), rfl, by decide, rfl, by decide +kernel, rp_inc (by decide +kernel)⟩
theorem kX5_remember_257 : rp_cv YX5_remember 257 YX4_copyFrom 1 4 := ⟨gX5_remember_X4_copyFrom, oX4_copyFrom, uX4_copyFrom, ⟨rfl, rfl, by decide, by decide⟩, ⟨_, rfl, rfl⟩⟩
theorem pX5_remember_24 : rp_pl YX5_remember 24 5 3 .int := ⟨(RX5, TX5, 8), tyX5, rfl, by decide, rfl, by decide +kernel, rp_inc (by decide +kernel), tyX5_ok, nmX5, rfl, by decide +kernel⟩
theorem fX5_remember_20 : rp_fl YX5_remember 20 5 2 := ⟨(RX5, TX5, 8), rfl, by decide, rfl, by decide +kernel, rp_inc (by decide +kernel)⟩
theorem kX5_remember_265 : Cond.methodLink YX5_remember.1.cls 265 Lib.Math.min.name ∈ YX5_remember.2.2.2.2.1 ∧ Cond.static Lib.Math.min.name ∈ YX5_remember.2.2.2.2.1 ∧ Cond.initialized "java/lang/Math" ∈ YX5_remember.2.2.2.2.1 ∧ Cond.code Lib.Math.min.name Lib.Math.min.code 2 (some .int) ∈ YX5_remember.2.2.2.2.1 := ⟨by decide +kernel, by decide +kernel, by decide +kernel, by decide +kernel⟩
theorem pX5_remember_20 : rp_pl YX5_remember 20 5 2 .int := ⟨(RX5, TX5, 8), tyX5, rfl, by decide, rfl, by decide +kernel, rp_inc (by decide +kernel), tyX5_ok, nmX5, rfl, by decide +kernel⟩
theorem fX5_remember_37 : rp_fl YX5_remember 37 5 5 := ⟨(RX5, TX5, 8), rfl, by decide, rfl, by decide +kernel, rp_inc (by decide +kernel)⟩
theorem pX5_remember_191 : rp_pl YX5_remember 191 0 9 .boolean := ⟨(RX0, TX0, 10), tyX0, rfl, by decide, rfl, by decide +kernel, rp_inc (by decide +kernel), tyX0_ok, nmX0, rfl, by decide +kernel⟩
theorem kX5_add_55 : rp_cs YX5_add 55 YX5_inRange 2 := ⟨gX5_add_X5_inRange, oX5_inRange, uX5_inRange, ⟨rfl, rfl, by decide, by decide⟩⟩
theorem fX5_add_10 : rp_fl YX5_add 10 5 0 := ⟨(RX5, TX5, 8), rfl, by decide, rfl, by decide +kernel, rp_inc (by decide +kernel)⟩
theorem fX5_add_59 : rp_fl YX5_add 59 4 4 := ⟨(RX4, TX4, 5), rfl, by decide, rfl, by decide +kernel, rp_inc (by decide +kernel)⟩
theorem kX5_add_62 : rp_cv YX5_add 62 YX5_remember 0 5 := ⟨gX5_add_X5_remember, oX5_remember, uX5_remember, ⟨rfl, rfl, by decide, by decide⟩, ⟨_, rfl, rfl⟩⟩
theorem kX5_add_65 : rp_cv YX5_add 65 YX4_append 5 4 := ⟨gX5_add_X4_append, oX4_append, uX4_append, ⟨rfl, rfl, by decide, by decide⟩, ⟨_, rfl, rfl⟩⟩
theorem fX5_exists_10 : rp_fl YX5_exists 10 5 0 := ⟨(RX5, TX5, 8), rfl, by decide, rfl, by decide +kernel, rp_inc (by decide +kernel)⟩
theorem fX5_exists_59 : rp_fl YX5_exists 59 4 4 := ⟨(RX4, TX4, 5), rfl, by decide, rfl, by decide +kernel, rp_inc (by decide +kernel)⟩
theorem kX5_remove_69 : rp_cv YX5_remove 69 YX5_exists 1 5 := ⟨gX5_remove_X5_exists, oX5_exists, uX5_exists, ⟨rfl, rfl, by decide, by decide⟩, ⟨_, rfl, rfl⟩⟩
theorem kX5_remove_62 : rp_cv YX5_remove 62 YX5_remember 0 5 := ⟨gX5_remove_X5_remember, oX5_remember, uX5_remember, ⟨rfl, rfl, by decide, by decide⟩, ⟨_, rfl, rfl⟩⟩
theorem fX5_remove_10 : rp_fl YX5_remove 10 5 0 := ⟨(RX5, TX5, 8), rfl, by decide, rfl, by decide +kernel, rp_inc (by decide +kernel)⟩
theorem kX5_remove_73 : rp_cv YX5_remove 73 YX4_takeOut 1 4 := ⟨gX5_remove_X4_takeOut, oX4_takeOut, uX4_takeOut, ⟨rfl, rfl, by decide, by decide⟩, ⟨_, rfl, rfl⟩⟩
theorem fX5_remove_59 : rp_fl YX5_remove 59 4 4 := ⟨(RX4, TX4, 5), rfl, by decide, rfl, by decide +kernel, rp_inc (by decide +kernel)⟩
theorem fX5_propertyOf_10 : rp_fl YX5_propertyOf 10 5 0 := ⟨(RX5, TX5, 8), rfl, by decide, rfl, by decide +kernel, rp_inc (by decide +kernel)⟩
theorem fX5_propertyOf_81 : rp_fl YX5_propertyOf 81 4 0 := ⟨(RX4, TX4, 5), rfl, by decide, rfl, by decide +kernel, rp_inc (by decide +kernel)⟩
theorem kX5_set_69 : rp_cv YX5_set 69 YX5_exists 1 5 := ⟨gX5_set_X5_exists, oX5_exists, uX5_exists, ⟨rfl, rfl, by decide, by decide⟩, ⟨_, rfl, rfl⟩⟩
theorem kX5_set_55 : rp_cs YX5_set 55 YX5_inRange 2 := ⟨gX5_set_X5_inRange, oX5_inRange, uX5_inRange, ⟨rfl, rfl, by decide, by decide⟩⟩
theorem kX5_set_77 : rp_cv YX5_set 77 YX5_propertyOf 2 5 := ⟨gX5_set_X5_propertyOf, oX5_propertyOf, uX5_propertyOf, ⟨rfl, rfl, by decide, by decide⟩, ⟨_, rfl, rfl⟩⟩
theorem kX5_set_62 : rp_cv YX5_set 62 YX5_remember 0 5 := ⟨gX5_set_X5_remember, oX5_remember, uX5_remember, ⟨rfl, rfl, by decide, by decide⟩, ⟨_, rfl, rfl⟩⟩
theorem fX5_set_10 : rp_fl YX5_set 10 5 0 := ⟨(RX5, TX5, 8), rfl, by decide, rfl, by decide +kernel, rp_inc (by decide +kernel)⟩
theorem fX5_set_81 : rp_fl YX5_set 81 4 0 := ⟨(RX4, TX4, 5), rfl, by decide, rfl, by decide +kernel, rp_inc (by decide +kernel)⟩
theorem kX5_item_69 : rp_cv YX5_item 69 YX5_exists 1 5 := ⟨gX5_item_X5_exists, oX5_exists, uX5_exists, ⟨rfl, rfl, by decide, by decide⟩, ⟨_, rfl, rfl⟩⟩
theorem kX5_item_77 : rp_cv YX5_item 77 YX5_propertyOf 2 5 := ⟨gX5_item_X5_propertyOf, oX5_propertyOf, uX5_propertyOf, ⟨rfl, rfl, by decide, by decide⟩, ⟨_, rfl, rfl⟩⟩
theorem fX5_item_10 : rp_fl YX5_item 10 5 0 := ⟨(RX5, TX5, 8), rfl, by decide, rfl, by decide +kernel, rp_inc (by decide +kernel)⟩
theorem fX5_item_85 : rp_fl YX5_item 85 4 1 := ⟨(RX4, TX4, 5), rfl, by decide, rfl, by decide +kernel, rp_inc (by decide +kernel)⟩
theorem fX5_item_89 : rp_fl YX5_item 89 4 2 := ⟨(RX4, TX4, 5), rfl, by decide, rfl, by decide +kernel, rp_inc (by decide +kernel)⟩
theorem kX5_item_92 : rp_cv YX5_item 92 YX4_neededBy 1 4 := ⟨gX5_item_X4_neededBy, oX4_neededBy, uX4_neededBy, ⟨rfl, rfl, by decide, by decide⟩, ⟨_, rfl, rfl⟩⟩
theorem kX5_pairError_69 : rp_cv YX5_pairError 69 YX5_exists 1 5 := ⟨gX5_pairError_X5_exists, oX5_exists, uX5_exists, ⟨rfl, rfl, by decide, by decide⟩, ⟨_, rfl, rfl⟩⟩
theorem kX5_conflict_96 : rp_cv YX5_conflict 96 YX5_pairError 2 5 := ⟨gX5_conflict_X5_pairError, oX5_pairError, uX5_pairError, ⟨rfl, rfl, by decide, by decide⟩, ⟨_, rfl, rfl⟩⟩
theorem kX5_conflict_62 : rp_cv YX5_conflict 62 YX5_remember 0 5 := ⟨gX5_conflict_X5_remember, oX5_remember, uX5_remember, ⟨rfl, rfl, by decide, by decide⟩, ⟨_, rfl, rfl⟩⟩
theorem fX5_conflict_10 : rp_fl YX5_conflict 10 5 0 := ⟨(RX5, TX5, 8), rfl, by decide, rfl, by decide +kernel, rp_inc (by decide +kernel)⟩
theorem fX5_conflict_85 : rp_fl YX5_conflict 85 4 1 := ⟨(RX4, TX4, 5), rfl, by decide, rfl, by decide +kernel, rp_inc (by decide +kernel)⟩
theorem kX5_need_96 : rp_cv YX5_need 96 YX5_pairError 2 5 := ⟨gX5_need_X5_pairError, oX5_pairError, uX5_pairError, ⟨rfl, rfl, by decide, by decide⟩, ⟨_, rfl, rfl⟩⟩
theorem kX5_need_62 : rp_cv YX5_need 62 YX5_remember 0 5 := ⟨gX5_need_X5_remember, oX5_remember, uX5_remember, ⟨rfl, rfl, by decide, by decide⟩, ⟨_, rfl, rfl⟩⟩
theorem fX5_need_10 : rp_fl YX5_need 10 5 0 := ⟨(RX5, TX5, 8), rfl, by decide, rfl, by decide +kernel, rp_inc (by decide +kernel)⟩
theorem fX5_need_89 : rp_fl YX5_need 89 4 2 := ⟨(RX4, TX4, 5), rfl, by decide, rfl, by decide +kernel, rp_inc (by decide +kernel)⟩
theorem fX5_rule_99 : Cond.fieldLink YX5_rule.1.cls 99 "RobustPacking" (rp_sn 2) "[I" ∈ YX5_rule.2.2.2.2.1 := by decide +kernel
theorem fX5_rule_10 : rp_fl YX5_rule 10 5 0 := ⟨(RX5, TX5, 8), rfl, by decide, rfl, by decide +kernel, rp_inc (by decide +kernel)⟩
theorem fX5_rule_102 : rp_fl YX5_rule 102 4 3 := ⟨(RX4, TX4, 5), rfl, by decide, rfl, by decide +kernel, rp_inc (by decide +kernel)⟩
theorem kX5_rule_62 : rp_cv YX5_rule 62 YX5_remember 0 5 := ⟨gX5_rule_X5_remember, oX5_remember, uX5_remember, ⟨rfl, rfl, by decide, by decide⟩, ⟨_, rfl, rfl⟩⟩
theorem kX5_put_105 : rp_cs YX5_put 105 YX1_lengthOf 1 := ⟨gX5_put_X1_lengthOf, oX1_lengthOf, uX1_lengthOf, ⟨rfl, rfl, by decide, by decide⟩⟩
theorem fX5_put_30 : rp_fl YX5_put 30 5 4 := ⟨(RX5, TX5, 8), rfl, by decide, rfl, by decide +kernel, rp_inc (by decide +kernel)⟩
theorem fX5_put_109 : rp_fl YX5_put 109 1 1 := ⟨(RX1, TX1, 5), rfl, by decide, rfl, by decide +kernel, rp_inc (by decide +kernel)⟩
theorem kX5_put_112 : rp_cv YX5_put 112 YX1_append 2 1 := ⟨gX5_put_X1_append, oX1_append, uX1_append, ⟨rfl, rfl, by decide, by decide⟩, ⟨_, rfl, rfl⟩⟩
theorem fX5_wipe_30 : rp_fl YX5_wipe 30 5 4 := ⟨(RX5, TX5, 8), rfl, by decide, rfl, by decide +kernel, rp_inc (by decide +kernel)⟩
theorem fX5_wipe_109 : rp_fl YX5_wipe 109 1 1 := ⟨(RX1, TX1, 5), rfl, by decide, rfl, by decide +kernel, rp_inc (by decide +kernel)⟩
theorem pX5_wipe_109 : rp_pl YX5_wipe 109 1 1 .int := ⟨(RX1, TX1, 5), tyX1, rfl, by decide, rfl, by decide +kernel, rp_inc (by decide +kernel), tyX1_ok, nmX1, rfl, by decide +kernel⟩
theorem fX5_fault_30 : rp_fl YX5_fault 30 5 4 := ⟨(RX5, TX5, 8), rfl, by decide, rfl, by decide +kernel, rp_inc (by decide +kernel)⟩
theorem kX5_fault_115 : rp_cv YX5_fault 115 YX1_read 0 1 := ⟨gX5_fault_X1_read, oX1_read, uX1_read, ⟨rfl, rfl, by decide, by decide⟩, ⟨_, rfl, rfl⟩⟩
theorem fX5_fault_119 : rp_fl YX5_fault 119 1 4 := ⟨(RX1, TX1, 5), rfl, by decide, rfl, by decide +kernel, rp_inc (by decide +kernel)⟩
theorem fX5_load_30 : rp_fl YX5_load 30 5 4 := ⟨(RX5, TX5, 8), rfl, by decide, rfl, by decide +kernel, rp_inc (by decide +kernel)⟩
theorem kX5_load_115 : rp_cv YX5_load 115 YX1_read 0 1 := ⟨gX5_load_X1_read, oX1_read, uX1_read, ⟨rfl, rfl, by decide, by decide⟩, ⟨_, rfl, rfl⟩⟩
theorem fX5_load_10 : rp_fl YX5_load 10 5 0 := ⟨(RX5, TX5, 8), rfl, by decide, rfl, by decide +kernel, rp_inc (by decide +kernel)⟩
theorem fX5_load_59 : rp_fl YX5_load 59 4 4 := ⟨(RX4, TX4, 5), rfl, by decide, rfl, by decide +kernel, rp_inc (by decide +kernel)⟩
theorem fX5_load_122 : rp_fl YX5_load 122 1 3 := ⟨(RX1, TX1, 5), rfl, by decide, rfl, by decide +kernel, rp_inc (by decide +kernel)⟩
theorem kX5_load_62 : rp_cv YX5_load 62 YX5_remember 0 5 := ⟨gX5_load_X5_remember, oX5_remember, uX5_remember, ⟨rfl, rfl, by decide, by decide⟩, ⟨_, rfl, rfl⟩⟩
theorem fX5_load_125 : rp_fl YX5_load 125 1 2 := ⟨(RX1, TX1, 5), rfl, by decide, rfl, by decide +kernel, rp_inc (by decide +kernel)⟩
theorem kX5_load_65 : rp_cv YX5_load 65 YX4_append 5 4 := ⟨gX5_load_X4_append, oX4_append, uX4_append, ⟨rfl, rfl, by decide, by decide⟩, ⟨_, rfl, rfl⟩⟩
theorem pX5_load_109 : rp_pl YX5_load 109 1 1 .int := ⟨(RX1, TX1, 5), tyX1, rfl, by decide, rfl, by decide +kernel, rp_inc (by decide +kernel), tyX1_ok, nmX1, rfl, by decide +kernel⟩
theorem fX5_isChoice_10 : rp_fl YX5_isChoice 10 5 0 := ⟨(RX5, TX5, 8), rfl, by decide, rfl, by decide +kernel, rp_inc (by decide +kernel)⟩
theorem fX5_isChoice_59 : rp_fl YX5_isChoice 59 4 4 := ⟨(RX4, TX4, 5), rfl, by decide, rfl, by decide +kernel, rp_inc (by decide +kernel)⟩
theorem fX5_budget_10 : rp_fl YX5_budget 10 5 0 := ⟨(RX5, TX5, 8), rfl, by decide, rfl, by decide +kernel, rp_inc (by decide +kernel)⟩
theorem fX5_budget_102 : rp_fl YX5_budget 102 4 3 := ⟨(RX4, TX4, 5), rfl, by decide, rfl, by decide +kernel, rp_inc (by decide +kernel)⟩
theorem fX5_protectedWeight_10 : rp_fl YX5_protectedWeight 10 5 0 := ⟨(RX5, TX5, 8), rfl, by decide, rfl, by decide +kernel, rp_inc (by decide +kernel)⟩
theorem kX5_protectedWeight_157 : rp_cv YX5_protectedWeight 157 YX4_worst 3 4 := ⟨gX5_protectedWeight_X4_worst, oX4_worst, uX4_worst, ⟨rfl, rfl, by decide, by decide⟩, ⟨_, rfl, rfl⟩⟩
theorem kX5_protectedWeight_131 : rp_cv YX5_protectedWeight 131 YX4_weightUnder 2 4 := ⟨gX5_protectedWeight_X4_weightUnder, oX4_weightUnder, uX4_weightUnder, ⟨rfl, rfl, by decide, by decide⟩, ⟨_, rfl, rfl⟩⟩
theorem fX5_worstProfitScenario_10 : rp_fl YX5_worstProfitScenario 10 5 0 := ⟨(RX5, TX5, 8), rfl, by decide, rfl, by decide +kernel, rp_inc (by decide +kernel)⟩
theorem kX5_worstProfitScenario_134 : rp_cv YX5_worstProfitScenario 134 YX5_budget 1 5 := ⟨gX5_worstProfitScenario_X5_budget, oX5_budget, uX5_budget, ⟨rfl, rfl, by decide, by decide⟩, ⟨_, rfl, rfl⟩⟩
theorem kX5_worstProfitScenario_157 : rp_cv YX5_worstProfitScenario 157 YX4_worst 3 4 := ⟨gX5_worstProfitScenario_X4_worst, oX4_worst, uX4_worst, ⟨rfl, rfl, by decide, by decide⟩, ⟨_, rfl, rfl⟩⟩
theorem fX5_prepare_37 : rp_fl YX5_prepare 37 5 5 := ⟨(RX5, TX5, 8), rfl, by decide, rfl, by decide +kernel, rp_inc (by decide +kernel)⟩
theorem fX5_prepare_191 : rp_fl YX5_prepare 191 0 9 := ⟨(RX0, TX0, 10), rfl, by decide, rfl, by decide +kernel, rp_inc (by decide +kernel)⟩
theorem fX5_prepare_10 : rp_fl YX5_prepare 10 5 0 := ⟨(RX5, TX5, 8), rfl, by decide, rfl, by decide +kernel, rp_inc (by decide +kernel)⟩
theorem kX5_prepare_134 : rp_cv YX5_prepare 134 YX5_budget 1 5 := ⟨gX5_prepare_X5_budget, oX5_budget, uX5_budget, ⟨rfl, rfl, by decide, by decide⟩, ⟨_, rfl, rfl⟩⟩
theorem kX5_prepare_187 : rp_cv YX5_prepare 187 YX0_fill 3 0 := ⟨gX5_prepare_X0_fill, oX0_fill, uX0_fill, ⟨rfl, rfl, by decide, by decide⟩, ⟨_, rfl, rfl⟩⟩
theorem pX5_prepare_191 : rp_pl YX5_prepare 191 0 9 .boolean := ⟨(RX0, TX0, 10), tyX0, rfl, by decide, rfl, by decide +kernel, rp_inc (by decide +kernel), tyX0_ok, nmX0, rfl, by decide +kernel⟩
theorem fX5_capacity_10 : rp_fl YX5_capacity 10 5 0 := ⟨(RX5, TX5, 8), rfl, by decide, rfl, by decide +kernel, rp_inc (by decide +kernel)⟩
theorem fX5_capacity_102 : rp_fl YX5_capacity 102 4 3 := ⟨(RX4, TX4, 5), rfl, by decide, rfl, by decide +kernel, rp_inc (by decide +kernel)⟩
theorem kX5_greatestBudget_137 : rp_cv YX5_greatestBudget 137 YX5_protectedWeight 2 5 := ⟨gX5_greatestBudget_X5_protectedWeight, oX5_protectedWeight, uX5_protectedWeight, ⟨rfl, rfl, by decide, by decide⟩, ⟨_, rfl, rfl⟩⟩
theorem kX5_greatestBudget_153 : rp_cv YX5_greatestBudget 153 YX5_capacity 0 5 := ⟨gX5_greatestBudget_X5_capacity, oX5_capacity, uX5_capacity, ⟨rfl, rfl, by decide, by decide⟩, ⟨_, rfl, rfl⟩⟩
theorem kX5_choice_128 : rp_cv YX5_choice 128 YX5_isChoice 1 5 := ⟨gX5_choice_X5_isChoice, oX5_isChoice, uX5_isChoice, ⟨rfl, rfl, by decide, by decide⟩, ⟨_, rfl, rfl⟩⟩
theorem fX5_choice_10 : rp_fl YX5_choice 10 5 0 := ⟨(RX5, TX5, 8), rfl, by decide, rfl, by decide +kernel, rp_inc (by decide +kernel)⟩
theorem kX5_choice_131 : rp_cv YX5_choice 131 YX4_weightUnder 2 4 := ⟨gX5_choice_X4_weightUnder, oX4_weightUnder, uX4_weightUnder, ⟨rfl, rfl, by decide, by decide⟩, ⟨_, rfl, rfl⟩⟩
theorem kX5_choice_134 : rp_cv YX5_choice 134 YX5_budget 1 5 := ⟨gX5_choice_X5_budget, oX5_budget, uX5_budget, ⟨rfl, rfl, by decide, by decide⟩, ⟨_, rfl, rfl⟩⟩
theorem kX5_choice_137 : rp_cv YX5_choice 137 YX5_protectedWeight 2 5 := ⟨gX5_choice_X5_protectedWeight, oX5_protectedWeight, uX5_protectedWeight, ⟨rfl, rfl, by decide, by decide⟩, ⟨_, rfl, rfl⟩⟩
theorem kX5_choice_140 : rp_cv YX5_choice 140 YX4_profitUnder 2 4 := ⟨gX5_choice_X4_profitUnder, oX4_profitUnder, uX4_profitUnder, ⟨rfl, rfl, by decide, by decide⟩, ⟨_, rfl, rfl⟩⟩
theorem fX5_choice_143 : Cond.constant YX5_choice.1.cls 143 (100000) ∈ YX5_choice.2.2.2.2.1 := by decide +kernel
theorem kX5_choice_144 : rp_cv YX5_choice 144 YX5_worstProfitScenario 1 5 := ⟨gX5_choice_X5_worstProfitScenario, oX5_worstProfitScenario, uX5_worstProfitScenario, ⟨rfl, rfl, by decide, by decide⟩, ⟨_, rfl, rfl⟩⟩
theorem kX5_choice_147 : rp_cv YX5_choice 147 YX5_prepare 0 5 := ⟨gX5_choice_X5_prepare, oX5_prepare, uX5_prepare, ⟨rfl, rfl, by decide, by decide⟩, ⟨_, rfl, rfl⟩⟩
theorem fX5_choice_37 : rp_fl YX5_choice 37 5 5 := ⟨(RX5, TX5, 8), rfl, by decide, rfl, by decide +kernel, rp_inc (by decide +kernel)⟩
theorem kX5_choice_150 : rp_cv YX5_choice 150 YX0_allows 1 0 := ⟨gX5_choice_X0_allows, oX0_allows, uX0_allows, ⟨rfl, rfl, by decide, by decide⟩, ⟨_, rfl, rfl⟩⟩
theorem kX5_choice_153 : rp_cv YX5_choice 153 YX5_capacity 0 5 := ⟨gX5_choice_X5_capacity, oX5_capacity, uX5_capacity, ⟨rfl, rfl, by decide, by decide⟩, ⟨_, rfl, rfl⟩⟩
theorem kX5_choice_157 : rp_cv YX5_choice 157 YX4_worst 3 4 := ⟨gX5_choice_X4_worst, oX4_worst, uX4_worst, ⟨rfl, rfl, by decide, by decide⟩, ⟨_, rfl, rfl⟩⟩
theorem kX5_choice_161 : rp_cv YX5_choice 161 YX5_greatestBudget 1 5 := ⟨gX5_choice_X5_greatestBudget, oX5_greatestBudget, uX5_greatestBudget, ⟨rfl, rfl, by decide, by decide⟩, ⟨_, rfl, rfl⟩⟩
theorem kX5_weightIn_128 : rp_cv YX5_weightIn 128 YX5_isChoice 1 5 := ⟨gX5_weightIn_X5_isChoice, oX5_isChoice, uX5_isChoice, ⟨rfl, rfl, by decide, by decide⟩, ⟨_, rfl, rfl⟩⟩
theorem kX5_weightIn_164 : rp_cs YX5_weightIn 164 YJ6_bitCount_0f7a4 1 := ⟨gX5_weightIn_J6_bitCount_0f7a4, oJ6_bitCount_0f7a4, uJ6_bitCount_0f7a4, ⟨rfl, rfl, by decide, by decide⟩⟩
theorem kX5_weightIn_134 : rp_cv YX5_weightIn 134 YX5_budget 1 5 := ⟨gX5_weightIn_X5_budget, oX5_budget, uX5_budget, ⟨rfl, rfl, by decide, by decide⟩, ⟨_, rfl, rfl⟩⟩
theorem fX5_weightIn_10 : rp_fl YX5_weightIn 10 5 0 := ⟨(RX5, TX5, 8), rfl, by decide, rfl, by decide +kernel, rp_inc (by decide +kernel)⟩
theorem kX5_weightIn_131 : rp_cv YX5_weightIn 131 YX4_weightUnder 2 4 := ⟨gX5_weightIn_X4_weightUnder, oX4_weightUnder, uX4_weightUnder, ⟨rfl, rfl, by decide, by decide⟩, ⟨_, rfl, rfl⟩⟩
theorem fX5_amongBest_37 : rp_fl YX5_amongBest 37 5 5 := ⟨(RX5, TX5, 8), rfl, by decide, rfl, by decide +kernel, rp_inc (by decide +kernel)⟩
theorem fX5_amongBest_195 : rp_fl YX5_amongBest 195 0 8 := ⟨(RX0, TX0, 10), rfl, by decide, rfl, by decide +kernel, rp_inc (by decide +kernel)⟩
theorem fX5_amongBest_198 : rp_fl YX5_amongBest 198 0 1 := ⟨(RX0, TX0, 10), rfl, by decide, rfl, by decide +kernel, rp_inc (by decide +kernel)⟩
theorem kX5_amongBest_153 : rp_cv YX5_amongBest 153 YX5_capacity 0 5 := ⟨gX5_amongBest_X5_capacity, oX5_capacity, uX5_capacity, ⟨rfl, rfl, by decide, by decide⟩, ⟨_, rfl, rfl⟩⟩
theorem kX5_amongBest_208 : rp_cv YX5_amongBest 208 YX0_stands 2 0 := ⟨gX5_amongBest_X0_stands, oX0_stands, uX0_stands, ⟨rfl, rfl, by decide, by decide⟩, ⟨_, rfl, rfl⟩⟩
theorem kX5_best_147 : rp_cv YX5_best 147 YX5_prepare 0 5 := ⟨gX5_best_X5_prepare, oX5_prepare, uX5_prepare, ⟨rfl, rfl, by decide, by decide⟩, ⟨_, rfl, rfl⟩⟩
theorem fX5_best_37 : rp_fl YX5_best 37 5 5 := ⟨(RX5, TX5, 8), rfl, by decide, rfl, by decide +kernel, rp_inc (by decide +kernel)⟩
theorem kX5_best_153 : rp_cv YX5_best 153 YX5_capacity 0 5 := ⟨gX5_best_X5_capacity, oX5_capacity, uX5_capacity, ⟨rfl, rfl, by decide, by decide⟩, ⟨_, rfl, rfl⟩⟩
theorem kX5_best_169 : rp_cv YX5_best 169 YX0_firstOfAll 1 0 := ⟨gX5_best_X0_firstOfAll, oX0_firstOfAll, uX0_firstOfAll, ⟨rfl, rfl, by decide, by decide⟩, ⟨_, rfl, rfl⟩⟩
theorem kX5_best_172 : rp_cv YX5_best 172 YX0_shiftedProfit 1 0 := ⟨gX5_best_X0_shiftedProfit, oX0_shiftedProfit, uX0_shiftedProfit, ⟨rfl, rfl, by decide, by decide⟩, ⟨_, rfl, rfl⟩⟩
theorem fX5_best_175 : rp_fl YX5_best 175 0 0 := ⟨(RX0, TX0, 10), rfl, by decide, rfl, by decide +kernel, rp_inc (by decide +kernel)⟩
theorem kX5_best_178 : rp_cv YX5_best 178 YX0_fitting 1 0 := ⟨gX5_best_X0_fitting, oX0_fitting, uX0_fitting, ⟨rfl, rfl, by decide, by decide⟩, ⟨_, rfl, rfl⟩⟩
theorem kX5_best_181 : rp_cv YX5_best 181 YX5_amongBest 2 5 := ⟨gX5_best_X5_amongBest, oX5_amongBest, uX5_amongBest, ⟨rfl, rfl, by decide, by decide⟩, ⟨_, rfl, rfl⟩⟩
theorem kX5_bestWith_184 : rp_cs YX5_bestWith 184 YX5_isBudget 1 := ⟨gX5_bestWith_X5_isBudget, oX5_isBudget, uX5_isBudget, ⟨rfl, rfl, by decide, by decide⟩⟩
theorem fX5_bestWith_37 : rp_fl YX5_bestWith 37 5 5 := ⟨(RX5, TX5, 8), rfl, by decide, rfl, by decide +kernel, rp_inc (by decide +kernel)⟩
theorem fX5_bestWith_10 : rp_fl YX5_bestWith 10 5 0 := ⟨(RX5, TX5, 8), rfl, by decide, rfl, by decide +kernel, rp_inc (by decide +kernel)⟩
theorem kX5_bestWith_187 : rp_cv YX5_bestWith 187 YX0_fill 3 0 := ⟨gX5_bestWith_X0_fill, oX0_fill, uX0_fill, ⟨rfl, rfl, by decide, by decide⟩, ⟨_, rfl, rfl⟩⟩
theorem pX5_bestWith_191 : rp_pl YX5_bestWith 191 0 9 .boolean := ⟨(RX0, TX0, 10), tyX0, rfl, by decide, rfl, by decide +kernel, rp_inc (by decide +kernel), tyX0_ok, nmX0, rfl, by decide +kernel⟩
theorem kX5_bestWith_169 : rp_cv YX5_bestWith 169 YX0_firstOfAll 1 0 := ⟨gX5_bestWith_X0_firstOfAll, oX0_firstOfAll, uX0_firstOfAll, ⟨rfl, rfl, by decide, by decide⟩, ⟨_, rfl, rfl⟩⟩
theorem kX5_bestWith_172 : rp_cv YX5_bestWith 172 YX0_shiftedProfit 1 0 := ⟨gX5_bestWith_X0_shiftedProfit, oX0_shiftedProfit, uX0_shiftedProfit, ⟨rfl, rfl, by decide, by decide⟩, ⟨_, rfl, rfl⟩⟩
theorem kX5_leastCapacity_147 : rp_cv YX5_leastCapacity 147 YX5_prepare 0 5 := ⟨gX5_leastCapacity_X5_prepare, oX5_prepare, uX5_prepare, ⟨rfl, rfl, by decide, by decide⟩, ⟨_, rfl, rfl⟩⟩
theorem fX5_leastCapacity_37 : rp_fl YX5_leastCapacity 37 5 5 := ⟨(RX5, TX5, 8), rfl, by decide, rfl, by decide +kernel, rp_inc (by decide +kernel)⟩
theorem fX5_leastCapacity_195 : rp_fl YX5_leastCapacity 195 0 8 := ⟨(RX0, TX0, 10), rfl, by decide, rfl, by decide +kernel, rp_inc (by decide +kernel)⟩
theorem fX5_leastCapacity_198 : rp_fl YX5_leastCapacity 198 0 1 := ⟨(RX0, TX0, 10), rfl, by decide, rfl, by decide +kernel, rp_inc (by decide +kernel)⟩
theorem fX5_leastCapacity_175 : rp_fl YX5_leastCapacity 175 0 0 := ⟨(RX0, TX0, 10), rfl, by decide, rfl, by decide +kernel, rp_inc (by decide +kernel)⟩
theorem kX5_leastCapacity_150 : rp_cv YX5_leastCapacity 150 YX0_allows 1 0 := ⟨gX5_leastCapacity_X0_allows, oX0_allows, uX0_allows, ⟨rfl, rfl, by decide, by decide⟩, ⟨_, rfl, rfl⟩⟩
theorem fX5_staysBest_37 : rp_fl YX5_staysBest 37 5 5 := ⟨(RX5, TX5, 8), rfl, by decide, rfl, by decide +kernel, rp_inc (by decide +kernel)⟩
theorem fX5_staysBest_10 : rp_fl YX5_staysBest 10 5 0 := ⟨(RX5, TX5, 8), rfl, by decide, rfl, by decide +kernel, rp_inc (by decide +kernel)⟩
theorem kX5_staysBest_134 : rp_cv YX5_staysBest 134 YX5_budget 1 5 := ⟨gX5_staysBest_X5_budget, oX5_budget, uX5_budget, ⟨rfl, rfl, by decide, by decide⟩, ⟨_, rfl, rfl⟩⟩
theorem kX5_staysBest_276 : rp_cv YX5_staysBest 276 YX0_fillWeights 4 0 := ⟨gX5_staysBest_X0_fillWeights, oX0_fillWeights, uX0_fillWeights, ⟨rfl, rfl, by decide, by decide⟩, ⟨_, rfl, rfl⟩⟩
theorem kX5_staysBest_153 : rp_cv YX5_staysBest 153 YX5_capacity 0 5 := ⟨gX5_staysBest_X5_capacity, oX5_capacity, uX5_capacity, ⟨rfl, rfl, by decide, by decide⟩, ⟨_, rfl, rfl⟩⟩
theorem kX5_staysBest_169 : rp_cv YX5_staysBest 169 YX0_firstOfAll 1 0 := ⟨gX5_staysBest_X0_firstOfAll, oX0_firstOfAll, uX0_firstOfAll, ⟨rfl, rfl, by decide, by decide⟩, ⟨_, rfl, rfl⟩⟩
theorem kX5_headroom_69 : rp_cv YX5_headroom 69 YX5_exists 1 5 := ⟨gX5_headroom_X5_exists, oX5_exists, uX5_exists, ⟨rfl, rfl, by decide, by decide⟩, ⟨_, rfl, rfl⟩⟩
theorem kX5_headroom_147 : rp_cv YX5_headroom 147 YX5_prepare 0 5 := ⟨gX5_headroom_X5_prepare, oX5_prepare, uX5_prepare, ⟨rfl, rfl, by decide, by decide⟩, ⟨_, rfl, rfl⟩⟩
theorem fX5_headroom_37 : rp_fl YX5_headroom 37 5 5 := ⟨(RX5, TX5, 8), rfl, by decide, rfl, by decide +kernel, rp_inc (by decide +kernel)⟩
theorem kX5_headroom_153 : rp_cv YX5_headroom 153 YX5_capacity 0 5 := ⟨gX5_headroom_X5_capacity, oX5_capacity, uX5_capacity, ⟨rfl, rfl, by decide, by decide⟩, ⟨_, rfl, rfl⟩⟩
theorem kX5_headroom_169 : rp_cv YX5_headroom 169 YX0_firstOfAll 1 0 := ⟨gX5_headroom_X0_firstOfAll, oX0_firstOfAll, uX0_firstOfAll, ⟨rfl, rfl, by decide, by decide⟩, ⟨_, rfl, rfl⟩⟩
theorem fX5_headroom_10 : rp_fl YX5_headroom 10 5 0 := ⟨(RX5, TX5, 8), rfl, by decide, rfl, by decide +kernel, rp_inc (by decide +kernel)⟩
theorem fX5_headroom_81 : rp_fl YX5_headroom 81 4 0 := ⟨(RX4, TX4, 5), rfl, by decide, rfl, by decide +kernel, rp_inc (by decide +kernel)⟩
theorem kX5_headroom_201 : rp_cv YX5_headroom 201 YX5_staysBest 3 5 := ⟨gX5_headroom_X5_staysBest, oX5_staysBest, uX5_staysBest, ⟨rfl, rfl, by decide, by decide⟩, ⟨_, rfl, rfl⟩⟩
theorem pX5_headroom_191 : rp_pl YX5_headroom 191 0 9 .boolean := ⟨(RX0, TX0, 10), tyX0, rfl, by decide, rfl, by decide +kernel, rp_inc (by decide +kernel), tyX0_ok, nmX0, rfl, by decide +kernel⟩
theorem kX5_greedy_147 : rp_cv YX5_greedy 147 YX5_prepare 0 5 := ⟨gX5_greedy_X5_prepare, oX5_prepare, uX5_prepare, ⟨rfl, rfl, by decide, by decide⟩, ⟨_, rfl, rfl⟩⟩
theorem fX5_greedy_10 : rp_fl YX5_greedy 10 5 0 := ⟨(RX5, TX5, 8), rfl, by decide, rfl, by decide +kernel, rp_inc (by decide +kernel)⟩
theorem fX5_greedy_59 : rp_fl YX5_greedy 59 4 4 := ⟨(RX4, TX4, 5), rfl, by decide, rfl, by decide +kernel, rp_inc (by decide +kernel)⟩
theorem kX5_greedy_205 : rp_cv YX5_greedy 205 YX4_mostFruitful 1 4 := ⟨gX5_greedy_X4_mostFruitful, oX4_mostFruitful, uX4_mostFruitful, ⟨rfl, rfl, by decide, by decide⟩, ⟨_, rfl, rfl⟩⟩
theorem fX5_greedy_37 : rp_fl YX5_greedy 37 5 5 := ⟨(RX5, TX5, 8), rfl, by decide, rfl, by decide +kernel, rp_inc (by decide +kernel)⟩
theorem kX5_greedy_153 : rp_cv YX5_greedy 153 YX5_capacity 0 5 := ⟨gX5_greedy_X5_capacity, oX5_capacity, uX5_capacity, ⟨rfl, rfl, by decide, by decide⟩, ⟨_, rfl, rfl⟩⟩
theorem kX5_greedy_208 : rp_cv YX5_greedy 208 YX0_stands 2 0 := ⟨gX5_greedy_X0_stands, oX0_stands, uX0_stands, ⟨rfl, rfl, by decide, by decide⟩, ⟨_, rfl, rfl⟩⟩
theorem kX5_greedy_172 : rp_cv YX5_greedy 172 YX0_shiftedProfit 1 0 := ⟨gX5_greedy_X0_shiftedProfit, oX0_shiftedProfit, uX0_shiftedProfit, ⟨rfl, rfl, by decide, by decide⟩, ⟨_, rfl, rfl⟩⟩
theorem kX5_forced_128 : rp_cv YX5_forced 128 YX5_isChoice 1 5 := ⟨gX5_forced_X5_isChoice, oX5_isChoice, uX5_isChoice, ⟨rfl, rfl, by decide, by decide⟩, ⟨_, rfl, rfl⟩⟩
theorem kX5_forced_147 : rp_cv YX5_forced 147 YX5_prepare 0 5 := ⟨gX5_forced_X5_prepare, oX5_prepare, uX5_prepare, ⟨rfl, rfl, by decide, by decide⟩, ⟨_, rfl, rfl⟩⟩
theorem fX5_forced_37 : rp_fl YX5_forced 37 5 5 := ⟨(RX5, TX5, 8), rfl, by decide, rfl, by decide +kernel, rp_inc (by decide +kernel)⟩
theorem kX5_forced_153 : rp_cv YX5_forced 153 YX5_capacity 0 5 := ⟨gX5_forced_X5_capacity, oX5_capacity, uX5_capacity, ⟨rfl, rfl, by decide, by decide⟩, ⟨_, rfl, rfl⟩⟩
theorem kX5_forced_211 : rp_cv YX5_forced 211 YX0_first 3 0 := ⟨gX5_forced_X0_first, oX0_first, uX0_first, ⟨rfl, rfl, by decide, by decide⟩, ⟨_, rfl, rfl⟩⟩
theorem kX5_forced_172 : rp_cv YX5_forced 172 YX0_shiftedProfit 1 0 := ⟨gX5_forced_X0_shiftedProfit, oX0_shiftedProfit, uX0_shiftedProfit, ⟨rfl, rfl, by decide, by decide⟩, ⟨_, rfl, rfl⟩⟩
theorem kX5_frontier_147 : rp_cv YX5_frontier 147 YX5_prepare 0 5 := ⟨gX5_frontier_X5_prepare, oX5_prepare, uX5_prepare, ⟨rfl, rfl, by decide, by decide⟩, ⟨_, rfl, rfl⟩⟩
theorem fX5_frontier_44 : rp_fl YX5_frontier 44 5 6 := ⟨(RX5, TX5, 8), rfl, by decide, rfl, by decide +kernel, rp_inc (by decide +kernel)⟩
theorem fX5_frontier_37 : rp_fl YX5_frontier 37 5 5 := ⟨(RX5, TX5, 8), rfl, by decide, rfl, by decide +kernel, rp_inc (by decide +kernel)⟩
theorem kX5_frontier_214 : rp_cv YX5_frontier 214 YX3_buildFrontier 1 3 := ⟨gX5_frontier_X3_buildFrontier, oX3_buildFrontier, uX3_buildFrontier, ⟨rfl, rfl, by decide, by decide⟩, ⟨_, rfl, rfl⟩⟩
theorem fX5_frontier_218 : rp_fl YX5_frontier 218 3 1 := ⟨(RX3, TX3, 2), rfl, by decide, rfl, by decide +kernel, rp_inc (by decide +kernel)⟩
theorem kX5_frontier_219 : rp_cv YX5_frontier 219 YX3_stepAt 1 3 := ⟨gX5_frontier_X3_stepAt, oX3_stepAt, uX3_stepAt, ⟨rfl, rfl, by decide, by decide⟩, ⟨_, rfl, rfl⟩⟩
theorem fX5_frontier_175 : rp_fl YX5_frontier 175 0 0 := ⟨(RX0, TX0, 10), rfl, by decide, rfl, by decide +kernel, rp_inc (by decide +kernel)⟩
theorem kX5_frontier_172 : rp_cv YX5_frontier 172 YX0_shiftedProfit 1 0 := ⟨gX5_frontier_X0_shiftedProfit, oX0_shiftedProfit, uX0_shiftedProfit, ⟨rfl, rfl, by decide, by decide⟩, ⟨_, rfl, rfl⟩⟩
theorem kX5_improve_128 : rp_cv YX5_improve 128 YX5_isChoice 1 5 := ⟨gX5_improve_X5_isChoice, oX5_isChoice, uX5_isChoice, ⟨rfl, rfl, by decide, by decide⟩, ⟨_, rfl, rfl⟩⟩
theorem kX5_improve_147 : rp_cv YX5_improve 147 YX5_prepare 0 5 := ⟨gX5_improve_X5_prepare, oX5_prepare, uX5_prepare, ⟨rfl, rfl, by decide, by decide⟩, ⟨_, rfl, rfl⟩⟩
theorem fX5_improve_37 : rp_fl YX5_improve 37 5 5 := ⟨(RX5, TX5, 8), rfl, by decide, rfl, by decide +kernel, rp_inc (by decide +kernel)⟩
theorem kX5_improve_153 : rp_cv YX5_improve 153 YX5_capacity 0 5 := ⟨gX5_improve_X5_capacity, oX5_capacity, uX5_capacity, ⟨rfl, rfl, by decide, by decide⟩, ⟨_, rfl, rfl⟩⟩
theorem kX5_improve_208 : rp_cv YX5_improve 208 YX0_stands 2 0 := ⟨gX5_improve_X0_stands, oX0_stands, uX0_stands, ⟨rfl, rfl, by decide, by decide⟩, ⟨_, rfl, rfl⟩⟩
theorem kX5_improve_222 : rp_cv YX5_improve 222 YX0_firstNear 2 0 := ⟨gX5_improve_X0_firstNear, oX0_firstNear, uX0_firstNear, ⟨rfl, rfl, by decide, by decide⟩, ⟨_, rfl, rfl⟩⟩
theorem fX5_isLevel_10 : rp_fl YX5_isLevel 10 5 0 := ⟨(RX5, TX5, 8), rfl, by decide, rfl, by decide +kernel, rp_inc (by decide +kernel)⟩
theorem fX5_isLevel_59 : rp_fl YX5_isLevel 59 4 4 := ⟨(RX4, TX4, 5), rfl, by decide, rfl, by decide +kernel, rp_inc (by decide +kernel)⟩
theorem kX5_list_225 : rp_cv YX5_list 225 YX5_isLevel 1 5 := ⟨gX5_list_X5_isLevel, oX5_isLevel, uX5_isLevel, ⟨rfl, rfl, by decide, by decide⟩, ⟨_, rfl, rfl⟩⟩
theorem kX5_list_147 : rp_cv YX5_list 147 YX5_prepare 0 5 := ⟨gX5_list_X5_prepare, oX5_prepare, uX5_prepare, ⟨rfl, rfl, by decide, by decide⟩, ⟨_, rfl, rfl⟩⟩
theorem fX5_list_44 : rp_fl YX5_list 44 5 6 := ⟨(RX5, TX5, 8), rfl, by decide, rfl, by decide +kernel, rp_inc (by decide +kernel)⟩
theorem fX5_list_37 : rp_fl YX5_list 37 5 5 := ⟨(RX5, TX5, 8), rfl, by decide, rfl, by decide +kernel, rp_inc (by decide +kernel)⟩
theorem kX5_list_153 : rp_cv YX5_list 153 YX5_capacity 0 5 := ⟨gX5_list_X5_capacity, oX5_capacity, uX5_capacity, ⟨rfl, rfl, by decide, by decide⟩, ⟨_, rfl, rfl⟩⟩
theorem kX5_list_228 : rp_cv YX5_list 228 YX3_buildList 3 3 := ⟨gX5_list_X3_buildList, oX3_buildList, uX3_buildList, ⟨rfl, rfl, by decide, by decide⟩, ⟨_, rfl, rfl⟩⟩
theorem fX5_list_218 : rp_fl YX5_list 218 3 1 := ⟨(RX3, TX3, 2), rfl, by decide, rfl, by decide +kernel, rp_inc (by decide +kernel)⟩
theorem kX5_list_219 : rp_cv YX5_list 219 YX3_stepAt 1 3 := ⟨gX5_list_X3_stepAt, oX3_stepAt, uX3_stepAt, ⟨rfl, rfl, by decide, by decide⟩, ⟨_, rfl, rfl⟩⟩
theorem kX5_dominator_225 : rp_cv YX5_dominator 225 YX5_isLevel 1 5 := ⟨gX5_dominator_X5_isLevel, oX5_isLevel, uX5_isLevel, ⟨rfl, rfl, by decide, by decide⟩, ⟨_, rfl, rfl⟩⟩
theorem kX5_dominator_147 : rp_cv YX5_dominator 147 YX5_prepare 0 5 := ⟨gX5_dominator_X5_prepare, oX5_prepare, uX5_prepare, ⟨rfl, rfl, by decide, by decide⟩, ⟨_, rfl, rfl⟩⟩
theorem fX5_dominator_37 : rp_fl YX5_dominator 37 5 5 := ⟨(RX5, TX5, 8), rfl, by decide, rfl, by decide +kernel, rp_inc (by decide +kernel)⟩
theorem fX5_dominator_175 : rp_fl YX5_dominator 175 0 0 := ⟨(RX0, TX0, 10), rfl, by decide, rfl, by decide +kernel, rp_inc (by decide +kernel)⟩
theorem kX5_dominator_153 : rp_cv YX5_dominator 153 YX5_capacity 0 5 := ⟨gX5_dominator_X5_capacity, oX5_capacity, uX5_capacity, ⟨rfl, rfl, by decide, by decide⟩, ⟨_, rfl, rfl⟩⟩
theorem fX5_dominator_44 : rp_fl YX5_dominator 44 5 6 := ⟨(RX5, TX5, 8), rfl, by decide, rfl, by decide +kernel, rp_inc (by decide +kernel)⟩
theorem kX5_dominator_228 : rp_cv YX5_dominator 228 YX3_buildList 3 3 := ⟨gX5_dominator_X3_buildList, oX3_buildList, uX3_buildList, ⟨rfl, rfl, by decide, by decide⟩, ⟨_, rfl, rfl⟩⟩
theorem fX5_dominator_232 : rp_fl YX5_dominator 232 0 2 := ⟨(RX0, TX0, 10), rfl, by decide, rfl, by decide +kernel, rp_inc (by decide +kernel)⟩
theorem kX5_dominator_235 : rp_cv YX5_dominator 235 YX3_firstWith 2 3 := ⟨gX5_dominator_X3_firstWith, oX3_firstWith, uX3_firstWith, ⟨rfl, rfl, by decide, by decide⟩, ⟨_, rfl, rfl⟩⟩
theorem fX5_thresholds_10 : rp_fl YX5_thresholds 10 5 0 := ⟨(RX5, TX5, 8), rfl, by decide, rfl, by decide +kernel, rp_inc (by decide +kernel)⟩
theorem kX5_thresholds_280 : rp_cv YX5_thresholds 280 YX4_thresholdBelow 1 4 := ⟨gX5_thresholds_X4_thresholdBelow, oX4_thresholdBelow, uX4_thresholdBelow, ⟨rfl, rfl, by decide, by decide⟩, ⟨_, rfl, rfl⟩⟩
theorem fX5_thresholdAt_10 : rp_fl YX5_thresholdAt 10 5 0 := ⟨(RX5, TX5, 8), rfl, by decide, rfl, by decide +kernel, rp_inc (by decide +kernel)⟩
theorem kX5_thresholdAt_280 : rp_cv YX5_thresholdAt 280 YX4_thresholdBelow 1 4 := ⟨gX5_thresholdAt_X4_thresholdBelow, oX4_thresholdBelow, uX4_thresholdBelow, ⟨rfl, rfl, by decide, by decide⟩, ⟨_, rfl, rfl⟩⟩
theorem kX5_threshold_239 : rp_cv YX5_threshold 239 YX5_thresholds 0 5 := ⟨gX5_threshold_X5_thresholds, oX5_thresholds, uX5_thresholds, ⟨rfl, rfl, by decide, by decide⟩, ⟨_, rfl, rfl⟩⟩
theorem kX5_threshold_242 : rp_cv YX5_threshold 242 YX5_thresholdAt 1 5 := ⟨gX5_threshold_X5_thresholdAt, oX5_thresholdAt, uX5_thresholdAt, ⟨rfl, rfl, by decide, by decide⟩, ⟨_, rfl, rfl⟩⟩
theorem kX5_plain_239 : rp_cv YX5_plain 239 YX5_thresholds 0 5 := ⟨gX5_plain_X5_thresholds, oX5_thresholds, uX5_thresholds, ⟨rfl, rfl, by decide, by decide⟩, ⟨_, rfl, rfl⟩⟩
theorem kX5_plain_242 : rp_cv YX5_plain 242 YX5_thresholdAt 1 5 := ⟨gX5_plain_X5_thresholdAt, oX5_thresholdAt, uX5_thresholdAt, ⟨rfl, rfl, by decide, by decide⟩, ⟨_, rfl, rfl⟩⟩
theorem kX5_plain_153 : rp_cv YX5_plain 153 YX5_capacity 0 5 := ⟨gX5_plain_X5_capacity, oX5_capacity, uX5_capacity, ⟨rfl, rfl, by decide, by decide⟩, ⟨_, rfl, rfl⟩⟩
theorem kX5_plain_134 : rp_cv YX5_plain 134 YX5_budget 1 5 := ⟨gX5_plain_X5_budget, oX5_budget, uX5_budget, ⟨rfl, rfl, by decide, by decide⟩, ⟨_, rfl, rfl⟩⟩
theorem kX5_plain_147 : rp_cv YX5_plain 147 YX5_prepare 0 5 := ⟨gX5_plain_X5_prepare, oX5_prepare, uX5_prepare, ⟨rfl, rfl, by decide, by decide⟩, ⟨_, rfl, rfl⟩⟩
theorem fX5_plain_51 : rp_fl YX5_plain 51 5 7 := ⟨(RX5, TX5, 8), rfl, by decide, rfl, by decide +kernel, rp_inc (by decide +kernel)⟩
theorem fX5_plain_37 : rp_fl YX5_plain 37 5 5 := ⟨(RX5, TX5, 8), rfl, by decide, rfl, by decide +kernel, rp_inc (by decide +kernel)⟩
theorem fX5_plain_10 : rp_fl YX5_plain 10 5 0 := ⟨(RX5, TX5, 8), rfl, by decide, rfl, by decide +kernel, rp_inc (by decide +kernel)⟩
theorem kX5_plain_245 : rp_cv YX5_plain 245 YX2_plainValue 4 2 := ⟨gX5_plain_X2_plainValue, oX2_plainValue, uX2_plainValue, ⟨rfl, rfl, by decide, by decide⟩, ⟨_, rfl, rfl⟩⟩
theorem kX5_recovered_128 : rp_cv YX5_recovered 128 YX5_isChoice 1 5 := ⟨gX5_recovered_X5_isChoice, oX5_isChoice, uX5_isChoice, ⟨rfl, rfl, by decide, by decide⟩, ⟨_, rfl, rfl⟩⟩
theorem kX5_recovered_164 : rp_cs YX5_recovered 164 YJ6_bitCount_0f7a4 1 := ⟨gX5_recovered_J6_bitCount_0f7a4, oJ6_bitCount_0f7a4, uJ6_bitCount_0f7a4, ⟨rfl, rfl, by decide, by decide⟩⟩
theorem kX5_recovered_134 : rp_cv YX5_recovered 134 YX5_budget 1 5 := ⟨gX5_recovered_X5_budget, oX5_budget, uX5_budget, ⟨rfl, rfl, by decide, by decide⟩, ⟨_, rfl, rfl⟩⟩
theorem kX5_recovered_147 : rp_cv YX5_recovered 147 YX5_prepare 0 5 := ⟨gX5_recovered_X5_prepare, oX5_prepare, uX5_prepare, ⟨rfl, rfl, by decide, by decide⟩, ⟨_, rfl, rfl⟩⟩
theorem fX5_recovered_51 : rp_fl YX5_recovered 51 5 7 := ⟨(RX5, TX5, 8), rfl, by decide, rfl, by decide +kernel, rp_inc (by decide +kernel)⟩
theorem fX5_recovered_37 : rp_fl YX5_recovered 37 5 5 := ⟨(RX5, TX5, 8), rfl, by decide, rfl, by decide +kernel, rp_inc (by decide +kernel)⟩
theorem fX5_recovered_10 : rp_fl YX5_recovered 10 5 0 := ⟨(RX5, TX5, 8), rfl, by decide, rfl, by decide +kernel, rp_inc (by decide +kernel)⟩
theorem kX5_recovered_249 : rp_cv YX5_recovered 249 YX2_collect 4 2 := ⟨gX5_recovered_X2_collect, oX2_collect, uX2_collect, ⟨rfl, rfl, by decide, by decide⟩, ⟨_, rfl, rfl⟩⟩
theorem fX5_recovered_143 : Cond.constant YX5_recovered.1.cls 143 (100000) ∈ YX5_recovered.2.2.2.2.1 := by decide +kernel
theorem fX5_recovered_232 : rp_fl YX5_recovered 232 0 2 := ⟨(RX0, TX0, 10), rfl, by decide, rfl, by decide +kernel, rp_inc (by decide +kernel)⟩
theorem kX5_recovered_153 : rp_cv YX5_recovered 153 YX5_capacity 0 5 := ⟨gX5_recovered_X5_capacity, oX5_capacity, uX5_capacity, ⟨rfl, rfl, by decide, by decide⟩, ⟨_, rfl, rfl⟩⟩
theorem kX5_recovered_253 : rp_cv YX5_recovered 253 YX2_profitIn 4 2 := ⟨gX5_recovered_X2_profitIn, oX2_profitIn, uX2_profitIn, ⟨rfl, rfl, by decide, by decide⟩, ⟨_, rfl, rfl⟩⟩
theorem kX5_adversary_128 : rp_cv YX5_adversary 128 YX5_isChoice 1 5 := ⟨gX5_adversary_X5_isChoice, oX5_isChoice, uX5_isChoice, ⟨rfl, rfl, by decide, by decide⟩, ⟨_, rfl, rfl⟩⟩
theorem kX5_adversary_147 : rp_cv YX5_adversary 147 YX5_prepare 0 5 := ⟨gX5_adversary_X5_prepare, oX5_prepare, uX5_prepare, ⟨rfl, rfl, by decide, by decide⟩, ⟨_, rfl, rfl⟩⟩
theorem fX5_adversary_51 : rp_fl YX5_adversary 51 5 7 := ⟨(RX5, TX5, 8), rfl, by decide, rfl, by decide +kernel, rp_inc (by decide +kernel)⟩
theorem fX5_adversary_37 : rp_fl YX5_adversary 37 5 5 := ⟨(RX5, TX5, 8), rfl, by decide, rfl, by decide +kernel, rp_inc (by decide +kernel)⟩
theorem fX5_adversary_10 : rp_fl YX5_adversary 10 5 0 := ⟨(RX5, TX5, 8), rfl, by decide, rfl, by decide +kernel, rp_inc (by decide +kernel)⟩
theorem kX5_adversary_249 : rp_cv YX5_adversary 249 YX2_collect 4 2 := ⟨gX5_adversary_X2_collect, oX2_collect, uX2_collect, ⟨rfl, rfl, by decide, by decide⟩, ⟨_, rfl, rfl⟩⟩
theorem fX5_adversary_143 : Cond.constant YX5_adversary.1.cls 143 (100000) ∈ YX5_adversary.2.2.2.2.1 := by decide +kernel
theorem kX5_adversary_164 : rp_cs YX5_adversary 164 YJ6_bitCount_0f7a4 1 := ⟨gX5_adversary_J6_bitCount_0f7a4, oJ6_bitCount_0f7a4, uJ6_bitCount_0f7a4, ⟨rfl, rfl, by decide, by decide⟩⟩
theorem kX5_adversary_134 : rp_cv YX5_adversary 134 YX5_budget 1 5 := ⟨gX5_adversary_X5_budget, oX5_budget, uX5_budget, ⟨rfl, rfl, by decide, by decide⟩, ⟨_, rfl, rfl⟩⟩
theorem fX5_adversary_232 : rp_fl YX5_adversary 232 0 2 := ⟨(RX0, TX0, 10), rfl, by decide, rfl, by decide +kernel, rp_inc (by decide +kernel)⟩
theorem kX5_adversary_153 : rp_cv YX5_adversary 153 YX5_capacity 0 5 := ⟨gX5_adversary_X5_capacity, oX5_capacity, uX5_capacity, ⟨rfl, rfl, by decide, by decide⟩, ⟨_, rfl, rfl⟩⟩
theorem kX5_adversary_253 : rp_cv YX5_adversary 253 YX2_profitIn 4 2 := ⟨gX5_adversary_X2_profitIn, oX2_profitIn, uX2_profitIn, ⟨rfl, rfl, by decide, by decide⟩, ⟨_, rfl, rfl⟩⟩
theorem fX5_undo_20 : rp_fl YX5_undo 20 5 2 := ⟨(RX5, TX5, 8), rfl, by decide, rfl, by decide +kernel, rp_inc (by decide +kernel)⟩
theorem fX5_undo_24 : rp_fl YX5_undo 24 5 3 := ⟨(RX5, TX5, 8), rfl, by decide, rfl, by decide +kernel, rp_inc (by decide +kernel)⟩
theorem pX5_undo_24 : rp_pl YX5_undo 24 5 3 .int := ⟨(RX5, TX5, 8), tyX5, rfl, by decide, rfl, by decide +kernel, rp_inc (by decide +kernel), tyX5_ok, nmX5, rfl, by decide +kernel⟩
theorem pX5_undo_20 : rp_pl YX5_undo 20 5 2 .int := ⟨(RX5, TX5, 8), tyX5, rfl, by decide, rfl, by decide +kernel, rp_inc (by decide +kernel), tyX5_ok, nmX5, rfl, by decide +kernel⟩
theorem fX5_undo_10 : rp_fl YX5_undo 10 5 0 := ⟨(RX5, TX5, 8), rfl, by decide, rfl, by decide +kernel, rp_inc (by decide +kernel)⟩
theorem fX5_undo_16 : rp_fl YX5_undo 16 5 1 := ⟨(RX5, TX5, 8), rfl, by decide, rfl, by decide +kernel, rp_inc (by decide +kernel)⟩
theorem kX5_undo_257 : rp_cv YX5_undo 257 YX4_copyFrom 1 4 := ⟨gX5_undo_X4_copyFrom, oX4_copyFrom, uX4_copyFrom, ⟨rfl, rfl, by decide, by decide⟩, ⟨_, rfl, rfl⟩⟩
theorem fX5_undo_37 : rp_fl YX5_undo 37 5 5 := ⟨(RX5, TX5, 8), rfl, by decide, rfl, by decide +kernel, rp_inc (by decide +kernel)⟩
theorem pX5_undo_191 : rp_pl YX5_undo 191 0 9 .boolean := ⟨(RX0, TX0, 10), tyX0, rfl, by decide, rfl, by decide +kernel, rp_inc (by decide +kernel), tyX0_ok, nmX0, rfl, by decide +kernel⟩
theorem fX5_count_10 : rp_fl YX5_count 10 5 0 := ⟨(RX5, TX5, 8), rfl, by decide, rfl, by decide +kernel, rp_inc (by decide +kernel)⟩
theorem fX5_count_59 : rp_fl YX5_count 59 4 4 := ⟨(RX4, TX4, 5), rfl, by decide, rfl, by decide +kernel, rp_inc (by decide +kernel)⟩
theorem fX5_count_102 : rp_fl YX5_count 102 4 3 := ⟨(RX4, TX4, 5), rfl, by decide, rfl, by decide +kernel, rp_inc (by decide +kernel)⟩
theorem fX5_count_85 : rp_fl YX5_count 85 4 1 := ⟨(RX4, TX4, 5), rfl, by decide, rfl, by decide +kernel, rp_inc (by decide +kernel)⟩
theorem kX5_count_261 : rp_cv YX5_count 261 YX4_bitsIn 1 4 := ⟨gX5_count_X4_bitsIn, oX4_bitsIn, uX4_bitsIn, ⟨rfl, rfl, by decide, by decide⟩, ⟨_, rfl, rfl⟩⟩
theorem fX5_count_89 : rp_fl YX5_count 89 4 2 := ⟨(RX4, TX4, 5), rfl, by decide, rfl, by decide +kernel, rp_inc (by decide +kernel)⟩
theorem fX5_count_30 : rp_fl YX5_count 30 5 4 := ⟨(RX5, TX5, 8), rfl, by decide, rfl, by decide +kernel, rp_inc (by decide +kernel)⟩
theorem fX5_count_109 : rp_fl YX5_count 109 1 1 := ⟨(RX1, TX1, 5), rfl, by decide, rfl, by decide +kernel, rp_inc (by decide +kernel)⟩
theorem fX5_count_20 : rp_fl YX5_count 20 5 2 := ⟨(RX5, TX5, 8), rfl, by decide, rfl, by decide +kernel, rp_inc (by decide +kernel)⟩
theorem fX6_isItem_7 : rp_fl YX6_isItem 7 6 0 := ⟨(RX6, TX6, 21), rfl, by decide, rfl, by decide +kernel, rp_inc (by decide +kernel)⟩
theorem kX6_isItem_53 : rp_cs YX6_isItem 53 YX6_in 3 := ⟨gX6_isItem_X6_in, oX6_in, uX6_in, ⟨rfl, rfl, by decide, by decide⟩⟩
theorem fX6_isChoice_7 : rp_fl YX6_isChoice 7 6 0 := ⟨(RX6, TX6, 21), rfl, by decide, rfl, by decide +kernel, rp_inc (by decide +kernel)⟩
theorem kX6_isChoice_53 : rp_cs YX6_isChoice 53 YX6_in 3 := ⟨gX6_isChoice_X6_in, oX6_in, uX6_in, ⟨rfl, rfl, by decide, by decide⟩⟩
theorem fX6_of_7 : rp_fl YX6_of 7 6 0 := ⟨(RX6, TX6, 21), rfl, by decide, rfl, by decide +kernel, rp_inc (by decide +kernel)⟩
theorem fX6_record_57 : rp_fl YX6_record 57 6 2 := ⟨(RX6, TX6, 21), rfl, by decide, rfl, by decide +kernel, rp_inc (by decide +kernel)⟩
theorem fX6_record_13 : rp_fl YX6_record 13 6 1 := ⟨(RX6, TX6, 21), rfl, by decide, rfl, by decide +kernel, rp_inc (by decide +kernel)⟩
theorem pX6_record_57 : rp_pl YX6_record 57 6 2 .int := ⟨(RX6, TX6, 21), tyX6, rfl, by decide, rfl, by decide +kernel, rp_inc (by decide +kernel), tyX6_ok, nmX6, rfl, by decide +kernel⟩
theorem fX6_record_7 : rp_fl YX6_record 7 6 0 := ⟨(RX6, TX6, 21), rfl, by decide, rfl, by decide +kernel, rp_inc (by decide +kernel)⟩
theorem fX6_append_7 : rp_fl YX6_append 7 6 0 := ⟨(RX6, TX6, 21), rfl, by decide, rfl, by decide +kernel, rp_inc (by decide +kernel)⟩
theorem kX6_add_53 : rp_cs YX6_add 53 YX6_in 3 := ⟨gX6_add_X6_in, oX6_in, uX6_in, ⟨rfl, rfl, by decide, by decide⟩⟩
theorem fX6_add_7 : rp_fl YX6_add 7 6 0 := ⟨(RX6, TX6, 21), rfl, by decide, rfl, by decide +kernel, rp_inc (by decide +kernel)⟩
theorem kX6_add_61 : rp_cv YX6_add 61 YX6_record 0 6 := ⟨gX6_add_X6_record, oX6_record, uX6_record, ⟨rfl, rfl, by decide, by decide⟩, ⟨_, rfl, rfl⟩⟩
theorem kX6_add_64 : rp_cv YX6_add 64 YX6_append 5 6 := ⟨gX6_add_X6_append, oX6_append, uX6_append, ⟨rfl, rfl, by decide, by decide⟩, ⟨_, rfl, rfl⟩⟩
theorem kX6_remove_68 : rp_cv YX6_remove 68 YX6_isItem 1 6 := ⟨gX6_remove_X6_isItem, oX6_isItem, uX6_isItem, ⟨rfl, rfl, by decide, by decide⟩, ⟨_, rfl, rfl⟩⟩
theorem kX6_remove_61 : rp_cv YX6_remove 61 YX6_record 0 6 := ⟨gX6_remove_X6_record, oX6_record, uX6_record, ⟨rfl, rfl, by decide, by decide⟩, ⟨_, rfl, rfl⟩⟩
theorem fX6_remove_7 : rp_fl YX6_remove 7 6 0 := ⟨(RX6, TX6, 21), rfl, by decide, rfl, by decide +kernel, rp_inc (by decide +kernel)⟩
theorem kX6_remove_72 : rp_cv YX6_remove 72 YX6_of 2 6 := ⟨gX6_remove_X6_of, oX6_of, uX6_of, ⟨rfl, rfl, by decide, by decide⟩, ⟨_, rfl, rfl⟩⟩
theorem kX6_remove_76 : rp_cs YX6_remove 76 YX6_without 2 := ⟨gX6_remove_X6_without, oX6_without, uX6_without, ⟨rfl, rfl, by decide, by decide⟩⟩
theorem kX6_isProperty_53 : rp_cs YX6_isProperty 53 YX6_in 3 := ⟨gX6_isProperty_X6_in, oX6_in, uX6_in, ⟨rfl, rfl, by decide, by decide⟩⟩
theorem kX6_set_68 : rp_cv YX6_set 68 YX6_isItem 1 6 := ⟨gX6_set_X6_isItem, oX6_isItem, uX6_isItem, ⟨rfl, rfl, by decide, by decide⟩, ⟨_, rfl, rfl⟩⟩
theorem kX6_set_79 : rp_cs YX6_set 79 YX6_isProperty 2 := ⟨gX6_set_X6_isProperty, oX6_isProperty, uX6_isProperty, ⟨rfl, rfl, by decide, by decide⟩⟩
theorem kX6_set_61 : rp_cv YX6_set 61 YX6_record 0 6 := ⟨gX6_set_X6_record, oX6_record, uX6_record, ⟨rfl, rfl, by decide, by decide⟩, ⟨_, rfl, rfl⟩⟩
theorem kX6_set_72 : rp_cv YX6_set 72 YX6_of 2 6 := ⟨gX6_set_X6_of, oX6_of, uX6_of, ⟨rfl, rfl, by decide, by decide⟩, ⟨_, rfl, rfl⟩⟩
theorem fX6_set_7 : rp_fl YX6_set 7 6 0 := ⟨(RX6, TX6, 21), rfl, by decide, rfl, by decide +kernel, rp_inc (by decide +kernel)⟩
theorem fX6_neededBy_7 : rp_fl YX6_neededBy 7 6 0 := ⟨(RX6, TX6, 21), rfl, by decide, rfl, by decide +kernel, rp_inc (by decide +kernel)⟩
theorem kX6_neededBy_83 : rp_cs YX6_neededBy 83 YX6_has 2 := ⟨gX6_neededBy_X6_has, oX6_has, uX6_has, ⟨rfl, rfl, by decide, by decide⟩⟩
theorem kX6_item_68 : rp_cv YX6_item 68 YX6_isItem 1 6 := ⟨gX6_item_X6_isItem, oX6_isItem, uX6_isItem, ⟨rfl, rfl, by decide, by decide⟩, ⟨_, rfl, rfl⟩⟩
theorem kX6_item_72 : rp_cv YX6_item 72 YX6_of 2 6 := ⟨gX6_item_X6_of, oX6_of, uX6_of, ⟨rfl, rfl, by decide, by decide⟩, ⟨_, rfl, rfl⟩⟩
theorem fX6_item_7 : rp_fl YX6_item 7 6 0 := ⟨(RX6, TX6, 21), rfl, by decide, rfl, by decide +kernel, rp_inc (by decide +kernel)⟩
theorem kX6_item_86 : rp_cv YX6_item 86 YX6_neededBy 1 6 := ⟨gX6_item_X6_neededBy, oX6_neededBy, uX6_neededBy, ⟨rfl, rfl, by decide, by decide⟩, ⟨_, rfl, rfl⟩⟩
theorem kX6_conflict_68 : rp_cv YX6_conflict 68 YX6_isItem 1 6 := ⟨gX6_conflict_X6_isItem, oX6_isItem, uX6_isItem, ⟨rfl, rfl, by decide, by decide⟩, ⟨_, rfl, rfl⟩⟩
theorem kX6_conflict_61 : rp_cv YX6_conflict 61 YX6_record 0 6 := ⟨gX6_conflict_X6_record, oX6_record, uX6_record, ⟨rfl, rfl, by decide, by decide⟩, ⟨_, rfl, rfl⟩⟩
theorem fX6_conflict_7 : rp_fl YX6_conflict 7 6 0 := ⟨(RX6, TX6, 21), rfl, by decide, rfl, by decide +kernel, rp_inc (by decide +kernel)⟩
theorem kX6_need_68 : rp_cv YX6_need 68 YX6_isItem 1 6 := ⟨gX6_need_X6_isItem, oX6_isItem, uX6_isItem, ⟨rfl, rfl, by decide, by decide⟩, ⟨_, rfl, rfl⟩⟩
theorem kX6_need_61 : rp_cv YX6_need 61 YX6_record 0 6 := ⟨gX6_need_X6_record, oX6_record, uX6_record, ⟨rfl, rfl, by decide, by decide⟩, ⟨_, rfl, rfl⟩⟩
theorem fX6_need_7 : rp_fl YX6_need 7 6 0 := ⟨(RX6, TX6, 21), rfl, by decide, rfl, by decide +kernel, rp_inc (by decide +kernel)⟩
theorem kX6_rule_53 : rp_cs YX6_rule 53 YX6_in 3 := ⟨gX6_rule_X6_in, oX6_in, uX6_in, ⟨rfl, rfl, by decide, by decide⟩⟩
theorem kX6_rule_61 : rp_cv YX6_rule 61 YX6_record 0 6 := ⟨gX6_rule_X6_record, oX6_record, uX6_record, ⟨rfl, rfl, by decide, by decide⟩, ⟨_, rfl, rfl⟩⟩
theorem fX6_rule_7 : rp_fl YX6_rule 7 6 0 := ⟨(RX6, TX6, 21), rfl, by decide, rfl, by decide +kernel, rp_inc (by decide +kernel)⟩
theorem fX6_put_90 : Cond.constantLong YX6_put.1.cls 90 (255) ∈ YX6_put.2.2.2.2.1 := by decide +kernel
theorem kX6_put_53 : rp_cs YX6_put 53 YX6_in 3 := ⟨gX6_put_X6_in, oX6_in, uX6_in, ⟨rfl, rfl, by decide, by decide⟩⟩
theorem fX6_put_92 : rp_fl YX6_put 92 6 4 := ⟨(RX6, TX6, 21), rfl, by decide, rfl, by decide +kernel, rp_inc (by decide +kernel)⟩
theorem fX6_put_16 : rp_fl YX6_put 16 6 3 := ⟨(RX6, TX6, 21), rfl, by decide, rfl, by decide +kernel, rp_inc (by decide +kernel)⟩
theorem pX6_put_92 : rp_pl YX6_put 92 6 4 .int := ⟨(RX6, TX6, 21), tyX6, rfl, by decide, rfl, by decide +kernel, rp_inc (by decide +kernel), tyX6_ok, nmX6, rfl, by decide +kernel⟩
theorem fX6_wipe_92 : rp_fl YX6_wipe 92 6 4 := ⟨(RX6, TX6, 21), rfl, by decide, rfl, by decide +kernel, rp_inc (by decide +kernel)⟩
theorem pX6_wipe_92 : rp_pl YX6_wipe 92 6 4 .int := ⟨(RX6, TX6, 21), tyX6, rfl, by decide, rfl, by decide +kernel, rp_inc (by decide +kernel), tyX6_ok, nmX6, rfl, by decide +kernel⟩
theorem fX6_next_95 : rp_fl YX6_next 95 6 5 := ⟨(RX6, TX6, 21), rfl, by decide, rfl, by decide +kernel, rp_inc (by decide +kernel)⟩
theorem fX6_next_92 : rp_fl YX6_next 92 6 4 := ⟨(RX6, TX6, 21), rfl, by decide, rfl, by decide +kernel, rp_inc (by decide +kernel)⟩
theorem fX6_next_16 : rp_fl YX6_next 16 6 3 := ⟨(RX6, TX6, 21), rfl, by decide, rfl, by decide +kernel, rp_inc (by decide +kernel)⟩
theorem fX6_readNumber_98 : rp_fl YX6_readNumber 98 6 6 := ⟨(RX6, TX6, 21), rfl, by decide, rfl, by decide +kernel, rp_inc (by decide +kernel)⟩
theorem kX6_readNumber_102 : rp_cv YX6_readNumber 102 YX6_next 0 6 := ⟨gX6_readNumber_X6_next, oX6_next, uX6_next, ⟨rfl, rfl, by decide, by decide⟩, ⟨_, rfl, rfl⟩⟩
theorem kX6_readNumber_53 : rp_cs YX6_readNumber 53 YX6_in 3 := ⟨gX6_readNumber_X6_in, oX6_in, uX6_in, ⟨rfl, rfl, by decide, by decide⟩⟩
theorem pX6_readNumber_98 : rp_pl YX6_readNumber 98 6 6 .boolean := ⟨(RX6, TX6, 21), tyX6, rfl, by decide, rfl, by decide +kernel, rp_inc (by decide +kernel), tyX6_ok, nmX6, rfl, by decide +kernel⟩
theorem fX6_readNumber_95 : rp_fl YX6_readNumber 95 6 5 := ⟨(RX6, TX6, 21), rfl, by decide, rfl, by decide +kernel, rp_inc (by decide +kernel)⟩
theorem pX6_readNumber_95 : rp_pl YX6_readNumber 95 6 5 .int := ⟨(RX6, TX6, 21), tyX6, rfl, by decide, rfl, by decide +kernel, rp_inc (by decide +kernel), tyX6_ok, nmX6, rfl, by decide +kernel⟩
theorem fX6_takes_98 : rp_fl YX6_takes 98 6 6 := ⟨(RX6, TX6, 21), rfl, by decide, rfl, by decide +kernel, rp_inc (by decide +kernel)⟩
theorem kX6_takes_102 : rp_cv YX6_takes 102 YX6_next 0 6 := ⟨gX6_takes_X6_next, oX6_next, uX6_next, ⟨rfl, rfl, by decide, by decide⟩, ⟨_, rfl, rfl⟩⟩
theorem fX6_takes_95 : rp_fl YX6_takes 95 6 5 := ⟨(RX6, TX6, 21), rfl, by decide, rfl, by decide +kernel, rp_inc (by decide +kernel)⟩
theorem pX6_takes_95 : rp_pl YX6_takes 95 6 5 .int := ⟨(RX6, TX6, 21), tyX6, rfl, by decide, rfl, by decide +kernel, rp_inc (by decide +kernel), tyX6_ok, nmX6, rfl, by decide +kernel⟩
theorem kX6_readGroup_102 : rp_cv YX6_readGroup 102 YX6_next 0 6 := ⟨gX6_readGroup_X6_next, oX6_next, uX6_next, ⟨rfl, rfl, by decide, by decide⟩, ⟨_, rfl, rfl⟩⟩
theorem kX6_readGroup_53 : rp_cs YX6_readGroup 53 YX6_in 3 := ⟨gX6_readGroup_X6_in, oX6_in, uX6_in, ⟨rfl, rfl, by decide, by decide⟩⟩
theorem pX6_readGroup_98 : rp_pl YX6_readGroup 98 6 6 .boolean := ⟨(RX6, TX6, 21), tyX6, rfl, by decide, rfl, by decide +kernel, rp_inc (by decide +kernel), tyX6_ok, nmX6, rfl, by decide +kernel⟩
theorem fX6_readGroup_19 : rp_fl YX6_readGroup 19 6 7 := ⟨(RX6, TX6, 21), rfl, by decide, rfl, by decide +kernel, rp_inc (by decide +kernel)⟩
theorem fX6_readGroup_95 : rp_fl YX6_readGroup 95 6 5 := ⟨(RX6, TX6, 21), rfl, by decide, rfl, by decide +kernel, rp_inc (by decide +kernel)⟩
theorem pX6_readGroup_95 : rp_pl YX6_readGroup 95 6 5 .int := ⟨(RX6, TX6, 21), tyX6, rfl, by decide, rfl, by decide +kernel, rp_inc (by decide +kernel), tyX6_ok, nmX6, rfl, by decide +kernel⟩
theorem fX6_readItem_106 : rp_fl YX6_readItem 106 6 8 := ⟨(RX6, TX6, 21), rfl, by decide, rfl, by decide +kernel, rp_inc (by decide +kernel)⟩
theorem fX6_readItem_19 : rp_fl YX6_readItem 19 6 7 := ⟨(RX6, TX6, 21), rfl, by decide, rfl, by decide +kernel, rp_inc (by decide +kernel)⟩
theorem kX6_readItem_109 : rp_cv YX6_readItem 109 YX6_readNumber 1 6 := ⟨gX6_readItem_X6_readNumber, oX6_readNumber, uX6_readNumber, ⟨rfl, rfl, by decide, by decide⟩, ⟨_, rfl, rfl⟩⟩
theorem fX6_readItem_98 : rp_fl YX6_readItem 98 6 6 := ⟨(RX6, TX6, 21), rfl, by decide, rfl, by decide +kernel, rp_inc (by decide +kernel)⟩
theorem kX6_readItem_112 : rp_cv YX6_readItem 112 YX6_takes 1 6 := ⟨gX6_readItem_X6_takes, oX6_takes, uX6_takes, ⟨rfl, rfl, by decide, by decide⟩, ⟨_, rfl, rfl⟩⟩
theorem pX6_readItem_98 : rp_pl YX6_readItem 98 6 6 .boolean := ⟨(RX6, TX6, 21), tyX6, rfl, by decide, rfl, by decide +kernel, rp_inc (by decide +kernel), tyX6_ok, nmX6, rfl, by decide +kernel⟩
theorem kX6_readItem_115 : rp_cv YX6_readItem 115 YX6_readGroup 1 6 := ⟨gX6_readItem_X6_readGroup, oX6_readGroup, uX6_readGroup, ⟨rfl, rfl, by decide, by decide⟩, ⟨_, rfl, rfl⟩⟩
theorem pX6_readItem_106 : rp_pl YX6_readItem 106 6 8 .int := ⟨(RX6, TX6, 21), tyX6, rfl, by decide, rfl, by decide +kernel, rp_inc (by decide +kernel), tyX6_ok, nmX6, rfl, by decide +kernel⟩
theorem pX6_fault_95 : rp_pl YX6_fault 95 6 5 .int := ⟨(RX6, TX6, 21), tyX6, rfl, by decide, rfl, by decide +kernel, rp_inc (by decide +kernel), tyX6_ok, nmX6, rfl, by decide +kernel⟩
theorem pX6_fault_98 : rp_pl YX6_fault 98 6 6 .boolean := ⟨(RX6, TX6, 21), tyX6, rfl, by decide, rfl, by decide +kernel, rp_inc (by decide +kernel), tyX6_ok, nmX6, rfl, by decide +kernel⟩
theorem pX6_fault_106 : rp_pl YX6_fault 106 6 8 .int := ⟨(RX6, TX6, 21), tyX6, rfl, by decide, rfl, by decide +kernel, rp_inc (by decide +kernel), tyX6_ok, nmX6, rfl, by decide +kernel⟩
theorem kX6_fault_119 : rp_cv YX6_fault 119 YX6_readItem 0 6 := ⟨gX6_fault_X6_readItem, oX6_readItem, uX6_readItem, ⟨rfl, rfl, by decide, by decide⟩, ⟨_, rfl, rfl⟩⟩
theorem kX6_fault_112 : rp_cv YX6_fault 112 YX6_takes 1 6 := ⟨gX6_fault_X6_takes, oX6_takes, uX6_takes, ⟨rfl, rfl, by decide, by decide⟩, ⟨_, rfl, rfl⟩⟩
theorem fX6_fault_98 : rp_fl YX6_fault 98 6 6 := ⟨(RX6, TX6, 21), rfl, by decide, rfl, by decide +kernel, rp_inc (by decide +kernel)⟩
theorem fX6_fault_95 : rp_fl YX6_fault 95 6 5 := ⟨(RX6, TX6, 21), rfl, by decide, rfl, by decide +kernel, rp_inc (by decide +kernel)⟩
theorem fX6_fault_92 : rp_fl YX6_fault 92 6 4 := ⟨(RX6, TX6, 21), rfl, by decide, rfl, by decide +kernel, rp_inc (by decide +kernel)⟩
theorem kX6_load_122 : rp_cv YX6_load 122 YX6_fault 0 6 := ⟨gX6_load_X6_fault, oX6_fault, uX6_fault, ⟨rfl, rfl, by decide, by decide⟩, ⟨_, rfl, rfl⟩⟩
theorem fX6_load_7 : rp_fl YX6_load 7 6 0 := ⟨(RX6, TX6, 21), rfl, by decide, rfl, by decide +kernel, rp_inc (by decide +kernel)⟩
theorem fX6_load_106 : rp_fl YX6_load 106 6 8 := ⟨(RX6, TX6, 21), rfl, by decide, rfl, by decide +kernel, rp_inc (by decide +kernel)⟩
theorem kX6_load_61 : rp_cv YX6_load 61 YX6_record 0 6 := ⟨gX6_load_X6_record, oX6_record, uX6_record, ⟨rfl, rfl, by decide, by decide⟩, ⟨_, rfl, rfl⟩⟩
theorem fX6_load_19 : rp_fl YX6_load 19 6 7 := ⟨(RX6, TX6, 21), rfl, by decide, rfl, by decide +kernel, rp_inc (by decide +kernel)⟩
theorem kX6_load_64 : rp_cv YX6_load 64 YX6_append 5 6 := ⟨gX6_load_X6_append, oX6_append, uX6_append, ⟨rfl, rfl, by decide, by decide⟩, ⟨_, rfl, rfl⟩⟩
theorem pX6_load_92 : rp_pl YX6_load 92 6 4 .int := ⟨(RX6, TX6, 21), tyX6, rfl, by decide, rfl, by decide +kernel, rp_inc (by decide +kernel), tyX6_ok, nmX6, rfl, by decide +kernel⟩
theorem fX6_sum_7 : rp_fl YX6_sum 7 6 0 := ⟨(RX6, TX6, 21), rfl, by decide, rfl, by decide +kernel, rp_inc (by decide +kernel)⟩
theorem kX6_sum_83 : rp_cs YX6_sum 83 YX6_has 2 := ⟨gX6_sum_X6_has, oX6_has, uX6_has, ⟨rfl, rfl, by decide, by decide⟩⟩
theorem kX6_sum_72 : rp_cv YX6_sum 72 YX6_of 2 6 := ⟨gX6_sum_X6_of, oX6_of, uX6_of, ⟨rfl, rfl, by decide, by decide⟩, ⟨_, rfl, rfl⟩⟩
theorem fX6_worst_7 : rp_fl YX6_worst 7 6 0 := ⟨(RX6, TX6, 21), rfl, by decide, rfl, by decide +kernel, rp_inc (by decide +kernel)⟩
theorem kX6_worst_83 : rp_cs YX6_worst 83 YX6_has 2 := ⟨gX6_worst_X6_has, oX6_has, uX6_has, ⟨rfl, rfl, by decide, by decide⟩⟩
theorem kX6_worst_72 : rp_cv YX6_worst 72 YX6_of 2 6 := ⟨gX6_worst_X6_of, oX6_of, uX6_of, ⟨rfl, rfl, by decide, by decide⟩, ⟨_, rfl, rfl⟩⟩
theorem kX6_protectedWeight_125 : rp_cv YX6_protectedWeight 125 YX6_sum 2 6 := ⟨gX6_protectedWeight_X6_sum, oX6_sum, uX6_sum, ⟨rfl, rfl, by decide, by decide⟩, ⟨_, rfl, rfl⟩⟩
theorem kX6_protectedWeight_128 : rp_cv YX6_protectedWeight 128 YX6_worst 3 6 := ⟨gX6_protectedWeight_X6_worst, oX6_worst, uX6_worst, ⟨rfl, rfl, by decide, by decide⟩, ⟨_, rfl, rfl⟩⟩
theorem kX6_protectedProfit_125 : rp_cv YX6_protectedProfit 125 YX6_sum 2 6 := ⟨gX6_protectedProfit_X6_sum, oX6_sum, uX6_sum, ⟨rfl, rfl, by decide, by decide⟩, ⟨_, rfl, rfl⟩⟩
theorem kX6_protectedProfit_128 : rp_cv YX6_protectedProfit 128 YX6_worst 3 6 := ⟨gX6_protectedProfit_X6_worst, oX6_worst, uX6_worst, ⟨rfl, rfl, by decide, by decide⟩, ⟨_, rfl, rfl⟩⟩
theorem fX6_isAllowed_7 : rp_fl YX6_isAllowed 7 6 0 := ⟨(RX6, TX6, 21), rfl, by decide, rfl, by decide +kernel, rp_inc (by decide +kernel)⟩
theorem kX6_isAllowed_83 : rp_cs YX6_isAllowed 83 YX6_has 2 := ⟨gX6_isAllowed_X6_has, oX6_has, uX6_has, ⟨rfl, rfl, by decide, by decide⟩⟩
theorem kX6_isAllowed_72 : rp_cv YX6_isAllowed 72 YX6_of 2 6 := ⟨gX6_isAllowed_X6_of, oX6_of, uX6_of, ⟨rfl, rfl, by decide, by decide⟩, ⟨_, rfl, rfl⟩⟩
theorem fX6_sets_7 : rp_fl YX6_sets 7 6 0 := ⟨(RX6, TX6, 21), rfl, by decide, rfl, by decide +kernel, rp_inc (by decide +kernel)⟩
theorem kX6_layTables_132 : rp_cv YX6_layTables 132 YX6_sets 0 6 := ⟨gX6_layTables_X6_sets, oX6_sets, uX6_sets, ⟨rfl, rfl, by decide, by decide⟩, ⟨_, rfl, rfl⟩⟩
theorem fX6_layTables_28 : rp_fl YX6_layTables 28 6 11 := ⟨(RX6, TX6, 21), rfl, by decide, rfl, by decide +kernel, rp_inc (by decide +kernel)⟩
theorem kX6_layTables_135 : rp_cv YX6_layTables 135 YX6_isAllowed 1 6 := ⟨gX6_layTables_X6_isAllowed, oX6_isAllowed, uX6_isAllowed, ⟨rfl, rfl, by decide, by decide⟩, ⟨_, rfl, rfl⟩⟩
theorem fX6_layTables_22 : rp_fl YX6_layTables 22 6 9 := ⟨(RX6, TX6, 21), rfl, by decide, rfl, by decide +kernel, rp_inc (by decide +kernel)⟩
theorem kX6_layTables_138 : rp_cv YX6_layTables 138 YX6_protectedWeight 2 6 := ⟨gX6_layTables_X6_protectedWeight, oX6_protectedWeight, uX6_protectedWeight, ⟨rfl, rfl, by decide, by decide⟩, ⟨_, rfl, rfl⟩⟩
theorem fX6_layTables_25 : rp_fl YX6_layTables 25 6 10 := ⟨(RX6, TX6, 21), rfl, by decide, rfl, by decide +kernel, rp_inc (by decide +kernel)⟩
theorem kX6_layTables_141 : rp_cv YX6_layTables 141 YX6_protectedProfit 2 6 := ⟨gX6_layTables_X6_protectedProfit, oX6_protectedProfit, uX6_protectedProfit, ⟨rfl, rfl, by decide, by decide⟩, ⟨_, rfl, rfl⟩⟩
theorem fX6_layOwnTables_7 : rp_fl YX6_layOwnTables 7 6 0 := ⟨(RX6, TX6, 21), rfl, by decide, rfl, by decide +kernel, rp_inc (by decide +kernel)⟩
theorem kX6_layOwnTables_144 : rp_cv YX6_layOwnTables 144 YX6_layTables 2 6 := ⟨gX6_layOwnTables_X6_layTables, oX6_layTables, uX6_layTables, ⟨rfl, rfl, by decide, by decide⟩, ⟨_, rfl, rfl⟩⟩
theorem kX6_mostBudget_138 : rp_cv YX6_mostBudget 138 YX6_protectedWeight 2 6 := ⟨gX6_mostBudget_X6_protectedWeight, oX6_protectedWeight, uX6_protectedWeight, ⟨rfl, rfl, by decide, by decide⟩, ⟨_, rfl, rfl⟩⟩
theorem fX6_mostBudget_7 : rp_fl YX6_mostBudget 7 6 0 := ⟨(RX6, TX6, 21), rfl, by decide, rfl, by decide +kernel, rp_inc (by decide +kernel)⟩
theorem kX6_choice_148 : rp_cv YX6_choice 148 YX6_isChoice 1 6 := ⟨gX6_choice_X6_isChoice, oX6_isChoice, uX6_isChoice, ⟨rfl, rfl, by decide, by decide⟩, ⟨_, rfl, rfl⟩⟩
theorem fX6_choice_7 : rp_fl YX6_choice 7 6 0 := ⟨(RX6, TX6, 21), rfl, by decide, rfl, by decide +kernel, rp_inc (by decide +kernel)⟩
theorem kX6_choice_125 : rp_cv YX6_choice 125 YX6_sum 2 6 := ⟨gX6_choice_X6_sum, oX6_sum, uX6_sum, ⟨rfl, rfl, by decide, by decide⟩, ⟨_, rfl, rfl⟩⟩
theorem kX6_choice_138 : rp_cv YX6_choice 138 YX6_protectedWeight 2 6 := ⟨gX6_choice_X6_protectedWeight, oX6_protectedWeight, uX6_protectedWeight, ⟨rfl, rfl, by decide, by decide⟩, ⟨_, rfl, rfl⟩⟩
theorem fX6_choice_151 : Cond.constant YX6_choice.1.cls 151 (100000) ∈ YX6_choice.2.2.2.2.1 := by decide +kernel
theorem kX6_choice_141 : rp_cv YX6_choice 141 YX6_protectedProfit 2 6 := ⟨gX6_choice_X6_protectedProfit, oX6_protectedProfit, uX6_protectedProfit, ⟨rfl, rfl, by decide, by decide⟩, ⟨_, rfl, rfl⟩⟩
theorem kX6_choice_135 : rp_cv YX6_choice 135 YX6_isAllowed 1 6 := ⟨gX6_choice_X6_isAllowed, oX6_isAllowed, uX6_isAllowed, ⟨rfl, rfl, by decide, by decide⟩, ⟨_, rfl, rfl⟩⟩
theorem kX6_choice_128 : rp_cv YX6_choice 128 YX6_worst 3 6 := ⟨gX6_choice_X6_worst, oX6_worst, uX6_worst, ⟨rfl, rfl, by decide, by decide⟩, ⟨_, rfl, rfl⟩⟩
theorem kX6_choice_152 : rp_cv YX6_choice 152 YX6_mostBudget 1 6 := ⟨gX6_choice_X6_mostBudget, oX6_mostBudget, uX6_mostBudget, ⟨rfl, rfl, by decide, by decide⟩, ⟨_, rfl, rfl⟩⟩
theorem kX6_weightIn_148 : rp_cv YX6_weightIn 148 YX6_isChoice 1 6 := ⟨gX6_weightIn_X6_isChoice, oX6_isChoice, uX6_isChoice, ⟨rfl, rfl, by decide, by decide⟩, ⟨_, rfl, rfl⟩⟩
theorem kX6_weightIn_155 : rp_cs YX6_weightIn 155 YX6_sizeOf 1 := ⟨gX6_weightIn_X6_sizeOf, oX6_sizeOf, uX6_sizeOf, ⟨rfl, rfl, by decide, by decide⟩⟩
theorem fX6_weightIn_7 : rp_fl YX6_weightIn 7 6 0 := ⟨(RX6, TX6, 21), rfl, by decide, rfl, by decide +kernel, rp_inc (by decide +kernel)⟩
theorem kX6_weightIn_125 : rp_cv YX6_weightIn 125 YX6_sum 2 6 := ⟨gX6_weightIn_X6_sum, oX6_sum, uX6_sum, ⟨rfl, rfl, by decide, by decide⟩, ⟨_, rfl, rfl⟩⟩
theorem kX6_bestBy_132 : rp_cv YX6_bestBy 132 YX6_sets 0 6 := ⟨gX6_bestBy_X6_sets, oX6_sets, uX6_sets, ⟨rfl, rfl, by decide, by decide⟩, ⟨_, rfl, rfl⟩⟩
theorem fX6_bestBy_28 : rp_fl YX6_bestBy 28 6 11 := ⟨(RX6, TX6, 21), rfl, by decide, rfl, by decide +kernel, rp_inc (by decide +kernel)⟩
theorem fX6_bestBy_22 : rp_fl YX6_bestBy 22 6 9 := ⟨(RX6, TX6, 21), rfl, by decide, rfl, by decide +kernel, rp_inc (by decide +kernel)⟩
theorem fX6_bestBy_25 : rp_fl YX6_bestBy 25 6 10 := ⟨(RX6, TX6, 21), rfl, by decide, rfl, by decide +kernel, rp_inc (by decide +kernel)⟩
theorem fX6_amongBest_7 : rp_fl YX6_amongBest 7 6 0 := ⟨(RX6, TX6, 21), rfl, by decide, rfl, by decide +kernel, rp_inc (by decide +kernel)⟩
theorem kX6_amongBest_158 : rp_cv YX6_amongBest 158 YX6_bestBy 1 6 := ⟨gX6_amongBest_X6_bestBy, oX6_bestBy, uX6_bestBy, ⟨rfl, rfl, by decide, by decide⟩, ⟨_, rfl, rfl⟩⟩
theorem kX6_amongBest_132 : rp_cv YX6_amongBest 132 YX6_sets 0 6 := ⟨gX6_amongBest_X6_sets, oX6_sets, uX6_sets, ⟨rfl, rfl, by decide, by decide⟩, ⟨_, rfl, rfl⟩⟩
theorem fX6_amongBest_28 : rp_fl YX6_amongBest 28 6 11 := ⟨(RX6, TX6, 21), rfl, by decide, rfl, by decide +kernel, rp_inc (by decide +kernel)⟩
theorem fX6_amongBest_22 : rp_fl YX6_amongBest 22 6 9 := ⟨(RX6, TX6, 21), rfl, by decide, rfl, by decide +kernel, rp_inc (by decide +kernel)⟩
theorem fX6_amongBest_25 : rp_fl YX6_amongBest 25 6 10 := ⟨(RX6, TX6, 21), rfl, by decide, rfl, by decide +kernel, rp_inc (by decide +kernel)⟩
theorem kX6_best_53 : rp_cs YX6_best 53 YX6_in 3 := ⟨gX6_best_X6_in, oX6_in, uX6_in, ⟨rfl, rfl, by decide, by decide⟩⟩
theorem kX6_best_161 : rp_cv YX6_best 161 YX6_layOwnTables 0 6 := ⟨gX6_best_X6_layOwnTables, oX6_layOwnTables, uX6_layOwnTables, ⟨rfl, rfl, by decide, by decide⟩, ⟨_, rfl, rfl⟩⟩
theorem fX6_best_7 : rp_fl YX6_best 7 6 0 := ⟨(RX6, TX6, 21), rfl, by decide, rfl, by decide +kernel, rp_inc (by decide +kernel)⟩
theorem kX6_best_158 : rp_cv YX6_best 158 YX6_bestBy 1 6 := ⟨gX6_best_X6_bestBy, oX6_bestBy, uX6_bestBy, ⟨rfl, rfl, by decide, by decide⟩, ⟨_, rfl, rfl⟩⟩
theorem fX6_best_25 : rp_fl YX6_best 25 6 10 := ⟨(RX6, TX6, 21), rfl, by decide, rfl, by decide +kernel, rp_inc (by decide +kernel)⟩
theorem fX6_best_151 : Cond.constant YX6_best.1.cls 151 (100000) ∈ YX6_best.2.2.2.2.1 := by decide +kernel
theorem fX6_best_22 : rp_fl YX6_best 22 6 9 := ⟨(RX6, TX6, 21), rfl, by decide, rfl, by decide +kernel, rp_inc (by decide +kernel)⟩
theorem kX6_best_164 : rp_cv YX6_best 164 YX6_amongBest 1 6 := ⟨gX6_best_X6_amongBest, oX6_amongBest, uX6_amongBest, ⟨rfl, rfl, by decide, by decide⟩, ⟨_, rfl, rfl⟩⟩
theorem kX6_bestWith_53 : rp_cs YX6_bestWith 53 YX6_in 3 := ⟨gX6_bestWith_X6_in, oX6_in, uX6_in, ⟨rfl, rfl, by decide, by decide⟩⟩
theorem kX6_bestWith_144 : rp_cv YX6_bestWith 144 YX6_layTables 2 6 := ⟨gX6_bestWith_X6_layTables, oX6_layTables, uX6_layTables, ⟨rfl, rfl, by decide, by decide⟩, ⟨_, rfl, rfl⟩⟩
theorem fX6_bestWith_25 : rp_fl YX6_bestWith 25 6 10 := ⟨(RX6, TX6, 21), rfl, by decide, rfl, by decide +kernel, rp_inc (by decide +kernel)⟩
theorem kX6_bestWith_158 : rp_cv YX6_bestWith 158 YX6_bestBy 1 6 := ⟨gX6_bestWith_X6_bestBy, oX6_bestBy, uX6_bestBy, ⟨rfl, rfl, by decide, by decide⟩, ⟨_, rfl, rfl⟩⟩
theorem fX6_bestWith_151 : Cond.constant YX6_bestWith.1.cls 151 (100000) ∈ YX6_bestWith.2.2.2.2.1 := by decide +kernel
theorem kX6_leastCapacity_53 : rp_cs YX6_leastCapacity 53 YX6_in 3 := ⟨gX6_leastCapacity_X6_in, oX6_in, uX6_in, ⟨rfl, rfl, by decide, by decide⟩⟩
theorem kX6_leastCapacity_161 : rp_cv YX6_leastCapacity 161 YX6_layOwnTables 0 6 := ⟨gX6_leastCapacity_X6_layOwnTables, oX6_layOwnTables, uX6_layOwnTables, ⟨rfl, rfl, by decide, by decide⟩, ⟨_, rfl, rfl⟩⟩
theorem kX6_leastCapacity_132 : rp_cv YX6_leastCapacity 132 YX6_sets 0 6 := ⟨gX6_leastCapacity_X6_sets, oX6_sets, uX6_sets, ⟨rfl, rfl, by decide, by decide⟩, ⟨_, rfl, rfl⟩⟩
theorem fX6_leastCapacity_28 : rp_fl YX6_leastCapacity 28 6 11 := ⟨(RX6, TX6, 21), rfl, by decide, rfl, by decide +kernel, rp_inc (by decide +kernel)⟩
theorem fX6_leastCapacity_25 : rp_fl YX6_leastCapacity 25 6 10 := ⟨(RX6, TX6, 21), rfl, by decide, rfl, by decide +kernel, rp_inc (by decide +kernel)⟩
theorem fX6_leastCapacity_22 : rp_fl YX6_leastCapacity 22 6 9 := ⟨(RX6, TX6, 21), rfl, by decide, rfl, by decide +kernel, rp_inc (by decide +kernel)⟩
theorem fX6_staysBest_7 : rp_fl YX6_staysBest 7 6 0 := ⟨(RX6, TX6, 21), rfl, by decide, rfl, by decide +kernel, rp_inc (by decide +kernel)⟩
theorem kX6_staysBest_138 : rp_cv YX6_staysBest 138 YX6_protectedWeight 2 6 := ⟨gX6_staysBest_X6_protectedWeight, oX6_protectedWeight, uX6_protectedWeight, ⟨rfl, rfl, by decide, by decide⟩, ⟨_, rfl, rfl⟩⟩
theorem kX6_staysBest_132 : rp_cv YX6_staysBest 132 YX6_sets 0 6 := ⟨gX6_staysBest_X6_sets, oX6_sets, uX6_sets, ⟨rfl, rfl, by decide, by decide⟩, ⟨_, rfl, rfl⟩⟩
theorem fX6_staysBest_28 : rp_fl YX6_staysBest 28 6 11 := ⟨(RX6, TX6, 21), rfl, by decide, rfl, by decide +kernel, rp_inc (by decide +kernel)⟩
theorem fX6_staysBest_25 : rp_fl YX6_staysBest 25 6 10 := ⟨(RX6, TX6, 21), rfl, by decide, rfl, by decide +kernel, rp_inc (by decide +kernel)⟩
theorem kX6_headroom_68 : rp_cv YX6_headroom 68 YX6_isItem 1 6 := ⟨gX6_headroom_X6_isItem, oX6_isItem, uX6_isItem, ⟨rfl, rfl, by decide, by decide⟩, ⟨_, rfl, rfl⟩⟩
theorem kX6_headroom_161 : rp_cv YX6_headroom 161 YX6_layOwnTables 0 6 := ⟨gX6_headroom_X6_layOwnTables, oX6_layOwnTables, uX6_layOwnTables, ⟨rfl, rfl, by decide, by decide⟩, ⟨_, rfl, rfl⟩⟩
theorem fX6_headroom_7 : rp_fl YX6_headroom 7 6 0 := ⟨(RX6, TX6, 21), rfl, by decide, rfl, by decide +kernel, rp_inc (by decide +kernel)⟩
theorem kX6_headroom_158 : rp_cv YX6_headroom 158 YX6_bestBy 1 6 := ⟨gX6_headroom_X6_bestBy, oX6_bestBy, uX6_bestBy, ⟨rfl, rfl, by decide, by decide⟩, ⟨_, rfl, rfl⟩⟩
theorem kX6_headroom_72 : rp_cv YX6_headroom 72 YX6_of 2 6 := ⟨gX6_headroom_X6_of, oX6_of, uX6_of, ⟨rfl, rfl, by decide, by decide⟩, ⟨_, rfl, rfl⟩⟩
theorem kX6_headroom_83 : rp_cs YX6_headroom 83 YX6_has 2 := ⟨gX6_headroom_X6_has, oX6_has, uX6_has, ⟨rfl, rfl, by decide, by decide⟩⟩
theorem kX6_headroom_167 : rp_cv YX6_headroom 167 YX6_staysBest 1 6 := ⟨gX6_headroom_X6_staysBest, oX6_staysBest, uX6_staysBest, ⟨rfl, rfl, by decide, by decide⟩, ⟨_, rfl, rfl⟩⟩
theorem kX6_isAhead_72 : rp_cv YX6_isAhead 72 YX6_of 2 6 := ⟨gX6_isAhead_X6_of, oX6_of, uX6_of, ⟨rfl, rfl, by decide, by decide⟩, ⟨_, rfl, rfl⟩⟩
theorem kX6_greedy_53 : rp_cs YX6_greedy 53 YX6_in 3 := ⟨gX6_greedy_X6_in, oX6_in, uX6_in, ⟨rfl, rfl, by decide, by decide⟩⟩
theorem fX6_greedy_7 : rp_fl YX6_greedy 7 6 0 := ⟨(RX6, TX6, 21), rfl, by decide, rfl, by decide +kernel, rp_inc (by decide +kernel)⟩
theorem kX6_greedy_83 : rp_cs YX6_greedy 83 YX6_has 2 := ⟨gX6_greedy_X6_has, oX6_has, uX6_has, ⟨rfl, rfl, by decide, by decide⟩⟩
theorem kX6_greedy_170 : rp_cv YX6_greedy 170 YX6_isAhead 2 6 := ⟨gX6_greedy_X6_isAhead, oX6_isAhead, uX6_isAhead, ⟨rfl, rfl, by decide, by decide⟩, ⟨_, rfl, rfl⟩⟩
theorem kX6_greedy_135 : rp_cv YX6_greedy 135 YX6_isAllowed 1 6 := ⟨gX6_greedy_X6_isAllowed, oX6_isAllowed, uX6_isAllowed, ⟨rfl, rfl, by decide, by decide⟩, ⟨_, rfl, rfl⟩⟩
theorem kX6_greedy_138 : rp_cv YX6_greedy 138 YX6_protectedWeight 2 6 := ⟨gX6_greedy_X6_protectedWeight, oX6_protectedWeight, uX6_protectedWeight, ⟨rfl, rfl, by decide, by decide⟩, ⟨_, rfl, rfl⟩⟩
theorem kX6_greedy_141 : rp_cv YX6_greedy 141 YX6_protectedProfit 2 6 := ⟨gX6_greedy_X6_protectedProfit, oX6_protectedProfit, uX6_protectedProfit, ⟨rfl, rfl, by decide, by decide⟩, ⟨_, rfl, rfl⟩⟩
theorem fX6_greedy_151 : Cond.constant YX6_greedy.1.cls 151 (100000) ∈ YX6_greedy.2.2.2.2.1 := by decide +kernel
theorem fX6_comesAhead_25 : rp_fl YX6_comesAhead 25 6 10 := ⟨(RX6, TX6, 21), rfl, by decide, rfl, by decide +kernel, rp_inc (by decide +kernel)⟩
theorem fX6_comesAhead_22 : rp_fl YX6_comesAhead 22 6 9 := ⟨(RX6, TX6, 21), rfl, by decide, rfl, by decide +kernel, rp_inc (by decide +kernel)⟩
theorem fX6_isGood_28 : rp_fl YX6_isGood 28 6 11 := ⟨(RX6, TX6, 21), rfl, by decide, rfl, by decide +kernel, rp_inc (by decide +kernel)⟩
theorem fX6_isGood_22 : rp_fl YX6_isGood 22 6 9 := ⟨(RX6, TX6, 21), rfl, by decide, rfl, by decide +kernel, rp_inc (by decide +kernel)⟩
theorem fX6_isGood_7 : rp_fl YX6_isGood 7 6 0 := ⟨(RX6, TX6, 21), rfl, by decide, rfl, by decide +kernel, rp_inc (by decide +kernel)⟩
theorem kX6_forced_148 : rp_cv YX6_forced 148 YX6_isChoice 1 6 := ⟨gX6_forced_X6_isChoice, oX6_isChoice, uX6_isChoice, ⟨rfl, rfl, by decide, by decide⟩, ⟨_, rfl, rfl⟩⟩
theorem kX6_forced_53 : rp_cs YX6_forced 53 YX6_in 3 := ⟨gX6_forced_X6_in, oX6_in, uX6_in, ⟨rfl, rfl, by decide, by decide⟩⟩
theorem kX6_forced_161 : rp_cv YX6_forced 161 YX6_layOwnTables 0 6 := ⟨gX6_forced_X6_layOwnTables, oX6_layOwnTables, uX6_layOwnTables, ⟨rfl, rfl, by decide, by decide⟩, ⟨_, rfl, rfl⟩⟩
theorem kX6_forced_132 : rp_cv YX6_forced 132 YX6_sets 0 6 := ⟨gX6_forced_X6_sets, oX6_sets, uX6_sets, ⟨rfl, rfl, by decide, by decide⟩, ⟨_, rfl, rfl⟩⟩
theorem kX6_forced_173 : rp_cv YX6_forced 173 YX6_isGood 1 6 := ⟨gX6_forced_X6_isGood, oX6_isGood, uX6_isGood, ⟨rfl, rfl, by decide, by decide⟩, ⟨_, rfl, rfl⟩⟩
theorem kX6_forced_176 : rp_cv YX6_forced 176 YX6_comesAhead 2 6 := ⟨gX6_forced_X6_comesAhead, oX6_comesAhead, uX6_comesAhead, ⟨rfl, rfl, by decide, by decide⟩, ⟨_, rfl, rfl⟩⟩
theorem fX6_forced_25 : rp_fl YX6_forced 25 6 10 := ⟨(RX6, TX6, 21), rfl, by decide, rfl, by decide +kernel, rp_inc (by decide +kernel)⟩
theorem fX6_forced_151 : Cond.constant YX6_forced.1.cls 151 (100000) ∈ YX6_forced.2.2.2.2.1 := by decide +kernel
theorem kX6_nextStep_132 : rp_cv YX6_nextStep 132 YX6_sets 0 6 := ⟨gX6_nextStep_X6_sets, oX6_sets, uX6_sets, ⟨rfl, rfl, by decide, by decide⟩, ⟨_, rfl, rfl⟩⟩
theorem fX6_nextStep_28 : rp_fl YX6_nextStep 28 6 11 := ⟨(RX6, TX6, 21), rfl, by decide, rfl, by decide +kernel, rp_inc (by decide +kernel)⟩
theorem fX6_nextStep_25 : rp_fl YX6_nextStep 25 6 10 := ⟨(RX6, TX6, 21), rfl, by decide, rfl, by decide +kernel, rp_inc (by decide +kernel)⟩
theorem fX6_nextStep_22 : rp_fl YX6_nextStep 22 6 9 := ⟨(RX6, TX6, 21), rfl, by decide, rfl, by decide +kernel, rp_inc (by decide +kernel)⟩
theorem kX6_frontier_53 : rp_cs YX6_frontier 53 YX6_in 3 := ⟨gX6_frontier_X6_in, oX6_in, uX6_in, ⟨rfl, rfl, by decide, by decide⟩⟩
theorem kX6_frontier_161 : rp_cv YX6_frontier 161 YX6_layOwnTables 0 6 := ⟨gX6_frontier_X6_layOwnTables, oX6_layOwnTables, uX6_layOwnTables, ⟨rfl, rfl, by decide, by decide⟩, ⟨_, rfl, rfl⟩⟩
theorem fX6_frontier_25 : rp_fl YX6_frontier 25 6 10 := ⟨(RX6, TX6, 21), rfl, by decide, rfl, by decide +kernel, rp_inc (by decide +kernel)⟩
theorem kX6_frontier_158 : rp_cv YX6_frontier 158 YX6_bestBy 1 6 := ⟨gX6_frontier_X6_bestBy, oX6_bestBy, uX6_bestBy, ⟨rfl, rfl, by decide, by decide⟩, ⟨_, rfl, rfl⟩⟩
theorem kX6_frontier_179 : rp_cv YX6_frontier 179 YX6_nextStep 1 6 := ⟨gX6_frontier_X6_nextStep, oX6_nextStep, uX6_nextStep, ⟨rfl, rfl, by decide, by decide⟩, ⟨_, rfl, rfl⟩⟩
theorem fX6_frontier_151 : Cond.constant YX6_frontier.1.cls 151 (100000) ∈ YX6_frontier.2.2.2.2.1 := by decide +kernel
theorem fX6_firstNear_7 : rp_fl YX6_firstNear 7 6 0 := ⟨(RX6, TX6, 21), rfl, by decide, rfl, by decide +kernel, rp_inc (by decide +kernel)⟩
theorem kX6_firstNear_83 : rp_cs YX6_firstNear 83 YX6_has 2 := ⟨gX6_firstNear_X6_has, oX6_has, uX6_has, ⟨rfl, rfl, by decide, by decide⟩⟩
theorem kX6_firstNear_173 : rp_cv YX6_firstNear 173 YX6_isGood 1 6 := ⟨gX6_firstNear_X6_isGood, oX6_isGood, uX6_isGood, ⟨rfl, rfl, by decide, by decide⟩, ⟨_, rfl, rfl⟩⟩
theorem kX6_firstNear_176 : rp_cv YX6_firstNear 176 YX6_comesAhead 2 6 := ⟨gX6_firstNear_X6_comesAhead, oX6_comesAhead, uX6_comesAhead, ⟨rfl, rfl, by decide, by decide⟩, ⟨_, rfl, rfl⟩⟩
theorem kX6_improve_148 : rp_cv YX6_improve 148 YX6_isChoice 1 6 := ⟨gX6_improve_X6_isChoice, oX6_isChoice, uX6_isChoice, ⟨rfl, rfl, by decide, by decide⟩, ⟨_, rfl, rfl⟩⟩
theorem kX6_improve_53 : rp_cs YX6_improve 53 YX6_in 3 := ⟨gX6_improve_X6_in, oX6_in, uX6_in, ⟨rfl, rfl, by decide, by decide⟩⟩
theorem kX6_improve_161 : rp_cv YX6_improve 161 YX6_layOwnTables 0 6 := ⟨gX6_improve_X6_layOwnTables, oX6_layOwnTables, uX6_layOwnTables, ⟨rfl, rfl, by decide, by decide⟩, ⟨_, rfl, rfl⟩⟩
theorem kX6_improve_173 : rp_cv YX6_improve 173 YX6_isGood 1 6 := ⟨gX6_improve_X6_isGood, oX6_isGood, uX6_isGood, ⟨rfl, rfl, by decide, by decide⟩, ⟨_, rfl, rfl⟩⟩
theorem kX6_improve_182 : rp_cv YX6_improve 182 YX6_firstNear 1 6 := ⟨gX6_improve_X6_firstNear, oX6_firstNear, uX6_firstNear, ⟨rfl, rfl, by decide, by decide⟩, ⟨_, rfl, rfl⟩⟩
theorem fX6_layList_32 : rp_fl YX6_layList 32 6 12 := ⟨(RX6, TX6, 21), rfl, by decide, rfl, by decide +kernel, rp_inc (by decide +kernel)⟩
theorem kX6_layList_125 : rp_cv YX6_layList 125 YX6_sum 2 6 := ⟨gX6_layList_X6_sum, oX6_sum, uX6_sum, ⟨rfl, rfl, by decide, by decide⟩, ⟨_, rfl, rfl⟩⟩
theorem fX6_layList_22 : rp_fl YX6_layList 22 6 9 := ⟨(RX6, TX6, 21), rfl, by decide, rfl, by decide +kernel, rp_inc (by decide +kernel)⟩
theorem fX6_layList_7 : rp_fl YX6_layList 7 6 0 := ⟨(RX6, TX6, 21), rfl, by decide, rfl, by decide +kernel, rp_inc (by decide +kernel)⟩
theorem kX6_layList_138 : rp_cv YX6_layList 138 YX6_protectedWeight 2 6 := ⟨gX6_layList_X6_protectedWeight, oX6_protectedWeight, uX6_protectedWeight, ⟨rfl, rfl, by decide, by decide⟩, ⟨_, rfl, rfl⟩⟩
theorem pX6_layList_185 : rp_pl YX6_layList 185 6 14 .int := ⟨(RX6, TX6, 21), tyX6, rfl, by decide, rfl, by decide +kernel, rp_inc (by decide +kernel), tyX6_ok, nmX6, rfl, by decide +kernel⟩
theorem fX6_layList_35 : rp_fl YX6_layList 35 6 13 := ⟨(RX6, TX6, 21), rfl, by decide, rfl, by decide +kernel, rp_inc (by decide +kernel)⟩
theorem fX6_layList_185 : rp_fl YX6_layList 185 6 14 := ⟨(RX6, TX6, 21), rfl, by decide, rfl, by decide +kernel, rp_inc (by decide +kernel)⟩
theorem fX6_list_7 : rp_fl YX6_list 7 6 0 := ⟨(RX6, TX6, 21), rfl, by decide, rfl, by decide +kernel, rp_inc (by decide +kernel)⟩
theorem kX6_list_53 : rp_cs YX6_list 53 YX6_in 3 := ⟨gX6_list_X6_in, oX6_in, uX6_in, ⟨rfl, rfl, by decide, by decide⟩⟩
theorem kX6_list_188 : rp_cv YX6_list 188 YX6_layList 1 6 := ⟨gX6_list_X6_layList, oX6_layList, uX6_layList, ⟨rfl, rfl, by decide, by decide⟩, ⟨_, rfl, rfl⟩⟩
theorem fX6_list_185 : rp_fl YX6_list 185 6 14 := ⟨(RX6, TX6, 21), rfl, by decide, rfl, by decide +kernel, rp_inc (by decide +kernel)⟩
theorem fX6_list_35 : rp_fl YX6_list 35 6 13 := ⟨(RX6, TX6, 21), rfl, by decide, rfl, by decide +kernel, rp_inc (by decide +kernel)⟩
theorem fX6_dominator_7 : rp_fl YX6_dominator 7 6 0 := ⟨(RX6, TX6, 21), rfl, by decide, rfl, by decide +kernel, rp_inc (by decide +kernel)⟩
theorem kX6_dominator_53 : rp_cs YX6_dominator 53 YX6_in 3 := ⟨gX6_dominator_X6_in, oX6_in, uX6_in, ⟨rfl, rfl, by decide, by decide⟩⟩
theorem kX6_dominator_188 : rp_cv YX6_dominator 188 YX6_layList 1 6 := ⟨gX6_dominator_X6_layList, oX6_layList, uX6_layList, ⟨rfl, rfl, by decide, by decide⟩, ⟨_, rfl, rfl⟩⟩
theorem fX6_dominator_22 : rp_fl YX6_dominator 22 6 9 := ⟨(RX6, TX6, 21), rfl, by decide, rfl, by decide +kernel, rp_inc (by decide +kernel)⟩
theorem fX6_dominator_185 : rp_fl YX6_dominator 185 6 14 := ⟨(RX6, TX6, 21), rfl, by decide, rfl, by decide +kernel, rp_inc (by decide +kernel)⟩
theorem fX6_dominator_35 : rp_fl YX6_dominator 35 6 13 := ⟨(RX6, TX6, 21), rfl, by decide, rfl, by decide +kernel, rp_inc (by decide +kernel)⟩
theorem fX6_dominator_32 : rp_fl YX6_dominator 32 6 12 := ⟨(RX6, TX6, 21), rfl, by decide, rfl, by decide +kernel, rp_inc (by decide +kernel)⟩
theorem fX6_layThresholds_7 : rp_fl YX6_layThresholds 7 6 0 := ⟨(RX6, TX6, 21), rfl, by decide, rfl, by decide +kernel, rp_inc (by decide +kernel)⟩
theorem kX6_layThresholds_72 : rp_cv YX6_layThresholds 72 YX6_of 2 6 := ⟨gX6_layThresholds_X6_of, oX6_of, uX6_of, ⟨rfl, rfl, by decide, by decide⟩, ⟨_, rfl, rfl⟩⟩
theorem fX6_layThresholds_38 : rp_fl YX6_layThresholds 38 6 15 := ⟨(RX6, TX6, 21), rfl, by decide, rfl, by decide +kernel, rp_inc (by decide +kernel)⟩
theorem kX6_threshold_191 : rp_cv YX6_threshold 191 YX6_layThresholds 0 6 := ⟨gX6_threshold_X6_layThresholds, oX6_layThresholds, uX6_layThresholds, ⟨rfl, rfl, by decide, by decide⟩, ⟨_, rfl, rfl⟩⟩
theorem kX6_threshold_53 : rp_cs YX6_threshold 53 YX6_in 3 := ⟨gX6_threshold_X6_in, oX6_in, uX6_in, ⟨rfl, rfl, by decide, by decide⟩⟩
theorem fX6_threshold_38 : rp_fl YX6_threshold 38 6 15 := ⟨(RX6, TX6, 21), rfl, by decide, rfl, by decide +kernel, rp_inc (by decide +kernel)⟩
theorem kX6_plain_191 : rp_cv YX6_plain 191 YX6_layThresholds 0 6 := ⟨gX6_plain_X6_layThresholds, oX6_layThresholds, uX6_layThresholds, ⟨rfl, rfl, by decide, by decide⟩, ⟨_, rfl, rfl⟩⟩
theorem kX6_plain_53 : rp_cs YX6_plain 53 YX6_in 3 := ⟨gX6_plain_X6_in, oX6_in, uX6_in, ⟨rfl, rfl, by decide, by decide⟩⟩
theorem fX6_plain_38 : rp_fl YX6_plain 38 6 15 := ⟨(RX6, TX6, 21), rfl, by decide, rfl, by decide +kernel, rp_inc (by decide +kernel)⟩
theorem fX6_plain_7 : rp_fl YX6_plain 7 6 0 := ⟨(RX6, TX6, 21), rfl, by decide, rfl, by decide +kernel, rp_inc (by decide +kernel)⟩
theorem kX6_plain_132 : rp_cv YX6_plain 132 YX6_sets 0 6 := ⟨gX6_plain_X6_sets, oX6_sets, uX6_sets, ⟨rfl, rfl, by decide, by decide⟩, ⟨_, rfl, rfl⟩⟩
theorem kX6_plain_72 : rp_cv YX6_plain 72 YX6_of 2 6 := ⟨gX6_plain_X6_of, oX6_of, uX6_of, ⟨rfl, rfl, by decide, by decide⟩, ⟨_, rfl, rfl⟩⟩
theorem kX6_plain_83 : rp_cs YX6_plain 83 YX6_has 2 := ⟨gX6_plain_X6_has, oX6_has, uX6_has, ⟨rfl, rfl, by decide, by decide⟩⟩
theorem kX6_plain_125 : rp_cv YX6_plain 125 YX6_sum 2 6 := ⟨gX6_plain_X6_sum, oX6_sum, uX6_sum, ⟨rfl, rfl, by decide, by decide⟩, ⟨_, rfl, rfl⟩⟩
theorem kX6_plain_135 : rp_cv YX6_plain 135 YX6_isAllowed 1 6 := ⟨gX6_plain_X6_isAllowed, oX6_isAllowed, uX6_isAllowed, ⟨rfl, rfl, by decide, by decide⟩, ⟨_, rfl, rfl⟩⟩
theorem pX6_layRests_194 : rp_pl YX6_layRests 194 6 20 .int := ⟨(RX6, TX6, 21), tyX6, rfl, by decide, rfl, by decide +kernel, rp_inc (by decide +kernel), tyX6_ok, nmX6, rfl, by decide +kernel⟩
theorem kX6_layRests_132 : rp_cv YX6_layRests 132 YX6_sets 0 6 := ⟨gX6_layRests_X6_sets, oX6_sets, uX6_sets, ⟨rfl, rfl, by decide, by decide⟩, ⟨_, rfl, rfl⟩⟩
theorem fX6_layRests_50 : rp_fl YX6_layRests 50 6 19 := ⟨(RX6, TX6, 21), rfl, by decide, rfl, by decide +kernel, rp_inc (by decide +kernel)⟩
theorem kX6_layRests_125 : rp_cv YX6_layRests 125 YX6_sum 2 6 := ⟨gX6_layRests_X6_sum, oX6_sum, uX6_sum, ⟨rfl, rfl, by decide, by decide⟩, ⟨_, rfl, rfl⟩⟩
theorem kX6_layRests_155 : rp_cs YX6_layRests 155 YX6_sizeOf 1 := ⟨gX6_layRests_X6_sizeOf, oX6_sizeOf, uX6_sizeOf, ⟨rfl, rfl, by decide, by decide⟩⟩
theorem kX6_layRests_135 : rp_cv YX6_layRests 135 YX6_isAllowed 1 6 := ⟨gX6_layRests_X6_isAllowed, oX6_isAllowed, uX6_isAllowed, ⟨rfl, rfl, by decide, by decide⟩, ⟨_, rfl, rfl⟩⟩
theorem fX6_layRests_41 : rp_fl YX6_layRests 41 6 16 := ⟨(RX6, TX6, 21), rfl, by decide, rfl, by decide +kernel, rp_inc (by decide +kernel)⟩
theorem fX6_layRests_194 : rp_fl YX6_layRests 194 6 20 := ⟨(RX6, TX6, 21), rfl, by decide, rfl, by decide +kernel, rp_inc (by decide +kernel)⟩
theorem fX6_layRests_44 : rp_fl YX6_layRests 44 6 17 := ⟨(RX6, TX6, 21), rfl, by decide, rfl, by decide +kernel, rp_inc (by decide +kernel)⟩
theorem fX6_layRests_47 : rp_fl YX6_layRests 47 6 18 := ⟨(RX6, TX6, 21), rfl, by decide, rfl, by decide +kernel, rp_inc (by decide +kernel)⟩
theorem fX6_recoveredBy_194 : rp_fl YX6_recoveredBy 194 6 20 := ⟨(RX6, TX6, 21), rfl, by decide, rfl, by decide +kernel, rp_inc (by decide +kernel)⟩
theorem fX6_recoveredBy_47 : rp_fl YX6_recoveredBy 47 6 18 := ⟨(RX6, TX6, 21), rfl, by decide, rfl, by decide +kernel, rp_inc (by decide +kernel)⟩
theorem fX6_recoveredBy_44 : rp_fl YX6_recoveredBy 44 6 17 := ⟨(RX6, TX6, 21), rfl, by decide, rfl, by decide +kernel, rp_inc (by decide +kernel)⟩
theorem fX6_recoveredBy_50 : rp_fl YX6_recoveredBy 50 6 19 := ⟨(RX6, TX6, 21), rfl, by decide, rfl, by decide +kernel, rp_inc (by decide +kernel)⟩
theorem fX6_recoveredBy_41 : rp_fl YX6_recoveredBy 41 6 16 := ⟨(RX6, TX6, 21), rfl, by decide, rfl, by decide +kernel, rp_inc (by decide +kernel)⟩
theorem fX6_recoveredBy_7 : rp_fl YX6_recoveredBy 7 6 0 := ⟨(RX6, TX6, 21), rfl, by decide, rfl, by decide +kernel, rp_inc (by decide +kernel)⟩
theorem kX6_recovered_148 : rp_cv YX6_recovered 148 YX6_isChoice 1 6 := ⟨gX6_recovered_X6_isChoice, oX6_isChoice, uX6_isChoice, ⟨rfl, rfl, by decide, by decide⟩, ⟨_, rfl, rfl⟩⟩
theorem kX6_recovered_53 : rp_cs YX6_recovered 53 YX6_in 3 := ⟨gX6_recovered_X6_in, oX6_in, uX6_in, ⟨rfl, rfl, by decide, by decide⟩⟩
theorem kX6_recovered_155 : rp_cs YX6_recovered 155 YX6_sizeOf 1 := ⟨gX6_recovered_X6_sizeOf, oX6_sizeOf, uX6_sizeOf, ⟨rfl, rfl, by decide, by decide⟩⟩
theorem fX6_recovered_7 : rp_fl YX6_recovered 7 6 0 := ⟨(RX6, TX6, 21), rfl, by decide, rfl, by decide +kernel, rp_inc (by decide +kernel)⟩
theorem kX6_recovered_197 : rp_cv YX6_recovered 197 YX6_layRests 2 6 := ⟨gX6_recovered_X6_layRests, oX6_layRests, uX6_layRests, ⟨rfl, rfl, by decide, by decide⟩, ⟨_, rfl, rfl⟩⟩
theorem kX6_recovered_200 : rp_cv YX6_recovered 200 YX6_recoveredBy 1 6 := ⟨gX6_recovered_X6_recoveredBy, oX6_recoveredBy, uX6_recoveredBy, ⟨rfl, rfl, by decide, by decide⟩, ⟨_, rfl, rfl⟩⟩
theorem kX6_adversary_148 : rp_cv YX6_adversary 148 YX6_isChoice 1 6 := ⟨gX6_adversary_X6_isChoice, oX6_isChoice, uX6_isChoice, ⟨rfl, rfl, by decide, by decide⟩, ⟨_, rfl, rfl⟩⟩
theorem kX6_adversary_53 : rp_cs YX6_adversary 53 YX6_in 3 := ⟨gX6_adversary_X6_in, oX6_in, uX6_in, ⟨rfl, rfl, by decide, by decide⟩⟩
theorem kX6_adversary_197 : rp_cv YX6_adversary 197 YX6_layRests 2 6 := ⟨gX6_adversary_X6_layRests, oX6_layRests, uX6_layRests, ⟨rfl, rfl, by decide, by decide⟩, ⟨_, rfl, rfl⟩⟩
theorem kX6_adversary_200 : rp_cv YX6_adversary 200 YX6_recoveredBy 1 6 := ⟨gX6_adversary_X6_recoveredBy, oX6_recoveredBy, uX6_recoveredBy, ⟨rfl, rfl, by decide, by decide⟩, ⟨_, rfl, rfl⟩⟩
theorem kX6_adversary_132 : rp_cv YX6_adversary 132 YX6_sets 0 6 := ⟨gX6_adversary_X6_sets, oX6_sets, uX6_sets, ⟨rfl, rfl, by decide, by decide⟩, ⟨_, rfl, rfl⟩⟩
theorem kX6_adversary_155 : rp_cs YX6_adversary 155 YX6_sizeOf 1 := ⟨gX6_adversary_X6_sizeOf, oX6_sizeOf, uX6_sizeOf, ⟨rfl, rfl, by decide, by decide⟩⟩
theorem fX6_adversary_7 : rp_fl YX6_adversary 7 6 0 := ⟨(RX6, TX6, 21), rfl, by decide, rfl, by decide +kernel, rp_inc (by decide +kernel)⟩
theorem fX6_undo_57 : rp_fl YX6_undo 57 6 2 := ⟨(RX6, TX6, 21), rfl, by decide, rfl, by decide +kernel, rp_inc (by decide +kernel)⟩
theorem pX6_undo_57 : rp_pl YX6_undo 57 6 2 .int := ⟨(RX6, TX6, 21), tyX6, rfl, by decide, rfl, by decide +kernel, rp_inc (by decide +kernel), tyX6_ok, nmX6, rfl, by decide +kernel⟩
theorem fX6_undo_7 : rp_fl YX6_undo 7 6 0 := ⟨(RX6, TX6, 21), rfl, by decide, rfl, by decide +kernel, rp_inc (by decide +kernel)⟩
theorem fX6_undo_13 : rp_fl YX6_undo 13 6 1 := ⟨(RX6, TX6, 21), rfl, by decide, rfl, by decide +kernel, rp_inc (by decide +kernel)⟩
theorem fX6_pairs_7 : rp_fl YX6_pairs 7 6 0 := ⟨(RX6, TX6, 21), rfl, by decide, rfl, by decide +kernel, rp_inc (by decide +kernel)⟩
theorem kX6_pairs_155 : rp_cs YX6_pairs 155 YX6_sizeOf 1 := ⟨gX6_pairs_X6_sizeOf, oX6_sizeOf, uX6_sizeOf, ⟨rfl, rfl, by decide, by decide⟩⟩
theorem fX6_count_7 : rp_fl YX6_count 7 6 0 := ⟨(RX6, TX6, 21), rfl, by decide, rfl, by decide +kernel, rp_inc (by decide +kernel)⟩
theorem kX6_count_203 : rp_cv YX6_count 203 YX6_pairs 1 6 := ⟨gX6_count_X6_pairs, oX6_pairs, uX6_pairs, ⟨rfl, rfl, by decide, by decide⟩, ⟨_, rfl, rfl⟩⟩
theorem fX6_count_92 : rp_fl YX6_count 92 6 4 := ⟨(RX6, TX6, 21), rfl, by decide, rfl, by decide +kernel, rp_inc (by decide +kernel)⟩
theorem fX6_count_57 : rp_fl YX6_count 57 6 2 := ⟨(RX6, TX6, 21), rfl, by decide, rfl, by decide +kernel, rp_inc (by decide +kernel)⟩
