/-! the pure machine's methods by name: what a call is, block by block (by program) -/
noncomputable abbrev zE (L : Nat) (xs : Nat → Int32) (d : Nat) (M : pm_M) (pc : Nat) (ls : pm_L) (st : List Value) (σ : pm_H) : Option pm_R := pm_ev (pm_call L xs d) (pm_od L xs) M pc ls st σ
theorem pm_call_of {L : Nat} {xs : Nat → Int32} {d mid : Nat} {av : List Value} {σ : pm_H} {M : pm_M} {ls : pm_L} (kind own maxL : Nat) (h1 : (pm_nth pm_mt mid).map (fun r => (r.2.2.2.2.1, r.2.2.2.2.2.2.1, r.2.2.1)) = some (kind, own, maxL)) (h2 : pm_nth pm_ms mid = some M) (h3 : pm_rc kind own av σ = true) (h4 : (Nat.ble (pm_spr av).length maxL && pm_lok M.2.2.1 0 (pm_pad maxL (pm_spr av))) = true) (h5 : pm_pad maxL (pm_spr av) = ls) : pm_call L xs (d + 1) mid av σ = zE L xs d M 0 ls [] σ := by
  cases hr : pm_nth pm_mt mid with
  | none => rw [hr] at h1; cases h1
  | some row =>
    rw [hr] at h1
    simp only [Option.map_some, Option.some.injEq, Prod.mk.injEq] at h1
    obtain ⟨rfl, rfl, rfl⟩ := h1
    unfold pm_call
    rw [hr, h2]
    dsimp only
    rw [h3, h4, h5]
    rfl
theorem pm_rcI {own r0 : Nat} {As : List Value} {σ : pm_H} {fs : List Value} (h : σ[r0]? = some (.inr (own, fs))) (h9 : Nat.blt own 9 = true) : pm_rc 1 own (.ref r0 :: As) σ = true := by
  show (match σ[r0]? with
    | some (.inr (c, _)) => Nat.beq c own && Nat.blt own 9
    | _ => false) = true
  rw [h]
  dsimp only
  rw [show Nat.beq own own = true from Nat.beq_refl own, h9]
  rfl
abbrev m_Eggs_init : Nat := 0
abbrev m_Rows_init : Nat := 1
abbrev m_Tape_init : Nat := 2
abbrev m_Shop_init : Nat := 3
abbrev m_Acts_init : Nat := 4
abbrev m_Ways_init : Nat := 5
abbrev m_BeltOrder_init : Nat := 6
abbrev m_Asks_init : Nat := 7
abbrev m_Eggs_row : Nat := 8
abbrev m_Rows_isRow : Nat := 9
abbrev m_Rows_isLane : Nat := 10
abbrev m_Eggs_found : Nat := 11
abbrev m_Rows_make : Nat := 12
abbrev m_Eggs_fine : Nat := 13
abbrev m_Eggs_set : Nat := 14
abbrev m_Rows_findingAt : Nat := 15
abbrev m_Rows_isMissing : Nat := 16
abbrev m_Rows_reaches : Nat := 17
abbrev m_Rows_put : Nat := 18
abbrev m_Eggs_copy : Nat := 19
abbrev m_Rows_areOfOneLane : Nat := 20
abbrev m_Rows_carry : Nat := 21
abbrev m_Eggs_drop : Nat := 22
abbrev m_Rows_lose : Nat := 23
abbrev m_Eggs_feed : Nat := 24
abbrev m_Tape_append : Nat := 25
abbrev m_Eggs_shop : Nat := 26
abbrev m_Tape_read : Nat := 27
abbrev m_Tape_readLaw : Nat := 28
abbrev m_Tape_readSign : Nat := 29
abbrev m_Tape_readNumber : Nat := 30
abbrev m_Shop_open : Nat := 31
abbrev m_Tape_readThing : Nat := 32
abbrev m_Tape_readSort : Nat := 33
abbrev m_Kinds_byLetter : Nat := 34
abbrev m_Shop_add : Nat := 35
abbrev m_Shop_layAllOnBelt : Nat := 36
abbrev m_Shop_become : Nat := 37
abbrev m_Acts_forget : Nat := 38
abbrev m_Eggs_fault : Nat := 39
abbrev m_Eggs_undo : Nat := 40
abbrev m_Acts_takeBack : Nat := 41
abbrev m_Shop_swapFirstTwo : Nat := 42
abbrev m_Shop_countAt : Nat := 43
abbrev m_Shop_bitsAt : Nat := 44
abbrev m_Integer_bitCount : Nat := 45
abbrev m_Shop_thingAt : Nat := 46
abbrev m_Shop_put : Nat := 47
abbrev m_Eggs_beeps : Nat := 48
abbrev m_Shop_stands : Nat := 49
abbrev m_Shop_topOf : Nat := 50
abbrev m_Acts_keep : Nat := 51
abbrev m_Shop_beepOnce : Nat := 52
abbrev m_Eggs_pack : Nat := 53
abbrev m_Shop_hasBag : Nat := 54
abbrev m_Eggs_moveTop : Nat := 55
abbrev m_Eggs_move : Nat := 56
abbrev m_Shop_lay : Nat := 57
abbrev m_Shop_overladenBits : Nat := 58
abbrev m_Shop_loadOn : Nat := 59
abbrev m_Shop_bitsAbove : Nat := 60
abbrev m_Kinds_press : Nat := 61
abbrev m_Shop_bearsOf : Nat := 62
abbrev m_Kinds_bears : Nat := 63
abbrev m_Eggs_layBy : Nat := 64
abbrev m_Eggs_putIn : Nat := 65
abbrev m_Shop_hasThing : Nat := 66
abbrev m_Eggs_takeOut : Nat := 67
abbrev m_Eggs_swap : Nat := 68
abbrev m_Eggs_thing : Nat := 69
abbrev m_Shop_pressOf : Nat := 70
abbrev m_Shop_isCrushed : Nat := 71
abbrev m_Shop_isWarm : Nat := 72
abbrev m_Eggs_bag : Nat := 73
abbrev m_Shop_weighs : Nat := 74
abbrev m_Shop_isTorn : Nat := 75
abbrev m_Eggs_stand : Nat := 76
abbrev m_Shop_warmBits : Nat := 77
abbrev m_Eggs_least : Nat := 78
abbrev m_Ways_seekLeast : Nat := 79
abbrev m_Ways_begin : Nat := 80
abbrev m_Ways_queueFromTop : Nat := 81
abbrev m_Ways_enqueue : Nat := 82
abbrev m_Ways_queueLaidBy : Nat := 83
abbrev m_Ways_packAllBut : Nat := 84
abbrev m_Shop_heaviest : Nat := 85
abbrev m_Ways_goOn : Nat := 86
abbrev m_Ways_isBetter : Nat := 87
abbrev m_Ways_keep : Nat := 88
abbrev m_Ways_bagsToTry : Nat := 89
abbrev m_Ways_lay : Nat := 90
abbrev m_Ways_lift : Nat := 91
abbrev m_Ways_bagFor : Nat := 92
abbrev m_Eggs_torn : Nat := 93
abbrev m_Ways_seekTorn : Nat := 94
abbrev m_Ways_fewestTorn : Nat := 95
abbrev m_Ways_tornNow : Nat := 96
abbrev m_Eggs_give : Nat := 97
abbrev m_Ways_seekGive : Nat := 98
abbrev m_Ways_tryWithout : Nat := 99
abbrev m_Eggs_order : Nat := 100
abbrev m_BeltOrder_seek : Nat := 101
abbrev m_BeltOrder_weigh : Nat := 102
abbrev m_BeltOrder_fewestFrom : Nat := 103
abbrev m_BeltOrder_crushedBy : Nat := 104
abbrev m_BeltOrder_thingAt : Nat := 105
abbrev m_BeltOrder_firstOf : Nat := 106
abbrev m_Eggs_top : Nat := 107
abbrev m_Shop_harmlessOn : Nat := 108
abbrev m_Shop_leastSpareAt : Nat := 109
abbrev m_Eggs_spare : Nat := 110
abbrev m_Eggs_beside : Nat := 111
abbrev m_Shop_bitsBelow : Nat := 112
abbrev m_Eggs_even : Nat := 113
abbrev m_Shop_lightest : Nat := 114
abbrev m_Eggs_astray : Nat := 115
abbrev m_Clues_missing : Nat := 116
abbrev m_Clues_isWeighed : Nat := 117
abbrev m_Eggs_heavy : Nat := 118
abbrev m_Clues_weights : Nat := 119
abbrev m_Eggs_who : Nat := 120
abbrev m_Clues_softs : Nat := 121
abbrev m_Clues_isBroken : Nat := 122
abbrev m_Clues_kinds : Nat := 123
abbrev m_Eggs_colds : Nat := 124
abbrev m_Shop_coldPairs : Nat := 125
abbrev m_Shop_isColdPair : Nat := 126
abbrev m_Shop_firstColdPair : Nat := 127
abbrev m_Eggs_tears : Nat := 128
abbrev m_Odds_part : Nat := 129
abbrev m_Odds_casesOf : Nat := 130
abbrev m_Odds_comeHome : Nat := 131
abbrev m_Odds_casesIn : Nat := 132
abbrev m_Odds_tearingCases : Nat := 133
abbrev m_Odds_allCases : Nat := 134
abbrev m_Eggs_drawn : Nat := 135
abbrev m_Shop_goTrip : Nat := 136
abbrev m_Shop_weighsInAll : Nat := 137
abbrev m_Eggs_image : Nat := 138
abbrev m_Eggs_restore : Nat := 139
abbrev m_Eggs_kind : Nat := 140
abbrev m_Eggs_as : Nat := 141
abbrev m_Kinds_isA : Nat := 142
abbrev m_Eggs_ask : Nat := 143
abbrev m_Asks_answer : Nat := 144
abbrev m_Asks_gives : Nat := 145
abbrev m_Asks_leave : Nat := 146
abbrev m_Eggs_trace : Nat := 147
abbrev m_Asks_traced : Nat := 148
abbrev m_Eggs_count : Nat := 149
abbrev m_Rows_present : Nat := 150
abbrev m_Eggs_status : Nat := 151
abbrev m_Model_init : Nat := 152
abbrev m_Model_row : Nat := 153
abbrev m_Model_isRow : Nat := 154
abbrev m_Model_in : Nat := 155
abbrev m_Model_finding : Nat := 156
abbrev m_Model_set : Nat := 157
abbrev m_Model_copy : Nat := 158
abbrev m_Model_drop : Nat := 159
abbrev m_Model_feed : Nat := 160
abbrev m_Model_fault : Nat := 161
abbrev m_Model_shop : Nat := 162
abbrev m_Model_begin : Nat := 163
abbrev m_Model_nextToken : Nat := 164
abbrev m_Model_isLetter : Nat := 165
abbrev m_Model_must : Nat := 166
abbrev m_Model_bad : Nat := 167
abbrev m_Model_number : Nat := 168
abbrev m_Model_mustSign : Nat := 169
abbrev m_Model_isSort : Nat := 170
abbrev m_Model_kindBy : Nat := 171
abbrev m_Model_readThing : Nat := 172
abbrev m_Model_failed : Nat := 173
abbrev m_Model_beeps : Nat := 174
abbrev m_Model_isThere : Nat := 175
abbrev m_Model_keep : Nat := 176
abbrev m_Model_beep : Nat := 177
abbrev m_Model_firstOf : Nat := 178
abbrev m_Model_of : Nat := 179
abbrev m_Model_comes : Nat := 180
abbrev m_Model_things : Nat := 181
abbrev m_Model_bits : Nat := 182
abbrev m_Model_pack : Nat := 183
abbrev m_Model_isBag : Nat := 184
abbrev m_Model_topOf : Nat := 185
abbrev m_Model_packs : Nat := 186
abbrev m_Model_crush : Nat := 187
abbrev m_Model_loadOf : Nat := 188
abbrev m_Model_isAbove : Nat := 189
abbrev m_Model_presses : Nat := 190
abbrev m_Model_bears : Nat := 191
abbrev m_Model_layBy : Nat := 192
abbrev m_Model_putIn : Nat := 193
abbrev m_Model_isThing : Nat := 194
abbrev m_Model_takeOut : Nat := 195
abbrev m_Model_swap : Nat := 196
abbrev m_Model_undo : Nat := 197
abbrev m_Model_thing : Nat := 198
abbrev m_Model_isWarm : Nat := 199
abbrev m_Model_bag : Nat := 200
abbrev m_Model_weighs : Nat := 201
abbrev m_Model_isTorn : Nat := 202
abbrev m_Model_stand : Nat := 203
abbrev m_Model_broken : Nat := 204
abbrev m_Model_least : Nat := 205
abbrev m_Model_seekLeast : Nat := 206
abbrev m_Model_lineUp : Nat := 207
abbrev m_Model_waysOf : Nat := 208
abbrev m_Model_layWay : Nat := 209
abbrev m_Model_layThen : Nat := 210
abbrev m_Model_bagBy : Nat := 211
abbrev m_Model_heaviest : Nat := 212
abbrev m_Model_torn : Nat := 213
abbrev m_Model_give : Nat := 214
abbrev m_Model_order : Nat := 215
abbrev m_Model_nextRow : Nat := 216
abbrev m_Model_top : Nat := 217
abbrev m_Model_spare : Nat := 218
abbrev m_Model_beside : Nat := 219
abbrev m_Model_even : Nat := 220
abbrev m_Model_astray : Nat := 221
abbrev m_Model_rowFound : Nat := 222
abbrev m_Model_weighSo : Nat := 223
abbrev m_Model_heavy : Nat := 224
abbrev m_Model_who : Nat := 225
abbrev m_Model_brokenSo : Nat := 226
abbrev m_Model_colds : Nat := 227
abbrev m_Model_tears : Nat := 228
abbrev m_Model_drawn : Nat := 229
abbrev m_Model_allWeigh : Nat := 230
abbrev m_Model_image : Nat := 231
abbrev m_Model_restore : Nat := 232
abbrev m_Model_kind : Nat := 233
abbrev m_Model_as : Nat := 234
abbrev m_Model_isOf : Nat := 235
abbrev m_Model_ask : Nat := 236
abbrev m_Model_sizeOf : Nat := 237
abbrev m_Model_softSize : Nat := 238
abbrev m_Model_began : Nat := 239
abbrev m_Model_plainSize : Nat := 240
abbrev m_Model_markOf : Nat := 241
abbrev m_Model_trace : Nat := 242
abbrev m_Model_count : Nat := 243
abbrev m_Model_status : Nat := 244
theorem C_Eggs_init (L : Nat) (xs : Nat → Int32) (d : Nat) (σ : pm_H) (r0 : Nat) : pm_call L xs (d + 1) m_Eggs_init [.ref r0] σ = zE L xs d K_Eggs_init 0 [some (.ref r0)] [] σ := pm_call_of 2 7 1 rfl rfl rfl rfl rfl
theorem C_Rows_init (L : Nat) (xs : Nat → Int32) (d : Nat) (σ : pm_H) (r0 : Nat) : pm_call L xs (d + 1) m_Rows_init [.ref r0] σ = zE L xs d K_Rows_init 0 [some (.ref r0), none] [] σ := pm_call_of 2 3 2 rfl rfl rfl rfl rfl
theorem C_Tape_init (L : Nat) (xs : Nat → Int32) (d : Nat) (σ : pm_H) (r0 : Nat) : pm_call L xs (d + 1) m_Tape_init [.ref r0] σ = zE L xs d K_Tape_init 0 [some (.ref r0)] [] σ := pm_call_of 2 5 1 rfl rfl rfl rfl rfl
theorem C_Shop_init (L : Nat) (xs : Nat → Int32) (d : Nat) (σ : pm_H) (r0 : Nat) : pm_call L xs (d + 1) m_Shop_init [.ref r0] σ = zE L xs d K_Shop_init 0 [some (.ref r0)] [] σ := pm_call_of 2 4 1 rfl rfl rfl rfl rfl
theorem C_Acts_init (L : Nat) (xs : Nat → Int32) (d : Nat) (σ : pm_H) (r0 : Nat) : pm_call L xs (d + 1) m_Acts_init [.ref r0] σ = zE L xs d K_Acts_init 0 [some (.ref r0)] [] σ := pm_call_of 2 0 1 rfl rfl rfl rfl rfl
theorem C_Ways_init (L : Nat) (xs : Nat → Int32) (d : Nat) (σ : pm_H) (r0 : Nat) : pm_call L xs (d + 1) m_Ways_init [.ref r0] σ = zE L xs d K_Ways_init 0 [some (.ref r0)] [] σ := pm_call_of 2 6 1 rfl rfl rfl rfl rfl
theorem C_BeltOrder_init (L : Nat) (xs : Nat → Int32) (d : Nat) (σ : pm_H) (r0 : Nat) : pm_call L xs (d + 1) m_BeltOrder_init [.ref r0] σ = zE L xs d K_BeltOrder_init 0 [some (.ref r0)] [] σ := pm_call_of 2 2 1 rfl rfl rfl rfl rfl
theorem C_Asks_init (L : Nat) (xs : Nat → Int32) (d : Nat) (σ : pm_H) (r0 : Nat) : pm_call L xs (d + 1) m_Asks_init [.ref r0] σ = zE L xs d K_Asks_init 0 [some (.ref r0)] [] σ := pm_call_of 2 1 1 rfl rfl rfl rfl rfl
theorem C_Eggs_row (L : Nat) (xs : Nat → Int32) (d : Nat) (σ : pm_H) (r0 : Nat) (i1 : Int32) (i2 : Int32) (i3 : Int32) {fs : List Value} (h : σ[r0]? = some (.inr (7, fs))) : pm_call L xs (d + 1) m_Eggs_row [.ref r0, .int i1, .int i2, .int i3] σ = zE L xs d K_Eggs_row 0 [some (.ref r0), some (.int i1), some (.int i2), some (.int i3)] [] σ := pm_call_of 1 7 4 rfl rfl (pm_rcI h rfl) rfl rfl
theorem C_Rows_isRow (L : Nat) (xs : Nat → Int32) (d : Nat) (σ : pm_H) (i0 : Int32) : pm_call L xs (d + 1) m_Rows_isRow [.int i0] σ = zE L xs d K_Rows_isRow 0 [some (.int i0)] [] σ := pm_call_of 0 3 1 rfl rfl rfl rfl rfl
theorem C_Rows_isLane (L : Nat) (xs : Nat → Int32) (d : Nat) (σ : pm_H) (i0 : Int32) : pm_call L xs (d + 1) m_Rows_isLane [.int i0] σ = zE L xs d K_Rows_isLane 0 [some (.int i0)] [] σ := pm_call_of 0 3 1 rfl rfl rfl rfl rfl
theorem C_Eggs_found (L : Nat) (xs : Nat → Int32) (d : Nat) (σ : pm_H) (r0 : Nat) (i1 : Int32) {fs : List Value} (h : σ[r0]? = some (.inr (7, fs))) : pm_call L xs (d + 1) m_Eggs_found [.ref r0, .int i1] σ = zE L xs d K_Eggs_found 0 [some (.ref r0), some (.int i1)] [] σ := pm_call_of 1 7 2 rfl rfl (pm_rcI h rfl) rfl rfl
theorem C_Rows_make (L : Nat) (xs : Nat → Int32) (d : Nat) (σ : pm_H) (r0 : Nat) (i1 : Int32) (i2 : Int32) (i3 : Int32) {fs : List Value} (h : σ[r0]? = some (.inr (3, fs))) : pm_call L xs (d + 1) m_Rows_make [.ref r0, .int i1, .int i2, .int i3] σ = zE L xs d K_Rows_make 0 [some (.ref r0), some (.int i1), some (.int i2), some (.int i3), none] [] σ := pm_call_of 1 3 5 rfl rfl (pm_rcI h rfl) rfl rfl
theorem C_Eggs_fine (L : Nat) (xs : Nat → Int32) (d : Nat) (σ : pm_H) (r0 : Nat) (i1 : Int32) {fs : List Value} (h : σ[r0]? = some (.inr (7, fs))) : pm_call L xs (d + 1) m_Eggs_fine [.ref r0, .int i1] σ = zE L xs d K_Eggs_fine 0 [some (.ref r0), some (.int i1)] [] σ := pm_call_of 1 7 2 rfl rfl (pm_rcI h rfl) rfl rfl
theorem C_Eggs_set (L : Nat) (xs : Nat → Int32) (d : Nat) (σ : pm_H) (r0 : Nat) (i1 : Int32) (i2 : Int32) (i3 : Int32) {fs : List Value} (h : σ[r0]? = some (.inr (7, fs))) : pm_call L xs (d + 1) m_Eggs_set [.ref r0, .int i1, .int i2, .int i3] σ = zE L xs d K_Eggs_set 0 [some (.ref r0), some (.int i1), some (.int i2), some (.int i3), none] [] σ := pm_call_of 1 7 5 rfl rfl (pm_rcI h rfl) rfl rfl
theorem C_Rows_findingAt (L : Nat) (xs : Nat → Int32) (d : Nat) (σ : pm_H) (r0 : Nat) (i1 : Int32) (i2 : Int32) (i3 : Int32) {fs : List Value} (h : σ[r0]? = some (.inr (3, fs))) : pm_call L xs (d + 1) m_Rows_findingAt [.ref r0, .int i1, .int i2, .int i3] σ = zE L xs d K_Rows_findingAt 0 [some (.ref r0), some (.int i1), some (.int i2), some (.int i3)] [] σ := pm_call_of 1 3 4 rfl rfl (pm_rcI h rfl) rfl rfl
theorem C_Rows_isMissing (L : Nat) (xs : Nat → Int32) (d : Nat) (σ : pm_H) (r0 : Nat) (i1 : Int32) {fs : List Value} (h : σ[r0]? = some (.inr (3, fs))) : pm_call L xs (d + 1) m_Rows_isMissing [.ref r0, .int i1] σ = zE L xs d K_Rows_isMissing 0 [some (.ref r0), some (.int i1)] [] σ := pm_call_of 1 3 2 rfl rfl (pm_rcI h rfl) rfl rfl
theorem C_Rows_reaches (L : Nat) (xs : Nat → Int32) (d : Nat) (σ : pm_H) (r0 : Nat) (i1 : Int32) (i2 : Int32) (i3 : Int32) {fs : List Value} (h : σ[r0]? = some (.inr (3, fs))) : pm_call L xs (d + 1) m_Rows_reaches [.ref r0, .int i1, .int i2, .int i3] σ = zE L xs d K_Rows_reaches 0 [some (.ref r0), some (.int i1), some (.int i2), some (.int i3)] [] σ := pm_call_of 1 3 4 rfl rfl (pm_rcI h rfl) rfl rfl
theorem C_Rows_put (L : Nat) (xs : Nat → Int32) (d : Nat) (σ : pm_H) (r0 : Nat) (i1 : Int32) (i2 : Int32) (i3 : Int32) {fs : List Value} (h : σ[r0]? = some (.inr (3, fs))) : pm_call L xs (d + 1) m_Rows_put [.ref r0, .int i1, .int i2, .int i3] σ = zE L xs d K_Rows_put 0 [some (.ref r0), some (.int i1), some (.int i2), some (.int i3), none] [] σ := pm_call_of 1 3 5 rfl rfl (pm_rcI h rfl) rfl rfl
theorem C_Eggs_copy (L : Nat) (xs : Nat → Int32) (d : Nat) (σ : pm_H) (r0 : Nat) (i1 : Int32) (i2 : Int32) (i3 : Int32) (i4 : Int32) (i5 : Int32) {fs : List Value} (h : σ[r0]? = some (.inr (7, fs))) : pm_call L xs (d + 1) m_Eggs_copy [.ref r0, .int i1, .int i2, .int i3, .int i4, .int i5] σ = zE L xs d K_Eggs_copy 0 [some (.ref r0), some (.int i1), some (.int i2), some (.int i3), some (.int i4), some (.int i5)] [] σ := pm_call_of 1 7 6 rfl rfl (pm_rcI h rfl) rfl rfl
theorem C_Rows_areOfOneLane (L : Nat) (xs : Nat → Int32) (d : Nat) (σ : pm_H) (r0 : Nat) (i1 : Int32) (i2 : Int32) {fs : List Value} (h : σ[r0]? = some (.inr (3, fs))) : pm_call L xs (d + 1) m_Rows_areOfOneLane [.ref r0, .int i1, .int i2] σ = zE L xs d K_Rows_areOfOneLane 0 [some (.ref r0), some (.int i1), some (.int i2)] [] σ := pm_call_of 1 3 3 rfl rfl (pm_rcI h rfl) rfl rfl
theorem C_Rows_carry (L : Nat) (xs : Nat → Int32) (d : Nat) (σ : pm_H) (r0 : Nat) (i1 : Int32) (i2 : Int32) (i3 : Int32) (i4 : Int32) (i5 : Int32) {fs : List Value} (h : σ[r0]? = some (.inr (3, fs))) : pm_call L xs (d + 1) m_Rows_carry [.ref r0, .int i1, .int i2, .int i3, .int i4, .int i5] σ = zE L xs d K_Rows_carry 0 [some (.ref r0), some (.int i1), some (.int i2), some (.int i3), some (.int i4), some (.int i5)] [] σ := pm_call_of 1 3 6 rfl rfl (pm_rcI h rfl) rfl rfl
theorem C_Eggs_drop (L : Nat) (xs : Nat → Int32) (d : Nat) (σ : pm_H) (r0 : Nat) (i1 : Int32) {fs : List Value} (h : σ[r0]? = some (.inr (7, fs))) : pm_call L xs (d + 1) m_Eggs_drop [.ref r0, .int i1] σ = zE L xs d K_Eggs_drop 0 [some (.ref r0), some (.int i1)] [] σ := pm_call_of 1 7 2 rfl rfl (pm_rcI h rfl) rfl rfl
theorem C_Rows_lose (L : Nat) (xs : Nat → Int32) (d : Nat) (σ : pm_H) (r0 : Nat) (i1 : Int32) {fs : List Value} (h : σ[r0]? = some (.inr (3, fs))) : pm_call L xs (d + 1) m_Rows_lose [.ref r0, .int i1] σ = zE L xs d K_Rows_lose 0 [some (.ref r0), some (.int i1), none] [] σ := pm_call_of 1 3 3 rfl rfl (pm_rcI h rfl) rfl rfl
theorem C_Eggs_feed (L : Nat) (xs : Nat → Int32) (d : Nat) (σ : pm_H) (r0 : Nat) (i1 : Int32) {fs : List Value} (h : σ[r0]? = some (.inr (7, fs))) : pm_call L xs (d + 1) m_Eggs_feed [.ref r0, .int i1] σ = zE L xs d K_Eggs_feed 0 [some (.ref r0), some (.int i1)] [] σ := pm_call_of 1 7 2 rfl rfl (pm_rcI h rfl) rfl rfl
theorem C_Tape_append (L : Nat) (xs : Nat → Int32) (d : Nat) (σ : pm_H) (r0 : Nat) (i1 : Int32) {fs : List Value} (h : σ[r0]? = some (.inr (5, fs))) : pm_call L xs (d + 1) m_Tape_append [.ref r0, .int i1] σ = zE L xs d K_Tape_append 0 [some (.ref r0), some (.int i1)] [] σ := pm_call_of 1 5 2 rfl rfl (pm_rcI h rfl) rfl rfl
theorem C_Eggs_shop (L : Nat) (xs : Nat → Int32) (d : Nat) (σ : pm_H) (r0 : Nat) {fs : List Value} (h : σ[r0]? = some (.inr (7, fs))) : pm_call L xs (d + 1) m_Eggs_shop [.ref r0] σ = zE L xs d K_Eggs_shop 0 [some (.ref r0), none] [] σ := pm_call_of 1 7 2 rfl rfl (pm_rcI h rfl) rfl rfl
theorem C_Tape_read (L : Nat) (xs : Nat → Int32) (d : Nat) (σ : pm_H) (r0 : Nat) (r1 : Nat) {fs : List Value} (h : σ[r0]? = some (.inr (5, fs))) : pm_call L xs (d + 1) m_Tape_read [.ref r0, .ref r1] σ = zE L xs d K_Tape_read 0 [some (.ref r0), some (.ref r1), none] [] σ := pm_call_of 1 5 3 rfl rfl (pm_rcI h rfl) rfl rfl
theorem C_Tape_readLaw (L : Nat) (xs : Nat → Int32) (d : Nat) (σ : pm_H) (r0 : Nat) (r1 : Nat) {fs : List Value} (h : σ[r0]? = some (.inr (5, fs))) : pm_call L xs (d + 1) m_Tape_readLaw [.ref r0, .ref r1] σ = zE L xs d K_Tape_readLaw 0 [some (.ref r0), some (.ref r1), none, none, none] [] σ := pm_call_of 1 5 5 rfl rfl (pm_rcI h rfl) rfl rfl
theorem C_Tape_readSign (L : Nat) (xs : Nat → Int32) (d : Nat) (σ : pm_H) (r0 : Nat) (i1 : Int32) {fs : List Value} (h : σ[r0]? = some (.inr (5, fs))) : pm_call L xs (d + 1) m_Tape_readSign [.ref r0, .int i1] σ = zE L xs d K_Tape_readSign 0 [some (.ref r0), some (.int i1)] [] σ := pm_call_of 1 5 2 rfl rfl (pm_rcI h rfl) rfl rfl
theorem C_Tape_readNumber (L : Nat) (xs : Nat → Int32) (d : Nat) (σ : pm_H) (r0 : Nat) (i1 : Int32) (i2 : Int32) {fs : List Value} (h : σ[r0]? = some (.inr (5, fs))) : pm_call L xs (d + 1) m_Tape_readNumber [.ref r0, .int i1, .int i2] σ = zE L xs d K_Tape_readNumber 0 [some (.ref r0), some (.int i1), some (.int i2), none, none, none] [] σ := pm_call_of 1 5 6 rfl rfl (pm_rcI h rfl) rfl rfl
theorem C_Shop_open (L : Nat) (xs : Nat → Int32) (d : Nat) (σ : pm_H) (r0 : Nat) (i1 : Int32) (i2 : Int32) (i3 : Int32) {fs : List Value} (h : σ[r0]? = some (.inr (4, fs))) : pm_call L xs (d + 1) m_Shop_open [.ref r0, .int i1, .int i2, .int i3] σ = zE L xs d K_Shop_open 0 [some (.ref r0), some (.int i1), some (.int i2), some (.int i3)] [] σ := pm_call_of 1 4 4 rfl rfl (pm_rcI h rfl) rfl rfl
theorem C_Tape_readThing (L : Nat) (xs : Nat → Int32) (d : Nat) (σ : pm_H) (r0 : Nat) (r1 : Nat) {fs : List Value} (h : σ[r0]? = some (.inr (5, fs))) : pm_call L xs (d + 1) m_Tape_readThing [.ref r0, .ref r1] σ = zE L xs d K_Tape_readThing 0 [some (.ref r0), some (.ref r1), none, none, none] [] σ := pm_call_of 1 5 5 rfl rfl (pm_rcI h rfl) rfl rfl
theorem C_Tape_readSort (L : Nat) (xs : Nat → Int32) (d : Nat) (σ : pm_H) (r0 : Nat) (i1 : Int32) {fs : List Value} (h : σ[r0]? = some (.inr (5, fs))) : pm_call L xs (d + 1) m_Tape_readSort [.ref r0, .int i1] σ = zE L xs d K_Tape_readSort 0 [some (.ref r0), some (.int i1), none] [] σ := pm_call_of 1 5 3 rfl rfl (pm_rcI h rfl) rfl rfl
theorem C_Kinds_byLetter (L : Nat) (xs : Nat → Int32) (d : Nat) (σ : pm_H) (i0 : Int32) : pm_call L xs (d + 1) m_Kinds_byLetter [.int i0] σ = zE L xs d K_Kinds_byLetter 0 [some (.int i0)] [] σ := pm_call_of 0 10 1 rfl rfl rfl rfl rfl
theorem C_Shop_add (L : Nat) (xs : Nat → Int32) (d : Nat) (σ : pm_H) (r0 : Nat) (i1 : Int32) (i2 : Int32) (i3 : Int32) {fs : List Value} (h : σ[r0]? = some (.inr (4, fs))) : pm_call L xs (d + 1) m_Shop_add [.ref r0, .int i1, .int i2, .int i3] σ = zE L xs d K_Shop_add 0 [some (.ref r0), some (.int i1), some (.int i2), some (.int i3)] [] σ := pm_call_of 1 4 4 rfl rfl (pm_rcI h rfl) rfl rfl
theorem C_Shop_layAllOnBelt (L : Nat) (xs : Nat → Int32) (d : Nat) (σ : pm_H) (r0 : Nat) {fs : List Value} (h : σ[r0]? = some (.inr (4, fs))) : pm_call L xs (d + 1) m_Shop_layAllOnBelt [.ref r0] σ = zE L xs d K_Shop_layAllOnBelt 0 [some (.ref r0), none] [] σ := pm_call_of 1 4 2 rfl rfl (pm_rcI h rfl) rfl rfl
theorem C_Shop_become (L : Nat) (xs : Nat → Int32) (d : Nat) (σ : pm_H) (r0 : Nat) (r1 : Nat) {fs : List Value} (h : σ[r0]? = some (.inr (4, fs))) : pm_call L xs (d + 1) m_Shop_become [.ref r0, .ref r1] σ = zE L xs d K_Shop_become 0 [some (.ref r0), some (.ref r1), none] [] σ := pm_call_of 1 4 3 rfl rfl (pm_rcI h rfl) rfl rfl
theorem C_Acts_forget (L : Nat) (xs : Nat → Int32) (d : Nat) (σ : pm_H) (r0 : Nat) {fs : List Value} (h : σ[r0]? = some (.inr (0, fs))) : pm_call L xs (d + 1) m_Acts_forget [.ref r0] σ = zE L xs d K_Acts_forget 0 [some (.ref r0)] [] σ := pm_call_of 1 0 1 rfl rfl (pm_rcI h rfl) rfl rfl
theorem C_Eggs_fault (L : Nat) (xs : Nat → Int32) (d : Nat) (σ : pm_H) (r0 : Nat) {fs : List Value} (h : σ[r0]? = some (.inr (7, fs))) : pm_call L xs (d + 1) m_Eggs_fault [.ref r0] σ = zE L xs d K_Eggs_fault 0 [some (.ref r0)] [] σ := pm_call_of 1 7 1 rfl rfl (pm_rcI h rfl) rfl rfl
theorem C_Eggs_undo (L : Nat) (xs : Nat → Int32) (d : Nat) (σ : pm_H) (r0 : Nat) {fs : List Value} (h : σ[r0]? = some (.inr (7, fs))) : pm_call L xs (d + 1) m_Eggs_undo [.ref r0] σ = zE L xs d K_Eggs_undo 0 [some (.ref r0)] [] σ := pm_call_of 1 7 1 rfl rfl (pm_rcI h rfl) rfl rfl
theorem C_Acts_takeBack (L : Nat) (xs : Nat → Int32) (d : Nat) (σ : pm_H) (r0 : Nat) (r1 : Nat) {fs : List Value} (h : σ[r0]? = some (.inr (0, fs))) : pm_call L xs (d + 1) m_Acts_takeBack [.ref r0, .ref r1] σ = zE L xs d K_Acts_takeBack 0 [some (.ref r0), some (.ref r1), none] [] σ := pm_call_of 1 0 3 rfl rfl (pm_rcI h rfl) rfl rfl
theorem C_Shop_swapFirstTwo (L : Nat) (xs : Nat → Int32) (d : Nat) (σ : pm_H) (r0 : Nat) {fs : List Value} (h : σ[r0]? = some (.inr (4, fs))) : pm_call L xs (d + 1) m_Shop_swapFirstTwo [.ref r0] σ = zE L xs d K_Shop_swapFirstTwo 0 [some (.ref r0), none, none, none] [] σ := pm_call_of 1 4 4 rfl rfl (pm_rcI h rfl) rfl rfl
theorem C_Shop_countAt (L : Nat) (xs : Nat → Int32) (d : Nat) (σ : pm_H) (r0 : Nat) (i1 : Int32) {fs : List Value} (h : σ[r0]? = some (.inr (4, fs))) : pm_call L xs (d + 1) m_Shop_countAt [.ref r0, .int i1] σ = zE L xs d K_Shop_countAt 0 [some (.ref r0), some (.int i1)] [] σ := pm_call_of 1 4 2 rfl rfl (pm_rcI h rfl) rfl rfl
theorem C_Shop_bitsAt (L : Nat) (xs : Nat → Int32) (d : Nat) (σ : pm_H) (r0 : Nat) (i1 : Int32) {fs : List Value} (h : σ[r0]? = some (.inr (4, fs))) : pm_call L xs (d + 1) m_Shop_bitsAt [.ref r0, .int i1] σ = zE L xs d K_Shop_bitsAt 0 [some (.ref r0), some (.int i1), none, none] [] σ := pm_call_of 1 4 4 rfl rfl (pm_rcI h rfl) rfl rfl
theorem C_Integer_bitCount (L : Nat) (xs : Nat → Int32) (d : Nat) (σ : pm_H) (i0 : Int32) : pm_call L xs (d + 1) m_Integer_bitCount [.int i0] σ = zE L xs d K_Integer_bitCount 0 [some (.int i0)] [] σ := pm_call_of 0 13 1 rfl rfl rfl rfl rfl
theorem C_Shop_thingAt (L : Nat) (xs : Nat → Int32) (d : Nat) (σ : pm_H) (r0 : Nat) (i1 : Int32) (i2 : Int32) {fs : List Value} (h : σ[r0]? = some (.inr (4, fs))) : pm_call L xs (d + 1) m_Shop_thingAt [.ref r0, .int i1, .int i2] σ = zE L xs d K_Shop_thingAt 0 [some (.ref r0), some (.int i1), some (.int i2), none] [] σ := pm_call_of 1 4 4 rfl rfl (pm_rcI h rfl) rfl rfl
theorem C_Shop_put (L : Nat) (xs : Nat → Int32) (d : Nat) (σ : pm_H) (r0 : Nat) (i1 : Int32) (i2 : Int32) {fs : List Value} (h : σ[r0]? = some (.inr (4, fs))) : pm_call L xs (d + 1) m_Shop_put [.ref r0, .int i1, .int i2] σ = zE L xs d K_Shop_put 0 [some (.ref r0), some (.int i1), some (.int i2)] [] σ := pm_call_of 1 4 3 rfl rfl (pm_rcI h rfl) rfl rfl
theorem C_Eggs_beeps (L : Nat) (xs : Nat → Int32) (d : Nat) (σ : pm_H) (r0 : Nat) (i1 : Int32) {fs : List Value} (h : σ[r0]? = some (.inr (7, fs))) : pm_call L xs (d + 1) m_Eggs_beeps [.ref r0, .int i1] σ = zE L xs d K_Eggs_beeps 0 [some (.ref r0), some (.int i1), none] [] σ := pm_call_of 1 7 3 rfl rfl (pm_rcI h rfl) rfl rfl
theorem C_Shop_stands (L : Nat) (xs : Nat → Int32) (d : Nat) (σ : pm_H) (r0 : Nat) {fs : List Value} (h : σ[r0]? = some (.inr (4, fs))) : pm_call L xs (d + 1) m_Shop_stands [.ref r0] σ = zE L xs d K_Shop_stands 0 [some (.ref r0)] [] σ := pm_call_of 1 4 1 rfl rfl (pm_rcI h rfl) rfl rfl
theorem C_Shop_topOf (L : Nat) (xs : Nat → Int32) (d : Nat) (σ : pm_H) (r0 : Nat) (i1 : Int32) {fs : List Value} (h : σ[r0]? = some (.inr (4, fs))) : pm_call L xs (d + 1) m_Shop_topOf [.ref r0, .int i1] σ = zE L xs d K_Shop_topOf 0 [some (.ref r0), some (.int i1)] [] σ := pm_call_of 1 4 2 rfl rfl (pm_rcI h rfl) rfl rfl
theorem C_Acts_keep (L : Nat) (xs : Nat → Int32) (d : Nat) (σ : pm_H) (r0 : Nat) (i1 : Int32) (i2 : Int32) (r3 : Nat) {fs : List Value} (h : σ[r0]? = some (.inr (0, fs))) : pm_call L xs (d + 1) m_Acts_keep [.ref r0, .int i1, .int i2, .ref r3] σ = zE L xs d K_Acts_keep 0 [some (.ref r0), some (.int i1), some (.int i2), some (.ref r3), none] [] σ := pm_call_of 1 0 5 rfl rfl (pm_rcI h rfl) rfl rfl
theorem C_Shop_beepOnce (L : Nat) (xs : Nat → Int32) (d : Nat) (σ : pm_H) (r0 : Nat) {fs : List Value} (h : σ[r0]? = some (.inr (4, fs))) : pm_call L xs (d + 1) m_Shop_beepOnce [.ref r0] σ = zE L xs d K_Shop_beepOnce 0 [some (.ref r0), none] [] σ := pm_call_of 1 4 2 rfl rfl (pm_rcI h rfl) rfl rfl
theorem C_Eggs_pack (L : Nat) (xs : Nat → Int32) (d : Nat) (σ : pm_H) (r0 : Nat) (i1 : Int32) {fs : List Value} (h : σ[r0]? = some (.inr (7, fs))) : pm_call L xs (d + 1) m_Eggs_pack [.ref r0, .int i1] σ = zE L xs d K_Eggs_pack 0 [some (.ref r0), some (.int i1)] [] σ := pm_call_of 1 7 2 rfl rfl (pm_rcI h rfl) rfl rfl
theorem C_Shop_hasBag (L : Nat) (xs : Nat → Int32) (d : Nat) (σ : pm_H) (r0 : Nat) (i1 : Int32) {fs : List Value} (h : σ[r0]? = some (.inr (4, fs))) : pm_call L xs (d + 1) m_Shop_hasBag [.ref r0, .int i1] σ = zE L xs d K_Shop_hasBag 0 [some (.ref r0), some (.int i1)] [] σ := pm_call_of 1 4 2 rfl rfl (pm_rcI h rfl) rfl rfl
theorem C_Eggs_moveTop (L : Nat) (xs : Nat → Int32) (d : Nat) (σ : pm_H) (r0 : Nat) (i1 : Int32) (i2 : Int32) {fs : List Value} (h : σ[r0]? = some (.inr (7, fs))) : pm_call L xs (d + 1) m_Eggs_moveTop [.ref r0, .int i1, .int i2] σ = zE L xs d K_Eggs_moveTop 0 [some (.ref r0), some (.int i1), some (.int i2), none] [] σ := pm_call_of 1 7 4 rfl rfl (pm_rcI h rfl) rfl rfl
theorem C_Eggs_move (L : Nat) (xs : Nat → Int32) (d : Nat) (σ : pm_H) (r0 : Nat) (i1 : Int32) (i2 : Int32) {fs : List Value} (h : σ[r0]? = some (.inr (7, fs))) : pm_call L xs (d + 1) m_Eggs_move [.ref r0, .int i1, .int i2] σ = zE L xs d K_Eggs_move 0 [some (.ref r0), some (.int i1), some (.int i2)] [] σ := pm_call_of 1 7 3 rfl rfl (pm_rcI h rfl) rfl rfl
theorem C_Shop_lay (L : Nat) (xs : Nat → Int32) (d : Nat) (σ : pm_H) (r0 : Nat) (i1 : Int32) (i2 : Int32) {fs : List Value} (h : σ[r0]? = some (.inr (4, fs))) : pm_call L xs (d + 1) m_Shop_lay [.ref r0, .int i1, .int i2] σ = zE L xs d K_Shop_lay 0 [some (.ref r0), some (.int i1), some (.int i2)] [] σ := pm_call_of 1 4 3 rfl rfl (pm_rcI h rfl) rfl rfl
theorem C_Shop_overladenBits (L : Nat) (xs : Nat → Int32) (d : Nat) (σ : pm_H) (r0 : Nat) {fs : List Value} (h : σ[r0]? = some (.inr (4, fs))) : pm_call L xs (d + 1) m_Shop_overladenBits [.ref r0] σ = zE L xs d K_Shop_overladenBits 0 [some (.ref r0), none, none] [] σ := pm_call_of 1 4 3 rfl rfl (pm_rcI h rfl) rfl rfl
theorem C_Shop_loadOn (L : Nat) (xs : Nat → Int32) (d : Nat) (σ : pm_H) (r0 : Nat) (i1 : Int32) {fs : List Value} (h : σ[r0]? = some (.inr (4, fs))) : pm_call L xs (d + 1) m_Shop_loadOn [.ref r0, .int i1] σ = zE L xs d K_Shop_loadOn 0 [some (.ref r0), some (.int i1), none, none, none] [] σ := pm_call_of 1 4 5 rfl rfl (pm_rcI h rfl) rfl rfl
theorem C_Shop_bitsAbove (L : Nat) (xs : Nat → Int32) (d : Nat) (σ : pm_H) (r0 : Nat) (i1 : Int32) {fs : List Value} (h : σ[r0]? = some (.inr (4, fs))) : pm_call L xs (d + 1) m_Shop_bitsAbove [.ref r0, .int i1] σ = zE L xs d K_Shop_bitsAbove 0 [some (.ref r0), some (.int i1), none, none] [] σ := pm_call_of 1 4 4 rfl rfl (pm_rcI h rfl) rfl rfl
theorem C_Kinds_press (L : Nat) (xs : Nat → Int32) (d : Nat) (σ : pm_H) (i0 : Int32) (i1 : Int32) : pm_call L xs (d + 1) m_Kinds_press [.int i0, .int i1] σ = zE L xs d K_Kinds_press 0 [some (.int i0), some (.int i1)] [] σ := pm_call_of 0 10 2 rfl rfl rfl rfl rfl
theorem C_Shop_bearsOf (L : Nat) (xs : Nat → Int32) (d : Nat) (σ : pm_H) (r0 : Nat) (i1 : Int32) {fs : List Value} (h : σ[r0]? = some (.inr (4, fs))) : pm_call L xs (d + 1) m_Shop_bearsOf [.ref r0, .int i1] σ = zE L xs d K_Shop_bearsOf 0 [some (.ref r0), some (.int i1)] [] σ := pm_call_of 1 4 2 rfl rfl (pm_rcI h rfl) rfl rfl
theorem C_Kinds_bears (L : Nat) (xs : Nat → Int32) (d : Nat) (σ : pm_H) (i0 : Int32) (i1 : Int32) : pm_call L xs (d + 1) m_Kinds_bears [.int i0, .int i1] σ = zE L xs d K_Kinds_bears 0 [some (.int i0), some (.int i1)] [] σ := pm_call_of 0 10 2 rfl rfl rfl rfl rfl
theorem C_Eggs_layBy (L : Nat) (xs : Nat → Int32) (d : Nat) (σ : pm_H) (r0 : Nat) {fs : List Value} (h : σ[r0]? = some (.inr (7, fs))) : pm_call L xs (d + 1) m_Eggs_layBy [.ref r0] σ = zE L xs d K_Eggs_layBy 0 [some (.ref r0)] [] σ := pm_call_of 1 7 1 rfl rfl (pm_rcI h rfl) rfl rfl
theorem C_Eggs_putIn (L : Nat) (xs : Nat → Int32) (d : Nat) (σ : pm_H) (r0 : Nat) (i1 : Int32) (i2 : Int32) {fs : List Value} (h : σ[r0]? = some (.inr (7, fs))) : pm_call L xs (d + 1) m_Eggs_putIn [.ref r0, .int i1, .int i2] σ = zE L xs d K_Eggs_putIn 0 [some (.ref r0), some (.int i1), some (.int i2), none] [] σ := pm_call_of 1 7 4 rfl rfl (pm_rcI h rfl) rfl rfl
theorem C_Shop_hasThing (L : Nat) (xs : Nat → Int32) (d : Nat) (σ : pm_H) (r0 : Nat) (i1 : Int32) {fs : List Value} (h : σ[r0]? = some (.inr (4, fs))) : pm_call L xs (d + 1) m_Shop_hasThing [.ref r0, .int i1] σ = zE L xs d K_Shop_hasThing 0 [some (.ref r0), some (.int i1)] [] σ := pm_call_of 1 4 2 rfl rfl (pm_rcI h rfl) rfl rfl
theorem C_Eggs_takeOut (L : Nat) (xs : Nat → Int32) (d : Nat) (σ : pm_H) (r0 : Nat) (i1 : Int32) {fs : List Value} (h : σ[r0]? = some (.inr (7, fs))) : pm_call L xs (d + 1) m_Eggs_takeOut [.ref r0, .int i1] σ = zE L xs d K_Eggs_takeOut 0 [some (.ref r0), some (.int i1)] [] σ := pm_call_of 1 7 2 rfl rfl (pm_rcI h rfl) rfl rfl
theorem C_Eggs_swap (L : Nat) (xs : Nat → Int32) (d : Nat) (σ : pm_H) (r0 : Nat) {fs : List Value} (h : σ[r0]? = some (.inr (7, fs))) : pm_call L xs (d + 1) m_Eggs_swap [.ref r0] σ = zE L xs d K_Eggs_swap 0 [some (.ref r0)] [] σ := pm_call_of 1 7 1 rfl rfl (pm_rcI h rfl) rfl rfl
theorem C_Eggs_thing (L : Nat) (xs : Nat → Int32) (d : Nat) (σ : pm_H) (r0 : Nat) (i1 : Int32) (i2 : Int32) {fs : List Value} (h : σ[r0]? = some (.inr (7, fs))) : pm_call L xs (d + 1) m_Eggs_thing [.ref r0, .int i1, .int i2] σ = zE L xs d K_Eggs_thing 0 [some (.ref r0), some (.int i1), some (.int i2)] [] σ := pm_call_of 1 7 3 rfl rfl (pm_rcI h rfl) rfl rfl
theorem C_Shop_pressOf (L : Nat) (xs : Nat → Int32) (d : Nat) (σ : pm_H) (r0 : Nat) (i1 : Int32) {fs : List Value} (h : σ[r0]? = some (.inr (4, fs))) : pm_call L xs (d + 1) m_Shop_pressOf [.ref r0, .int i1] σ = zE L xs d K_Shop_pressOf 0 [some (.ref r0), some (.int i1)] [] σ := pm_call_of 1 4 2 rfl rfl (pm_rcI h rfl) rfl rfl
theorem C_Shop_isCrushed (L : Nat) (xs : Nat → Int32) (d : Nat) (σ : pm_H) (r0 : Nat) (i1 : Int32) {fs : List Value} (h : σ[r0]? = some (.inr (4, fs))) : pm_call L xs (d + 1) m_Shop_isCrushed [.ref r0, .int i1] σ = zE L xs d K_Shop_isCrushed 0 [some (.ref r0), some (.int i1)] [] σ := pm_call_of 1 4 2 rfl rfl (pm_rcI h rfl) rfl rfl
theorem C_Shop_isWarm (L : Nat) (xs : Nat → Int32) (d : Nat) (σ : pm_H) (r0 : Nat) (i1 : Int32) {fs : List Value} (h : σ[r0]? = some (.inr (4, fs))) : pm_call L xs (d + 1) m_Shop_isWarm [.ref r0, .int i1] σ = zE L xs d K_Shop_isWarm 0 [some (.ref r0), some (.int i1)] [] σ := pm_call_of 1 4 2 rfl rfl (pm_rcI h rfl) rfl rfl
theorem C_Eggs_bag (L : Nat) (xs : Nat → Int32) (d : Nat) (σ : pm_H) (r0 : Nat) (i1 : Int32) (i2 : Int32) {fs : List Value} (h : σ[r0]? = some (.inr (7, fs))) : pm_call L xs (d + 1) m_Eggs_bag [.ref r0, .int i1, .int i2] σ = zE L xs d K_Eggs_bag 0 [some (.ref r0), some (.int i1), some (.int i2)] [] σ := pm_call_of 1 7 3 rfl rfl (pm_rcI h rfl) rfl rfl
theorem C_Shop_weighs (L : Nat) (xs : Nat → Int32) (d : Nat) (σ : pm_H) (r0 : Nat) (i1 : Int32) {fs : List Value} (h : σ[r0]? = some (.inr (4, fs))) : pm_call L xs (d + 1) m_Shop_weighs [.ref r0, .int i1] σ = zE L xs d K_Shop_weighs 0 [some (.ref r0), some (.int i1), none, none] [] σ := pm_call_of 1 4 4 rfl rfl (pm_rcI h rfl) rfl rfl
theorem C_Shop_isTorn (L : Nat) (xs : Nat → Int32) (d : Nat) (σ : pm_H) (r0 : Nat) (i1 : Int32) {fs : List Value} (h : σ[r0]? = some (.inr (4, fs))) : pm_call L xs (d + 1) m_Shop_isTorn [.ref r0, .int i1] σ = zE L xs d K_Shop_isTorn 0 [some (.ref r0), some (.int i1)] [] σ := pm_call_of 1 4 2 rfl rfl (pm_rcI h rfl) rfl rfl
theorem C_Eggs_stand (L : Nat) (xs : Nat → Int32) (d : Nat) (σ : pm_H) (r0 : Nat) (i1 : Int32) {fs : List Value} (h : σ[r0]? = some (.inr (7, fs))) : pm_call L xs (d + 1) m_Eggs_stand [.ref r0, .int i1] σ = zE L xs d K_Eggs_stand 0 [some (.ref r0), some (.int i1)] [] σ := pm_call_of 1 7 2 rfl rfl (pm_rcI h rfl) rfl rfl
theorem C_Shop_warmBits (L : Nat) (xs : Nat → Int32) (d : Nat) (σ : pm_H) (r0 : Nat) {fs : List Value} (h : σ[r0]? = some (.inr (4, fs))) : pm_call L xs (d + 1) m_Shop_warmBits [.ref r0] σ = zE L xs d K_Shop_warmBits 0 [some (.ref r0), none, none] [] σ := pm_call_of 1 4 3 rfl rfl (pm_rcI h rfl) rfl rfl
theorem C_Eggs_least (L : Nat) (xs : Nat → Int32) (d : Nat) (σ : pm_H) (r0 : Nat) (i1 : Int32) {fs : List Value} (h : σ[r0]? = some (.inr (7, fs))) : pm_call L xs (d + 1) m_Eggs_least [.ref r0, .int i1] σ = zE L xs d K_Eggs_least 0 [some (.ref r0), some (.int i1)] [] σ := pm_call_of 1 7 2 rfl rfl (pm_rcI h rfl) rfl rfl
theorem C_Ways_seekLeast (L : Nat) (xs : Nat → Int32) (d : Nat) (σ : pm_H) (r0 : Nat) (r1 : Nat) {fs : List Value} (h : σ[r0]? = some (.inr (6, fs))) : pm_call L xs (d + 1) m_Ways_seekLeast [.ref r0, .ref r1] σ = zE L xs d K_Ways_seekLeast 0 [some (.ref r0), some (.ref r1)] [] σ := pm_call_of 1 6 2 rfl rfl (pm_rcI h rfl) rfl rfl
theorem C_Ways_begin (L : Nat) (xs : Nat → Int32) (d : Nat) (σ : pm_H) (r0 : Nat) (r1 : Nat) {fs : List Value} (h : σ[r0]? = some (.inr (6, fs))) : pm_call L xs (d + 1) m_Ways_begin [.ref r0, .ref r1] σ = zE L xs d K_Ways_begin 0 [some (.ref r0), some (.ref r1), none] [] σ := pm_call_of 1 6 3 rfl rfl (pm_rcI h rfl) rfl rfl
theorem C_Ways_queueFromTop (L : Nat) (xs : Nat → Int32) (d : Nat) (σ : pm_H) (r0 : Nat) (r1 : Nat) (i2 : Int32) {fs : List Value} (h : σ[r0]? = some (.inr (6, fs))) : pm_call L xs (d + 1) m_Ways_queueFromTop [.ref r0, .ref r1, .int i2] σ = zE L xs d K_Ways_queueFromTop 0 [some (.ref r0), some (.ref r1), some (.int i2), none] [] σ := pm_call_of 1 6 4 rfl rfl (pm_rcI h rfl) rfl rfl
theorem C_Ways_enqueue (L : Nat) (xs : Nat → Int32) (d : Nat) (σ : pm_H) (r0 : Nat) (i1 : Int32) {fs : List Value} (h : σ[r0]? = some (.inr (6, fs))) : pm_call L xs (d + 1) m_Ways_enqueue [.ref r0, .int i1] σ = zE L xs d K_Ways_enqueue 0 [some (.ref r0), some (.int i1)] [] σ := pm_call_of 1 6 2 rfl rfl (pm_rcI h rfl) rfl rfl
theorem C_Ways_queueLaidBy (L : Nat) (xs : Nat → Int32) (d : Nat) (σ : pm_H) (r0 : Nat) (r1 : Nat) {fs : List Value} (h : σ[r0]? = some (.inr (6, fs))) : pm_call L xs (d + 1) m_Ways_queueLaidBy [.ref r0, .ref r1] σ = zE L xs d K_Ways_queueLaidBy 0 [some (.ref r0), some (.ref r1), none] [] σ := pm_call_of 1 6 3 rfl rfl (pm_rcI h rfl) rfl rfl
theorem C_Ways_packAllBut (L : Nat) (xs : Nat → Int32) (d : Nat) (σ : pm_H) (r0 : Nat) (i1 : Int32) {fs : List Value} (h : σ[r0]? = some (.inr (6, fs))) : pm_call L xs (d + 1) m_Ways_packAllBut [.ref r0, .int i1] σ = zE L xs d K_Ways_packAllBut 0 [some (.ref r0), some (.int i1), none] [] σ := pm_call_of 1 6 3 rfl rfl (pm_rcI h rfl) rfl rfl
theorem C_Shop_heaviest (L : Nat) (xs : Nat → Int32) (d : Nat) (σ : pm_H) (r0 : Nat) {fs : List Value} (h : σ[r0]? = some (.inr (4, fs))) : pm_call L xs (d + 1) m_Shop_heaviest [.ref r0] σ = zE L xs d K_Shop_heaviest 0 [some (.ref r0), none, none] [] σ := pm_call_of 1 4 3 rfl rfl (pm_rcI h rfl) rfl rfl
theorem C_Ways_goOn (L : Nat) (xs : Nat → Int32) (d : Nat) (σ : pm_H) (r0 : Nat) (i1 : Int32) (i2 : Int32) (i3 : Int32) : pm_call L xs (d + 1) m_Ways_goOn [.ref r0, .int i1, .int i2, .int i3] σ = zE L xs d K_Ways_goOn 0 [some (.ref r0), some (.int i1), some (.int i2), some (.int i3), none, none, none, none] [] σ := pm_call_of 0 6 8 rfl rfl rfl rfl rfl
theorem C_Ways_isBetter (L : Nat) (xs : Nat → Int32) (d : Nat) (σ : pm_H) (r0 : Nat) (i1 : Int32) (i2 : Int32) {fs : List Value} (h : σ[r0]? = some (.inr (6, fs))) : pm_call L xs (d + 1) m_Ways_isBetter [.ref r0, .int i1, .int i2] σ = zE L xs d K_Ways_isBetter 0 [some (.ref r0), some (.int i1), some (.int i2)] [] σ := pm_call_of 1 6 3 rfl rfl (pm_rcI h rfl) rfl rfl
theorem C_Ways_keep (L : Nat) (xs : Nat → Int32) (d : Nat) (σ : pm_H) (r0 : Nat) (i1 : Int32) (i2 : Int32) {fs : List Value} (h : σ[r0]? = some (.inr (6, fs))) : pm_call L xs (d + 1) m_Ways_keep [.ref r0, .int i1, .int i2] σ = zE L xs d K_Ways_keep 0 [some (.ref r0), some (.int i1), some (.int i2), none] [] σ := pm_call_of 1 6 4 rfl rfl (pm_rcI h rfl) rfl rfl
theorem C_Ways_bagsToTry (L : Nat) (xs : Nat → Int32) (d : Nat) (σ : pm_H) (r0 : Nat) {fs : List Value} (h : σ[r0]? = some (.inr (6, fs))) : pm_call L xs (d + 1) m_Ways_bagsToTry [.ref r0] σ = zE L xs d K_Ways_bagsToTry 0 [some (.ref r0), none, none] [] σ := pm_call_of 1 6 3 rfl rfl (pm_rcI h rfl) rfl rfl
theorem C_Ways_lay (L : Nat) (xs : Nat → Int32) (d : Nat) (σ : pm_H) (r0 : Nat) (i1 : Int32) (i2 : Int32) {fs : List Value} (h : σ[r0]? = some (.inr (6, fs))) : pm_call L xs (d + 1) m_Ways_lay [.ref r0, .int i1, .int i2] σ = zE L xs d K_Ways_lay 0 [some (.ref r0), some (.int i1), some (.int i2), none, none] [] σ := pm_call_of 1 6 5 rfl rfl (pm_rcI h rfl) rfl rfl
theorem C_Ways_lift (L : Nat) (xs : Nat → Int32) (d : Nat) (σ : pm_H) (r0 : Nat) (i1 : Int32) (i2 : Int32) {fs : List Value} (h : σ[r0]? = some (.inr (6, fs))) : pm_call L xs (d + 1) m_Ways_lift [.ref r0, .int i1, .int i2] σ = zE L xs d K_Ways_lift 0 [some (.ref r0), some (.int i1), some (.int i2), none] [] σ := pm_call_of 1 6 4 rfl rfl (pm_rcI h rfl) rfl rfl
theorem C_Ways_bagFor (L : Nat) (xs : Nat → Int32) (d : Nat) (σ : pm_H) (r0 : Nat) (i1 : Int32) {fs : List Value} (h : σ[r0]? = some (.inr (6, fs))) : pm_call L xs (d + 1) m_Ways_bagFor [.ref r0, .int i1] σ = zE L xs d K_Ways_bagFor 0 [some (.ref r0), some (.int i1), none] [] σ := pm_call_of 1 6 3 rfl rfl (pm_rcI h rfl) rfl rfl
theorem C_Eggs_torn (L : Nat) (xs : Nat → Int32) (d : Nat) (σ : pm_H) (r0 : Nat) {fs : List Value} (h : σ[r0]? = some (.inr (7, fs))) : pm_call L xs (d + 1) m_Eggs_torn [.ref r0] σ = zE L xs d K_Eggs_torn 0 [some (.ref r0)] [] σ := pm_call_of 1 7 1 rfl rfl (pm_rcI h rfl) rfl rfl
theorem C_Ways_seekTorn (L : Nat) (xs : Nat → Int32) (d : Nat) (σ : pm_H) (r0 : Nat) (r1 : Nat) {fs : List Value} (h : σ[r0]? = some (.inr (6, fs))) : pm_call L xs (d + 1) m_Ways_seekTorn [.ref r0, .ref r1] σ = zE L xs d K_Ways_seekTorn 0 [some (.ref r0), some (.ref r1)] [] σ := pm_call_of 1 6 2 rfl rfl (pm_rcI h rfl) rfl rfl
theorem C_Ways_fewestTorn (L : Nat) (xs : Nat → Int32) (d : Nat) (σ : pm_H) (r0 : Nat) (i1 : Int32) (i2 : Int32) : pm_call L xs (d + 1) m_Ways_fewestTorn [.ref r0, .int i1, .int i2] σ = zE L xs d K_Ways_fewestTorn 0 [some (.ref r0), some (.int i1), some (.int i2), none, none, none, none, none] [] σ := pm_call_of 0 6 8 rfl rfl rfl rfl rfl
theorem C_Ways_tornNow (L : Nat) (xs : Nat → Int32) (d : Nat) (σ : pm_H) (r0 : Nat) {fs : List Value} (h : σ[r0]? = some (.inr (6, fs))) : pm_call L xs (d + 1) m_Ways_tornNow [.ref r0] σ = zE L xs d K_Ways_tornNow 0 [some (.ref r0), none, none] [] σ := pm_call_of 1 6 3 rfl rfl (pm_rcI h rfl) rfl rfl
theorem C_Eggs_give (L : Nat) (xs : Nat → Int32) (d : Nat) (σ : pm_H) (r0 : Nat) (i1 : Int32) {fs : List Value} (h : σ[r0]? = some (.inr (7, fs))) : pm_call L xs (d + 1) m_Eggs_give [.ref r0, .int i1] σ = zE L xs d K_Eggs_give 0 [some (.ref r0), some (.int i1)] [] σ := pm_call_of 1 7 2 rfl rfl (pm_rcI h rfl) rfl rfl
theorem C_Ways_seekGive (L : Nat) (xs : Nat → Int32) (d : Nat) (σ : pm_H) (r0 : Nat) (r1 : Nat) {fs : List Value} (h : σ[r0]? = some (.inr (6, fs))) : pm_call L xs (d + 1) m_Ways_seekGive [.ref r0, .ref r1] σ = zE L xs d K_Ways_seekGive 0 [some (.ref r0), some (.ref r1), none] [] σ := pm_call_of 1 6 3 rfl rfl (pm_rcI h rfl) rfl rfl
theorem C_Ways_tryWithout (L : Nat) (xs : Nat → Int32) (d : Nat) (σ : pm_H) (r0 : Nat) (i1 : Int32) (i2 : Int32) {fs : List Value} (h : σ[r0]? = some (.inr (6, fs))) : pm_call L xs (d + 1) m_Ways_tryWithout [.ref r0, .int i1, .int i2] σ = zE L xs d K_Ways_tryWithout 0 [some (.ref r0), some (.int i1), some (.int i2)] [] σ := pm_call_of 1 6 3 rfl rfl (pm_rcI h rfl) rfl rfl
theorem C_Eggs_order (L : Nat) (xs : Nat → Int32) (d : Nat) (σ : pm_H) (r0 : Nat) (i1 : Int32) (i2 : Int32) {fs : List Value} (h : σ[r0]? = some (.inr (7, fs))) : pm_call L xs (d + 1) m_Eggs_order [.ref r0, .int i1, .int i2] σ = zE L xs d K_Eggs_order 0 [some (.ref r0), some (.int i1), some (.int i2)] [] σ := pm_call_of 1 7 3 rfl rfl (pm_rcI h rfl) rfl rfl
theorem C_BeltOrder_seek (L : Nat) (xs : Nat → Int32) (d : Nat) (σ : pm_H) (r0 : Nat) (r1 : Nat) {fs : List Value} (h : σ[r0]? = some (.inr (2, fs))) : pm_call L xs (d + 1) m_BeltOrder_seek [.ref r0, .ref r1] σ = zE L xs d K_BeltOrder_seek 0 [some (.ref r0), some (.ref r1), none] [] σ := pm_call_of 1 2 3 rfl rfl (pm_rcI h rfl) rfl rfl
theorem C_BeltOrder_weigh (L : Nat) (xs : Nat → Int32) (d : Nat) (σ : pm_H) (r0 : Nat) (r1 : Nat) (i2 : Int32) {fs : List Value} (h : σ[r0]? = some (.inr (2, fs))) : pm_call L xs (d + 1) m_BeltOrder_weigh [.ref r0, .ref r1, .int i2] σ = zE L xs d K_BeltOrder_weigh 0 [some (.ref r0), some (.ref r1), some (.int i2), none] [] σ := pm_call_of 1 2 4 rfl rfl (pm_rcI h rfl) rfl rfl
theorem C_BeltOrder_fewestFrom (L : Nat) (xs : Nat → Int32) (d : Nat) (σ : pm_H) (r0 : Nat) (r1 : Nat) (i2 : Int32) (i3 : Int32) {fs : List Value} (h : σ[r0]? = some (.inr (2, fs))) : pm_call L xs (d + 1) m_BeltOrder_fewestFrom [.ref r0, .ref r1, .int i2, .int i3] σ = zE L xs d K_BeltOrder_fewestFrom 0 [some (.ref r0), some (.ref r1), some (.int i2), some (.int i3), none, none] [] σ := pm_call_of 1 2 6 rfl rfl (pm_rcI h rfl) rfl rfl
theorem C_BeltOrder_crushedBy (L : Nat) (xs : Nat → Int32) (d : Nat) (σ : pm_H) (r0 : Nat) (r1 : Nat) (i2 : Int32) {fs : List Value} (h : σ[r0]? = some (.inr (2, fs))) : pm_call L xs (d + 1) m_BeltOrder_crushedBy [.ref r0, .ref r1, .int i2] σ = zE L xs d K_BeltOrder_crushedBy 0 [some (.ref r0), some (.ref r1), some (.int i2), none, none] [] σ := pm_call_of 1 2 5 rfl rfl (pm_rcI h rfl) rfl rfl
theorem C_BeltOrder_thingAt (L : Nat) (xs : Nat → Int32) (d : Nat) (σ : pm_H) (r0 : Nat) (r1 : Nat) (i2 : Int32) {fs : List Value} (h : σ[r0]? = some (.inr (2, fs))) : pm_call L xs (d + 1) m_BeltOrder_thingAt [.ref r0, .ref r1, .int i2] σ = zE L xs d K_BeltOrder_thingAt 0 [some (.ref r0), some (.ref r1), some (.int i2), none, none, none] [] σ := pm_call_of 1 2 6 rfl rfl (pm_rcI h rfl) rfl rfl
theorem C_BeltOrder_firstOf (L : Nat) (xs : Nat → Int32) (d : Nat) (σ : pm_H) (r0 : Nat) (r1 : Nat) (i2 : Int32) {fs : List Value} (h : σ[r0]? = some (.inr (2, fs))) : pm_call L xs (d + 1) m_BeltOrder_firstOf [.ref r0, .ref r1, .int i2] σ = zE L xs d K_BeltOrder_firstOf 0 [some (.ref r0), some (.ref r1), some (.int i2), none] [] σ := pm_call_of 1 2 4 rfl rfl (pm_rcI h rfl) rfl rfl
theorem C_Eggs_top (L : Nat) (xs : Nat → Int32) (d : Nat) (σ : pm_H) (r0 : Nat) (i1 : Int32) {fs : List Value} (h : σ[r0]? = some (.inr (7, fs))) : pm_call L xs (d + 1) m_Eggs_top [.ref r0, .int i1] σ = zE L xs d K_Eggs_top 0 [some (.ref r0), some (.int i1)] [] σ := pm_call_of 1 7 2 rfl rfl (pm_rcI h rfl) rfl rfl
theorem C_Shop_harmlessOn (L : Nat) (xs : Nat → Int32) (d : Nat) (σ : pm_H) (r0 : Nat) (i1 : Int32) {fs : List Value} (h : σ[r0]? = some (.inr (4, fs))) : pm_call L xs (d + 1) m_Shop_harmlessOn [.ref r0, .int i1] σ = zE L xs d K_Shop_harmlessOn 0 [some (.ref r0), some (.int i1), none, none, none] [] σ := pm_call_of 1 4 5 rfl rfl (pm_rcI h rfl) rfl rfl
theorem C_Shop_leastSpareAt (L : Nat) (xs : Nat → Int32) (d : Nat) (σ : pm_H) (r0 : Nat) (i1 : Int32) {fs : List Value} (h : σ[r0]? = some (.inr (4, fs))) : pm_call L xs (d + 1) m_Shop_leastSpareAt [.ref r0, .int i1] σ = zE L xs d K_Shop_leastSpareAt 0 [some (.ref r0), some (.int i1), none, none] [] σ := pm_call_of 1 4 4 rfl rfl (pm_rcI h rfl) rfl rfl
theorem C_Eggs_spare (L : Nat) (xs : Nat → Int32) (d : Nat) (σ : pm_H) (r0 : Nat) (i1 : Int32) {fs : List Value} (h : σ[r0]? = some (.inr (7, fs))) : pm_call L xs (d + 1) m_Eggs_spare [.ref r0, .int i1] σ = zE L xs d K_Eggs_spare 0 [some (.ref r0), some (.int i1)] [] σ := pm_call_of 1 7 2 rfl rfl (pm_rcI h rfl) rfl rfl
theorem C_Eggs_beside (L : Nat) (xs : Nat → Int32) (d : Nat) (σ : pm_H) (r0 : Nat) (i1 : Int32) (i2 : Int32) {fs : List Value} (h : σ[r0]? = some (.inr (7, fs))) : pm_call L xs (d + 1) m_Eggs_beside [.ref r0, .int i1, .int i2] σ = zE L xs d K_Eggs_beside 0 [some (.ref r0), some (.int i1), some (.int i2)] [] σ := pm_call_of 1 7 3 rfl rfl (pm_rcI h rfl) rfl rfl
theorem C_Shop_bitsBelow (L : Nat) (xs : Nat → Int32) (d : Nat) (σ : pm_H) (r0 : Nat) (i1 : Int32) {fs : List Value} (h : σ[r0]? = some (.inr (4, fs))) : pm_call L xs (d + 1) m_Shop_bitsBelow [.ref r0, .int i1] σ = zE L xs d K_Shop_bitsBelow 0 [some (.ref r0), some (.int i1)] [] σ := pm_call_of 1 4 2 rfl rfl (pm_rcI h rfl) rfl rfl
theorem C_Eggs_even (L : Nat) (xs : Nat → Int32) (d : Nat) (σ : pm_H) (r0 : Nat) {fs : List Value} (h : σ[r0]? = some (.inr (7, fs))) : pm_call L xs (d + 1) m_Eggs_even [.ref r0] σ = zE L xs d K_Eggs_even 0 [some (.ref r0)] [] σ := pm_call_of 1 7 1 rfl rfl (pm_rcI h rfl) rfl rfl
theorem C_Shop_lightest (L : Nat) (xs : Nat → Int32) (d : Nat) (σ : pm_H) (r0 : Nat) {fs : List Value} (h : σ[r0]? = some (.inr (4, fs))) : pm_call L xs (d + 1) m_Shop_lightest [.ref r0] σ = zE L xs d K_Shop_lightest 0 [some (.ref r0), none, none] [] σ := pm_call_of 1 4 3 rfl rfl (pm_rcI h rfl) rfl rfl
theorem C_Eggs_astray (L : Nat) (xs : Nat → Int32) (d : Nat) (σ : pm_H) (r0 : Nat) (i1 : Int32) (i2 : Int32) {fs : List Value} (h : σ[r0]? = some (.inr (7, fs))) : pm_call L xs (d + 1) m_Eggs_astray [.ref r0, .int i1, .int i2] σ = zE L xs d K_Eggs_astray 0 [some (.ref r0), some (.int i1), some (.int i2), none] [] σ := pm_call_of 1 7 4 rfl rfl (pm_rcI h rfl) rfl rfl
theorem C_Clues_missing (L : Nat) (xs : Nat → Int32) (d : Nat) (σ : pm_H) (r0 : Nat) (r1 : Nat) (i2 : Int32) : pm_call L xs (d + 1) m_Clues_missing [.ref r0, .ref r1, .int i2] σ = zE L xs d K_Clues_missing 0 [some (.ref r0), some (.ref r1), some (.int i2), none, none] [] σ := pm_call_of 0 9 5 rfl rfl rfl rfl rfl
theorem C_Clues_isWeighed (L : Nat) (xs : Nat → Int32) (d : Nat) (σ : pm_H) (r0 : Nat) (i1 : Int32) (i2 : Int32) (r3 : Nat) (i4 : Int32) : pm_call L xs (d + 1) m_Clues_isWeighed [.ref r0, .int i1, .int i2, .ref r3, .int i4] σ = zE L xs d K_Clues_isWeighed 0 [some (.ref r0), some (.int i1), some (.int i2), some (.ref r3), some (.int i4), none, none] [] σ := pm_call_of 0 9 7 rfl rfl rfl rfl rfl
theorem C_Eggs_heavy (L : Nat) (xs : Nat → Int32) (d : Nat) (σ : pm_H) (r0 : Nat) (i1 : Int32) (i2 : Int32) (i3 : Int32) {fs : List Value} (h : σ[r0]? = some (.inr (7, fs))) : pm_call L xs (d + 1) m_Eggs_heavy [.ref r0, .int i1, .int i2, .int i3] σ = zE L xs d K_Eggs_heavy 0 [some (.ref r0), some (.int i1), some (.int i2), some (.int i3), none] [] σ := pm_call_of 1 7 5 rfl rfl (pm_rcI h rfl) rfl rfl
theorem C_Clues_weights (L : Nat) (xs : Nat → Int32) (d : Nat) (σ : pm_H) (r0 : Nat) (i1 : Int32) (r2 : Nat) (i3 : Int32) : pm_call L xs (d + 1) m_Clues_weights [.ref r0, .int i1, .ref r2, .int i3] σ = zE L xs d K_Clues_weights 0 [some (.ref r0), some (.int i1), some (.ref r2), some (.int i3), none, none] [] σ := pm_call_of 0 9 6 rfl rfl rfl rfl rfl
theorem C_Eggs_who (L : Nat) (xs : Nat → Int32) (d : Nat) (σ : pm_H) (r0 : Nat) (i1 : Int32) (i2 : Int32) (i3 : Int32) (i4 : Int32) {fs : List Value} (h : σ[r0]? = some (.inr (7, fs))) : pm_call L xs (d + 1) m_Eggs_who [.ref r0, .int i1, .int i2, .int i3, .int i4] σ = zE L xs d K_Eggs_who 0 [some (.ref r0), some (.int i1), some (.int i2), some (.int i3), some (.int i4), none, none] [] σ := pm_call_of 1 7 7 rfl rfl (pm_rcI h rfl) rfl rfl
theorem C_Clues_softs (L : Nat) (xs : Nat → Int32) (d : Nat) (σ : pm_H) (r0 : Nat) (i1 : Int32) (r2 : Nat) (i3 : Int32) : pm_call L xs (d + 1) m_Clues_softs [.ref r0, .int i1, .ref r2, .int i3] σ = zE L xs d K_Clues_softs 0 [some (.ref r0), some (.int i1), some (.ref r2), some (.int i3), none, none] [] σ := pm_call_of 0 9 6 rfl rfl rfl rfl rfl
theorem C_Clues_isBroken (L : Nat) (xs : Nat → Int32) (d : Nat) (σ : pm_H) (r0 : Nat) (r1 : Nat) (i2 : Int32) : pm_call L xs (d + 1) m_Clues_isBroken [.ref r0, .ref r1, .int i2] σ = zE L xs d K_Clues_isBroken 0 [some (.ref r0), some (.ref r1), some (.int i2), none, none] [] σ := pm_call_of 0 9 5 rfl rfl rfl rfl rfl
theorem C_Clues_kinds (L : Nat) (xs : Nat → Int32) (d : Nat) (σ : pm_H) (r0 : Nat) (i1 : Int32) (r2 : Nat) (i3 : Int32) : pm_call L xs (d + 1) m_Clues_kinds [.ref r0, .int i1, .ref r2, .int i3] σ = zE L xs d K_Clues_kinds 0 [some (.ref r0), some (.int i1), some (.ref r2), some (.int i3), none, none] [] σ := pm_call_of 0 9 6 rfl rfl rfl rfl rfl
theorem C_Eggs_colds (L : Nat) (xs : Nat → Int32) (d : Nat) (σ : pm_H) (r0 : Nat) (i1 : Int32) {fs : List Value} (h : σ[r0]? = some (.inr (7, fs))) : pm_call L xs (d + 1) m_Eggs_colds [.ref r0, .int i1] σ = zE L xs d K_Eggs_colds 0 [some (.ref r0), some (.int i1)] [] σ := pm_call_of 1 7 2 rfl rfl (pm_rcI h rfl) rfl rfl
theorem C_Shop_coldPairs (L : Nat) (xs : Nat → Int32) (d : Nat) (σ : pm_H) (r0 : Nat) {fs : List Value} (h : σ[r0]? = some (.inr (4, fs))) : pm_call L xs (d + 1) m_Shop_coldPairs [.ref r0] σ = zE L xs d K_Shop_coldPairs 0 [some (.ref r0), none, none, none] [] σ := pm_call_of 1 4 4 rfl rfl (pm_rcI h rfl) rfl rfl
theorem C_Shop_isColdPair (L : Nat) (xs : Nat → Int32) (d : Nat) (σ : pm_H) (r0 : Nat) (i1 : Int32) (i2 : Int32) {fs : List Value} (h : σ[r0]? = some (.inr (4, fs))) : pm_call L xs (d + 1) m_Shop_isColdPair [.ref r0, .int i1, .int i2] σ = zE L xs d K_Shop_isColdPair 0 [some (.ref r0), some (.int i1), some (.int i2)] [] σ := pm_call_of 1 4 3 rfl rfl (pm_rcI h rfl) rfl rfl
theorem C_Shop_firstColdPair (L : Nat) (xs : Nat → Int32) (d : Nat) (σ : pm_H) (r0 : Nat) {fs : List Value} (h : σ[r0]? = some (.inr (4, fs))) : pm_call L xs (d + 1) m_Shop_firstColdPair [.ref r0] σ = zE L xs d K_Shop_firstColdPair 0 [some (.ref r0), none, none] [] σ := pm_call_of 1 4 3 rfl rfl (pm_rcI h rfl) rfl rfl
theorem C_Eggs_tears (L : Nat) (xs : Nat → Int32) (d : Nat) (σ : pm_H) (r0 : Nat) (i1 : Int32) (i2 : Int32) (i3 : Int32) {fs : List Value} (h : σ[r0]? = some (.inr (7, fs))) : pm_call L xs (d + 1) m_Eggs_tears [.ref r0, .int i1, .int i2, .int i3] σ = zE L xs d K_Eggs_tears 0 [some (.ref r0), some (.int i1), some (.int i2), some (.int i3)] [] σ := pm_call_of 1 7 4 rfl rfl (pm_rcI h rfl) rfl rfl
theorem C_Odds_part (L : Nat) (xs : Nat → Int32) (d : Nat) (σ : pm_H) (r0 : Nat) (i1 : Int32) (i2 : Int32) (i3 : Int32) : pm_call L xs (d + 1) m_Odds_part [.ref r0, .int i1, .int i2, .int i3] σ = zE L xs d K_Odds_part 0 [some (.ref r0), some (.int i1), some (.int i2), some (.int i3), none, none, none, none, none] [] σ := pm_call_of 0 11 9 rfl rfl rfl rfl rfl
theorem C_Odds_casesOf (L : Nat) (xs : Nat → Int32) (d : Nat) (σ : pm_H) (r0 : Nat) (i1 : Int32) (i2 : Int32) : pm_call L xs (d + 1) m_Odds_casesOf [.ref r0, .int i1, .int i2] σ = zE L xs d K_Odds_casesOf 0 [some (.ref r0), some (.int i1), some (.int i2), none, none, none] [] σ := pm_call_of 0 11 6 rfl rfl rfl rfl rfl
theorem C_Odds_comeHome (L : Nat) (xs : Nat → Int32) (d : Nat) (σ : pm_H) (r0 : Nat) (i1 : Int32) : pm_call L xs (d + 1) m_Odds_comeHome [.ref r0, .int i1] σ = zE L xs d K_Odds_comeHome 0 [some (.ref r0), some (.int i1), none, none, none] [] σ := pm_call_of 0 11 5 rfl rfl rfl rfl rfl
theorem C_Odds_casesIn (L : Nat) (xs : Nat → Int32) (d : Nat) (σ : pm_H) (r0 : Nat) (i1 : Int32) (i2 : Int32) : pm_call L xs (d + 1) m_Odds_casesIn [.ref r0, .int i1, .int i2] σ = zE L xs d K_Odds_casesIn 0 [some (.ref r0), some (.int i1), some (.int i2), none, none, none, none] [] σ := pm_call_of 0 11 7 rfl rfl rfl rfl rfl
theorem C_Odds_tearingCases (L : Nat) (xs : Nat → Int32) (d : Nat) (σ : pm_H) (r0 : Nat) (i1 : Int32) (i2 : Int32) : pm_call L xs (d + 1) m_Odds_tearingCases [.ref r0, .int i1, .int i2] σ = zE L xs d K_Odds_tearingCases 0 [some (.ref r0), some (.int i1), some (.int i2)] [] σ := pm_call_of 0 11 3 rfl rfl rfl rfl rfl
theorem C_Odds_allCases (L : Nat) (xs : Nat → Int32) (d : Nat) (σ : pm_H) (r0 : Nat) : pm_call L xs (d + 1) m_Odds_allCases [.ref r0] σ = zE L xs d K_Odds_allCases 0 [some (.ref r0), none, none, none] [] σ := pm_call_of 0 11 4 rfl rfl rfl rfl rfl
theorem C_Eggs_drawn (L : Nat) (xs : Nat → Int32) (d : Nat) (σ : pm_H) (r0 : Nat) (i1 : Int32) (i2 : Int32) (i3 : Int32) {fs : List Value} (h : σ[r0]? = some (.inr (7, fs))) : pm_call L xs (d + 1) m_Eggs_drawn [.ref r0, .int i1, .int i2, .int i3] σ = zE L xs d K_Eggs_drawn 0 [some (.ref r0), some (.int i1), some (.int i2), some (.int i3)] [] σ := pm_call_of 1 7 4 rfl rfl (pm_rcI h rfl) rfl rfl
theorem C_Shop_goTrip (L : Nat) (xs : Nat → Int32) (d : Nat) (σ : pm_H) (r0 : Nat) (i1 : Int32) (i2 : Int32) {fs : List Value} (h : σ[r0]? = some (.inr (4, fs))) : pm_call L xs (d + 1) m_Shop_goTrip [.ref r0, .int i1, .int i2] σ = zE L xs d K_Shop_goTrip 0 [some (.ref r0), some (.int i1), some (.int i2), none, none, none, none] [] σ := pm_call_of 1 4 7 rfl rfl (pm_rcI h rfl) rfl rfl
theorem C_Shop_weighsInAll (L : Nat) (xs : Nat → Int32) (d : Nat) (σ : pm_H) (r0 : Nat) {fs : List Value} (h : σ[r0]? = some (.inr (4, fs))) : pm_call L xs (d + 1) m_Shop_weighsInAll [.ref r0] σ = zE L xs d K_Shop_weighsInAll 0 [some (.ref r0), none, none] [] σ := pm_call_of 1 4 3 rfl rfl (pm_rcI h rfl) rfl rfl
theorem C_Eggs_image (L : Nat) (xs : Nat → Int32) (d : Nat) (σ : pm_H) (r0 : Nat) (i1 : Int32) {fs : List Value} (h : σ[r0]? = some (.inr (7, fs))) : pm_call L xs (d + 1) m_Eggs_image [.ref r0, .int i1] σ = zE L xs d K_Eggs_image 0 [some (.ref r0), some (.int i1)] [] σ := pm_call_of 1 7 2 rfl rfl (pm_rcI h rfl) rfl rfl
theorem C_Eggs_restore (L : Nat) (xs : Nat → Int32) (d : Nat) (σ : pm_H) (r0 : Nat) (i1 : Int32) {fs : List Value} (h : σ[r0]? = some (.inr (7, fs))) : pm_call L xs (d + 1) m_Eggs_restore [.ref r0, .int i1] σ = zE L xs d K_Eggs_restore 0 [some (.ref r0), some (.int i1)] [] σ := pm_call_of 1 7 2 rfl rfl (pm_rcI h rfl) rfl rfl
theorem C_Eggs_kind (L : Nat) (xs : Nat → Int32) (d : Nat) (σ : pm_H) (r0 : Nat) (i1 : Int32) {fs : List Value} (h : σ[r0]? = some (.inr (7, fs))) : pm_call L xs (d + 1) m_Eggs_kind [.ref r0, .int i1] σ = zE L xs d K_Eggs_kind 0 [some (.ref r0), some (.int i1)] [] σ := pm_call_of 1 7 2 rfl rfl (pm_rcI h rfl) rfl rfl
theorem C_Eggs_as (L : Nat) (xs : Nat → Int32) (d : Nat) (σ : pm_H) (r0 : Nat) (i1 : Int32) (i2 : Int32) {fs : List Value} (h : σ[r0]? = some (.inr (7, fs))) : pm_call L xs (d + 1) m_Eggs_as [.ref r0, .int i1, .int i2] σ = zE L xs d K_Eggs_as 0 [some (.ref r0), some (.int i1), some (.int i2)] [] σ := pm_call_of 1 7 3 rfl rfl (pm_rcI h rfl) rfl rfl
theorem C_Kinds_isA (L : Nat) (xs : Nat → Int32) (d : Nat) (σ : pm_H) (i0 : Int32) (i1 : Int32) : pm_call L xs (d + 1) m_Kinds_isA [.int i0, .int i1] σ = zE L xs d K_Kinds_isA 0 [some (.int i0), some (.int i1), none, none] [] σ := pm_call_of 0 10 4 rfl rfl rfl rfl rfl
theorem C_Eggs_ask (L : Nat) (xs : Nat → Int32) (d : Nat) (σ : pm_H) (r0 : Nat) (i1 : Int32) (i2 : Int32) {fs : List Value} (h : σ[r0]? = some (.inr (7, fs))) : pm_call L xs (d + 1) m_Eggs_ask [.ref r0, .int i1, .int i2] σ = zE L xs d K_Eggs_ask 0 [some (.ref r0), some (.int i1), some (.int i2)] [] σ := pm_call_of 1 7 3 rfl rfl (pm_rcI h rfl) rfl rfl
theorem C_Asks_answer (L : Nat) (xs : Nat → Int32) (d : Nat) (σ : pm_H) (r0 : Nat) (r1 : Nat) (i2 : Int32) (i3 : Int32) {fs : List Value} (h : σ[r0]? = some (.inr (1, fs))) : pm_call L xs (d + 1) m_Asks_answer [.ref r0, .ref r1, .int i2, .int i3] σ = zE L xs d K_Asks_answer 0 [some (.ref r0), some (.ref r1), some (.int i2), some (.int i3), none] [] σ := pm_call_of 1 1 5 rfl rfl (pm_rcI h rfl) rfl rfl
theorem C_Asks_gives (L : Nat) (xs : Nat → Int32) (d : Nat) (σ : pm_H) (r0 : Nat) (i1 : Int32) (i2 : Int32) : pm_call L xs (d + 1) m_Asks_gives [.ref r0, .int i1, .int i2] σ = zE L xs d K_Asks_gives 0 [some (.ref r0), some (.int i1), some (.int i2), none] [] σ := pm_call_of 0 1 4 rfl rfl rfl rfl rfl
theorem C_Asks_leave (L : Nat) (xs : Nat → Int32) (d : Nat) (σ : pm_H) (r0 : Nat) (i1 : Int32) {fs : List Value} (h : σ[r0]? = some (.inr (1, fs))) : pm_call L xs (d + 1) m_Asks_leave [.ref r0, .int i1] σ = zE L xs d K_Asks_leave 0 [some (.ref r0), some (.int i1)] [] σ := pm_call_of 1 1 2 rfl rfl (pm_rcI h rfl) rfl rfl
theorem C_Eggs_trace (L : Nat) (xs : Nat → Int32) (d : Nat) (σ : pm_H) (r0 : Nat) (i1 : Int32) {fs : List Value} (h : σ[r0]? = some (.inr (7, fs))) : pm_call L xs (d + 1) m_Eggs_trace [.ref r0, .int i1] σ = zE L xs d K_Eggs_trace 0 [some (.ref r0), some (.int i1)] [] σ := pm_call_of 1 7 2 rfl rfl (pm_rcI h rfl) rfl rfl
theorem C_Asks_traced (L : Nat) (xs : Nat → Int32) (d : Nat) (σ : pm_H) (r0 : Nat) (i1 : Int32) {fs : List Value} (h : σ[r0]? = some (.inr (1, fs))) : pm_call L xs (d + 1) m_Asks_traced [.ref r0, .int i1] σ = zE L xs d K_Asks_traced 0 [some (.ref r0), some (.int i1)] [] σ := pm_call_of 1 1 2 rfl rfl (pm_rcI h rfl) rfl rfl
theorem C_Eggs_count (L : Nat) (xs : Nat → Int32) (d : Nat) (σ : pm_H) (r0 : Nat) (i1 : Int32) {fs : List Value} (h : σ[r0]? = some (.inr (7, fs))) : pm_call L xs (d + 1) m_Eggs_count [.ref r0, .int i1] σ = zE L xs d K_Eggs_count 0 [some (.ref r0), some (.int i1)] [] σ := pm_call_of 1 7 2 rfl rfl (pm_rcI h rfl) rfl rfl
theorem C_Rows_present (L : Nat) (xs : Nat → Int32) (d : Nat) (σ : pm_H) (r0 : Nat) {fs : List Value} (h : σ[r0]? = some (.inr (3, fs))) : pm_call L xs (d + 1) m_Rows_present [.ref r0] σ = zE L xs d K_Rows_present 0 [some (.ref r0), none, none] [] σ := pm_call_of 1 3 3 rfl rfl (pm_rcI h rfl) rfl rfl
theorem C_Eggs_status (L : Nat) (xs : Nat → Int32) (d : Nat) (σ : pm_H) (r0 : Nat) {fs : List Value} (h : σ[r0]? = some (.inr (7, fs))) : pm_call L xs (d + 1) m_Eggs_status [.ref r0] σ = zE L xs d K_Eggs_status 0 [some (.ref r0)] [] σ := pm_call_of 1 7 1 rfl rfl (pm_rcI h rfl) rfl rfl
theorem C_Model_init (L : Nat) (xs : Nat → Int32) (d : Nat) (σ : pm_H) (r0 : Nat) : pm_call L xs (d + 1) m_Model_init [.ref r0] σ = zE L xs d K_Model_init 0 [some (.ref r0)] [] σ := pm_call_of 2 8 1 rfl rfl rfl rfl rfl
theorem C_Model_row (L : Nat) (xs : Nat → Int32) (d : Nat) (σ : pm_H) (r0 : Nat) (i1 : Int32) (i2 : Int32) (i3 : Int32) {fs : List Value} (h : σ[r0]? = some (.inr (8, fs))) : pm_call L xs (d + 1) m_Model_row [.ref r0, .int i1, .int i2, .int i3] σ = zE L xs d K_Model_row 0 [some (.ref r0), some (.int i1), some (.int i2), some (.int i3), none] [] σ := pm_call_of 1 8 5 rfl rfl (pm_rcI h rfl) rfl rfl
theorem C_Model_isRow (L : Nat) (xs : Nat → Int32) (d : Nat) (σ : pm_H) (i0 : Int32) : pm_call L xs (d + 1) m_Model_isRow [.int i0] σ = zE L xs d K_Model_isRow 0 [some (.int i0)] [] σ := pm_call_of 0 8 1 rfl rfl rfl rfl rfl
theorem C_Model_in (L : Nat) (xs : Nat → Int32) (d : Nat) (σ : pm_H) (j0 : Int64) (j2 : Int64) (j4 : Int64) : pm_call L xs (d + 1) m_Model_in [.long j0, .long j2, .long j4] σ = zE L xs d K_Model_in 0 [some (.long j0), none, some (.long j2), none, some (.long j4), none] [] σ := pm_call_of 0 8 6 rfl rfl rfl rfl rfl
theorem C_Model_finding (L : Nat) (xs : Nat → Int32) (d : Nat) (σ : pm_H) (r0 : Nat) (i1 : Int32) {fs : List Value} (h : σ[r0]? = some (.inr (8, fs))) : pm_call L xs (d + 1) m_Model_finding [.ref r0, .int i1] σ = zE L xs d K_Model_finding 0 [some (.ref r0), some (.int i1)] [] σ := pm_call_of 1 8 2 rfl rfl (pm_rcI h rfl) rfl rfl
theorem C_Model_set (L : Nat) (xs : Nat → Int32) (d : Nat) (σ : pm_H) (r0 : Nat) (i1 : Int32) (i2 : Int32) (i3 : Int32) {fs : List Value} (h : σ[r0]? = some (.inr (8, fs))) : pm_call L xs (d + 1) m_Model_set [.ref r0, .int i1, .int i2, .int i3] σ = zE L xs d K_Model_set 0 [some (.ref r0), some (.int i1), some (.int i2), some (.int i3)] [] σ := pm_call_of 1 8 4 rfl rfl (pm_rcI h rfl) rfl rfl
theorem C_Model_copy (L : Nat) (xs : Nat → Int32) (d : Nat) (σ : pm_H) (r0 : Nat) (i1 : Int32) (i2 : Int32) (i3 : Int32) (i4 : Int32) (i5 : Int32) {fs : List Value} (h : σ[r0]? = some (.inr (8, fs))) : pm_call L xs (d + 1) m_Model_copy [.ref r0, .int i1, .int i2, .int i3, .int i4, .int i5] σ = zE L xs d K_Model_copy 0 [some (.ref r0), some (.int i1), some (.int i2), some (.int i3), some (.int i4), some (.int i5), none, none, none] [] σ := pm_call_of 1 8 9 rfl rfl (pm_rcI h rfl) rfl rfl
theorem C_Model_drop (L : Nat) (xs : Nat → Int32) (d : Nat) (σ : pm_H) (r0 : Nat) (i1 : Int32) {fs : List Value} (h : σ[r0]? = some (.inr (8, fs))) : pm_call L xs (d + 1) m_Model_drop [.ref r0, .int i1] σ = zE L xs d K_Model_drop 0 [some (.ref r0), some (.int i1)] [] σ := pm_call_of 1 8 2 rfl rfl (pm_rcI h rfl) rfl rfl
theorem C_Model_feed (L : Nat) (xs : Nat → Int32) (d : Nat) (σ : pm_H) (r0 : Nat) (i1 : Int32) {fs : List Value} (h : σ[r0]? = some (.inr (8, fs))) : pm_call L xs (d + 1) m_Model_feed [.ref r0, .int i1] σ = zE L xs d K_Model_feed 0 [some (.ref r0), some (.int i1)] [] σ := pm_call_of 1 8 2 rfl rfl (pm_rcI h rfl) rfl rfl
theorem C_Model_fault (L : Nat) (xs : Nat → Int32) (d : Nat) (σ : pm_H) (r0 : Nat) {fs : List Value} (h : σ[r0]? = some (.inr (8, fs))) : pm_call L xs (d + 1) m_Model_fault [.ref r0] σ = zE L xs d K_Model_fault 0 [some (.ref r0)] [] σ := pm_call_of 1 8 1 rfl rfl (pm_rcI h rfl) rfl rfl
theorem C_Model_shop (L : Nat) (xs : Nat → Int32) (d : Nat) (σ : pm_H) (r0 : Nat) {fs : List Value} (h : σ[r0]? = some (.inr (8, fs))) : pm_call L xs (d + 1) m_Model_shop [.ref r0] σ = zE L xs d K_Model_shop 0 [some (.ref r0), none] [] σ := pm_call_of 1 8 2 rfl rfl (pm_rcI h rfl) rfl rfl
theorem C_Model_begin (L : Nat) (xs : Nat → Int32) (d : Nat) (σ : pm_H) (r0 : Nat) {fs : List Value} (h : σ[r0]? = some (.inr (8, fs))) : pm_call L xs (d + 1) m_Model_begin [.ref r0] σ = zE L xs d K_Model_begin 0 [some (.ref r0)] [] σ := pm_call_of 1 8 1 rfl rfl (pm_rcI h rfl) rfl rfl
theorem C_Model_nextToken (L : Nat) (xs : Nat → Int32) (d : Nat) (σ : pm_H) (r0 : Nat) {fs : List Value} (h : σ[r0]? = some (.inr (8, fs))) : pm_call L xs (d + 1) m_Model_nextToken [.ref r0] σ = zE L xs d K_Model_nextToken 0 [some (.ref r0)] [] σ := pm_call_of 1 8 1 rfl rfl (pm_rcI h rfl) rfl rfl
theorem C_Model_isLetter (L : Nat) (xs : Nat → Int32) (d : Nat) (σ : pm_H) (r0 : Nat) (i1 : Int32) {fs : List Value} (h : σ[r0]? = some (.inr (8, fs))) : pm_call L xs (d + 1) m_Model_isLetter [.ref r0, .int i1] σ = zE L xs d K_Model_isLetter 0 [some (.ref r0), some (.int i1)] [] σ := pm_call_of 1 8 2 rfl rfl (pm_rcI h rfl) rfl rfl
theorem C_Model_must (L : Nat) (xs : Nat → Int32) (d : Nat) (σ : pm_H) (r0 : Nat) (i1 : Int32) {fs : List Value} (h : σ[r0]? = some (.inr (8, fs))) : pm_call L xs (d + 1) m_Model_must [.ref r0, .int i1] σ = zE L xs d K_Model_must 0 [some (.ref r0), some (.int i1)] [] σ := pm_call_of 1 8 2 rfl rfl (pm_rcI h rfl) rfl rfl
theorem C_Model_bad (L : Nat) (xs : Nat → Int32) (d : Nat) (σ : pm_H) (r0 : Nat) (i1 : Int32) {fs : List Value} (h : σ[r0]? = some (.inr (8, fs))) : pm_call L xs (d + 1) m_Model_bad [.ref r0, .int i1] σ = zE L xs d K_Model_bad 0 [some (.ref r0), some (.int i1)] [] σ := pm_call_of 1 8 2 rfl rfl (pm_rcI h rfl) rfl rfl
theorem C_Model_number (L : Nat) (xs : Nat → Int32) (d : Nat) (σ : pm_H) (r0 : Nat) (i1 : Int32) (i2 : Int32) {fs : List Value} (h : σ[r0]? = some (.inr (8, fs))) : pm_call L xs (d + 1) m_Model_number [.ref r0, .int i1, .int i2] σ = zE L xs d K_Model_number 0 [some (.ref r0), some (.int i1), some (.int i2), none] [] σ := pm_call_of 1 8 4 rfl rfl (pm_rcI h rfl) rfl rfl
theorem C_Model_mustSign (L : Nat) (xs : Nat → Int32) (d : Nat) (σ : pm_H) (r0 : Nat) (i1 : Int32) {fs : List Value} (h : σ[r0]? = some (.inr (8, fs))) : pm_call L xs (d + 1) m_Model_mustSign [.ref r0, .int i1] σ = zE L xs d K_Model_mustSign 0 [some (.ref r0), some (.int i1)] [] σ := pm_call_of 1 8 2 rfl rfl (pm_rcI h rfl) rfl rfl
theorem C_Model_isSort (L : Nat) (xs : Nat → Int32) (d : Nat) (σ : pm_H) (r0 : Nat) {fs : List Value} (h : σ[r0]? = some (.inr (8, fs))) : pm_call L xs (d + 1) m_Model_isSort [.ref r0] σ = zE L xs d K_Model_isSort 0 [some (.ref r0)] [] σ := pm_call_of 1 8 1 rfl rfl (pm_rcI h rfl) rfl rfl
theorem C_Model_kindBy (L : Nat) (xs : Nat → Int32) (d : Nat) (σ : pm_H) (i0 : Int32) : pm_call L xs (d + 1) m_Model_kindBy [.int i0] σ = zE L xs d K_Model_kindBy 0 [some (.int i0)] [] σ := pm_call_of 0 8 1 rfl rfl rfl rfl rfl
theorem C_Model_readThing (L : Nat) (xs : Nat → Int32) (d : Nat) (σ : pm_H) (r0 : Nat) {fs : List Value} (h : σ[r0]? = some (.inr (8, fs))) : pm_call L xs (d + 1) m_Model_readThing [.ref r0] σ = zE L xs d K_Model_readThing 0 [some (.ref r0), none, none, none, none] [] σ := pm_call_of 1 8 5 rfl rfl (pm_rcI h rfl) rfl rfl
theorem C_Model_failed (L : Nat) (xs : Nat → Int32) (d : Nat) (σ : pm_H) (r0 : Nat) {fs : List Value} (h : σ[r0]? = some (.inr (8, fs))) : pm_call L xs (d + 1) m_Model_failed [.ref r0] σ = zE L xs d K_Model_failed 0 [some (.ref r0)] [] σ := pm_call_of 1 8 1 rfl rfl (pm_rcI h rfl) rfl rfl
theorem C_Model_beeps (L : Nat) (xs : Nat → Int32) (d : Nat) (σ : pm_H) (r0 : Nat) (i1 : Int32) {fs : List Value} (h : σ[r0]? = some (.inr (8, fs))) : pm_call L xs (d + 1) m_Model_beeps [.ref r0, .int i1] σ = zE L xs d K_Model_beeps 0 [some (.ref r0), some (.int i1), none] [] σ := pm_call_of 1 8 3 rfl rfl (pm_rcI h rfl) rfl rfl
theorem C_Model_isThere (L : Nat) (xs : Nat → Int32) (d : Nat) (σ : pm_H) (r0 : Nat) {fs : List Value} (h : σ[r0]? = some (.inr (8, fs))) : pm_call L xs (d + 1) m_Model_isThere [.ref r0] σ = zE L xs d K_Model_isThere 0 [some (.ref r0)] [] σ := pm_call_of 1 8 1 rfl rfl (pm_rcI h rfl) rfl rfl
theorem C_Model_keep (L : Nat) (xs : Nat → Int32) (d : Nat) (σ : pm_H) (r0 : Nat) {fs : List Value} (h : σ[r0]? = some (.inr (8, fs))) : pm_call L xs (d + 1) m_Model_keep [.ref r0] σ = zE L xs d K_Model_keep 0 [some (.ref r0), none] [] σ := pm_call_of 1 8 2 rfl rfl (pm_rcI h rfl) rfl rfl
theorem C_Model_beep (L : Nat) (xs : Nat → Int32) (d : Nat) (σ : pm_H) (r0 : Nat) : pm_call L xs (d + 1) m_Model_beep [.ref r0] σ = zE L xs d K_Model_beep 0 [some (.ref r0), none] [] σ := pm_call_of 0 8 2 rfl rfl rfl rfl rfl
theorem C_Model_firstOf (L : Nat) (xs : Nat → Int32) (d : Nat) (σ : pm_H) (r0 : Nat) (i1 : Int32) : pm_call L xs (d + 1) m_Model_firstOf [.ref r0, .int i1] σ = zE L xs d K_Model_firstOf 0 [some (.ref r0), some (.int i1), none, none, none] [] σ := pm_call_of 0 8 5 rfl rfl rfl rfl rfl
theorem C_Model_of (L : Nat) (xs : Nat → Int32) (d : Nat) (σ : pm_H) (r0 : Nat) (i1 : Int32) (i2 : Int32) : pm_call L xs (d + 1) m_Model_of [.ref r0, .int i1, .int i2] σ = zE L xs d K_Model_of 0 [some (.ref r0), some (.int i1), some (.int i2)] [] σ := pm_call_of 0 8 3 rfl rfl rfl rfl rfl
theorem C_Model_comes (L : Nat) (xs : Nat → Int32) (d : Nat) (σ : pm_H) (r0 : Nat) (i1 : Int32) (i2 : Int32) : pm_call L xs (d + 1) m_Model_comes [.ref r0, .int i1, .int i2] σ = zE L xs d K_Model_comes 0 [some (.ref r0), some (.int i1), some (.int i2)] [] σ := pm_call_of 0 8 3 rfl rfl rfl rfl rfl
theorem C_Model_things (L : Nat) (xs : Nat → Int32) (d : Nat) (σ : pm_H) (r0 : Nat) (i1 : Int32) : pm_call L xs (d + 1) m_Model_things [.ref r0, .int i1] σ = zE L xs d K_Model_things 0 [some (.ref r0), some (.int i1), none, none] [] σ := pm_call_of 0 8 4 rfl rfl rfl rfl rfl
theorem C_Model_bits (L : Nat) (xs : Nat → Int32) (d : Nat) (σ : pm_H) (i0 : Int32) : pm_call L xs (d + 1) m_Model_bits [.int i0] σ = zE L xs d K_Model_bits 0 [some (.int i0), none, none] [] σ := pm_call_of 0 8 3 rfl rfl rfl rfl rfl
theorem C_Model_pack (L : Nat) (xs : Nat → Int32) (d : Nat) (σ : pm_H) (r0 : Nat) (i1 : Int32) {fs : List Value} (h : σ[r0]? = some (.inr (8, fs))) : pm_call L xs (d + 1) m_Model_pack [.ref r0, .int i1] σ = zE L xs d K_Model_pack 0 [some (.ref r0), some (.int i1), none] [] σ := pm_call_of 1 8 3 rfl rfl (pm_rcI h rfl) rfl rfl
theorem C_Model_isBag (L : Nat) (xs : Nat → Int32) (d : Nat) (σ : pm_H) (r0 : Nat) (i1 : Int32) {fs : List Value} (h : σ[r0]? = some (.inr (8, fs))) : pm_call L xs (d + 1) m_Model_isBag [.ref r0, .int i1] σ = zE L xs d K_Model_isBag 0 [some (.ref r0), some (.int i1)] [] σ := pm_call_of 1 8 2 rfl rfl (pm_rcI h rfl) rfl rfl
theorem C_Model_topOf (L : Nat) (xs : Nat → Int32) (d : Nat) (σ : pm_H) (r0 : Nat) (i1 : Int32) : pm_call L xs (d + 1) m_Model_topOf [.ref r0, .int i1] σ = zE L xs d K_Model_topOf 0 [some (.ref r0), some (.int i1), none, none, none] [] σ := pm_call_of 0 8 5 rfl rfl rfl rfl rfl
theorem C_Model_packs (L : Nat) (xs : Nat → Int32) (d : Nat) (σ : pm_H) (r0 : Nat) (i1 : Int32) (i2 : Int32) : pm_call L xs (d + 1) m_Model_packs [.ref r0, .int i1, .int i2] σ = zE L xs d K_Model_packs 0 [some (.ref r0), some (.int i1), some (.int i2)] [] σ := pm_call_of 0 8 3 rfl rfl rfl rfl rfl
theorem C_Model_crush (L : Nat) (xs : Nat → Int32) (d : Nat) (σ : pm_H) (r0 : Nat) : pm_call L xs (d + 1) m_Model_crush [.ref r0] σ = zE L xs d K_Model_crush 0 [some (.ref r0), none] [] σ := pm_call_of 0 8 2 rfl rfl rfl rfl rfl
theorem C_Model_loadOf (L : Nat) (xs : Nat → Int32) (d : Nat) (σ : pm_H) (r0 : Nat) (i1 : Int32) : pm_call L xs (d + 1) m_Model_loadOf [.ref r0, .int i1] σ = zE L xs d K_Model_loadOf 0 [some (.ref r0), some (.int i1), none, none] [] σ := pm_call_of 0 8 4 rfl rfl rfl rfl rfl
theorem C_Model_isAbove (L : Nat) (xs : Nat → Int32) (d : Nat) (σ : pm_H) (r0 : Nat) (i1 : Int32) (i2 : Int32) : pm_call L xs (d + 1) m_Model_isAbove [.ref r0, .int i1, .int i2] σ = zE L xs d K_Model_isAbove 0 [some (.ref r0), some (.int i1), some (.int i2)] [] σ := pm_call_of 0 8 3 rfl rfl rfl rfl rfl
theorem C_Model_presses (L : Nat) (xs : Nat → Int32) (d : Nat) (σ : pm_H) (r0 : Nat) (i1 : Int32) : pm_call L xs (d + 1) m_Model_presses [.ref r0, .int i1] σ = zE L xs d K_Model_presses 0 [some (.ref r0), some (.int i1), none] [] σ := pm_call_of 0 8 3 rfl rfl rfl rfl rfl
theorem C_Model_bears (L : Nat) (xs : Nat → Int32) (d : Nat) (σ : pm_H) (r0 : Nat) (i1 : Int32) : pm_call L xs (d + 1) m_Model_bears [.ref r0, .int i1] σ = zE L xs d K_Model_bears 0 [some (.ref r0), some (.int i1), none] [] σ := pm_call_of 0 8 3 rfl rfl rfl rfl rfl
theorem C_Model_layBy (L : Nat) (xs : Nat → Int32) (d : Nat) (σ : pm_H) (r0 : Nat) {fs : List Value} (h : σ[r0]? = some (.inr (8, fs))) : pm_call L xs (d + 1) m_Model_layBy [.ref r0] σ = zE L xs d K_Model_layBy 0 [some (.ref r0), none] [] σ := pm_call_of 1 8 2 rfl rfl (pm_rcI h rfl) rfl rfl
theorem C_Model_putIn (L : Nat) (xs : Nat → Int32) (d : Nat) (σ : pm_H) (r0 : Nat) (i1 : Int32) (i2 : Int32) {fs : List Value} (h : σ[r0]? = some (.inr (8, fs))) : pm_call L xs (d + 1) m_Model_putIn [.ref r0, .int i1, .int i2] σ = zE L xs d K_Model_putIn 0 [some (.ref r0), some (.int i1), some (.int i2), none] [] σ := pm_call_of 1 8 4 rfl rfl (pm_rcI h rfl) rfl rfl
theorem C_Model_isThing (L : Nat) (xs : Nat → Int32) (d : Nat) (σ : pm_H) (r0 : Nat) (i1 : Int32) {fs : List Value} (h : σ[r0]? = some (.inr (8, fs))) : pm_call L xs (d + 1) m_Model_isThing [.ref r0, .int i1] σ = zE L xs d K_Model_isThing 0 [some (.ref r0), some (.int i1)] [] σ := pm_call_of 1 8 2 rfl rfl (pm_rcI h rfl) rfl rfl
theorem C_Model_takeOut (L : Nat) (xs : Nat → Int32) (d : Nat) (σ : pm_H) (r0 : Nat) (i1 : Int32) {fs : List Value} (h : σ[r0]? = some (.inr (8, fs))) : pm_call L xs (d + 1) m_Model_takeOut [.ref r0, .int i1] σ = zE L xs d K_Model_takeOut 0 [some (.ref r0), some (.int i1), none] [] σ := pm_call_of 1 8 3 rfl rfl (pm_rcI h rfl) rfl rfl
theorem C_Model_swap (L : Nat) (xs : Nat → Int32) (d : Nat) (σ : pm_H) (r0 : Nat) {fs : List Value} (h : σ[r0]? = some (.inr (8, fs))) : pm_call L xs (d + 1) m_Model_swap [.ref r0] σ = zE L xs d K_Model_swap 0 [some (.ref r0), none, none, none, none] [] σ := pm_call_of 1 8 5 rfl rfl (pm_rcI h rfl) rfl rfl
theorem C_Model_undo (L : Nat) (xs : Nat → Int32) (d : Nat) (σ : pm_H) (r0 : Nat) {fs : List Value} (h : σ[r0]? = some (.inr (8, fs))) : pm_call L xs (d + 1) m_Model_undo [.ref r0] σ = zE L xs d K_Model_undo 0 [some (.ref r0), none] [] σ := pm_call_of 1 8 2 rfl rfl (pm_rcI h rfl) rfl rfl
theorem C_Model_thing (L : Nat) (xs : Nat → Int32) (d : Nat) (σ : pm_H) (r0 : Nat) (i1 : Int32) (i2 : Int32) {fs : List Value} (h : σ[r0]? = some (.inr (8, fs))) : pm_call L xs (d + 1) m_Model_thing [.ref r0, .int i1, .int i2] σ = zE L xs d K_Model_thing 0 [some (.ref r0), some (.int i1), some (.int i2)] [] σ := pm_call_of 1 8 3 rfl rfl (pm_rcI h rfl) rfl rfl
theorem C_Model_isWarm (L : Nat) (xs : Nat → Int32) (d : Nat) (σ : pm_H) (r0 : Nat) (i1 : Int32) : pm_call L xs (d + 1) m_Model_isWarm [.ref r0, .int i1] σ = zE L xs d K_Model_isWarm 0 [some (.ref r0), some (.int i1)] [] σ := pm_call_of 0 8 2 rfl rfl rfl rfl rfl
theorem C_Model_bag (L : Nat) (xs : Nat → Int32) (d : Nat) (σ : pm_H) (r0 : Nat) (i1 : Int32) (i2 : Int32) {fs : List Value} (h : σ[r0]? = some (.inr (8, fs))) : pm_call L xs (d + 1) m_Model_bag [.ref r0, .int i1, .int i2] σ = zE L xs d K_Model_bag 0 [some (.ref r0), some (.int i1), some (.int i2)] [] σ := pm_call_of 1 8 3 rfl rfl (pm_rcI h rfl) rfl rfl
theorem C_Model_weighs (L : Nat) (xs : Nat → Int32) (d : Nat) (σ : pm_H) (r0 : Nat) (i1 : Int32) : pm_call L xs (d + 1) m_Model_weighs [.ref r0, .int i1] σ = zE L xs d K_Model_weighs 0 [some (.ref r0), some (.int i1), none, none] [] σ := pm_call_of 0 8 4 rfl rfl rfl rfl rfl
theorem C_Model_isTorn (L : Nat) (xs : Nat → Int32) (d : Nat) (σ : pm_H) (r0 : Nat) (i1 : Int32) : pm_call L xs (d + 1) m_Model_isTorn [.ref r0, .int i1] σ = zE L xs d K_Model_isTorn 0 [some (.ref r0), some (.int i1)] [] σ := pm_call_of 0 8 2 rfl rfl rfl rfl rfl
theorem C_Model_stand (L : Nat) (xs : Nat → Int32) (d : Nat) (σ : pm_H) (r0 : Nat) (i1 : Int32) {fs : List Value} (h : σ[r0]? = some (.inr (8, fs))) : pm_call L xs (d + 1) m_Model_stand [.ref r0, .int i1] σ = zE L xs d K_Model_stand 0 [some (.ref r0), some (.int i1), none, none] [] σ := pm_call_of 1 8 4 rfl rfl (pm_rcI h rfl) rfl rfl
theorem C_Model_broken (L : Nat) (xs : Nat → Int32) (d : Nat) (σ : pm_H) (r0 : Nat) : pm_call L xs (d + 1) m_Model_broken [.ref r0] σ = zE L xs d K_Model_broken 0 [some (.ref r0), none, none] [] σ := pm_call_of 0 8 3 rfl rfl rfl rfl rfl
theorem C_Model_least (L : Nat) (xs : Nat → Int32) (d : Nat) (σ : pm_H) (r0 : Nat) (i1 : Int32) {fs : List Value} (h : σ[r0]? = some (.inr (8, fs))) : pm_call L xs (d + 1) m_Model_least [.ref r0, .int i1] σ = zE L xs d K_Model_least 0 [some (.ref r0), some (.int i1), none] [] σ := pm_call_of 1 8 3 rfl rfl (pm_rcI h rfl) rfl rfl
theorem C_Model_seekLeast (L : Nat) (xs : Nat → Int32) (d : Nat) (σ : pm_H) (r0 : Nat) (i1 : Int32) {fs : List Value} (h : σ[r0]? = some (.inr (8, fs))) : pm_call L xs (d + 1) m_Model_seekLeast [.ref r0, .int i1] σ = zE L xs d K_Model_seekLeast 0 [some (.ref r0), some (.int i1), none, none, none, none, none] [] σ := pm_call_of 1 8 7 rfl rfl (pm_rcI h rfl) rfl rfl
theorem C_Model_lineUp (L : Nat) (xs : Nat → Int32) (d : Nat) (σ : pm_H) (r0 : Nat) (i1 : Int32) {fs : List Value} (h : σ[r0]? = some (.inr (8, fs))) : pm_call L xs (d + 1) m_Model_lineUp [.ref r0, .int i1] σ = zE L xs d K_Model_lineUp 0 [some (.ref r0), some (.int i1), none, none, none, none, none, none] [] σ := pm_call_of 1 8 8 rfl rfl (pm_rcI h rfl) rfl rfl
theorem C_Model_waysOf (L : Nat) (xs : Nat → Int32) (d : Nat) (σ : pm_H) (r0 : Nat) {fs : List Value} (h : σ[r0]? = some (.inr (8, fs))) : pm_call L xs (d + 1) m_Model_waysOf [.ref r0] σ = zE L xs d K_Model_waysOf 0 [some (.ref r0), none, none] [] σ := pm_call_of 1 8 3 rfl rfl (pm_rcI h rfl) rfl rfl
theorem C_Model_layWay (L : Nat) (xs : Nat → Int32) (d : Nat) (σ : pm_H) (r0 : Nat) (i1 : Int32) {fs : List Value} (h : σ[r0]? = some (.inr (8, fs))) : pm_call L xs (d + 1) m_Model_layWay [.ref r0, .int i1] σ = zE L xs d K_Model_layWay 0 [some (.ref r0), some (.int i1), none] [] σ := pm_call_of 1 8 3 rfl rfl (pm_rcI h rfl) rfl rfl
theorem C_Model_layThen (L : Nat) (xs : Nat → Int32) (d : Nat) (σ : pm_H) (r0 : Nat) {fs : List Value} (h : σ[r0]? = some (.inr (8, fs))) : pm_call L xs (d + 1) m_Model_layThen [.ref r0] σ = zE L xs d K_Model_layThen 0 [some (.ref r0), none] [] σ := pm_call_of 1 8 2 rfl rfl (pm_rcI h rfl) rfl rfl
theorem C_Model_bagBy (L : Nat) (xs : Nat → Int32) (d : Nat) (σ : pm_H) (r0 : Nat) (i1 : Int32) (i2 : Int32) {fs : List Value} (h : σ[r0]? = some (.inr (8, fs))) : pm_call L xs (d + 1) m_Model_bagBy [.ref r0, .int i1, .int i2] σ = zE L xs d K_Model_bagBy 0 [some (.ref r0), some (.int i1), some (.int i2), none, none] [] σ := pm_call_of 1 8 5 rfl rfl (pm_rcI h rfl) rfl rfl
theorem C_Model_heaviest (L : Nat) (xs : Nat → Int32) (d : Nat) (σ : pm_H) (r0 : Nat) : pm_call L xs (d + 1) m_Model_heaviest [.ref r0] σ = zE L xs d K_Model_heaviest 0 [some (.ref r0), none, none] [] σ := pm_call_of 0 8 3 rfl rfl rfl rfl rfl
theorem C_Model_torn (L : Nat) (xs : Nat → Int32) (d : Nat) (σ : pm_H) (r0 : Nat) {fs : List Value} (h : σ[r0]? = some (.inr (8, fs))) : pm_call L xs (d + 1) m_Model_torn [.ref r0] σ = zE L xs d K_Model_torn 0 [some (.ref r0), none, none, none, none, none] [] σ := pm_call_of 1 8 6 rfl rfl (pm_rcI h rfl) rfl rfl
theorem C_Model_give (L : Nat) (xs : Nat → Int32) (d : Nat) (σ : pm_H) (r0 : Nat) (i1 : Int32) {fs : List Value} (h : σ[r0]? = some (.inr (8, fs))) : pm_call L xs (d + 1) m_Model_give [.ref r0, .int i1] σ = zE L xs d K_Model_give 0 [some (.ref r0), some (.int i1), none, none, none, none] [] σ := pm_call_of 1 8 6 rfl rfl (pm_rcI h rfl) rfl rfl
theorem C_Model_order (L : Nat) (xs : Nat → Int32) (d : Nat) (σ : pm_H) (r0 : Nat) (i1 : Int32) (i2 : Int32) {fs : List Value} (h : σ[r0]? = some (.inr (8, fs))) : pm_call L xs (d + 1) m_Model_order [.ref r0, .int i1, .int i2] σ = zE L xs d K_Model_order 0 [some (.ref r0), some (.int i1), some (.int i2), none, none, none, none, none] [] σ := pm_call_of 1 8 8 rfl rfl (pm_rcI h rfl) rfl rfl
theorem C_Model_nextRow (L : Nat) (xs : Nat → Int32) (d : Nat) (σ : pm_H) (r0 : Nat) (i1 : Int32) {fs : List Value} (h : σ[r0]? = some (.inr (8, fs))) : pm_call L xs (d + 1) m_Model_nextRow [.ref r0, .int i1] σ = zE L xs d K_Model_nextRow 0 [some (.ref r0), some (.int i1), none, none, none, none, none] [] σ := pm_call_of 1 8 7 rfl rfl (pm_rcI h rfl) rfl rfl
theorem C_Model_top (L : Nat) (xs : Nat → Int32) (d : Nat) (σ : pm_H) (r0 : Nat) (i1 : Int32) {fs : List Value} (h : σ[r0]? = some (.inr (8, fs))) : pm_call L xs (d + 1) m_Model_top [.ref r0, .int i1] σ = zE L xs d K_Model_top 0 [some (.ref r0), some (.int i1), none, none] [] σ := pm_call_of 1 8 4 rfl rfl (pm_rcI h rfl) rfl rfl
theorem C_Model_spare (L : Nat) (xs : Nat → Int32) (d : Nat) (σ : pm_H) (r0 : Nat) (i1 : Int32) {fs : List Value} (h : σ[r0]? = some (.inr (8, fs))) : pm_call L xs (d + 1) m_Model_spare [.ref r0, .int i1] σ = zE L xs d K_Model_spare 0 [some (.ref r0), some (.int i1), none] [] σ := pm_call_of 1 8 3 rfl rfl (pm_rcI h rfl) rfl rfl
theorem C_Model_beside (L : Nat) (xs : Nat → Int32) (d : Nat) (σ : pm_H) (r0 : Nat) (i1 : Int32) (i2 : Int32) {fs : List Value} (h : σ[r0]? = some (.inr (8, fs))) : pm_call L xs (d + 1) m_Model_beside [.ref r0, .int i1, .int i2] σ = zE L xs d K_Model_beside 0 [some (.ref r0), some (.int i1), some (.int i2), none, none, none] [] σ := pm_call_of 1 8 6 rfl rfl (pm_rcI h rfl) rfl rfl
theorem C_Model_even (L : Nat) (xs : Nat → Int32) (d : Nat) (σ : pm_H) (r0 : Nat) {fs : List Value} (h : σ[r0]? = some (.inr (8, fs))) : pm_call L xs (d + 1) m_Model_even [.ref r0] σ = zE L xs d K_Model_even 0 [some (.ref r0), none, none] [] σ := pm_call_of 1 8 3 rfl rfl (pm_rcI h rfl) rfl rfl
theorem C_Model_astray (L : Nat) (xs : Nat → Int32) (d : Nat) (σ : pm_H) (r0 : Nat) (i1 : Int32) (i2 : Int32) {fs : List Value} (h : σ[r0]? = some (.inr (8, fs))) : pm_call L xs (d + 1) m_Model_astray [.ref r0, .int i1, .int i2] σ = zE L xs d K_Model_astray 0 [some (.ref r0), some (.int i1), some (.int i2), none, none, none] [] σ := pm_call_of 1 8 6 rfl rfl (pm_rcI h rfl) rfl rfl
theorem C_Model_rowFound (L : Nat) (xs : Nat → Int32) (d : Nat) (σ : pm_H) (r0 : Nat) (i1 : Int32) (i2 : Int32) (i3 : Int32) {fs : List Value} (h : σ[r0]? = some (.inr (8, fs))) : pm_call L xs (d + 1) m_Model_rowFound [.ref r0, .int i1, .int i2, .int i3] σ = zE L xs d K_Model_rowFound 0 [some (.ref r0), some (.int i1), some (.int i2), some (.int i3)] [] σ := pm_call_of 1 8 4 rfl rfl (pm_rcI h rfl) rfl rfl
theorem C_Model_weighSo (L : Nat) (xs : Nat → Int32) (d : Nat) (σ : pm_H) (r0 : Nat) (i1 : Int32) {fs : List Value} (h : σ[r0]? = some (.inr (8, fs))) : pm_call L xs (d + 1) m_Model_weighSo [.ref r0, .int i1] σ = zE L xs d K_Model_weighSo 0 [some (.ref r0), some (.int i1), none, none] [] σ := pm_call_of 1 8 4 rfl rfl (pm_rcI h rfl) rfl rfl
theorem C_Model_heavy (L : Nat) (xs : Nat → Int32) (d : Nat) (σ : pm_H) (r0 : Nat) (i1 : Int32) (i2 : Int32) (i3 : Int32) {fs : List Value} (h : σ[r0]? = some (.inr (8, fs))) : pm_call L xs (d + 1) m_Model_heavy [.ref r0, .int i1, .int i2, .int i3] σ = zE L xs d K_Model_heavy 0 [some (.ref r0), some (.int i1), some (.int i2), some (.int i3), none, none, none] [] σ := pm_call_of 1 8 7 rfl rfl (pm_rcI h rfl) rfl rfl
theorem C_Model_who (L : Nat) (xs : Nat → Int32) (d : Nat) (σ : pm_H) (r0 : Nat) (i1 : Int32) (i2 : Int32) (i3 : Int32) (i4 : Int32) {fs : List Value} (h : σ[r0]? = some (.inr (8, fs))) : pm_call L xs (d + 1) m_Model_who [.ref r0, .int i1, .int i2, .int i3, .int i4] σ = zE L xs d K_Model_who 0 [some (.ref r0), some (.int i1), some (.int i2), some (.int i3), some (.int i4), none, none, none] [] σ := pm_call_of 1 8 8 rfl rfl (pm_rcI h rfl) rfl rfl
theorem C_Model_brokenSo (L : Nat) (xs : Nat → Int32) (d : Nat) (σ : pm_H) (r0 : Nat) (i1 : Int32) {fs : List Value} (h : σ[r0]? = some (.inr (8, fs))) : pm_call L xs (d + 1) m_Model_brokenSo [.ref r0, .int i1] σ = zE L xs d K_Model_brokenSo 0 [some (.ref r0), some (.int i1), none, none] [] σ := pm_call_of 1 8 4 rfl rfl (pm_rcI h rfl) rfl rfl
theorem C_Model_colds (L : Nat) (xs : Nat → Int32) (d : Nat) (σ : pm_H) (r0 : Nat) (i1 : Int32) {fs : List Value} (h : σ[r0]? = some (.inr (8, fs))) : pm_call L xs (d + 1) m_Model_colds [.ref r0, .int i1] σ = zE L xs d K_Model_colds 0 [some (.ref r0), some (.int i1), none, none, none, none, none] [] σ := pm_call_of 1 8 7 rfl rfl (pm_rcI h rfl) rfl rfl
theorem C_Model_tears (L : Nat) (xs : Nat → Int32) (d : Nat) (σ : pm_H) (r0 : Nat) (i1 : Int32) (i2 : Int32) (i3 : Int32) {fs : List Value} (h : σ[r0]? = some (.inr (8, fs))) : pm_call L xs (d + 1) m_Model_tears [.ref r0, .int i1, .int i2, .int i3] σ = zE L xs d K_Model_tears 0 [some (.ref r0), some (.int i1), some (.int i2), some (.int i3), none, none, none, none, none, none, none, none, none, none, none, none] [] σ := pm_call_of 1 8 16 rfl rfl (pm_rcI h rfl) rfl rfl
theorem C_Model_drawn (L : Nat) (xs : Nat → Int32) (d : Nat) (σ : pm_H) (r0 : Nat) (i1 : Int32) (i2 : Int32) (i3 : Int32) {fs : List Value} (h : σ[r0]? = some (.inr (8, fs))) : pm_call L xs (d + 1) m_Model_drawn [.ref r0, .int i1, .int i2, .int i3] σ = zE L xs d K_Model_drawn 0 [some (.ref r0), some (.int i1), some (.int i2), some (.int i3), none, none, none, none] [] σ := pm_call_of 1 8 8 rfl rfl (pm_rcI h rfl) rfl rfl
theorem C_Model_allWeigh (L : Nat) (xs : Nat → Int32) (d : Nat) (σ : pm_H) (r0 : Nat) : pm_call L xs (d + 1) m_Model_allWeigh [.ref r0] σ = zE L xs d K_Model_allWeigh 0 [some (.ref r0), none, none] [] σ := pm_call_of 0 8 3 rfl rfl rfl rfl rfl
theorem C_Model_image (L : Nat) (xs : Nat → Int32) (d : Nat) (σ : pm_H) (r0 : Nat) (i1 : Int32) {fs : List Value} (h : σ[r0]? = some (.inr (8, fs))) : pm_call L xs (d + 1) m_Model_image [.ref r0, .int i1] σ = zE L xs d K_Model_image 0 [some (.ref r0), some (.int i1), none] [] σ := pm_call_of 1 8 3 rfl rfl (pm_rcI h rfl) rfl rfl
theorem C_Model_restore (L : Nat) (xs : Nat → Int32) (d : Nat) (σ : pm_H) (r0 : Nat) (i1 : Int32) {fs : List Value} (h : σ[r0]? = some (.inr (8, fs))) : pm_call L xs (d + 1) m_Model_restore [.ref r0, .int i1] σ = zE L xs d K_Model_restore 0 [some (.ref r0), some (.int i1), none] [] σ := pm_call_of 1 8 3 rfl rfl (pm_rcI h rfl) rfl rfl
theorem C_Model_kind (L : Nat) (xs : Nat → Int32) (d : Nat) (σ : pm_H) (r0 : Nat) (i1 : Int32) {fs : List Value} (h : σ[r0]? = some (.inr (8, fs))) : pm_call L xs (d + 1) m_Model_kind [.ref r0, .int i1] σ = zE L xs d K_Model_kind 0 [some (.ref r0), some (.int i1)] [] σ := pm_call_of 1 8 2 rfl rfl (pm_rcI h rfl) rfl rfl
theorem C_Model_as (L : Nat) (xs : Nat → Int32) (d : Nat) (σ : pm_H) (r0 : Nat) (i1 : Int32) (i2 : Int32) {fs : List Value} (h : σ[r0]? = some (.inr (8, fs))) : pm_call L xs (d + 1) m_Model_as [.ref r0, .int i1, .int i2] σ = zE L xs d K_Model_as 0 [some (.ref r0), some (.int i1), some (.int i2)] [] σ := pm_call_of 1 8 3 rfl rfl (pm_rcI h rfl) rfl rfl
theorem C_Model_isOf (L : Nat) (xs : Nat → Int32) (d : Nat) (σ : pm_H) (i0 : Int32) (i1 : Int32) : pm_call L xs (d + 1) m_Model_isOf [.int i0, .int i1] σ = zE L xs d K_Model_isOf 0 [some (.int i0), some (.int i1)] [] σ := pm_call_of 0 8 2 rfl rfl rfl rfl rfl
theorem C_Model_ask (L : Nat) (xs : Nat → Int32) (d : Nat) (σ : pm_H) (r0 : Nat) (i1 : Int32) (i2 : Int32) {fs : List Value} (h : σ[r0]? = some (.inr (8, fs))) : pm_call L xs (d + 1) m_Model_ask [.ref r0, .int i1, .int i2] σ = zE L xs d K_Model_ask 0 [some (.ref r0), some (.int i1), some (.int i2)] [] σ := pm_call_of 1 8 3 rfl rfl (pm_rcI h rfl) rfl rfl
theorem C_Model_sizeOf (L : Nat) (xs : Nat → Int32) (d : Nat) (σ : pm_H) (r0 : Nat) (i1 : Int32) {fs : List Value} (h : σ[r0]? = some (.inr (8, fs))) : pm_call L xs (d + 1) m_Model_sizeOf [.ref r0, .int i1] σ = zE L xs d K_Model_sizeOf 0 [some (.ref r0), some (.int i1), none, none] [] σ := pm_call_of 1 8 4 rfl rfl (pm_rcI h rfl) rfl rfl
theorem C_Model_softSize (L : Nat) (xs : Nat → Int32) (d : Nat) (σ : pm_H) (r0 : Nat) (i1 : Int32) {fs : List Value} (h : σ[r0]? = some (.inr (8, fs))) : pm_call L xs (d + 1) m_Model_softSize [.ref r0, .int i1] σ = zE L xs d K_Model_softSize 0 [some (.ref r0), some (.int i1), none, none] [] σ := pm_call_of 1 8 4 rfl rfl (pm_rcI h rfl) rfl rfl
theorem C_Model_began (L : Nat) (xs : Nat → Int32) (d : Nat) (σ : pm_H) (r0 : Nat) (i1 : Int32) {fs : List Value} (h : σ[r0]? = some (.inr (8, fs))) : pm_call L xs (d + 1) m_Model_began [.ref r0, .int i1] σ = zE L xs d K_Model_began 0 [some (.ref r0), some (.int i1)] [] σ := pm_call_of 1 8 2 rfl rfl (pm_rcI h rfl) rfl rfl
theorem C_Model_plainSize (L : Nat) (xs : Nat → Int32) (d : Nat) (σ : pm_H) (r0 : Nat) (i1 : Int32) {fs : List Value} (h : σ[r0]? = some (.inr (8, fs))) : pm_call L xs (d + 1) m_Model_plainSize [.ref r0, .int i1] σ = zE L xs d K_Model_plainSize 0 [some (.ref r0), some (.int i1)] [] σ := pm_call_of 1 8 2 rfl rfl (pm_rcI h rfl) rfl rfl
theorem C_Model_markOf (L : Nat) (xs : Nat → Int32) (d : Nat) (σ : pm_H) (r0 : Nat) (i1 : Int32) {fs : List Value} (h : σ[r0]? = some (.inr (8, fs))) : pm_call L xs (d + 1) m_Model_markOf [.ref r0, .int i1] σ = zE L xs d K_Model_markOf 0 [some (.ref r0), some (.int i1), none, none] [] σ := pm_call_of 1 8 4 rfl rfl (pm_rcI h rfl) rfl rfl
theorem C_Model_trace (L : Nat) (xs : Nat → Int32) (d : Nat) (σ : pm_H) (r0 : Nat) (i1 : Int32) {fs : List Value} (h : σ[r0]? = some (.inr (8, fs))) : pm_call L xs (d + 1) m_Model_trace [.ref r0, .int i1] σ = zE L xs d K_Model_trace 0 [some (.ref r0), some (.int i1)] [] σ := pm_call_of 1 8 2 rfl rfl (pm_rcI h rfl) rfl rfl
theorem C_Model_count (L : Nat) (xs : Nat → Int32) (d : Nat) (σ : pm_H) (r0 : Nat) (i1 : Int32) {fs : List Value} (h : σ[r0]? = some (.inr (8, fs))) : pm_call L xs (d + 1) m_Model_count [.ref r0, .int i1] σ = zE L xs d K_Model_count 0 [some (.ref r0), some (.int i1), none, none] [] σ := pm_call_of 1 8 4 rfl rfl (pm_rcI h rfl) rfl rfl
theorem C_Model_status (L : Nat) (xs : Nat → Int32) (d : Nat) (σ : pm_H) (r0 : Nat) {fs : List Value} (h : σ[r0]? = some (.inr (8, fs))) : pm_call L xs (d + 1) m_Model_status [.ref r0] σ = zE L xs d K_Model_status 0 [some (.ref r0)] [] σ := pm_call_of 1 8 1 rfl rfl (pm_rcI h rfl) rfl rfl
