def nc_dall (M : Nat) : Prop := nc_dchk (nc_b M) (nc_mL M) (nc_code M) = true
theorem nc_da_0 : ∀ M, M < 32 → 0 ≤ M → nc_dall M := by
  intro M h1 h2
  by_cases e0 : M = 0
  · subst e0
    exact nc_dk_X1_setAfter
  by_cases e1 : M = 1
  · subst e1
    exact nc_dk_X1_countNews
  by_cases e2 : M = 2
  · subst e2
    exact nc_dk_X2_isLie
  by_cases e3 : M = 3
  · subst e3
    exact nc_dk_X2_allCows
  by_cases e4 : M = 4
  · subst e4
    exact nc_dk_X2_allNews
  by_cases e5 : M = 5
  · subst e5
    exact nc_dk_X2_slotOf
  by_cases e6 : M = 6
  · subst e6
    exact nc_dk_X2_hedgesOf
  by_cases e7 : M = 7
  · subst e7
    exact nc_dk_X2_comesTo
  by_cases e8 : M = 8
  · subst e8
    exact nc_dk_X4_draw
  by_cases e9 : M = 9
  · subst e9
    exact nc_dk_X5_clear
  by_cases e10 : M = 10
  · subst e10
    exact nc_dk_X7_isDry
  by_cases e11 : M = 11
  · subst e11
    exact nc_dk_X7_isCurdled
  by_cases e12 : M = 12
  · subst e12
    exact nc_dk_X7_comes
  by_cases e13 : M = 13
  · subst e13
    exact nc_dk_X7_addedBy
  by_cases e14 : M = 14
  · subst e14
    exact nc_dk_X7_heardByOthers
  by_cases e15 : M = 15
  · subst e15
    exact nc_dk_X7_talking
  by_cases e16 : M = 16
  · subst e16
    exact nc_dk_X7_forget
  by_cases e17 : M = 17
  · subst e17
    exact nc_dk_X7_allPails
  by_cases e18 : M = 18
  · subst e18
    exact nc_dk_X7_pailsOn
  by_cases e19 : M = 19
  · subst e19
    exact nc_dk_X9_clear
  by_cases e20 : M = 20
  · subst e20
    exact nc_dk_X9_put
  by_cases e21 : M = 21
  · subst e21
    exact nc_dk_X9_compares
  by_cases e22 : M = 22
  · subst e22
    exact nc_dk_X10_withLetter
  by_cases e23 : M = 23
  · subst e23
    exact nc_dk_X10_isLetter
  by_cases e24 : M = 24
  · subst e24
    exact nc_dk_X10_isDigit
  by_cases e25 : M = 25
  · subst e25
    exact nc_dk_X10_append
  by_cases e26 : M = 26
  · subst e26
    exact nc_dk_X10_at
  by_cases e27 : M = 27
  · subst e27
    exact nc_dk_X10_toldWord
  by_cases e28 : M = 28
  · subst e28
    exact nc_dk_X10_add
  by_cases e29 : M = 29
  · subst e29
    exact nc_dk_X10_next
  by_cases e30 : M = 30
  · subst e30
    exact nc_dk_X10_fail
  by_cases e31 : M = 31
  · subst e31
    exact nc_dk_X10_word
  omega
theorem nc_da_1 : ∀ M, M < 64 → 32 ≤ M → nc_dall M := by
  intro M h1 h2
  by_cases e32 : M = 32
  · subst e32
    exact nc_dk_X10_isSign
  by_cases e33 : M = 33
  · subst e33
    exact nc_dk_X11_end
  by_cases e34 : M = 34
  · subst e34
    exact nc_dk_X11_fault
  by_cases e35 : M = 35
  · subst e35
    exact nc_dk_X11_told
  by_cases e36 : M = 36
  · subst e36
    exact nc_dk_X11_planAt
  by_cases e37 : M = 37
  · subst e37
    exact nc_dk_X11_parted
  by_cases e38 : M = 38
  · subst e38
    exact nc_dk_X11_surely
  by_cases e39 : M = 39
  · subst e39
    exact nc_dk_X11_ask
  by_cases e40 : M = 40
  · subst e40
    exact nc_dk_X11_written
  by_cases e41 : M = 41
  · subst e41
    exact nc_dk_X11_count
  by_cases e42 : M = 42
  · subst e42
    exact nc_dk_X11_isFarm
  by_cases e43 : M = 43
  · subst e43
    exact nc_dk_X11_isCow
  by_cases e44 : M = 44
  · subst e44
    exact nc_dk_X11_isNews
  by_cases e45 : M = 45
  · subst e45
    exact nc_dk_X11_cowsWith
  by_cases e46 : M = 46
  · subst e46
    exact nc_dk_X12_thrown
  by_cases e47 : M = 47
  · subst e47
    exact nc_dk_X12_throwsIf
  by_cases e48 : M = 48
  · subst e48
    exact nc_dk_X12_four
  by_cases e49 : M = 49
  · subst e49
    exact nc_dk_X12_end
  by_cases e50 : M = 50
  · subst e50
    exact nc_dk_X12_taken
  by_cases e51 : M = 51
  · subst e51
    exact nc_dk_X12_isIn
  by_cases e52 : M = 52
  · subst e52
    exact nc_dk_X12_bitOf
  by_cases e53 : M = 53
  · subst e53
    exact nc_dk_X12_greater
  by_cases e54 : M = 54
  · subst e54
    exact nc_dk_X12_absolute
  by_cases e55 : M = 55
  · subst e55
    exact nc_dk_X12_bits
  by_cases e56 : M = 56
  · subst e56
    exact nc_dk_X12_octet
  by_cases e57 : M = 57
  · subst e57
    exact nc_dk_X12_peek
  by_cases e58 : M = 58
  · subst e58
    exact nc_dk_X12_isSmall
  by_cases e59 : M = 59
  · subst e59
    exact nc_dk_X12_isDigit
  by_cases e60 : M = 60
  · subst e60
    exact nc_dk_X12_bad
  by_cases e61 : M = 61
  · subst e61
    exact nc_dk_X12_isWord
  by_cases e62 : M = 62
  · subst e62
    exact nc_dk_X12_isSign
  by_cases e63 : M = 63
  · subst e63
    exact nc_dk_X12_isName
  omega
theorem nc_da_2 : ∀ M, M < 96 → 64 ≤ M → nc_dall M := by
  intro M h1 h2
  by_cases e64 : M = 64
  · subst e64
    exact nc_dk_X12_seek
  by_cases e65 : M = 65
  · subst e65
    exact nc_dk_X12_fault
  by_cases e66 : M = 66
  · subst e66
    exact nc_dk_X12_knows
  by_cases e67 : M = 67
  · subst e67
    exact nc_dk_X12_isCurdled
  by_cases e68 : M = 68
  · subst e68
    exact nc_dk_X12_cowsOf
  by_cases e69 : M = 69
  · subst e69
    exact nc_dk_X12_talks
  by_cases e70 : M = 70
  · subst e70
    exact nc_dk_X12_allPails
  by_cases e71 : M = 71
  · subst e71
    exact nc_dk_X12_keep
  by_cases e72 : M = 72
  · subst e72
    exact nc_dk_X12_undo
  by_cases e73 : M = 73
  · subst e73
    exact nc_dk_X12_tries
  by_cases e74 : M = 74
  · subst e74
    exact nc_dk_X12_back
  by_cases e75 : M = 75
  · subst e75
    exact nc_dk_X12_peace
  by_cases e76 : M = 76
  · subst e76
    exact nc_dk_X12_tellsSet
  by_cases e77 : M = 77
  · subst e77
    exact nc_dk_X12_told
  by_cases e78 : M = 78
  · subst e78
    exact nc_dk_X12_digit
  by_cases e79 : M = 79
  · subst e79
    exact nc_dk_X12_parted
  by_cases e80 : M = 80
  · subst e80
    exact nc_dk_X12_surely
  by_cases e81 : M = 81
  · subst e81
    exact nc_dk_X12_ask
  by_cases e82 : M = 82
  · subst e82
    exact nc_dk_X12_draw
  by_cases e83 : M = 83
  · subst e83
    exact nc_dk_X12_code
  by_cases e84 : M = 84
  · subst e84
    exact nc_dk_J6_bitCount_0f7a4
  by_cases e85 : M = 85
  · subst e85
    exact nc_dk_J7_fill_d0a16
  by_cases e86 : M = 86
  · subst e86
    exact nc_dk_J7_fill_53178
  by_cases e87 : M = 87
  · subst e87
    exact nc_dk_X10_mustBeSign
  by_cases e88 : M = 88
  · subst e88
    exact nc_dk_X2_named
  by_cases e89 : M = 89
  · subst e89
    exact nc_dk_X10_nextNumber
  by_cases e90 : M = 90
  · subst e90
    exact nc_dk_X9_readPlainOne
  by_cases e91 : M = 91
  · subst e91
    exact nc_dk_X7_sumOf
  by_cases e92 : M = 92
  · subst e92
    exact nc_dk_X7_whyNotTold
  by_cases e93 : M = 93
  · subst e93
    exact nc_dk_X8_weigh
  by_cases e94 : M = 94
  · subst e94
    exact nc_dk_X7_milk
  by_cases e95 : M = 95
  · subst e95
    exact nc_dk_X8_goLast
  omega
theorem nc_da_3 : ∀ M, M < 128 → 96 ≤ M → nc_dall M := by
  intro M h1 h2
  by_cases e96 : M = 96
  · subst e96
    exact nc_dk_X7_copyFrom
  by_cases e97 : M = 97
  · subst e97
    exact nc_dk_X7_hear
  by_cases e98 : M = 98
  · subst e98
    exact nc_dk_X7_allComes
  by_cases e99 : M = 99
  · subst e99
    exact nc_dk_X7_talk
  by_cases e100 : M = 100
  · subst e100
    exact nc_dk_X7_turn
  by_cases e101 : M = 101
  · subst e101
    exact nc_dk_X9_readOne
  by_cases e102 : M = 102
  · subst e102
    exact nc_dk_X9_readAll
  by_cases e103 : M = 103
  · subst e103
    exact nc_dk_X9_readCond
  by_cases e104 : M = 104
  · subst e104
    exact nc_dk_X9_readOne
  by_cases e105 : M = 105
  · subst e105
    exact nc_dk_X9_readAll
  by_cases e106 : M = 106
  · subst e106
    exact nc_dk_X9_readCond
  by_cases e107 : M = 107
  · subst e107
    exact nc_dk_X9_readOne
  by_cases e108 : M = 108
  · subst e108
    exact nc_dk_X9_readAll
  by_cases e109 : M = 109
  · subst e109
    exact nc_dk_X9_readCond
  by_cases e110 : M = 110
  · subst e110
    exact nc_dk_X9_readOne
  by_cases e111 : M = 111
  · subst e111
    exact nc_dk_X9_readAll
  by_cases e112 : M = 112
  · subst e112
    exact nc_dk_X9_readCond
  by_cases e113 : M = 113
  · subst e113
    exact nc_dk_X9_readOne
  by_cases e114 : M = 114
  · subst e114
    exact nc_dk_X9_readAll
  by_cases e115 : M = 115
  · subst e115
    exact nc_dk_X9_readCond
  by_cases e116 : M = 116
  · subst e116
    exact nc_dk_X9_readOne
  by_cases e117 : M = 117
  · subst e117
    exact nc_dk_X9_readAll
  by_cases e118 : M = 118
  · subst e118
    exact nc_dk_X9_readCond
  by_cases e119 : M = 119
  · subst e119
    exact nc_dk_X9_readOne
  by_cases e120 : M = 120
  · subst e120
    exact nc_dk_X9_readAll
  by_cases e121 : M = 121
  · subst e121
    exact nc_dk_X9_readCond
  by_cases e122 : M = 122
  · subst e122
    exact nc_dk_X9_readOne
  by_cases e123 : M = 123
  · subst e123
    exact nc_dk_X9_readAll
  by_cases e124 : M = 124
  · subst e124
    exact nc_dk_X9_readCond
  by_cases e125 : M = 125
  · subst e125
    exact nc_dk_X9_readOne
  by_cases e126 : M = 126
  · subst e126
    exact nc_dk_X9_readAll
  by_cases e127 : M = 127
  · subst e127
    exact nc_dk_X9_readCond
  omega
theorem nc_da_4 : ∀ M, M < 160 → 128 ≤ M → nc_dall M := by
  intro M h1 h2
  by_cases e128 : M = 128
  · subst e128
    exact nc_dk_X8_go
  by_cases e129 : M = 129
  · subst e129
    exact nc_dk_X8_go
  by_cases e130 : M = 130
  · subst e130
    exact nc_dk_X8_go
  by_cases e131 : M = 131
  · subst e131
    exact nc_dk_X10_addRun
  by_cases e132 : M = 132
  · subst e132
    exact nc_dk_X10_start
  by_cases e133 : M = 133
  · subst e133
    exact nc_dk_X10_nextLine
  by_cases e134 : M = 134
  · subst e134
    exact nc_dk_X0_readArg
  by_cases e135 : M = 135
  · subst e135
    exact nc_dk_X10_closesLine
  by_cases e136 : M = 136
  · subst e136
    exact nc_dk_X0_readLine
  by_cases e137 : M = 137
  · subst e137
    exact nc_dk_X10_mustEnd
  by_cases e138 : M = 138
  · subst e138
    exact nc_dk_X0_read
  by_cases e139 : M = 139
  · subst e139
    exact nc_dk_X7_fillPails
  by_cases e140 : M = 140
  · subst e140
    exact nc_dk_X7_goDays
  by_cases e141 : M = 141
  · subst e141
    exact nc_dk_X7_whyNotFound
  by_cases e142 : M = 142
  · subst e142
    exact nc_dk_X7_wouldDoubt
  by_cases e143 : M = 143
  · subst e143
    exact nc_dk_X7_wouldDry
  by_cases e144 : M = 144
  · subst e144
    exact nc_dk_X7_findOut
  by_cases e145 : M = 145
  · subst e145
    exact nc_dk_X0_live
  by_cases e146 : M = 146
  · subst e146
    exact nc_dk_X0_judge
  by_cases e147 : M = 147
  · subst e147
    exact nc_dk_X1_lookAt
  by_cases e148 : M = 148
  · subst e148
    exact nc_dk_X1_milkBy
  by_cases e149 : M = 149
  · subst e149
    exact nc_dk_X1_bestOf
  by_cases e150 : M = 150
  · subst e150
    exact nc_dk_X1_most
  by_cases e151 : M = 151
  · subst e151
    exact nc_dk_X1_mostWithoutLies
  by_cases e152 : M = 152
  · subst e152
    exact nc_dk_X1_isLess
  by_cases e153 : M = 153
  · subst e153
    exact nc_dk_X1_fewestLies
  by_cases e154 : M = 154
  · subst e154
    exact nc_dk_X1_mostEven
  by_cases e155 : M = 155
  · subst e155
    exact nc_dk_X1_setsThatGive
  by_cases e156 : M = 156
  · subst e156
    exact nc_dk_X2_clear
  by_cases e157 : M = 157
  · subst e157
    exact nc_dk_X2_copyFrom
  by_cases e158 : M = 158
  · subst e158
    exact nc_dk_X2_nextNewName
  by_cases e159 : M = 159
  · subst e159
    exact nc_dk_X2_hasHedge
  omega
theorem nc_da_5 : ∀ M, M < 192 → 160 ≤ M → nc_dall M := by
  intro M h1 h2
  by_cases e160 : M = 160
  · subst e160
    exact nc_dk_X2_fewestBetween
  by_cases e161 : M = 161
  · subst e161
    exact nc_dk_X3_readFarm
  by_cases e162 : M = 162
  · subst e162
    exact nc_dk_X3_readCow
  by_cases e163 : M = 163
  · subst e163
    exact nc_dk_X3_readNews
  by_cases e164 : M = 164
  · subst e164
    exact nc_dk_X3_readHedge
  by_cases e165 : M = 165
  · subst e165
    exact nc_dk_X3_readHears
  by_cases e166 : M = 166
  · subst e166
    exact nc_dk_X3_readLine
  by_cases e167 : M = 167
  · subst e167
    exact nc_dk_X3_read
  by_cases e168 : M = 168
  · subst e168
    exact nc_dk_X4_tellAndFind
  by_cases e169 : M = 169
  · subst e169
    exact nc_dk_X5_keep
  by_cases e170 : M = 170
  · subst e170
    exact nc_dk_X5_takeBack
  by_cases e171 : M = 171
  · subst e171
    exact nc_dk_X7_clear
  by_cases e172 : M = 172
  · subst e172
    exact nc_dk_X8_seek
  by_cases e173 : M = 173
  · subst e173
    exact nc_dk_X9_copyFrom
  by_cases e174 : M = 174
  · subst e174
    exact nc_dk_X9_read
  by_cases e175 : M = 175
  · subst e175
    exact nc_dk_X9_isSo
  by_cases e176 : M = 176
  · subst e176
    exact nc_dk_X9_holds
  by_cases e177 : M = 177
  · subst e177
    exact nc_dk_X11_feed
  by_cases e178 : M = 178
  · subst e178
    exact nc_dk_X11_dairy
  by_cases e179 : M = 179
  · subst e179
    exact nc_dk_X11_cow
  by_cases e180 : M = 180
  · subst e180
    exact nc_dk_X11_news
  by_cases e181 : M = 181
  · subst e181
    exact nc_dk_X11_milkOfFarm
  by_cases e182 : M = 182
  · subst e182
    exact nc_dk_X11_farm
  by_cases e183 : M = 183
  · subst e183
    exact nc_dk_X11_now
  by_cases e184 : M = 184
  · subst e184
    exact nc_dk_X11_why
  by_cases e185 : M = 185
  · subst e185
    exact nc_dk_X11_tell
  by_cases e186 : M = 186
  · subst e186
    exact nc_dk_X11_find
  by_cases e187 : M = 187
  · subst e187
    exact nc_dk_X11_days
  by_cases e188 : M = 188
  · subst e188
    exact nc_dk_X11_undo
  by_cases e189 : M = 189
  · subst e189
    exact nc_dk_X11_canBeTold
  by_cases e190 : M = 190
  · subst e190
    exact nc_dk_X11_best
  by_cases e191 : M = 191
  · subst e191
    exact nc_dk_X11_least
  omega
theorem nc_da_6 : ∀ M, M < 224 → 192 ≤ M → nc_dall M := by
  intro M h1 h2
  by_cases e192 : M = 192
  · subst e192
    exact nc_dk_X11_honest
  by_cases e193 : M = 193
  · subst e193
    exact nc_dk_X11_plan
  by_cases e194 : M = 194
  · subst e194
    exact nc_dk_X11_allKnow
  by_cases e195 : M = 195
  · subst e195
    exact nc_dk_X11_part
  by_cases e196 : M = 196
  · subst e196
    exact nc_dk_X11_tasted
  by_cases e197 : M = 197
  · subst e197
    exact nc_dk_X11_dries
  by_cases e198 : M = 198
  · subst e198
    exact nc_dk_X11_fits
  by_cases e199 : M = 199
  · subst e199
    exact nc_dk_X11_week
  by_cases e200 : M = 200
  · subst e200
    exact nc_dk_X11_pails
  by_cases e201 : M = 201
  · subst e201
    exact nc_dk_X11_ahead
  by_cases e202 : M = 202
  · subst e202
    exact nc_dk_X11_drawn
  by_cases e203 : M = 203
  · subst e203
    exact nc_dk_X11_driesByDraws
  by_cases e204 : M = 204
  · subst e204
    exact nc_dk_X11_odds
  by_cases e205 : M = 205
  · subst e205
    exact nc_dk_X11_book
  by_cases e206 : M = 206
  · subst e206
    exact nc_dk_X11_sentence
  by_cases e207 : M = 207
  · subst e207
    exact nc_dk_X11_said
  by_cases e208 : M = 208
  · subst e208
    exact nc_dk_X11_image
  by_cases e209 : M = 209
  · subst e209
    exact nc_dk_X11_restore
  by_cases e210 : M = 210
  · subst e210
    exact nc_dk_X12_feed
  by_cases e211 : M = 211
  · subst e211
    exact nc_dk_X12_next
  by_cases e212 : M = 212
  · subst e212
    exact nc_dk_X12_sign
  by_cases e213 : M = 213
  · subst e213
    exact nc_dk_X12_takes
  by_cases e214 : M = 214
  · subst e214
    exact nc_dk_X12_puts
  by_cases e215 : M = 215
  · subst e215
    exact nc_dk_X12_fresh
  by_cases e216 : M = 216
  · subst e216
    exact nc_dk_X12_looksAt
  by_cases e217 : M = 217
  · subst e217
    exact nc_dk_X12_takesName
  by_cases e218 : M = 218
  · subst e218
    exact nc_dk_X12_kindOf
  by_cases e219 : M = 219
  · subst e219
    exact nc_dk_X12_readNews
  by_cases e220 : M = 220
  · subst e220
    exact nc_dk_X12_readHedge
  by_cases e221 : M = 221
  · subst e221
    exact nc_dk_X12_line
  by_cases e222 : M = 222
  · subst e222
    exact nc_dk_X12_dairy
  by_cases e223 : M = 223
  · subst e223
    exact nc_dk_X12_isFarm
  omega
theorem nc_da_7 : ∀ M, M < 256 → 224 ≤ M → nc_dall M := by
  intro M h1 h2
  by_cases e224 : M = 224
  · subst e224
    exact nc_dk_X12_isCow
  by_cases e225 : M = 225
  · subst e225
    exact nc_dk_X12_isNews
  by_cases e226 : M = 226
  · subst e226
    exact nc_dk_X12_isDry
  by_cases e227 : M = 227
  · subst e227
    exact nc_dk_X12_isLie
  by_cases e228 : M = 228
  · subst e228
    exact nc_dk_X12_known
  by_cases e229 : M = 229
  · subst e229
    exact nc_dk_X12_hasOther
  by_cases e230 : M = 230
  · subst e230
    exact nc_dk_X12_milkBy
  by_cases e231 : M = 231
  · subst e231
    exact nc_dk_X12_milkWith
  by_cases e232 : M = 232
  · subst e232
    exact nc_dk_X12_milk
  by_cases e233 : M = 233
  · subst e233
    exact nc_dk_X12_cow
  by_cases e234 : M = 234
  · subst e234
    exact nc_dk_X12_news
  by_cases e235 : M = 235
  · subst e235
    exact nc_dk_X12_milkOf
  by_cases e236 : M = 236
  · subst e236
    exact nc_dk_X12_farm
  by_cases e237 : M = 237
  · subst e237
    exact nc_dk_X12_now
  by_cases e238 : M = 238
  · subst e238
    exact nc_dk_X12_whyTell
  by_cases e239 : M = 239
  · subst e239
    exact nc_dk_X12_tells
  by_cases e240 : M = 240
  · subst e240
    exact nc_dk_X12_whyFind
  by_cases e241 : M = 241
  · subst e241
    exact nc_dk_X12_driedBy
  by_cases e242 : M = 242
  · subst e242
    exact nc_dk_X12_finds
  by_cases e243 : M = 243
  · subst e243
    exact nc_dk_X12_comesTo
  by_cases e244 : M = 244
  · subst e244
    exact nc_dk_X12_day
  by_cases e245 : M = 245
  · subst e245
    exact nc_dk_X12_goesOn
  by_cases e246 : M = 246
  · subst e246
    exact nc_dk_X12_tell
  by_cases e247 : M = 247
  · subst e247
    exact nc_dk_X12_find
  by_cases e248 : M = 248
  · subst e248
    exact nc_dk_X12_days
  by_cases e249 : M = 249
  · subst e249
    exact nc_dk_X12_why
  by_cases e250 : M = 250
  · subst e250
    exact nc_dk_X12_mayHear
  by_cases e251 : M = 251
  · subst e251
    exact nc_dk_X12_bestOf
  by_cases e252 : M = 252
  · subst e252
    exact nc_dk_X12_best
  by_cases e253 : M = 253
  · subst e253
    exact nc_dk_X12_least
  by_cases e254 : M = 254
  · subst e254
    exact nc_dk_X12_honest
  by_cases e255 : M = 255
  · subst e255
    exact nc_dk_X12_planned
  omega
theorem nc_da_8 : ∀ M, M < 286 → 256 ≤ M → nc_dall M := by
  intro M h1 h2
  by_cases e256 : M = 256
  · subst e256
    exact nc_dk_X12_plan
  by_cases e257 : M = 257
  · subst e257
    exact nc_dk_X12_planAt
  by_cases e258 : M = 258
  · subst e258
    exact nc_dk_X12_allKnow
  by_cases e259 : M = 259
  · subst e259
    exact nc_dk_X12_comes
  by_cases e260 : M = 260
  · subst e260
    exact nc_dk_X12_part
  by_cases e261 : M = 261
  · subst e261
    exact nc_dk_X12_tasted
  by_cases e262 : M = 262
  · subst e262
    exact nc_dk_X12_dries
  by_cases e263 : M = 263
  · subst e263
    exact nc_dk_X12_isPast
  by_cases e264 : M = 264
  · subst e264
    exact nc_dk_X12_week
  by_cases e265 : M = 265
  · subst e265
    exact nc_dk_X12_pails
  by_cases e266 : M = 266
  · subst e266
    exact nc_dk_X12_ahead
  by_cases e267 : M = 267
  · subst e267
    exact nc_dk_X12_draws
  by_cases e268 : M = 268
  · subst e268
    exact nc_dk_X12_drawn
  by_cases e269 : M = 269
  · subst e269
    exact nc_dk_X12_odds
  by_cases e270 : M = 270
  · subst e270
    exact nc_dk_X12_bookLine
  by_cases e271 : M = 271
  · subst e271
    exact nc_dk_X12_does
  by_cases e272 : M = 272
  · subst e272
    exact nc_dk_X12_book
  by_cases e273 : M = 273
  · subst e273
    exact nc_dk_X12_written
  by_cases e274 : M = 274
  · subst e274
    exact nc_dk_X12_joins
  by_cases e275 : M = 275
  · subst e275
    exact nc_dk_X12_nots
  by_cases e276 : M = 276
  · subst e276
    exact nc_dk_X12_leafOf
  by_cases e277 : M = 277
  · subst e277
    exact nc_dk_X12_operand
  by_cases e278 : M = 278
  · subst e278
    exact nc_dk_X12_behind
  by_cases e279 : M = 279
  · subst e279
    exact nc_dk_X12_sentence
  by_cases e280 : M = 280
  · subst e280
    exact nc_dk_X12_isLeaf
  by_cases e281 : M = 281
  · subst e281
    exact nc_dk_X12_isSaid
  by_cases e282 : M = 282
  · subst e282
    exact nc_dk_X12_said
  by_cases e283 : M = 283
  · subst e283
    exact nc_dk_X12_image
  by_cases e284 : M = 284
  · subst e284
    exact nc_dk_X12_restore
  by_cases e285 : M = 285
  · subst e285
    exact nc_dk_X12_count
  omega
theorem nc_dok (M : Nat) (h : M < nc_many) : nc_dall M := by
  have h : M < 286 := h
  by_cases q0 : M < 32
  · exact nc_da_0 M (by omega) (by omega)
  by_cases q1 : M < 64
  · exact nc_da_1 M (by omega) (by omega)
  by_cases q2 : M < 96
  · exact nc_da_2 M (by omega) (by omega)
  by_cases q3 : M < 128
  · exact nc_da_3 M (by omega) (by omega)
  by_cases q4 : M < 160
  · exact nc_da_4 M (by omega) (by omega)
  by_cases q5 : M < 192
  · exact nc_da_5 M (by omega) (by omega)
  by_cases q6 : M < 224
  · exact nc_da_6 M (by omega) (by omega)
  by_cases q7 : M < 256
  · exact nc_da_7 M (by omega) (by omega)
  by_cases q8 : M < 286
  · exact nc_da_8 M (by omega) (by omega)
  omega
def nc_T (t : Nat) : u_T := match nc_cl[t]? with
  | some q => q.2.1
  | none => fun _ => ("", "", "", false)
/-- the fields of nest mates -/
def nc_nT : List (Nat × Nat × Nat × Nat) := [(4, 14, 7, 0), (9, 106, 7, 0)]
def nc_nW (e : Nat × Nat × Nat × Nat) : Cond := .fieldLinkNest (nc_cn e.1) e.2.1 (nc_cn e.2.2.1) (nc_T e.2.2.1 e.2.2.2).2.1 (nc_T e.2.2.1 e.2.2.2).2.2.1 "NewsCows"
def nc_FF (ow : Nat) (e : Nat × Nat × Nat) : Prop :=
  (Cond.fieldLink (nc_cn ow) e.1 (nc_cn e.2.1) (nc_T e.2.1 e.2.2).2.1 (nc_T e.2.1 e.2.2).2.2.1 ∈ nc_tb ∨ (ow, e) ∈ nc_nT) ∧ e.2.1 < 13 ∧ e.2.2 < ((nc_fkT[e.2.1]?).getD []).length ∧ (nc_T e.2.1 e.2.2).1 = nc_cn e.2.1
set_option maxRecDepth 100000 in
theorem nc_ff_0_9 : nc_FF 0 (9, 0, 0) := ⟨Or.inl (nc_at_in (p := (2, 173)) rfl rfl), Nat.le_of_ble_eq_true rfl, Nat.le_of_ble_eq_true rfl, rfl⟩
set_option maxRecDepth 100000 in
theorem nc_ff_0_15 : nc_FF 0 (15, 0, 1) := ⟨Or.inl (nc_at_in (p := (2, 174)) rfl rfl), Nat.le_of_ble_eq_true rfl, Nat.le_of_ble_eq_true rfl, rfl⟩
set_option maxRecDepth 100000 in
theorem nc_ff_0_18 : nc_FF 0 (18, 0, 2) := ⟨Or.inl (nc_at_in (p := (2, 175)) rfl rfl), Nat.le_of_ble_eq_true rfl, Nat.le_of_ble_eq_true rfl, rfl⟩
set_option maxRecDepth 100000 in
theorem nc_ff_0_21 : nc_FF 0 (21, 0, 3) := ⟨Or.inl (nc_at_in (p := (2, 176)) rfl rfl), Nat.le_of_ble_eq_true rfl, Nat.le_of_ble_eq_true rfl, rfl⟩
set_option maxRecDepth 100000 in
theorem nc_ff_0_70 : nc_FF 0 (70, 10, 12) := ⟨Or.inl (nc_at_in (p := (1, 107)) rfl rfl), Nat.le_of_ble_eq_true rfl, Nat.le_of_ble_eq_true rfl, rfl⟩
set_option maxRecDepth 100000 in
theorem nc_ff_0_73 : nc_FF 0 (73, 0, 4) := ⟨Or.inl (nc_at_in (p := (2, 177)) rfl rfl), Nat.le_of_ble_eq_true rfl, Nat.le_of_ble_eq_true rfl, rfl⟩
set_option maxRecDepth 100000 in
theorem nc_ff_0_77 : nc_FF 0 (77, 0, 5) := ⟨Or.inl (nc_at_in (p := (2, 179)) rfl rfl), Nat.le_of_ble_eq_true rfl, Nat.le_of_ble_eq_true rfl, rfl⟩
set_option maxRecDepth 100000 in
theorem nc_ff_0_80 : nc_FF 0 (80, 0, 6) := ⟨Or.inl (nc_at_in (p := (2, 181)) rfl rfl), Nat.le_of_ble_eq_true rfl, Nat.le_of_ble_eq_true rfl, rfl⟩
set_option maxRecDepth 100000 in
theorem nc_ff_0_87 : nc_FF 0 (87, 7, 1) := ⟨Or.inl (nc_at_in (p := (2, 57)) rfl rfl), Nat.le_of_ble_eq_true rfl, Nat.le_of_ble_eq_true rfl, rfl⟩
set_option maxRecDepth 100000 in
theorem nc_ff_0_92 : nc_FF 0 (92, 0, 7) := ⟨Or.inl (nc_at_in (p := (2, 183)) rfl rfl), Nat.le_of_ble_eq_true rfl, Nat.le_of_ble_eq_true rfl, rfl⟩
set_option maxRecDepth 100000 in
theorem nc_ff_0_95 : nc_FF 0 (95, 7, 3) := ⟨Or.inl (nc_at_in (p := (2, 62)) rfl rfl), Nat.le_of_ble_eq_true rfl, Nat.le_of_ble_eq_true rfl, rfl⟩
set_option maxRecDepth 100000 in
theorem nc_ff_0_98 : nc_FF 0 (98, 0, 8) := ⟨Or.inl (nc_at_in (p := (2, 185)) rfl rfl), Nat.le_of_ble_eq_true rfl, Nat.le_of_ble_eq_true rfl, rfl⟩
theorem nc_fo_0 : ∀ e ∈ ([(9, 0, 0), (15, 0, 1), (18, 0, 2), (21, 0, 3), (70, 10, 12), (73, 0, 4), (77, 0, 5), (80, 0, 6), (87, 7, 1), (92, 0, 7), (95, 7, 3), (98, 0, 8)] : List (Nat × Nat × Nat)), nc_FF 0 e := List.forall_mem_cons.mpr ⟨nc_ff_0_9, List.forall_mem_cons.mpr ⟨nc_ff_0_15, List.forall_mem_cons.mpr ⟨nc_ff_0_18, List.forall_mem_cons.mpr ⟨nc_ff_0_21, List.forall_mem_cons.mpr ⟨nc_ff_0_70, List.forall_mem_cons.mpr ⟨nc_ff_0_73, List.forall_mem_cons.mpr ⟨nc_ff_0_77, List.forall_mem_cons.mpr ⟨nc_ff_0_80, List.forall_mem_cons.mpr ⟨nc_ff_0_87, List.forall_mem_cons.mpr ⟨nc_ff_0_92, List.forall_mem_cons.mpr ⟨nc_ff_0_95, List.forall_mem_cons.mpr ⟨nc_ff_0_98, fun _ h => absurd h List.not_mem_nil⟩⟩⟩⟩⟩⟩⟩⟩⟩⟩⟩⟩
set_option maxRecDepth 100000 in
theorem nc_ff_1_9 : nc_FF 1 (9, 1, 2) := ⟨Or.inl (nc_at_in (p := (2, 214)) rfl rfl), Nat.le_of_ble_eq_true rfl, Nat.le_of_ble_eq_true rfl, rfl⟩
set_option maxRecDepth 100000 in
theorem nc_ff_1_15 : nc_FF 1 (15, 1, 3) := ⟨Or.inl (nc_at_in (p := (2, 215)) rfl rfl), Nat.le_of_ble_eq_true rfl, Nat.le_of_ble_eq_true rfl, rfl⟩
set_option maxRecDepth 100000 in
theorem nc_ff_1_18 : nc_FF 1 (18, 1, 8) := ⟨Or.inl (nc_at_in (p := (2, 220)) rfl rfl), Nat.le_of_ble_eq_true rfl, Nat.le_of_ble_eq_true rfl, rfl⟩
set_option maxRecDepth 100000 in
theorem nc_ff_1_22 : nc_FF 1 (22, 1, 9) := ⟨Or.inl (nc_at_in (p := (2, 222)) rfl rfl), Nat.le_of_ble_eq_true rfl, Nat.le_of_ble_eq_true rfl, rfl⟩
set_option maxRecDepth 100000 in
theorem nc_ff_1_25 : nc_FF 1 (25, 1, 10) := ⟨Or.inl (nc_at_in (p := (2, 224)) rfl rfl), Nat.le_of_ble_eq_true rfl, Nat.le_of_ble_eq_true rfl, rfl⟩
set_option maxRecDepth 100000 in
theorem nc_ff_1_28 : nc_FF 1 (28, 1, 0) := ⟨Or.inl (nc_at_in (p := (2, 212)) rfl rfl), Nat.le_of_ble_eq_true rfl, Nat.le_of_ble_eq_true rfl, rfl⟩
set_option maxRecDepth 100000 in
theorem nc_ff_1_32 : nc_FF 1 (32, 1, 1) := ⟨Or.inl (nc_at_in (p := (2, 213)) rfl rfl), Nat.le_of_ble_eq_true rfl, Nat.le_of_ble_eq_true rfl, rfl⟩
set_option maxRecDepth 100000 in
theorem nc_ff_1_40 : nc_FF 1 (40, 1, 4) := ⟨Or.inl (nc_at_in (p := (2, 216)) rfl rfl), Nat.le_of_ble_eq_true rfl, Nat.le_of_ble_eq_true rfl, rfl⟩
set_option maxRecDepth 100000 in
theorem nc_ff_1_43 : nc_FF 1 (43, 2, 7) := ⟨Or.inl (nc_at_in (p := (1, 190)) rfl rfl), Nat.le_of_ble_eq_true rfl, Nat.le_of_ble_eq_true rfl, rfl⟩
set_option maxRecDepth 100000 in
theorem nc_ff_1_55 : nc_FF 1 (55, 2, 6) := ⟨Or.inl (nc_at_in (p := (1, 187)) rfl rfl), Nat.le_of_ble_eq_true rfl, Nat.le_of_ble_eq_true rfl, rfl⟩
set_option maxRecDepth 100000 in
theorem nc_ff_1_62 : nc_FF 1 (62, 7, 7) := ⟨Or.inl (nc_at_in (p := (2, 73)) rfl rfl), Nat.le_of_ble_eq_true rfl, Nat.le_of_ble_eq_true rfl, rfl⟩
set_option maxRecDepth 100000 in
theorem nc_ff_1_67 : nc_FF 1 (67, 2, 5) := ⟨Or.inl (nc_at_in (p := (1, 182)) rfl rfl), Nat.le_of_ble_eq_true rfl, Nat.le_of_ble_eq_true rfl, rfl⟩
set_option maxRecDepth 100000 in
theorem nc_ff_1_75 : nc_FF 1 (75, 1, 5) := ⟨Or.inl (nc_at_in (p := (2, 217)) rfl rfl), Nat.le_of_ble_eq_true rfl, Nat.le_of_ble_eq_true rfl, rfl⟩
set_option maxRecDepth 100000 in
theorem nc_ff_1_81 : nc_FF 1 (81, 1, 6) := ⟨Or.inl (nc_at_in (p := (2, 218)) rfl rfl), Nat.le_of_ble_eq_true rfl, Nat.le_of_ble_eq_true rfl, rfl⟩
set_option maxRecDepth 100000 in
theorem nc_ff_1_88 : nc_FF 1 (88, 1, 7) := ⟨Or.inl (nc_at_in (p := (2, 219)) rfl rfl), Nat.le_of_ble_eq_true rfl, Nat.le_of_ble_eq_true rfl, rfl⟩
set_option maxRecDepth 100000 in
theorem nc_ff_1_94 : nc_FF 1 (94, 2, 3) := ⟨Or.inl (nc_at_in (p := (1, 173)) rfl rfl), Nat.le_of_ble_eq_true rfl, Nat.le_of_ble_eq_true rfl, rfl⟩
set_option maxRecDepth 100000 in
theorem nc_ff_1_97 : nc_FF 1 (97, 7, 6) := ⟨Or.inl (nc_at_in (p := (2, 69)) rfl rfl), Nat.le_of_ble_eq_true rfl, Nat.le_of_ble_eq_true rfl, rfl⟩
theorem nc_fo_1 : ∀ e ∈ ([(9, 1, 2), (15, 1, 3), (18, 1, 8), (22, 1, 9), (25, 1, 10), (28, 1, 0), (32, 1, 1), (40, 1, 4), (43, 2, 7), (55, 2, 6), (62, 7, 7), (67, 2, 5), (75, 1, 5), (81, 1, 6), (88, 1, 7), (94, 2, 3), (97, 7, 6)] : List (Nat × Nat × Nat)), nc_FF 1 e := List.forall_mem_cons.mpr ⟨nc_ff_1_9, List.forall_mem_cons.mpr ⟨nc_ff_1_15, List.forall_mem_cons.mpr ⟨nc_ff_1_18, List.forall_mem_cons.mpr ⟨nc_ff_1_22, List.forall_mem_cons.mpr ⟨nc_ff_1_25, List.forall_mem_cons.mpr ⟨nc_ff_1_28, List.forall_mem_cons.mpr ⟨nc_ff_1_32, List.forall_mem_cons.mpr ⟨nc_ff_1_40, List.forall_mem_cons.mpr ⟨nc_ff_1_43, List.forall_mem_cons.mpr ⟨nc_ff_1_55, List.forall_mem_cons.mpr ⟨nc_ff_1_62, List.forall_mem_cons.mpr ⟨nc_ff_1_67, List.forall_mem_cons.mpr ⟨nc_ff_1_75, List.forall_mem_cons.mpr ⟨nc_ff_1_81, List.forall_mem_cons.mpr ⟨nc_ff_1_88, List.forall_mem_cons.mpr ⟨nc_ff_1_94, List.forall_mem_cons.mpr ⟨nc_ff_1_97, fun _ h => absurd h List.not_mem_nil⟩⟩⟩⟩⟩⟩⟩⟩⟩⟩⟩⟩⟩⟩⟩⟩⟩
set_option maxRecDepth 100000 in
theorem nc_ff_2_9 : nc_FF 2 (9, 2, 5) := ⟨Or.inl (nc_at_in (p := (1, 181)) rfl rfl), Nat.le_of_ble_eq_true rfl, Nat.le_of_ble_eq_true rfl, rfl⟩
set_option maxRecDepth 100000 in
theorem nc_ff_2_15 : nc_FF 2 (15, 2, 8) := ⟨Or.inl (nc_at_in (p := (1, 193)) rfl rfl), Nat.le_of_ble_eq_true rfl, Nat.le_of_ble_eq_true rfl, rfl⟩
set_option maxRecDepth 100000 in
theorem nc_ff_2_19 : nc_FF 2 (19, 2, 9) := ⟨Or.inl (nc_at_in (p := (1, 194)) rfl rfl), Nat.le_of_ble_eq_true rfl, Nat.le_of_ble_eq_true rfl, rfl⟩
set_option maxRecDepth 100000 in
theorem nc_ff_2_23 : nc_FF 2 (23, 2, 10) := ⟨Or.inl (nc_at_in (p := (1, 197)) rfl rfl), Nat.le_of_ble_eq_true rfl, Nat.le_of_ble_eq_true rfl, rfl⟩
set_option maxRecDepth 100000 in
theorem nc_ff_2_26 : nc_FF 2 (26, 2, 11) := ⟨Or.inl (nc_at_in (p := (1, 202)) rfl rfl), Nat.le_of_ble_eq_true rfl, Nat.le_of_ble_eq_true rfl, rfl⟩
set_option maxRecDepth 100000 in
theorem nc_ff_2_29 : nc_FF 2 (29, 2, 12) := ⟨Or.inl (nc_at_in (p := (1, 205)) rfl rfl), Nat.le_of_ble_eq_true rfl, Nat.le_of_ble_eq_true rfl, rfl⟩
set_option maxRecDepth 100000 in
theorem nc_ff_2_32 : nc_FF 2 (32, 2, 13) := ⟨Or.inl (nc_at_in (p := (1, 208)) rfl rfl), Nat.le_of_ble_eq_true rfl, Nat.le_of_ble_eq_true rfl, rfl⟩
set_option maxRecDepth 100000 in
theorem nc_ff_2_35 : nc_FF 2 (35, 2, 14) := ⟨Or.inl (nc_at_in (p := (1, 211)) rfl rfl), Nat.le_of_ble_eq_true rfl, Nat.le_of_ble_eq_true rfl, rfl⟩
set_option maxRecDepth 100000 in
theorem nc_ff_2_38 : nc_FF 2 (38, 2, 15) := ⟨Or.inl (nc_at_in (p := (1, 216)) rfl rfl), Nat.le_of_ble_eq_true rfl, Nat.le_of_ble_eq_true rfl, rfl⟩
set_option maxRecDepth 100000 in
theorem nc_ff_2_41 : nc_FF 2 (41, 2, 16) := ⟨Or.inl (nc_at_in (p := (1, 220)) rfl rfl), Nat.le_of_ble_eq_true rfl, Nat.le_of_ble_eq_true rfl, rfl⟩
set_option maxRecDepth 100000 in
theorem nc_ff_2_44 : nc_FF 2 (44, 2, 17) := ⟨Or.inl (nc_at_in (p := (1, 223)) rfl rfl), Nat.le_of_ble_eq_true rfl, Nat.le_of_ble_eq_true rfl, rfl⟩
set_option maxRecDepth 100000 in
theorem nc_ff_2_47 : nc_FF 2 (47, 2, 18) := ⟨Or.inl (nc_at_in (p := (1, 226)) rfl rfl), Nat.le_of_ble_eq_true rfl, Nat.le_of_ble_eq_true rfl, rfl⟩
set_option maxRecDepth 100000 in
theorem nc_ff_2_50 : nc_FF 2 (50, 2, 0) := ⟨Or.inl (nc_at_in (p := (1, 159)) rfl rfl), Nat.le_of_ble_eq_true rfl, Nat.le_of_ble_eq_true rfl, rfl⟩
set_option maxRecDepth 100000 in
theorem nc_ff_2_53 : nc_FF 2 (53, 2, 1) := ⟨Or.inl (nc_at_in (p := (1, 162)) rfl rfl), Nat.le_of_ble_eq_true rfl, Nat.le_of_ble_eq_true rfl, rfl⟩
set_option maxRecDepth 100000 in
theorem nc_ff_2_56 : nc_FF 2 (56, 2, 2) := ⟨Or.inl (nc_at_in (p := (1, 165)) rfl rfl), Nat.le_of_ble_eq_true rfl, Nat.le_of_ble_eq_true rfl, rfl⟩
set_option maxRecDepth 100000 in
theorem nc_ff_2_59 : nc_FF 2 (59, 2, 3) := ⟨Or.inl (nc_at_in (p := (1, 170)) rfl rfl), Nat.le_of_ble_eq_true rfl, Nat.le_of_ble_eq_true rfl, rfl⟩
set_option maxRecDepth 100000 in
theorem nc_ff_2_62 : nc_FF 2 (62, 2, 4) := ⟨Or.inl (nc_at_in (p := (1, 177)) rfl rfl), Nat.le_of_ble_eq_true rfl, Nat.le_of_ble_eq_true rfl, rfl⟩
set_option maxRecDepth 100000 in
theorem nc_ff_2_65 : nc_FF 2 (65, 2, 6) := ⟨Or.inl (nc_at_in (p := (1, 186)) rfl rfl), Nat.le_of_ble_eq_true rfl, Nat.le_of_ble_eq_true rfl, rfl⟩
set_option maxRecDepth 100000 in
theorem nc_ff_2_68 : nc_FF 2 (68, 2, 7) := ⟨Or.inl (nc_at_in (p := (1, 191)) rfl rfl), Nat.le_of_ble_eq_true rfl, Nat.le_of_ble_eq_true rfl, rfl⟩
set_option maxRecDepth 100000 in
theorem nc_ff_2_91 : nc_FF 2 (91, 10, 11) := ⟨Or.inl (nc_at_in (p := (1, 105)) rfl rfl), Nat.le_of_ble_eq_true rfl, Nat.le_of_ble_eq_true rfl, rfl⟩
set_option maxRecDepth 100000 in
theorem nc_ff_2_97 : nc_FF 2 (97, 10, 13) := ⟨Or.inl (nc_at_in (p := (1, 111)) rfl rfl), Nat.le_of_ble_eq_true rfl, Nat.le_of_ble_eq_true rfl, rfl⟩
theorem nc_fo_2 : ∀ e ∈ ([(9, 2, 5), (15, 2, 8), (19, 2, 9), (23, 2, 10), (26, 2, 11), (29, 2, 12), (32, 2, 13), (35, 2, 14), (38, 2, 15), (41, 2, 16), (44, 2, 17), (47, 2, 18), (50, 2, 0), (53, 2, 1), (56, 2, 2), (59, 2, 3), (62, 2, 4), (65, 2, 6), (68, 2, 7), (91, 10, 11), (97, 10, 13)] : List (Nat × Nat × Nat)), nc_FF 2 e := List.forall_mem_cons.mpr ⟨nc_ff_2_9, List.forall_mem_cons.mpr ⟨nc_ff_2_15, List.forall_mem_cons.mpr ⟨nc_ff_2_19, List.forall_mem_cons.mpr ⟨nc_ff_2_23, List.forall_mem_cons.mpr ⟨nc_ff_2_26, List.forall_mem_cons.mpr ⟨nc_ff_2_29, List.forall_mem_cons.mpr ⟨nc_ff_2_32, List.forall_mem_cons.mpr ⟨nc_ff_2_35, List.forall_mem_cons.mpr ⟨nc_ff_2_38, List.forall_mem_cons.mpr ⟨nc_ff_2_41, List.forall_mem_cons.mpr ⟨nc_ff_2_44, List.forall_mem_cons.mpr ⟨nc_ff_2_47, List.forall_mem_cons.mpr ⟨nc_ff_2_50, List.forall_mem_cons.mpr ⟨nc_ff_2_53, List.forall_mem_cons.mpr ⟨nc_ff_2_56, List.forall_mem_cons.mpr ⟨nc_ff_2_59, List.forall_mem_cons.mpr ⟨nc_ff_2_62, List.forall_mem_cons.mpr ⟨nc_ff_2_65, List.forall_mem_cons.mpr ⟨nc_ff_2_68, List.forall_mem_cons.mpr ⟨nc_ff_2_91, List.forall_mem_cons.mpr ⟨nc_ff_2_97, fun _ h => absurd h List.not_mem_nil⟩⟩⟩⟩⟩⟩⟩⟩⟩⟩⟩⟩⟩⟩⟩⟩⟩⟩⟩⟩⟩
set_option maxRecDepth 100000 in
theorem nc_ff_3_9 : nc_FF 3 (9, 3, 0) := ⟨Or.inl (nc_at_in (p := (2, 34)) rfl rfl), Nat.le_of_ble_eq_true rfl, Nat.le_of_ble_eq_true rfl, rfl⟩
set_option maxRecDepth 100000 in
theorem nc_ff_3_15 : nc_FF 3 (15, 3, 1) := ⟨Or.inl (nc_at_in (p := (2, 35)) rfl rfl), Nat.le_of_ble_eq_true rfl, Nat.le_of_ble_eq_true rfl, rfl⟩
set_option maxRecDepth 100000 in
theorem nc_ff_3_24 : nc_FF 3 (24, 3, 2) := ⟨Or.inl (nc_at_in (p := (2, 36)) rfl rfl), Nat.le_of_ble_eq_true rfl, Nat.le_of_ble_eq_true rfl, rfl⟩
set_option maxRecDepth 100000 in
theorem nc_ff_3_41 : nc_FF 3 (41, 2, 0) := ⟨Or.inl (nc_at_in (p := (1, 160)) rfl rfl), Nat.le_of_ble_eq_true rfl, Nat.le_of_ble_eq_true rfl, rfl⟩
set_option maxRecDepth 100000 in
theorem nc_ff_3_71 : nc_FF 3 (71, 2, 1) := ⟨Or.inl (nc_at_in (p := (1, 163)) rfl rfl), Nat.le_of_ble_eq_true rfl, Nat.le_of_ble_eq_true rfl, rfl⟩
set_option maxRecDepth 100000 in
theorem nc_ff_3_81 : nc_FF 3 (81, 2, 2) := ⟨Or.inl (nc_at_in (p := (1, 167)) rfl rfl), Nat.le_of_ble_eq_true rfl, Nat.le_of_ble_eq_true rfl, rfl⟩
set_option maxRecDepth 100000 in
theorem nc_ff_3_95 : nc_FF 3 (95, 2, 10) := ⟨Or.inl (nc_at_in (p := (1, 198)) rfl rfl), Nat.le_of_ble_eq_true rfl, Nat.le_of_ble_eq_true rfl, rfl⟩
set_option maxRecDepth 100000 in
theorem nc_ff_3_99 : nc_FF 3 (99, 2, 9) := ⟨Or.inl (nc_at_in (p := (1, 195)) rfl rfl), Nat.le_of_ble_eq_true rfl, Nat.le_of_ble_eq_true rfl, rfl⟩
set_option maxRecDepth 100000 in
theorem nc_ff_3_102 : nc_FF 3 (102, 2, 11) := ⟨Or.inl (nc_at_in (p := (1, 203)) rfl rfl), Nat.le_of_ble_eq_true rfl, Nat.le_of_ble_eq_true rfl, rfl⟩
set_option maxRecDepth 100000 in
theorem nc_ff_3_105 : nc_FF 3 (105, 10, 12) := ⟨Or.inl (nc_at_in (p := (1, 108)) rfl rfl), Nat.le_of_ble_eq_true rfl, Nat.le_of_ble_eq_true rfl, rfl⟩
set_option maxRecDepth 100000 in
theorem nc_ff_3_108 : nc_FF 3 (108, 2, 12) := ⟨Or.inl (nc_at_in (p := (1, 206)) rfl rfl), Nat.le_of_ble_eq_true rfl, Nat.le_of_ble_eq_true rfl, rfl⟩
set_option maxRecDepth 100000 in
theorem nc_ff_3_111 : nc_FF 3 (111, 2, 13) := ⟨Or.inl (nc_at_in (p := (1, 209)) rfl rfl), Nat.le_of_ble_eq_true rfl, Nat.le_of_ble_eq_true rfl, rfl⟩
set_option maxRecDepth 100000 in
theorem nc_ff_3_114 : nc_FF 3 (114, 2, 3) := ⟨Or.inl (nc_at_in (p := (1, 174)) rfl rfl), Nat.le_of_ble_eq_true rfl, Nat.le_of_ble_eq_true rfl, rfl⟩
set_option maxRecDepth 100000 in
theorem nc_ff_3_117 : nc_FF 3 (117, 2, 14) := ⟨Or.inl (nc_at_in (p := (1, 213)) rfl rfl), Nat.le_of_ble_eq_true rfl, Nat.le_of_ble_eq_true rfl, rfl⟩
set_option maxRecDepth 100000 in
theorem nc_ff_3_120 : nc_FF 3 (120, 2, 7) := ⟨Or.inl (nc_at_in (p := (1, 192)) rfl rfl), Nat.le_of_ble_eq_true rfl, Nat.le_of_ble_eq_true rfl, rfl⟩
set_option maxRecDepth 100000 in
theorem nc_ff_3_123 : nc_FF 3 (123, 2, 15) := ⟨Or.inl (nc_at_in (p := (1, 217)) rfl rfl), Nat.le_of_ble_eq_true rfl, Nat.le_of_ble_eq_true rfl, rfl⟩
set_option maxRecDepth 100000 in
theorem nc_ff_3_126 : nc_FF 3 (126, 2, 6) := ⟨Or.inl (nc_at_in (p := (1, 188)) rfl rfl), Nat.le_of_ble_eq_true rfl, Nat.le_of_ble_eq_true rfl, rfl⟩
set_option maxRecDepth 100000 in
theorem nc_ff_3_132 : nc_FF 3 (132, 2, 4) := ⟨Or.inl (nc_at_in (p := (1, 178)) rfl rfl), Nat.le_of_ble_eq_true rfl, Nat.le_of_ble_eq_true rfl, rfl⟩
set_option maxRecDepth 100000 in
theorem nc_ff_3_138 : nc_FF 3 (138, 2, 16) := ⟨Or.inl (nc_at_in (p := (1, 221)) rfl rfl), Nat.le_of_ble_eq_true rfl, Nat.le_of_ble_eq_true rfl, rfl⟩
set_option maxRecDepth 100000 in
theorem nc_ff_3_141 : nc_FF 3 (141, 2, 17) := ⟨Or.inl (nc_at_in (p := (1, 224)) rfl rfl), Nat.le_of_ble_eq_true rfl, Nat.le_of_ble_eq_true rfl, rfl⟩
set_option maxRecDepth 100000 in
theorem nc_ff_3_144 : nc_FF 3 (144, 2, 18) := ⟨Or.inl (nc_at_in (p := (1, 227)) rfl rfl), Nat.le_of_ble_eq_true rfl, Nat.le_of_ble_eq_true rfl, rfl⟩
set_option maxRecDepth 100000 in
theorem nc_ff_3_147 : nc_FF 3 (147, 2, 5) := ⟨Or.inl (nc_at_in (p := (1, 184)) rfl rfl), Nat.le_of_ble_eq_true rfl, Nat.le_of_ble_eq_true rfl, rfl⟩
theorem nc_fo_3 : ∀ e ∈ ([(9, 3, 0), (15, 3, 1), (24, 3, 2), (41, 2, 0), (71, 2, 1), (81, 2, 2), (95, 2, 10), (99, 2, 9), (102, 2, 11), (105, 10, 12), (108, 2, 12), (111, 2, 13), (114, 2, 3), (117, 2, 14), (120, 2, 7), (123, 2, 15), (126, 2, 6), (132, 2, 4), (138, 2, 16), (141, 2, 17), (144, 2, 18), (147, 2, 5)] : List (Nat × Nat × Nat)), nc_FF 3 e := List.forall_mem_cons.mpr ⟨nc_ff_3_9, List.forall_mem_cons.mpr ⟨nc_ff_3_15, List.forall_mem_cons.mpr ⟨nc_ff_3_24, List.forall_mem_cons.mpr ⟨nc_ff_3_41, List.forall_mem_cons.mpr ⟨nc_ff_3_71, List.forall_mem_cons.mpr ⟨nc_ff_3_81, List.forall_mem_cons.mpr ⟨nc_ff_3_95, List.forall_mem_cons.mpr ⟨nc_ff_3_99, List.forall_mem_cons.mpr ⟨nc_ff_3_102, List.forall_mem_cons.mpr ⟨nc_ff_3_105, List.forall_mem_cons.mpr ⟨nc_ff_3_108, List.forall_mem_cons.mpr ⟨nc_ff_3_111, List.forall_mem_cons.mpr ⟨nc_ff_3_114, List.forall_mem_cons.mpr ⟨nc_ff_3_117, List.forall_mem_cons.mpr ⟨nc_ff_3_120, List.forall_mem_cons.mpr ⟨nc_ff_3_123, List.forall_mem_cons.mpr ⟨nc_ff_3_126, List.forall_mem_cons.mpr ⟨nc_ff_3_132, List.forall_mem_cons.mpr ⟨nc_ff_3_138, List.forall_mem_cons.mpr ⟨nc_ff_3_141, List.forall_mem_cons.mpr ⟨nc_ff_3_144, List.forall_mem_cons.mpr ⟨nc_ff_3_147, fun _ h => absurd h List.not_mem_nil⟩⟩⟩⟩⟩⟩⟩⟩⟩⟩⟩⟩⟩⟩⟩⟩⟩⟩⟩⟩⟩⟩
set_option maxRecDepth 100000 in
theorem nc_ff_4_7 : nc_FF 4 (7, 4, 0) := ⟨Or.inl (nc_at_in (p := (3, 47)) rfl rfl), Nat.le_of_ble_eq_true rfl, Nat.le_of_ble_eq_true rfl, rfl⟩
set_option maxRecDepth 100000 in
theorem nc_ff_4_14 : nc_FF 4 (14, 7, 0) := ⟨Or.inr (by decide), Nat.le_of_ble_eq_true rfl, Nat.le_of_ble_eq_true rfl, rfl⟩
set_option maxRecDepth 100000 in
theorem nc_ff_4_20 : nc_FF 4 (20, 2, 3) := ⟨Or.inl (nc_at_in (p := (1, 171)) rfl rfl), Nat.le_of_ble_eq_true rfl, Nat.le_of_ble_eq_true rfl, rfl⟩
set_option maxRecDepth 100000 in
theorem nc_ff_4_25 : nc_FF 4 (25, 2, 2) := ⟨Or.inl (nc_at_in (p := (1, 166)) rfl rfl), Nat.le_of_ble_eq_true rfl, Nat.le_of_ble_eq_true rfl, rfl⟩
theorem nc_fo_4 : ∀ e ∈ ([(7, 4, 0), (14, 7, 0), (20, 2, 3), (25, 2, 2)] : List (Nat × Nat × Nat)), nc_FF 4 e := List.forall_mem_cons.mpr ⟨nc_ff_4_7, List.forall_mem_cons.mpr ⟨nc_ff_4_14, List.forall_mem_cons.mpr ⟨nc_ff_4_20, List.forall_mem_cons.mpr ⟨nc_ff_4_25, fun _ h => absurd h List.not_mem_nil⟩⟩⟩⟩
set_option maxRecDepth 100000 in
theorem nc_ff_5_11 : nc_FF 5 (11, 5, 0) := ⟨Or.inl (nc_at_in (p := (2, 134)) rfl rfl), Nat.le_of_ble_eq_true rfl, Nat.le_of_ble_eq_true rfl, rfl⟩
set_option maxRecDepth 100000 in
theorem nc_ff_5_20 : nc_FF 5 (20, 5, 2) := ⟨Or.inl (nc_at_in (p := (2, 136)) rfl rfl), Nat.le_of_ble_eq_true rfl, Nat.le_of_ble_eq_true rfl, rfl⟩
set_option maxRecDepth 100000 in
theorem nc_ff_5_24 : nc_FF 5 (24, 5, 1) := ⟨Or.inl (nc_at_in (p := (2, 135)) rfl rfl), Nat.le_of_ble_eq_true rfl, Nat.le_of_ble_eq_true rfl, rfl⟩
theorem nc_fo_5 : ∀ e ∈ ([(11, 5, 0), (20, 5, 2), (24, 5, 1)] : List (Nat × Nat × Nat)), nc_FF 5 e := List.forall_mem_cons.mpr ⟨nc_ff_5_11, List.forall_mem_cons.mpr ⟨nc_ff_5_20, List.forall_mem_cons.mpr ⟨nc_ff_5_24, fun _ h => absurd h List.not_mem_nil⟩⟩⟩
set_option maxRecDepth 100000 in
theorem nc_ff_7_9 : nc_FF 7 (9, 7, 5) := ⟨Or.inl (nc_at_in (p := (2, 66)) rfl rfl), Nat.le_of_ble_eq_true rfl, Nat.le_of_ble_eq_true rfl, rfl⟩
set_option maxRecDepth 100000 in
theorem nc_ff_7_15 : nc_FF 7 (15, 7, 6) := ⟨Or.inl (nc_at_in (p := (2, 67)) rfl rfl), Nat.le_of_ble_eq_true rfl, Nat.le_of_ble_eq_true rfl, rfl⟩
set_option maxRecDepth 100000 in
theorem nc_ff_7_18 : nc_FF 7 (18, 7, 7) := ⟨Or.inl (nc_at_in (p := (2, 72)) rfl rfl), Nat.le_of_ble_eq_true rfl, Nat.le_of_ble_eq_true rfl, rfl⟩
set_option maxRecDepth 100000 in
theorem nc_ff_7_21 : nc_FF 7 (21, 7, 8) := ⟨Or.inl (nc_at_in (p := (2, 76)) rfl rfl), Nat.le_of_ble_eq_true rfl, Nat.le_of_ble_eq_true rfl, rfl⟩
set_option maxRecDepth 100000 in
theorem nc_ff_7_24 : nc_FF 7 (24, 7, 9) := ⟨Or.inl (nc_at_in (p := (2, 77)) rfl rfl), Nat.le_of_ble_eq_true rfl, Nat.le_of_ble_eq_true rfl, rfl⟩
set_option maxRecDepth 100000 in
theorem nc_ff_7_27 : nc_FF 7 (27, 7, 10) := ⟨Or.inl (nc_at_in (p := (2, 78)) rfl rfl), Nat.le_of_ble_eq_true rfl, Nat.le_of_ble_eq_true rfl, rfl⟩
set_option maxRecDepth 100000 in
theorem nc_ff_7_30 : nc_FF 7 (30, 7, 11) := ⟨Or.inl (nc_at_in (p := (2, 79)) rfl rfl), Nat.le_of_ble_eq_true rfl, Nat.le_of_ble_eq_true rfl, rfl⟩
set_option maxRecDepth 100000 in
theorem nc_ff_7_33 : nc_FF 7 (33, 7, 12) := ⟨Or.inl (nc_at_in (p := (2, 82)) rfl rfl), Nat.le_of_ble_eq_true rfl, Nat.le_of_ble_eq_true rfl, rfl⟩
set_option maxRecDepth 100000 in
theorem nc_ff_7_36 : nc_FF 7 (36, 7, 13) := ⟨Or.inl (nc_at_in (p := (2, 85)) rfl rfl), Nat.le_of_ble_eq_true rfl, Nat.le_of_ble_eq_true rfl, rfl⟩
set_option maxRecDepth 100000 in
theorem nc_ff_7_39 : nc_FF 7 (39, 7, 14) := ⟨Or.inl (nc_at_in (p := (2, 87)) rfl rfl), Nat.le_of_ble_eq_true rfl, Nat.le_of_ble_eq_true rfl, rfl⟩
set_option maxRecDepth 100000 in
theorem nc_ff_7_42 : nc_FF 7 (42, 7, 15) := ⟨Or.inl (nc_at_in (p := (2, 88)) rfl rfl), Nat.le_of_ble_eq_true rfl, Nat.le_of_ble_eq_true rfl, rfl⟩
set_option maxRecDepth 100000 in
theorem nc_ff_7_45 : nc_FF 7 (45, 7, 16) := ⟨Or.inl (nc_at_in (p := (2, 89)) rfl rfl), Nat.le_of_ble_eq_true rfl, Nat.le_of_ble_eq_true rfl, rfl⟩
set_option maxRecDepth 100000 in
theorem nc_ff_7_48 : nc_FF 7 (48, 7, 0) := ⟨Or.inl (nc_at_in (p := (2, 53)) rfl rfl), Nat.le_of_ble_eq_true rfl, Nat.le_of_ble_eq_true rfl, rfl⟩
set_option maxRecDepth 100000 in
theorem nc_ff_7_58 : nc_FF 7 (58, 7, 1) := ⟨Or.inl (nc_at_in (p := (2, 56)) rfl rfl), Nat.le_of_ble_eq_true rfl, Nat.le_of_ble_eq_true rfl, rfl⟩
set_option maxRecDepth 100000 in
theorem nc_ff_7_62 : nc_FF 7 (62, 7, 2) := ⟨Or.inl (nc_at_in (p := (2, 59)) rfl rfl), Nat.le_of_ble_eq_true rfl, Nat.le_of_ble_eq_true rfl, rfl⟩
set_option maxRecDepth 100000 in
theorem nc_ff_7_65 : nc_FF 7 (65, 7, 3) := ⟨Or.inl (nc_at_in (p := (2, 61)) rfl rfl), Nat.le_of_ble_eq_true rfl, Nat.le_of_ble_eq_true rfl, rfl⟩
set_option maxRecDepth 100000 in
theorem nc_ff_7_68 : nc_FF 7 (68, 7, 4) := ⟨Or.inl (nc_at_in (p := (2, 64)) rfl rfl), Nat.le_of_ble_eq_true rfl, Nat.le_of_ble_eq_true rfl, rfl⟩
set_option maxRecDepth 100000 in
theorem nc_ff_7_87 : nc_FF 7 (87, 2, 5) := ⟨Or.inl (nc_at_in (p := (1, 183)) rfl rfl), Nat.le_of_ble_eq_true rfl, Nat.le_of_ble_eq_true rfl, rfl⟩
set_option maxRecDepth 100000 in
theorem nc_ff_7_96 : nc_FF 7 (96, 2, 14) := ⟨Or.inl (nc_at_in (p := (1, 214)) rfl rfl), Nat.le_of_ble_eq_true rfl, Nat.le_of_ble_eq_true rfl, rfl⟩
set_option maxRecDepth 100000 in
theorem nc_ff_7_105 : nc_FF 7 (105, 2, 2) := ⟨Or.inl (nc_at_in (p := (1, 168)) rfl rfl), Nat.le_of_ble_eq_true rfl, Nat.le_of_ble_eq_true rfl, rfl⟩
set_option maxRecDepth 100000 in
theorem nc_ff_7_112 : nc_FF 7 (112, 2, 12) := ⟨Or.inl (nc_at_in (p := (1, 207)) rfl rfl), Nat.le_of_ble_eq_true rfl, Nat.le_of_ble_eq_true rfl, rfl⟩
set_option maxRecDepth 100000 in
theorem nc_ff_7_127 : nc_FF 7 (127, 2, 11) := ⟨Or.inl (nc_at_in (p := (1, 204)) rfl rfl), Nat.le_of_ble_eq_true rfl, Nat.le_of_ble_eq_true rfl, rfl⟩
set_option maxRecDepth 100000 in
theorem nc_ff_7_133 : nc_FF 7 (133, 2, 3) := ⟨Or.inl (nc_at_in (p := (1, 175)) rfl rfl), Nat.le_of_ble_eq_true rfl, Nat.le_of_ble_eq_true rfl, rfl⟩
set_option maxRecDepth 100000 in
theorem nc_ff_7_140 : nc_FF 7 (140, 2, 6) := ⟨Or.inl (nc_at_in (p := (1, 189)) rfl rfl), Nat.le_of_ble_eq_true rfl, Nat.le_of_ble_eq_true rfl, rfl⟩
set_option maxRecDepth 100000 in
theorem nc_ff_7_143 : nc_FF 7 (143, 2, 15) := ⟨Or.inl (nc_at_in (p := (1, 219)) rfl rfl), Nat.le_of_ble_eq_true rfl, Nat.le_of_ble_eq_true rfl, rfl⟩
set_option maxRecDepth 100000 in
theorem nc_ff_7_146 : nc_FF 7 (146, 2, 10) := ⟨Or.inl (nc_at_in (p := (1, 201)) rfl rfl), Nat.le_of_ble_eq_true rfl, Nat.le_of_ble_eq_true rfl, rfl⟩
set_option maxRecDepth 100000 in
theorem nc_ff_7_161 : nc_FF 7 (161, 2, 4) := ⟨Or.inl (nc_at_in (p := (1, 179)) rfl rfl), Nat.le_of_ble_eq_true rfl, Nat.le_of_ble_eq_true rfl, rfl⟩
set_option maxRecDepth 100000 in
theorem nc_ff_7_164 : nc_FF 7 (164, 2, 18) := ⟨Or.inl (nc_at_in (p := (1, 228)) rfl rfl), Nat.le_of_ble_eq_true rfl, Nat.le_of_ble_eq_true rfl, rfl⟩
set_option maxRecDepth 100000 in
theorem nc_ff_7_171 : nc_FF 7 (171, 2, 16) := ⟨Or.inl (nc_at_in (p := (1, 222)) rfl rfl), Nat.le_of_ble_eq_true rfl, Nat.le_of_ble_eq_true rfl, rfl⟩
set_option maxRecDepth 100000 in
theorem nc_ff_7_174 : nc_FF 7 (174, 2, 17) := ⟨Or.inl (nc_at_in (p := (1, 225)) rfl rfl), Nat.le_of_ble_eq_true rfl, Nat.le_of_ble_eq_true rfl, rfl⟩
set_option maxRecDepth 100000 in
theorem nc_ff_7_184 : nc_FF 7 (184, 2, 13) := ⟨Or.inl (nc_at_in (p := (1, 210)) rfl rfl), Nat.le_of_ble_eq_true rfl, Nat.le_of_ble_eq_true rfl, rfl⟩
theorem nc_fo_7 : ∀ e ∈ ([(9, 7, 5), (15, 7, 6), (18, 7, 7), (21, 7, 8), (24, 7, 9), (27, 7, 10), (30, 7, 11), (33, 7, 12), (36, 7, 13), (39, 7, 14), (42, 7, 15), (45, 7, 16), (48, 7, 0), (58, 7, 1), (62, 7, 2), (65, 7, 3), (68, 7, 4), (87, 2, 5), (96, 2, 14), (105, 2, 2), (112, 2, 12), (127, 2, 11), (133, 2, 3), (140, 2, 6), (143, 2, 15), (146, 2, 10), (161, 2, 4), (164, 2, 18), (171, 2, 16), (174, 2, 17), (184, 2, 13)] : List (Nat × Nat × Nat)), nc_FF 7 e := List.forall_mem_cons.mpr ⟨nc_ff_7_9, List.forall_mem_cons.mpr ⟨nc_ff_7_15, List.forall_mem_cons.mpr ⟨nc_ff_7_18, List.forall_mem_cons.mpr ⟨nc_ff_7_21, List.forall_mem_cons.mpr ⟨nc_ff_7_24, List.forall_mem_cons.mpr ⟨nc_ff_7_27, List.forall_mem_cons.mpr ⟨nc_ff_7_30, List.forall_mem_cons.mpr ⟨nc_ff_7_33, List.forall_mem_cons.mpr ⟨nc_ff_7_36, List.forall_mem_cons.mpr ⟨nc_ff_7_39, List.forall_mem_cons.mpr ⟨nc_ff_7_42, List.forall_mem_cons.mpr ⟨nc_ff_7_45, List.forall_mem_cons.mpr ⟨nc_ff_7_48, List.forall_mem_cons.mpr ⟨nc_ff_7_58, List.forall_mem_cons.mpr ⟨nc_ff_7_62, List.forall_mem_cons.mpr ⟨nc_ff_7_65, List.forall_mem_cons.mpr ⟨nc_ff_7_68, List.forall_mem_cons.mpr ⟨nc_ff_7_87, List.forall_mem_cons.mpr ⟨nc_ff_7_96, List.forall_mem_cons.mpr ⟨nc_ff_7_105, List.forall_mem_cons.mpr ⟨nc_ff_7_112, List.forall_mem_cons.mpr ⟨nc_ff_7_127, List.forall_mem_cons.mpr ⟨nc_ff_7_133, List.forall_mem_cons.mpr ⟨nc_ff_7_140, List.forall_mem_cons.mpr ⟨nc_ff_7_143, List.forall_mem_cons.mpr ⟨nc_ff_7_146, List.forall_mem_cons.mpr ⟨nc_ff_7_161, List.forall_mem_cons.mpr ⟨nc_ff_7_164, List.forall_mem_cons.mpr ⟨nc_ff_7_171, List.forall_mem_cons.mpr ⟨nc_ff_7_174, List.forall_mem_cons.mpr ⟨nc_ff_7_184, fun _ h => absurd h List.not_mem_nil⟩⟩⟩⟩⟩⟩⟩⟩⟩⟩⟩⟩⟩⟩⟩⟩⟩⟩⟩⟩⟩⟩⟩⟩⟩⟩⟩⟩⟩⟩⟩
set_option maxRecDepth 100000 in
theorem nc_ff_8_9 : nc_FF 8 (9, 8, 3) := ⟨Or.inl (nc_at_in (p := (3, 20)) rfl rfl), Nat.le_of_ble_eq_true rfl, Nat.le_of_ble_eq_true rfl, rfl⟩
set_option maxRecDepth 100000 in
theorem nc_ff_8_15 : nc_FF 8 (15, 8, 4) := ⟨Or.inl (nc_at_in (p := (3, 21)) rfl rfl), Nat.le_of_ble_eq_true rfl, Nat.le_of_ble_eq_true rfl, rfl⟩
set_option maxRecDepth 100000 in
theorem nc_ff_8_18 : nc_FF 8 (18, 8, 0) := ⟨Or.inl (nc_at_in (p := (3, 17)) rfl rfl), Nat.le_of_ble_eq_true rfl, Nat.le_of_ble_eq_true rfl, rfl⟩
set_option maxRecDepth 100000 in
theorem nc_ff_8_27 : nc_FF 8 (27, 8, 1) := ⟨Or.inl (nc_at_in (p := (3, 18)) rfl rfl), Nat.le_of_ble_eq_true rfl, Nat.le_of_ble_eq_true rfl, rfl⟩
set_option maxRecDepth 100000 in
theorem nc_ff_8_31 : nc_FF 8 (31, 8, 2) := ⟨Or.inl (nc_at_in (p := (3, 19)) rfl rfl), Nat.le_of_ble_eq_true rfl, Nat.le_of_ble_eq_true rfl, rfl⟩
set_option maxRecDepth 100000 in
theorem nc_ff_8_34 : nc_FF 8 (34, 8, 5) := ⟨Or.inl (nc_at_in (p := (3, 23)) rfl rfl), Nat.le_of_ble_eq_true rfl, Nat.le_of_ble_eq_true rfl, rfl⟩
set_option maxRecDepth 100000 in
theorem nc_ff_8_38 : nc_FF 8 (38, 8, 6) := ⟨Or.inl (nc_at_in (p := (3, 25)) rfl rfl), Nat.le_of_ble_eq_true rfl, Nat.le_of_ble_eq_true rfl, rfl⟩
set_option maxRecDepth 100000 in
theorem nc_ff_8_48 : nc_FF 8 (48, 2, 3) := ⟨Or.inl (nc_at_in (p := (1, 172)) rfl rfl), Nat.le_of_ble_eq_true rfl, Nat.le_of_ble_eq_true rfl, rfl⟩
set_option maxRecDepth 100000 in
theorem nc_ff_8_88 : nc_FF 8 (88, 2, 14) := ⟨Or.inl (nc_at_in (p := (1, 212)) rfl rfl), Nat.le_of_ble_eq_true rfl, Nat.le_of_ble_eq_true rfl, rfl⟩
set_option maxRecDepth 100000 in
theorem nc_ff_8_91 : nc_FF 8 (91, 7, 6) := ⟨Or.inl (nc_at_in (p := (2, 68)) rfl rfl), Nat.le_of_ble_eq_true rfl, Nat.le_of_ble_eq_true rfl, rfl⟩
theorem nc_fo_8 : ∀ e ∈ ([(9, 8, 3), (15, 8, 4), (18, 8, 0), (27, 8, 1), (31, 8, 2), (34, 8, 5), (38, 8, 6), (48, 2, 3), (88, 2, 14), (91, 7, 6)] : List (Nat × Nat × Nat)), nc_FF 8 e := List.forall_mem_cons.mpr ⟨nc_ff_8_9, List.forall_mem_cons.mpr ⟨nc_ff_8_15, List.forall_mem_cons.mpr ⟨nc_ff_8_18, List.forall_mem_cons.mpr ⟨nc_ff_8_27, List.forall_mem_cons.mpr ⟨nc_ff_8_31, List.forall_mem_cons.mpr ⟨nc_ff_8_34, List.forall_mem_cons.mpr ⟨nc_ff_8_38, List.forall_mem_cons.mpr ⟨nc_ff_8_48, List.forall_mem_cons.mpr ⟨nc_ff_8_88, List.forall_mem_cons.mpr ⟨nc_ff_8_91, fun _ h => absurd h List.not_mem_nil⟩⟩⟩⟩⟩⟩⟩⟩⟩⟩
set_option maxRecDepth 100000 in
theorem nc_ff_9_11 : nc_FF 9 (11, 9, 0) := ⟨Or.inl (nc_at_in (p := (2, 150)) rfl rfl), Nat.le_of_ble_eq_true rfl, Nat.le_of_ble_eq_true rfl, rfl⟩
set_option maxRecDepth 100000 in
theorem nc_ff_9_15 : nc_FF 9 (15, 9, 1) := ⟨Or.inl (nc_at_in (p := (2, 151)) rfl rfl), Nat.le_of_ble_eq_true rfl, Nat.le_of_ble_eq_true rfl, rfl⟩
set_option maxRecDepth 100000 in
theorem nc_ff_9_18 : nc_FF 9 (18, 9, 2) := ⟨Or.inl (nc_at_in (p := (2, 152)) rfl rfl), Nat.le_of_ble_eq_true rfl, Nat.le_of_ble_eq_true rfl, rfl⟩
set_option maxRecDepth 100000 in
theorem nc_ff_9_21 : nc_FF 9 (21, 9, 3) := ⟨Or.inl (nc_at_in (p := (2, 153)) rfl rfl), Nat.le_of_ble_eq_true rfl, Nat.le_of_ble_eq_true rfl, rfl⟩
set_option maxRecDepth 100000 in
theorem nc_ff_9_25 : nc_FF 9 (25, 9, 4) := ⟨Or.inl (nc_at_in (p := (2, 154)) rfl rfl), Nat.le_of_ble_eq_true rfl, Nat.le_of_ble_eq_true rfl, rfl⟩
set_option maxRecDepth 100000 in
theorem nc_ff_9_87 : nc_FF 9 (87, 10, 12) := ⟨Or.inl (nc_at_in (p := (1, 109)) rfl rfl), Nat.le_of_ble_eq_true rfl, Nat.le_of_ble_eq_true rfl, rfl⟩
set_option maxRecDepth 100000 in
theorem nc_ff_9_106 : nc_FF 9 (106, 7, 0) := ⟨Or.inr (by decide), Nat.le_of_ble_eq_true rfl, Nat.le_of_ble_eq_true rfl, rfl⟩
set_option maxRecDepth 100000 in
theorem nc_ff_9_110 : nc_FF 9 (110, 2, 10) := ⟨Or.inl (nc_at_in (p := (1, 200)) rfl rfl), Nat.le_of_ble_eq_true rfl, Nat.le_of_ble_eq_true rfl, rfl⟩
set_option maxRecDepth 100000 in
theorem nc_ff_9_113 : nc_FF 9 (113, 7, 6) := ⟨Or.inl (nc_at_in (p := (2, 71)) rfl rfl), Nat.le_of_ble_eq_true rfl, Nat.le_of_ble_eq_true rfl, rfl⟩
set_option maxRecDepth 100000 in
theorem nc_ff_9_116 : nc_FF 9 (116, 7, 7) := ⟨Or.inl (nc_at_in (p := (2, 75)) rfl rfl), Nat.le_of_ble_eq_true rfl, Nat.le_of_ble_eq_true rfl, rfl⟩
set_option maxRecDepth 100000 in
theorem nc_ff_9_126 : nc_FF 9 (126, 7, 12) := ⟨Or.inl (nc_at_in (p := (2, 84)) rfl rfl), Nat.le_of_ble_eq_true rfl, Nat.le_of_ble_eq_true rfl, rfl⟩
set_option maxRecDepth 100000 in
theorem nc_ff_9_129 : nc_FF 9 (129, 7, 11) := ⟨Or.inl (nc_at_in (p := (2, 81)) rfl rfl), Nat.le_of_ble_eq_true rfl, Nat.le_of_ble_eq_true rfl, rfl⟩
theorem nc_fo_9 : ∀ e ∈ ([(11, 9, 0), (15, 9, 1), (18, 9, 2), (21, 9, 3), (25, 9, 4), (87, 10, 12), (106, 7, 0), (110, 2, 10), (113, 7, 6), (116, 7, 7), (126, 7, 12), (129, 7, 11)] : List (Nat × Nat × Nat)), nc_FF 9 e := List.forall_mem_cons.mpr ⟨nc_ff_9_11, List.forall_mem_cons.mpr ⟨nc_ff_9_15, List.forall_mem_cons.mpr ⟨nc_ff_9_18, List.forall_mem_cons.mpr ⟨nc_ff_9_21, List.forall_mem_cons.mpr ⟨nc_ff_9_25, List.forall_mem_cons.mpr ⟨nc_ff_9_87, List.forall_mem_cons.mpr ⟨nc_ff_9_106, List.forall_mem_cons.mpr ⟨nc_ff_9_110, List.forall_mem_cons.mpr ⟨nc_ff_9_113, List.forall_mem_cons.mpr ⟨nc_ff_9_116, List.forall_mem_cons.mpr ⟨nc_ff_9_126, List.forall_mem_cons.mpr ⟨nc_ff_9_129, fun _ h => absurd h List.not_mem_nil⟩⟩⟩⟩⟩⟩⟩⟩⟩⟩⟩⟩
set_option maxRecDepth 100000 in
theorem nc_ff_10_9 : nc_FF 10 (9, 10, 0) := ⟨Or.inl (nc_at_in (p := (1, 93)) rfl rfl), Nat.le_of_ble_eq_true rfl, Nat.le_of_ble_eq_true rfl, rfl⟩
set_option maxRecDepth 100000 in
theorem nc_ff_10_15 : nc_FF 10 (15, 10, 2) := ⟨Or.inl (nc_at_in (p := (1, 96)) rfl rfl), Nat.le_of_ble_eq_true rfl, Nat.le_of_ble_eq_true rfl, rfl⟩
set_option maxRecDepth 100000 in
theorem nc_ff_10_19 : nc_FF 10 (19, 10, 3) := ⟨Or.inl (nc_at_in (p := (1, 97)) rfl rfl), Nat.le_of_ble_eq_true rfl, Nat.le_of_ble_eq_true rfl, rfl⟩
set_option maxRecDepth 100000 in
theorem nc_ff_10_23 : nc_FF 10 (23, 10, 4) := ⟨Or.inl (nc_at_in (p := (1, 98)) rfl rfl), Nat.le_of_ble_eq_true rfl, Nat.le_of_ble_eq_true rfl, rfl⟩
set_option maxRecDepth 100000 in
theorem nc_ff_10_26 : nc_FF 10 (26, 10, 5) := ⟨Or.inl (nc_at_in (p := (1, 99)) rfl rfl), Nat.le_of_ble_eq_true rfl, Nat.le_of_ble_eq_true rfl, rfl⟩
set_option maxRecDepth 100000 in
theorem nc_ff_10_29 : nc_FF 10 (29, 10, 6) := ⟨Or.inl (nc_at_in (p := (1, 100)) rfl rfl), Nat.le_of_ble_eq_true rfl, Nat.le_of_ble_eq_true rfl, rfl⟩
set_option maxRecDepth 100000 in
theorem nc_ff_10_48 : nc_FF 10 (48, 10, 1) := ⟨Or.inl (nc_at_in (p := (1, 95)) rfl rfl), Nat.le_of_ble_eq_true rfl, Nat.le_of_ble_eq_true rfl, rfl⟩
set_option maxRecDepth 100000 in
theorem nc_ff_10_58 : nc_FF 10 (58, 10, 9) := ⟨Or.inl (nc_at_in (p := (1, 103)) rfl rfl), Nat.le_of_ble_eq_true rfl, Nat.le_of_ble_eq_true rfl, rfl⟩
set_option maxRecDepth 100000 in
theorem nc_ff_10_62 : nc_FF 10 (62, 10, 14) := ⟨Or.inl (nc_at_in (p := (1, 114)) rfl rfl), Nat.le_of_ble_eq_true rfl, Nat.le_of_ble_eq_true rfl, rfl⟩
set_option maxRecDepth 100000 in
theorem nc_ff_10_65 : nc_FF 10 (65, 10, 15) := ⟨Or.inl (nc_at_in (p := (1, 116)) rfl rfl), Nat.le_of_ble_eq_true rfl, Nat.le_of_ble_eq_true rfl, rfl⟩
set_option maxRecDepth 100000 in
theorem nc_ff_10_68 : nc_FF 10 (68, 10, 7) := ⟨Or.inl (nc_at_in (p := (1, 101)) rfl rfl), Nat.le_of_ble_eq_true rfl, Nat.le_of_ble_eq_true rfl, rfl⟩
set_option maxRecDepth 100000 in
theorem nc_ff_10_71 : nc_FF 10 (71, 10, 8) := ⟨Or.inl (nc_at_in (p := (1, 102)) rfl rfl), Nat.le_of_ble_eq_true rfl, Nat.le_of_ble_eq_true rfl, rfl⟩
set_option maxRecDepth 100000 in
theorem nc_ff_10_101 : nc_FF 10 (101, 10, 10) := ⟨Or.inl (nc_at_in (p := (1, 104)) rfl rfl), Nat.le_of_ble_eq_true rfl, Nat.le_of_ble_eq_true rfl, rfl⟩
set_option maxRecDepth 100000 in
theorem nc_ff_10_104 : nc_FF 10 (104, 10, 11) := ⟨Or.inl (nc_at_in (p := (1, 106)) rfl rfl), Nat.le_of_ble_eq_true rfl, Nat.le_of_ble_eq_true rfl, rfl⟩
set_option maxRecDepth 100000 in
theorem nc_ff_10_107 : nc_FF 10 (107, 10, 12) := ⟨Or.inl (nc_at_in (p := (1, 110)) rfl rfl), Nat.le_of_ble_eq_true rfl, Nat.le_of_ble_eq_true rfl, rfl⟩
set_option maxRecDepth 100000 in
theorem nc_ff_10_110 : nc_FF 10 (110, 10, 13) := ⟨Or.inl (nc_at_in (p := (1, 112)) rfl rfl), Nat.le_of_ble_eq_true rfl, Nat.le_of_ble_eq_true rfl, rfl⟩
theorem nc_fo_10 : ∀ e ∈ ([(9, 10, 0), (15, 10, 2), (19, 10, 3), (23, 10, 4), (26, 10, 5), (29, 10, 6), (48, 10, 1), (58, 10, 9), (62, 10, 14), (65, 10, 15), (68, 10, 7), (71, 10, 8), (101, 10, 10), (104, 10, 11), (107, 10, 12), (110, 10, 13)] : List (Nat × Nat × Nat)), nc_FF 10 e := List.forall_mem_cons.mpr ⟨nc_ff_10_9, List.forall_mem_cons.mpr ⟨nc_ff_10_15, List.forall_mem_cons.mpr ⟨nc_ff_10_19, List.forall_mem_cons.mpr ⟨nc_ff_10_23, List.forall_mem_cons.mpr ⟨nc_ff_10_26, List.forall_mem_cons.mpr ⟨nc_ff_10_29, List.forall_mem_cons.mpr ⟨nc_ff_10_48, List.forall_mem_cons.mpr ⟨nc_ff_10_58, List.forall_mem_cons.mpr ⟨nc_ff_10_62, List.forall_mem_cons.mpr ⟨nc_ff_10_65, List.forall_mem_cons.mpr ⟨nc_ff_10_68, List.forall_mem_cons.mpr ⟨nc_ff_10_71, List.forall_mem_cons.mpr ⟨nc_ff_10_101, List.forall_mem_cons.mpr ⟨nc_ff_10_104, List.forall_mem_cons.mpr ⟨nc_ff_10_107, List.forall_mem_cons.mpr ⟨nc_ff_10_110, fun _ h => absurd h List.not_mem_nil⟩⟩⟩⟩⟩⟩⟩⟩⟩⟩⟩⟩⟩⟩⟩⟩
set_option maxRecDepth 100000 in
theorem nc_ff_11_12 : nc_FF 11 (12, 11, 0) := ⟨Or.inl (nc_at_in (p := (3, 80)) rfl rfl), Nat.le_of_ble_eq_true rfl, Nat.le_of_ble_eq_true rfl, rfl⟩
set_option maxRecDepth 100000 in
theorem nc_ff_11_19 : nc_FF 11 (19, 11, 1) := ⟨Or.inl (nc_at_in (p := (3, 81)) rfl rfl), Nat.le_of_ble_eq_true rfl, Nat.le_of_ble_eq_true rfl, rfl⟩
set_option maxRecDepth 100000 in
theorem nc_ff_11_23 : nc_FF 11 (23, 11, 2) := ⟨Or.inl (nc_at_in (p := (3, 82)) rfl rfl), Nat.le_of_ble_eq_true rfl, Nat.le_of_ble_eq_true rfl, rfl⟩
set_option maxRecDepth 100000 in
theorem nc_ff_11_31 : nc_FF 11 (31, 11, 3) := ⟨Or.inl (nc_at_in (p := (3, 83)) rfl rfl), Nat.le_of_ble_eq_true rfl, Nat.le_of_ble_eq_true rfl, rfl⟩
set_option maxRecDepth 100000 in
theorem nc_ff_11_40 : nc_FF 11 (40, 11, 4) := ⟨Or.inl (nc_at_in (p := (3, 84)) rfl rfl), Nat.le_of_ble_eq_true rfl, Nat.le_of_ble_eq_true rfl, rfl⟩
set_option maxRecDepth 100000 in
theorem nc_ff_11_44 : nc_FF 11 (44, 11, 5) := ⟨Or.inl (nc_at_in (p := (3, 85)) rfl rfl), Nat.le_of_ble_eq_true rfl, Nat.le_of_ble_eq_true rfl, rfl⟩
set_option maxRecDepth 100000 in
theorem nc_ff_11_50 : nc_FF 11 (50, 11, 6) := ⟨Or.inl (nc_at_in (p := (3, 86)) rfl rfl), Nat.le_of_ble_eq_true rfl, Nat.le_of_ble_eq_true rfl, rfl⟩
set_option maxRecDepth 100000 in
theorem nc_ff_11_57 : nc_FF 11 (57, 11, 7) := ⟨Or.inl (nc_at_in (p := (3, 87)) rfl rfl), Nat.le_of_ble_eq_true rfl, Nat.le_of_ble_eq_true rfl, rfl⟩
set_option maxRecDepth 100000 in
theorem nc_ff_11_61 : nc_FF 11 (61, 11, 8) := ⟨Or.inl (nc_at_in (p := (3, 88)) rfl rfl), Nat.le_of_ble_eq_true rfl, Nat.le_of_ble_eq_true rfl, rfl⟩
set_option maxRecDepth 100000 in
theorem nc_ff_11_67 : nc_FF 11 (67, 11, 9) := ⟨Or.inl (nc_at_in (p := (3, 89)) rfl rfl), Nat.le_of_ble_eq_true rfl, Nat.le_of_ble_eq_true rfl, rfl⟩
set_option maxRecDepth 100000 in
theorem nc_ff_11_76 : nc_FF 11 (76, 11, 10) := ⟨Or.inl (nc_at_in (p := (3, 90)) rfl rfl), Nat.le_of_ble_eq_true rfl, Nat.le_of_ble_eq_true rfl, rfl⟩
set_option maxRecDepth 100000 in
theorem nc_ff_11_83 : nc_FF 11 (83, 11, 11) := ⟨Or.inl (nc_at_in (p := (3, 91)) rfl rfl), Nat.le_of_ble_eq_true rfl, Nat.le_of_ble_eq_true rfl, rfl⟩
set_option maxRecDepth 100000 in
theorem nc_ff_11_90 : nc_FF 11 (90, 11, 12) := ⟨Or.inl (nc_at_in (p := (3, 92)) rfl rfl), Nat.le_of_ble_eq_true rfl, Nat.le_of_ble_eq_true rfl, rfl⟩
set_option maxRecDepth 100000 in
theorem nc_ff_11_97 : nc_FF 11 (97, 11, 13) := ⟨Or.inl (nc_at_in (p := (3, 93)) rfl rfl), Nat.le_of_ble_eq_true rfl, Nat.le_of_ble_eq_true rfl, rfl⟩
set_option maxRecDepth 100000 in
theorem nc_ff_11_101 : nc_FF 11 (101, 11, 14) := ⟨Or.inl (nc_at_in (p := (3, 94)) rfl rfl), Nat.le_of_ble_eq_true rfl, Nat.le_of_ble_eq_true rfl, rfl⟩
set_option maxRecDepth 100000 in
theorem nc_ff_11_104 : nc_FF 11 (104, 11, 15) := ⟨Or.inl (nc_at_in (p := (3, 95)) rfl rfl), Nat.le_of_ble_eq_true rfl, Nat.le_of_ble_eq_true rfl, rfl⟩
set_option maxRecDepth 100000 in
theorem nc_ff_11_108 : nc_FF 11 (108, 10, 1) := ⟨Or.inl (nc_at_in (p := (1, 94)) rfl rfl), Nat.le_of_ble_eq_true rfl, Nat.le_of_ble_eq_true rfl, rfl⟩
set_option maxRecDepth 100000 in
theorem nc_ff_11_119 : nc_FF 11 (119, 10, 15) := ⟨Or.inl (nc_at_in (p := (1, 115)) rfl rfl), Nat.le_of_ble_eq_true rfl, Nat.le_of_ble_eq_true rfl, rfl⟩
set_option maxRecDepth 100000 in
theorem nc_ff_11_130 : nc_FF 11 (130, 2, 0) := ⟨Or.inl (nc_at_in (p := (1, 161)) rfl rfl), Nat.le_of_ble_eq_true rfl, Nat.le_of_ble_eq_true rfl, rfl⟩
set_option maxRecDepth 100000 in
theorem nc_ff_11_133 : nc_FF 11 (133, 10, 14) := ⟨Or.inl (nc_at_in (p := (1, 113)) rfl rfl), Nat.le_of_ble_eq_true rfl, Nat.le_of_ble_eq_true rfl, rfl⟩
set_option maxRecDepth 100000 in
theorem nc_ff_11_143 : nc_FF 11 (143, 2, 10) := ⟨Or.inl (nc_at_in (p := (1, 199)) rfl rfl), Nat.le_of_ble_eq_true rfl, Nat.le_of_ble_eq_true rfl, rfl⟩
set_option maxRecDepth 100000 in
theorem nc_ff_11_153 : nc_FF 11 (153, 7, 11) := ⟨Or.inl (nc_at_in (p := (2, 80)) rfl rfl), Nat.le_of_ble_eq_true rfl, Nat.le_of_ble_eq_true rfl, rfl⟩
set_option maxRecDepth 100000 in
theorem nc_ff_11_156 : nc_FF 11 (156, 7, 7) := ⟨Or.inl (nc_at_in (p := (2, 74)) rfl rfl), Nat.le_of_ble_eq_true rfl, Nat.le_of_ble_eq_true rfl, rfl⟩
set_option maxRecDepth 100000 in
theorem nc_ff_11_159 : nc_FF 11 (159, 7, 6) := ⟨Or.inl (nc_at_in (p := (2, 70)) rfl rfl), Nat.le_of_ble_eq_true rfl, Nat.le_of_ble_eq_true rfl, rfl⟩
set_option maxRecDepth 100000 in
theorem nc_ff_11_166 : nc_FF 11 (166, 7, 12) := ⟨Or.inl (nc_at_in (p := (2, 83)) rfl rfl), Nat.le_of_ble_eq_true rfl, Nat.le_of_ble_eq_true rfl, rfl⟩
set_option maxRecDepth 100000 in
theorem nc_ff_11_172 : nc_FF 11 (172, 2, 14) := ⟨Or.inl (nc_at_in (p := (1, 215)) rfl rfl), Nat.le_of_ble_eq_true rfl, Nat.le_of_ble_eq_true rfl, rfl⟩
set_option maxRecDepth 100000 in
theorem nc_ff_11_175 : nc_FF 11 (175, 2, 15) := ⟨Or.inl (nc_at_in (p := (1, 218)) rfl rfl), Nat.le_of_ble_eq_true rfl, Nat.le_of_ble_eq_true rfl, rfl⟩
set_option maxRecDepth 100000 in
theorem nc_ff_11_181 : nc_FF 11 (181, 7, 4) := ⟨Or.inl (nc_at_in (p := (2, 65)) rfl rfl), Nat.le_of_ble_eq_true rfl, Nat.le_of_ble_eq_true rfl, rfl⟩
set_option maxRecDepth 100000 in
theorem nc_ff_11_191 : nc_FF 11 (191, 2, 9) := ⟨Or.inl (nc_at_in (p := (1, 196)) rfl rfl), Nat.le_of_ble_eq_true rfl, Nat.le_of_ble_eq_true rfl, rfl⟩
set_option maxRecDepth 100000 in
theorem nc_ff_11_194 : nc_FF 11 (194, 7, 13) := ⟨Or.inl (nc_at_in (p := (2, 86)) rfl rfl), Nat.le_of_ble_eq_true rfl, Nat.le_of_ble_eq_true rfl, rfl⟩
set_option maxRecDepth 100000 in
theorem nc_ff_11_203 : nc_FF 11 (203, 7, 1) := ⟨Or.inl (nc_at_in (p := (2, 58)) rfl rfl), Nat.le_of_ble_eq_true rfl, Nat.le_of_ble_eq_true rfl, rfl⟩
set_option maxRecDepth 100000 in
theorem nc_ff_11_206 : nc_FF 11 (206, 7, 3) := ⟨Or.inl (nc_at_in (p := (2, 63)) rfl rfl), Nat.le_of_ble_eq_true rfl, Nat.le_of_ble_eq_true rfl, rfl⟩
set_option maxRecDepth 100000 in
theorem nc_ff_11_213 : nc_FF 11 (213, 7, 2) := ⟨Or.inl (nc_at_in (p := (2, 60)) rfl rfl), Nat.le_of_ble_eq_true rfl, Nat.le_of_ble_eq_true rfl, rfl⟩
set_option maxRecDepth 100000 in
theorem nc_ff_11_256 : nc_FF 11 (256, 1, 8) := ⟨Or.inl (nc_at_in (p := (2, 221)) rfl rfl), Nat.le_of_ble_eq_true rfl, Nat.le_of_ble_eq_true rfl, rfl⟩
set_option maxRecDepth 100000 in
theorem nc_ff_11_266 : nc_FF 11 (266, 8, 5) := ⟨Or.inl (nc_at_in (p := (3, 24)) rfl rfl), Nat.le_of_ble_eq_true rfl, Nat.le_of_ble_eq_true rfl, rfl⟩
set_option maxRecDepth 100000 in
theorem nc_ff_11_269 : nc_FF 11 (269, 8, 4) := ⟨Or.inl (nc_at_in (p := (3, 22)) rfl rfl), Nat.le_of_ble_eq_true rfl, Nat.le_of_ble_eq_true rfl, rfl⟩
set_option maxRecDepth 100000 in
theorem nc_ff_11_272 : nc_FF 11 (272, 2, 2) := ⟨Or.inl (nc_at_in (p := (1, 169)) rfl rfl), Nat.le_of_ble_eq_true rfl, Nat.le_of_ble_eq_true rfl, rfl⟩
set_option maxRecDepth 100000 in
theorem nc_ff_11_300 : nc_FF 11 (300, 1, 9) := ⟨Or.inl (nc_at_in (p := (2, 223)) rfl rfl), Nat.le_of_ble_eq_true rfl, Nat.le_of_ble_eq_true rfl, rfl⟩
set_option maxRecDepth 100000 in
theorem nc_ff_11_303 : nc_FF 11 (303, 1, 10) := ⟨Or.inl (nc_at_in (p := (2, 225)) rfl rfl), Nat.le_of_ble_eq_true rfl, Nat.le_of_ble_eq_true rfl, rfl⟩
set_option maxRecDepth 100000 in
theorem nc_ff_11_321 : nc_FF 11 (321, 2, 3) := ⟨Or.inl (nc_at_in (p := (1, 176)) rfl rfl), Nat.le_of_ble_eq_true rfl, Nat.le_of_ble_eq_true rfl, rfl⟩
set_option maxRecDepth 100000 in
theorem nc_ff_11_324 : nc_FF 11 (324, 4, 0) := ⟨Or.inl (nc_at_in (p := (3, 48)) rfl rfl), Nat.le_of_ble_eq_true rfl, Nat.le_of_ble_eq_true rfl, rfl⟩
set_option maxRecDepth 100000 in
theorem nc_ff_11_339 : nc_FF 11 (339, 0, 6) := ⟨Or.inl (nc_at_in (p := (2, 182)) rfl rfl), Nat.le_of_ble_eq_true rfl, Nat.le_of_ble_eq_true rfl, rfl⟩
set_option maxRecDepth 100000 in
theorem nc_ff_11_342 : nc_FF 11 (342, 0, 4) := ⟨Or.inl (nc_at_in (p := (2, 178)) rfl rfl), Nat.le_of_ble_eq_true rfl, Nat.le_of_ble_eq_true rfl, rfl⟩
set_option maxRecDepth 100000 in
theorem nc_ff_11_346 : nc_FF 11 (346, 0, 5) := ⟨Or.inl (nc_at_in (p := (2, 180)) rfl rfl), Nat.le_of_ble_eq_true rfl, Nat.le_of_ble_eq_true rfl, rfl⟩
set_option maxRecDepth 100000 in
theorem nc_ff_11_349 : nc_FF 11 (349, 0, 7) := ⟨Or.inl (nc_at_in (p := (2, 184)) rfl rfl), Nat.le_of_ble_eq_true rfl, Nat.le_of_ble_eq_true rfl, rfl⟩
set_option maxRecDepth 100000 in
theorem nc_ff_11_352 : nc_FF 11 (352, 0, 8) := ⟨Or.inl (nc_at_in (p := (2, 186)) rfl rfl), Nat.le_of_ble_eq_true rfl, Nat.le_of_ble_eq_true rfl, rfl⟩
set_option maxRecDepth 100000 in
theorem nc_ff_11_359 : nc_FF 11 (359, 9, 4) := ⟨Or.inl (nc_at_in (p := (2, 155)) rfl rfl), Nat.le_of_ble_eq_true rfl, Nat.le_of_ble_eq_true rfl, rfl⟩
set_option maxRecDepth 100000 in
theorem nc_ff_11_366 : nc_FF 11 (366, 6, 0) := ⟨Or.inl (nc_at_in (p := (3, 64)) rfl rfl), Nat.le_of_ble_eq_true rfl, Nat.le_of_ble_eq_true rfl, rfl⟩
set_option maxRecDepth 100000 in
theorem nc_ff_11_369 : nc_FF 11 (369, 6, 1) := ⟨Or.inl (nc_at_in (p := (3, 66)) rfl rfl), Nat.le_of_ble_eq_true rfl, Nat.le_of_ble_eq_true rfl, rfl⟩
set_option maxRecDepth 100000 in
theorem nc_ff_11_370 : nc_FF 11 (370, 6, 2) := ⟨Or.inl (nc_at_in (p := (3, 68)) rfl rfl), Nat.le_of_ble_eq_true rfl, Nat.le_of_ble_eq_true rfl, rfl⟩
set_option maxRecDepth 100000 in
theorem nc_ff_11_371 : nc_FF 11 (371, 6, 3) := ⟨Or.inl (nc_at_in (p := (3, 70)) rfl rfl), Nat.le_of_ble_eq_true rfl, Nat.le_of_ble_eq_true rfl, rfl⟩
set_option maxRecDepth 100000 in
theorem nc_ff_11_374 : nc_FF 11 (374, 2, 1) := ⟨Or.inl (nc_at_in (p := (1, 164)) rfl rfl), Nat.le_of_ble_eq_true rfl, Nat.le_of_ble_eq_true rfl, rfl⟩
set_option maxRecDepth 100000 in
theorem nc_ff_11_377 : nc_FF 11 (377, 2, 4) := ⟨Or.inl (nc_at_in (p := (1, 180)) rfl rfl), Nat.le_of_ble_eq_true rfl, Nat.le_of_ble_eq_true rfl, rfl⟩
set_option maxRecDepth 100000 in
theorem nc_ff_11_380 : nc_FF 11 (380, 2, 5) := ⟨Or.inl (nc_at_in (p := (1, 185)) rfl rfl), Nat.le_of_ble_eq_true rfl, Nat.le_of_ble_eq_true rfl, rfl⟩
theorem nc_fo_11 : ∀ e ∈ ([(12, 11, 0), (19, 11, 1), (23, 11, 2), (31, 11, 3), (40, 11, 4), (44, 11, 5), (50, 11, 6), (57, 11, 7), (61, 11, 8), (67, 11, 9), (76, 11, 10), (83, 11, 11), (90, 11, 12), (97, 11, 13), (101, 11, 14), (104, 11, 15), (108, 10, 1), (119, 10, 15), (130, 2, 0), (133, 10, 14), (143, 2, 10), (153, 7, 11), (156, 7, 7), (159, 7, 6), (166, 7, 12), (172, 2, 14), (175, 2, 15), (181, 7, 4), (191, 2, 9), (194, 7, 13), (203, 7, 1), (206, 7, 3), (213, 7, 2), (256, 1, 8), (266, 8, 5), (269, 8, 4), (272, 2, 2), (300, 1, 9), (303, 1, 10), (321, 2, 3), (324, 4, 0), (339, 0, 6), (342, 0, 4), (346, 0, 5), (349, 0, 7), (352, 0, 8), (359, 9, 4), (366, 6, 0), (369, 6, 1), (370, 6, 2), (371, 6, 3), (374, 2, 1), (377, 2, 4), (380, 2, 5)] : List (Nat × Nat × Nat)), nc_FF 11 e := List.forall_mem_cons.mpr ⟨nc_ff_11_12, List.forall_mem_cons.mpr ⟨nc_ff_11_19, List.forall_mem_cons.mpr ⟨nc_ff_11_23, List.forall_mem_cons.mpr ⟨nc_ff_11_31, List.forall_mem_cons.mpr ⟨nc_ff_11_40, List.forall_mem_cons.mpr ⟨nc_ff_11_44, List.forall_mem_cons.mpr ⟨nc_ff_11_50, List.forall_mem_cons.mpr ⟨nc_ff_11_57, List.forall_mem_cons.mpr ⟨nc_ff_11_61, List.forall_mem_cons.mpr ⟨nc_ff_11_67, List.forall_mem_cons.mpr ⟨nc_ff_11_76, List.forall_mem_cons.mpr ⟨nc_ff_11_83, List.forall_mem_cons.mpr ⟨nc_ff_11_90, List.forall_mem_cons.mpr ⟨nc_ff_11_97, List.forall_mem_cons.mpr ⟨nc_ff_11_101, List.forall_mem_cons.mpr ⟨nc_ff_11_104, List.forall_mem_cons.mpr ⟨nc_ff_11_108, List.forall_mem_cons.mpr ⟨nc_ff_11_119, List.forall_mem_cons.mpr ⟨nc_ff_11_130, List.forall_mem_cons.mpr ⟨nc_ff_11_133, List.forall_mem_cons.mpr ⟨nc_ff_11_143, List.forall_mem_cons.mpr ⟨nc_ff_11_153, List.forall_mem_cons.mpr ⟨nc_ff_11_156, List.forall_mem_cons.mpr ⟨nc_ff_11_159, List.forall_mem_cons.mpr ⟨nc_ff_11_166, List.forall_mem_cons.mpr ⟨nc_ff_11_172, List.forall_mem_cons.mpr ⟨nc_ff_11_175, List.forall_mem_cons.mpr ⟨nc_ff_11_181, List.forall_mem_cons.mpr ⟨nc_ff_11_191, List.forall_mem_cons.mpr ⟨nc_ff_11_194, List.forall_mem_cons.mpr ⟨nc_ff_11_203, List.forall_mem_cons.mpr ⟨nc_ff_11_206, List.forall_mem_cons.mpr ⟨nc_ff_11_213, List.forall_mem_cons.mpr ⟨nc_ff_11_256, List.forall_mem_cons.mpr ⟨nc_ff_11_266, List.forall_mem_cons.mpr ⟨nc_ff_11_269, List.forall_mem_cons.mpr ⟨nc_ff_11_272, List.forall_mem_cons.mpr ⟨nc_ff_11_300, List.forall_mem_cons.mpr ⟨nc_ff_11_303, List.forall_mem_cons.mpr ⟨nc_ff_11_321, List.forall_mem_cons.mpr ⟨nc_ff_11_324, List.forall_mem_cons.mpr ⟨nc_ff_11_339, List.forall_mem_cons.mpr ⟨nc_ff_11_342, List.forall_mem_cons.mpr ⟨nc_ff_11_346, List.forall_mem_cons.mpr ⟨nc_ff_11_349, List.forall_mem_cons.mpr ⟨nc_ff_11_352, List.forall_mem_cons.mpr ⟨nc_ff_11_359, List.forall_mem_cons.mpr ⟨nc_ff_11_366, List.forall_mem_cons.mpr ⟨nc_ff_11_369, List.forall_mem_cons.mpr ⟨nc_ff_11_370, List.forall_mem_cons.mpr ⟨nc_ff_11_371, List.forall_mem_cons.mpr ⟨nc_ff_11_374, List.forall_mem_cons.mpr ⟨nc_ff_11_377, List.forall_mem_cons.mpr ⟨nc_ff_11_380, fun _ h => absurd h List.not_mem_nil⟩⟩⟩⟩⟩⟩⟩⟩⟩⟩⟩⟩⟩⟩⟩⟩⟩⟩⟩⟩⟩⟩⟩⟩⟩⟩⟩⟩⟩⟩⟩⟩⟩⟩⟩⟩⟩⟩⟩⟩⟩⟩⟩⟩⟩⟩⟩⟩⟩⟩⟩⟩⟩⟩
set_option maxRecDepth 100000 in
theorem nc_ff_12_1 : nc_FF 12 (1, 12, 0) := ⟨Or.inl (nc_at_in (p := (7, 0)) rfl rfl), Nat.le_of_ble_eq_true rfl, Nat.le_of_ble_eq_true rfl, rfl⟩
set_option maxRecDepth 100000 in
theorem nc_ff_12_7 : nc_FF 12 (7, 12, 2) := ⟨Or.inl (nc_at_in (p := (7, 2)) rfl rfl), Nat.le_of_ble_eq_true rfl, Nat.le_of_ble_eq_true rfl, rfl⟩
set_option maxRecDepth 100000 in
theorem nc_ff_12_14 : nc_FF 12 (14, 12, 1) := ⟨Or.inl (nc_at_in (p := (7, 1)) rfl rfl), Nat.le_of_ble_eq_true rfl, Nat.le_of_ble_eq_true rfl, rfl⟩
set_option maxRecDepth 100000 in
theorem nc_ff_12_18 : nc_FF 12 (18, 12, 3) := ⟨Or.inl (nc_at_in (p := (7, 3)) rfl rfl), Nat.le_of_ble_eq_true rfl, Nat.le_of_ble_eq_true rfl, rfl⟩
set_option maxRecDepth 100000 in
theorem nc_ff_12_21 : nc_FF 12 (21, 12, 4) := ⟨Or.inl (nc_at_in (p := (7, 4)) rfl rfl), Nat.le_of_ble_eq_true rfl, Nat.le_of_ble_eq_true rfl, rfl⟩
set_option maxRecDepth 100000 in
theorem nc_ff_12_24 : nc_FF 12 (24, 12, 5) := ⟨Or.inl (nc_at_in (p := (7, 5)) rfl rfl), Nat.le_of_ble_eq_true rfl, Nat.le_of_ble_eq_true rfl, rfl⟩
set_option maxRecDepth 100000 in
theorem nc_ff_12_33 : nc_FF 12 (33, 12, 6) := ⟨Or.inl (nc_at_in (p := (7, 6)) rfl rfl), Nat.le_of_ble_eq_true rfl, Nat.le_of_ble_eq_true rfl, rfl⟩
set_option maxRecDepth 100000 in
theorem nc_ff_12_37 : nc_FF 12 (37, 12, 7) := ⟨Or.inl (nc_at_in (p := (7, 7)) rfl rfl), Nat.le_of_ble_eq_true rfl, Nat.le_of_ble_eq_true rfl, rfl⟩
set_option maxRecDepth 100000 in
theorem nc_ff_12_40 : nc_FF 12 (40, 12, 8) := ⟨Or.inl (nc_at_in (p := (7, 8)) rfl rfl), Nat.le_of_ble_eq_true rfl, Nat.le_of_ble_eq_true rfl, rfl⟩
set_option maxRecDepth 100000 in
theorem nc_ff_12_43 : nc_FF 12 (43, 12, 9) := ⟨Or.inl (nc_at_in (p := (7, 9)) rfl rfl), Nat.le_of_ble_eq_true rfl, Nat.le_of_ble_eq_true rfl, rfl⟩
set_option maxRecDepth 100000 in
theorem nc_ff_12_47 : nc_FF 12 (47, 12, 10) := ⟨Or.inl (nc_at_in (p := (7, 10)) rfl rfl), Nat.le_of_ble_eq_true rfl, Nat.le_of_ble_eq_true rfl, rfl⟩
set_option maxRecDepth 100000 in
theorem nc_ff_12_50 : nc_FF 12 (50, 12, 21) := ⟨Or.inl (nc_at_in (p := (7, 21)) rfl rfl), Nat.le_of_ble_eq_true rfl, Nat.le_of_ble_eq_true rfl, rfl⟩
set_option maxRecDepth 100000 in
theorem nc_ff_12_53 : nc_FF 12 (53, 12, 22) := ⟨Or.inl (nc_at_in (p := (7, 22)) rfl rfl), Nat.le_of_ble_eq_true rfl, Nat.le_of_ble_eq_true rfl, rfl⟩
set_option maxRecDepth 100000 in
theorem nc_ff_12_56 : nc_FF 12 (56, 12, 23) := ⟨Or.inl (nc_at_in (p := (7, 23)) rfl rfl), Nat.le_of_ble_eq_true rfl, Nat.le_of_ble_eq_true rfl, rfl⟩
set_option maxRecDepth 100000 in
theorem nc_ff_12_59 : nc_FF 12 (59, 12, 27) := ⟨Or.inl (nc_at_in (p := (7, 27)) rfl rfl), Nat.le_of_ble_eq_true rfl, Nat.le_of_ble_eq_true rfl, rfl⟩
set_option maxRecDepth 100000 in
theorem nc_ff_12_62 : nc_FF 12 (62, 12, 28) := ⟨Or.inl (nc_at_in (p := (7, 28)) rfl rfl), Nat.le_of_ble_eq_true rfl, Nat.le_of_ble_eq_true rfl, rfl⟩
set_option maxRecDepth 100000 in
theorem nc_ff_12_65 : nc_FF 12 (65, 12, 34) := ⟨Or.inl (nc_at_in (p := (7, 34)) rfl rfl), Nat.le_of_ble_eq_true rfl, Nat.le_of_ble_eq_true rfl, rfl⟩
set_option maxRecDepth 100000 in
theorem nc_ff_12_68 : nc_FF 12 (68, 12, 37) := ⟨Or.inl (nc_at_in (p := (7, 37)) rfl rfl), Nat.le_of_ble_eq_true rfl, Nat.le_of_ble_eq_true rfl, rfl⟩
set_option maxRecDepth 100000 in
theorem nc_ff_12_71 : nc_FF 12 (71, 12, 39) := ⟨Or.inl (nc_at_in (p := (7, 39)) rfl rfl), Nat.le_of_ble_eq_true rfl, Nat.le_of_ble_eq_true rfl, rfl⟩
set_option maxRecDepth 100000 in
theorem nc_ff_12_74 : nc_FF 12 (74, 12, 45) := ⟨Or.inl (nc_at_in (p := (7, 45)) rfl rfl), Nat.le_of_ble_eq_true rfl, Nat.le_of_ble_eq_true rfl, rfl⟩
set_option maxRecDepth 100000 in
theorem nc_ff_12_78 : nc_FF 12 (78, 12, 46) := ⟨Or.inl (nc_at_in (p := (7, 46)) rfl rfl), Nat.le_of_ble_eq_true rfl, Nat.le_of_ble_eq_true rfl, rfl⟩
set_option maxRecDepth 100000 in
theorem nc_ff_12_81 : nc_FF 12 (81, 12, 47) := ⟨Or.inl (nc_at_in (p := (7, 47)) rfl rfl), Nat.le_of_ble_eq_true rfl, Nat.le_of_ble_eq_true rfl, rfl⟩
set_option maxRecDepth 100000 in
theorem nc_ff_12_84 : nc_FF 12 (84, 12, 48) := ⟨Or.inl (nc_at_in (p := (7, 48)) rfl rfl), Nat.le_of_ble_eq_true rfl, Nat.le_of_ble_eq_true rfl, rfl⟩
set_option maxRecDepth 100000 in
theorem nc_ff_12_139 : nc_FF 12 (139, 12, 12) := ⟨Or.inl (nc_at_in (p := (7, 12)) rfl rfl), Nat.le_of_ble_eq_true rfl, Nat.le_of_ble_eq_true rfl, rfl⟩
set_option maxRecDepth 100000 in
theorem nc_ff_12_142 : nc_FF 12 (142, 12, 13) := ⟨Or.inl (nc_at_in (p := (7, 13)) rfl rfl), Nat.le_of_ble_eq_true rfl, Nat.le_of_ble_eq_true rfl, rfl⟩
set_option maxRecDepth 100000 in
theorem nc_ff_12_145 : nc_FF 12 (145, 12, 11) := ⟨Or.inl (nc_at_in (p := (7, 11)) rfl rfl), Nat.le_of_ble_eq_true rfl, Nat.le_of_ble_eq_true rfl, rfl⟩
set_option maxRecDepth 100000 in
theorem nc_ff_12_155 : nc_FF 12 (155, 12, 14) := ⟨Or.inl (nc_at_in (p := (7, 14)) rfl rfl), Nat.le_of_ble_eq_true rfl, Nat.le_of_ble_eq_true rfl, rfl⟩
set_option maxRecDepth 100000 in
theorem nc_ff_12_158 : nc_FF 12 (158, 12, 17) := ⟨Or.inl (nc_at_in (p := (7, 17)) rfl rfl), Nat.le_of_ble_eq_true rfl, Nat.le_of_ble_eq_true rfl, rfl⟩
set_option maxRecDepth 100000 in
theorem nc_ff_12_162 : nc_FF 12 (162, 12, 15) := ⟨Or.inl (nc_at_in (p := (7, 15)) rfl rfl), Nat.le_of_ble_eq_true rfl, Nat.le_of_ble_eq_true rfl, rfl⟩
set_option maxRecDepth 100000 in
theorem nc_ff_12_165 : nc_FF 12 (165, 12, 16) := ⟨Or.inl (nc_at_in (p := (7, 16)) rfl rfl), Nat.le_of_ble_eq_true rfl, Nat.le_of_ble_eq_true rfl, rfl⟩
set_option maxRecDepth 100000 in
theorem nc_ff_12_181 : nc_FF 12 (181, 12, 18) := ⟨Or.inl (nc_at_in (p := (7, 18)) rfl rfl), Nat.le_of_ble_eq_true rfl, Nat.le_of_ble_eq_true rfl, rfl⟩
set_option maxRecDepth 100000 in
theorem nc_ff_12_218 : nc_FF 12 (218, 12, 20) := ⟨Or.inl (nc_at_in (p := (7, 20)) rfl rfl), Nat.le_of_ble_eq_true rfl, Nat.le_of_ble_eq_true rfl, rfl⟩
set_option maxRecDepth 100000 in
theorem nc_ff_12_228 : nc_FF 12 (228, 12, 19) := ⟨Or.inl (nc_at_in (p := (7, 19)) rfl rfl), Nat.le_of_ble_eq_true rfl, Nat.le_of_ble_eq_true rfl, rfl⟩
set_option maxRecDepth 100000 in
theorem nc_ff_12_237 : nc_FF 12 (237, 12, 24) := ⟨Or.inl (nc_at_in (p := (7, 24)) rfl rfl), Nat.le_of_ble_eq_true rfl, Nat.le_of_ble_eq_true rfl, rfl⟩
set_option maxRecDepth 100000 in
theorem nc_ff_12_334 : nc_FF 12 (334, 12, 26) := ⟨Or.inl (nc_at_in (p := (7, 26)) rfl rfl), Nat.le_of_ble_eq_true rfl, Nat.le_of_ble_eq_true rfl, rfl⟩
set_option maxRecDepth 100000 in
theorem nc_ff_12_337 : nc_FF 12 (337, 12, 25) := ⟨Or.inl (nc_at_in (p := (7, 25)) rfl rfl), Nat.le_of_ble_eq_true rfl, Nat.le_of_ble_eq_true rfl, rfl⟩
set_option maxRecDepth 100000 in
theorem nc_ff_12_364 : nc_FF 12 (364, 12, 30) := ⟨Or.inl (nc_at_in (p := (7, 30)) rfl rfl), Nat.le_of_ble_eq_true rfl, Nat.le_of_ble_eq_true rfl, rfl⟩
set_option maxRecDepth 100000 in
theorem nc_ff_12_367 : nc_FF 12 (367, 12, 29) := ⟨Or.inl (nc_at_in (p := (7, 29)) rfl rfl), Nat.le_of_ble_eq_true rfl, Nat.le_of_ble_eq_true rfl, rfl⟩
set_option maxRecDepth 100000 in
theorem nc_ff_12_373 : nc_FF 12 (373, 12, 33) := ⟨Or.inl (nc_at_in (p := (7, 33)) rfl rfl), Nat.le_of_ble_eq_true rfl, Nat.le_of_ble_eq_true rfl, rfl⟩
set_option maxRecDepth 100000 in
theorem nc_ff_12_376 : nc_FF 12 (376, 12, 31) := ⟨Or.inl (nc_at_in (p := (7, 31)) rfl rfl), Nat.le_of_ble_eq_true rfl, Nat.le_of_ble_eq_true rfl, rfl⟩
set_option maxRecDepth 100000 in
theorem nc_ff_12_379 : nc_FF 12 (379, 12, 32) := ⟨Or.inl (nc_at_in (p := (7, 32)) rfl rfl), Nat.le_of_ble_eq_true rfl, Nat.le_of_ble_eq_true rfl, rfl⟩
set_option maxRecDepth 100000 in
theorem nc_ff_12_388 : nc_FF 12 (388, 12, 35) := ⟨Or.inl (nc_at_in (p := (7, 35)) rfl rfl), Nat.le_of_ble_eq_true rfl, Nat.le_of_ble_eq_true rfl, rfl⟩
set_option maxRecDepth 100000 in
theorem nc_ff_12_398 : nc_FF 12 (398, 12, 36) := ⟨Or.inl (nc_at_in (p := (7, 36)) rfl rfl), Nat.le_of_ble_eq_true rfl, Nat.le_of_ble_eq_true rfl, rfl⟩
set_option maxRecDepth 100000 in
theorem nc_ff_12_407 : nc_FF 12 (407, 12, 38) := ⟨Or.inl (nc_at_in (p := (7, 38)) rfl rfl), Nat.le_of_ble_eq_true rfl, Nat.le_of_ble_eq_true rfl, rfl⟩
set_option maxRecDepth 100000 in
theorem nc_ff_12_410 : nc_FF 12 (410, 12, 40) := ⟨Or.inl (nc_at_in (p := (7, 40)) rfl rfl), Nat.le_of_ble_eq_true rfl, Nat.le_of_ble_eq_true rfl, rfl⟩
set_option maxRecDepth 100000 in
theorem nc_ff_12_413 : nc_FF 12 (413, 12, 42) := ⟨Or.inl (nc_at_in (p := (7, 42)) rfl rfl), Nat.le_of_ble_eq_true rfl, Nat.le_of_ble_eq_true rfl, rfl⟩
set_option maxRecDepth 100000 in
theorem nc_ff_12_420 : nc_FF 12 (420, 12, 43) := ⟨Or.inl (nc_at_in (p := (7, 43)) rfl rfl), Nat.le_of_ble_eq_true rfl, Nat.le_of_ble_eq_true rfl, rfl⟩
set_option maxRecDepth 100000 in
theorem nc_ff_12_426 : nc_FF 12 (426, 12, 41) := ⟨Or.inl (nc_at_in (p := (7, 41)) rfl rfl), Nat.le_of_ble_eq_true rfl, Nat.le_of_ble_eq_true rfl, rfl⟩
set_option maxRecDepth 100000 in
theorem nc_ff_12_429 : nc_FF 12 (429, 12, 44) := ⟨Or.inl (nc_at_in (p := (7, 44)) rfl rfl), Nat.le_of_ble_eq_true rfl, Nat.le_of_ble_eq_true rfl, rfl⟩
theorem nc_fo_12 : ∀ e ∈ ([(1, 12, 0), (7, 12, 2), (14, 12, 1), (18, 12, 3), (21, 12, 4), (24, 12, 5), (33, 12, 6), (37, 12, 7), (40, 12, 8), (43, 12, 9), (47, 12, 10), (50, 12, 21), (53, 12, 22), (56, 12, 23), (59, 12, 27), (62, 12, 28), (65, 12, 34), (68, 12, 37), (71, 12, 39), (74, 12, 45), (78, 12, 46), (81, 12, 47), (84, 12, 48), (139, 12, 12), (142, 12, 13), (145, 12, 11), (155, 12, 14), (158, 12, 17), (162, 12, 15), (165, 12, 16), (181, 12, 18), (218, 12, 20), (228, 12, 19), (237, 12, 24), (334, 12, 26), (337, 12, 25), (364, 12, 30), (367, 12, 29), (373, 12, 33), (376, 12, 31), (379, 12, 32), (388, 12, 35), (398, 12, 36), (407, 12, 38), (410, 12, 40), (413, 12, 42), (420, 12, 43), (426, 12, 41), (429, 12, 44)] : List (Nat × Nat × Nat)), nc_FF 12 e := List.forall_mem_cons.mpr ⟨nc_ff_12_1, List.forall_mem_cons.mpr ⟨nc_ff_12_7, List.forall_mem_cons.mpr ⟨nc_ff_12_14, List.forall_mem_cons.mpr ⟨nc_ff_12_18, List.forall_mem_cons.mpr ⟨nc_ff_12_21, List.forall_mem_cons.mpr ⟨nc_ff_12_24, List.forall_mem_cons.mpr ⟨nc_ff_12_33, List.forall_mem_cons.mpr ⟨nc_ff_12_37, List.forall_mem_cons.mpr ⟨nc_ff_12_40, List.forall_mem_cons.mpr ⟨nc_ff_12_43, List.forall_mem_cons.mpr ⟨nc_ff_12_47, List.forall_mem_cons.mpr ⟨nc_ff_12_50, List.forall_mem_cons.mpr ⟨nc_ff_12_53, List.forall_mem_cons.mpr ⟨nc_ff_12_56, List.forall_mem_cons.mpr ⟨nc_ff_12_59, List.forall_mem_cons.mpr ⟨nc_ff_12_62, List.forall_mem_cons.mpr ⟨nc_ff_12_65, List.forall_mem_cons.mpr ⟨nc_ff_12_68, List.forall_mem_cons.mpr ⟨nc_ff_12_71, List.forall_mem_cons.mpr ⟨nc_ff_12_74, List.forall_mem_cons.mpr ⟨nc_ff_12_78, List.forall_mem_cons.mpr ⟨nc_ff_12_81, List.forall_mem_cons.mpr ⟨nc_ff_12_84, List.forall_mem_cons.mpr ⟨nc_ff_12_139, List.forall_mem_cons.mpr ⟨nc_ff_12_142, List.forall_mem_cons.mpr ⟨nc_ff_12_145, List.forall_mem_cons.mpr ⟨nc_ff_12_155, List.forall_mem_cons.mpr ⟨nc_ff_12_158, List.forall_mem_cons.mpr ⟨nc_ff_12_162, List.forall_mem_cons.mpr ⟨nc_ff_12_165, List.forall_mem_cons.mpr ⟨nc_ff_12_181, List.forall_mem_cons.mpr ⟨nc_ff_12_218, List.forall_mem_cons.mpr ⟨nc_ff_12_228, List.forall_mem_cons.mpr ⟨nc_ff_12_237, List.forall_mem_cons.mpr ⟨nc_ff_12_334, List.forall_mem_cons.mpr ⟨nc_ff_12_337, List.forall_mem_cons.mpr ⟨nc_ff_12_364, List.forall_mem_cons.mpr ⟨nc_ff_12_367, List.forall_mem_cons.mpr ⟨nc_ff_12_373, List.forall_mem_cons.mpr ⟨nc_ff_12_376, List.forall_mem_cons.mpr ⟨nc_ff_12_379, List.forall_mem_cons.mpr ⟨nc_ff_12_388, List.forall_mem_cons.mpr ⟨nc_ff_12_398, List.forall_mem_cons.mpr ⟨nc_ff_12_407, List.forall_mem_cons.mpr ⟨nc_ff_12_410, List.forall_mem_cons.mpr ⟨nc_ff_12_413, List.forall_mem_cons.mpr ⟨nc_ff_12_420, List.forall_mem_cons.mpr ⟨nc_ff_12_426, List.forall_mem_cons.mpr ⟨nc_ff_12_429, fun _ h => absurd h List.not_mem_nil⟩⟩⟩⟩⟩⟩⟩⟩⟩⟩⟩⟩⟩⟩⟩⟩⟩⟩⟩⟩⟩⟩⟩⟩⟩⟩⟩⟩⟩⟩⟩⟩⟩⟩⟩⟩⟩⟩⟩⟩⟩⟩⟩⟩⟩⟩⟩⟩⟩
theorem nc_fall : ∀ p ∈ nc_fdT, ∀ e ∈ p.2, nc_FF p.1 e := List.forall_mem_cons.mpr ⟨nc_fo_0, List.forall_mem_cons.mpr ⟨nc_fo_1, List.forall_mem_cons.mpr ⟨nc_fo_2, List.forall_mem_cons.mpr ⟨nc_fo_3, List.forall_mem_cons.mpr ⟨nc_fo_4, List.forall_mem_cons.mpr ⟨nc_fo_5, List.forall_mem_cons.mpr ⟨nc_fo_7, List.forall_mem_cons.mpr ⟨nc_fo_8, List.forall_mem_cons.mpr ⟨nc_fo_9, List.forall_mem_cons.mpr ⟨nc_fo_10, List.forall_mem_cons.mpr ⟨nc_fo_11, List.forall_mem_cons.mpr ⟨nc_fo_12, fun _ h => absurd h List.not_mem_nil⟩⟩⟩⟩⟩⟩⟩⟩⟩⟩⟩⟩
set_option maxRecDepth 100000 in
theorem nc_nall : ∀ e ∈ nc_nT, nc_nW e ∈ lw_tbl := List.forall_mem_cons.mpr ⟨nc_tk_in (List.mem_of_getElem? (i := 54) (show (nc_tk 2)[54]? = _ from rfl)), List.forall_mem_cons.mpr ⟨nc_tk_in (List.mem_of_getElem? (i := 55) (show (nc_tk 2)[55]? = _ from rfl)), fun _ h => absurd h List.not_mem_nil⟩⟩
set_option maxRecDepth 100000 in
theorem nc_ly_0_0 : u_lay RX0 TX0 0 ∈ nc_tb := nc_at_in (p := (2, 187)) rfl rfl
set_option maxRecDepth 100000 in
theorem nc_ly_0_1 : u_lay RX0 TX0 1 ∈ nc_tb := nc_at_in (p := (2, 189)) rfl rfl
set_option maxRecDepth 100000 in
theorem nc_ly_0_2 : u_lay RX0 TX0 2 ∈ nc_tb := nc_at_in (p := (2, 191)) rfl rfl
set_option maxRecDepth 100000 in
theorem nc_ly_0_3 : u_lay RX0 TX0 3 ∈ nc_tb := nc_at_in (p := (2, 193)) rfl rfl
set_option maxRecDepth 100000 in
theorem nc_ly_0_4 : u_lay RX0 TX0 4 ∈ nc_tb := nc_at_in (p := (2, 195)) rfl rfl
set_option maxRecDepth 100000 in
theorem nc_ly_0_5 : u_lay RX0 TX0 5 ∈ nc_tb := nc_at_in (p := (2, 197)) rfl rfl
set_option maxRecDepth 100000 in
theorem nc_ly_0_6 : u_lay RX0 TX0 6 ∈ nc_tb := nc_at_in (p := (2, 199)) rfl rfl
set_option maxRecDepth 100000 in
theorem nc_ly_0_7 : u_lay RX0 TX0 7 ∈ nc_tb := nc_at_in (p := (2, 201)) rfl rfl
set_option maxRecDepth 100000 in
theorem nc_ly_0_8 : u_lay RX0 TX0 8 ∈ nc_tb := nc_at_in (p := (2, 203)) rfl rfl
theorem nc_lw_0 : ∀ w ∈ u_ws RX0 TX0 9, w ∈ nc_tb := by
  intro w h
  obtain ⟨k, hk, rfl⟩ := List.mem_map.mp h
  have hk := List.mem_range.mp hk
  match k, hk with
  | 0, _ => exact nc_ly_0_0
  | 1, _ => exact nc_ly_0_1
  | 2, _ => exact nc_ly_0_2
  | 3, _ => exact nc_ly_0_3
  | 4, _ => exact nc_ly_0_4
  | 5, _ => exact nc_ly_0_5
  | 6, _ => exact nc_ly_0_6
  | 7, _ => exact nc_ly_0_7
  | 8, _ => exact nc_ly_0_8
  | k + 9, h => omega
set_option maxRecDepth 100000 in
theorem nc_ly_1_0 : u_lay RX1 TX1 0 ∈ nc_tb := nc_at_in (p := (2, 226)) rfl rfl
set_option maxRecDepth 100000 in
theorem nc_ly_1_1 : u_lay RX1 TX1 1 ∈ nc_tb := nc_at_in (p := (2, 228)) rfl rfl
set_option maxRecDepth 100000 in
theorem nc_ly_1_2 : u_lay RX1 TX1 2 ∈ nc_tb := nc_at_in (p := (2, 230)) rfl rfl
set_option maxRecDepth 100000 in
theorem nc_ly_1_3 : u_lay RX1 TX1 3 ∈ nc_tb := nc_at_in (p := (2, 232)) rfl rfl
set_option maxRecDepth 100000 in
theorem nc_ly_1_4 : u_lay RX1 TX1 4 ∈ nc_tb := nc_at_in (p := (2, 234)) rfl rfl
set_option maxRecDepth 100000 in
theorem nc_ly_1_5 : u_lay RX1 TX1 5 ∈ nc_tb := nc_at_in (p := (2, 236)) rfl rfl
set_option maxRecDepth 100000 in
theorem nc_ly_1_6 : u_lay RX1 TX1 6 ∈ nc_tb := nc_at_in (p := (2, 238)) rfl rfl
set_option maxRecDepth 100000 in
theorem nc_ly_1_7 : u_lay RX1 TX1 7 ∈ nc_tb := nc_at_in (p := (3, 0)) rfl rfl
set_option maxRecDepth 100000 in
theorem nc_ly_1_8 : u_lay RX1 TX1 8 ∈ nc_tb := nc_at_in (p := (3, 2)) rfl rfl
set_option maxRecDepth 100000 in
theorem nc_ly_1_9 : u_lay RX1 TX1 9 ∈ nc_tb := nc_at_in (p := (3, 4)) rfl rfl
set_option maxRecDepth 100000 in
theorem nc_ly_1_10 : u_lay RX1 TX1 10 ∈ nc_tb := nc_at_in (p := (3, 6)) rfl rfl
theorem nc_lw_1 : ∀ w ∈ u_ws RX1 TX1 11, w ∈ nc_tb := by
  intro w h
  obtain ⟨k, hk, rfl⟩ := List.mem_map.mp h
  have hk := List.mem_range.mp hk
  match k, hk with
  | 0, _ => exact nc_ly_1_0
  | 1, _ => exact nc_ly_1_1
  | 2, _ => exact nc_ly_1_2
  | 3, _ => exact nc_ly_1_3
  | 4, _ => exact nc_ly_1_4
  | 5, _ => exact nc_ly_1_5
  | 6, _ => exact nc_ly_1_6
  | 7, _ => exact nc_ly_1_7
  | 8, _ => exact nc_ly_1_8
  | 9, _ => exact nc_ly_1_9
  | 10, _ => exact nc_ly_1_10
  | k + 11, h => omega
set_option maxRecDepth 100000 in
theorem nc_ly_2_0 : u_lay RX2 TX2 0 ∈ nc_tb := nc_at_in (p := (1, 229)) rfl rfl
set_option maxRecDepth 100000 in
theorem nc_ly_2_1 : u_lay RX2 TX2 1 ∈ nc_tb := nc_at_in (p := (1, 231)) rfl rfl
set_option maxRecDepth 100000 in
theorem nc_ly_2_2 : u_lay RX2 TX2 2 ∈ nc_tb := nc_at_in (p := (1, 233)) rfl rfl
set_option maxRecDepth 100000 in
theorem nc_ly_2_3 : u_lay RX2 TX2 3 ∈ nc_tb := nc_at_in (p := (1, 235)) rfl rfl
set_option maxRecDepth 100000 in
theorem nc_ly_2_4 : u_lay RX2 TX2 4 ∈ nc_tb := nc_at_in (p := (1, 237)) rfl rfl
set_option maxRecDepth 100000 in
theorem nc_ly_2_5 : u_lay RX2 TX2 5 ∈ nc_tb := nc_at_in (p := (1, 239)) rfl rfl
set_option maxRecDepth 100000 in
theorem nc_ly_2_6 : u_lay RX2 TX2 6 ∈ nc_tb := nc_at_in (p := (2, 1)) rfl rfl
set_option maxRecDepth 100000 in
theorem nc_ly_2_7 : u_lay RX2 TX2 7 ∈ nc_tb := nc_at_in (p := (2, 3)) rfl rfl
set_option maxRecDepth 100000 in
theorem nc_ly_2_8 : u_lay RX2 TX2 8 ∈ nc_tb := nc_at_in (p := (2, 5)) rfl rfl
set_option maxRecDepth 100000 in
theorem nc_ly_2_9 : u_lay RX2 TX2 9 ∈ nc_tb := nc_at_in (p := (2, 7)) rfl rfl
set_option maxRecDepth 100000 in
theorem nc_ly_2_10 : u_lay RX2 TX2 10 ∈ nc_tb := nc_at_in (p := (2, 9)) rfl rfl
set_option maxRecDepth 100000 in
theorem nc_ly_2_11 : u_lay RX2 TX2 11 ∈ nc_tb := nc_at_in (p := (2, 11)) rfl rfl
set_option maxRecDepth 100000 in
theorem nc_ly_2_12 : u_lay RX2 TX2 12 ∈ nc_tb := nc_at_in (p := (2, 13)) rfl rfl
set_option maxRecDepth 100000 in
theorem nc_ly_2_13 : u_lay RX2 TX2 13 ∈ nc_tb := nc_at_in (p := (2, 15)) rfl rfl
set_option maxRecDepth 100000 in
theorem nc_ly_2_14 : u_lay RX2 TX2 14 ∈ nc_tb := nc_at_in (p := (2, 17)) rfl rfl
set_option maxRecDepth 100000 in
theorem nc_ly_2_15 : u_lay RX2 TX2 15 ∈ nc_tb := nc_at_in (p := (2, 19)) rfl rfl
set_option maxRecDepth 100000 in
theorem nc_ly_2_16 : u_lay RX2 TX2 16 ∈ nc_tb := nc_at_in (p := (2, 21)) rfl rfl
set_option maxRecDepth 100000 in
theorem nc_ly_2_17 : u_lay RX2 TX2 17 ∈ nc_tb := nc_at_in (p := (2, 23)) rfl rfl
set_option maxRecDepth 100000 in
theorem nc_ly_2_18 : u_lay RX2 TX2 18 ∈ nc_tb := nc_at_in (p := (2, 25)) rfl rfl
theorem nc_lw_2 : ∀ w ∈ u_ws RX2 TX2 19, w ∈ nc_tb := by
  intro w h
  obtain ⟨k, hk, rfl⟩ := List.mem_map.mp h
  have hk := List.mem_range.mp hk
  match k, hk with
  | 0, _ => exact nc_ly_2_0
  | 1, _ => exact nc_ly_2_1
  | 2, _ => exact nc_ly_2_2
  | 3, _ => exact nc_ly_2_3
  | 4, _ => exact nc_ly_2_4
  | 5, _ => exact nc_ly_2_5
  | 6, _ => exact nc_ly_2_6
  | 7, _ => exact nc_ly_2_7
  | 8, _ => exact nc_ly_2_8
  | 9, _ => exact nc_ly_2_9
  | 10, _ => exact nc_ly_2_10
  | 11, _ => exact nc_ly_2_11
  | 12, _ => exact nc_ly_2_12
  | 13, _ => exact nc_ly_2_13
  | 14, _ => exact nc_ly_2_14
  | 15, _ => exact nc_ly_2_15
  | 16, _ => exact nc_ly_2_16
  | 17, _ => exact nc_ly_2_17
  | 18, _ => exact nc_ly_2_18
  | k + 19, h => omega
set_option maxRecDepth 100000 in
theorem nc_ly_3_0 : u_lay RX3 TX3 0 ∈ nc_tb := nc_at_in (p := (2, 37)) rfl rfl
set_option maxRecDepth 100000 in
theorem nc_ly_3_1 : u_lay RX3 TX3 1 ∈ nc_tb := nc_at_in (p := (2, 39)) rfl rfl
set_option maxRecDepth 100000 in
theorem nc_ly_3_2 : u_lay RX3 TX3 2 ∈ nc_tb := nc_at_in (p := (2, 41)) rfl rfl
theorem nc_lw_3 : ∀ w ∈ u_ws RX3 TX3 3, w ∈ nc_tb := by
  intro w h
  obtain ⟨k, hk, rfl⟩ := List.mem_map.mp h
  have hk := List.mem_range.mp hk
  match k, hk with
  | 0, _ => exact nc_ly_3_0
  | 1, _ => exact nc_ly_3_1
  | 2, _ => exact nc_ly_3_2
  | k + 3, h => omega
set_option maxRecDepth 100000 in
theorem nc_ly_4_0 : u_lay RX4 TX4 0 ∈ nc_tb := nc_at_in (p := (3, 49)) rfl rfl
theorem nc_lw_4 : ∀ w ∈ u_ws RX4 TX4 1, w ∈ nc_tb := by
  intro w h
  obtain ⟨k, hk, rfl⟩ := List.mem_map.mp h
  have hk := List.mem_range.mp hk
  match k, hk with
  | 0, _ => exact nc_ly_4_0
  | k + 1, h => omega
set_option maxRecDepth 100000 in
theorem nc_ly_5_0 : u_lay RX5 TX5 0 ∈ nc_tb := nc_at_in (p := (2, 137)) rfl rfl
set_option maxRecDepth 100000 in
theorem nc_ly_5_1 : u_lay RX5 TX5 1 ∈ nc_tb := nc_at_in (p := (2, 139)) rfl rfl
set_option maxRecDepth 100000 in
theorem nc_ly_5_2 : u_lay RX5 TX5 2 ∈ nc_tb := nc_at_in (p := (2, 141)) rfl rfl
theorem nc_lw_5 : ∀ w ∈ u_ws RX5 TX5 3, w ∈ nc_tb := by
  intro w h
  obtain ⟨k, hk, rfl⟩ := List.mem_map.mp h
  have hk := List.mem_range.mp hk
  match k, hk with
  | 0, _ => exact nc_ly_5_0
  | 1, _ => exact nc_ly_5_1
  | 2, _ => exact nc_ly_5_2
  | k + 3, h => omega
set_option maxRecDepth 100000 in
theorem nc_ly_6_0 : u_lay RX6 TX6 0 ∈ nc_tb := nc_at_in (p := (3, 71)) rfl rfl
set_option maxRecDepth 100000 in
theorem nc_ly_6_1 : u_lay RX6 TX6 1 ∈ nc_tb := nc_at_in (p := (3, 73)) rfl rfl
set_option maxRecDepth 100000 in
theorem nc_ly_6_2 : u_lay RX6 TX6 2 ∈ nc_tb := nc_at_in (p := (3, 75)) rfl rfl
set_option maxRecDepth 100000 in
theorem nc_ly_6_3 : u_lay RX6 TX6 3 ∈ nc_tb := nc_at_in (p := (3, 77)) rfl rfl
theorem nc_lw_6 : ∀ w ∈ u_ws RX6 TX6 4, w ∈ nc_tb := by
  intro w h
  obtain ⟨k, hk, rfl⟩ := List.mem_map.mp h
  have hk := List.mem_range.mp hk
  match k, hk with
  | 0, _ => exact nc_ly_6_0
  | 1, _ => exact nc_ly_6_1
  | 2, _ => exact nc_ly_6_2
  | 3, _ => exact nc_ly_6_3
  | k + 4, h => omega
set_option maxRecDepth 100000 in
theorem nc_ly_7_0 : u_lay RX7 TX7 0 ∈ nc_tb := nc_at_in (p := (2, 90)) rfl rfl
set_option maxRecDepth 100000 in
theorem nc_ly_7_1 : u_lay RX7 TX7 1 ∈ nc_tb := nc_at_in (p := (2, 92)) rfl rfl
set_option maxRecDepth 100000 in
theorem nc_ly_7_2 : u_lay RX7 TX7 2 ∈ nc_tb := nc_at_in (p := (2, 94)) rfl rfl
set_option maxRecDepth 100000 in
theorem nc_ly_7_3 : u_lay RX7 TX7 3 ∈ nc_tb := nc_at_in (p := (2, 96)) rfl rfl
set_option maxRecDepth 100000 in
theorem nc_ly_7_4 : u_lay RX7 TX7 4 ∈ nc_tb := nc_at_in (p := (2, 98)) rfl rfl
set_option maxRecDepth 100000 in
theorem nc_ly_7_5 : u_lay RX7 TX7 5 ∈ nc_tb := nc_at_in (p := (2, 100)) rfl rfl
set_option maxRecDepth 100000 in
theorem nc_ly_7_6 : u_lay RX7 TX7 6 ∈ nc_tb := nc_at_in (p := (2, 102)) rfl rfl
set_option maxRecDepth 100000 in
theorem nc_ly_7_7 : u_lay RX7 TX7 7 ∈ nc_tb := nc_at_in (p := (2, 104)) rfl rfl
set_option maxRecDepth 100000 in
theorem nc_ly_7_8 : u_lay RX7 TX7 8 ∈ nc_tb := nc_at_in (p := (2, 106)) rfl rfl
set_option maxRecDepth 100000 in
theorem nc_ly_7_9 : u_lay RX7 TX7 9 ∈ nc_tb := nc_at_in (p := (2, 108)) rfl rfl
set_option maxRecDepth 100000 in
theorem nc_ly_7_10 : u_lay RX7 TX7 10 ∈ nc_tb := nc_at_in (p := (2, 110)) rfl rfl
set_option maxRecDepth 100000 in
theorem nc_ly_7_11 : u_lay RX7 TX7 11 ∈ nc_tb := nc_at_in (p := (2, 112)) rfl rfl
set_option maxRecDepth 100000 in
theorem nc_ly_7_12 : u_lay RX7 TX7 12 ∈ nc_tb := nc_at_in (p := (2, 114)) rfl rfl
set_option maxRecDepth 100000 in
theorem nc_ly_7_13 : u_lay RX7 TX7 13 ∈ nc_tb := nc_at_in (p := (2, 116)) rfl rfl
set_option maxRecDepth 100000 in
theorem nc_ly_7_14 : u_lay RX7 TX7 14 ∈ nc_tb := nc_at_in (p := (2, 118)) rfl rfl
set_option maxRecDepth 100000 in
theorem nc_ly_7_15 : u_lay RX7 TX7 15 ∈ nc_tb := nc_at_in (p := (2, 120)) rfl rfl
set_option maxRecDepth 100000 in
theorem nc_ly_7_16 : u_lay RX7 TX7 16 ∈ nc_tb := nc_at_in (p := (2, 122)) rfl rfl
theorem nc_lw_7 : ∀ w ∈ u_ws RX7 TX7 17, w ∈ nc_tb := by
  intro w h
  obtain ⟨k, hk, rfl⟩ := List.mem_map.mp h
  have hk := List.mem_range.mp hk
  match k, hk with
  | 0, _ => exact nc_ly_7_0
  | 1, _ => exact nc_ly_7_1
  | 2, _ => exact nc_ly_7_2
  | 3, _ => exact nc_ly_7_3
  | 4, _ => exact nc_ly_7_4
  | 5, _ => exact nc_ly_7_5
  | 6, _ => exact nc_ly_7_6
  | 7, _ => exact nc_ly_7_7
  | 8, _ => exact nc_ly_7_8
  | 9, _ => exact nc_ly_7_9
  | 10, _ => exact nc_ly_7_10
  | 11, _ => exact nc_ly_7_11
  | 12, _ => exact nc_ly_7_12
  | 13, _ => exact nc_ly_7_13
  | 14, _ => exact nc_ly_7_14
  | 15, _ => exact nc_ly_7_15
  | 16, _ => exact nc_ly_7_16
  | k + 17, h => omega
set_option maxRecDepth 100000 in
theorem nc_ly_8_0 : u_lay RX8 TX8 0 ∈ nc_tb := nc_at_in (p := (3, 26)) rfl rfl
set_option maxRecDepth 100000 in
theorem nc_ly_8_1 : u_lay RX8 TX8 1 ∈ nc_tb := nc_at_in (p := (3, 28)) rfl rfl
set_option maxRecDepth 100000 in
theorem nc_ly_8_2 : u_lay RX8 TX8 2 ∈ nc_tb := nc_at_in (p := (3, 30)) rfl rfl
set_option maxRecDepth 100000 in
theorem nc_ly_8_3 : u_lay RX8 TX8 3 ∈ nc_tb := nc_at_in (p := (3, 32)) rfl rfl
set_option maxRecDepth 100000 in
theorem nc_ly_8_4 : u_lay RX8 TX8 4 ∈ nc_tb := nc_at_in (p := (3, 34)) rfl rfl
set_option maxRecDepth 100000 in
theorem nc_ly_8_5 : u_lay RX8 TX8 5 ∈ nc_tb := nc_at_in (p := (3, 36)) rfl rfl
set_option maxRecDepth 100000 in
theorem nc_ly_8_6 : u_lay RX8 TX8 6 ∈ nc_tb := nc_at_in (p := (3, 38)) rfl rfl
theorem nc_lw_8 : ∀ w ∈ u_ws RX8 TX8 7, w ∈ nc_tb := by
  intro w h
  obtain ⟨k, hk, rfl⟩ := List.mem_map.mp h
  have hk := List.mem_range.mp hk
  match k, hk with
  | 0, _ => exact nc_ly_8_0
  | 1, _ => exact nc_ly_8_1
  | 2, _ => exact nc_ly_8_2
  | 3, _ => exact nc_ly_8_3
  | 4, _ => exact nc_ly_8_4
  | 5, _ => exact nc_ly_8_5
  | 6, _ => exact nc_ly_8_6
  | k + 7, h => omega
set_option maxRecDepth 100000 in
theorem nc_ly_9_0 : u_lay RX9 TX9 0 ∈ nc_tb := nc_at_in (p := (2, 156)) rfl rfl
set_option maxRecDepth 100000 in
theorem nc_ly_9_1 : u_lay RX9 TX9 1 ∈ nc_tb := nc_at_in (p := (2, 158)) rfl rfl
set_option maxRecDepth 100000 in
theorem nc_ly_9_2 : u_lay RX9 TX9 2 ∈ nc_tb := nc_at_in (p := (2, 160)) rfl rfl
set_option maxRecDepth 100000 in
theorem nc_ly_9_3 : u_lay RX9 TX9 3 ∈ nc_tb := nc_at_in (p := (2, 162)) rfl rfl
set_option maxRecDepth 100000 in
theorem nc_ly_9_4 : u_lay RX9 TX9 4 ∈ nc_tb := nc_at_in (p := (2, 164)) rfl rfl
theorem nc_lw_9 : ∀ w ∈ u_ws RX9 TX9 5, w ∈ nc_tb := by
  intro w h
  obtain ⟨k, hk, rfl⟩ := List.mem_map.mp h
  have hk := List.mem_range.mp hk
  match k, hk with
  | 0, _ => exact nc_ly_9_0
  | 1, _ => exact nc_ly_9_1
  | 2, _ => exact nc_ly_9_2
  | 3, _ => exact nc_ly_9_3
  | 4, _ => exact nc_ly_9_4
  | k + 5, h => omega
set_option maxRecDepth 100000 in
theorem nc_ly_10_0 : u_lay RX10 TX10 0 ∈ nc_tb := nc_at_in (p := (1, 117)) rfl rfl
set_option maxRecDepth 100000 in
theorem nc_ly_10_1 : u_lay RX10 TX10 1 ∈ nc_tb := nc_at_in (p := (1, 119)) rfl rfl
set_option maxRecDepth 100000 in
theorem nc_ly_10_2 : u_lay RX10 TX10 2 ∈ nc_tb := nc_at_in (p := (1, 121)) rfl rfl
set_option maxRecDepth 100000 in
theorem nc_ly_10_3 : u_lay RX10 TX10 3 ∈ nc_tb := nc_at_in (p := (1, 123)) rfl rfl
set_option maxRecDepth 100000 in
theorem nc_ly_10_4 : u_lay RX10 TX10 4 ∈ nc_tb := nc_at_in (p := (1, 125)) rfl rfl
set_option maxRecDepth 100000 in
theorem nc_ly_10_5 : u_lay RX10 TX10 5 ∈ nc_tb := nc_at_in (p := (1, 127)) rfl rfl
set_option maxRecDepth 100000 in
theorem nc_ly_10_6 : u_lay RX10 TX10 6 ∈ nc_tb := nc_at_in (p := (1, 129)) rfl rfl
set_option maxRecDepth 100000 in
theorem nc_ly_10_7 : u_lay RX10 TX10 7 ∈ nc_tb := nc_at_in (p := (1, 131)) rfl rfl
set_option maxRecDepth 100000 in
theorem nc_ly_10_8 : u_lay RX10 TX10 8 ∈ nc_tb := nc_at_in (p := (1, 133)) rfl rfl
set_option maxRecDepth 100000 in
theorem nc_ly_10_9 : u_lay RX10 TX10 9 ∈ nc_tb := nc_at_in (p := (1, 135)) rfl rfl
set_option maxRecDepth 100000 in
theorem nc_ly_10_10 : u_lay RX10 TX10 10 ∈ nc_tb := nc_at_in (p := (1, 137)) rfl rfl
set_option maxRecDepth 100000 in
theorem nc_ly_10_11 : u_lay RX10 TX10 11 ∈ nc_tb := nc_at_in (p := (1, 139)) rfl rfl
set_option maxRecDepth 100000 in
theorem nc_ly_10_12 : u_lay RX10 TX10 12 ∈ nc_tb := nc_at_in (p := (1, 141)) rfl rfl
set_option maxRecDepth 100000 in
theorem nc_ly_10_13 : u_lay RX10 TX10 13 ∈ nc_tb := nc_at_in (p := (1, 143)) rfl rfl
set_option maxRecDepth 100000 in
theorem nc_ly_10_14 : u_lay RX10 TX10 14 ∈ nc_tb := nc_at_in (p := (1, 145)) rfl rfl
set_option maxRecDepth 100000 in
theorem nc_ly_10_15 : u_lay RX10 TX10 15 ∈ nc_tb := nc_at_in (p := (1, 147)) rfl rfl
theorem nc_lw_10 : ∀ w ∈ u_ws RX10 TX10 16, w ∈ nc_tb := by
  intro w h
  obtain ⟨k, hk, rfl⟩ := List.mem_map.mp h
  have hk := List.mem_range.mp hk
  match k, hk with
  | 0, _ => exact nc_ly_10_0
  | 1, _ => exact nc_ly_10_1
  | 2, _ => exact nc_ly_10_2
  | 3, _ => exact nc_ly_10_3
  | 4, _ => exact nc_ly_10_4
  | 5, _ => exact nc_ly_10_5
  | 6, _ => exact nc_ly_10_6
  | 7, _ => exact nc_ly_10_7
  | 8, _ => exact nc_ly_10_8
  | 9, _ => exact nc_ly_10_9
  | 10, _ => exact nc_ly_10_10
  | 11, _ => exact nc_ly_10_11
  | 12, _ => exact nc_ly_10_12
  | 13, _ => exact nc_ly_10_13
  | 14, _ => exact nc_ly_10_14
  | 15, _ => exact nc_ly_10_15
  | k + 16, h => omega
set_option maxRecDepth 100000 in
theorem nc_ly_11_0 : u_lay RX11 TX11 0 ∈ nc_tb := nc_at_in (p := (3, 96)) rfl rfl
set_option maxRecDepth 100000 in
theorem nc_ly_11_1 : u_lay RX11 TX11 1 ∈ nc_tb := nc_at_in (p := (3, 98)) rfl rfl
set_option maxRecDepth 100000 in
theorem nc_ly_11_2 : u_lay RX11 TX11 2 ∈ nc_tb := nc_at_in (p := (3, 100)) rfl rfl
set_option maxRecDepth 100000 in
theorem nc_ly_11_3 : u_lay RX11 TX11 3 ∈ nc_tb := nc_at_in (p := (3, 102)) rfl rfl
set_option maxRecDepth 100000 in
theorem nc_ly_11_4 : u_lay RX11 TX11 4 ∈ nc_tb := nc_at_in (p := (3, 104)) rfl rfl
set_option maxRecDepth 100000 in
theorem nc_ly_11_5 : u_lay RX11 TX11 5 ∈ nc_tb := nc_at_in (p := (3, 106)) rfl rfl
set_option maxRecDepth 100000 in
theorem nc_ly_11_6 : u_lay RX11 TX11 6 ∈ nc_tb := nc_at_in (p := (3, 108)) rfl rfl
set_option maxRecDepth 100000 in
theorem nc_ly_11_7 : u_lay RX11 TX11 7 ∈ nc_tb := nc_at_in (p := (3, 110)) rfl rfl
set_option maxRecDepth 100000 in
theorem nc_ly_11_8 : u_lay RX11 TX11 8 ∈ nc_tb := nc_at_in (p := (3, 112)) rfl rfl
set_option maxRecDepth 100000 in
theorem nc_ly_11_9 : u_lay RX11 TX11 9 ∈ nc_tb := nc_at_in (p := (3, 114)) rfl rfl
set_option maxRecDepth 100000 in
theorem nc_ly_11_10 : u_lay RX11 TX11 10 ∈ nc_tb := nc_at_in (p := (3, 116)) rfl rfl
set_option maxRecDepth 100000 in
theorem nc_ly_11_11 : u_lay RX11 TX11 11 ∈ nc_tb := nc_at_in (p := (3, 118)) rfl rfl
set_option maxRecDepth 100000 in
theorem nc_ly_11_12 : u_lay RX11 TX11 12 ∈ nc_tb := nc_at_in (p := (3, 120)) rfl rfl
set_option maxRecDepth 100000 in
theorem nc_ly_11_13 : u_lay RX11 TX11 13 ∈ nc_tb := nc_at_in (p := (3, 122)) rfl rfl
set_option maxRecDepth 100000 in
theorem nc_ly_11_14 : u_lay RX11 TX11 14 ∈ nc_tb := nc_at_in (p := (3, 124)) rfl rfl
set_option maxRecDepth 100000 in
theorem nc_ly_11_15 : u_lay RX11 TX11 15 ∈ nc_tb := nc_at_in (p := (3, 126)) rfl rfl
theorem nc_lw_11 : ∀ w ∈ u_ws RX11 TX11 16, w ∈ nc_tb := by
  intro w h
  obtain ⟨k, hk, rfl⟩ := List.mem_map.mp h
  have hk := List.mem_range.mp hk
  match k, hk with
  | 0, _ => exact nc_ly_11_0
  | 1, _ => exact nc_ly_11_1
  | 2, _ => exact nc_ly_11_2
  | 3, _ => exact nc_ly_11_3
  | 4, _ => exact nc_ly_11_4
  | 5, _ => exact nc_ly_11_5
  | 6, _ => exact nc_ly_11_6
  | 7, _ => exact nc_ly_11_7
  | 8, _ => exact nc_ly_11_8
  | 9, _ => exact nc_ly_11_9
  | 10, _ => exact nc_ly_11_10
  | 11, _ => exact nc_ly_11_11
  | 12, _ => exact nc_ly_11_12
  | 13, _ => exact nc_ly_11_13
  | 14, _ => exact nc_ly_11_14
  | 15, _ => exact nc_ly_11_15
  | k + 16, h => omega
set_option maxRecDepth 100000 in
theorem nc_ly_12_0 : u_lay RX12 TX12 0 ∈ nc_tb := nc_at_in (p := (7, 49)) rfl rfl
set_option maxRecDepth 100000 in
theorem nc_ly_12_1 : u_lay RX12 TX12 1 ∈ nc_tb := nc_at_in (p := (7, 51)) rfl rfl
set_option maxRecDepth 100000 in
theorem nc_ly_12_2 : u_lay RX12 TX12 2 ∈ nc_tb := nc_at_in (p := (7, 53)) rfl rfl
set_option maxRecDepth 100000 in
theorem nc_ly_12_3 : u_lay RX12 TX12 3 ∈ nc_tb := nc_at_in (p := (7, 55)) rfl rfl
set_option maxRecDepth 100000 in
theorem nc_ly_12_4 : u_lay RX12 TX12 4 ∈ nc_tb := nc_at_in (p := (7, 57)) rfl rfl
set_option maxRecDepth 100000 in
theorem nc_ly_12_5 : u_lay RX12 TX12 5 ∈ nc_tb := nc_at_in (p := (7, 59)) rfl rfl
set_option maxRecDepth 100000 in
theorem nc_ly_12_6 : u_lay RX12 TX12 6 ∈ nc_tb := nc_at_in (p := (7, 61)) rfl rfl
set_option maxRecDepth 100000 in
theorem nc_ly_12_7 : u_lay RX12 TX12 7 ∈ nc_tb := nc_at_in (p := (7, 63)) rfl rfl
set_option maxRecDepth 100000 in
theorem nc_ly_12_8 : u_lay RX12 TX12 8 ∈ nc_tb := nc_at_in (p := (7, 65)) rfl rfl
set_option maxRecDepth 100000 in
theorem nc_ly_12_9 : u_lay RX12 TX12 9 ∈ nc_tb := nc_at_in (p := (7, 67)) rfl rfl
set_option maxRecDepth 100000 in
theorem nc_ly_12_10 : u_lay RX12 TX12 10 ∈ nc_tb := nc_at_in (p := (7, 69)) rfl rfl
set_option maxRecDepth 100000 in
theorem nc_ly_12_11 : u_lay RX12 TX12 11 ∈ nc_tb := nc_at_in (p := (7, 71)) rfl rfl
set_option maxRecDepth 100000 in
theorem nc_ly_12_12 : u_lay RX12 TX12 12 ∈ nc_tb := nc_at_in (p := (7, 73)) rfl rfl
set_option maxRecDepth 100000 in
theorem nc_ly_12_13 : u_lay RX12 TX12 13 ∈ nc_tb := nc_at_in (p := (7, 75)) rfl rfl
set_option maxRecDepth 100000 in
theorem nc_ly_12_14 : u_lay RX12 TX12 14 ∈ nc_tb := nc_at_in (p := (7, 77)) rfl rfl
set_option maxRecDepth 100000 in
theorem nc_ly_12_15 : u_lay RX12 TX12 15 ∈ nc_tb := nc_at_in (p := (7, 79)) rfl rfl
set_option maxRecDepth 100000 in
theorem nc_ly_12_16 : u_lay RX12 TX12 16 ∈ nc_tb := nc_at_in (p := (7, 81)) rfl rfl
set_option maxRecDepth 100000 in
theorem nc_ly_12_17 : u_lay RX12 TX12 17 ∈ nc_tb := nc_at_in (p := (7, 83)) rfl rfl
set_option maxRecDepth 100000 in
theorem nc_ly_12_18 : u_lay RX12 TX12 18 ∈ nc_tb := nc_at_in (p := (7, 85)) rfl rfl
set_option maxRecDepth 100000 in
theorem nc_ly_12_19 : u_lay RX12 TX12 19 ∈ nc_tb := nc_at_in (p := (7, 87)) rfl rfl
set_option maxRecDepth 100000 in
theorem nc_ly_12_20 : u_lay RX12 TX12 20 ∈ nc_tb := nc_at_in (p := (7, 89)) rfl rfl
set_option maxRecDepth 100000 in
theorem nc_ly_12_21 : u_lay RX12 TX12 21 ∈ nc_tb := nc_at_in (p := (7, 91)) rfl rfl
set_option maxRecDepth 100000 in
theorem nc_ly_12_22 : u_lay RX12 TX12 22 ∈ nc_tb := nc_at_in (p := (7, 93)) rfl rfl
set_option maxRecDepth 100000 in
theorem nc_ly_12_23 : u_lay RX12 TX12 23 ∈ nc_tb := nc_at_in (p := (7, 95)) rfl rfl
set_option maxRecDepth 100000 in
theorem nc_ly_12_24 : u_lay RX12 TX12 24 ∈ nc_tb := nc_at_in (p := (7, 97)) rfl rfl
set_option maxRecDepth 100000 in
theorem nc_ly_12_25 : u_lay RX12 TX12 25 ∈ nc_tb := nc_at_in (p := (7, 99)) rfl rfl
set_option maxRecDepth 100000 in
theorem nc_ly_12_26 : u_lay RX12 TX12 26 ∈ nc_tb := nc_at_in (p := (7, 101)) rfl rfl
set_option maxRecDepth 100000 in
theorem nc_ly_12_27 : u_lay RX12 TX12 27 ∈ nc_tb := nc_at_in (p := (7, 103)) rfl rfl
set_option maxRecDepth 100000 in
theorem nc_ly_12_28 : u_lay RX12 TX12 28 ∈ nc_tb := nc_at_in (p := (7, 105)) rfl rfl
set_option maxRecDepth 100000 in
theorem nc_ly_12_29 : u_lay RX12 TX12 29 ∈ nc_tb := nc_at_in (p := (7, 107)) rfl rfl
set_option maxRecDepth 100000 in
theorem nc_ly_12_30 : u_lay RX12 TX12 30 ∈ nc_tb := nc_at_in (p := (7, 109)) rfl rfl
set_option maxRecDepth 100000 in
theorem nc_ly_12_31 : u_lay RX12 TX12 31 ∈ nc_tb := nc_at_in (p := (7, 111)) rfl rfl
set_option maxRecDepth 100000 in
theorem nc_ly_12_32 : u_lay RX12 TX12 32 ∈ nc_tb := nc_at_in (p := (7, 113)) rfl rfl
set_option maxRecDepth 100000 in
theorem nc_ly_12_33 : u_lay RX12 TX12 33 ∈ nc_tb := nc_at_in (p := (7, 115)) rfl rfl
set_option maxRecDepth 100000 in
theorem nc_ly_12_34 : u_lay RX12 TX12 34 ∈ nc_tb := nc_at_in (p := (7, 117)) rfl rfl
set_option maxRecDepth 100000 in
theorem nc_ly_12_35 : u_lay RX12 TX12 35 ∈ nc_tb := nc_at_in (p := (7, 119)) rfl rfl
set_option maxRecDepth 100000 in
theorem nc_ly_12_36 : u_lay RX12 TX12 36 ∈ nc_tb := nc_at_in (p := (7, 121)) rfl rfl
set_option maxRecDepth 100000 in
theorem nc_ly_12_37 : u_lay RX12 TX12 37 ∈ nc_tb := nc_at_in (p := (7, 123)) rfl rfl
set_option maxRecDepth 100000 in
theorem nc_ly_12_38 : u_lay RX12 TX12 38 ∈ nc_tb := nc_at_in (p := (7, 125)) rfl rfl
set_option maxRecDepth 100000 in
theorem nc_ly_12_39 : u_lay RX12 TX12 39 ∈ nc_tb := nc_at_in (p := (7, 127)) rfl rfl
set_option maxRecDepth 100000 in
theorem nc_ly_12_40 : u_lay RX12 TX12 40 ∈ nc_tb := nc_at_in (p := (7, 129)) rfl rfl
set_option maxRecDepth 100000 in
theorem nc_ly_12_41 : u_lay RX12 TX12 41 ∈ nc_tb := nc_at_in (p := (7, 131)) rfl rfl
set_option maxRecDepth 100000 in
theorem nc_ly_12_42 : u_lay RX12 TX12 42 ∈ nc_tb := nc_at_in (p := (7, 133)) rfl rfl
set_option maxRecDepth 100000 in
theorem nc_ly_12_43 : u_lay RX12 TX12 43 ∈ nc_tb := nc_at_in (p := (7, 135)) rfl rfl
set_option maxRecDepth 100000 in
theorem nc_ly_12_44 : u_lay RX12 TX12 44 ∈ nc_tb := nc_at_in (p := (7, 137)) rfl rfl
set_option maxRecDepth 100000 in
theorem nc_ly_12_45 : u_lay RX12 TX12 45 ∈ nc_tb := nc_at_in (p := (7, 139)) rfl rfl
set_option maxRecDepth 100000 in
theorem nc_ly_12_46 : u_lay RX12 TX12 46 ∈ nc_tb := nc_at_in (p := (7, 141)) rfl rfl
set_option maxRecDepth 100000 in
theorem nc_ly_12_47 : u_lay RX12 TX12 47 ∈ nc_tb := nc_at_in (p := (7, 143)) rfl rfl
set_option maxRecDepth 100000 in
theorem nc_ly_12_48 : u_lay RX12 TX12 48 ∈ nc_tb := nc_at_in (p := (7, 145)) rfl rfl
theorem nc_lw_12 : ∀ w ∈ u_ws RX12 TX12 49, w ∈ nc_tb := by
  intro w h
  obtain ⟨k, hk, rfl⟩ := List.mem_map.mp h
  have hk := List.mem_range.mp hk
  match k, hk with
  | 0, _ => exact nc_ly_12_0
  | 1, _ => exact nc_ly_12_1
  | 2, _ => exact nc_ly_12_2
  | 3, _ => exact nc_ly_12_3
  | 4, _ => exact nc_ly_12_4
  | 5, _ => exact nc_ly_12_5
  | 6, _ => exact nc_ly_12_6
  | 7, _ => exact nc_ly_12_7
  | 8, _ => exact nc_ly_12_8
  | 9, _ => exact nc_ly_12_9
  | 10, _ => exact nc_ly_12_10
  | 11, _ => exact nc_ly_12_11
  | 12, _ => exact nc_ly_12_12
  | 13, _ => exact nc_ly_12_13
  | 14, _ => exact nc_ly_12_14
  | 15, _ => exact nc_ly_12_15
  | 16, _ => exact nc_ly_12_16
  | 17, _ => exact nc_ly_12_17
  | 18, _ => exact nc_ly_12_18
  | 19, _ => exact nc_ly_12_19
  | 20, _ => exact nc_ly_12_20
  | 21, _ => exact nc_ly_12_21
  | 22, _ => exact nc_ly_12_22
  | 23, _ => exact nc_ly_12_23
  | 24, _ => exact nc_ly_12_24
  | 25, _ => exact nc_ly_12_25
  | 26, _ => exact nc_ly_12_26
  | 27, _ => exact nc_ly_12_27
  | 28, _ => exact nc_ly_12_28
  | 29, _ => exact nc_ly_12_29
  | 30, _ => exact nc_ly_12_30
  | 31, _ => exact nc_ly_12_31
  | 32, _ => exact nc_ly_12_32
  | 33, _ => exact nc_ly_12_33
  | 34, _ => exact nc_ly_12_34
  | 35, _ => exact nc_ly_12_35
  | 36, _ => exact nc_ly_12_36
  | 37, _ => exact nc_ly_12_37
  | 38, _ => exact nc_ly_12_38
  | 39, _ => exact nc_ly_12_39
  | 40, _ => exact nc_ly_12_40
  | 41, _ => exact nc_ly_12_41
  | 42, _ => exact nc_ly_12_42
  | 43, _ => exact nc_ly_12_43
  | 44, _ => exact nc_ly_12_44
  | 45, _ => exact nc_ly_12_45
  | 46, _ => exact nc_ly_12_46
  | 47, _ => exact nc_ly_12_47
  | 48, _ => exact nc_ly_12_48
  | k + 49, h => omega
set_option maxRecDepth 100000 in
theorem nc_ci_all : ∀ e ∈ nc_ciT, Cond.constant (nc_cn e.1.1) e.1.2 e.2 ∈ nc_tb := List.forall_mem_cons.mpr ⟨nc_at_in (p := (5, 223)) rfl rfl, List.forall_mem_cons.mpr ⟨nc_at_in (p := (9, 30)) rfl rfl, List.forall_mem_cons.mpr ⟨nc_at_in (p := (4, 163)) rfl rfl, List.forall_mem_cons.mpr ⟨nc_at_in (p := (4, 164)) rfl rfl, List.forall_mem_cons.mpr ⟨nc_at_in (p := (4, 165)) rfl rfl, fun _ h => absurd h List.not_mem_nil⟩⟩⟩⟩⟩
set_option maxRecDepth 100000 in
theorem nc_cl_all : ∀ e ∈ nc_clT, Cond.constantLong (nc_cn e.1.1) e.1.2 e.2 ∈ nc_tb := List.forall_mem_cons.mpr ⟨nc_at_in (p := (6, 216)) rfl rfl, List.forall_mem_cons.mpr ⟨nc_at_in (p := (6, 217)) rfl rfl, List.forall_mem_cons.mpr ⟨nc_at_in (p := (6, 218)) rfl rfl, List.forall_mem_cons.mpr ⟨nc_at_in (p := (6, 219)) rfl rfl, List.forall_mem_cons.mpr ⟨nc_at_in (p := (6, 220)) rfl rfl, List.forall_mem_cons.mpr ⟨nc_at_in (p := (6, 221)) rfl rfl, List.forall_mem_cons.mpr ⟨nc_at_in (p := (6, 222)) rfl rfl, List.forall_mem_cons.mpr ⟨nc_at_in (p := (6, 223)) rfl rfl, List.forall_mem_cons.mpr ⟨nc_at_in (p := (6, 224)) rfl rfl, List.forall_mem_cons.mpr ⟨nc_at_in (p := (6, 225)) rfl rfl, List.forall_mem_cons.mpr ⟨nc_at_in (p := (6, 226)) rfl rfl, List.forall_mem_cons.mpr ⟨nc_at_in (p := (6, 227)) rfl rfl, List.forall_mem_cons.mpr ⟨nc_at_in (p := (6, 228)) rfl rfl, List.forall_mem_cons.mpr ⟨nc_at_in (p := (6, 229)) rfl rfl, List.forall_mem_cons.mpr ⟨nc_at_in (p := (6, 230)) rfl rfl, List.forall_mem_cons.mpr ⟨nc_at_in (p := (6, 231)) rfl rfl, List.forall_mem_cons.mpr ⟨nc_at_in (p := (6, 232)) rfl rfl, List.forall_mem_cons.mpr ⟨nc_at_in (p := (6, 233)) rfl rfl, List.forall_mem_cons.mpr ⟨nc_at_in (p := (6, 234)) rfl rfl, List.forall_mem_cons.mpr ⟨nc_at_in (p := (6, 235)) rfl rfl, List.forall_mem_cons.mpr ⟨nc_at_in (p := (6, 236)) rfl rfl, List.forall_mem_cons.mpr ⟨nc_at_in (p := (6, 237)) rfl rfl, List.forall_mem_cons.mpr ⟨nc_at_in (p := (6, 238)) rfl rfl, List.forall_mem_cons.mpr ⟨nc_at_in (p := (6, 239)) rfl rfl, fun _ h => absurd h List.not_mem_nil⟩⟩⟩⟩⟩⟩⟩⟩⟩⟩⟩⟩⟩⟩⟩⟩⟩⟩⟩⟩⟩⟩⟩⟩
