/-! ===== the facts of the words, by place ===== -/
theorem inX0 : ∀ w ∈ u_ws RX0 TX0 7, w ∈ WS := by
  intro w hw
  obtain ⟨k, hk, rfl⟩ := List.mem_map.mp hw
  have hk := List.mem_range.mp hk
  match k, hk with
  | 0, _ => exact w165
  | 1, _ => exact w167
  | 2, _ => exact w169
  | 3, _ => exact w171
  | 4, _ => exact w173
  | 5, _ => exact w175
  | 6, _ => exact w177
  | k + 7, h => exact absurd h (by omega)
theorem clX0 : ClOk 0 RX0 TX0 7 tyX0 := ⟨rfl, inX0, tyX0_ok, nmX0, by decide +kernel, by decide +kernel⟩
theorem inX1 : ∀ w ∈ u_ws RX1 TX1 2, w ∈ WS := by
  intro w hw
  obtain ⟨k, hk, rfl⟩ := List.mem_map.mp hw
  have hk := List.mem_range.mp hk
  match k, hk with
  | 0, _ => exact w429
  | 1, _ => exact w430
  | k + 2, h => exact absurd h (by omega)
theorem clX1 : ClOk 1 RX1 TX1 2 tyX1 := ⟨rfl, inX1, tyX1_ok, nmX1, by decide +kernel, by decide +kernel⟩
theorem inX2 : ∀ w ∈ u_ws RX2 TX2 3, w ∈ WS := by
  intro w hw
  obtain ⟨k, hk, rfl⟩ := List.mem_map.mp hw
  have hk := List.mem_range.mp hk
  match k, hk with
  | 0, _ => exact w129
  | 1, _ => exact w131
  | 2, _ => exact w133
  | k + 3, h => exact absurd h (by omega)
theorem clX2 : ClOk 2 RX2 TX2 3 tyX2 := ⟨rfl, inX2, tyX2_ok, nmX2, by decide +kernel, by decide +kernel⟩
theorem inX3 : ∀ w ∈ u_ws RX3 TX3 2, w ∈ WS := by
  intro w hw
  obtain ⟨k, hk, rfl⟩ := List.mem_map.mp hw
  have hk := List.mem_range.mp hk
  match k, hk with
  | 0, _ => exact w402
  | 1, _ => exact w403
  | k + 2, h => exact absurd h (by omega)
theorem clX3 : ClOk 3 RX3 TX3 2 tyX3 := ⟨rfl, inX3, tyX3_ok, nmX3, by decide +kernel, by decide +kernel⟩
theorem inX4 : ∀ w ∈ u_ws RX4 TX4 2, w ∈ WS := by
  intro w hw
  obtain ⟨k, hk, rfl⟩ := List.mem_map.mp hw
  have hk := List.mem_range.mp hk
  match k, hk with
  | 0, _ => exact w393
  | 1, _ => exact w394
  | k + 2, h => exact absurd h (by omega)
theorem clX4 : ClOk 4 RX4 TX4 2 tyX4 := ⟨rfl, inX4, tyX4_ok, nmX4, by decide +kernel, by decide +kernel⟩
theorem inX5 : ∀ w ∈ u_ws RX5 TX5 2, w ∈ WS := by
  intro w hw
  obtain ⟨k, hk, rfl⟩ := List.mem_map.mp hw
  have hk := List.mem_range.mp hk
  match k, hk with
  | 0, _ => exact w382
  | 1, _ => exact w384
  | k + 2, h => exact absurd h (by omega)
theorem clX5 : ClOk 5 RX5 TX5 2 tyX5 := ⟨rfl, inX5, tyX5_ok, nmX5, by decide +kernel, by decide +kernel⟩
theorem inX6 : ∀ w ∈ u_ws RX6 TX6 2, w ∈ WS := by
  intro w hw
  obtain ⟨k, hk, rfl⟩ := List.mem_map.mp hw
  have hk := List.mem_range.mp hk
  match k, hk with
  | 0, _ => exact w434
  | 1, _ => exact w435
  | k + 2, h => exact absurd h (by omega)
theorem clX6 : ClOk 6 RX6 TX6 2 tyX6 := ⟨rfl, inX6, tyX6_ok, nmX6, by decide +kernel, by decide +kernel⟩
theorem inX7 : ∀ w ∈ u_ws RX7 TX7 3, w ∈ WS := by
  intro w hw
  obtain ⟨k, hk, rfl⟩ := List.mem_map.mp hw
  have hk := List.mem_range.mp hk
  match k, hk with
  | 0, _ => exact w268
  | 1, _ => exact w270
  | 2, _ => exact w272
  | k + 3, h => exact absurd h (by omega)
theorem clX7 : ClOk 7 RX7 TX7 3 tyX7 := ⟨rfl, inX7, tyX7_ok, nmX7, by decide +kernel, by decide +kernel⟩
theorem inX8 : ∀ w ∈ u_ws RX8 TX8 8, w ∈ WS := by
  intro w hw
  obtain ⟨k, hk, rfl⟩ := List.mem_map.mp hw
  have hk := List.mem_range.mp hk
  match k, hk with
  | 0, _ => exact w99
  | 1, _ => exact w101
  | 2, _ => exact w103
  | 3, _ => exact w105
  | 4, _ => exact w107
  | 5, _ => exact w109
  | 6, _ => exact w111
  | 7, _ => exact w113
  | k + 8, h => exact absurd h (by omega)
theorem clX8 : ClOk 8 RX8 TX8 8 tyX8 := ⟨rfl, inX8, tyX8_ok, nmX8, by decide +kernel, by decide +kernel⟩
theorem inX9 : ∀ w ∈ u_ws RX9 TX9 3, w ∈ WS := by
  intro w hw
  obtain ⟨k, hk, rfl⟩ := List.mem_map.mp hw
  have hk := List.mem_range.mp hk
  match k, hk with
  | 0, _ => exact w420
  | 1, _ => exact w421
  | 2, _ => exact w418
  | k + 3, h => exact absurd h (by omega)
theorem clX9 : ClOk 9 RX9 TX9 3 tyX9 := ⟨rfl, inX9, tyX9_ok, nmX9, by decide +kernel, by decide +kernel⟩
theorem inX10 : ∀ w ∈ u_ws RX10 TX10 17, w ∈ WS := by
  intro w hw
  obtain ⟨k, hk, rfl⟩ := List.mem_map.mp hw
  have hk := List.mem_range.mp hk
  match k, hk with
  | 0, _ => exact w220
  | 1, _ => exact w222
  | 2, _ => exact w224
  | 3, _ => exact w226
  | 4, _ => exact w228
  | 5, _ => exact w230
  | 6, _ => exact w232
  | 7, _ => exact w234
  | 8, _ => exact w236
  | 9, _ => exact w238
  | 10, _ => exact w240
  | 11, _ => exact w242
  | 12, _ => exact w244
  | 13, _ => exact w246
  | 14, _ => exact w248
  | 15, _ => exact w250
  | 16, _ => exact w252
  | k + 17, h => exact absurd h (by omega)
theorem clX10 : ClOk 10 RX10 TX10 17 tyX10 := ⟨rfl, inX10, tyX10_ok, nmX10, by decide +kernel, by decide +kernel⟩
theorem inX11 : ∀ w ∈ u_ws RX11 TX11 10, w ∈ WS := by
  intro w hw
  obtain ⟨k, hk, rfl⟩ := List.mem_map.mp hw
  have hk := List.mem_range.mp hk
  match k, hk with
  | 0, _ => exact w285
  | 1, _ => exact w287
  | 2, _ => exact w289
  | 3, _ => exact w291
  | 4, _ => exact w293
  | 5, _ => exact w295
  | 6, _ => exact w297
  | 7, _ => exact w299
  | 8, _ => exact w301
  | 9, _ => exact w303
  | k + 10, h => exact absurd h (by omega)
theorem clX11 : ClOk 11 RX11 TX11 10 tyX11 := ⟨rfl, inX11, tyX11_ok, nmX11, by decide +kernel, by decide +kernel⟩
theorem inX12 : ∀ w ∈ u_ws RX12 TX12 49, w ∈ WS := by
  intro w hw
  obtain ⟨k, hk, rfl⟩ := List.mem_map.mp hw
  have hk := List.mem_range.mp hk
  match k, hk with
  | 0, _ => exact w908
  | 1, _ => exact w910
  | 2, _ => exact w912
  | 3, _ => exact w914
  | 4, _ => exact w916
  | 5, _ => exact w918
  | 6, _ => exact w920
  | 7, _ => exact w922
  | 8, _ => exact w924
  | 9, _ => exact w926
  | 10, _ => exact w928
  | 11, _ => exact w930
  | 12, _ => exact w932
  | 13, _ => exact w934
  | 14, _ => exact w936
  | 15, _ => exact w938
  | 16, _ => exact w940
  | 17, _ => exact w942
  | 18, _ => exact w944
  | 19, _ => exact w946
  | 20, _ => exact w948
  | 21, _ => exact w950
  | 22, _ => exact w952
  | 23, _ => exact w954
  | 24, _ => exact w956
  | 25, _ => exact w958
  | 26, _ => exact w960
  | 27, _ => exact w962
  | 28, _ => exact w964
  | 29, _ => exact w966
  | 30, _ => exact w968
  | 31, _ => exact w970
  | 32, _ => exact w972
  | 33, _ => exact w974
  | 34, _ => exact w976
  | 35, _ => exact w978
  | 36, _ => exact w980
  | 37, _ => exact w982
  | 38, _ => exact w984
  | 39, _ => exact w986
  | 40, _ => exact w988
  | 41, _ => exact w990
  | 42, _ => exact w992
  | 43, _ => exact w994
  | 44, _ => exact w996
  | 45, _ => exact w998
  | 46, _ => exact w1000
  | 47, _ => exact w1002
  | 48, _ => exact w1004
  | k + 49, h => exact absurd h (by omega)
theorem clX12 : ClOk 12 RX12 TX12 49 tyX12 := ⟨rfl, inX12, tyX12_ok, nmX12, by decide +kernel, by decide +kernel⟩
abbrev mX11_init : Mi := (yX11_init, cX11_init, 4, none)
theorem okX11_init : YOk mX11_init := ⟨w72, w47, ⟨by decide, by decide⟩, by decide, by decide⟩
abbrev mX8_init : Mi := (yX8_init, cX8_init, 1, none)
theorem okX8_init : YOk mX8_init := ⟨w84, w48, ⟨by decide, by decide⟩, by decide, by decide⟩
abbrev mX2_init : Mi := (yX2_init, cX2_init, 4, none)
theorem okX2_init : YOk mX2_init := ⟨w123, w49, ⟨by decide, by decide⟩, by decide, by decide⟩
abbrev mX0_init : Mi := (yX0_init, cX0_init, 2, none)
theorem okX0_init : YOk mX0_init := ⟨w141, w50, ⟨by decide, by decide⟩, by decide, by decide⟩
abbrev mX10_init : Mi := (yX10_init, cX10_init, 2, none)
theorem okX10_init : YOk mX10_init := ⟨w184, w51, ⟨by decide, by decide⟩, by decide, by decide⟩
abbrev mX7_init : Mi := (yX7_init, cX7_init, 1, none)
theorem okX7_init : YOk mX7_init := ⟨w258, w52, ⟨by decide, by decide⟩, by decide, by decide⟩
abbrev mX11_man : Mi := (yX11_man, cX11_man, 3, some .int)
theorem okX11_man : YOk mX11_man := ⟨w309, w47, ⟨by decide, by decide⟩, by decide, by decide⟩
abbrev mX11_isStore : Mi := (yX11_isStore, cX11_isStore, 1, some .boolean)
theorem okX11_isStore : YOk mX11_isStore := ⟨w312, w47, ⟨by decide, by decide⟩, by decide, by decide⟩
abbrev mX11_isRows : Mi := (yX11_isRows, cX11_isRows, 1, some .boolean)
theorem okX11_isRows : YOk mX11_isRows := ⟨w315, w47, ⟨by decide, by decide⟩, by decide, by decide⟩
abbrev mX11_set : Mi := (yX11_set, cX11_set, 4, some .int)
theorem okX11_set : YOk mX11_set := ⟨w319, w47, ⟨by decide, by decide⟩, by decide, by decide⟩
abbrev mX11_isMan : Mi := (yX11_isMan, cX11_isMan, 2, some .boolean)
theorem okX11_isMan : YOk mX11_isMan := ⟨w323, w47, ⟨by decide, by decide⟩, by decide, by decide⟩
abbrev mX11_exchange : Mi := (yX11_exchange, cX11_exchange, 4, some .int)
theorem okX11_exchange : YOk mX11_exchange := ⟨w326, w47, ⟨by decide, by decide⟩, by decide, by decide⟩
abbrev mX11_boat : Mi := (yX11_boat, cX11_boat, 3, some .int)
theorem okX11_boat : YOk mX11_boat := ⟨w330, w47, ⟨by decide, by decide⟩, by decide, by decide⟩
abbrev mX11_day : Mi := (yX11_day, cX11_day, 4, some .int)
theorem okX11_day : YOk mX11_day := ⟨w338, w47, ⟨by decide, by decide⟩, by decide, by decide⟩
abbrev mX11_boatTold : Mi := (yX11_boatTold, cX11_boatTold, 2, some .int)
theorem okX11_boatTold : YOk mX11_boatTold := ⟨w342, w47, ⟨by decide, by decide⟩, by decide, by decide⟩
abbrev mX11_rule : Mi := (yX11_rule, cX11_rule, 5, some .int)
theorem okX11_rule : YOk mX11_rule := ⟨w346, w47, ⟨by decide, by decide⟩, by decide, by decide⟩
abbrev mX11_sheetAt : Mi := (yX11_sheetAt, cX11_sheetAt, 2, some (.object RX7))
theorem okX11_sheetAt : YOk mX11_sheetAt := ⟨w350, w47, ⟨by decide, by decide⟩, by decide, by decide⟩
abbrev mX7_isMissing : Mi := (yX7_isMissing, cX7_isMissing, 1, some .boolean)
theorem okX7_isMissing : YOk mX7_isMissing := ⟨w354, w52, ⟨by decide, by decide⟩, by decide, by decide⟩
abbrev mX7_holdsOnly : Mi := (yX7_holdsOnly, cX7_holdsOnly, 4, some .boolean)
theorem okX7_holdsOnly : YOk mX7_holdsOnly := ⟨w358, w52, ⟨by decide, by decide⟩, by decide, by decide⟩
abbrev mX11_ruleOf : Mi := (yX11_ruleOf, cX11_ruleOf, 3, some (.object RX6))
theorem okX11_ruleOf : YOk mX11_ruleOf := ⟨w361, w47, ⟨by decide, by decide⟩, by decide, by decide⟩
abbrev mX5_init : Mi := (yX5_init, cX5_init, 3, none)
theorem okX5_init : YOk mX5_init := ⟨w366, w55, ⟨by decide, by decide⟩, by decide, by decide⟩
abbrev mX6_init : Mi := (yX6_init, cX6_init, 3, none)
theorem okX6_init : YOk mX6_init := ⟨w369, w54, ⟨by decide, by decide⟩, by decide, by decide⟩
abbrev mX4_init : Mi := (yX4_init, cX4_init, 3, none)
theorem okX4_init : YOk mX4_init := ⟨w391, w56, ⟨by decide, by decide⟩, by decide, by decide⟩
abbrev mX3_init : Mi := (yX3_init, cX3_init, 3, none)
theorem okX3_init : YOk mX3_init := ⟨w400, w57, ⟨by decide, by decide⟩, by decide, by decide⟩
abbrev mX9_init : Mi := (yX9_init, cX9_init, 4, none)
theorem okX9_init : YOk mX9_init := ⟨w409, w58, ⟨by decide, by decide⟩, by decide, by decide⟩
abbrev mJ9_min_7cf53 : Mi := (yJ9_min_7cf53, cJ9_min_7cf53, 2, some .int)
abbrev mX1_init : Mi := (yX1_init, cX1_init, 3, none)
theorem okX1_init : YOk mX1_init := ⟨w427, w61, ⟨by decide, by decide⟩, by decide, by decide⟩
abbrev mX11_ruleTold : Mi := (yX11_ruleTold, cX11_ruleTold, 4, some .int)
theorem okX11_ruleTold : YOk mX11_ruleTold := ⟨w440, w47, ⟨by decide, by decide⟩, by decide, by decide⟩
abbrev mX11_ruleAt : Mi := (yX11_ruleAt, cX11_ruleAt, 2, some (.object RX6))
theorem okX11_ruleAt : YOk mX11_ruleAt := ⟨w444, w47, ⟨by decide, by decide⟩, by decide, by decide⟩
abbrev mX9_toldFor : Mi := (yX9_toldFor, cX9_toldFor, 2, some .int)
theorem okX9_toldFor : YOk mX9_toldFor := ⟨w455, w58, ⟨by decide, by decide⟩, by decide, by decide⟩
abbrev mX6_toldFor : Mi := (yX6_toldFor, cX6_toldFor, 2, some .int)
theorem okX6_toldFor : YOk mX6_toldFor := ⟨w456, w54, ⟨by decide, by decide⟩, by decide, by decide⟩
abbrev mX11_feed : Mi := (yX11_feed, cX11_feed, 4, some .int)
theorem okX11_feed : YOk mX11_feed := ⟨w460, w47, ⟨by decide, by decide⟩, by decide, by decide⟩
abbrev mX8_append : Mi := (yX8_append, cX8_append, 5, none)
theorem okX8_append : YOk mX8_append := ⟨w464, w48, ⟨by decide, by decide⟩, by decide, by decide⟩
abbrev mX11_text : Mi := (yX11_text, cX11_text, 2, some .int)
theorem okX11_text : YOk mX11_text := ⟨w468, w47, ⟨by decide, by decide⟩, by decide, by decide⟩
abbrev mX8_readWhole : Mi := (yX8_readWhole, cX8_readWhole, 1, some .boolean)
theorem okX8_readWhole : YOk mX8_readWhole := ⟨w472, w48, ⟨by decide, by decide⟩, by decide, by decide⟩
abbrev mX8_next : Mi := (yX8_next, cX8_next, 1, none)
theorem okX8_next : YOk mX8_next := ⟨w476, w48, ⟨by decide, by decide⟩, by decide, by decide⟩
abbrev mX8_isLetter : Mi := (yX8_isLetter, cX8_isLetter, 1, some .boolean)
theorem okX8_isLetter : YOk mX8_isLetter := ⟨w479, w48, ⟨by decide, by decide⟩, by decide, by decide⟩
abbrev mX8_word : Mi := (yX8_word, cX8_word, 1, some .int)
theorem okX8_word : YOk mX8_word := ⟨w483, w48, ⟨by decide, by decide⟩, by decide, by decide⟩
abbrev mX8_reads : Mi := (yX8_reads, cX8_reads, 3, some .boolean)
theorem okX8_reads : YOk mX8_reads := ⟨w488, w48, ⟨by decide, by decide⟩, by decide, by decide⟩
abbrev mJ0_length_8abf5 : Mi := (yJ0_length_8abf5, cJ0_length_8abf5, 1, some .int)
theorem okJ0_length_8abf5 : YOk mJ0_length_8abf5 := ⟨w492, w62, ⟨by decide, by decide⟩, by decide, by decide⟩
abbrev mJ0_coder_7d493 : Mi := (yJ0_coder_7d493, cJ0_coder_7d493, 1, some .byte)
theorem okJ0_coder_7d493 : YOk mJ0_coder_7d493 := ⟨w496, w62, ⟨by decide, by decide⟩, by decide, by decide⟩
abbrev mJ0_charAt_5068e : Mi := (yJ0_charAt_5068e, cJ0_charAt_5068e, 2, some .char)
theorem okJ0_charAt_5068e : YOk mJ0_charAt_5068e := ⟨w502, w62, ⟨by decide, by decide⟩, by decide, by decide⟩
abbrev mJ0_isLatin1_aae02 : Mi := (yJ0_isLatin1_aae02, cJ0_isLatin1_aae02, 1, some .boolean)
theorem okJ0_isLatin1_aae02 : YOk mJ0_isLatin1_aae02 := ⟨w506, w62, ⟨by decide, by decide⟩, by decide, by decide⟩
abbrev mJ1_charAt_3b067 : Mi := (yJ1_charAt_3b067, cJ1_charAt_3b067, 2, some .char)
theorem okJ1_charAt_3b067 : YOk mJ1_charAt_3b067 := ⟨w509, w63, ⟨by decide, by decide⟩, by decide, by decide⟩
abbrev mJ0_checkIndex_df160 : Mi := (yJ0_checkIndex_df160, cJ0_checkIndex_df160, 2, none)
theorem okJ0_checkIndex_df160 : YOk mJ0_checkIndex_df160 := ⟨w512, w62, ⟨by decide, by decide⟩, by decide, by decide⟩
abbrev mJ3_checkIndex_8e157 : Mi := (yJ3_checkIndex_8e157, cJ3_checkIndex_8e157, 3, some .int)
theorem okJ3_checkIndex_8e157 : YOk mJ3_checkIndex_8e157 := ⟨w517, w64, ⟨by decide, by decide⟩, by decide, by decide⟩
abbrev mJ2_charAt_3b067 : Mi := (yJ2_charAt_3b067, cJ2_charAt_3b067, 2, some .char)
theorem okJ2_charAt_3b067 : YOk mJ2_charAt_3b067 := ⟨w520, w65, ⟨by decide, by decide⟩, by decide, by decide⟩
abbrev mJ2_checkIndex_2214a : Mi := (yJ2_checkIndex_2214a, cJ2_checkIndex_2214a, 2, none)
theorem okJ2_checkIndex_2214a : YOk mJ2_checkIndex_2214a := ⟨w523, w65, ⟨by decide, by decide⟩, by decide, by decide⟩
abbrev mJ2_length_9d52b : Mi := (yJ2_length_9d52b, cJ2_length_9d52b, 1, some .int)
theorem okJ2_length_9d52b : YOk mJ2_length_9d52b := ⟨w526, w65, ⟨by decide, by decide⟩, by decide, by decide⟩
abbrev mJ2_getChar_3b067 : Mi := (yJ2_getChar_3b067, cJ2_getChar_3b067, 2, some .char)
theorem okJ2_getChar_3b067 : YOk mJ2_getChar_3b067 := ⟨w530, w65, ⟨by decide, by decide⟩, by decide, by decide⟩
abbrev mX8_isDigit : Mi := (yX8_isDigit, cX8_isDigit, 1, some .boolean)
theorem okX8_isDigit : YOk mX8_isDigit := ⟨w549, w48, ⟨by decide, by decide⟩, by decide, by decide⟩
abbrev mX8_number : Mi := (yX8_number, cX8_number, 3, some .int)
theorem okX8_number : YOk mX8_number := ⟨w553, w48, ⟨by decide, by decide⟩, by decide, by decide⟩
abbrev mX8_sign : Mi := (yX8_sign, cX8_sign, 1, some .int)
theorem okX8_sign : YOk mX8_sign := ⟨w556, w48, ⟨by decide, by decide⟩, by decide, by decide⟩
abbrev mX8_skip : Mi := (yX8_skip, cX8_skip, 2, some .boolean)
theorem okX8_skip : YOk mX8_skip := ⟨w560, w48, ⟨by decide, by decide⟩, by decide, by decide⟩
abbrev mX8_level : Mi := (yX8_level, cX8_level, 6, some .boolean)
theorem okX8_level : YOk mX8_level := ⟨w564, w48, ⟨by decide, by decide⟩, by decide, by decide⟩
abbrev mX8_one : Mi := (yX8_one, cX8_one, 3, some .boolean)
theorem okX8_one : YOk mX8_one := ⟨w568, w48, ⟨by decide, by decide⟩, by decide, by decide⟩
abbrev mX8_put : Mi := (yX8_put, cX8_put, 2, some .boolean)
theorem okX8_put : YOk mX8_put := ⟨w572, w48, ⟨by decide, by decide⟩, by decide, by decide⟩
abbrev mX8_tightnessOf : Mi := (yX8_tightnessOf, cX8_tightnessOf, 1, some .int)
theorem okX8_tightnessOf : YOk mX8_tightnessOf := ⟨w575, w48, ⟨by decide, by decide⟩, by decide, by decide⟩
abbrev mJ7_copyOf_59c91 : Mi := (yJ7_copyOf_59c91, cJ7_copyOf_59c91, 3, some (.array .int))
theorem okJ7_copyOf_59c91 : YOk mJ7_copyOf_59c91 := ⟨w578, w66, ⟨by decide, by decide⟩, by decide, by decide⟩
abbrev mX11_force : Mi := (yX11_force, cX11_force, 4, some .int)
theorem okX11_force : YOk mX11_force := ⟨w591, w47, ⟨by decide, by decide⟩, by decide, by decide⟩
abbrev mX11_home : Mi := (yX11_home, cX11_home, 5, some .long)
theorem okX11_home : YOk mX11_home := ⟨w595, w47, ⟨by decide, by decide⟩, by decide, by decide⟩
abbrev mX11_isPart : Mi := (yX11_isPart, cX11_isPart, 1, some .boolean)
theorem okX11_isPart : YOk mX11_isPart := ⟨w598, w47, ⟨by decide, by decide⟩, by decide, by decide⟩
abbrev mX10_sail : Mi := (yX10_sail, cX10_sail, 2, none)
theorem okX10_sail : YOk mX10_sail := ⟨w603, w51, ⟨by decide, by decide⟩, by decide, by decide⟩
abbrev mX10_sailAs : Mi := (yX10_sailAs, cX10_sailAs, 7, none)
theorem okX10_sailAs : YOk mX10_sailAs := ⟨w607, w51, ⟨by decide, by decide⟩, by decide, by decide⟩
abbrev mX10_carryOver : Mi := (yX10_carryOver, cX10_carryOver, 1, none)
theorem okX10_carryOver : YOk mX10_carryOver := ⟨w612, w51, ⟨by decide, by decide⟩, by decide, by decide⟩
abbrev mJ7_fill_53178 : Mi := (yJ7_fill_53178, cJ7_fill_53178, 4, none)
theorem okJ7_fill_53178 : YOk mJ7_fill_53178 := ⟨w615, w66, ⟨by decide, by decide⟩, by decide, by decide⟩
abbrev mX10_living : Mi := (yX10_living, cX10_living, 4, some .int)
theorem okX10_living : YOk mX10_living := ⟨w619, w51, ⟨by decide, by decide⟩, by decide, by decide⟩
abbrev mX10_drink : Mi := (yX10_drink, cX10_drink, 5, none)
theorem okX10_drink : YOk mX10_drink := ⟨w624, w51, ⟨by decide, by decide⟩, by decide, by decide⟩
abbrev mX10_drinks : Mi := (yX10_drinks, cX10_drinks, 2, some .boolean)
theorem okX10_drinks : YOk mX10_drinks := ⟨w628, w51, ⟨by decide, by decide⟩, by decide, by decide⟩
abbrev mX1_share : Mi := (yX1_share, cX1_share, 4, some .int)
theorem okX1_share : YOk mX1_share := ⟨w635, w61, ⟨by decide, by decide⟩, by decide, by decide⟩
abbrev mX5_share : Mi := (yX5_share, cX5_share, 4, some .int)
theorem okX5_share : YOk mX5_share := ⟨w638, w55, ⟨by decide, by decide⟩, by decide, by decide⟩
abbrev mJ9_max_7cf53 : Mi := (yJ9_max_7cf53, cJ9_max_7cf53, 2, some .int)
abbrev mX3_share : Mi := (yX3_share, cX3_share, 4, some .int)
theorem okX3_share : YOk mX3_share := ⟨w645, w57, ⟨by decide, by decide⟩, by decide, by decide⟩
abbrev mX4_share : Mi := (yX4_share, cX4_share, 4, some .int)
theorem okX4_share : YOk mX4_share := ⟨w648, w56, ⟨by decide, by decide⟩, by decide, by decide⟩
abbrev mX9_share : Mi := (yX9_share, cX9_share, 3, some .int)
theorem okX9_share : YOk mX9_share := ⟨w655, w58, ⟨by decide, by decide⟩, by decide, by decide⟩
abbrev mX6_share : Mi := (yX6_share, cX6_share, 3, some .int)
theorem okX6_share : YOk mX6_share := ⟨w657, w54, ⟨by decide, by decide⟩, by decide, by decide⟩
abbrev mX10_rowAndLive : Mi := (yX10_rowAndLive, cX10_rowAndLive, 5, none)
theorem okX10_rowAndLive : YOk mX10_rowAndLive := ⟨w661, w51, ⟨by decide, by decide⟩, by decide, by decide⟩
abbrev mX10_findFacts : Mi := (yX10_findFacts, cX10_findFacts, 2, none)
theorem okX10_findFacts : YOk mX10_findFacts := ⟨w665, w51, ⟨by decide, by decide⟩, by decide, by decide⟩
abbrev mX2_row : Mi := (yX2_row, cX2_row, 3, some .int)
theorem okX2_row : YOk mX2_row := ⟨w669, w49, ⟨by decide, by decide⟩, by decide, by decide⟩
abbrev mX2_value : Mi := (yX2_value, cX2_value, 8, some .int)
theorem okX2_value : YOk mX2_value := ⟨w673, w49, ⟨by decide, by decide⟩, by decide, by decide⟩
abbrev mX2_alone : Mi := (yX2_alone, cX2_alone, 2, some .int)
theorem okX2_alone : YOk mX2_alone := ⟨w676, w49, ⟨by decide, by decide⟩, by decide, by decide⟩
abbrev mX2_joined : Mi := (yX2_joined, cX2_joined, 3, some .int)
theorem okX2_joined : YOk mX2_joined := ⟨w679, w49, ⟨by decide, by decide⟩, by decide, by decide⟩
abbrev mX10_bound : Mi := (yX10_bound, cX10_bound, 2, some .int)
theorem okX10_bound : YOk mX10_bound := ⟨w682, w51, ⟨by decide, by decide⟩, by decide, by decide⟩
abbrev mX2_need : Mi := (yX2_need, cX2_need, 3, some .int)
theorem okX2_need : YOk mX2_need := ⟨w687, w49, ⟨by decide, by decide⟩, by decide, by decide⟩
abbrev mX10_fromHidden : Mi := (yX10_fromHidden, cX10_fromHidden, 2, some .int)
theorem okX10_fromHidden : YOk mX10_fromHidden := ⟨w691, w51, ⟨by decide, by decide⟩, by decide, by decide⟩
abbrev mX10_sumHomes : Mi := (yX10_sumHomes, cX10_sumHomes, 6, none)
theorem okX10_sumHomes : YOk mX10_sumHomes := ⟨w695, w51, ⟨by decide, by decide⟩, by decide, by decide⟩
abbrev mJ7_fill_d0a16 : Mi := (yJ7_fill_d0a16, cJ7_fill_d0a16, 5, none)
theorem okJ7_fill_d0a16 : YOk mJ7_fill_d0a16 := ⟨w698, w66, ⟨by decide, by decide⟩, by decide, by decide⟩
abbrev mX10_shipDays : Mi := (yX10_shipDays, cX10_shipDays, 1, some .int)
theorem okX10_shipDays : YOk mX10_shipDays := ⟨w703, w51, ⟨by decide, by decide⟩, by decide, by decide⟩
abbrev mX10_addToLiving : Mi := (yX10_addToLiving, cX10_addToLiving, 5, none)
theorem okX10_addToLiving : YOk mX10_addToLiving := ⟨w708, w51, ⟨by decide, by decide⟩, by decide, by decide⟩
abbrev mX11_inLowestTerms : Mi := (yX11_inLowestTerms, cX11_inLowestTerms, 10, some .long)
theorem okX11_inLowestTerms : YOk mX11_inLowestTerms := ⟨w711, w47, ⟨by decide, by decide⟩, by decide, by decide⟩
abbrev mJ9_abs_067f4 : Mi := (yJ9_abs_067f4, cJ9_abs_067f4, 2, some .long)
abbrev mX11_mean : Mi := (yX11_mean, cX11_mean, 5, some .long)
theorem okX11_mean : YOk mX11_mean := ⟨w719, w47, ⟨by decide, by decide⟩, by decide, by decide⟩
abbrev mX10_worth : Mi := (yX10_worth, cX10_worth, 7, some .long)
theorem okX10_worth : YOk mX10_worth := ⟨w723, w51, ⟨by decide, by decide⟩, by decide, by decide⟩
abbrev mJ9_min_f86c9 : Mi := (yJ9_min_f86c9, cJ9_min_f86c9, 4, some .long)
abbrev mX11_told : Mi := (yX11_told, cX11_told, 7, some .int)
theorem okX11_told : YOk mX11_told := ⟨w730, w47, ⟨by decide, by decide⟩, by decide, by decide⟩
abbrev mX11_ends : Mi := (yX11_ends, cX11_ends, 4, some .int)
theorem okX11_ends : YOk mX11_ends := ⟨w734, w47, ⟨by decide, by decide⟩, by decide, by decide⟩
abbrev mX10_firstDeath : Mi := (yX10_firstDeath, cX10_firstDeath, 2, some .int)
theorem okX10_firstDeath : YOk mX10_firstDeath := ⟨w739, w51, ⟨by decide, by decide⟩, by decide, by decide⟩
abbrev mX11_best : Mi := (yX11_best, cX11_best, 9, some .int)
theorem okX11_best : YOk mX11_best := ⟨w743, w47, ⟨by decide, by decide⟩, by decide, by decide⟩
abbrev mX11_rations : Mi := (yX11_rations, cX11_rations, 9, some .int)
theorem okX11_rations : YOk mX11_rations := ⟨w748, w47, ⟨by decide, by decide⟩, by decide, by decide⟩
abbrev mX11_take : Mi := (yX11_take, cX11_take, 4, some .int)
theorem okX11_take : YOk mX11_take := ⟨w753, w47, ⟨by decide, by decide⟩, by decide, by decide⟩
abbrev mX11_keepHomes : Mi := (yX11_keepHomes, cX11_keepHomes, 2, none)
theorem okX11_keepHomes : YOk mX11_keepHomes := ⟨w757, w47, ⟨by decide, by decide⟩, by decide, by decide⟩
abbrev mX11_wouldTake : Mi := (yX11_wouldTake, cX11_wouldTake, 4, some .boolean)
theorem okX11_wouldTake : YOk mX11_wouldTake := ⟨w762, w47, ⟨by decide, by decide⟩, by decide, by decide⟩
abbrev mX11_takes : Mi := (yX11_takes, cX11_takes, 5, some .int)
theorem okX11_takes : YOk mX11_takes := ⟨w766, w47, ⟨by decide, by decide⟩, by decide, by decide⟩
abbrev mJ6_bitCount_0f7a4 : Mi := (yJ6_bitCount_0f7a4, cJ6_bitCount_0f7a4, 1, some .int)
theorem okJ6_bitCount_0f7a4 : YOk mJ6_bitCount_0f7a4 := ⟨w769, w67, ⟨by decide, by decide⟩, by decide, by decide⟩
abbrev mX11_hid : Mi := (yX11_hid, cX11_hid, 6, some .long)
theorem okX11_hid : YOk mX11_hid := ⟨w776, w47, ⟨by decide, by decide⟩, by decide, by decide⟩
abbrev mX11_judge : Mi := (yX11_judge, cX11_judge, 7, some .int)
theorem okX11_judge : YOk mX11_judge := ⟨w780, w47, ⟨by decide, by decide⟩, by decide, by decide⟩
abbrev mX11_until : Mi := (yX11_until, cX11_until, 6, some .int)
theorem okX11_until : YOk mX11_until := ⟨w784, w47, ⟨by decide, by decide⟩, by decide, by decide⟩
abbrev mX11_image : Mi := (yX11_image, cX11_image, 1, some .int)
theorem okX11_image : YOk mX11_image := ⟨w789, w47, ⟨by decide, by decide⟩, by decide, by decide⟩
abbrev mX0_keep : Mi := (yX0_keep, cX0_keep, 2, none)
theorem okX0_keep : YOk mX0_keep := ⟨w793, w50, ⟨by decide, by decide⟩, by decide, by decide⟩
abbrev mX11_back : Mi := (yX11_back, cX11_back, 1, some .int)
theorem okX11_back : YOk mX11_back := ⟨w798, w47, ⟨by decide, by decide⟩, by decide, by decide⟩
abbrev mX11_sheet : Mi := (yX11_sheet, cX11_sheet, 5, some .int)
theorem okX11_sheet : YOk mX11_sheet := ⟨w802, w47, ⟨by decide, by decide⟩, by decide, by decide⟩
abbrev mX7_become : Mi := (yX7_become, cX7_become, 3, none)
theorem okX7_become : YOk mX7_become := ⟨w806, w52, ⟨by decide, by decide⟩, by decide, by decide⟩
abbrev mX11_cell : Mi := (yX11_cell, cX11_cell, 5, some .int)
theorem okX11_cell : YOk mX11_cell := ⟨w811, w47, ⟨by decide, by decide⟩, by decide, by decide⟩
abbrev mX7_cut : Mi := (yX7_cut, cX7_cut, 2, some .int)
theorem okX7_cut : YOk mX7_cut := ⟨w815, w52, ⟨by decide, by decide⟩, by decide, by decide⟩
abbrev mX11_copy : Mi := (yX11_copy, cX11_copy, 8, some .int)
theorem okX11_copy : YOk mX11_copy := ⟨w819, w47, ⟨by decide, by decide⟩, by decide, by decide⟩
abbrev mX7_hasRoom : Mi := (yX7_hasRoom, cX7_hasRoom, 3, some .boolean)
theorem okX7_hasRoom : YOk mX7_hasRoom := ⟨w823, w52, ⟨by decide, by decide⟩, by decide, by decide⟩
abbrev mX11_men : Mi := (yX11_men, cX11_men, 9, some .int)
theorem okX11_men : YOk mX11_men := ⟨w827, w47, ⟨by decide, by decide⟩, by decide, by decide⟩
abbrev mX11_taken : Mi := (yX11_taken, cX11_taken, 4, some .int)
theorem okX11_taken : YOk mX11_taken := ⟨w832, w47, ⟨by decide, by decide⟩, by decide, by decide⟩
abbrev mX11_isOfKind : Mi := (yX11_isOfKind, cX11_isOfKind, 2, some .boolean)
theorem okX11_isOfKind : YOk mX11_isOfKind := ⟨w835, w47, ⟨by decide, by decide⟩, by decide, by decide⟩
abbrev mX12_init : Mi := (yX12_init, cX12_init, 1, none)
theorem okX12_init : YOk mX12_init := ⟨w840, w53, ⟨by decide, by decide⟩, by decide, by decide⟩
abbrev mX12_first : Mi := (yX12_first, cX12_first, 6, none)
theorem okX12_first : YOk mX12_first := ⟨w857, w53, ⟨by decide, by decide⟩, by decide, by decide⟩
abbrev mX12_man : Mi := (yX12_man, cX12_man, 3, some .int)
theorem okX12_man : YOk mX12_man := ⟨w1010, w53, ⟨by decide, by decide⟩, by decide, by decide⟩
abbrev mX12_in : Mi := (yX12_in, cX12_in, 3, some .boolean)
theorem okX12_in : YOk mX12_in := ⟨w1013, w53, ⟨by decide, by decide⟩, by decide, by decide⟩
abbrev mX12_set : Mi := (yX12_set, cX12_set, 6, some .int)
theorem okX12_set : YOk mX12_set := ⟨w1017, w53, ⟨by decide, by decide⟩, by decide, by decide⟩
abbrev mX12_isMan : Mi := (yX12_isMan, cX12_isMan, 2, some .boolean)
theorem okX12_isMan : YOk mX12_isMan := ⟨w1021, w53, ⟨by decide, by decide⟩, by decide, by decide⟩
abbrev mX12_boat : Mi := (yX12_boat, cX12_boat, 5, some .int)
theorem okX12_boat : YOk mX12_boat := ⟨w1025, w53, ⟨by decide, by decide⟩, by decide, by decide⟩
abbrev mX12_boatTold : Mi := (yX12_boatTold, cX12_boatTold, 2, some .int)
theorem okX12_boatTold : YOk mX12_boatTold := ⟨w1029, w53, ⟨by decide, by decide⟩, by decide, by decide⟩
abbrev mX12_day : Mi := (yX12_day, cX12_day, 6, some .int)
theorem okX12_day : YOk mX12_day := ⟨w1033, w53, ⟨by decide, by decide⟩, by decide, by decide⟩
abbrev mX12_rule : Mi := (yX12_rule, cX12_rule, 6, some .int)
theorem okX12_rule : YOk mX12_rule := ⟨w1038, w53, ⟨by decide, by decide⟩, by decide, by decide⟩
abbrev mX12_ruleTold : Mi := (yX12_ruleTold, cX12_ruleTold, 3, some .int)
theorem okX12_ruleTold : YOk mX12_ruleTold := ⟨w1042, w53, ⟨by decide, by decide⟩, by decide, by decide⟩
abbrev mX12_isRule : Mi := (yX12_isRule, cX12_isRule, 2, some .boolean)
theorem okX12_isRule : YOk mX12_isRule := ⟨w1046, w53, ⟨by decide, by decide⟩, by decide, by decide⟩
abbrev mX12_feed : Mi := (yX12_feed, cX12_feed, 5, some .int)
theorem okX12_feed : YOk mX12_feed := ⟨w1050, w53, ⟨by decide, by decide⟩, by decide, by decide⟩
abbrev mX12_text : Mi := (yX12_text, cX12_text, 3, some .int)
theorem okX12_text : YOk mX12_text := ⟨w1055, w53, ⟨by decide, by decide⟩, by decide, by decide⟩
abbrev mX12_next : Mi := (yX12_next, cX12_next, 5, none)
theorem okX12_next : YOk mX12_next := ⟨w1059, w53, ⟨by decide, by decide⟩, by decide, by decide⟩
abbrev mX12_letters : Mi := (yX12_letters, cX12_letters, 4, some .long)
theorem okX12_letters : YOk mX12_letters := ⟨w1063, w53, ⟨by decide, by decide⟩, by decide, by decide⟩
abbrev mX12_eRead : Mi := (yX12_eRead, cX12_eRead, 4, some .boolean)
theorem okX12_eRead : YOk mX12_eRead := ⟨w1067, w53, ⟨by decide, by decide⟩, by decide, by decide⟩
abbrev mX12_puts : Mi := (yX12_puts, cX12_puts, 2, none)
theorem okX12_puts : YOk mX12_puts := ⟨w1072, w53, ⟨by decide, by decide⟩, by decide, by decide⟩
abbrev mX12_unwinds : Mi := (yX12_unwinds, cX12_unwinds, 3, none)
theorem okX12_unwinds : YOk mX12_unwinds := ⟨w1076, w53, ⟨by decide, by decide⟩, by decide, by decide⟩
abbrev mX12_rank : Mi := (yX12_rank, cX12_rank, 1, some .int)
theorem okX12_rank : YOk mX12_rank := ⟨w1079, w53, ⟨by decide, by decide⟩, by decide, by decide⟩
abbrev mX12_opensOne : Mi := (yX12_opensOne, cX12_opensOne, 2, some .boolean)
theorem okX12_opensOne : YOk mX12_opensOne := ⟨w1083, w53, ⟨by decide, by decide⟩, by decide, by decide⟩
abbrev mX12_holds : Mi := (yX12_holds, cX12_holds, 2, none)
theorem okX12_holds : YOk mX12_holds := ⟨w1087, w53, ⟨by decide, by decide⟩, by decide, by decide⟩
abbrev mX12_signOf : Mi := (yX12_signOf, cX12_signOf, 1, some .int)
theorem okX12_signOf : YOk mX12_signOf := ⟨w1091, w53, ⟨by decide, by decide⟩, by decide, by decide⟩
abbrev mX12_between : Mi := (yX12_between, cX12_between, 2, some .boolean)
theorem okX12_between : YOk mX12_between := ⟨w1095, w53, ⟨by decide, by decide⟩, by decide, by decide⟩
abbrev mX12_force : Mi := (yX12_force, cX12_force, 3, some .int)
theorem okX12_force : YOk mX12_force := ⟨w1099, w53, ⟨by decide, by decide⟩, by decide, by decide⟩
abbrev mX12_home : Mi := (yX12_home, cX12_home, 4, some .long)
theorem okX12_home : YOk mX12_home := ⟨w1103, w53, ⟨by decide, by decide⟩, by decide, by decide⟩
abbrev mX12_goesPlain : Mi := (yX12_goesPlain, cX12_goesPlain, 2, none)
theorem okX12_goesPlain : YOk mX12_goesPlain := ⟨w1108, w53, ⟨by decide, by decide⟩, by decide, by decide⟩
abbrev mX12_all : Mi := (yX12_all, cX12_all, 1, some .int)
theorem okX12_all : YOk mX12_all := ⟨w1112, w53, ⟨by decide, by decide⟩, by decide, by decide⟩
abbrev mX12_goes : Mi := (yX12_goes, cX12_goes, 19, none)
theorem okX12_goes : YOk mX12_goes := ⟨w1116, w53, ⟨by decide, by decide⟩, by decide, by decide⟩
abbrev mX12_living : Mi := (yX12_living, cX12_living, 4, some .int)
theorem okX12_living : YOk mX12_living := ⟨w1120, w53, ⟨by decide, by decide⟩, by decide, by decide⟩
abbrev mX12_drinkers : Mi := (yX12_drinkers, cX12_drinkers, 5, some .int)
theorem okX12_drinkers : YOk mX12_drinkers := ⟨w1124, w53, ⟨by decide, by decide⟩, by decide, by decide⟩
abbrev mX12_share : Mi := (yX12_share, cX12_share, 9, some .int)
theorem okX12_share : YOk mX12_share := ⟨w1128, w53, ⟨by decide, by decide⟩, by decide, by decide⟩
abbrev mX12_low : Mi := (yX12_low, cX12_low, 1, some .int)
theorem okX12_low : YOk mX12_low := ⟨w1131, w53, ⟨by decide, by decide⟩, by decide, by decide⟩
abbrev mX12_worth : Mi := (yX12_worth, cX12_worth, 6, some .int)
theorem okX12_worth : YOk mX12_worth := ⟨w1135, w53, ⟨by decide, by decide⟩, by decide, by decide⟩
abbrev mX12_two : Mi := (yX12_two, cX12_two, 3, some .int)
theorem okX12_two : YOk mX12_two := ⟨w1138, w53, ⟨by decide, by decide⟩, by decide, by decide⟩
abbrev mX12_homeOf : Mi := (yX12_homeOf, cX12_homeOf, 10, some .long)
theorem okX12_homeOf : YOk mX12_homeOf := ⟨w1142, w53, ⟨by decide, by decide⟩, by decide, by decide⟩
abbrev mX12_below : Mi := (yX12_below, cX12_below, 4, some .long)
theorem okX12_below : YOk mX12_below := ⟨w1146, w53, ⟨by decide, by decide⟩, by decide, by decide⟩
abbrev mX12_lowest : Mi := (yX12_lowest, cX12_lowest, 11, some .long)
theorem okX12_lowest : YOk mX12_lowest := ⟨w1150, w53, ⟨by decide, by decide⟩, by decide, by decide⟩
abbrev mX12_mean : Mi := (yX12_mean, cX12_mean, 4, some .long)
theorem okX12_mean : YOk mX12_mean := ⟨w1154, w53, ⟨by decide, by decide⟩, by decide, by decide⟩
abbrev mX12_meanOf : Mi := (yX12_meanOf, cX12_meanOf, 10, some .long)
theorem okX12_meanOf : YOk mX12_meanOf := ⟨w1158, w53, ⟨by decide, by decide⟩, by decide, by decide⟩
abbrev mX12_told : Mi := (yX12_told, cX12_told, 5, some .int)
theorem okX12_told : YOk mX12_told := ⟨w1162, w53, ⟨by decide, by decide⟩, by decide, by decide⟩
abbrev mX12_ends : Mi := (yX12_ends, cX12_ends, 4, some .int)
theorem okX12_ends : YOk mX12_ends := ⟨w1166, w53, ⟨by decide, by decide⟩, by decide, by decide⟩
abbrev mX12_best : Mi := (yX12_best, cX12_best, 8, some .int)
theorem okX12_best : YOk mX12_best := ⟨w1170, w53, ⟨by decide, by decide⟩, by decide, by decide⟩
abbrev mX12_rations : Mi := (yX12_rations, cX12_rations, 9, some .int)
theorem okX12_rations : YOk mX12_rations := ⟨w1174, w53, ⟨by decide, by decide⟩, by decide, by decide⟩
abbrev mX12_take : Mi := (yX12_take, cX12_take, 3, some .int)
theorem okX12_take : YOk mX12_take := ⟨w1178, w53, ⟨by decide, by decide⟩, by decide, by decide⟩
abbrev mX12_keeps : Mi := (yX12_keeps, cX12_keeps, 3, none)
theorem okX12_keeps : YOk mX12_keeps := ⟨w1182, w53, ⟨by decide, by decide⟩, by decide, by decide⟩
abbrev mX12_would : Mi := (yX12_would, cX12_would, 4, some .boolean)
theorem okX12_would : YOk mX12_would := ⟨w1186, w53, ⟨by decide, by decide⟩, by decide, by decide⟩
abbrev mX12_takes : Mi := (yX12_takes, cX12_takes, 4, some .int)
theorem okX12_takes : YOk mX12_takes := ⟨w1190, w53, ⟨by decide, by decide⟩, by decide, by decide⟩
abbrev mX12_ones : Mi := (yX12_ones, cX12_ones, 3, some .int)
theorem okX12_ones : YOk mX12_ones := ⟨w1193, w53, ⟨by decide, by decide⟩, by decide, by decide⟩
abbrev mX12_hid : Mi := (yX12_hid, cX12_hid, 7, some .long)
theorem okX12_hid : YOk mX12_hid := ⟨w1197, w53, ⟨by decide, by decide⟩, by decide, by decide⟩
abbrev mX12_judge : Mi := (yX12_judge, cX12_judge, 5, some .int)
theorem okX12_judge : YOk mX12_judge := ⟨w1201, w53, ⟨by decide, by decide⟩, by decide, by decide⟩
abbrev mX12_until : Mi := (yX12_until, cX12_until, 6, some .int)
theorem okX12_until : YOk mX12_until := ⟨w1205, w53, ⟨by decide, by decide⟩, by decide, by decide⟩
abbrev mX12_image : Mi := (yX12_image, cX12_image, 2, some .int)
theorem okX12_image : YOk mX12_image := ⟨w1209, w53, ⟨by decide, by decide⟩, by decide, by decide⟩
abbrev mX12_back : Mi := (yX12_back, cX12_back, 2, some .int)
theorem okX12_back : YOk mX12_back := ⟨w1213, w53, ⟨by decide, by decide⟩, by decide, by decide⟩
abbrev mX12_sheet : Mi := (yX12_sheet, cX12_sheet, 5, some .int)
theorem okX12_sheet : YOk mX12_sheet := ⟨w1217, w53, ⟨by decide, by decide⟩, by decide, by decide⟩
abbrev mX12_cell : Mi := (yX12_cell, cX12_cell, 4, some .int)
theorem okX12_cell : YOk mX12_cell := ⟨w1221, w53, ⟨by decide, by decide⟩, by decide, by decide⟩
abbrev mX12_copy : Mi := (yX12_copy, cX12_copy, 10, some .int)
theorem okX12_copy : YOk mX12_copy := ⟨w1225, w53, ⟨by decide, by decide⟩, by decide, by decide⟩
abbrev mX12_men : Mi := (yX12_men, cX12_men, 9, some .int)
theorem okX12_men : YOk mX12_men := ⟨w1229, w53, ⟨by decide, by decide⟩, by decide, by decide⟩
abbrev mX12_taken : Mi := (yX12_taken, cX12_taken, 3, some .int)
theorem okX12_taken : YOk mX12_taken := ⟨w1234, w53, ⟨by decide, by decide⟩, by decide, by decide⟩
abbrev mX12_isUnder : Mi := (yX12_isUnder, cX12_isUnder, 2, some .boolean)
theorem okX12_isUnder : YOk mX12_isUnder := ⟨w1237, w53, ⟨by decide, by decide⟩, by decide, by decide⟩
theorem fX11_11_11 : FRef RX11 11 11 2 1 (.array (.object RX6)) true := ⟨_, _, _, _, RX11, clX11, by decide, by decide +kernel, rfl, rfl, w277, Or.inl rfl, fun _ => Or.inr trivial⟩
theorem fX11_11_11o : FOwn RX11 11 2 := ⟨_, rfl, rfl⟩
theorem fX11_17_11 : FRef RX11 17 11 4 1 (.array (.object RX2)) true := ⟨_, _, _, _, RX11, clX11, by decide, by decide +kernel, rfl, rfl, w279, Or.inl rfl, fun _ => Or.inr trivial⟩
theorem fX11_17_11o : FOwn RX11 11 4 := ⟨_, rfl, rfl⟩
theorem fX11_24_11 : FRef RX11 24 11 6 1 (.object RX8) true := ⟨_, _, _, _, RX11, clX11, by decide, by decide +kernel, rfl, rfl, w281, Or.inl rfl, fun _ => Or.inr trivial⟩
theorem fX11_24_11o : FOwn RX11 11 6 := ⟨_, rfl, rfl⟩
theorem fX11_30_11 : FRef RX11 30 11 7 1 (.array (.object RX7)) true := ⟨_, _, _, _, RX11, clX11, by decide, by decide +kernel, rfl, rfl, w282, Or.inl rfl, fun _ => Or.inr trivial⟩
theorem fX11_30_11o : FOwn RX11 11 7 := ⟨_, rfl, rfl⟩
theorem fX11_34_11 : FRef RX11 34 11 9 1 (.array .long) true := ⟨_, _, _, _, RX11, clX11, by decide, by decide +kernel, rfl, rfl, w284, Or.inl rfl, fun _ => Or.inr trivial⟩
theorem fX11_34_11o : FOwn RX11 11 9 := ⟨_, rfl, rfl⟩
theorem fX11_41_11 : FRef RX11 41 11 5 0 (.int) false := ⟨_, _, _, _, RX11, clX11, by decide, by decide +kernel, rfl, rfl, w280, Or.inl rfl, fun _ => Or.inr trivial⟩
theorem fX11_50_11 : FRef RX11 50 11 0 1 (.object RX0) true := ⟨_, _, _, _, RX11, clX11, by decide, by decide +kernel, rfl, rfl, w275, Or.inl rfl, fun _ => Or.inr trivial⟩
theorem fX11_50_11o : FOwn RX11 11 0 := ⟨_, rfl, rfl⟩
theorem fX11_59_11 : FRef RX11 59 11 8 1 (.object RX10) true := ⟨_, _, _, _, RX11, clX11, by decide, by decide +kernel, rfl, rfl, w283, Or.inl rfl, fun _ => Or.inr trivial⟩
theorem fX11_59_11o : FOwn RX11 11 8 := ⟨_, rfl, rfl⟩
theorem fX11_71_0 : FRef RX11 71 0 0 0 (.int) false := ⟨_, _, _, _, RX0, clX0, by decide, by decide +kernel, rfl, rfl, w144, Or.inl rfl, fun _ => Or.inr trivial⟩
theorem fX11_74_0 : FRef RX11 74 0 1 1 (.array .int) true := ⟨_, _, _, _, RX0, clX0, by decide, by decide +kernel, rfl, rfl, w147, Or.inl rfl, fun _ => Or.inr trivial⟩
theorem fX11_78_0 : FRef RX11 78 0 2 1 (.array .int) true := ⟨_, _, _, _, RX0, clX0, by decide, by decide +kernel, rfl, rfl, w151, Or.inl rfl, fun _ => Or.inr trivial⟩
theorem fX11_94_0 : FRef RX11 94 0 3 1 (.array .int) true := ⟨_, _, _, _, RX0, clX0, by decide, by decide +kernel, rfl, rfl, w155, Or.inl rfl, fun _ => Or.inr trivial⟩
theorem fX11_97_0 : FRef RX11 97 0 4 1 (.array .int) true := ⟨_, _, _, _, RX0, clX0, by decide, by decide +kernel, rfl, rfl, w157, Or.inl rfl, fun _ => Or.inr trivial⟩
theorem fX11_100_0 : FRef RX11 100 0 5 1 (.array .int) true := ⟨_, _, _, _, RX0, clX0, by decide, by decide +kernel, rfl, rfl, w161, Or.inl rfl, fun _ => Or.inr trivial⟩
theorem fX11_103_11 : FRef RX11 103 11 3 0 (.int) false := ⟨_, _, _, _, RX11, clX11, by decide, by decide +kernel, rfl, rfl, w278, Or.inl rfl, fun _ => Or.inr trivial⟩
theorem fX11_106_0 : FRef RX11 106 0 6 1 (.object RX2) false := ⟨_, _, _, _, RX0, clX0, by decide, by decide +kernel, rfl, rfl, w163, Or.inl rfl, fun _ => Or.inr trivial⟩
theorem fX11_110_2 : FRef RX11 110 2 0 0 (.int) true := ⟨_, _, _, _, RX2, clX2, by decide, by decide +kernel, rfl, rfl, w126, Or.inl rfl, fun _ => Or.inr trivial⟩
theorem fX11_113_8 : FRef RX11 113 8 1 0 (.int) false := ⟨_, _, _, _, RX8, clX8, by decide, by decide +kernel, rfl, rfl, w88, Or.inl rfl, fun _ => Or.inr trivial⟩
theorem fX11_124_7 : FRef RX11 124 7 1 0 (.int) false := ⟨_, _, _, _, RX7, clX7, by decide, by decide +kernel, rfl, rfl, w264, Or.inl rfl, fun _ => Or.inr trivial⟩
theorem fX11_137_1 : FRef RX11 137 1 0 0 (.int) true := ⟨_, _, _, _, RX6, clX1, by decide, by decide +kernel, rfl, rfl, w372, Or.inl rfl, fun _ => Or.inr trivial⟩
theorem fX11_137_3 : FRef RX11 137 3 0 0 (.int) true := ⟨_, _, _, _, RX6, clX3, by decide, by decide +kernel, rfl, rfl, w372, Or.inl rfl, fun _ => Or.inr trivial⟩
theorem fX11_137_4 : FRef RX11 137 4 0 0 (.int) true := ⟨_, _, _, _, RX6, clX4, by decide, by decide +kernel, rfl, rfl, w372, Or.inl rfl, fun _ => Or.inr trivial⟩
theorem fX11_137_5 : FRef RX11 137 5 0 0 (.int) true := ⟨_, _, _, _, RX6, clX5, by decide, by decide +kernel, rfl, rfl, w372, Or.inl rfl, fun _ => Or.inr trivial⟩
theorem fX11_137_6 : FRef RX11 137 6 0 0 (.int) true := ⟨_, _, _, _, RX6, clX6, by decide, by decide +kernel, rfl, rfl, w372, Or.inl rfl, fun _ => Or.inr trivial⟩
theorem fX11_137_9 : FRef RX11 137 9 0 0 (.int) true := ⟨_, _, _, _, RX6, clX9, by decide, by decide +kernel, rfl, rfl, w372, Or.inl rfl, fun _ => Or.inr trivial⟩
theorem fX11_140_1 : FRef RX11 140 1 1 0 (.int) true := ⟨_, _, _, _, RX6, clX1, by decide, by decide +kernel, rfl, rfl, w380, Or.inl rfl, fun _ => Or.inr trivial⟩
theorem fX11_140_3 : FRef RX11 140 3 1 0 (.int) true := ⟨_, _, _, _, RX6, clX3, by decide, by decide +kernel, rfl, rfl, w380, Or.inl rfl, fun _ => Or.inr trivial⟩
theorem fX11_140_4 : FRef RX11 140 4 1 0 (.int) true := ⟨_, _, _, _, RX6, clX4, by decide, by decide +kernel, rfl, rfl, w380, Or.inl rfl, fun _ => Or.inr trivial⟩
theorem fX11_140_5 : FRef RX11 140 5 1 0 (.int) true := ⟨_, _, _, _, RX6, clX5, by decide, by decide +kernel, rfl, rfl, w380, Or.inl rfl, fun _ => Or.inr trivial⟩
theorem fX11_140_6 : FRef RX11 140 6 1 0 (.int) true := ⟨_, _, _, _, RX6, clX6, by decide, by decide +kernel, rfl, rfl, w380, Or.inl rfl, fun _ => Or.inr trivial⟩
theorem fX11_140_9 : FRef RX11 140 9 1 0 (.int) true := ⟨_, _, _, _, RX6, clX9, by decide, by decide +kernel, rfl, rfl, w380, Or.inl rfl, fun _ => Or.inr trivial⟩
theorem fX11_154_8 : FRef RX11 154 8 6 0 (.int) false := ⟨_, _, _, _, RX8, clX8, by decide, by decide +kernel, rfl, rfl, w97, Or.inl rfl, fun _ => Or.inr trivial⟩
theorem fX11_157_8 : FRef RX11 157 8 2 1 (.array .int) true := ⟨_, _, _, _, RX8, clX8, by decide, by decide +kernel, rfl, rfl, w90, Or.inl rfl, fun _ => Or.inr trivial⟩
theorem fX11_160_8 : FRef RX11 160 8 3 0 (.int) false := ⟨_, _, _, _, RX8, clX8, by decide, by decide +kernel, rfl, rfl, w92, Or.inl rfl, fun _ => Or.inr trivial⟩
theorem fX11_169_8 : FRef RX11 169 8 4 0 (.int) false := ⟨_, _, _, _, RX8, clX8, by decide, by decide +kernel, rfl, rfl, w94, Or.inl rfl, fun _ => Or.inr trivial⟩
theorem fX11_181_10 : FRef RX11 181 10 5 1 (.array .long) true := ⟨_, _, _, _, RX10, clX10, by decide, by decide +kernel, rfl, rfl, w200, Or.inl rfl, fun _ => Or.inr trivial⟩
theorem fX11_192_10 : FRef RX11 192 10 1 1 (.array (.array .int)) true := ⟨_, _, _, _, RX10, clX10, by decide, by decide +kernel, rfl, rfl, w192, Or.inl rfl, fun _ => Or.inr trivial⟩
theorem fX11_195_10 : FRef RX11 195 10 2 1 (.array (.array .int)) true := ⟨_, _, _, _, RX10, clX10, by decide, by decide +kernel, rfl, rfl, w194, Or.inl rfl, fun _ => Or.inr trivial⟩
theorem fX11_198_10 : FRef RX11 198 10 3 1 (.array .int) true := ⟨_, _, _, _, RX10, clX10, by decide, by decide +kernel, rfl, rfl, w196, Or.inl rfl, fun _ => Or.inr trivial⟩
theorem fX11_201_10 : FRef RX11 201 10 4 1 (.array .int) true := ⟨_, _, _, _, RX10, clX10, by decide, by decide +kernel, rfl, rfl, w198, Or.inl rfl, fun _ => Or.inr trivial⟩
theorem fX11_204_10 : FRef RX11 204 10 16 0 (.int) false := ⟨_, _, _, _, RX10, clX10, by decide, by decide +kernel, rfl, rfl, w219, Or.inl rfl, fun _ => Or.inr trivial⟩
theorem fX11_232_7 : FRef RX11 232 7 2 1 (.array .int) true := ⟨_, _, _, _, RX7, clX7, by decide, by decide +kernel, rfl, rfl, w267, Or.inl rfl, fun _ => Or.inr trivial⟩
theorem fX11_238_11 : FRef RX11 238 11 1 1 (.object RX0) false := ⟨_, _, _, _, RX11, clX11, by decide, by decide +kernel, rfl, rfl, w276, Or.inl rfl, fun _ => Or.inr trivial⟩
theorem fX11_251_7 : FRef RX11 251 7 0 0 (.int) false := ⟨_, _, _, _, RX7, clX7, by decide, by decide +kernel, rfl, rfl, w261, Or.inl rfl, fun _ => Or.inr trivial⟩
theorem fX0_9_0 : FRef RX0 9 0 1 1 (.array .int) true := ⟨_, _, _, _, RX0, clX0, by decide, by decide +kernel, rfl, rfl, w146, Or.inl rfl, fun _ => Or.inr trivial⟩
theorem fX0_9_0o : FOwn RX0 0 1 := ⟨_, rfl, rfl⟩
theorem fX0_15_0 : FRef RX0 15 0 2 1 (.array .int) true := ⟨_, _, _, _, RX0, clX0, by decide, by decide +kernel, rfl, rfl, w149, Or.inl rfl, fun _ => Or.inr trivial⟩
theorem fX0_15_0o : FOwn RX0 0 2 := ⟨_, rfl, rfl⟩
theorem fX0_18_0 : FRef RX0 18 0 3 1 (.array .int) true := ⟨_, _, _, _, RX0, clX0, by decide, by decide +kernel, rfl, rfl, w153, Or.inl rfl, fun _ => Or.inr trivial⟩
theorem fX0_18_0o : FOwn RX0 0 3 := ⟨_, rfl, rfl⟩
theorem fX0_21_0 : FRef RX0 21 0 4 1 (.array .int) true := ⟨_, _, _, _, RX0, clX0, by decide, by decide +kernel, rfl, rfl, w156, Or.inl rfl, fun _ => Or.inr trivial⟩
theorem fX0_21_0o : FOwn RX0 0 4 := ⟨_, rfl, rfl⟩
theorem fX0_24_0 : FRef RX0 24 0 5 1 (.array .int) true := ⟨_, _, _, _, RX0, clX0, by decide, by decide +kernel, rfl, rfl, w159, Or.inl rfl, fun _ => Or.inr trivial⟩
theorem fX0_24_0o : FOwn RX0 0 5 := ⟨_, rfl, rfl⟩
theorem fX0_27_0 : FRef RX0 27 0 6 1 (.object RX2) false := ⟨_, _, _, _, RX0, clX0, by decide, by decide +kernel, rfl, rfl, w162, Or.inl rfl, fun _ => Or.inr trivial⟩
theorem fX0_31_0 : FRef RX0 31 0 0 0 (.int) false := ⟨_, _, _, _, RX0, clX0, by decide, by decide +kernel, rfl, rfl, w143, Or.inl rfl, fun _ => Or.inr trivial⟩
theorem fX1_11_10 : FRef RX1 11 10 13 0 (.int) false := ⟨_, _, _, _, RX10, clX10, by decide, by decide +kernel, rfl, rfl, w210, Or.inl rfl, fun _ => Or.inr trivial⟩
theorem fX1_17_1 : FRef RX1 17 1 1 0 (.int) true := ⟨_, _, _, _, RX1, clX1, by decide, by decide +kernel, rfl, rfl, w374, Or.inr w375, fun _ => Or.inr trivial⟩
theorem fX2_9_2 : FRef RX2 9 2 0 0 (.int) true := ⟨_, _, _, _, RX2, clX2, by decide, by decide +kernel, rfl, rfl, w125, Or.inl rfl, fun _ => Or.inr trivial⟩
theorem fX2_9_2o : FOwn RX2 2 0 := ⟨_, rfl, rfl⟩
theorem fX2_15_2 : FRef RX2 15 2 1 1 (.array .int) true := ⟨_, _, _, _, RX2, clX2, by decide, by decide +kernel, rfl, rfl, w127, Or.inl rfl, fun _ => Or.inr trivial⟩
theorem fX2_15_2o : FOwn RX2 2 1 := ⟨_, rfl, rfl⟩
theorem fX2_19_2 : FRef RX2 19 2 2 0 (.int) true := ⟨_, _, _, _, RX2, clX2, by decide, by decide +kernel, rfl, rfl, w128, Or.inl rfl, fun _ => Or.inr trivial⟩
theorem fX2_19_2o : FOwn RX2 2 2 := ⟨_, rfl, rfl⟩
theorem fX3_11_10 : FRef RX3 11 10 14 0 (.int) false := ⟨_, _, _, _, RX10, clX10, by decide, by decide +kernel, rfl, rfl, w214, Or.inl rfl, fun _ => Or.inr trivial⟩
theorem fX3_17_10 : FRef RX3 17 10 15 0 (.int) false := ⟨_, _, _, _, RX10, clX10, by decide, by decide +kernel, rfl, rfl, w216, Or.inl rfl, fun _ => Or.inr trivial⟩
theorem fX3_20_10 : FRef RX3 20 10 13 0 (.int) false := ⟨_, _, _, _, RX10, clX10, by decide, by decide +kernel, rfl, rfl, w211, Or.inl rfl, fun _ => Or.inr trivial⟩
theorem fX3_23_3 : FRef RX3 23 3 1 0 (.int) true := ⟨_, _, _, _, RX3, clX3, by decide, by decide +kernel, rfl, rfl, w378, Or.inr w379, fun _ => Or.inr trivial⟩
theorem fX4_7_10 : FRef RX4 7 10 1 1 (.array (.array .int)) true := ⟨_, _, _, _, RX10, clX10, by decide, by decide +kernel, rfl, rfl, w191, Or.inl rfl, fun _ => Or.inr trivial⟩
theorem fX4_13_10 : FRef RX4 13 10 13 0 (.int) false := ⟨_, _, _, _, RX10, clX10, by decide, by decide +kernel, rfl, rfl, w209, Or.inl rfl, fun _ => Or.inr trivial⟩
theorem fX4_17_3 : FRef RX4 17 3 1 0 (.int) true := ⟨_, _, _, _, RX4, clX3, by decide, by decide +kernel, rfl, rfl, w376, Or.inr w377, fun _ => Or.inr trivial⟩
theorem fX4_17_4 : FRef RX4 17 4 1 0 (.int) true := ⟨_, _, _, _, RX4, clX4, by decide, by decide +kernel, rfl, rfl, w376, Or.inr w377, fun _ => Or.inr trivial⟩
theorem fX5_7_10 : FRef RX5 7 10 0 1 (.object RX0) true := ⟨_, _, _, _, RX10, clX10, by decide, by decide +kernel, rfl, rfl, w189, Or.inl rfl, fun _ => Or.inr trivial⟩
theorem fX5_13_0 : FRef RX5 13 0 2 1 (.array .int) true := ⟨_, _, _, _, RX0, clX0, by decide, by decide +kernel, rfl, rfl, w150, Or.inl rfl, fun _ => Or.inr trivial⟩
theorem fX6_7_1 : FRef RX6 7 1 0 0 (.int) true := ⟨_, _, _, _, RX6, clX1, by decide, by decide +kernel, rfl, rfl, w371, Or.inl rfl, fun _ => Or.inr trivial⟩
theorem fX6_7_1o : FOwn RX6 1 0 := ⟨_, rfl, rfl⟩
theorem fX6_7_3 : FRef RX6 7 3 0 0 (.int) true := ⟨_, _, _, _, RX6, clX3, by decide, by decide +kernel, rfl, rfl, w371, Or.inl rfl, fun _ => Or.inr trivial⟩
theorem fX6_7_3o : FOwn RX6 3 0 := ⟨_, rfl, rfl⟩
theorem fX6_7_4 : FRef RX6 7 4 0 0 (.int) true := ⟨_, _, _, _, RX6, clX4, by decide, by decide +kernel, rfl, rfl, w371, Or.inl rfl, fun _ => Or.inr trivial⟩
theorem fX6_7_4o : FOwn RX6 4 0 := ⟨_, rfl, rfl⟩
theorem fX6_7_5 : FRef RX6 7 5 0 0 (.int) true := ⟨_, _, _, _, RX6, clX5, by decide, by decide +kernel, rfl, rfl, w371, Or.inl rfl, fun _ => Or.inr trivial⟩
theorem fX6_7_5o : FOwn RX6 5 0 := ⟨_, rfl, rfl⟩
theorem fX6_7_6 : FRef RX6 7 6 0 0 (.int) true := ⟨_, _, _, _, RX6, clX6, by decide, by decide +kernel, rfl, rfl, w371, Or.inl rfl, fun _ => Or.inr trivial⟩
theorem fX6_7_6o : FOwn RX6 6 0 := ⟨_, rfl, rfl⟩
theorem fX6_7_9 : FRef RX6 7 9 0 0 (.int) true := ⟨_, _, _, _, RX6, clX9, by decide, by decide +kernel, rfl, rfl, w371, Or.inl rfl, fun _ => Or.inr trivial⟩
theorem fX6_7_9o : FOwn RX6 9 0 := ⟨_, rfl, rfl⟩
theorem fX6_13_1 : FRef RX6 13 1 1 0 (.int) true := ⟨_, _, _, _, RX6, clX1, by decide, by decide +kernel, rfl, rfl, w373, Or.inl rfl, fun _ => Or.inr trivial⟩
theorem fX6_13_1o : FOwn RX6 1 1 := ⟨_, rfl, rfl⟩
theorem fX6_13_3 : FRef RX6 13 3 1 0 (.int) true := ⟨_, _, _, _, RX6, clX3, by decide, by decide +kernel, rfl, rfl, w373, Or.inl rfl, fun _ => Or.inr trivial⟩
theorem fX6_13_3o : FOwn RX6 3 1 := ⟨_, rfl, rfl⟩
theorem fX6_13_4 : FRef RX6 13 4 1 0 (.int) true := ⟨_, _, _, _, RX6, clX4, by decide, by decide +kernel, rfl, rfl, w373, Or.inl rfl, fun _ => Or.inr trivial⟩
theorem fX6_13_4o : FOwn RX6 4 1 := ⟨_, rfl, rfl⟩
theorem fX6_13_5 : FRef RX6 13 5 1 0 (.int) true := ⟨_, _, _, _, RX6, clX5, by decide, by decide +kernel, rfl, rfl, w373, Or.inl rfl, fun _ => Or.inr trivial⟩
theorem fX6_13_5o : FOwn RX6 5 1 := ⟨_, rfl, rfl⟩
theorem fX6_13_6 : FRef RX6 13 6 1 0 (.int) true := ⟨_, _, _, _, RX6, clX6, by decide, by decide +kernel, rfl, rfl, w373, Or.inl rfl, fun _ => Or.inr trivial⟩
theorem fX6_13_6o : FOwn RX6 6 1 := ⟨_, rfl, rfl⟩
theorem fX6_13_9 : FRef RX6 13 9 1 0 (.int) true := ⟨_, _, _, _, RX6, clX9, by decide, by decide +kernel, rfl, rfl, w373, Or.inl rfl, fun _ => Or.inr trivial⟩
theorem fX6_13_9o : FOwn RX6 9 1 := ⟨_, rfl, rfl⟩
theorem fX6_16_10 : FRef RX6 16 10 14 0 (.int) false := ⟨_, _, _, _, RX10, clX10, by decide, by decide +kernel, rfl, rfl, w213, Or.inl rfl, fun _ => Or.inr trivial⟩
theorem fX6_21_10 : FRef RX6 21 10 9 0 (.int) false := ⟨_, _, _, _, RX10, clX10, by decide, by decide +kernel, rfl, rfl, w204, Or.inl rfl, fun _ => Or.inr trivial⟩
theorem fX7_9_7 : FRef RX7 9 7 0 0 (.int) false := ⟨_, _, _, _, RX7, clX7, by decide, by decide +kernel, rfl, rfl, w260, Or.inl rfl, fun _ => Or.inr trivial⟩
theorem fX7_15_7 : FRef RX7 15 7 2 1 (.array .int) true := ⟨_, _, _, _, RX7, clX7, by decide, by decide +kernel, rfl, rfl, w265, Or.inl rfl, fun _ => Or.inr trivial⟩
theorem fX7_15_7o : FOwn RX7 7 2 := ⟨_, rfl, rfl⟩
theorem fX7_19_7 : FRef RX7 19 7 1 0 (.int) false := ⟨_, _, _, _, RX7, clX7, by decide, by decide +kernel, rfl, rfl, w263, Or.inl rfl, fun _ => Or.inr trivial⟩
theorem fX8_9_8 : FRef RX8 9 8 0 1 (.array .byte) true := ⟨_, _, _, _, RX8, clX8, by decide, by decide +kernel, rfl, rfl, w86, Or.inl rfl, fun _ => Or.inr trivial⟩
theorem fX8_9_8o : FOwn RX8 8 0 := ⟨_, rfl, rfl⟩
theorem fX8_15_8 : FRef RX8 15 8 2 1 (.array .int) true := ⟨_, _, _, _, RX8, clX8, by decide, by decide +kernel, rfl, rfl, w89, Or.inl rfl, fun _ => Or.inr trivial⟩
theorem fX8_15_8o : FOwn RX8 8 2 := ⟨_, rfl, rfl⟩
theorem fX8_19_8 : FRef RX8 19 8 1 0 (.int) false := ⟨_, _, _, _, RX8, clX8, by decide, by decide +kernel, rfl, rfl, w87, Or.inl rfl, fun _ => Or.inr trivial⟩
theorem fX8_23_8 : FRef RX8 23 8 3 0 (.int) false := ⟨_, _, _, _, RX8, clX8, by decide, by decide +kernel, rfl, rfl, w91, Or.inl rfl, fun _ => Or.inr trivial⟩
theorem fX8_26_8 : FRef RX8 26 8 4 0 (.int) false := ⟨_, _, _, _, RX8, clX8, by decide, by decide +kernel, rfl, rfl, w93, Or.inl rfl, fun _ => Or.inr trivial⟩
theorem fX8_29_8 : FRef RX8 29 8 7 0 (.int) false := ⟨_, _, _, _, RX8, clX8, by decide, by decide +kernel, rfl, rfl, w98, Or.inl rfl, fun _ => Or.inr trivial⟩
theorem fX8_43_8 : FRef RX8 43 8 5 0 (.int) false := ⟨_, _, _, _, RX8, clX8, by decide, by decide +kernel, rfl, rfl, w95, Or.inl rfl, fun _ => Or.inr trivial⟩
theorem fX8_56_8 : FRef RX8 56 8 6 0 (.int) false := ⟨_, _, _, _, RX8, clX8, by decide, by decide +kernel, rfl, rfl, w96, Or.inl rfl, fun _ => Or.inr trivial⟩
theorem fX9_9_9 : FRef RX9 9 9 2 1 (.array .int) true := ⟨_, _, _, _, RX9, clX9, by decide, by decide +kernel, rfl, rfl, w417, Or.inl rfl, fun _ => Or.inr trivial⟩
theorem fX9_9_9o : FOwn RX9 9 2 := ⟨_, rfl, rfl⟩
theorem fX9_15_7 : FRef RX9 15 7 2 1 (.array .int) true := ⟨_, _, _, _, RX7, clX7, by decide, by decide +kernel, rfl, rfl, w266, Or.inl rfl, fun _ => Or.inr trivial⟩
theorem fX9_20_7 : FRef RX9 20 7 1 0 (.int) false := ⟨_, _, _, _, RX7, clX7, by decide, by decide +kernel, rfl, rfl, w262, Or.inl rfl, fun _ => Or.inr trivial⟩
theorem fX10_11_10 : FRef RX10 11 10 1 1 (.array (.array .int)) true := ⟨_, _, _, _, RX10, clX10, by decide, by decide +kernel, rfl, rfl, w190, Or.inl rfl, fun _ => Or.inr trivial⟩
theorem fX10_11_10o : FOwn RX10 10 1 := ⟨_, rfl, rfl⟩
theorem fX10_16_10 : FRef RX10 16 10 2 1 (.array (.array .int)) true := ⟨_, _, _, _, RX10, clX10, by decide, by decide +kernel, rfl, rfl, w193, Or.inl rfl, fun _ => Or.inr trivial⟩
theorem fX10_16_10o : FOwn RX10 10 2 := ⟨_, rfl, rfl⟩
theorem fX10_19_10 : FRef RX10 19 10 3 1 (.array .int) true := ⟨_, _, _, _, RX10, clX10, by decide, by decide +kernel, rfl, rfl, w195, Or.inl rfl, fun _ => Or.inr trivial⟩
theorem fX10_19_10o : FOwn RX10 10 3 := ⟨_, rfl, rfl⟩
theorem fX10_23_10 : FRef RX10 23 10 4 1 (.array .int) true := ⟨_, _, _, _, RX10, clX10, by decide, by decide +kernel, rfl, rfl, w197, Or.inl rfl, fun _ => Or.inr trivial⟩
theorem fX10_23_10o : FOwn RX10 10 4 := ⟨_, rfl, rfl⟩
theorem fX10_26_10 : FRef RX10 26 10 5 1 (.array .long) true := ⟨_, _, _, _, RX10, clX10, by decide, by decide +kernel, rfl, rfl, w199, Or.inl rfl, fun _ => Or.inr trivial⟩
theorem fX10_26_10o : FOwn RX10 10 5 := ⟨_, rfl, rfl⟩
theorem fX10_30_10 : FRef RX10 30 10 6 1 (.array .int) true := ⟨_, _, _, _, RX10, clX10, by decide, by decide +kernel, rfl, rfl, w201, Or.inl rfl, fun _ => Or.inr trivial⟩
theorem fX10_30_10o : FOwn RX10 10 6 := ⟨_, rfl, rfl⟩
theorem fX10_33_10 : FRef RX10 33 10 7 1 (.array .int) true := ⟨_, _, _, _, RX10, clX10, by decide, by decide +kernel, rfl, rfl, w202, Or.inl rfl, fun _ => Or.inr trivial⟩
theorem fX10_33_10o : FOwn RX10 10 7 := ⟨_, rfl, rfl⟩
theorem fX10_36_10 : FRef RX10 36 10 0 1 (.object RX0) true := ⟨_, _, _, _, RX10, clX10, by decide, by decide +kernel, rfl, rfl, w188, Or.inl rfl, fun _ => Or.inr trivial⟩
theorem fX10_36_10o : FOwn RX10 10 0 := ⟨_, rfl, rfl⟩
theorem fX10_40_0 : FRef RX10 40 0 3 1 (.array .int) true := ⟨_, _, _, _, RX0, clX0, by decide, by decide +kernel, rfl, rfl, w154, Or.inl rfl, fun _ => Or.inr trivial⟩
theorem fX10_49_10 : FRef RX10 49 10 8 1 (.object RX6) false := ⟨_, _, _, _, RX10, clX10, by decide, by decide +kernel, rfl, rfl, w203, Or.inl rfl, fun _ => Or.inr trivial⟩
theorem fX10_53_10 : FRef RX10 53 10 9 0 (.int) false := ⟨_, _, _, _, RX10, clX10, by decide, by decide +kernel, rfl, rfl, w205, Or.inl rfl, fun _ => Or.inr trivial⟩
theorem fX10_57_10 : FRef RX10 57 10 10 0 (.int) false := ⟨_, _, _, _, RX10, clX10, by decide, by decide +kernel, rfl, rfl, w206, Or.inl rfl, fun _ => Or.inr trivial⟩
theorem fX10_60_10 : FRef RX10 60 10 11 0 (.int) false := ⟨_, _, _, _, RX10, clX10, by decide, by decide +kernel, rfl, rfl, w207, Or.inl rfl, fun _ => Or.inr trivial⟩
theorem fX10_63_10 : FRef RX10 63 10 12 0 (.int) false := ⟨_, _, _, _, RX10, clX10, by decide, by decide +kernel, rfl, rfl, w208, Or.inl rfl, fun _ => Or.inr trivial⟩
theorem fX10_66_10 : FRef RX10 66 10 16 0 (.int) false := ⟨_, _, _, _, RX10, clX10, by decide, by decide +kernel, rfl, rfl, w218, Or.inl rfl, fun _ => Or.inr trivial⟩
theorem fX10_69_0 : FRef RX10 69 0 1 1 (.array .int) true := ⟨_, _, _, _, RX0, clX0, by decide, by decide +kernel, rfl, rfl, w148, Or.inl rfl, fun _ => Or.inr trivial⟩
theorem fX10_77_10 : FRef RX10 77 10 13 0 (.int) false := ⟨_, _, _, _, RX10, clX10, by decide, by decide +kernel, rfl, rfl, w212, Or.inl rfl, fun _ => Or.inr trivial⟩
theorem fX10_87_0 : FRef RX10 87 0 5 1 (.array .int) true := ⟨_, _, _, _, RX0, clX0, by decide, by decide +kernel, rfl, rfl, w160, Or.inl rfl, fun _ => Or.inr trivial⟩
theorem fX10_111_0 : FRef RX10 111 0 0 0 (.int) false := ⟨_, _, _, _, RX0, clX0, by decide, by decide +kernel, rfl, rfl, w145, Or.inl rfl, fun _ => Or.inr trivial⟩
theorem fX10_114_10 : FRef RX10 114 10 14 0 (.int) false := ⟨_, _, _, _, RX10, clX10, by decide, by decide +kernel, rfl, rfl, w215, Or.inl rfl, fun _ => Or.inr trivial⟩
theorem fX10_121_10 : FRef RX10 121 10 15 0 (.int) false := ⟨_, _, _, _, RX10, clX10, by decide, by decide +kernel, rfl, rfl, w217, Or.inl rfl, fun _ => Or.inr trivial⟩
theorem fX10_130_0 : FRef RX10 130 0 6 1 (.object RX2) false := ⟨_, _, _, _, RX0, clX0, by decide, by decide +kernel, rfl, rfl, w164, Or.inl rfl, fun _ => Or.inr trivial⟩
theorem fX10_153_0 : FRef RX10 153 0 2 1 (.array .int) true := ⟨_, _, _, _, RX0, clX0, by decide, by decide +kernel, rfl, rfl, w152, Or.inl rfl, fun _ => Or.inr trivial⟩
theorem fX10_156_1 : FRef RX10 156 1 1 0 (.int) true := ⟨_, _, _, _, RX6, clX1, by decide, by decide +kernel, rfl, rfl, w381, Or.inl rfl, fun _ => Or.inr trivial⟩
theorem fX10_156_3 : FRef RX10 156 3 1 0 (.int) true := ⟨_, _, _, _, RX6, clX3, by decide, by decide +kernel, rfl, rfl, w381, Or.inl rfl, fun _ => Or.inr trivial⟩
theorem fX10_156_4 : FRef RX10 156 4 1 0 (.int) true := ⟨_, _, _, _, RX6, clX4, by decide, by decide +kernel, rfl, rfl, w381, Or.inl rfl, fun _ => Or.inr trivial⟩
theorem fX10_156_5 : FRef RX10 156 5 1 0 (.int) true := ⟨_, _, _, _, RX6, clX5, by decide, by decide +kernel, rfl, rfl, w381, Or.inl rfl, fun _ => Or.inr trivial⟩
theorem fX10_156_6 : FRef RX10 156 6 1 0 (.int) true := ⟨_, _, _, _, RX6, clX6, by decide, by decide +kernel, rfl, rfl, w381, Or.inl rfl, fun _ => Or.inr trivial⟩
theorem fX10_156_9 : FRef RX10 156 9 1 0 (.int) true := ⟨_, _, _, _, RX6, clX9, by decide, by decide +kernel, rfl, rfl, w381, Or.inl rfl, fun _ => Or.inr trivial⟩
theorem fX10_173_0 : FRef RX10 173 0 4 1 (.array .int) true := ⟨_, _, _, _, RX0, clX0, by decide, by decide +kernel, rfl, rfl, w158, Or.inl rfl, fun _ => Or.inr trivial⟩
theorem fX12_7_12 : FRef RX12 7 12 1 1 (.array .int) true := ⟨_, _, _, _, RX12, clX12, by decide, by decide +kernel, rfl, rfl, w860, Or.inl rfl, fun _ => Or.inr trivial⟩
theorem fX12_7_12o : FOwn RX12 12 1 := ⟨_, rfl, rfl⟩
theorem fX12_13_12 : FRef RX12 13 12 2 1 (.array .int) true := ⟨_, _, _, _, RX12, clX12, by decide, by decide +kernel, rfl, rfl, w861, Or.inl rfl, fun _ => Or.inr trivial⟩
theorem fX12_13_12o : FOwn RX12 12 2 := ⟨_, rfl, rfl⟩
theorem fX12_16_12 : FRef RX12 16 12 3 0 (.int) false := ⟨_, _, _, _, RX12, clX12, by decide, by decide +kernel, rfl, rfl, w862, Or.inl rfl, fun _ => Or.inr trivial⟩
theorem fX12_20_12 : FRef RX12 20 12 4 0 (.int) false := ⟨_, _, _, _, RX12, clX12, by decide, by decide +kernel, rfl, rfl, w863, Or.inl rfl, fun _ => Or.inr trivial⟩
theorem fX12_23_12 : FRef RX12 23 12 5 0 (.int) false := ⟨_, _, _, _, RX12, clX12, by decide, by decide +kernel, rfl, rfl, w864, Or.inl rfl, fun _ => Or.inr trivial⟩
theorem fX12_26_12 : FRef RX12 26 12 6 0 (.int) false := ⟨_, _, _, _, RX12, clX12, by decide, by decide +kernel, rfl, rfl, w865, Or.inl rfl, fun _ => Or.inr trivial⟩
theorem fX12_29_12 : FRef RX12 29 12 7 1 (.array .int) true := ⟨_, _, _, _, RX12, clX12, by decide, by decide +kernel, rfl, rfl, w866, Or.inl rfl, fun _ => Or.inr trivial⟩
theorem fX12_29_12o : FOwn RX12 12 7 := ⟨_, rfl, rfl⟩
theorem fX12_32_12 : FRef RX12 32 12 8 1 (.array .int) true := ⟨_, _, _, _, RX12, clX12, by decide, by decide +kernel, rfl, rfl, w867, Or.inl rfl, fun _ => Or.inr trivial⟩
theorem fX12_32_12o : FOwn RX12 12 8 := ⟨_, rfl, rfl⟩
theorem fX12_35_12 : FRef RX12 35 12 10 1 (.array .int) true := ⟨_, _, _, _, RX12, clX12, by decide, by decide +kernel, rfl, rfl, w869, Or.inl rfl, fun _ => Or.inr trivial⟩
theorem fX12_35_12o : FOwn RX12 12 10 := ⟨_, rfl, rfl⟩
theorem fX12_38_12 : FRef RX12 38 12 11 1 (.array .int) true := ⟨_, _, _, _, RX12, clX12, by decide, by decide +kernel, rfl, rfl, w870, Or.inl rfl, fun _ => Or.inr trivial⟩
theorem fX12_38_12o : FOwn RX12 12 11 := ⟨_, rfl, rfl⟩
theorem fX12_41_12 : FRef RX12 41 12 12 1 (.array .int) true := ⟨_, _, _, _, RX12, clX12, by decide, by decide +kernel, rfl, rfl, w871, Or.inl rfl, fun _ => Or.inr trivial⟩
theorem fX12_41_12o : FOwn RX12 12 12 := ⟨_, rfl, rfl⟩
theorem fX12_44_12 : FRef RX12 44 12 13 1 (.array .int) true := ⟨_, _, _, _, RX12, clX12, by decide, by decide +kernel, rfl, rfl, w872, Or.inl rfl, fun _ => Or.inr trivial⟩
theorem fX12_44_12o : FOwn RX12 12 13 := ⟨_, rfl, rfl⟩
theorem fX12_47_12 : FRef RX12 47 12 15 1 (.array .int) true := ⟨_, _, _, _, RX12, clX12, by decide, by decide +kernel, rfl, rfl, w874, Or.inl rfl, fun _ => Or.inr trivial⟩
theorem fX12_47_12o : FOwn RX12 12 15 := ⟨_, rfl, rfl⟩
theorem fX12_50_12 : FRef RX12 50 12 16 1 (.array .int) true := ⟨_, _, _, _, RX12, clX12, by decide, by decide +kernel, rfl, rfl, w875, Or.inl rfl, fun _ => Or.inr trivial⟩
theorem fX12_50_12o : FOwn RX12 12 16 := ⟨_, rfl, rfl⟩
theorem fX12_53_12 : FRef RX12 53 12 17 0 (.int) false := ⟨_, _, _, _, RX12, clX12, by decide, by decide +kernel, rfl, rfl, w876, Or.inl rfl, fun _ => Or.inr trivial⟩
theorem fX12_56_12 : FRef RX12 56 12 19 1 (.array .int) true := ⟨_, _, _, _, RX12, clX12, by decide, by decide +kernel, rfl, rfl, w878, Or.inl rfl, fun _ => Or.inr trivial⟩
theorem fX12_56_12o : FOwn RX12 12 19 := ⟨_, rfl, rfl⟩
theorem fX12_59_12 : FRef RX12 59 12 20 1 (.array .int) true := ⟨_, _, _, _, RX12, clX12, by decide, by decide +kernel, rfl, rfl, w879, Or.inl rfl, fun _ => Or.inr trivial⟩
theorem fX12_59_12o : FOwn RX12 12 20 := ⟨_, rfl, rfl⟩
theorem fX12_62_12 : FRef RX12 62 12 21 1 (.array .int) true := ⟨_, _, _, _, RX12, clX12, by decide, by decide +kernel, rfl, rfl, w880, Or.inl rfl, fun _ => Or.inr trivial⟩
theorem fX12_62_12o : FOwn RX12 12 21 := ⟨_, rfl, rfl⟩
theorem fX12_65_12 : FRef RX12 65 12 22 1 (.array .int) true := ⟨_, _, _, _, RX12, clX12, by decide, by decide +kernel, rfl, rfl, w881, Or.inl rfl, fun _ => Or.inr trivial⟩
theorem fX12_65_12o : FOwn RX12 12 22 := ⟨_, rfl, rfl⟩
theorem fX12_68_12 : FRef RX12 68 12 31 1 (.array .int) true := ⟨_, _, _, _, RX12, clX12, by decide, by decide +kernel, rfl, rfl, w890, Or.inl rfl, fun _ => Or.inr trivial⟩
theorem fX12_68_12o : FOwn RX12 12 31 := ⟨_, rfl, rfl⟩
theorem fX12_71_12 : FRef RX12 71 12 32 1 (.array .int) true := ⟨_, _, _, _, RX12, clX12, by decide, by decide +kernel, rfl, rfl, w891, Or.inl rfl, fun _ => Or.inr trivial⟩
theorem fX12_71_12o : FOwn RX12 12 32 := ⟨_, rfl, rfl⟩
theorem fX12_74_12 : FRef RX12 74 12 33 1 (.array .int) true := ⟨_, _, _, _, RX12, clX12, by decide, by decide +kernel, rfl, rfl, w892, Or.inl rfl, fun _ => Or.inr trivial⟩
theorem fX12_74_12o : FOwn RX12 12 33 := ⟨_, rfl, rfl⟩
theorem fX12_77_12 : FRef RX12 77 12 34 1 (.array .int) true := ⟨_, _, _, _, RX12, clX12, by decide, by decide +kernel, rfl, rfl, w893, Or.inl rfl, fun _ => Or.inr trivial⟩
theorem fX12_77_12o : FOwn RX12 12 34 := ⟨_, rfl, rfl⟩
theorem fX12_80_12 : FRef RX12 80 12 35 1 (.array .int) true := ⟨_, _, _, _, RX12, clX12, by decide, by decide +kernel, rfl, rfl, w894, Or.inl rfl, fun _ => Or.inr trivial⟩
theorem fX12_80_12o : FOwn RX12 12 35 := ⟨_, rfl, rfl⟩
theorem fX12_83_12 : FRef RX12 83 12 36 1 (.array .int) true := ⟨_, _, _, _, RX12, clX12, by decide, by decide +kernel, rfl, rfl, w895, Or.inl rfl, fun _ => Or.inr trivial⟩
theorem fX12_83_12o : FOwn RX12 12 36 := ⟨_, rfl, rfl⟩
theorem fX12_108_12 : FRef RX12 108 12 41 1 (.array .long) true := ⟨_, _, _, _, RX12, clX12, by decide, by decide +kernel, rfl, rfl, w900, Or.inl rfl, fun _ => Or.inr trivial⟩
theorem fX12_108_12o : FOwn RX12 12 41 := ⟨_, rfl, rfl⟩
theorem fX12_112_12 : FRef RX12 112 12 42 1 (.array .int) true := ⟨_, _, _, _, RX12, clX12, by decide, by decide +kernel, rfl, rfl, w901, Or.inl rfl, fun _ => Or.inr trivial⟩
theorem fX12_112_12o : FOwn RX12 12 42 := ⟨_, rfl, rfl⟩
theorem fX12_115_12 : FRef RX12 115 12 46 1 (.array .int) true := ⟨_, _, _, _, RX12, clX12, by decide, by decide +kernel, rfl, rfl, w905, Or.inl rfl, fun _ => Or.inr trivial⟩
theorem fX12_115_12o : FOwn RX12 12 46 := ⟨_, rfl, rfl⟩
theorem fX12_118_12 : FRef RX12 118 12 47 1 (.array .int) true := ⟨_, _, _, _, RX12, clX12, by decide, by decide +kernel, rfl, rfl, w906, Or.inl rfl, fun _ => Or.inr trivial⟩
theorem fX12_118_12o : FOwn RX12 12 47 := ⟨_, rfl, rfl⟩
theorem fX12_121_12 : FRef RX12 121 12 48 1 (.array .long) true := ⟨_, _, _, _, RX12, clX12, by decide, by decide +kernel, rfl, rfl, w907, Or.inl rfl, fun _ => Or.inr trivial⟩
theorem fX12_121_12o : FOwn RX12 12 48 := ⟨_, rfl, rfl⟩
theorem fX12_130_12 : FRef RX12 130 12 0 0 (.int) false := ⟨_, _, _, _, RX12, clX12, by decide, by decide +kernel, rfl, rfl, w859, Or.inl rfl, fun _ => Or.inr trivial⟩
theorem fX12_137_12 : FRef RX12 137 12 9 0 (.int) false := ⟨_, _, _, _, RX12, clX12, by decide, by decide +kernel, rfl, rfl, w868, Or.inl rfl, fun _ => Or.inr trivial⟩
theorem fX12_148_12 : FRef RX12 148 12 18 0 (.int) false := ⟨_, _, _, _, RX12, clX12, by decide, by decide +kernel, rfl, rfl, w877, Or.inl rfl, fun _ => Or.inr trivial⟩
theorem fX12_151_12 : FRef RX12 151 12 14 0 (.int) false := ⟨_, _, _, _, RX12, clX12, by decide, by decide +kernel, rfl, rfl, w873, Or.inl rfl, fun _ => Or.inr trivial⟩
theorem fX12_159_12 : FRef RX12 159 12 37 0 (.int) false := ⟨_, _, _, _, RX12, clX12, by decide, by decide +kernel, rfl, rfl, w896, Or.inl rfl, fun _ => Or.inr trivial⟩
theorem fX12_162_12 : FRef RX12 162 12 38 0 (.int) false := ⟨_, _, _, _, RX12, clX12, by decide, by decide +kernel, rfl, rfl, w897, Or.inl rfl, fun _ => Or.inr trivial⟩
theorem fX12_165_12 : FRef RX12 165 12 39 0 (.int) false := ⟨_, _, _, _, RX12, clX12, by decide, by decide +kernel, rfl, rfl, w898, Or.inl rfl, fun _ => Or.inr trivial⟩
theorem fX12_168_12 : FRef RX12 168 12 40 0 (.int) false := ⟨_, _, _, _, RX12, clX12, by decide, by decide +kernel, rfl, rfl, w899, Or.inl rfl, fun _ => Or.inr trivial⟩
theorem fX12_175_12 : FRef RX12 175 12 45 0 (.int) false := ⟨_, _, _, _, RX12, clX12, by decide, by decide +kernel, rfl, rfl, w904, Or.inl rfl, fun _ => Or.inr trivial⟩
theorem fX12_178_12 : FRef RX12 178 12 43 0 (.int) false := ⟨_, _, _, _, RX12, clX12, by decide, by decide +kernel, rfl, rfl, w902, Or.inl rfl, fun _ => Or.inr trivial⟩
theorem fX12_184_12 : FRef RX12 184 12 44 0 (.int) false := ⟨_, _, _, _, RX12, clX12, by decide, by decide +kernel, rfl, rfl, w903, Or.inl rfl, fun _ => Or.inr trivial⟩
theorem fX12_222_12 : FRef RX12 222 12 23 0 (.int) false := ⟨_, _, _, _, RX12, clX12, by decide, by decide +kernel, rfl, rfl, w882, Or.inl rfl, fun _ => Or.inr trivial⟩
theorem fX12_278_12 : FRef RX12 278 12 24 0 (.boolean) false := ⟨_, _, _, _, RX12, clX12, by decide, by decide +kernel, rfl, rfl, w883, Or.inl rfl, fun _ => Or.inr trivial⟩
theorem fX12_282_12 : FRef RX12 282 12 25 0 (.int) false := ⟨_, _, _, _, RX12, clX12, by decide, by decide +kernel, rfl, rfl, w884, Or.inl rfl, fun _ => Or.inr trivial⟩
theorem fX12_285_12 : FRef RX12 285 12 26 0 (.int) false := ⟨_, _, _, _, RX12, clX12, by decide, by decide +kernel, rfl, rfl, w885, Or.inl rfl, fun _ => Or.inr trivial⟩
theorem fX12_288_12 : FRef RX12 288 12 27 0 (.int) false := ⟨_, _, _, _, RX12, clX12, by decide, by decide +kernel, rfl, rfl, w886, Or.inl rfl, fun _ => Or.inr trivial⟩
theorem fX12_291_12 : FRef RX12 291 12 28 0 (.int) false := ⟨_, _, _, _, RX12, clX12, by decide, by decide +kernel, rfl, rfl, w887, Or.inl rfl, fun _ => Or.inr trivial⟩
theorem fX12_294_12 : FRef RX12 294 12 29 0 (.int) false := ⟨_, _, _, _, RX12, clX12, by decide, by decide +kernel, rfl, rfl, w888, Or.inl rfl, fun _ => Or.inr trivial⟩
theorem fX12_297_12 : FRef RX12 297 12 30 0 (.int) false := ⟨_, _, _, _, RX12, clX12, by decide, by decide +kernel, rfl, rfl, w889, Or.inl rfl, fun _ => Or.inr trivial⟩
theorem clX11_9 : Cond.classLink RX11 9 RX6 ∈ WS := w76
theorem clX11_15 : Cond.classLink RX11 15 RX2 ∈ WS := w78
theorem clX11_28 : Cond.classLink RX11 28 RX7 ∈ WS := w118
theorem gsX11_88 : Cond.fieldLink RX11 88 RX11 "BOAT_LEAST" "[I" ∈ WS := w331
theorem gsX11_91 : Cond.fieldLink RX11 91 RX11 "BOAT_MOST" "[I" ∈ WS := w333
theorem gsJ0_38 : Cond.fieldLink RJ0 38 RJ0 "COMPACT_STRINGS" "Z" ∈ WS := w497
theorem gsJ0_1053 : Cond.fieldLink RJ0 1053 RJ3 "SIOOBE_FORMATTER" "Ljava/util/function/BiFunction;" ∈ WS := w513
theorem clX11_270 : Cond.classLink RX11 270 RX5 ∈ WS := w362
theorem clX11_274 : Cond.classLink RX11 274 RX4 ∈ WS := w387
theorem clX11_277 : Cond.classLink RX11 277 RX3 ∈ WS := w396
theorem clX11_280 : Cond.classLink RX11 280 RX9 ∈ WS := w405
theorem clX11_285 : Cond.classLink RX11 285 RX1 ∈ WS := w423
theorem obX11_3 : Cond.methodLink RX11 3 Lib.objectInit ∈ WS := w73
theorem nnX11_23 : InnOk RX11 23 mX8_init 0 := ⟨okX8_init, rfl, by simp [nwL], w83, rfl, rfl⟩
theorem inX11_38 : InOk RX11 38 mX2_init 3 := ⟨okX2_init, rfl, w121, w122, rfl, rfl⟩
theorem inX11_47 : InOk RX11 47 mX0_init 1 := ⟨okX0_init, rfl, w139, w140, rfl, rfl⟩
theorem inX11_56 : InOk RX11 56 mX10_init 1 := ⟨okX10_init, rfl, w182, w183, rfl, rfl⟩
theorem nnX11_63 : InnOk RX11 63 mX7_init 0 := ⟨okX7_init, rfl, by simp [nwL], w257, rfl, rfl⟩
theorem inX11_272 : InOk RX11 272 mX5_init 2 := ⟨okX5_init, rfl, w364, w365, rfl, rfl⟩
theorem inX11_276 : InOk RX11 276 mX4_init 2 := ⟨okX4_init, rfl, w389, w390, rfl, rfl⟩
theorem inX11_279 : InOk RX11 279 mX3_init 2 := ⟨okX3_init, rfl, w398, w399, rfl, rfl⟩
theorem inX11_282 : InOk RX11 282 mX9_init 3 := ⟨okX9_init, rfl, w407, w408, rfl, rfl⟩
theorem inX11_287 : InOk RX11 287 mX1_init 2 := ⟨okX1_init, rfl, w425, w426, rfl, rfl⟩
theorem inX11_288 : InOk RX11 288 mX6_init 2 := ⟨okX6_init, rfl, w433, w368, rfl, rfl⟩
theorem obX0_3 : Cond.methodLink RX0 3 Lib.objectInit ∈ WS := w142
theorem inX1_1 : InOk RX1 1 mX5_init 2 := ⟨okX5_init, rfl, w428, w365, rfl, rfl⟩
theorem suX1_7 : SuOk RX1 7 mX5_share 2 := ⟨okX5_share, rfl, w636, w1239, w431, w637, by decide⟩
theorem obX2_3 : Cond.methodLink RX2 3 Lib.objectInit ∈ WS := w124
theorem inX3_1 : InOk RX3 1 mX4_init 2 := ⟨okX4_init, rfl, w401, w390, rfl, rfl⟩
theorem suX3_7 : SuOk RX3 7 mX4_share 2 := ⟨okX4_share, rfl, w646, w1240, w404, w647, by decide⟩
theorem inX4_1 : InOk RX4 1 mX6_init 2 := ⟨okX6_init, rfl, w392, w368, rfl, rfl⟩
theorem suX4_22 : SuOk RX4 22 mX6_share 2 := ⟨okX6_share, rfl, w649, w632, w395, w630, by decide⟩
theorem inX5_1 : InOk RX5 1 mX6_init 2 := ⟨okX6_init, rfl, w367, w368, rfl, rfl⟩
theorem suX5_19 : SuOk RX5 19 mX6_share 2 := ⟨okX6_share, rfl, w639, w632, w386, w630, by decide⟩
theorem obX6_1 : Cond.methodLink RX6 1 Lib.objectInit ∈ WS := w370
theorem obX7_3 : Cond.methodLink RX7 3 Lib.objectInit ∈ WS := w259
theorem obX8_3 : Cond.methodLink RX8 3 Lib.objectInit ∈ WS := w85
theorem inX9_3 : InOk RX9 3 mX6_init 2 := ⟨okX6_init, rfl, w410, w368, rfl, rfl⟩
theorem obX10_3 : Cond.methodLink RX10 3 Lib.objectInit ∈ WS := w185
theorem inL_9 : InOk RL 9 mX11_init 0 := ⟨okX11_init, rfl, w70, w71, rfl, rfl⟩
theorem inL_12 : InOk RL 12 mX12_init 0 := ⟨okX12_init, rfl, w838, w839, rfl, rfl⟩
theorem obX12_1 : Cond.methodLink RX12 1 Lib.objectInit ∈ WS := w841
theorem stX11_64 : StOk RX11 64 mX11_isStore 1 := ⟨okX11_isStore, rfl, w310, w311⟩
theorem stX11_68 : StOk RX11 68 mX11_isRows 1 := ⟨okX11_isRows, rfl, w313, w314⟩
theorem stX11_84 : StOk RX11 84 mX11_exchange 3 := ⟨okX11_exchange, rfl, w324, w325⟩
theorem stX11_129 : StOk RX11 129 mX11_ruleOf 3 := ⟨okX11_ruleOf, rfl, w359, w360⟩
theorem stX11_163 : StOk RX11 163 mJ7_copyOf_59c91 2 := ⟨okJ7_copyOf_59c91, rfl, w576, w577⟩
theorem stX11_172 : StOk RX11 172 mX11_isPart 1 := ⟨okX11_isPart, rfl, w596, w597⟩
theorem stX11_184 : StOk RX11 184 mX11_inLowestTerms 2 := ⟨okX11_inLowestTerms, rfl, w709, w710⟩
theorem stX11_227 : StOk RX11 227 mJ6_bitCount_0f7a4 1 := ⟨okJ6_bitCount_0f7a4, rfl, w767, w768⟩
theorem cpX11_257 : CpOk RX11 257 := ⟨w758, w416, w415, w60⟩
theorem stX11_267 : StOk RX11 267 mX11_isOfKind 2 := ⟨okX11_isOfKind, rfl, w833, w834⟩
theorem mtX11_291 : Cond.methodLink RX11 291 Lib.MathLoose.abs_long.x ∈ WS ∧ Cond.static Lib.MathLoose.abs_long.x ∈ WS ∧ Cond.initialized "java/lang/Math" ∈ WS ∧ Cond.code Lib.MathLoose.abs_long.x Lib.MathLoose.abs_long.code 2 (some .long) ∈ WS := ⟨w713, w714, w59, w715⟩
theorem cpX0_35 : CpOk RX0 35 := ⟨w794, w416, w415, w60⟩
theorem stX2_26 : StOk RX2 26 mX2_alone 2 := ⟨okX2_alone, rfl, w674, w675⟩
theorem stX2_30 : StOk RX2 30 mX2_joined 3 := ⟨okX2_joined, rfl, w677, w678⟩
theorem mtX4_26 : Cond.methodLink RX4 26 Lib.Math.max.name ∈ WS ∧ Cond.static Lib.Math.max.name ∈ WS ∧ Cond.initialized "java/lang/Math" ∈ WS ∧ Cond.code Lib.Math.max.name Lib.Math.max.code 2 (some .int) ∈ WS := ⟨w650, w641, w59, w642⟩
theorem mtX5_23 : Cond.methodLink RX5 23 Lib.Math.max.name ∈ WS ∧ Cond.static Lib.Math.max.name ∈ WS ∧ Cond.initialized "java/lang/Math" ∈ WS ∧ Cond.code Lib.Math.max.name Lib.Math.max.code 2 (some .int) ∈ WS := ⟨w640, w641, w59, w642⟩
theorem stX7_22 : StOk RX7 22 mJ7_fill_53178 2 := ⟨okJ7_fill_53178, rfl, w807, w614⟩
theorem stX8_52 : StOk RX8 52 mX8_tightnessOf 1 := ⟨okX8_tightnessOf, rfl, w573, w574⟩
theorem stX8_59 : StOk RX8 59 mX8_isLetter 1 := ⟨okX8_isLetter, rfl, w477, w478⟩
theorem stX8_66 : StOk RX8 66 mX8_isDigit 1 := ⟨okX8_isDigit, rfl, w547, w548⟩
theorem stX8_72 : StOk RX8 72 mX8_sign 1 := ⟨okX8_sign, rfl, w554, w555⟩
theorem mtX9_24 : Cond.methodLink RX9 24 Lib.Math.min.name ∈ WS ∧ Cond.static Lib.Math.min.name ∈ WS ∧ Cond.initialized "java/lang/Math" ∈ WS ∧ Cond.code Lib.Math.min.name Lib.Math.min.code 2 (some .int) ∈ WS := ⟨w411, w412, w59, w413⟩
theorem cpX9_30 : CpOk RX9 30 := ⟨w414, w416, w415, w60⟩
theorem cpX10_71 : CpOk RX10 71 := ⟨w608, w416, w415, w60⟩
theorem mtX10_90 : Cond.methodLink RX10 90 Lib.Math.min.name ∈ WS ∧ Cond.static Lib.Math.min.name ∈ WS ∧ Cond.initialized "java/lang/Math" ∈ WS ∧ Cond.code Lib.Math.min.name Lib.Math.min.code 2 (some .int) ∈ WS := ⟨w620, w412, w59, w413⟩
theorem stX10_105 : StOk RX10 105 mJ7_fill_53178 2 := ⟨okJ7_fill_53178, rfl, w613, w614⟩
theorem stX10_144 : StOk RX10 144 mX10_bound 2 := ⟨okX10_bound, rfl, w680, w681⟩
theorem mtX10_159 : Cond.methodLink RX10 159 Lib.Math.max.name ∈ WS ∧ Cond.static Lib.Math.max.name ∈ WS ∧ Cond.initialized "java/lang/Math" ∈ WS ∧ Cond.code Lib.Math.max.name Lib.Math.max.code 2 (some .int) ∈ WS := ⟨w683, w641, w59, w642⟩
theorem stX10_162 : StOk RX10 162 mJ7_fill_d0a16 2 := ⟨okJ7_fill_d0a16, rfl, w696, w697⟩
theorem mtX10_180 : Cond.methodLink RX10 180 Lib.MathLoose.min_long.x ∈ WS ∧ Cond.static Lib.MathLoose.min_long.x ∈ WS ∧ Cond.initialized "java/lang/Math" ∈ WS ∧ Cond.code Lib.MathLoose.min_long.x Lib.MathLoose.min_long.code 4 (some .long) ∈ WS := ⟨w724, w725, w59, w726⟩
theorem stX12_133 : StOk RX12 133 mX12_in 3 := ⟨okX12_in, rfl, w1011, w1012⟩
theorem stX12_181 : StOk RX12 181 mX12_rank 1 := ⟨okX12_rank, rfl, w1077, w1078⟩
theorem stX12_215 : StOk RX12 215 mX12_two 3 := ⟨okX12_two, rfl, w1136, w1137⟩
theorem stX12_219 : StOk RX12 219 mX12_low 1 := ⟨okX12_low, rfl, w1129, w1130⟩
theorem stX12_260 : StOk RX12 260 mX12_lowest 3 := ⟨okX12_lowest, rfl, w1148, w1149⟩
theorem stX12_275 : StOk RX12 275 mX12_ones 1 := ⟨okX12_ones, rfl, w1191, w1192⟩
theorem stX12_303 : StOk RX12 303 mX12_isUnder 2 := ⟨okX12_isUnder, rfl, w1235, w1236⟩
theorem stJ0_495 : StOk RJ0 495 mJ1_charAt_3b067 2 := ⟨okJ1_charAt_3b067, rfl, w507, w508⟩
theorem stJ0_498 : StOk RJ0 498 mJ2_charAt_3b067 2 := ⟨okJ2_charAt_3b067, rfl, w518, w519⟩
theorem stJ0_1059 : StOk RJ0 1059 mJ3_checkIndex_8e157 3 := ⟨okJ3_checkIndex_8e157, rfl, w515, w516⟩
theorem stJ1_9 : StOk RJ1 9 mJ0_checkIndex_df160 2 := ⟨okJ0_checkIndex_df160, rfl, w510, w511⟩
theorem stJ2_48 : StOk RJ2 48 mJ2_length_9d52b 1 := ⟨okJ2_length_9d52b, rfl, w524, w525⟩
theorem stJ2_67 : StOk RJ2 67 mJ2_checkIndex_2214a 2 := ⟨okJ2_checkIndex_2214a, rfl, w521, w522⟩
theorem stJ2_71 : StOk RJ2 71 mJ2_getChar_3b067 2 := ⟨okJ2_getChar_3b067, rfl, w528, w529⟩
theorem stJ2_414 : StOk RJ2 414 mJ0_checkIndex_df160 2 := ⟨okJ0_checkIndex_df160, rfl, w527, w511⟩
theorem cpJ7_150 : CpOk RJ7 150 := ⟨w587, w416, w415, w60⟩
theorem mtJ7_304 : Cond.methodLink RJ7 304 Lib.Math.min.name ∈ WS ∧ Cond.static Lib.Math.min.name ∈ WS ∧ Cond.initialized "java/lang/Math" ∈ WS ∧ Cond.code Lib.Math.min.name Lib.Math.min.code 2 (some .int) ∈ WS := ⟨w586, w412, w59, w413⟩
theorem viX11_81_11 : ViOk RX11 81 11 mX11_isMan 1 := ⟨okX11_isMan, rfl, w320, w322, _, rfl, w0⟩
theorem viX11_116_11 : ViOk RX11 116 11 mX11_sheetAt 1 := ⟨okX11_sheetAt, rfl, w347, w349, _, rfl, w1⟩
theorem viX11_120_7 : ViOk RX11 120 7 mX7_isMissing 0 := ⟨okX7_isMissing, rfl, w351, w352, _, rfl, w353⟩
theorem viX11_125_7 : ViOk RX11 125 7 mX7_holdsOnly 2 := ⟨okX7_holdsOnly, rfl, w355, w356, _, rfl, w357⟩
theorem viX11_133_11 : ViOk RX11 133 11 mX11_ruleAt 1 := ⟨okX11_ruleAt, rfl, w441, w443, _, rfl, w2⟩
theorem vuX11_143_1 : VuOk RX11 143 1 yX6_toldFor mX6_toldFor 1 := ⟨okX6_toldFor, rfl, w445, w448, w446, ⟨_, _, _, w456⟩, ⟨by decide, by decide⟩, w446, _, rfl, w449⟩
theorem vuX11_143_3 : VuOk RX11 143 3 yX6_toldFor mX6_toldFor 1 := ⟨okX6_toldFor, rfl, w445, w448, w446, ⟨_, _, _, w456⟩, ⟨by decide, by decide⟩, w446, _, rfl, w450⟩
theorem vuX11_143_4 : VuOk RX11 143 4 yX6_toldFor mX6_toldFor 1 := ⟨okX6_toldFor, rfl, w445, w448, w446, ⟨_, _, _, w456⟩, ⟨by decide, by decide⟩, w446, _, rfl, w451⟩
theorem vuX11_143_5 : VuOk RX11 143 5 yX6_toldFor mX6_toldFor 1 := ⟨okX6_toldFor, rfl, w445, w448, w446, ⟨_, _, _, w456⟩, ⟨by decide, by decide⟩, w446, _, rfl, w452⟩
theorem viX11_143_6 : ViOk RX11 143 6 mX6_toldFor 1 := ⟨okX6_toldFor, rfl, w445, w446, _, rfl, w447⟩
theorem vuX11_143_9 : VuOk RX11 143 9 yX6_toldFor mX9_toldFor 1 := ⟨okX9_toldFor, rfl, w445, w448, w446, ⟨_, _, _, w456⟩, ⟨by decide, by decide⟩, w454, _, rfl, w453⟩
theorem viX11_147_8 : ViOk RX11 147 8 mX8_append 2 := ⟨okX8_append, rfl, w461, w462, _, rfl, w463⟩
theorem viX11_151_8 : ViOk RX11 151 8 mX8_readWhole 0 := ⟨okX8_readWhole, rfl, w469, w470, _, rfl, w471⟩
theorem viX11_177_10 : ViOk RX11 177 10 mX10_sail 1 := ⟨okX10_sail, rfl, w600, w601, _, rfl, w602⟩
theorem viX11_188_10 : ViOk RX11 188 10 mX10_worth 1 := ⟨okX10_worth, rfl, w720, w721, _, rfl, w722⟩
theorem viX11_207_10 : ViOk RX11 207 10 mX10_living 1 := ⟨okX10_living, rfl, w735, w617, _, rfl, w618⟩
theorem viX11_210_10 : ViOk RX11 210 10 mX10_firstDeath 0 := ⟨okX10_firstDeath, rfl, w736, w737, _, rfl, w738⟩
theorem viX11_216_10 : ViOk RX11 216 10 mX10_sailAs 5 := ⟨okX10_sailAs, rfl, w749, w605, _, rfl, w606⟩
theorem viX11_220_11 : ViOk RX11 220 11 mX11_keepHomes 1 := ⟨okX11_keepHomes, rfl, w754, w756, _, rfl, w20⟩
theorem viX11_223_11 : ViOk RX11 223 11 mX11_wouldTake 2 := ⟨okX11_wouldTake, rfl, w759, w761, _, rfl, w21⟩
theorem viX11_235_10 : ViOk RX11 235 10 mX10_shipDays 0 := ⟨okX10_shipDays, rfl, w785, w701, _, rfl, w702⟩
theorem viX11_241_0 : ViOk RX11 241 0 mX0_keep 1 := ⟨okX0_keep, rfl, w790, w791, _, rfl, w792⟩
theorem viX11_244_7 : ViOk RX11 244 7 mX7_become 2 := ⟨okX7_become, rfl, w803, w804, _, rfl, w805⟩
theorem viX11_248_7 : ViOk RX11 248 7 mX7_cut 1 := ⟨okX7_cut, rfl, w812, w813, _, rfl, w814⟩
theorem viX11_254_7 : ViOk RX11 254 7 mX7_hasRoom 2 := ⟨okX7_hasRoom, rfl, w820, w821, _, rfl, w822⟩
theorem viX11_263_11 : ViOk RX11 263 11 mX11_man 2 := ⟨okX11_man, rfl, w828, w307, _, rfl, w308⟩
theorem viX2_22_2 : ViOk RX2 22 2 mX2_value 4 := ⟨okX2_value, rfl, w670, w672, _, rfl, w16⟩
theorem viX8_32_8 : ViOk RX8 32 8 mX8_next 0 := ⟨okX8_next, rfl, w473, w475, _, rfl, w3⟩
theorem viX8_35_8 : ViOk RX8 35 8 mX8_skip 1 := ⟨okX8_skip, rfl, w557, w559, _, rfl, w7⟩
theorem viX8_39_8 : ViOk RX8 39 8 mX8_level 2 := ⟨okX8_level, rfl, w561, w563, _, rfl, w8⟩
theorem viX8_46_8 : ViOk RX8 46 8 mX8_one 1 := ⟨okX8_one, rfl, w565, w567, _, rfl, w9⟩
theorem viX8_49_8 : ViOk RX8 49 8 mX8_put 1 := ⟨okX8_put, rfl, w569, w571, _, rfl, w10⟩
theorem viX8_62_8 : ViOk RX8 62 8 mX8_word 0 := ⟨okX8_word, rfl, w480, w482, _, rfl, w4⟩
theorem viX8_69_8 : ViOk RX8 69 8 mX8_number 0 := ⟨okX8_number, rfl, w550, w552, _, rfl, w6⟩
theorem viX8_77_8 : ViOk RX8 77 8 mX8_reads 1 := ⟨okX8_reads, rfl, w485, w487, _, rfl, w5⟩
theorem svX8_101 : SvOk RX8 101 mJ0_length_8abf5 0 := ⟨okJ0_length_8abf5, rfl, w489, w490, w491⟩
theorem svX8_105 : SvOk RX8 105 mJ0_charAt_5068e 1 := ⟨okJ0_charAt_5068e, rfl, w499, w500, w501⟩
theorem viX9_36_9 : ViOk RX9 36 9 mX9_toldFor 1 := ⟨okX9_toldFor, rfl, w656, w454, _, rfl, w1241⟩
theorem viX10_45_10 : ViOk RX10 45 10 mX10_sailAs 5 := ⟨okX10_sailAs, rfl, w604, w605, _, rfl, w606⟩
theorem viX10_80_10 : ViOk RX10 80 10 mX10_carryOver 0 := ⟨okX10_carryOver, rfl, w609, w611, _, rfl, w11⟩
theorem viX10_83_10 : ViOk RX10 83 10 mX10_living 1 := ⟨okX10_living, rfl, w616, w617, _, rfl, w618⟩
theorem viX10_96_10 : ViOk RX10 96 10 mX10_drink 0 := ⟨okX10_drink, rfl, w621, w623, _, rfl, w12⟩
theorem viX10_99_10 : ViOk RX10 99 10 mX10_rowAndLive 0 := ⟨okX10_rowAndLive, rfl, w658, w660, _, rfl, w14⟩
theorem viX10_102_10 : ViOk RX10 102 10 mX10_sumHomes 0 := ⟨okX10_sumHomes, rfl, w692, w694, _, rfl, w18⟩
theorem viX10_117_10 : ViOk RX10 117 10 mX10_drinks 1 := ⟨okX10_drinks, rfl, w625, w627, _, rfl, w13⟩
theorem vuX10_124_1 : VuOk RX10 124 1 yX6_share mX1_share 2 := ⟨okX1_share, rfl, w629, w632, w630, ⟨_, _, _, w657⟩, ⟨by decide, by decide⟩, w634, _, rfl, w633⟩
theorem vuX10_124_3 : VuOk RX10 124 3 yX6_share mX3_share 2 := ⟨okX3_share, rfl, w629, w632, w630, ⟨_, _, _, w657⟩, ⟨by decide, by decide⟩, w644, _, rfl, w643⟩
theorem vuX10_124_4 : VuOk RX10 124 4 yX6_share mX4_share 2 := ⟨okX4_share, rfl, w629, w632, w630, ⟨_, _, _, w657⟩, ⟨by decide, by decide⟩, w647, _, rfl, w651⟩
theorem vuX10_124_5 : VuOk RX10 124 5 yX6_share mX5_share 2 := ⟨okX5_share, rfl, w629, w632, w630, ⟨_, _, _, w657⟩, ⟨by decide, by decide⟩, w637, _, rfl, w652⟩
theorem viX10_124_6 : ViOk RX10 124 6 mX6_share 2 := ⟨okX6_share, rfl, w629, w630, _, rfl, w631⟩
theorem vuX10_124_9 : VuOk RX10 124 9 yX6_share mX9_share 2 := ⟨okX9_share, rfl, w629, w632, w630, ⟨_, _, _, w657⟩, ⟨by decide, by decide⟩, w654, _, rfl, w653⟩
theorem viX10_134_10 : ViOk RX10 134 10 mX10_findFacts 1 := ⟨okX10_findFacts, rfl, w662, w664, _, rfl, w15⟩
theorem viX10_138_2 : ViOk RX10 138 2 mX2_row 2 := ⟨okX2_row, rfl, w666, w667, _, rfl, w668⟩
theorem viX10_147_2 : ViOk RX10 147 2 mX2_need 2 := ⟨okX2_need, rfl, w684, w685, _, rfl, w686⟩
theorem viX10_150_10 : ViOk RX10 150 10 mX10_fromHidden 1 := ⟨okX10_fromHidden, rfl, w688, w690, _, rfl, w17⟩
theorem viX10_167_10 : ViOk RX10 167 10 mX10_shipDays 0 := ⟨okX10_shipDays, rfl, w700, w701, _, rfl, w702⟩
theorem viX10_176_10 : ViOk RX10 176 10 mX10_addToLiving 2 := ⟨okX10_addToLiving, rfl, w705, w707, _, rfl, w19⟩
theorem viL_13_11 : ViOk RL 13 11 mX11_man 2 := ⟨okX11_man, rfl, w306, w307, _, rfl, w308⟩
theorem viL_17_12 : ViOk RL 17 12 mX12_man 2 := ⟨okX12_man, rfl, w1007, w1008, _, rfl, w1009⟩
theorem viL_18_11 : ViOk RL 18 11 mX11_set 3 := ⟨okX11_set, rfl, w316, w317, _, rfl, w318⟩
theorem viL_22_12 : ViOk RL 22 12 mX12_set 3 := ⟨okX12_set, rfl, w1014, w1015, _, rfl, w1016⟩
theorem viL_23_11 : ViOk RL 23 11 mX11_boat 2 := ⟨okX11_boat, rfl, w327, w328, _, rfl, w329⟩
theorem viL_26_12 : ViOk RL 26 12 mX12_boat 2 := ⟨okX12_boat, rfl, w1022, w1023, _, rfl, w1024⟩
theorem viL_27_11 : ViOk RL 27 11 mX11_day 3 := ⟨okX11_day, rfl, w335, w336, _, rfl, w337⟩
theorem viL_30_12 : ViOk RL 30 12 mX12_day 3 := ⟨okX12_day, rfl, w1030, w1031, _, rfl, w1032⟩
theorem viL_31_11 : ViOk RL 31 11 mX11_boatTold 1 := ⟨okX11_boatTold, rfl, w339, w340, _, rfl, w341⟩
theorem viL_35_12 : ViOk RL 35 12 mX12_boatTold 1 := ⟨okX12_boatTold, rfl, w1034, w1027, _, rfl, w1028⟩
theorem viL_36_11 : ViOk RL 36 11 mX11_rule 3 := ⟨okX11_rule, rfl, w343, w344, _, rfl, w345⟩
theorem viL_39_12 : ViOk RL 39 12 mX12_rule 3 := ⟨okX12_rule, rfl, w1035, w1036, _, rfl, w1037⟩
theorem viL_40_11 : ViOk RL 40 11 mX11_ruleTold 2 := ⟨okX11_ruleTold, rfl, w437, w438, _, rfl, w439⟩
theorem viL_43_12 : ViOk RL 43 12 mX12_ruleTold 2 := ⟨okX12_ruleTold, rfl, w1039, w1040, _, rfl, w1041⟩
theorem viL_46_11 : ViOk RL 46 11 mX11_feed 2 := ⟨okX11_feed, rfl, w457, w458, _, rfl, w459⟩
theorem viL_50_12 : ViOk RL 50 12 mX12_feed 2 := ⟨okX12_feed, rfl, w1047, w1048, _, rfl, w1049⟩
theorem viL_51_11 : ViOk RL 51 11 mX11_text 0 := ⟨okX11_text, rfl, w465, w466, _, rfl, w467⟩
theorem viL_55_12 : ViOk RL 55 12 mX12_text 0 := ⟨okX12_text, rfl, w1052, w1053, _, rfl, w1054⟩
theorem viL_56_11 : ViOk RL 56 11 mX11_force 1 := ⟨okX11_force, rfl, w588, w589, _, rfl, w590⟩
theorem viL_59_12 : ViOk RL 59 12 mX12_force 1 := ⟨okX12_force, rfl, w1096, w1097, _, rfl, w1098⟩
theorem viL_60_11 : ViOk RL 60 11 mX11_home 3 := ⟨okX11_home, rfl, w592, w593, _, rfl, w594⟩
theorem viL_64_12 : ViOk RL 64 12 mX12_home 3 := ⟨okX12_home, rfl, w1100, w1101, _, rfl, w1102⟩
theorem viL_65_11 : ViOk RL 65 11 mX11_mean 3 := ⟨okX11_mean, rfl, w716, w717, _, rfl, w718⟩
theorem viL_68_12 : ViOk RL 68 12 mX12_mean 3 := ⟨okX12_mean, rfl, w1151, w1152, _, rfl, w1153⟩
theorem viL_69_11 : ViOk RL 69 11 mX11_told 4 := ⟨okX11_told, rfl, w727, w728, _, rfl, w729⟩
theorem viL_73_12 : ViOk RL 73 12 mX12_told 4 := ⟨okX12_told, rfl, w1159, w1160, _, rfl, w1161⟩
theorem viL_74_11 : ViOk RL 74 11 mX11_ends 2 := ⟨okX11_ends, rfl, w731, w732, _, rfl, w733⟩
theorem viL_77_12 : ViOk RL 77 12 mX12_ends 2 := ⟨okX12_ends, rfl, w1163, w1164, _, rfl, w1165⟩
theorem viL_78_11 : ViOk RL 78 11 mX11_best 1 := ⟨okX11_best, rfl, w740, w741, _, rfl, w742⟩
theorem viL_81_12 : ViOk RL 81 12 mX12_best 1 := ⟨okX12_best, rfl, w1167, w1168, _, rfl, w1169⟩
theorem viL_82_11 : ViOk RL 82 11 mX11_rations 1 := ⟨okX11_rations, rfl, w745, w746, _, rfl, w747⟩
theorem viL_85_12 : ViOk RL 85 12 mX12_rations 1 := ⟨okX12_rations, rfl, w1171, w1172, _, rfl, w1173⟩
theorem viL_86_11 : ViOk RL 86 11 mX11_take 2 := ⟨okX11_take, rfl, w750, w751, _, rfl, w752⟩
theorem viL_89_12 : ViOk RL 89 12 mX12_take 2 := ⟨okX12_take, rfl, w1175, w1176, _, rfl, w1177⟩
theorem viL_90_11 : ViOk RL 90 11 mX11_takes 1 := ⟨okX11_takes, rfl, w763, w764, _, rfl, w765⟩
theorem viL_93_12 : ViOk RL 93 12 mX12_takes 1 := ⟨okX12_takes, rfl, w1187, w1188, _, rfl, w1189⟩
theorem viL_94_11 : ViOk RL 94 11 mX11_hid 4 := ⟨okX11_hid, rfl, w773, w774, _, rfl, w775⟩
theorem viL_98_12 : ViOk RL 98 12 mX12_hid 4 := ⟨okX12_hid, rfl, w1194, w1195, _, rfl, w1196⟩
theorem viL_99_11 : ViOk RL 99 11 mX11_judge 3 := ⟨okX11_judge, rfl, w777, w778, _, rfl, w779⟩
theorem viL_102_12 : ViOk RL 102 12 mX12_judge 3 := ⟨okX12_judge, rfl, w1198, w1199, _, rfl, w1200⟩
theorem viL_103_11 : ViOk RL 103 11 mX11_until 2 := ⟨okX11_until, rfl, w781, w782, _, rfl, w783⟩
theorem viL_106_12 : ViOk RL 106 12 mX12_until 2 := ⟨okX12_until, rfl, w1202, w1203, _, rfl, w1204⟩
theorem viL_107_11 : ViOk RL 107 11 mX11_image 0 := ⟨okX11_image, rfl, w786, w787, _, rfl, w788⟩
theorem viL_110_12 : ViOk RL 110 12 mX12_image 0 := ⟨okX12_image, rfl, w1206, w1207, _, rfl, w1208⟩
theorem viL_111_11 : ViOk RL 111 11 mX11_back 0 := ⟨okX11_back, rfl, w795, w796, _, rfl, w797⟩
theorem viL_114_12 : ViOk RL 114 12 mX12_back 0 := ⟨okX12_back, rfl, w1210, w1211, _, rfl, w1212⟩
theorem viL_115_11 : ViOk RL 115 11 mX11_sheet 3 := ⟨okX11_sheet, rfl, w799, w800, _, rfl, w801⟩
theorem viL_118_12 : ViOk RL 118 12 mX12_sheet 3 := ⟨okX12_sheet, rfl, w1214, w1215, _, rfl, w1216⟩
theorem viL_119_11 : ViOk RL 119 11 mX11_cell 3 := ⟨okX11_cell, rfl, w808, w809, _, rfl, w810⟩
theorem viL_122_12 : ViOk RL 122 12 mX12_cell 3 := ⟨okX12_cell, rfl, w1218, w1219, _, rfl, w1220⟩
theorem viL_123_11 : ViOk RL 123 11 mX11_copy 5 := ⟨okX11_copy, rfl, w816, w817, _, rfl, w818⟩
theorem viL_127_12 : ViOk RL 127 12 mX12_copy 5 := ⟨okX12_copy, rfl, w1222, w1223, _, rfl, w1224⟩
theorem viL_128_11 : ViOk RL 128 11 mX11_men 4 := ⟨okX11_men, rfl, w824, w825, _, rfl, w826⟩
theorem viL_131_12 : ViOk RL 131 12 mX12_men 4 := ⟨okX12_men, rfl, w1226, w1227, _, rfl, w1228⟩
theorem viL_132_11 : ViOk RL 132 11 mX11_taken 2 := ⟨okX11_taken, rfl, w829, w830, _, rfl, w831⟩
theorem viL_135_12 : ViOk RL 135 12 mX12_taken 2 := ⟨okX12_taken, rfl, w1231, w1232, _, rfl, w1233⟩
theorem viX12_125_12 : ViOk RX12 125 12 mX12_first 5 := ⟨okX12_first, rfl, w854, w856, _, rfl, w22⟩
theorem viX12_140_12 : ViOk RX12 140 12 mX12_isMan 1 := ⟨okX12_isMan, rfl, w1018, w1020, _, rfl, w23⟩
theorem viX12_144_12 : ViOk RX12 144 12 mX12_boatTold 1 := ⟨okX12_boatTold, rfl, w1026, w1027, _, rfl, w1028⟩
theorem viX12_154_12 : ViOk RX12 154 12 mX12_isRule 1 := ⟨okX12_isRule, rfl, w1043, w1045, _, rfl, w24⟩
theorem viX12_171_12 : ViOk RX12 171 12 mX12_letters 0 := ⟨okX12_letters, rfl, w1060, w1062, _, rfl, w26⟩
theorem viX12_187_12 : ViOk RX12 187 12 mX12_puts 1 := ⟨okX12_puts, rfl, w1069, w1071, _, rfl, w28⟩
theorem viX12_191_12 : ViOk RX12 191 12 mX12_holds 1 := ⟨okX12_holds, rfl, w1084, w1086, _, rfl, w31⟩
theorem viX12_194_12 : ViOk RX12 194 12 mX12_unwinds 1 := ⟨okX12_unwinds, rfl, w1073, w1075, _, rfl, w29⟩
theorem viX12_197_12 : ViOk RX12 197 12 mX12_next 0 := ⟨okX12_next, rfl, w1056, w1058, _, rfl, w25⟩
theorem viX12_201_12 : ViOk RX12 201 12 mX12_opensOne 1 := ⟨okX12_opensOne, rfl, w1080, w1082, _, rfl, w30⟩
theorem viX12_204_12 : ViOk RX12 204 12 mX12_signOf 0 := ⟨okX12_signOf, rfl, w1088, w1090, _, rfl, w32⟩
theorem viX12_208_12 : ViOk RX12 208 12 mX12_between 1 := ⟨okX12_between, rfl, w1092, w1094, _, rfl, w33⟩
theorem viX12_211_12 : ViOk RX12 211 12 mX12_eRead 0 := ⟨okX12_eRead, rfl, w1064, w1066, _, rfl, w27⟩
theorem viX12_225_12 : ViOk RX12 225 12 mX12_living 1 := ⟨okX12_living, rfl, w1117, w1119, _, rfl, w37⟩
theorem viX12_228_12 : ViOk RX12 228 12 mX12_drinkers 2 := ⟨okX12_drinkers, rfl, w1121, w1123, _, rfl, w38⟩
theorem viX12_232_12 : ViOk RX12 232 12 mX12_share 5 := ⟨okX12_share, rfl, w1125, w1127, _, rfl, w39⟩
theorem viX12_236_12 : ViOk RX12 236 12 mX12_worth 2 := ⟨okX12_worth, rfl, w1132, w1134, _, rfl, w40⟩
theorem viX12_239_12 : ViOk RX12 239 12 mX12_all 0 := ⟨okX12_all, rfl, w1109, w1111, _, rfl, w35⟩
theorem viX12_242_12 : ViOk RX12 242 12 mX12_goes 4 := ⟨okX12_goes, rfl, w1113, w1115, _, rfl, w36⟩
theorem viX12_248_12 : ViOk RX12 248 12 mX12_below 0 := ⟨okX12_below, rfl, w1143, w1145, _, rfl, w42⟩
theorem viX12_253_12 : ViOk RX12 253 12 mX12_goesPlain 1 := ⟨okX12_goesPlain, rfl, w1105, w1107, _, rfl, w34⟩
theorem viX12_256_12 : ViOk RX12 256 12 mX12_homeOf 1 := ⟨okX12_homeOf, rfl, w1139, w1141, _, rfl, w41⟩
theorem viX12_264_12 : ViOk RX12 264 12 mX12_meanOf 2 := ⟨okX12_meanOf, rfl, w1155, w1157, _, rfl, w43⟩
theorem viX12_268_12 : ViOk RX12 268 12 mX12_keeps 1 := ⟨okX12_keeps, rfl, w1179, w1181, _, rfl, w44⟩
theorem viX12_271_12 : ViOk RX12 271 12 mX12_would 2 := ⟨okX12_would, rfl, w1183, w1185, _, rfl, w45⟩
theorem viX12_300_12 : ViOk RX12 300 12 mX12_man 2 := ⟨okX12_man, rfl, w1230, w1008, _, rfl, w1009⟩
theorem svJ0_335 : SvOk RJ0 335 mJ0_coder_7d493 0 := ⟨okJ0_coder_7d493, rfl, w493, w494, w495⟩
theorem svJ0_492 : SvOk RJ0 492 mJ0_isLatin1_aae02 0 := ⟨okJ0_isLatin1_aae02, rfl, w503, w504, w505⟩
theorem kcX12_124 : Cond.constant RX12 124 (100003) ∈ WS := w853
theorem kcX12_129 : Cond.constant RX12 129 (100004) ∈ WS := w858
theorem kcX12_200 : Cond.constant RX12 200 (100000) ∈ WS := w1068
theorem kcX11_175 : Cond.constantLong RX11 175 (-4611686018427387904) ∈ WS := w599
theorem kcX11_214 : Cond.constantLong RX11 214 (-1) ∈ WS := w744
theorem kcX11_289 : Cond.constantLong RX11 289 (1000000000000) ∈ WS := w712
theorem kcX10_165 : Cond.constantLong RX10 165 (1000000000000) ∈ WS := w699
theorem kcX10_171 : Cond.constantLong RX10 171 (10) ∈ WS := w704
theorem kcL_44 : Cond.constantLong RL 44 (4294967295) ∈ WS := w1238
theorem kcX12_86 : Cond.constantLong RX12 86 (1852138852) ∈ WS := w842
theorem kcX12_88 : Cond.constantLong RX12 88 (7499639) ∈ WS := w843
theorem kcX12_90 : Cond.constantLong RX12 90 (495874699877) ∈ WS := w844
theorem kcX12_92 : Cond.constantLong RX12 92 (1919907699) ∈ WS := w845
theorem kcX12_94 : Cond.constantLong RX12 94 (6578553) ∈ WS := w846
theorem kcX12_96 : Cond.constantLong RX12 96 (495672455781) ∈ WS := w847
theorem kcX12_98 : Cond.constantLong RX12 98 (418430678629) ∈ WS := w848
theorem kcX12_100 : Cond.constantLong RX12 100 (1836020325) ∈ WS := w849
theorem kcX12_102 : Cond.constantLong RX12 102 (28530) ∈ WS := w850
theorem kcX12_104 : Cond.constantLong RX12 104 (6385252) ∈ WS := w851
theorem kcX12_106 : Cond.constantLong RX12 106 (7237492) ∈ WS := w852
theorem kcX12_157 : Cond.constantLong RX12 157 (255) ∈ WS := w1051
theorem kcX12_246 : Cond.constantLong RX12 246 (10) ∈ WS := w1147
theorem kcX12_251 : Cond.constantLong RX12 251 (-4611686018427387904) ∈ WS := w1104
theorem kcJ6_265 : Cond.constant RJ6 265 (1431655765) ∈ WS := w770
theorem kcJ6_266 : Cond.constant RJ6 266 (858993459) ∈ WS := w771
theorem kcJ6_267 : Cond.constant RJ6 267 (252645135) ∈ WS := w772
theorem clX10_9 : Cond.classLink RX10 9 "[[I" ∈ WS := w186
theorem nrX11_9 : NRef RX11 9 6 2 := ⟨_, _, _, clX6, w76, w432, w54⟩
theorem nrX11_15 : NRef RX11 15 2 3 := ⟨_, _, _, clX2, w78, w120, w49⟩
theorem nrX11_21 : NRef RX11 21 8 8 := ⟨_, _, _, clX8, w80, w81, w48⟩
theorem nrX11_28 : NRef RX11 28 7 3 := ⟨_, _, _, clX7, w118, w255, w52⟩
theorem nrX11_45 : NRef RX11 45 0 7 := ⟨_, _, _, clX0, w137, w138, w50⟩
theorem nrX11_54 : NRef RX11 54 10 17 := ⟨_, _, _, clX10, w180, w181, w51⟩
theorem nrX11_270 : NRef RX11 270 5 2 := ⟨_, _, _, clX5, w362, w363, w55⟩
theorem nrX11_274 : NRef RX11 274 4 2 := ⟨_, _, _, clX4, w387, w388, w56⟩
theorem nrX11_277 : NRef RX11 277 3 2 := ⟨_, _, _, clX3, w396, w397, w57⟩
theorem nrX11_280 : NRef RX11 280 9 3 := ⟨_, _, _, clX9, w405, w406, w58⟩
theorem nrX11_285 : NRef RX11 285 1 2 := ⟨_, _, _, clX1, w423, w424, w61⟩
theorem nrL_7 : NRef RL 7 11 10 := ⟨_, _, _, clX11, w68, w69, w47⟩
theorem nrL_10 : NRef RL 10 12 49 := ⟨_, _, _, clX12, w836, w837, w53⟩
theorem sf_value : Cond.fieldLink RJ0 9 RJ0 "value" "[B" ∈ WS := w1249
theorem sf_coder : Cond.fieldLink RJ0 15 RJ0 "coder" "B" ∈ WS := w1250
theorem ac_int : Cond.arrayClass .int ∈ WS := w117
theorem ac_long : Cond.arrayClass .long ∈ WS := w136
theorem ac_byte : Cond.arrayClass .byte ∈ WS := w116
theorem ob_i : Cond.instanceMethod Lib.objectInit ∈ WS := w74
