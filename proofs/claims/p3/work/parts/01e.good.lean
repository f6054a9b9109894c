set_option maxRecDepth 20000 in
theorem ggX0_crc_X4_at : GoodIn wsX0_crc wsX4_at := goodIn_r _ [6, 7, 8, 9, 10] (by decide +kernel) (by decide +kernel)
set_option maxRecDepth 20000 in
theorem gX0_crc_X4_at : GoodIn wsX0_crc (wsV RX0 7 RX4 yX4_at wsX4_at) := goodIn_app (goodIn_of _ (by decide +kernel)) ggX0_crc_X4_at
set_option maxRecDepth 20000 in
theorem ggX0_foldedSize_X0_nextGroup : GoodIn wsX0_foldedSize wsX0_nextGroup := goodIn_r _ [11, 12, 13, 3, 14, 15, 16, 17, 18, 19, 20, 21, 22, 23] (by decide +kernel) (by decide +kernel)
set_option maxRecDepth 20000 in
theorem gX0_foldedSize_X0_nextGroup : GoodIn wsX0_foldedSize (va_wsS RX0 19 yX0_nextGroup wsX0_nextGroup) := goodIn_app (goodIn_of _ (by decide +kernel)) ggX0_foldedSize_X0_nextGroup
set_option maxRecDepth 20000 in
theorem ggX0_fold_X0_nextGroup : GoodIn wsX0_fold wsX0_nextGroup := goodIn_r _ [11, 12, 13, 3, 14, 15, 16, 17, 18, 19, 20, 21, 42, 43] (by decide +kernel) (by decide +kernel)
set_option maxRecDepth 20000 in
theorem gX0_fold_X0_nextGroup : GoodIn wsX0_fold (va_wsS RX0 19 yX0_nextGroup wsX0_nextGroup) := goodIn_app (goodIn_of _ (by decide +kernel)) ggX0_fold_X0_nextGroup
set_option maxRecDepth 20000 in
theorem ggX0_fold_X4_push : GoodIn wsX0_fold wsX4_push := goodIn_r _ [25, 20, 21, 42, 43] (by decide +kernel) (by decide +kernel)
set_option maxRecDepth 20000 in
theorem gX0_fold_X4_push : GoodIn wsX0_fold (wsV RX0 32 RX4 yX4_push wsX4_push) := goodIn_app (goodIn_of _ (by decide +kernel)) ggX0_fold_X4_push
set_option maxRecDepth 20000 in
theorem ggX0_fold_X4_at : GoodIn wsX0_fold wsX4_at := goodIn_r _ [19, 20, 21, 42, 43] (by decide +kernel) (by decide +kernel)
set_option maxRecDepth 20000 in
theorem gX0_fold_X4_at : GoodIn wsX0_fold (wsV RX0 7 RX4 yX4_at wsX4_at) := goodIn_app (goodIn_of _ (by decide +kernel)) ggX0_fold_X4_at
set_option maxRecDepth 20000 in
theorem ggX0_fold_X4_append : GoodIn wsX0_fold wsX4_append := goodIn_r _ [29, 21, 20, 30, 31, 32, 33, 34, 35, 36, 18, 37, 38, 39, 40, 41, 42, 43] (by decide +kernel) (by decide +kernel)
set_option maxRecDepth 20000 in
theorem gX0_fold_X4_append : GoodIn wsX0_fold (wsV RX0 36 RX4 yX4_append wsX4_append) := goodIn_app (goodIn_of _ (by decide +kernel)) ggX0_fold_X4_append
set_option maxRecDepth 20000 in
theorem ggX0_nextGroup_X4_at : GoodIn wsX0_nextGroup wsX4_at := goodIn_r _ [9, 10, 11, 12, 13] (by decide +kernel) (by decide +kernel)
set_option maxRecDepth 20000 in
theorem gX0_nextGroup_X4_at : GoodIn wsX0_nextGroup (wsV RX0 7 RX4 yX4_at wsX4_at) := goodIn_app (goodIn_of _ (by decide +kernel)) ggX0_nextGroup_X4_at
set_option maxRecDepth 20000 in
theorem ggX0_unfold_X4_holds : GoodIn wsX0_unfold wsX4_holds := goodIn_r _ [5, 6, 34, 35] (by decide +kernel) (by decide +kernel)
set_option maxRecDepth 20000 in
theorem gX0_unfold_X4_holds : GoodIn wsX0_unfold (wsV RX0 43 RX4 yX4_holds wsX4_holds) := goodIn_app (goodIn_of _ (by decide +kernel)) ggX0_unfold_X4_holds
set_option maxRecDepth 20000 in
theorem ggX0_unfold_X4_at : GoodIn wsX0_unfold wsX4_at := goodIn_r _ [10, 6, 11, 34, 35] (by decide +kernel) (by decide +kernel)
set_option maxRecDepth 20000 in
theorem gX0_unfold_X4_at : GoodIn wsX0_unfold (wsV RX0 7 RX4 yX4_at wsX4_at) := goodIn_app (goodIn_of _ (by decide +kernel)) ggX0_unfold_X4_at
set_option maxRecDepth 20000 in
theorem ggX0_unfold_X4_room : GoodIn wsX0_unfold wsX4_room := goodIn_r _ [15, 11, 6, 34, 35] (by decide +kernel) (by decide +kernel)
set_option maxRecDepth 20000 in
theorem gX0_unfold_X4_room : GoodIn wsX0_unfold (wsV RX0 47 RX4 yX4_room wsX4_room) := goodIn_app (goodIn_of _ (by decide +kernel)) ggX0_unfold_X4_room
set_option maxRecDepth 20000 in
theorem ggX0_unfold_X4_append : GoodIn wsX0_unfold wsX4_append := goodIn_r _ [19, 11, 6, 20, 21, 22, 23, 24, 2, 3, 4, 5, 25, 13, 14, 15, 34, 35] (by decide +kernel) (by decide +kernel)
set_option maxRecDepth 20000 in
theorem gX0_unfold_X4_append : GoodIn wsX0_unfold (wsV RX0 36 RX4 yX4_append wsX4_append) := goodIn_app (goodIn_of _ (by decide +kernel)) ggX0_unfold_X4_append
set_option maxRecDepth 20000 in
theorem ggX0_unfold_X0_repeat : GoodIn wsX0_unfold wsX0_repeat := goodIn_r _ [29, 30, 31, 32, 4, 33, 6, 11, 34, 35] (by decide +kernel) (by decide +kernel)
set_option maxRecDepth 20000 in
theorem gX0_unfold_X0_repeat : GoodIn wsX0_unfold (va_wsS RX0 51 yX0_repeat wsX0_repeat) := goodIn_app (goodIn_of _ (by decide +kernel)) ggX0_unfold_X0_repeat
set_option maxRecDepth 20000 in
theorem ggX0_repeat_X4_push : GoodIn wsX0_repeat wsX4_push := goodIn_r _ [5, 6, 7, 8, 9] (by decide +kernel) (by decide +kernel)
set_option maxRecDepth 20000 in
theorem gX0_repeat_X4_push : GoodIn wsX0_repeat (wsV RX0 32 RX4 yX4_push wsX4_push) := goodIn_app (goodIn_of _ (by decide +kernel)) ggX0_repeat_X4_push
set_option maxRecDepth 20000 in
theorem ggX1_init_X4_init : GoodIn wsX1_init wsX4_init := goodIn_r _ [10, 11, 2, 3, 12, 13, 14, 15, 16, 17, 18, 19] (by decide +kernel) (by decide +kernel)
set_option maxRecDepth 20000 in
theorem gX1_init_X4_init : GoodIn wsX1_init (wsX4_init) := ggX1_init_X4_init
set_option maxRecDepth 20000 in
theorem ggX1_localSize_X4_size : GoodIn wsX1_localSize wsX4_size := goodIn_r _ [7, 8, 14, 15] (by decide +kernel) (by decide +kernel)
set_option maxRecDepth 20000 in
theorem gX1_localSize_X4_size : GoodIn wsX1_localSize (wsV RX1 27 RX4 yX4_size wsX4_size) := goodIn_app (goodIn_of _ (by decide +kernel)) ggX1_localSize_X4_size
set_option maxRecDepth 20000 in
theorem ggX1_setName_X4_shorten : GoodIn wsX1_setName wsX4_shorten := goodIn_r _ [6, 7, 30, 31] (by decide +kernel) (by decide +kernel)
set_option maxRecDepth 20000 in
theorem gX1_setName_X4_shorten : GoodIn wsX1_setName (wsV RX1 30 RX4 yX4_shorten wsX4_shorten) := goodIn_app (goodIn_of _ (by decide +kernel)) ggX1_setName_X4_shorten
set_option maxRecDepth 20000 in
theorem ggX1_setName_X4_append : GoodIn wsX1_setName wsX4_append := goodIn_r _ [11, 12, 7, 13, 14, 15, 16, 17, 18, 19, 5, 20, 21, 22, 23, 24, 30, 31] (by decide +kernel) (by decide +kernel)
set_option maxRecDepth 20000 in
theorem gX1_setName_X4_append : GoodIn wsX1_setName (wsV RX1 34 RX4 yX4_append wsX4_append) := goodIn_app (goodIn_of _ (by decide +kernel)) ggX1_setName_X4_append
set_option maxRecDepth 20000 in
theorem ggX2_parse_X4_holds : GoodIn wsX2_parse wsX4_holds := goodIn_r _ [10, 11, 28, 29] (by decide +kernel) (by decide +kernel)
set_option maxRecDepth 20000 in
theorem gX2_parse_X4_holds : GoodIn wsX2_parse (wsV RX2 9 RX4 yX4_holds wsX4_holds) := goodIn_app (goodIn_of _ (by decide +kernel)) ggX2_parse_X4_holds
set_option maxRecDepth 20000 in
theorem ggX2_parse_X4_two : GoodIn wsX2_parse wsX4_two := goodIn_r _ [15, 16, 17, 7, 8, 9, 10, 11, 28, 29] (by decide +kernel) (by decide +kernel)
set_option maxRecDepth 20000 in
theorem gX2_parse_X4_two : GoodIn wsX2_parse (wsV RX2 15 RX4 yX4_two wsX4_two) := goodIn_app (goodIn_of _ (by decide +kernel)) ggX2_parse_X4_two
set_option maxRecDepth 20000 in
theorem ggX2_parse_X4_four : GoodIn wsX2_parse wsX4_four := goodIn_r _ [21, 22, 16, 17, 7, 8, 9, 10, 11, 28, 29] (by decide +kernel) (by decide +kernel)
set_option maxRecDepth 20000 in
theorem gX2_parse_X4_four : GoodIn wsX2_parse (wsV RX2 25 RX4 yX4_four wsX4_four) := goodIn_app (goodIn_of _ (by decide +kernel)) ggX2_parse_X4_four
set_option maxRecDepth 20000 in
theorem ggX3_init_X2_init : GoodIn wsX3_init wsX2_init := goodIn_r _ [19, 20, 2, 3] (by decide +kernel) (by decide +kernel)
set_option maxRecDepth 20000 in
theorem gX3_init_X2_init_n20 : GoodIn wsX3_init (wsX2_init) := ggX3_init_X2_init
set_option maxRecDepth 20000 in
theorem ggX3_init_X4_init : GoodIn wsX3_init wsX4_init := goodIn_r _ [23, 24, 2, 3, 25, 26, 27, 28, 4, 29, 45, 46] (by decide +kernel) (by decide +kernel)
set_option maxRecDepth 20000 in
theorem gX3_init_X4_init : GoodIn wsX3_init (wsX4_init) := ggX3_init_X4_init
set_option maxRecDepth 20000 in
theorem ggX3_passes_X3_endPasses : GoodIn wsX3_passes wsX3_endPasses := goodIn_r _ [8, 9, 10, 11, 12, 13, 14, 15, 16, 17, 18, 19, 20, 21, 22, 7, 23, 24, 25, 26, 27, 28, 29, 30, 31, 32, 33, 34, 35, 36, 37, 38, 39, 40, 41, 42, 43, 44, 45, 46, 47, 48, 49, 50, 51, 52, 1, 2, 3, 155, 156, 157, 158, 159, 160, 161, 162, 163, 164, 165, 166] (by decide +kernel) (by decide +kernel)
set_option maxRecDepth 20000 in
theorem gX3_passes_X3_endPasses : GoodIn wsX3_passes (wsV RX3 51 RX3 yX3_endPasses wsX3_endPasses) := goodIn_app (goodIn_of _ (by decide +kernel)) ggX3_passes_X3_endPasses
set_option maxRecDepth 20000 in
theorem ggX3_passes_X3_centralsPass : GoodIn wsX3_passes wsX3_centralsPass := goodIn_r _ [56, 25, 24, 57, 13, 58, 59, 60, 61, 7, 62, 30, 31, 32, 17, 33, 34, 35, 36, 37, 19, 38, 39, 40, 41, 42, 43, 27, 28, 29, 63, 64, 65, 66, 67, 68, 69, 70, 71, 72, 73, 74, 75, 45, 46, 47, 48, 44, 76, 77, 78, 79, 80, 81, 82, 83, 84, 85, 86, 87, 49, 50, 51, 52, 1, 2, 3, 155, 156, 157, 158, 159, 160, 161, 162, 163, 164, 167, 168, 169, 170, 171, 165, 166] (by decide +kernel) (by decide +kernel)
set_option maxRecDepth 20000 in
theorem gX3_passes_X3_centralsPass : GoodIn wsX3_passes (wsV RX3 55 RX3 yX3_centralsPass wsX3_centralsPass) := goodIn_app (goodIn_of _ (by decide +kernel)) ggX3_passes_X3_centralsPass
set_option maxRecDepth 20000 in
theorem ggX3_passes_X3_localsPass : GoodIn wsX3_passes wsX3_localsPass := goodIn_r _ [91, 24, 58, 92, 57, 25, 93, 94, 95, 7, 96, 63, 64, 65, 66, 67, 68, 69, 70, 71, 72, 73, 27, 28, 17, 29, 19, 74, 40, 41, 42, 38, 43, 75, 45, 46, 47, 48, 44, 30, 31, 32, 33, 34, 35, 36, 37, 84, 85, 86, 87, 49, 50, 51, 52, 1, 2, 3, 97, 98, 99, 100, 155, 156, 157, 158, 159, 160, 161, 162, 163, 164, 167, 168, 169, 170, 171, 165, 166] (by decide +kernel) (by decide +kernel)
set_option maxRecDepth 20000 in
theorem gX3_passes_X3_localsPass : GoodIn wsX3_passes (wsV RX3 58 RX3 yX3_localsPass wsX3_localsPass) := goodIn_app (goodIn_of _ (by decide +kernel)) ggX3_passes_X3_localsPass
set_option maxRecDepth 20000 in
theorem ggX3_passes_X3_contentsPass : GoodIn wsX3_passes wsX3_contentsPass := goodIn_r _ [104, 24, 57, 58, 105, 92, 63, 64, 65, 66, 67, 68, 69, 70, 71, 72, 73, 27, 28, 17, 29, 19, 74, 40, 41, 42, 38, 43, 75, 45, 46, 47, 48, 106, 107, 108, 109, 110, 49, 50, 51, 7, 52, 1, 2, 3, 111, 112, 113, 114, 115, 116, 117, 118, 119, 97, 98, 99, 100, 120, 121, 122, 123, 124, 125, 126, 127, 128, 129, 130, 131, 132, 133, 134, 135, 136, 137, 35, 36, 37, 138, 139, 140, 141, 142, 143, 144, 145, 146, 14, 15, 16, 18, 147, 148, 149, 150, 151, 152, 153, 154, 155, 156, 157, 158, 159, 160, 161, 162, 163, 164, 167, 168, 169, 170, 171, 165, 166] (by decide +kernel) (by decide +kernel)
set_option maxRecDepth 20000 in
theorem gX3_passes_X3_contentsPass : GoodIn wsX3_passes (wsV RX3 61 RX3 yX3_contentsPass wsX3_contentsPass) := goodIn_app (goodIn_of _ (by decide +kernel)) ggX3_passes_X3_contentsPass
set_option maxRecDepth 20000 in
theorem ggX3_endPasses_X4_size : GoodIn wsX3_endPasses wsX4_size := goodIn_r _ [10, 11, 59, 60] (by decide +kernel) (by decide +kernel)
set_option maxRecDepth 20000 in
theorem gX3_endPasses_X4_size : GoodIn wsX3_endPasses (wsV RX3 64 RX4 yX4_size wsX4_size) := goodIn_app (goodIn_of _ (by decide +kernel)) ggX3_endPasses_X4_size
set_option maxRecDepth 20000 in
theorem ggX3_endPasses_X3_endStands : GoodIn wsX3_endPasses wsX3_endStands := goodIn_r _ [16, 17, 18, 19, 20, 21, 9, 22, 11, 23, 24, 25, 26, 27, 28, 29, 30, 31, 32, 33, 34, 35, 36, 37, 38, 39, 40, 41, 49, 50, 51, 52, 53, 54, 55, 56, 57, 58, 59, 60] (by decide +kernel) (by decide +kernel)
set_option maxRecDepth 20000 in
theorem gX3_endPasses_X3_endStands : GoodIn wsX3_endPasses (wsV RX3 77 RX3 yX3_endStands wsX3_endStands) := goodIn_app (goodIn_of _ (by decide +kernel)) ggX3_endPasses_X3_endStands
set_option maxRecDepth 20000 in
theorem ggX3_endPasses_X3_fails : GoodIn wsX3_endPasses wsX3_fails := goodIn_r _ [45, 46, 47, 48, 49, 50, 51, 52, 53, 54, 55, 56, 57, 58] (by decide +kernel) (by decide +kernel)
set_option maxRecDepth 20000 in
theorem gX3_endPasses_X3_fails : GoodIn wsX3_endPasses (wsV RX3 81 RX3 yX3_fails wsX3_fails) := goodIn_app (goodIn_of _ (by decide +kernel)) ggX3_endPasses_X3_fails
set_option maxRecDepth 20000 in
theorem ggX3_endStands_X4_holds : GoodIn wsX3_endStands wsX4_holds := goodIn_r _ [7, 8, 38, 39] (by decide +kernel) (by decide +kernel)
set_option maxRecDepth 20000 in
theorem gX3_endStands_X4_holds : GoodIn wsX3_endStands (wsV RX3 85 RX4 yX4_holds wsX4_holds) := goodIn_app (goodIn_of _ (by decide +kernel)) ggX3_endStands_X4_holds
set_option maxRecDepth 20000 in
theorem ggX3_endStands_X4_hasSignature : GoodIn wsX3_endStands wsX4_hasSignature := goodIn_r _ [12, 13, 14, 15, 6, 16, 8, 17, 38, 39] (by decide +kernel) (by decide +kernel)
set_option maxRecDepth 20000 in
theorem gX3_endStands_X4_hasSignature : GoodIn wsX3_endStands (wsV RX3 89 RX4 yX4_hasSignature wsX4_hasSignature) := goodIn_app (goodIn_of _ (by decide +kernel)) ggX3_endStands_X4_hasSignature
set_option maxRecDepth 20000 in
theorem ggX3_endStands_X4_two : GoodIn wsX3_endStands wsX4_two := goodIn_r _ [21, 17, 22, 4, 5, 6, 7, 8, 38, 39] (by decide +kernel) (by decide +kernel)
set_option maxRecDepth 20000 in
theorem gX3_endStands_X4_two : GoodIn wsX3_endStands (wsV RX3 92 RX4 yX4_two wsX4_two) := goodIn_app (goodIn_of _ (by decide +kernel)) ggX3_endStands_X4_two
set_option maxRecDepth 20000 in
theorem ggX3_endStands_X4_four : GoodIn wsX3_endStands wsX4_four := goodIn_r _ [26, 27, 17, 22, 4, 5, 6, 7, 8, 38, 39] (by decide +kernel) (by decide +kernel)
set_option maxRecDepth 20000 in
theorem gX3_endStands_X4_four : GoodIn wsX3_endStands (wsV RX3 96 RX4 yX4_four wsX4_four) := goodIn_app (goodIn_of _ (by decide +kernel)) ggX3_endStands_X4_four
set_option maxRecDepth 20000 in
theorem ggX3_centralsPass_X3_centralStands : GoodIn wsX3_centralsPass wsX3_centralStands := goodIn_r _ [10, 3, 4, 11, 12, 13, 14, 15, 16, 17, 18, 19, 20, 21, 22, 23, 24, 25, 26, 27, 28, 29, 30, 31, 32, 33, 34, 35, 36, 37, 38, 39, 40, 41, 42, 43, 44, 45, 46, 47, 48, 49, 50, 51, 52, 53, 54, 9, 55, 5, 56, 57, 58, 59, 67, 68, 69, 70, 71, 72, 73, 74, 75, 76, 77, 78, 79, 80, 81, 82, 83] (by decide +kernel) (by decide +kernel)
set_option maxRecDepth 20000 in
theorem gX3_centralsPass_X3_centralStands : GoodIn wsX3_centralsPass (wsV RX3 106 RX3 yX3_centralStands wsX3_centralStands) := goodIn_app (goodIn_of _ (by decide +kernel)) ggX3_centralsPass_X3_centralStands
set_option maxRecDepth 20000 in
theorem ggX3_centralsPass_X3_fails : GoodIn wsX3_centralsPass wsX3_fails := goodIn_r _ [63, 64, 65, 66, 67, 68, 69, 70, 71, 72, 73, 74, 75, 76] (by decide +kernel) (by decide +kernel)
set_option maxRecDepth 20000 in
theorem gX3_centralsPass_X3_fails : GoodIn wsX3_centralsPass (wsV RX3 81 RX3 yX3_fails wsX3_fails) := goodIn_app (goodIn_of _ (by decide +kernel)) ggX3_centralsPass_X3_fails
set_option maxRecDepth 20000 in
theorem ggX3_centralStands_X4_hasSignature : GoodIn wsX3_centralStands wsX4_hasSignature := goodIn_r _ [7, 8, 9, 10, 6, 11, 12, 13, 69, 70] (by decide +kernel) (by decide +kernel)
set_option maxRecDepth 20000 in
theorem gX3_centralStands_X4_hasSignature : GoodIn wsX3_centralStands (wsV RX3 89 RX4 yX4_hasSignature wsX4_hasSignature) := goodIn_app (goodIn_of _ (by decide +kernel)) ggX3_centralStands_X4_hasSignature
set_option maxRecDepth 20000 in
theorem ggX3_centralStands_X4_two : GoodIn wsX3_centralStands wsX4_two := goodIn_r _ [17, 13, 18, 19, 20, 6, 21, 12, 69, 70] (by decide +kernel) (by decide +kernel)
set_option maxRecDepth 20000 in
theorem gX3_centralStands_X4_two : GoodIn wsX3_centralStands (wsV RX3 92 RX4 yX4_two wsX4_two) := goodIn_app (goodIn_of _ (by decide +kernel)) ggX3_centralStands_X4_two
set_option maxRecDepth 20000 in
theorem ggX3_centralStands_X2_parse : GoodIn wsX3_centralStands wsX2_parse := goodIn_r _ [26, 27, 28, 29, 30, 31, 32, 19, 20, 6, 21, 12, 33, 15, 16, 17, 13, 18, 34, 35, 36, 37, 38, 64, 65, 66, 67, 68, 69, 70] (by decide +kernel) (by decide +kernel)
set_option maxRecDepth 20000 in
theorem gX3_centralStands_X2_parse : GoodIn wsX3_centralStands (wsV RX3 110 RX2 yX2_parse wsX2_parse) := goodIn_app (goodIn_of _ (by decide +kernel)) ggX3_centralStands_X2_parse
set_option maxRecDepth 20000 in
theorem ggX3_centralStands_X4_four : GoodIn wsX3_centralStands wsX4_four := goodIn_r _ [37, 38, 13, 18, 19, 20, 6, 21, 12, 69, 70] (by decide +kernel) (by decide +kernel)
set_option maxRecDepth 20000 in
theorem gX3_centralStands_X4_four : GoodIn wsX3_centralStands (wsV RX3 96 RX4 yX4_four wsX4_four) := goodIn_app (goodIn_of _ (by decide +kernel)) ggX3_centralStands_X4_four
set_option maxRecDepth 20000 in
theorem ggX3_centralStands_X4_isName : GoodIn wsX3_centralStands wsX4_isName := goodIn_r _ [43, 18, 19, 20, 6, 21, 12, 8, 9, 10, 11, 13, 69, 70] (by decide +kernel) (by decide +kernel)
set_option maxRecDepth 20000 in
theorem gX3_centralStands_X4_isName : GoodIn wsX3_centralStands (wsV RX3 113 RX4 yX4_isName wsX4_isName) := goodIn_app (goodIn_of _ (by decide +kernel)) ggX3_centralStands_X4_isName
set_option maxRecDepth 20000 in
theorem ggX3_centralStands_X3_isEarlierName : GoodIn wsX3_centralStands wsX3_isEarlierName := goodIn_r _ [48, 49, 1, 14, 15, 16, 6, 17, 13, 18, 19, 20, 21, 12, 50, 51, 52, 53, 8, 9, 10, 11, 54, 55, 56, 57, 58, 59, 60, 61, 62, 63, 64, 65, 66, 67, 68, 69, 70] (by decide +kernel) (by decide +kernel)
set_option maxRecDepth 20000 in
theorem gX3_centralStands_X3_isEarlierName : GoodIn wsX3_centralStands (wsV RX3 116 RX3 yX3_isEarlierName wsX3_isEarlierName) := goodIn_app (goodIn_of _ (by decide +kernel)) ggX3_centralStands_X3_isEarlierName
set_option maxRecDepth 20000 in
theorem ggX3_isEarlierName_X4_two : GoodIn wsX3_isEarlierName wsX4_two := goodIn_r _ [7, 8, 9, 10, 11, 6, 12, 13, 37, 38] (by decide +kernel) (by decide +kernel)
set_option maxRecDepth 20000 in
theorem gX3_isEarlierName_X4_two : GoodIn wsX3_isEarlierName (wsV RX3 92 RX4 yX4_two wsX4_two) := goodIn_app (goodIn_of _ (by decide +kernel)) ggX3_isEarlierName_X4_two
set_option maxRecDepth 20000 in
theorem ggX3_isEarlierName_X4_agrees : GoodIn wsX3_isEarlierName wsX4_agrees := goodIn_r _ [17, 9, 10, 11, 6, 12, 13, 18, 19, 20, 21, 8, 37, 38] (by decide +kernel) (by decide +kernel)
set_option maxRecDepth 20000 in
theorem gX3_isEarlierName_X4_agrees : GoodIn wsX3_isEarlierName (wsV RX3 119 RX4 yX4_agrees wsX4_agrees) := goodIn_app (goodIn_of _ (by decide +kernel)) ggX3_isEarlierName_X4_agrees
set_option maxRecDepth 20000 in
theorem ggX3_localsPass_X3_localStands : GoodIn wsX3_localsPass wsX3_localStands := goodIn_r _ [10, 4, 5, 11, 12, 13, 14, 15, 16, 17, 18, 19, 20, 21, 22, 23, 24, 25, 26, 27, 28, 29, 30, 31, 32, 33, 34, 35, 36, 37, 38, 39, 40, 41, 42, 43, 44, 45, 46, 47, 48, 49, 50, 62, 63, 64, 65, 66, 67, 68, 69, 70, 71, 72, 73, 74, 75, 76, 77, 78] (by decide +kernel) (by decide +kernel)
set_option maxRecDepth 20000 in
theorem gX3_localsPass_X3_localStands : GoodIn wsX3_localsPass (wsV RX3 123 RX3 yX3_localStands wsX3_localStands) := goodIn_app (goodIn_of _ (by decide +kernel)) ggX3_localsPass_X3_localStands
set_option maxRecDepth 20000 in
theorem ggX3_localsPass_X3_fails : GoodIn wsX3_localsPass wsX3_fails := goodIn_r _ [54, 55, 56, 57, 62, 63, 64, 65, 66, 67, 68, 69, 70, 71] (by decide +kernel) (by decide +kernel)
set_option maxRecDepth 20000 in
theorem gX3_localsPass_X3_fails : GoodIn wsX3_localsPass (wsV RX3 81 RX3 yX3_fails wsX3_fails) := goodIn_app (goodIn_of _ (by decide +kernel)) ggX3_localsPass_X3_fails
set_option maxRecDepth 20000 in
theorem ggX3_localsPass_X3_packedSize : GoodIn wsX3_localsPass wsX3_packedSize := goodIn_r _ [61, 4, 62, 63, 64, 65, 66, 67, 68, 69, 70, 71, 72, 73, 74, 75, 76] (by decide +kernel) (by decide +kernel)
set_option maxRecDepth 20000 in
theorem gX3_localsPass_X3_packedSize : GoodIn wsX3_localsPass (wsV RX3 126 RX3 yX3_packedSize wsX3_packedSize) := goodIn_app (goodIn_of _ (by decide +kernel)) ggX3_localsPass_X3_packedSize
set_option maxRecDepth 20000 in
theorem ggX3_localStands_X2_parse : GoodIn wsX3_localStands wsX2_parse := goodIn_r _ [7, 8, 9, 10, 11, 12, 13, 14, 15, 16, 17, 18, 19, 20, 21, 22, 23, 24, 25, 26, 27, 28, 29, 53, 54, 55, 56, 57, 58, 59] (by decide +kernel) (by decide +kernel)
set_option maxRecDepth 20000 in
theorem gX3_localStands_X2_parse : GoodIn wsX3_localStands (wsV RX3 110 RX2 yX2_parse wsX2_parse) := goodIn_app (goodIn_of _ (by decide +kernel)) ggX3_localStands_X2_parse
set_option maxRecDepth 20000 in
theorem ggX3_localStands_X4_four : GoodIn wsX3_localStands wsX4_four := goodIn_r _ [28, 29, 23, 24, 14, 15, 16, 17, 18, 58, 59] (by decide +kernel) (by decide +kernel)
set_option maxRecDepth 20000 in
theorem gX3_localStands_X4_four : GoodIn wsX3_localStands (wsV RX3 96 RX4 yX4_four wsX4_four) := goodIn_app (goodIn_of _ (by decide +kernel)) ggX3_localStands_X4_four
set_option maxRecDepth 20000 in
theorem ggX3_localStands_X4_hasSignature : GoodIn wsX3_localStands wsX4_hasSignature := goodIn_r _ [34, 35, 36, 37, 16, 38, 18, 23, 58, 59] (by decide +kernel) (by decide +kernel)
set_option maxRecDepth 20000 in
theorem gX3_localStands_X4_hasSignature : GoodIn wsX3_localStands (wsV RX3 89 RX4 yX4_hasSignature wsX4_hasSignature) := goodIn_app (goodIn_of _ (by decide +kernel)) ggX3_localStands_X4_hasSignature
set_option maxRecDepth 20000 in
theorem ggX3_localStands_X4_agrees : GoodIn wsX3_localStands wsX4_agrees := goodIn_r _ [42, 24, 14, 15, 16, 17, 18, 35, 36, 37, 38, 23, 58, 59] (by decide +kernel) (by decide +kernel)
set_option maxRecDepth 20000 in
theorem gX3_localStands_X4_agrees : GoodIn wsX3_localStands (wsV RX3 119 RX4 yX4_agrees wsX4_agrees) := goodIn_app (goodIn_of _ (by decide +kernel)) ggX3_localStands_X4_agrees
set_option maxRecDepth 20000 in
theorem ggX3_contentsPass_X2_parse : GoodIn wsX3_contentsPass wsX2_parse := goodIn_r _ [10, 11, 12, 13, 14, 15, 16, 17, 18, 19, 20, 21, 22, 23, 24, 25, 26, 27, 28, 29, 30, 31, 32, 111, 112, 113, 114, 115, 116, 117] (by decide +kernel) (by decide +kernel)
set_option maxRecDepth 20000 in
theorem gX3_contentsPass_X2_parse : GoodIn wsX3_contentsPass (wsV RX3 110 RX2 yX2_parse wsX2_parse) := goodIn_app (goodIn_of _ (by decide +kernel)) ggX3_contentsPass_X2_parse
set_option maxRecDepth 20000 in
theorem ggX3_contentsPass_X2_sizesFit : GoodIn wsX3_contentsPass wsX2_sizesFit := goodIn_r _ [36, 14, 37, 11, 13, 111, 112, 113, 114, 115] (by decide +kernel) (by decide +kernel)
set_option maxRecDepth 20000 in
theorem gX3_contentsPass_X2_sizesFit : GoodIn wsX3_contentsPass (wsV RX3 131 RX2 yX2_sizesFit wsX2_sizesFit) := goodIn_app (goodIn_of _ (by decide +kernel)) ggX3_contentsPass_X2_sizesFit
set_option maxRecDepth 20000 in
theorem ggX3_contentsPass_X3_fails : GoodIn wsX3_contentsPass wsX3_fails := goodIn_r _ [42, 43, 44, 45, 101, 102, 103, 104, 105, 106, 107, 108, 109, 110] (by decide +kernel) (by decide +kernel)
set_option maxRecDepth 20000 in
theorem gX3_contentsPass_X3_fails : GoodIn wsX3_contentsPass (wsV RX3 81 RX3 yX3_fails wsX3_fails) := goodIn_app (goodIn_of _ (by decide +kernel)) ggX3_contentsPass_X3_fails
set_option maxRecDepth 20000 in
theorem ggX3_contentsPass_X3_unpack : GoodIn wsX3_contentsPass wsX3_unpack := goodIn_r _ [49, 50, 2, 51, 52, 53, 19, 54, 21, 55, 56, 57, 41, 58, 59, 60, 61, 62, 26, 63, 64, 65, 66, 27, 17, 18, 20, 67, 68, 69, 70, 71, 72, 73, 74, 75, 76, 77, 78, 79, 80, 81, 82, 83, 84, 85, 86, 87, 88, 89, 90, 91, 92, 101, 102, 103, 104, 105, 106, 107, 108, 109, 110, 111, 112, 113, 114, 115, 116, 117] (by decide +kernel) (by decide +kernel)
set_option maxRecDepth 20000 in
theorem gX3_contentsPass_X3_unpack : GoodIn wsX3_contentsPass (wsV RX3 137 RX3 yX3_unpack wsX3_unpack) := goodIn_app (goodIn_of _ (by decide +kernel)) ggX3_contentsPass_X3_unpack
set_option maxRecDepth 20000 in
theorem ggX3_contentsPass_X3_crcAgrees : GoodIn wsX3_contentsPass wsX3_crcAgrees := goodIn_r _ [96, 50, 2, 89, 90, 91, 19, 92, 21, 97, 98, 73, 99, 100, 76, 77, 78, 79, 26, 101, 102, 103, 104, 105, 106, 107, 108, 109, 110, 111, 112, 113, 114, 115, 116, 117] (by decide +kernel) (by decide +kernel)
set_option maxRecDepth 20000 in
theorem gX3_contentsPass_X3_crcAgrees : GoodIn wsX3_contentsPass (wsV RX3 140 RX3 yX3_crcAgrees wsX3_crcAgrees) := goodIn_app (goodIn_of _ (by decide +kernel)) ggX3_contentsPass_X3_crcAgrees
set_option maxRecDepth 20000 in
theorem ggX3_unpack_X4_shorten : GoodIn wsX3_unpack wsX4_shorten := goodIn_r _ [7, 8, 68, 69] (by decide +kernel) (by decide +kernel)
set_option maxRecDepth 20000 in
theorem gX3_unpack_X4_shorten : GoodIn wsX3_unpack (wsV RX3 143 RX4 yX4_shorten wsX4_shorten) := goodIn_app (goodIn_of _ (by decide +kernel)) ggX3_unpack_X4_shorten
set_option maxRecDepth 20000 in
theorem ggX3_unpack_X3_packedSize : GoodIn wsX3_unpack wsX3_packedSize := goodIn_r _ [13, 2, 53, 54, 55, 56, 57, 58, 59, 60, 61, 62, 63, 64, 65, 66, 67] (by decide +kernel) (by decide +kernel)
set_option maxRecDepth 20000 in
theorem gX3_unpack_X3_packedSize : GoodIn wsX3_unpack (wsV RX3 126 RX3 yX3_packedSize wsX3_packedSize) := goodIn_app (goodIn_of _ (by decide +kernel)) ggX3_unpack_X3_packedSize
set_option maxRecDepth 20000 in
theorem ggX3_unpack_X4_append : GoodIn wsX3_unpack wsX4_append := goodIn_r _ [17, 18, 8, 19, 20, 21, 22, 23, 24, 25, 6, 26, 27, 28, 29, 30, 68, 69] (by decide +kernel) (by decide +kernel)
set_option maxRecDepth 20000 in
theorem gX3_unpack_X4_append : GoodIn wsX3_unpack (wsV RX3 150 RX4 yX4_append wsX4_append) := goodIn_app (goodIn_of _ (by decide +kernel)) ggX3_unpack_X4_append
set_option maxRecDepth 20000 in
theorem ggX3_unpack_X0_unfold : GoodIn wsX3_unpack wsX0_unfold := goodIn_r _ [34, 35, 24, 25, 6, 26, 8, 36, 37, 38, 39, 18, 40, 28, 29, 30, 41, 15, 16, 17, 19, 20, 21, 22, 23, 27, 42, 43, 33, 44, 45, 46, 47, 48, 68, 69] (by decide +kernel) (by decide +kernel)
set_option maxRecDepth 20000 in
theorem gX3_unpack_X0_unfold : GoodIn wsX3_unpack (va_wsS RX3 154 yX0_unfold wsX0_unfold) := goodIn_app (goodIn_of _ (by decide +kernel)) ggX3_unpack_X0_unfold
set_option maxRecDepth 20000 in
theorem ggX3_unpack_X4_size : GoodIn wsX3_unpack wsX4_size := goodIn_r _ [52, 8, 68, 69] (by decide +kernel) (by decide +kernel)
set_option maxRecDepth 20000 in
theorem gX3_unpack_X4_size : GoodIn wsX3_unpack (wsV RX3 64 RX4 yX4_size wsX4_size) := goodIn_app (goodIn_of _ (by decide +kernel)) ggX3_unpack_X4_size
set_option maxRecDepth 20000 in
theorem ggX3_crcAgrees_X4_size : GoodIn wsX3_crcAgrees wsX4_size := goodIn_r _ [7, 8, 34, 35] (by decide +kernel) (by decide +kernel)
set_option maxRecDepth 20000 in
theorem gX3_crcAgrees_X4_size : GoodIn wsX3_crcAgrees (wsV RX3 64 RX4 yX4_size wsX4_size) := goodIn_app (goodIn_of _ (by decide +kernel)) ggX3_crcAgrees_X4_size
set_option maxRecDepth 20000 in
theorem ggX3_crcAgrees_X0_crc : GoodIn wsX3_crcAgrees wsX0_crc := goodIn_r _ [12, 13, 14, 15, 16, 6, 17, 8, 18, 34, 35] (by decide +kernel) (by decide +kernel)
set_option maxRecDepth 20000 in
theorem gX3_crcAgrees_X0_crc : GoodIn wsX3_crcAgrees (va_wsS RX3 160 yX0_crc wsX0_crc) := goodIn_app (goodIn_of _ (by decide +kernel)) ggX3_crcAgrees_X0_crc
set_option maxRecDepth 20000 in
theorem ggX3_load_X2_parse : GoodIn wsX3_load wsX2_parse := goodIn_r _ [10, 11, 12, 13, 14, 15, 16, 17, 18, 19, 20, 21, 22, 23, 24, 25, 26, 27, 28, 29, 30, 31, 32, 133, 134, 135, 136, 137, 138, 139] (by decide +kernel) (by decide +kernel)
set_option maxRecDepth 20000 in
theorem gX3_load_X2_parse : GoodIn wsX3_load (wsV RX3 110 RX2 yX2_parse wsX2_parse) := goodIn_app (goodIn_of _ (by decide +kernel)) ggX3_load_X2_parse
set_option maxRecDepth 20000 in
theorem ggX3_load_X3_unpack : GoodIn wsX3_load wsX3_unpack := goodIn_r _ [37, 5, 3, 38, 39, 40, 19, 41, 21, 42, 43, 44, 36, 45, 46, 47, 48, 49, 26, 50, 51, 52, 53, 27, 17, 18, 20, 54, 55, 56, 57, 58, 59, 60, 61, 62, 63, 64, 65, 66, 67, 68, 69, 70, 71, 72, 73, 74, 75, 76, 77, 78, 79, 123, 124, 125, 126, 127, 128, 129, 130, 131, 132, 133, 134, 135, 136, 137, 138, 139] (by decide +kernel) (by decide +kernel)
set_option maxRecDepth 20000 in
theorem gX3_load_X3_unpack : GoodIn wsX3_load (wsV RX3 137 RX3 yX3_unpack wsX3_unpack) := goodIn_app (goodIn_of _ (by decide +kernel)) ggX3_load_X3_unpack
set_option maxRecDepth 20000 in
theorem ggX3_load_X4_size : GoodIn wsX3_load wsX4_size := goodIn_r _ [79, 21, 138, 139] (by decide +kernel) (by decide +kernel)
set_option maxRecDepth 20000 in
theorem gX3_load_X4_size : GoodIn wsX3_load (wsV RX3 64 RX4 yX4_size wsX4_size) := goodIn_app (goodIn_of _ (by decide +kernel)) ggX3_load_X4_size
set_option maxRecDepth 20000 in
theorem ggX3_load_X5_put : GoodIn wsX3_load wsX5_put := goodIn_r _ [84, 85, 86, 87, 88, 89, 90, 91, 92, 93, 39, 40, 19, 41, 21, 94, 47, 48, 49, 26, 50, 51, 52, 53, 27, 17, 18, 20, 54, 55, 56, 57, 95, 96, 97, 83, 98, 99, 100, 101, 102, 103, 104, 77, 78, 79, 105, 106, 107, 60, 108, 109, 63, 64, 65, 66, 110, 111, 112, 113, 114, 115, 116, 117, 118, 119, 120, 121, 122, 140, 141, 142, 143, 144, 145, 146, 147, 138, 139] (by decide +kernel) (by decide +kernel)
set_option maxRecDepth 20000 in
theorem gX3_load_X5_put : GoodIn wsX3_load (wsV RX3 166 RX5 yX5_put wsX5_put) := goodIn_app (goodIn_of _ (by decide +kernel)) ggX3_load_X5_put
set_option maxRecDepth 20000 in
theorem ggX3_wholeAt_X4_hasSignature : GoodIn wsX3_wholeAt wsX4_hasSignature := goodIn_r _ [6, 7, 8, 9, 5, 10, 11, 12, 114, 115] (by decide +kernel) (by decide +kernel)
set_option maxRecDepth 20000 in
theorem gX3_wholeAt_X4_hasSignature : GoodIn wsX3_wholeAt (wsV RX3 89 RX4 yX4_hasSignature wsX4_hasSignature) := goodIn_app (goodIn_of _ (by decide +kernel)) ggX3_wholeAt_X4_hasSignature
set_option maxRecDepth 20000 in
theorem ggX3_wholeAt_X2_parse : GoodIn wsX3_wholeAt wsX2_parse := goodIn_r _ [17, 18, 19, 20, 21, 22, 23, 24, 25, 5, 26, 11, 27, 28, 29, 30, 12, 31, 32, 33, 34, 35, 36, 109, 110, 111, 112, 113, 114, 115] (by decide +kernel) (by decide +kernel)
set_option maxRecDepth 20000 in
theorem gX3_wholeAt_X2_parse : GoodIn wsX3_wholeAt (wsV RX3 110 RX2 yX2_parse wsX2_parse) := goodIn_app (goodIn_of _ (by decide +kernel)) ggX3_wholeAt_X2_parse
set_option maxRecDepth 20000 in
theorem ggX3_wholeAt_X4_isName : GoodIn wsX3_wholeAt wsX4_isName := goodIn_r _ [40, 31, 24, 25, 5, 26, 11, 7, 8, 9, 10, 12, 114, 115] (by decide +kernel) (by decide +kernel)
set_option maxRecDepth 20000 in
theorem gX3_wholeAt_X4_isName : GoodIn wsX3_wholeAt (wsV RX3 113 RX4 yX4_isName wsX4_isName) := goodIn_app (goodIn_of _ (by decide +kernel)) ggX3_wholeAt_X4_isName
set_option maxRecDepth 20000 in
theorem ggX3_wholeAt_X4_size : GoodIn wsX3_wholeAt wsX4_size := goodIn_r _ [44, 11, 114, 115] (by decide +kernel) (by decide +kernel)
set_option maxRecDepth 20000 in
theorem gX3_wholeAt_X4_size : GoodIn wsX3_wholeAt (wsV RX3 64 RX4 yX4_size wsX4_size) := goodIn_app (goodIn_of _ (by decide +kernel)) ggX3_wholeAt_X4_size
set_option maxRecDepth 20000 in
theorem ggX3_wholeAt_X2_sizesFit : GoodIn wsX3_wholeAt wsX2_sizesFit := goodIn_r _ [48, 21, 49, 18, 20, 109, 110, 111, 112, 113] (by decide +kernel) (by decide +kernel)
set_option maxRecDepth 20000 in
theorem gX3_wholeAt_X2_sizesFit : GoodIn wsX3_wholeAt (wsV RX3 131 RX2 yX2_sizesFit wsX2_sizesFit) := goodIn_app (goodIn_of _ (by decide +kernel)) ggX3_wholeAt_X2_sizesFit
set_option maxRecDepth 20000 in
theorem ggX3_wholeAt_X3_unpack : GoodIn wsX3_wholeAt wsX3_unpack := goodIn_r _ [54, 55, 1, 56, 57, 58, 5, 59, 11, 60, 61, 62, 53, 63, 64, 65, 66, 67, 12, 68, 69, 70, 71, 31, 24, 25, 26, 72, 73, 74, 75, 76, 77, 78, 79, 80, 81, 8, 9, 10, 82, 83, 84, 85, 86, 87, 88, 89, 90, 41, 42, 43, 44, 99, 100, 101, 102, 103, 104, 105, 106, 107, 108, 109, 110, 111, 112, 113, 114, 115] (by decide +kernel) (by decide +kernel)
set_option maxRecDepth 20000 in
theorem gX3_wholeAt_X3_unpack : GoodIn wsX3_wholeAt (wsV RX3 137 RX3 yX3_unpack wsX3_unpack) := goodIn_app (goodIn_of _ (by decide +kernel)) ggX3_wholeAt_X3_unpack
set_option maxRecDepth 20000 in
theorem ggX3_wholeAt_X3_crcAgrees : GoodIn wsX3_wholeAt wsX3_crcAgrees := goodIn_r _ [94, 55, 1, 41, 42, 43, 5, 44, 11, 95, 96, 78, 97, 98, 81, 8, 9, 10, 12, 99, 100, 101, 102, 103, 104, 105, 106, 107, 108, 109, 110, 111, 112, 113, 114, 115] (by decide +kernel) (by decide +kernel)
set_option maxRecDepth 20000 in
theorem gX3_wholeAt_X3_crcAgrees : GoodIn wsX3_wholeAt (wsV RX3 140 RX3 yX3_crcAgrees wsX3_crcAgrees) := goodIn_app (goodIn_of _ (by decide +kernel)) ggX3_wholeAt_X3_crcAgrees
set_option maxRecDepth 20000 in
theorem ggX4_two_X4_holds : GoodIn wsX4_two wsX4_holds := goodIn_r _ [6, 7, 8, 9] (by decide +kernel) (by decide +kernel)
set_option maxRecDepth 20000 in
theorem gX4_two_X4_holds : GoodIn wsX4_two (wsV RX4 25 RX4 yX4_holds wsX4_holds) := goodIn_app (goodIn_of _ (by decide +kernel)) ggX4_two_X4_holds
set_option maxRecDepth 20000 in
theorem ggX4_four_X4_holds : GoodIn wsX4_four wsX4_holds := goodIn_r _ [7, 8, 9, 10] (by decide +kernel) (by decide +kernel)
set_option maxRecDepth 20000 in
theorem gX4_four_X4_holds : GoodIn wsX4_four (wsV RX4 25 RX4 yX4_holds wsX4_holds) := goodIn_app (goodIn_of _ (by decide +kernel)) ggX4_four_X4_holds
set_option maxRecDepth 20000 in
theorem ggX4_pushTwo_X4_push : GoodIn wsX4_pushTwo wsX4_push := goodIn_r _ [5, 6, 7, 8, 9] (by decide +kernel) (by decide +kernel)
set_option maxRecDepth 20000 in
theorem gX4_pushTwo_X4_push : GoodIn wsX4_pushTwo (wsV RX4 31 RX4 yX4_push wsX4_push) := goodIn_app (goodIn_of _ (by decide +kernel)) ggX4_pushTwo_X4_push
set_option maxRecDepth 20000 in
theorem ggX4_pushFour_X4_pushTwo : GoodIn wsX4_pushFour wsX4_pushTwo := goodIn_r _ [5, 6, 7, 8, 4, 9, 10, 11, 12, 13] (by decide +kernel) (by decide +kernel)
set_option maxRecDepth 20000 in
theorem gX4_pushFour_X4_pushTwo : GoodIn wsX4_pushFour (wsV RX4 35 RX4 yX4_pushTwo wsX4_pushTwo) := goodIn_app (goodIn_of _ (by decide +kernel)) ggX4_pushFour_X4_pushTwo
set_option maxRecDepth 20000 in
theorem ggX4_pushHighFirst_X4_push : GoodIn wsX4_pushHighFirst wsX4_push := goodIn_r _ [5, 6, 7, 8, 9] (by decide +kernel) (by decide +kernel)
set_option maxRecDepth 20000 in
theorem gX4_pushHighFirst_X4_push : GoodIn wsX4_pushHighFirst (wsV RX4 31 RX4 yX4_push wsX4_push) := goodIn_app (goodIn_of _ (by decide +kernel)) ggX4_pushHighFirst_X4_push
set_option maxRecDepth 20000 in
theorem ggX4_pushSignature_X4_push : GoodIn wsX4_pushSignature wsX4_push := goodIn_r _ [5, 6, 7, 8, 9] (by decide +kernel) (by decide +kernel)
set_option maxRecDepth 20000 in
theorem gX4_pushSignature_X4_push : GoodIn wsX4_pushSignature (wsV RX4 31 RX4 yX4_push wsX4_push) := goodIn_app (goodIn_of _ (by decide +kernel)) ggX4_pushSignature_X4_push
set_option maxRecDepth 20000 in
theorem ggX4_append_X4_holds : GoodIn wsX4_append wsX4_holds := goodIn_r _ [11, 2, 16, 17] (by decide +kernel) (by decide +kernel)
set_option maxRecDepth 20000 in
theorem gX4_append_X4_holds : GoodIn wsX4_append (wsV RX4 25 RX4 yX4_holds wsX4_holds) := goodIn_app (goodIn_of _ (by decide +kernel)) ggX4_append_X4_holds
set_option maxRecDepth 20000 in
theorem ggX4_append_X4_room : GoodIn wsX4_append wsX4_room := goodIn_r _ [15, 1, 2, 16, 17] (by decide +kernel) (by decide +kernel)
set_option maxRecDepth 20000 in
theorem gX4_append_X4_room : GoodIn wsX4_append (wsV RX4 38 RX4 yX4_room wsX4_room) := goodIn_app (goodIn_of _ (by decide +kernel)) ggX4_append_X4_room
set_option maxRecDepth 20000 in
theorem ggX4_close_X4_holds : GoodIn wsX4_close wsX4_holds := goodIn_r _ [11, 2, 12, 13] (by decide +kernel) (by decide +kernel)
set_option maxRecDepth 20000 in
theorem gX4_close_X4_holds : GoodIn wsX4_close (wsV RX4 25 RX4 yX4_holds wsX4_holds) := goodIn_app (goodIn_of _ (by decide +kernel)) ggX4_close_X4_holds
set_option maxRecDepth 20000 in
theorem ggX4_hasSignature_X4_at : GoodIn wsX4_hasSignature wsX4_at := goodIn_r _ [5, 6, 7, 8, 9] (by decide +kernel) (by decide +kernel)
set_option maxRecDepth 20000 in
theorem gX4_hasSignature_X4_at : GoodIn wsX4_hasSignature (wsV RX4 48 RX4 yX4_at wsX4_at) := goodIn_app (goodIn_of _ (by decide +kernel)) ggX4_hasSignature_X4_at
set_option maxRecDepth 20000 in
theorem ggX4_isName_X4_holds : GoodIn wsX4_isName wsX4_holds := goodIn_r _ [5, 6, 12, 13] (by decide +kernel) (by decide +kernel)
set_option maxRecDepth 20000 in
theorem gX4_isName_X4_holds : GoodIn wsX4_isName (wsV RX4 25 RX4 yX4_holds wsX4_holds) := goodIn_app (goodIn_of _ (by decide +kernel)) ggX4_isName_X4_holds
set_option maxRecDepth 20000 in
theorem ggX4_isName_X4_at : GoodIn wsX4_isName wsX4_at := goodIn_r _ [10, 6, 11, 12, 13] (by decide +kernel) (by decide +kernel)
set_option maxRecDepth 20000 in
theorem gX4_isName_X4_at : GoodIn wsX4_isName (wsV RX4 48 RX4 yX4_at wsX4_at) := goodIn_app (goodIn_of _ (by decide +kernel)) ggX4_isName_X4_at
set_option maxRecDepth 20000 in
theorem ggX4_agrees_X4_holds : GoodIn wsX4_agrees wsX4_holds := goodIn_r _ [5, 6, 12, 13] (by decide +kernel) (by decide +kernel)
set_option maxRecDepth 20000 in
theorem gX4_agrees_X4_holds : GoodIn wsX4_agrees (wsV RX4 25 RX4 yX4_holds wsX4_holds) := goodIn_app (goodIn_of _ (by decide +kernel)) ggX4_agrees_X4_holds
set_option maxRecDepth 20000 in
theorem ggX4_agrees_X4_at : GoodIn wsX4_agrees wsX4_at := goodIn_r _ [10, 6, 11, 12, 13] (by decide +kernel) (by decide +kernel)
set_option maxRecDepth 20000 in
theorem gX4_agrees_X4_at : GoodIn wsX4_agrees (wsV RX4 48 RX4 yX4_at wsX4_at) := goodIn_app (goodIn_of _ (by decide +kernel)) ggX4_agrees_X4_at
set_option maxRecDepth 20000 in
theorem ggX4_isNameAhead_X4_at : GoodIn wsX4_isNameAhead wsX4_at := goodIn_r _ [5, 6, 7, 8, 9] (by decide +kernel) (by decide +kernel)
set_option maxRecDepth 20000 in
theorem gX4_isNameAhead_X4_at : GoodIn wsX4_isNameAhead (wsV RX4 48 RX4 yX4_at wsX4_at) := goodIn_app (goodIn_of _ (by decide +kernel)) ggX4_isNameAhead_X4_at
set_option maxRecDepth 20000 in
theorem ggX5_init_X4_init : GoodIn wsX5_init wsX4_init := goodIn_r _ [14, 15, 2, 3, 16, 17, 18, 19, 20, 21, 31, 32] (by decide +kernel) (by decide +kernel)
set_option maxRecDepth 20000 in
theorem gX5_init_X4_init : GoodIn wsX5_init (wsX4_init) := ggX5_init_X4_init
set_option maxRecDepth 20000 in
theorem ggX5_init_X1_init : GoodIn wsX5_init wsX1_init := goodIn_r _ [23, 24, 2, 3, 25, 7, 8, 26, 27, 13, 14, 15, 16, 17, 18, 19, 20, 21, 31, 32, 33, 34, 35, 36, 37] (by decide +kernel) (by decide +kernel)
set_option maxRecDepth 20000 in
theorem gX5_init_X1_init_n26 : GoodIn wsX5_init (wsX1_init) := ggX5_init_X1_init
set_option maxRecDepth 20000 in
theorem ggX5_together_X4_size : GoodIn wsX5_together wsX4_size := goodIn_r _ [6, 7, 11, 12] (by decide +kernel) (by decide +kernel)
set_option maxRecDepth 20000 in
theorem gX5_together_X4_size : GoodIn wsX5_together (wsV RX5 31 RX4 yX4_size wsX4_size) := goodIn_app (goodIn_of _ (by decide +kernel)) ggX5_together_X4_size
set_option maxRecDepth 20000 in
theorem ggX5_byteOf_X4_at : GoodIn wsX5_byteOf wsX4_at := goodIn_r _ [6, 7, 8, 17, 18] (by decide +kernel) (by decide +kernel)
set_option maxRecDepth 20000 in
theorem gX5_byteOf_X4_at : GoodIn wsX5_byteOf (wsV RX5 40 RX4 yX4_at wsX4_at) := goodIn_app (goodIn_of _ (by decide +kernel)) ggX5_byteOf_X4_at
set_option maxRecDepth 20000 in
theorem ggX5_lookUp_X4_size : GoodIn wsX5_lookUp wsX4_size := goodIn_r _ [7, 8, 30, 31] (by decide +kernel) (by decide +kernel)
set_option maxRecDepth 20000 in
theorem gX5_lookUp_X4_size : GoodIn wsX5_lookUp (wsV RX5 31 RX4 yX4_size wsX4_size) := goodIn_app (goodIn_of _ (by decide +kernel)) ggX5_lookUp_X4_size
set_option maxRecDepth 20000 in
theorem ggX5_lookUp_X4_agrees : GoodIn wsX5_lookUp wsX4_agrees := goodIn_r _ [12, 13, 14, 15, 6, 16, 8, 17, 18, 19, 20, 21, 30, 31] (by decide +kernel) (by decide +kernel)
set_option maxRecDepth 20000 in
theorem gX5_lookUp_X4_agrees : GoodIn wsX5_lookUp (wsV RX5 47 RX4 yX4_agrees wsX4_agrees) := goodIn_app (goodIn_of _ (by decide +kernel)) ggX5_lookUp_X4_agrees
set_option maxRecDepth 20000 in
theorem ggX5_hasRoom_X5_entry : GoodIn wsX5_hasRoom wsX5_entry := goodIn_r _ [7, 1, 8, 16, 17, 18] (by decide +kernel) (by decide +kernel)
set_option maxRecDepth 20000 in
theorem gX5_hasRoom_X5_entry : GoodIn wsX5_hasRoom (wsV RX5 51 RX5 yX5_entry wsX5_entry) := goodIn_app (goodIn_of _ (by decide +kernel)) ggX5_hasRoom_X5_entry
set_option maxRecDepth 20000 in
theorem ggX5_hasRoom_X4_room : GoodIn wsX5_hasRoom wsX4_room := goodIn_r _ [13, 14, 15, 24, 25] (by decide +kernel) (by decide +kernel)
set_option maxRecDepth 20000 in
theorem gX5_hasRoom_X4_room : GoodIn wsX5_hasRoom (wsV RX5 55 RX4 yX4_room wsX4_room) := goodIn_app (goodIn_of _ (by decide +kernel)) ggX5_hasRoom_X4_room
set_option maxRecDepth 20000 in
theorem ggX5_put_X1_setName : GoodIn wsX5_put wsX1_setName := goodIn_r _ [7, 8, 9, 10, 11, 12, 13, 14, 15, 16, 17, 18, 19, 20, 21, 22, 23, 24, 25, 26, 27, 28, 29, 30, 31, 72, 73, 74, 75, 76, 77, 78] (by decide +kernel) (by decide +kernel)
set_option maxRecDepth 20000 in
theorem gX5_put_X1_setName : GoodIn wsX5_put (wsV RX5 58 RX1 yX1_setName wsX1_setName) := goodIn_app (goodIn_of _ (by decide +kernel)) ggX5_put_X1_setName
set_option maxRecDepth 20000 in
theorem ggX5_put_X5_fill : GoodIn wsX5_put wsX5_fill := goodIn_r _ [36, 37, 38, 39, 40, 41, 42, 43, 44, 12, 45, 14, 46, 16, 17, 18, 19, 20, 21, 22, 23, 24, 25, 26, 27, 28, 29, 30, 31, 47, 48, 49, 50, 51, 52, 53, 54, 55, 56, 57, 58, 59, 60, 61, 62, 63, 64, 65, 66, 67, 68, 69, 70, 71, 72, 73, 74, 75, 76, 77, 78] (by decide +kernel) (by decide +kernel)
set_option maxRecDepth 20000 in
theorem gX5_put_X5_fill : GoodIn wsX5_put (wsV RX5 62 RX5 yX5_fill wsX5_fill) := goodIn_app (goodIn_of _ (by decide +kernel)) ggX5_put_X5_fill
set_option maxRecDepth 20000 in
theorem ggX5_fill_X4_size : GoodIn wsX5_fill wsX4_size := goodIn_r _ [10, 11, 59, 60] (by decide +kernel) (by decide +kernel)
set_option maxRecDepth 20000 in
theorem gX5_fill_X4_size : GoodIn wsX5_fill (wsV RX5 31 RX4 yX4_size wsX4_size) := goodIn_app (goodIn_of _ (by decide +kernel)) ggX5_fill_X4_size
set_option maxRecDepth 20000 in
theorem ggX5_fill_X4_append : GoodIn wsX5_fill wsX4_append := goodIn_r _ [15, 16, 11, 17, 18, 19, 20, 21, 22, 23, 9, 24, 25, 26, 27, 28, 59, 60] (by decide +kernel) (by decide +kernel)
set_option maxRecDepth 20000 in
theorem gX5_fill_X4_append : GoodIn wsX5_fill (wsV RX5 66 RX4 yX4_append wsX4_append) := goodIn_app (goodIn_of _ (by decide +kernel)) ggX5_fill_X4_append
set_option maxRecDepth 20000 in
theorem ggX5_fill_X0_crc : GoodIn wsX5_fill wsX0_crc := goodIn_r _ [32, 33, 34, 35, 36, 9, 37, 11, 16, 59, 60] (by decide +kernel) (by decide +kernel)
set_option maxRecDepth 20000 in
theorem gX5_fill_X0_crc : GoodIn wsX5_fill (va_wsS RX5 69 yX0_crc wsX0_crc) := goodIn_app (goodIn_of _ (by decide +kernel)) ggX5_fill_X0_crc
set_option maxRecDepth 20000 in
theorem ggX5_fill_X0_foldedSize : GoodIn wsX5_fill wsX0_foldedSize := goodIn_r _ [40, 41, 42, 4, 43, 44, 45, 46, 47, 48, 31, 49, 50, 3, 5, 34, 35, 36, 9, 37, 11, 16, 59, 60] (by decide +kernel) (by decide +kernel)
set_option maxRecDepth 20000 in
theorem gX5_fill_X0_foldedSize : GoodIn wsX5_fill (va_wsS RX5 77 yX0_foldedSize wsX0_foldedSize) := goodIn_app (goodIn_of _ (by decide +kernel)) ggX5_fill_X0_foldedSize
set_option maxRecDepth 20000 in
theorem ggX5_changeName_X5_entry : GoodIn wsX5_changeName wsX5_entry := goodIn_r _ [5, 6, 7, 41, 42, 43] (by decide +kernel) (by decide +kernel)
set_option maxRecDepth 20000 in
theorem gX5_changeName_X5_entry : GoodIn wsX5_changeName (wsV RX5 51 RX5 yX5_entry wsX5_entry) := goodIn_app (goodIn_of _ (by decide +kernel)) ggX5_changeName_X5_entry
set_option maxRecDepth 20000 in
theorem ggX5_changeName_X4_size : GoodIn wsX5_changeName wsX4_size := goodIn_r _ [12, 13, 44, 45] (by decide +kernel) (by decide +kernel)
set_option maxRecDepth 20000 in
theorem gX5_changeName_X4_size : GoodIn wsX5_changeName (wsV RX5 31 RX4 yX4_size wsX4_size) := goodIn_app (goodIn_of _ (by decide +kernel)) ggX5_changeName_X4_size
set_option maxRecDepth 20000 in
theorem ggX5_changeName_X1_setName : GoodIn wsX5_changeName wsX1_setName := goodIn_r _ [18, 19, 20, 21, 22, 11, 23, 13, 24, 25, 26, 27, 28, 29, 30, 31, 32, 33, 34, 35, 36, 37, 38, 39, 40, 46, 47, 48, 49, 50, 44, 45] (by decide +kernel) (by decide +kernel)
set_option maxRecDepth 20000 in
theorem gX5_changeName_X1_setName : GoodIn wsX5_changeName (wsV RX5 58 RX1 yX1_setName wsX1_setName) := goodIn_app (goodIn_of _ (by decide +kernel)) ggX5_changeName_X1_setName
set_option maxRecDepth 20000 in
theorem ggX5_changeBytes_X5_entry : GoodIn wsX5_changeBytes wsX5_entry := goodIn_r _ [5, 6, 7, 70, 71, 72] (by decide +kernel) (by decide +kernel)
set_option maxRecDepth 20000 in
theorem gX5_changeBytes_X5_entry : GoodIn wsX5_changeBytes (wsV RX5 51 RX5 yX5_entry wsX5_entry) := goodIn_app (goodIn_of _ (by decide +kernel)) ggX5_changeBytes_X5_entry
set_option maxRecDepth 20000 in
theorem ggX5_changeBytes_X5_release : GoodIn wsX5_changeBytes wsX5_release := goodIn_r _ [11, 12, 6, 7, 13, 14, 15, 16, 17, 18, 19, 20, 21, 22, 23, 24, 25, 26, 27, 70, 71, 72, 73, 74, 75, 76, 77, 78, 79] (by decide +kernel) (by decide +kernel)
set_option maxRecDepth 20000 in
theorem gX5_changeBytes_X5_release : GoodIn wsX5_changeBytes (wsV RX5 89 RX5 yX5_release wsX5_release) := goodIn_app (goodIn_of _ (by decide +kernel)) ggX5_changeBytes_X5_release
set_option maxRecDepth 20000 in
theorem ggX5_changeBytes_X4_size : GoodIn wsX5_changeBytes wsX4_size := goodIn_r _ [31, 19, 78, 79] (by decide +kernel) (by decide +kernel)
set_option maxRecDepth 20000 in
theorem gX5_changeBytes_X4_size : GoodIn wsX5_changeBytes (wsV RX5 31 RX4 yX4_size wsX4_size) := goodIn_app (goodIn_of _ (by decide +kernel)) ggX5_changeBytes_X4_size
set_option maxRecDepth 20000 in
theorem ggX5_changeBytes_X5_fill : GoodIn wsX5_changeBytes wsX5_fill := goodIn_r _ [35, 12, 36, 37, 38, 39, 28, 29, 30, 16, 31, 19, 40, 41, 42, 43, 18, 20, 21, 22, 23, 24, 25, 26, 27, 44, 45, 46, 47, 48, 49, 50, 51, 52, 53, 54, 55, 56, 57, 58, 59, 60, 61, 62, 63, 64, 65, 66, 67, 68, 69, 70, 71, 72, 73, 74, 75, 76, 77, 78, 79] (by decide +kernel) (by decide +kernel)
set_option maxRecDepth 20000 in
theorem gX5_changeBytes_X5_fill : GoodIn wsX5_changeBytes (wsV RX5 62 RX5 yX5_fill wsX5_fill) := goodIn_app (goodIn_of _ (by decide +kernel)) ggX5_changeBytes_X5_fill
set_option maxRecDepth 20000 in
theorem ggX5_release_X4_close : GoodIn wsX5_release wsX4_close := goodIn_r _ [8, 9, 10, 11, 12, 13, 14, 15, 16, 17, 7, 18, 27, 28] (by decide +kernel) (by decide +kernel)
set_option maxRecDepth 20000 in
theorem gX5_release_X4_close : GoodIn wsX5_release (wsV RX5 93 RX4 yX4_close wsX4_close) := goodIn_app (goodIn_of _ (by decide +kernel)) ggX5_release_X4_close
set_option maxRecDepth 20000 in
theorem ggX5_takeOut_X5_entry : GoodIn wsX5_takeOut wsX5_entry := goodIn_r _ [7, 1, 2, 28, 29, 30] (by decide +kernel) (by decide +kernel)
set_option maxRecDepth 20000 in
theorem gX5_takeOut_X5_entry : GoodIn wsX5_takeOut (wsV RX5 51 RX5 yX5_entry wsX5_entry) := goodIn_app (goodIn_of _ (by decide +kernel)) ggX5_takeOut_X5_entry
set_option maxRecDepth 20000 in
theorem ggX5_takeOut_X5_release : GoodIn wsX5_takeOut wsX5_release := goodIn_r _ [11, 12, 1, 2, 13, 14, 15, 16, 17, 18, 19, 20, 21, 22, 23, 24, 25, 26, 27, 28, 29, 30, 31, 32, 33, 34, 35, 36, 37] (by decide +kernel) (by decide +kernel)
set_option maxRecDepth 20000 in
theorem gX5_takeOut_X5_release : GoodIn wsX5_takeOut (wsV RX5 89 RX5 yX5_release wsX5_release) := goodIn_app (goodIn_of _ (by decide +kernel)) ggX5_takeOut_X5_release
set_option maxRecDepth 20000 in
theorem ggX5_takeOutAll_X4_shorten : GoodIn wsX5_takeOutAll wsX4_shorten := goodIn_r _ [7, 8, 12, 13] (by decide +kernel) (by decide +kernel)
set_option maxRecDepth 20000 in
theorem gX5_takeOutAll_X4_shorten : GoodIn wsX5_takeOutAll (wsV RX5 97 RX4 yX4_shorten wsX4_shorten) := goodIn_app (goodIn_of _ (by decide +kernel)) ggX5_takeOutAll_X4_shorten
set_option maxRecDepth 20000 in
theorem ggX5_putInOrder_X4_isNameAhead : GoodIn wsX5_putInOrder wsX4_isNameAhead := goodIn_r _ [7, 8, 9, 10, 6, 11, 12, 13, 22, 23] (by decide +kernel) (by decide +kernel)
set_option maxRecDepth 20000 in
theorem gX5_putInOrder_X4_isNameAhead : GoodIn wsX5_putInOrder (wsV RX5 101 RX4 yX4_isNameAhead wsX4_isNameAhead) := goodIn_app (goodIn_of _ (by decide +kernel)) ggX5_putInOrder_X4_isNameAhead
set_option maxRecDepth 20000 in
theorem ggX5_writeLocals_X6_writeLocal : GoodIn wsX5_writeLocals wsX6_writeLocal := goodIn_r _ [7, 8, 9, 10, 11, 12, 13, 14, 15, 16, 17, 18, 19, 20, 6, 21, 22, 23, 24, 25, 26, 27, 28, 29, 30, 31, 32, 33, 34, 35, 36, 37, 38, 39, 40, 41, 42, 43, 44, 45, 46, 47, 48, 49, 50, 51, 52, 53, 54, 55, 56, 57, 86, 87, 88, 89, 90, 91, 92] (by decide +kernel) (by decide +kernel)
set_option maxRecDepth 20000 in
theorem gX5_writeLocals_X6_writeLocal : GoodIn wsX5_writeLocals (va_wsS RX5 105 yX6_writeLocal wsX6_writeLocal) := goodIn_app (goodIn_of _ (by decide +kernel)) ggX5_writeLocals_X6_writeLocal
set_option maxRecDepth 20000 in
theorem ggX5_writeLocals_X1_method : GoodIn wsX5_writeLocals wsX1_method := goodIn_r _ [30, 31, 32, 86, 87, 88, 89, 90] (by decide +kernel) (by decide +kernel)
set_option maxRecDepth 20000 in
theorem gX5_writeLocals_X1_method : GoodIn wsX5_writeLocals (wsV RX5 111 RX1 yX1_method wsX1_method) := goodIn_app (goodIn_of _ (by decide +kernel)) ggX5_writeLocals_X1_method
set_option maxRecDepth 20000 in
theorem ggX5_writeLocals_X0_fold : GoodIn wsX5_writeLocals wsX0_fold := goodIn_r _ [62, 63, 64, 65, 66, 67, 68, 69, 70, 71, 61, 72, 73, 74, 75, 76, 77, 78, 11, 79, 17, 18, 80, 14, 15, 16, 81, 43, 44, 45, 46, 47, 48, 49, 50, 51, 52, 53, 54, 55, 56, 57, 91, 92] (by decide +kernel) (by decide +kernel)
set_option maxRecDepth 20000 in
theorem gX5_writeLocals_X0_fold : GoodIn wsX5_writeLocals (va_wsS RX5 114 yX0_fold wsX0_fold) := goodIn_app (goodIn_of _ (by decide +kernel)) ggX5_writeLocals_X0_fold
set_option maxRecDepth 20000 in
theorem ggX5_writeLocals_X4_append : GoodIn wsX5_writeLocals wsX4_append := goodIn_r _ [45, 18, 17, 46, 47, 48, 49, 50, 51, 52, 11, 53, 54, 55, 56, 57, 91, 92] (by decide +kernel) (by decide +kernel)
set_option maxRecDepth 20000 in
theorem gX5_writeLocals_X4_append : GoodIn wsX5_writeLocals (wsV RX5 66 RX4 yX4_append wsX4_append) := goodIn_app (goodIn_of _ (by decide +kernel)) ggX5_writeLocals_X4_append
set_option maxRecDepth 20000 in
theorem ggX5_writeCentrals_X6_writeCentral : GoodIn wsX5_writeCentrals wsX6_writeCentral := goodIn_r _ [6, 7, 8, 9, 10, 11, 12, 13, 14, 15, 16, 17, 18, 19, 20, 21, 22, 23, 5, 24, 25, 26, 27, 28, 29, 30, 31, 32, 33, 34, 35, 36, 37, 38, 39, 40, 41, 42, 43, 44, 45, 46, 47, 48, 49, 50, 51, 52, 53, 54, 55, 56, 66, 67, 68, 69, 70, 71, 72] (by decide +kernel) (by decide +kernel)
set_option maxRecDepth 20000 in
theorem gX5_writeCentrals_X6_writeCentral : GoodIn wsX5_writeCentrals (va_wsS RX5 118 yX6_writeCentral wsX6_writeCentral) := goodIn_app (goodIn_of _ (by decide +kernel)) ggX5_writeCentrals_X6_writeCentral
set_option maxRecDepth 20000 in
theorem ggX5_writeCentrals_X1_localSize : GoodIn wsX5_writeCentrals wsX1_localSize := goodIn_r _ [60, 61, 30, 62, 38, 39, 10, 40, 16, 66, 67, 68, 69, 70, 71, 72] (by decide +kernel) (by decide +kernel)
set_option maxRecDepth 20000 in
theorem gX5_writeCentrals_X1_localSize : GoodIn wsX5_writeCentrals (wsV RX5 122 RX1 yX1_localSize wsX1_localSize) := goodIn_app (goodIn_of _ (by decide +kernel)) ggX5_writeCentrals_X1_localSize
set_option maxRecDepth 20000 in
theorem ggX6_writeLocal_X4_pushSignature : GoodIn wsX6_writeLocal wsX4_pushSignature := goodIn_r _ [5, 6, 7, 8, 4, 9, 10, 11, 57, 58] (by decide +kernel) (by decide +kernel)
set_option maxRecDepth 20000 in
theorem gX6_writeLocal_X4_pushSignature : GoodIn wsX6_writeLocal (wsV RX6 9 RX4 yX4_pushSignature wsX4_pushSignature) := goodIn_app (goodIn_of _ (by decide +kernel)) ggX6_writeLocal_X4_pushSignature
set_option maxRecDepth 20000 in
theorem ggX6_writeLocal_X6_writeShared : GoodIn wsX6_writeLocal wsX6_writeShared := goodIn_r _ [15, 16, 17, 18, 4, 19, 6, 7, 8, 9, 10, 11, 20, 21, 22, 23, 24, 25, 26, 27, 28, 29, 30, 31, 32, 33, 34, 35, 52, 53, 54, 55, 56, 57, 58] (by decide +kernel) (by decide +kernel)
set_option maxRecDepth 20000 in
theorem gX6_writeLocal_X6_writeShared : GoodIn wsX6_writeLocal (va_wsS RX6 15 yX6_writeShared wsX6_writeShared) := goodIn_app (goodIn_of _ (by decide +kernel)) ggX6_writeLocal_X6_writeShared
set_option maxRecDepth 20000 in
theorem ggX6_writeLocal_X4_size : GoodIn wsX6_writeLocal wsX4_size := goodIn_r _ [35, 10, 57, 58] (by decide +kernel) (by decide +kernel)
set_option maxRecDepth 20000 in
theorem gX6_writeLocal_X4_size : GoodIn wsX6_writeLocal (wsV RX6 27 RX4 yX4_size wsX4_size) := goodIn_app (goodIn_of _ (by decide +kernel)) ggX6_writeLocal_X4_size
set_option maxRecDepth 20000 in
theorem ggX6_writeLocal_X4_append : GoodIn wsX6_writeLocal wsX4_append := goodIn_r _ [39, 11, 10, 40, 41, 42, 43, 44, 45, 46, 4, 47, 48, 49, 50, 51, 57, 58] (by decide +kernel) (by decide +kernel)
set_option maxRecDepth 20000 in
theorem gX6_writeLocal_X4_append : GoodIn wsX6_writeLocal (wsV RX6 31 RX4 yX4_append wsX4_append) := goodIn_app (goodIn_of _ (by decide +kernel)) ggX6_writeLocal_X4_append
set_option maxRecDepth 20000 in
theorem ggX6_writeCentral_X4_pushSignature : GoodIn wsX6_writeCentral wsX4_pushSignature := goodIn_r _ [5, 6, 7, 8, 4, 9, 10, 11, 57, 58] (by decide +kernel) (by decide +kernel)
set_option maxRecDepth 20000 in
theorem gX6_writeCentral_X4_pushSignature : GoodIn wsX6_writeCentral (wsV RX6 9 RX4 yX4_pushSignature wsX4_pushSignature) := goodIn_app (goodIn_of _ (by decide +kernel)) ggX6_writeCentral_X4_pushSignature
set_option maxRecDepth 20000 in
theorem ggX6_writeCentral_X4_pushTwo : GoodIn wsX6_writeCentral wsX4_pushTwo := goodIn_r _ [15, 6, 7, 8, 4, 9, 10, 11, 57, 58] (by decide +kernel) (by decide +kernel)
set_option maxRecDepth 20000 in
theorem gX6_writeCentral_X4_pushTwo : GoodIn wsX6_writeCentral (wsV RX6 35 RX4 yX4_pushTwo wsX4_pushTwo) := goodIn_app (goodIn_of _ (by decide +kernel)) ggX6_writeCentral_X4_pushTwo
set_option maxRecDepth 20000 in
theorem ggX6_writeCentral_X6_writeShared : GoodIn wsX6_writeCentral wsX6_writeShared := goodIn_r _ [19, 12, 13, 14, 4, 15, 6, 7, 8, 9, 10, 11, 20, 21, 22, 23, 24, 25, 26, 27, 28, 29, 30, 31, 32, 33, 34, 35, 52, 53, 54, 55, 56, 57, 58] (by decide +kernel) (by decide +kernel)
set_option maxRecDepth 20000 in
theorem gX6_writeCentral_X6_writeShared : GoodIn wsX6_writeCentral (va_wsS RX6 15 yX6_writeShared wsX6_writeShared) := goodIn_app (goodIn_of _ (by decide +kernel)) ggX6_writeCentral_X6_writeShared
set_option maxRecDepth 20000 in
theorem ggX6_writeCentral_X4_pushFour : GoodIn wsX6_writeCentral wsX4_pushFour := goodIn_r _ [30, 31, 13, 14, 4, 15, 6, 7, 8, 9, 10, 11, 57, 58] (by decide +kernel) (by decide +kernel)
set_option maxRecDepth 20000 in
theorem gX6_writeCentral_X4_pushFour : GoodIn wsX6_writeCentral (wsV RX6 39 RX4 yX4_pushFour wsX4_pushFour) := goodIn_app (goodIn_of _ (by decide +kernel)) ggX6_writeCentral_X4_pushFour
set_option maxRecDepth 20000 in
theorem ggX6_writeCentral_X4_size : GoodIn wsX6_writeCentral wsX4_size := goodIn_r _ [35, 10, 57, 58] (by decide +kernel) (by decide +kernel)
set_option maxRecDepth 20000 in
theorem gX6_writeCentral_X4_size : GoodIn wsX6_writeCentral (wsV RX6 27 RX4 yX4_size wsX4_size) := goodIn_app (goodIn_of _ (by decide +kernel)) ggX6_writeCentral_X4_size
set_option maxRecDepth 20000 in
theorem ggX6_writeCentral_X4_append : GoodIn wsX6_writeCentral wsX4_append := goodIn_r _ [39, 11, 10, 40, 41, 42, 43, 44, 45, 46, 4, 47, 48, 49, 50, 51, 57, 58] (by decide +kernel) (by decide +kernel)
set_option maxRecDepth 20000 in
theorem gX6_writeCentral_X4_append : GoodIn wsX6_writeCentral (wsV RX6 31 RX4 yX4_append wsX4_append) := goodIn_app (goodIn_of _ (by decide +kernel)) ggX6_writeCentral_X4_append
set_option maxRecDepth 20000 in
theorem ggX6_writeShared_X4_pushTwo : GoodIn wsX6_writeShared wsX4_pushTwo := goodIn_r _ [5, 6, 7, 8, 4, 9, 10, 11, 33, 34] (by decide +kernel) (by decide +kernel)
set_option maxRecDepth 20000 in
theorem gX6_writeShared_X4_pushTwo : GoodIn wsX6_writeShared (wsV RX6 35 RX4 yX4_pushTwo wsX4_pushTwo) := goodIn_app (goodIn_of _ (by decide +kernel)) ggX6_writeShared_X4_pushTwo
set_option maxRecDepth 20000 in
theorem ggX6_writeShared_X1_method : GoodIn wsX6_writeShared wsX1_method := goodIn_r _ [16, 17, 18, 28, 29, 30, 31, 32] (by decide +kernel) (by decide +kernel)
set_option maxRecDepth 20000 in
theorem gX6_writeShared_X1_method : GoodIn wsX6_writeShared (wsV RX6 42 RX1 yX1_method wsX1_method) := goodIn_app (goodIn_of _ (by decide +kernel)) ggX6_writeShared_X1_method
set_option maxRecDepth 20000 in
theorem ggX6_writeShared_X4_pushFour : GoodIn wsX6_writeShared wsX4_pushFour := goodIn_r _ [22, 23, 2, 3, 4, 5, 6, 7, 8, 9, 10, 11, 33, 34] (by decide +kernel) (by decide +kernel)
set_option maxRecDepth 20000 in
theorem gX6_writeShared_X4_pushFour : GoodIn wsX6_writeShared (wsV RX6 39 RX4 yX4_pushFour wsX4_pushFour) := goodIn_app (goodIn_of _ (by decide +kernel)) ggX6_writeShared_X4_pushFour
set_option maxRecDepth 20000 in
theorem ggX6_writeShared_X4_size : GoodIn wsX6_writeShared wsX4_size := goodIn_r _ [27, 10, 33, 34] (by decide +kernel) (by decide +kernel)
set_option maxRecDepth 20000 in
theorem gX6_writeShared_X4_size : GoodIn wsX6_writeShared (wsV RX6 27 RX4 yX4_size wsX4_size) := goodIn_app (goodIn_of _ (by decide +kernel)) ggX6_writeShared_X4_size
set_option maxRecDepth 20000 in
theorem ggX6_writeEnd_X4_pushSignature : GoodIn wsX6_writeEnd wsX4_pushSignature := goodIn_r _ [5, 6, 7, 8, 4, 9, 10, 11, 21, 22] (by decide +kernel) (by decide +kernel)
set_option maxRecDepth 20000 in
theorem gX6_writeEnd_X4_pushSignature : GoodIn wsX6_writeEnd (wsV RX6 9 RX4 yX4_pushSignature wsX4_pushSignature) := goodIn_app (goodIn_of _ (by decide +kernel)) ggX6_writeEnd_X4_pushSignature
set_option maxRecDepth 20000 in
theorem ggX6_writeEnd_X4_pushTwo : GoodIn wsX6_writeEnd wsX4_pushTwo := goodIn_r _ [15, 6, 7, 8, 4, 9, 10, 11, 21, 22] (by decide +kernel) (by decide +kernel)
set_option maxRecDepth 20000 in
theorem gX6_writeEnd_X4_pushTwo : GoodIn wsX6_writeEnd (wsV RX6 35 RX4 yX4_pushTwo wsX4_pushTwo) := goodIn_app (goodIn_of _ (by decide +kernel)) ggX6_writeEnd_X4_pushTwo
set_option maxRecDepth 20000 in
theorem ggX6_writeEnd_X4_pushFour : GoodIn wsX6_writeEnd wsX4_pushFour := goodIn_r _ [19, 20, 13, 14, 4, 15, 6, 7, 8, 9, 10, 11, 21, 22] (by decide +kernel) (by decide +kernel)
set_option maxRecDepth 20000 in
theorem gX6_writeEnd_X4_pushFour : GoodIn wsX6_writeEnd (wsV RX6 39 RX4 yX4_pushFour wsX4_pushFour) := goodIn_app (goodIn_of _ (by decide +kernel)) ggX6_writeEnd_X4_pushFour
set_option maxRecDepth 20000 in
theorem ggX7_init_X4_init : GoodIn wsX7_init wsX4_init := goodIn_r _ [20, 21, 2, 3, 22, 23, 24, 25, 26, 27, 68, 69] (by decide +kernel) (by decide +kernel)
set_option maxRecDepth 20000 in
theorem gX7_init_X4_init : GoodIn wsX7_init (wsX4_init) := ggX7_init_X4_init
set_option maxRecDepth 20000 in
theorem ggX7_init_X5_init : GoodIn wsX7_init wsX5_init := goodIn_r _ [30, 31, 2, 3, 32, 33, 34, 5, 6, 35, 36, 37, 38, 19, 20, 21, 22, 23, 24, 25, 26, 27, 39, 40, 41, 42, 43, 44, 75, 76, 77, 68, 69, 88, 89, 90, 91, 92] (by decide +kernel) (by decide +kernel)
set_option maxRecDepth 20000 in
theorem gX7_init_X5_init : GoodIn wsX7_init (wsX5_init) := ggX7_init_X5_init
set_option maxRecDepth 20000 in
theorem ggX7_init_X3_init : GoodIn wsX7_init wsX3_init := goodIn_r _ [46, 47, 2, 3, 26, 48, 49, 50, 51, 52, 53, 54, 5, 6, 55, 56, 57, 58, 59, 60, 61, 62, 19, 20, 21, 22, 23, 24, 25, 27, 78, 79, 80, 81, 82, 83, 84, 85, 86, 87, 93, 94, 95, 96, 97, 68, 69] (by decide +kernel) (by decide +kernel)
set_option maxRecDepth 20000 in
theorem gX7_init_X3_init_n33 : GoodIn wsX7_init (wsX3_init) := ggX7_init_X3_init
set_option maxRecDepth 20000 in
theorem ggX7_init_X4_blank : GoodIn wsX7_init wsX4_blank := goodIn_r _ [66, 27, 67, 68, 69] (by decide +kernel) (by decide +kernel)
set_option maxRecDepth 20000 in
theorem gX7_init_X4_blank : GoodIn wsX7_init (wsV RX7 38 RX4 yX4_blank wsX4_blank) := goodIn_app (goodIn_of _ (by decide +kernel)) ggX7_init_X4_blank
set_option maxRecDepth 20000 in
theorem ggX7_feed_X4_shorten : GoodIn wsX7_feed wsX4_shorten := goodIn_r _ [6, 7, 22, 23] (by decide +kernel) (by decide +kernel)
set_option maxRecDepth 20000 in
theorem gX7_feed_X4_shorten : GoodIn wsX7_feed (wsV RX7 41 RX4 yX4_shorten wsX4_shorten) := goodIn_app (goodIn_of _ (by decide +kernel)) ggX7_feed_X4_shorten
set_option maxRecDepth 20000 in
theorem ggX7_feed_X4_pushHighFirst : GoodIn wsX7_feed wsX4_pushHighFirst := goodIn_r _ [11, 12, 13, 14, 5, 15, 7, 16, 22, 23] (by decide +kernel) (by decide +kernel)
set_option maxRecDepth 20000 in
theorem gX7_feed_X4_pushHighFirst : GoodIn wsX7_feed (wsV RX7 45 RX4 yX4_pushHighFirst wsX4_pushHighFirst) := goodIn_app (goodIn_of _ (by decide +kernel)) ggX7_feed_X4_pushHighFirst
set_option maxRecDepth 20000 in
theorem ggX7_end_X4_room : GoodIn wsX7_end wsX4_room := goodIn_r _ [7, 8, 9, 36, 37] (by decide +kernel) (by decide +kernel)
set_option maxRecDepth 20000 in
theorem gX7_end_X4_room : GoodIn wsX7_end (wsV RX7 48 RX4 yX4_room wsX4_room) := goodIn_app (goodIn_of _ (by decide +kernel)) ggX7_end_X4_room
set_option maxRecDepth 20000 in
theorem ggX7_end_X4_append : GoodIn wsX7_end wsX4_append := goodIn_r _ [13, 8, 9, 14, 15, 16, 17, 18, 19, 20, 6, 21, 22, 4, 5, 7, 36, 37] (by decide +kernel) (by decide +kernel)
set_option maxRecDepth 20000 in
theorem gX7_end_X4_append : GoodIn wsX7_end (wsV RX7 52 RX4 yX4_append wsX4_append) := goodIn_app (goodIn_of _ (by decide +kernel)) ggX7_end_X4_append
set_option maxRecDepth 20000 in
theorem ggX7_end_X4_blank : GoodIn wsX7_end wsX4_blank := goodIn_r _ [26, 8, 9, 36, 37] (by decide +kernel) (by decide +kernel)
set_option maxRecDepth 20000 in
theorem gX7_end_X4_blank : GoodIn wsX7_end (wsV RX7 38 RX4 yX4_blank wsX4_blank) := goodIn_app (goodIn_of _ (by decide +kernel)) ggX7_end_X4_blank
set_option maxRecDepth 20000 in
theorem ggX7_end_X4_size : GoodIn wsX7_end wsX4_size := goodIn_r _ [30, 9, 36, 37] (by decide +kernel) (by decide +kernel)
set_option maxRecDepth 20000 in
theorem gX7_end_X4_size : GoodIn wsX7_end (wsV RX7 56 RX4 yX4_size wsX4_size) := goodIn_app (goodIn_of _ (by decide +kernel)) ggX7_end_X4_size
set_option maxRecDepth 20000 in
theorem ggX7_cut_X4_shorten : GoodIn wsX7_cut wsX4_shorten := goodIn_r _ [6, 7, 13, 14] (by decide +kernel) (by decide +kernel)
set_option maxRecDepth 20000 in
theorem gX7_cut_X4_shorten : GoodIn wsX7_cut (wsV RX7 41 RX4 yX4_shorten wsX4_shorten) := goodIn_app (goodIn_of _ (by decide +kernel)) ggX7_cut_X4_shorten
set_option maxRecDepth 20000 in
theorem ggX7_drop_X4_close : GoodIn wsX7_drop wsX4_close := goodIn_r _ [6, 7, 8, 9, 10, 11, 12, 13, 14, 15, 5, 16, 22, 23] (by decide +kernel) (by decide +kernel)
set_option maxRecDepth 20000 in
theorem gX7_drop_X4_close : GoodIn wsX7_drop (wsV RX7 59 RX4 yX4_close wsX4_close) := goodIn_app (goodIn_of _ (by decide +kernel)) ggX7_drop_X4_close
set_option maxRecDepth 20000 in
theorem ggX7_flip_X4_turn : GoodIn wsX7_flip wsX4_turn := goodIn_r _ [6, 7, 8, 14, 15] (by decide +kernel) (by decide +kernel)
set_option maxRecDepth 20000 in
theorem gX7_flip_X4_turn : GoodIn wsX7_flip (wsV RX7 63 RX4 yX4_turn wsX4_turn) := goodIn_app (goodIn_of _ (by decide +kernel)) ggX7_flip_X4_turn
set_option maxRecDepth 20000 in
theorem ggX7_take_X4_size : GoodIn wsX7_take wsX4_size := goodIn_r _ [9, 10, 34, 35] (by decide +kernel) (by decide +kernel)
set_option maxRecDepth 20000 in
theorem gX7_take_X4_size : GoodIn wsX7_take (wsV RX7 56 RX4 yX4_size wsX4_size) := goodIn_app (goodIn_of _ (by decide +kernel)) ggX7_take_X4_size
set_option maxRecDepth 20000 in
theorem ggX7_take_X4_room : GoodIn wsX7_take wsX4_room := goodIn_r _ [14, 15, 10, 34, 35] (by decide +kernel) (by decide +kernel)
set_option maxRecDepth 20000 in
theorem gX7_take_X4_room : GoodIn wsX7_take (wsV RX7 48 RX4 yX4_room wsX4_room) := goodIn_app (goodIn_of _ (by decide +kernel)) ggX7_take_X4_room
set_option maxRecDepth 20000 in
theorem ggX7_take_X4_append : GoodIn wsX7_take wsX4_append := goodIn_r _ [19, 15, 10, 20, 21, 22, 23, 24, 25, 26, 8, 27, 28, 12, 13, 14, 34, 35] (by decide +kernel) (by decide +kernel)
set_option maxRecDepth 20000 in
theorem gX7_take_X4_append : GoodIn wsX7_take (wsV RX7 52 RX4 yX4_append wsX4_append) := goodIn_app (goodIn_of _ (by decide +kernel)) ggX7_take_X4_append
set_option maxRecDepth 20000 in
theorem ggX7_add_X4_isName : GoodIn wsX7_add wsX4_isName := goodIn_r _ [11, 12, 13, 14, 10, 15, 16, 17, 18, 19, 20, 21, 112, 113] (by decide +kernel) (by decide +kernel)
set_option maxRecDepth 20000 in
theorem gX7_add_X4_isName : GoodIn wsX7_add (wsV RX7 73 RX4 yX4_isName wsX4_isName) := goodIn_app (goodIn_of _ (by decide +kernel)) ggX7_add_X4_isName
set_option maxRecDepth 20000 in
theorem ggX7_add_X4_size : GoodIn wsX7_add wsX4_size := goodIn_r _ [25, 16, 112, 113] (by decide +kernel) (by decide +kernel)
set_option maxRecDepth 20000 in
theorem gX7_add_X4_size : GoodIn wsX7_add (wsV RX7 56 RX4 yX4_size wsX4_size) := goodIn_app (goodIn_of _ (by decide +kernel)) ggX7_add_X4_size
set_option maxRecDepth 20000 in
theorem ggX7_add_X5_lookUp : GoodIn wsX7_add wsX5_lookUp := goodIn_r _ [30, 31, 32, 33, 23, 24, 10, 25, 16, 34, 35, 36, 37, 12, 13, 14, 15, 17, 18, 19, 20, 21, 114, 115, 116, 117, 118, 119, 120, 121, 112, 113] (by decide +kernel) (by decide +kernel)
set_option maxRecDepth 20000 in
theorem gX7_add_X5_lookUp : GoodIn wsX7_add (wsV RX7 83 RX5 yX5_lookUp wsX5_lookUp) := goodIn_app (goodIn_of _ (by decide +kernel)) ggX7_add_X5_lookUp
set_option maxRecDepth 20000 in
theorem ggX7_add_X5_hasRoom : GoodIn wsX7_add wsX5_hasRoom := goodIn_r _ [41, 31, 42, 43, 44, 45, 29, 46, 32, 47, 48, 49, 10, 50, 21, 16, 114, 115, 116, 117, 118, 119, 120, 121, 112, 113] (by decide +kernel) (by decide +kernel)
set_option maxRecDepth 20000 in
theorem gX7_add_X5_hasRoom : GoodIn wsX7_add (wsV RX7 89 RX5 yX5_hasRoom wsX5_hasRoom) := goodIn_app (goodIn_of _ (by decide +kernel)) ggX7_add_X5_hasRoom
set_option maxRecDepth 20000 in
theorem ggX7_add_X5_put : GoodIn wsX7_add wsX5_put := goodIn_r _ [54, 31, 32, 55, 56, 57, 58, 59, 60, 61, 62, 63, 10, 64, 16, 65, 66, 67, 68, 21, 69, 70, 71, 72, 12, 13, 14, 15, 73, 48, 49, 50, 74, 75, 76, 29, 77, 42, 78, 79, 80, 81, 33, 23, 24, 25, 82, 83, 84, 85, 86, 87, 88, 18, 19, 20, 89, 90, 91, 92, 93, 94, 95, 96, 97, 98, 99, 100, 101, 114, 115, 116, 117, 118, 119, 120, 121, 112, 113] (by decide +kernel) (by decide +kernel)
set_option maxRecDepth 20000 in
theorem gX7_add_X5_put : GoodIn wsX7_add (wsV RX7 94 RX5 yX5_put wsX5_put) := goodIn_app (goodIn_of _ (by decide +kernel)) ggX7_add_X5_put
set_option maxRecDepth 20000 in
theorem ggX7_add_X4_shorten : GoodIn wsX7_add wsX4_shorten := goodIn_r _ [64, 16, 112, 113] (by decide +kernel) (by decide +kernel)
set_option maxRecDepth 20000 in
theorem gX7_add_X4_shorten : GoodIn wsX7_add (wsV RX7 41 RX4 yX4_shorten wsX4_shorten) := goodIn_app (goodIn_of _ (by decide +kernel)) ggX7_add_X4_shorten
set_option maxRecDepth 20000 in
theorem ggX7_add_X5_count : GoodIn wsX7_add wsX5_count := goodIn_r _ [106, 31, 114, 115, 116] (by decide +kernel) (by decide +kernel)
set_option maxRecDepth 20000 in
theorem gX7_add_X5_count : GoodIn wsX7_add (wsV RX7 98 RX5 yX5_count wsX5_count) := goodIn_app (goodIn_of _ (by decide +kernel)) ggX7_add_X5_count
set_option maxRecDepth 20000 in
theorem ggX7_replace_X5_entry : GoodIn wsX7_replace wsX5_entry := goodIn_r _ [13, 14, 15, 98, 99, 100] (by decide +kernel) (by decide +kernel)
set_option maxRecDepth 20000 in
theorem gX7_replace_X5_entry : GoodIn wsX7_replace (wsV RX7 101 RX5 yX5_entry wsX5_entry) := goodIn_app (goodIn_of _ (by decide +kernel)) ggX7_replace_X5_entry
set_option maxRecDepth 20000 in
theorem ggX7_replace_X4_size : GoodIn wsX7_replace wsX4_size := goodIn_r _ [20, 21, 101, 102] (by decide +kernel) (by decide +kernel)
set_option maxRecDepth 20000 in
theorem gX7_replace_X4_size : GoodIn wsX7_replace (wsV RX7 56 RX4 yX4_size wsX4_size) := goodIn_app (goodIn_of _ (by decide +kernel)) ggX7_replace_X4_size
set_option maxRecDepth 20000 in
theorem ggX7_replace_X5_hasRoom : GoodIn wsX7_replace wsX5_hasRoom := goodIn_r _ [25, 14, 26, 27, 10, 11, 12, 13, 15, 28, 29, 30, 19, 31, 32, 21, 98, 99, 100, 103, 104, 105, 106, 107, 101, 102] (by decide +kernel) (by decide +kernel)
set_option maxRecDepth 20000 in
theorem gX7_replace_X5_hasRoom : GoodIn wsX7_replace (wsV RX7 89 RX5 yX5_hasRoom wsX5_hasRoom) := goodIn_app (goodIn_of _ (by decide +kernel)) ggX7_replace_X5_hasRoom
set_option maxRecDepth 20000 in
theorem ggX7_replace_X5_changeBytes : GoodIn wsX7_replace wsX5_changeBytes := goodIn_r _ [36, 27, 10, 11, 12, 13, 14, 15, 37, 38, 39, 40, 26, 41, 42, 43, 19, 44, 32, 21, 45, 46, 47, 48, 49, 50, 51, 52, 53, 17, 18, 20, 54, 55, 56, 57, 58, 59, 60, 61, 62, 63, 64, 65, 66, 29, 30, 31, 67, 68, 69, 70, 71, 72, 73, 74, 75, 76, 77, 78, 79, 80, 81, 82, 83, 84, 85, 86, 87, 88, 98, 99, 100, 103, 104, 105, 106, 107, 101, 102] (by decide +kernel) (by decide +kernel)
set_option maxRecDepth 20000 in
theorem gX7_replace_X5_changeBytes : GoodIn wsX7_replace (wsV RX7 112 RX5 yX5_changeBytes wsX5_changeBytes) := goodIn_app (goodIn_of _ (by decide +kernel)) ggX7_replace_X5_changeBytes
set_option maxRecDepth 20000 in
theorem ggX7_replace_X4_shorten : GoodIn wsX7_replace wsX4_shorten := goodIn_r _ [92, 21, 101, 102] (by decide +kernel) (by decide +kernel)
set_option maxRecDepth 20000 in
theorem gX7_replace_X4_shorten : GoodIn wsX7_replace (wsV RX7 41 RX4 yX4_shorten wsX4_shorten) := goodIn_app (goodIn_of _ (by decide +kernel)) ggX7_replace_X4_shorten
set_option maxRecDepth 20000 in
theorem ggX7_rename_X5_entry : GoodIn wsX7_rename wsX5_entry := goodIn_r _ [13, 14, 15, 77, 78, 79] (by decide +kernel) (by decide +kernel)
set_option maxRecDepth 20000 in
theorem gX7_rename_X5_entry : GoodIn wsX7_rename (wsV RX7 101 RX5 yX5_entry wsX5_entry) := goodIn_app (goodIn_of _ (by decide +kernel)) ggX7_rename_X5_entry
set_option maxRecDepth 20000 in
theorem ggX7_rename_X4_size : GoodIn wsX7_rename wsX4_size := goodIn_r _ [20, 21, 80, 81] (by decide +kernel) (by decide +kernel)
set_option maxRecDepth 20000 in
theorem gX7_rename_X4_size : GoodIn wsX7_rename (wsV RX7 56 RX4 yX4_size wsX4_size) := goodIn_app (goodIn_of _ (by decide +kernel)) ggX7_rename_X4_size
set_option maxRecDepth 20000 in
theorem ggX7_rename_X4_isName : GoodIn wsX7_rename wsX4_isName := goodIn_r _ [25, 26, 27, 28, 19, 29, 21, 30, 31, 32, 33, 34, 80, 81] (by decide +kernel) (by decide +kernel)
set_option maxRecDepth 20000 in
theorem gX7_rename_X4_isName : GoodIn wsX7_rename (wsV RX7 73 RX4 yX4_isName wsX4_isName) := goodIn_app (goodIn_of _ (by decide +kernel)) ggX7_rename_X4_isName
set_option maxRecDepth 20000 in
theorem ggX7_rename_X5_lookUp : GoodIn wsX7_rename wsX5_lookUp := goodIn_r _ [38, 14, 15, 39, 17, 18, 19, 20, 21, 40, 41, 42, 43, 26, 27, 28, 29, 30, 31, 32, 33, 34, 77, 78, 79, 82, 83, 84, 85, 86, 80, 81] (by decide +kernel) (by decide +kernel)
set_option maxRecDepth 20000 in
theorem gX7_rename_X5_lookUp : GoodIn wsX7_rename (wsV RX7 83 RX5 yX5_lookUp wsX5_lookUp) := goodIn_app (goodIn_of _ (by decide +kernel)) ggX7_rename_X5_lookUp
set_option maxRecDepth 20000 in
theorem ggX7_rename_X5_changeName : GoodIn wsX7_rename wsX5_changeName := goodIn_r _ [47, 48, 10, 11, 12, 13, 14, 15, 39, 17, 18, 19, 20, 21, 49, 50, 51, 52, 53, 54, 55, 56, 57, 58, 59, 60, 61, 62, 34, 63, 64, 65, 66, 26, 27, 28, 29, 67, 68, 69, 70, 77, 78, 79, 80, 81, 82, 83, 84, 85, 86] (by decide +kernel) (by decide +kernel)
set_option maxRecDepth 20000 in
theorem gX7_rename_X5_changeName : GoodIn wsX7_rename (wsV RX7 116 RX5 yX5_changeName wsX5_changeName) := goodIn_app (goodIn_of _ (by decide +kernel)) ggX7_rename_X5_changeName
set_option maxRecDepth 20000 in
theorem ggX7_rename_X4_shorten : GoodIn wsX7_rename wsX4_shorten := goodIn_r _ [58, 21, 80, 81] (by decide +kernel) (by decide +kernel)
set_option maxRecDepth 20000 in
theorem gX7_rename_X4_shorten : GoodIn wsX7_rename (wsV RX7 41 RX4 yX4_shorten wsX4_shorten) := goodIn_app (goodIn_of _ (by decide +kernel)) ggX7_rename_X4_shorten
set_option maxRecDepth 20000 in
theorem ggX7_remove_X5_entry : GoodIn wsX7_remove wsX5_entry := goodIn_r _ [8, 9, 10, 41, 42, 43] (by decide +kernel) (by decide +kernel)
set_option maxRecDepth 20000 in
theorem gX7_remove_X5_entry : GoodIn wsX7_remove (wsV RX7 101 RX5 yX5_entry wsX5_entry) := goodIn_app (goodIn_of _ (by decide +kernel)) ggX7_remove_X5_entry
set_option maxRecDepth 20000 in
theorem ggX7_remove_X5_takeOut : GoodIn wsX7_remove wsX5_takeOut := goodIn_r _ [14, 9, 10, 15, 5, 6, 7, 8, 16, 17, 18, 19, 20, 21, 22, 23, 24, 25, 26, 27, 28, 29, 30, 31, 32, 33, 34, 35, 41, 42, 43, 44, 45, 46, 47, 48, 49, 50] (by decide +kernel) (by decide +kernel)
set_option maxRecDepth 20000 in
theorem gX7_remove_X5_takeOut : GoodIn wsX7_remove (wsV RX7 119 RX5 yX5_takeOut wsX5_takeOut) := goodIn_app (goodIn_of _ (by decide +kernel)) ggX7_remove_X5_takeOut
set_option maxRecDepth 20000 in
theorem ggX7_sort_X5_putInOrder : GoodIn wsX7_sort wsX5_putInOrder := goodIn_r _ [6, 7, 8, 9, 10, 11, 12, 13, 14, 15, 16, 17, 18, 19, 25, 26, 27, 28, 29, 30, 31, 32, 33, 34] (by decide +kernel) (by decide +kernel)
set_option maxRecDepth 20000 in
theorem gX7_sort_X5_putInOrder : GoodIn wsX7_sort (wsV RX7 122 RX5 yX5_putInOrder wsX5_putInOrder) := goodIn_app (goodIn_of _ (by decide +kernel)) ggX7_sort_X5_putInOrder
set_option maxRecDepth 20000 in
theorem ggX7_clear_X5_takeOutAll : GoodIn wsX7_clear wsX5_takeOutAll := goodIn_r _ [6, 7, 8, 9, 10, 11, 12, 13, 14, 20, 21, 22, 23, 24] (by decide +kernel) (by decide +kernel)
set_option maxRecDepth 20000 in
theorem gX7_clear_X5_takeOutAll : GoodIn wsX7_clear (wsV RX7 125 RX5 yX5_takeOutAll wsX5_takeOutAll) := goodIn_app (goodIn_of _ (by decide +kernel)) ggX7_clear_X5_takeOutAll
set_option maxRecDepth 20000 in
theorem ggX7_make_X4_shorten : GoodIn wsX7_make wsX4_shorten := goodIn_r _ [7, 8, 120, 121] (by decide +kernel) (by decide +kernel)
set_option maxRecDepth 20000 in
theorem gX7_make_X4_shorten : GoodIn wsX7_make (wsV RX7 41 RX4 yX4_shorten wsX4_shorten) := goodIn_app (goodIn_of _ (by decide +kernel)) ggX7_make_X4_shorten
set_option maxRecDepth 20000 in
theorem ggX7_make_X5_writeLocals : GoodIn wsX7_make wsX5_writeLocals := goodIn_r _ [13, 14, 15, 16, 17, 18, 19, 20, 21, 22, 23, 6, 24, 25, 26, 27, 28, 8, 29, 30, 31, 32, 33, 34, 35, 36, 37, 38, 39, 40, 41, 42, 43, 44, 45, 46, 47, 48, 49, 50, 51, 52, 53, 54, 55, 56, 57, 58, 59, 60, 61, 62, 63, 64, 65, 66, 67, 68, 69, 70, 71, 72, 73, 74, 75, 76, 77, 78, 79, 80, 81, 82, 83, 84, 85, 86, 87, 88, 89, 90, 91, 92, 93, 122, 123, 124, 125, 126, 127, 128, 129, 120, 121] (by decide +kernel) (by decide +kernel)
set_option maxRecDepth 20000 in
theorem gX7_make_X5_writeLocals : GoodIn wsX7_make (wsV RX7 128 RX5 yX5_writeLocals wsX5_writeLocals) := goodIn_app (goodIn_of _ (by decide +kernel)) ggX7_make_X5_writeLocals
set_option maxRecDepth 20000 in
theorem ggX7_make_X4_size : GoodIn wsX7_make wsX4_size := goodIn_r _ [52, 8, 120, 121] (by decide +kernel) (by decide +kernel)
set_option maxRecDepth 20000 in
theorem gX7_make_X4_size : GoodIn wsX7_make (wsV RX7 56 RX4 yX4_size wsX4_size) := goodIn_app (goodIn_of _ (by decide +kernel)) ggX7_make_X4_size
set_option maxRecDepth 20000 in
theorem ggX7_make_X5_writeCentrals : GoodIn wsX7_make wsX5_writeCentrals := goodIn_r _ [98, 14, 15, 99, 100, 19, 101, 21, 22, 23, 6, 24, 25, 26, 27, 28, 8, 29, 33, 34, 35, 36, 30, 31, 32, 37, 38, 39, 40, 41, 42, 43, 44, 45, 46, 47, 48, 49, 50, 51, 52, 53, 54, 55, 56, 57, 58, 59, 60, 61, 62, 63, 64, 65, 66, 67, 68, 102, 103, 104, 105, 106, 107, 122, 123, 124, 125, 126, 127, 128, 129, 120, 121] (by decide +kernel) (by decide +kernel)
set_option maxRecDepth 20000 in
theorem gX7_make_X5_writeCentrals : GoodIn wsX7_make (wsV RX7 132 RX5 yX5_writeCentrals wsX5_writeCentrals) := goodIn_app (goodIn_of _ (by decide +kernel)) ggX7_make_X5_writeCentrals
set_option maxRecDepth 20000 in
theorem ggX7_make_X5_count : GoodIn wsX7_make wsX5_count := goodIn_r _ [111, 14, 122, 123, 124] (by decide +kernel) (by decide +kernel)
set_option maxRecDepth 20000 in
theorem gX7_make_X5_count : GoodIn wsX7_make (wsV RX7 98 RX5 yX5_count wsX5_count) := goodIn_app (goodIn_of _ (by decide +kernel)) ggX7_make_X5_count
set_option maxRecDepth 20000 in
theorem ggX7_make_X6_writeEnd : GoodIn wsX7_make wsX6_writeEnd := goodIn_r _ [114, 21, 22, 23, 6, 24, 25, 26, 27, 28, 8, 29, 33, 34, 35, 36, 44, 45, 46, 47, 48, 120, 121] (by decide +kernel) (by decide +kernel)
set_option maxRecDepth 20000 in
theorem gX7_make_X6_writeEnd : GoodIn wsX7_make (va_wsS RX7 135 yX6_writeEnd wsX6_writeEnd) := goodIn_app (goodIn_of _ (by decide +kernel)) ggX7_make_X6_writeEnd
set_option maxRecDepth 20000 in
theorem ggX7_read_X3_passes : GoodIn wsX7_read wsX3_passes := goodIn_r _ [10, 11, 12, 13, 14, 15, 16, 9, 17, 18, 19, 20, 21, 22, 23, 24, 25, 26, 27, 28, 29, 30, 31, 32, 33, 34, 35, 36, 37, 38, 39, 40, 41, 42, 43, 44, 45, 46, 47, 48, 49, 50, 51, 52, 53, 54, 55, 56, 57, 58, 59, 60, 61, 62, 63, 64, 65, 66, 67, 68, 69, 70, 71, 72, 73, 74, 75, 76, 77, 78, 79, 80, 81, 82, 83, 84, 85, 86, 87, 88, 89, 90, 91, 92, 93, 94, 95, 96, 97, 98, 99, 100, 101, 102, 103, 104, 105, 106, 107, 108, 109, 110, 111, 112, 113, 114, 115, 116, 117, 118, 119, 120, 121, 122, 123, 124, 125, 126, 127, 128, 129, 130, 131, 132, 133, 134, 135, 136, 137, 138, 139, 140, 141, 142, 143, 144, 145, 146, 147, 148, 149, 150, 151, 152, 153, 154, 155, 156, 157, 158, 159, 160, 161, 162, 163, 219, 220, 221, 222, 223, 224, 225, 226, 227, 228, 229, 230, 231, 232, 233, 234, 235] (by decide +kernel) (by decide +kernel)
set_option maxRecDepth 20000 in
theorem gX7_read_X3_passes : GoodIn wsX7_read (wsV RX7 141 RX3 yX3_passes wsX3_passes) := goodIn_app (goodIn_of _ (by decide +kernel)) ggX7_read_X3_passes
set_option maxRecDepth 20000 in
theorem ggX7_read_X5_takeOutAll : GoodIn wsX7_read wsX5_takeOutAll := goodIn_r _ [168, 169, 170, 171, 126, 127, 26, 128, 28, 236, 237, 238, 229, 230] (by decide +kernel) (by decide +kernel)
set_option maxRecDepth 20000 in
theorem gX7_read_X5_takeOutAll : GoodIn wsX7_read (wsV RX7 125 RX5 yX5_takeOutAll wsX5_takeOutAll) := goodIn_app (goodIn_of _ (by decide +kernel)) ggX7_read_X5_takeOutAll
set_option maxRecDepth 20000 in
theorem ggX7_read_X3_load : GoodIn wsX7_read wsX3_load := goodIn_r _ [175, 33, 67, 66, 101, 124, 72, 73, 74, 75, 76, 77, 78, 79, 80, 81, 82, 36, 37, 26, 38, 28, 83, 49, 50, 51, 47, 52, 84, 54, 55, 56, 57, 120, 121, 122, 9, 123, 125, 126, 127, 128, 106, 107, 108, 109, 129, 130, 131, 132, 133, 134, 135, 136, 137, 138, 139, 140, 141, 142, 143, 144, 145, 146, 44, 45, 46, 147, 148, 149, 150, 151, 152, 153, 154, 155, 23, 24, 25, 27, 176, 177, 178, 167, 179, 169, 180, 181, 182, 183, 184, 185, 186, 187, 188, 189, 190, 191, 192, 170, 193, 194, 20, 195, 196, 197, 198, 161, 162, 163, 199, 200, 201, 202, 203, 204, 205, 19, 21, 206, 207, 208, 209, 219, 220, 221, 222, 223, 224, 225, 226, 227, 228, 231, 232, 233, 234, 235, 229, 230, 236, 237, 238, 239, 240, 241, 242, 243] (by decide +kernel) (by decide +kernel)
set_option maxRecDepth 20000 in
theorem gX7_read_X3_load : GoodIn wsX7_read (wsV RX7 147 RX3 yX3_load wsX3_load) := goodIn_app (goodIn_of _ (by decide +kernel)) ggX7_read_X3_load
set_option maxRecDepth 20000 in
theorem ggX7_read_X5_count : GoodIn wsX7_read wsX5_count := goodIn_r _ [213, 169, 236, 237, 238] (by decide +kernel) (by decide +kernel)
set_option maxRecDepth 20000 in
theorem gX7_read_X5_count : GoodIn wsX7_read (wsV RX7 98 RX5 yX5_count wsX5_count) := goodIn_app (goodIn_of _ (by decide +kernel)) ggX7_read_X5_count
set_option maxRecDepth 20000 in
theorem ggX7_fault_X3_faultNumber : GoodIn wsX7_fault wsX3_faultNumber := goodIn_r _ [6, 7, 23, 24, 25, 26, 27, 28, 29, 30, 31, 32] (by decide +kernel) (by decide +kernel)
set_option maxRecDepth 20000 in
theorem gX7_fault_X3_faultNumber : GoodIn wsX7_fault (wsV RX7 151 RX3 yX3_faultNumber wsX3_faultNumber) := goodIn_app (goodIn_of _ (by decide +kernel)) ggX7_fault_X3_faultNumber
set_option maxRecDepth 20000 in
theorem ggX7_fault_X3_faultFile : GoodIn wsX7_fault wsX3_faultFile := goodIn_r _ [11, 12, 23, 24, 25, 26, 27, 28, 29, 30, 31, 32] (by decide +kernel) (by decide +kernel)
set_option maxRecDepth 20000 in
theorem gX7_fault_X3_faultFile : GoodIn wsX7_fault (wsV RX7 154 RX3 yX3_faultFile wsX3_faultFile) := goodIn_app (goodIn_of _ (by decide +kernel)) ggX7_fault_X3_faultFile
set_option maxRecDepth 20000 in
theorem ggX7_fault_X3_faultPlace : GoodIn wsX7_fault wsX3_faultPlace := goodIn_r _ [16, 17, 23, 24, 25, 26, 27, 28, 29, 30, 31, 32] (by decide +kernel) (by decide +kernel)
set_option maxRecDepth 20000 in
theorem gX7_fault_X3_faultPlace : GoodIn wsX7_fault (wsV RX7 157 RX3 yX3_faultPlace wsX3_faultPlace) := goodIn_app (goodIn_of _ (by decide +kernel)) ggX7_fault_X3_faultPlace
set_option maxRecDepth 20000 in
theorem ggX7_save_X4_size : GoodIn wsX7_save wsX4_size := goodIn_r _ [6, 7, 195, 196] (by decide +kernel) (by decide +kernel)
set_option maxRecDepth 20000 in
theorem gX7_save_X4_size : GoodIn wsX7_save (wsV RX7 56 RX4 yX4_size wsX4_size) := goodIn_app (goodIn_of _ (by decide +kernel)) ggX7_save_X4_size
set_option maxRecDepth 20000 in
theorem ggX7_save_X7_saveFrom : GoodIn wsX7_save wsX7_saveFrom := goodIn_r _ [12, 13, 1, 14, 15, 16, 17, 18, 19, 20, 21, 22, 23, 5, 24, 25, 26, 27, 28, 7, 29, 30, 31, 32, 33, 34, 35, 36, 37, 38, 39, 40, 41, 42, 43, 44, 45, 46, 47, 48, 49, 50, 51, 52, 53, 54, 55, 56, 57, 58, 3, 4, 6, 59, 60, 61, 62, 63, 64, 65, 66, 67, 68, 69, 70, 71, 72, 73, 74, 75, 76, 77, 78, 79, 80, 81, 82, 83, 84, 85, 86, 87, 88, 89, 90, 91, 92, 93, 94, 95, 96, 97, 98, 99, 100, 101, 102, 103, 104, 105, 106, 107, 108, 109, 110, 111, 112, 113, 114, 115, 116, 117, 118, 119, 120, 121, 122, 123, 124, 125, 126, 127, 128, 129, 130, 131, 2, 132, 133, 134, 135, 136, 137, 138, 139, 140, 141, 142, 143, 144, 145, 146, 147, 148, 149, 150, 151, 152, 153, 154, 155, 156, 157, 158, 159, 160, 161, 162, 163, 164, 165, 166, 167, 168, 169, 170, 171, 172, 173, 174, 175, 176, 177, 178, 179, 180, 181, 182, 183, 184, 185, 186, 187, 188, 189, 190, 191, 192, 193, 194, 197, 198, 199, 200, 201, 202, 203, 204, 205, 206, 207, 208, 209, 210, 211, 195, 196, 212, 213, 214, 215, 216, 217, 218, 219] (by decide +kernel) (by decide +kernel)
set_option maxRecDepth 20000 in
theorem gX7_save_X7_saveFrom : GoodIn wsX7_save (wsV RX7 160 RX7 yX7_saveFrom wsX7_saveFrom) := goodIn_app (goodIn_of _ (by decide +kernel)) ggX7_save_X7_saveFrom
set_option maxRecDepth 20000 in
theorem ggX7_saveFrom_X3_wholeAt : GoodIn wsX7_saveFrom wsX3_wholeAt := goodIn_r _ [8, 9, 10, 11, 12, 13, 14, 15, 16, 17, 18, 19, 20, 21, 22, 23, 24, 25, 26, 27, 28, 29, 30, 31, 32, 33, 34, 35, 36, 37, 38, 39, 40, 41, 42, 43, 44, 45, 46, 47, 48, 49, 50, 51, 52, 53, 54, 55, 56, 57, 58, 59, 60, 7, 61, 62, 63, 64, 65, 66, 67, 68, 69, 70, 71, 72, 73, 74, 75, 76, 77, 78, 79, 80, 81, 82, 83, 84, 85, 86, 87, 88, 89, 90, 91, 92, 93, 94, 95, 96, 97, 98, 99, 100, 101, 102, 103, 104, 105, 190, 191, 192, 193, 194, 195, 196, 197, 198, 199, 200, 201, 202, 203, 204, 205, 206] (by decide +kernel) (by decide +kernel)
set_option maxRecDepth 20000 in
theorem gX7_saveFrom_X3_wholeAt : GoodIn wsX7_saveFrom (wsV RX7 164 RX3 yX3_wholeAt wsX3_wholeAt) := goodIn_app (goodIn_of _ (by decide +kernel)) ggX7_saveFrom_X3_wholeAt
set_option maxRecDepth 20000 in
theorem ggX7_saveFrom_X3_nameSize : GoodIn wsX7_saveFrom wsX3_nameSize := goodIn_r _ [109, 9, 190, 191, 192, 193, 194, 195, 196, 197, 198, 199, 200, 201, 202, 203, 204] (by decide +kernel) (by decide +kernel)
set_option maxRecDepth 20000 in
theorem gX7_saveFrom_X3_nameSize : GoodIn wsX7_saveFrom (wsV RX7 168 RX3 yX3_nameSize wsX3_nameSize) := goodIn_app (goodIn_of _ (by decide +kernel)) ggX7_saveFrom_X3_nameSize
set_option maxRecDepth 20000 in
theorem ggX7_saveFrom_X3_unpacked : GoodIn wsX7_saveFrom wsX3_unpacked := goodIn_r _ [113, 62, 190, 191, 192, 193, 194, 195, 196, 197, 198, 199] (by decide +kernel) (by decide +kernel)
set_option maxRecDepth 20000 in
theorem gX7_saveFrom_X3_unpacked : GoodIn wsX7_saveFrom (wsV RX7 171 RX3 yX3_unpacked wsX3_unpacked) := goodIn_app (goodIn_of _ (by decide +kernel)) ggX7_saveFrom_X3_unpacked
set_option maxRecDepth 20000 in
theorem ggX7_saveFrom_X5_lookUp : GoodIn wsX7_saveFrom wsX5_lookUp := goodIn_r _ [118, 119, 120, 121, 50, 51, 13, 52, 19, 122, 123, 124, 125, 39, 32, 33, 34, 15, 16, 17, 18, 20, 207, 208, 209, 210, 211, 212, 213, 214, 205, 206] (by decide +kernel) (by decide +kernel)
set_option maxRecDepth 20000 in
theorem gX7_saveFrom_X5_lookUp : GoodIn wsX7_saveFrom (wsV RX7 83 RX5 yX5_lookUp wsX5_lookUp) := goodIn_app (goodIn_of _ (by decide +kernel)) ggX7_saveFrom_X5_lookUp
set_option maxRecDepth 20000 in
theorem ggX7_saveFrom_X4_size : GoodIn wsX7_saveFrom wsX4_size := goodIn_r _ [52, 19, 205, 206] (by decide +kernel) (by decide +kernel)
set_option maxRecDepth 20000 in
theorem gX7_saveFrom_X4_size : GoodIn wsX7_saveFrom (wsV RX7 56 RX4 yX4_size wsX4_size) := goodIn_app (goodIn_of _ (by decide +kernel)) ggX7_saveFrom_X4_size
set_option maxRecDepth 20000 in
theorem ggX7_saveFrom_X5_hasRoom : GoodIn wsX7_saveFrom wsX5_hasRoom := goodIn_r _ [130, 119, 131, 132, 133, 134, 117, 135, 120, 136, 80, 81, 13, 82, 20, 19, 207, 208, 209, 210, 211, 212, 213, 214, 205, 206] (by decide +kernel) (by decide +kernel)
set_option maxRecDepth 20000 in
theorem gX7_saveFrom_X5_hasRoom : GoodIn wsX7_saveFrom (wsV RX7 89 RX5 yX5_hasRoom wsX5_hasRoom) := goodIn_app (goodIn_of _ (by decide +kernel)) ggX7_saveFrom_X5_hasRoom
set_option maxRecDepth 20000 in
theorem ggX7_saveFrom_X5_takeOut : GoodIn wsX7_saveFrom wsX5_takeOut := goodIn_r _ [140, 119, 120, 132, 133, 134, 117, 135, 141, 142, 143, 144, 131, 145, 146, 147, 13, 148, 20, 19, 75, 76, 77, 78, 39, 32, 33, 34, 207, 208, 209, 210, 211, 212, 213, 214, 205, 206] (by decide +kernel) (by decide +kernel)
set_option maxRecDepth 20000 in
theorem gX7_saveFrom_X5_takeOut : GoodIn wsX7_saveFrom (wsV RX7 119 RX5 yX5_takeOut wsX5_takeOut) := goodIn_app (goodIn_of _ (by decide +kernel)) ggX7_saveFrom_X5_takeOut
set_option maxRecDepth 20000 in
theorem ggX7_saveFrom_X5_put : GoodIn wsX7_saveFrom wsX5_put := goodIn_r _ [152, 119, 120, 153, 154, 155, 156, 157, 158, 159, 64, 65, 13, 66, 19, 160, 72, 73, 74, 20, 75, 76, 77, 78, 39, 32, 33, 34, 79, 80, 81, 82, 161, 162, 163, 117, 164, 131, 165, 166, 167, 168, 121, 50, 51, 52, 169, 170, 103, 85, 104, 105, 88, 16, 17, 18, 171, 172, 173, 174, 175, 176, 177, 178, 179, 180, 181, 182, 183, 207, 208, 209, 210, 211, 212, 213, 214, 205, 206] (by decide +kernel) (by decide +kernel)
set_option maxRecDepth 20000 in
theorem gX7_saveFrom_X5_put : GoodIn wsX7_saveFrom (wsV RX7 94 RX5 yX5_put wsX5_put) := goodIn_app (goodIn_of _ (by decide +kernel)) ggX7_saveFrom_X5_put
set_option maxRecDepth 20000 in
theorem ggX7_saveFrom_X3_packedSize : GoodIn wsX7_saveFrom wsX3_packedSize := goodIn_r _ [70, 9, 190, 191, 192, 193, 194, 195, 196, 197, 198, 199, 200, 201, 202, 203, 204] (by decide +kernel) (by decide +kernel)
set_option maxRecDepth 20000 in
theorem gX7_saveFrom_X3_packedSize : GoodIn wsX7_saveFrom (wsV RX7 175 RX3 yX3_packedSize wsX3_packedSize) := goodIn_app (goodIn_of _ (by decide +kernel)) ggX7_saveFrom_X3_packedSize
set_option maxRecDepth 20000 in
theorem ggX7_file_X5_entry : GoodIn wsX7_file wsX5_entry := goodIn_r _ [6, 7, 8, 32, 33, 34] (by decide +kernel) (by decide +kernel)
set_option maxRecDepth 20000 in
theorem gX7_file_X5_entry : GoodIn wsX7_file (wsV RX7 101 RX5 yX5_entry wsX5_entry) := goodIn_app (goodIn_of _ (by decide +kernel)) ggX7_file_X5_entry
set_option maxRecDepth 20000 in
theorem ggX7_file_X4_size : GoodIn wsX7_file wsX4_size := goodIn_r _ [13, 14, 35, 36] (by decide +kernel) (by decide +kernel)
set_option maxRecDepth 20000 in
theorem gX7_file_X4_size : GoodIn wsX7_file (wsV RX7 56 RX4 yX4_size wsX4_size) := goodIn_app (goodIn_of _ (by decide +kernel)) ggX7_file_X4_size
set_option maxRecDepth 20000 in
theorem ggX7_file_X1_method : GoodIn wsX7_file wsX1_method := goodIn_r _ [19, 20, 21, 27, 28, 29, 30, 31] (by decide +kernel) (by decide +kernel)
set_option maxRecDepth 20000 in
theorem gX7_file_X1_method : GoodIn wsX7_file (wsV RX7 189 RX1 yX1_method wsX1_method) := goodIn_app (goodIn_of _ (by decide +kernel)) ggX7_file_X1_method
set_option maxRecDepth 20000 in
theorem ggX7_letter_X5_entry : GoodIn wsX7_letter wsX5_entry := goodIn_r _ [6, 7, 8, 32, 33, 34] (by decide +kernel) (by decide +kernel)
set_option maxRecDepth 20000 in
theorem gX7_letter_X5_entry : GoodIn wsX7_letter (wsV RX7 101 RX5 yX5_entry wsX5_entry) := goodIn_app (goodIn_of _ (by decide +kernel)) ggX7_letter_X5_entry
set_option maxRecDepth 20000 in
theorem ggX7_letter_X4_at : GoodIn wsX7_letter wsX4_at := goodIn_r _ [13, 14, 15, 35, 36] (by decide +kernel) (by decide +kernel)
set_option maxRecDepth 20000 in
theorem gX7_letter_X4_at : GoodIn wsX7_letter (wsV RX7 195 RX4 yX4_at wsX4_at) := goodIn_app (goodIn_of _ (by decide +kernel)) ggX7_letter_X4_at
set_option maxRecDepth 20000 in
theorem ggX7_letter_X5_byteOf : GoodIn wsX7_letter wsX5_byteOf := goodIn_r _ [19, 20, 21, 10, 11, 12, 13, 14, 15, 27, 28, 29, 30, 31, 32, 33, 34, 35, 36] (by decide +kernel) (by decide +kernel)
set_option maxRecDepth 20000 in
theorem gX7_letter_X5_byteOf : GoodIn wsX7_letter (wsV RX7 198 RX5 yX5_byteOf wsX5_byteOf) := goodIn_app (goodIn_of _ (by decide +kernel)) ggX7_letter_X5_byteOf
set_option maxRecDepth 20000 in
theorem ggX7_find_X4_size : GoodIn wsX7_find wsX4_size := goodIn_r _ [7, 8, 35, 36] (by decide +kernel) (by decide +kernel)
set_option maxRecDepth 20000 in
theorem gX7_find_X4_size : GoodIn wsX7_find (wsV RX7 56 RX4 yX4_size wsX4_size) := goodIn_app (goodIn_of _ (by decide +kernel)) ggX7_find_X4_size
set_option maxRecDepth 20000 in
theorem ggX7_find_X5_lookUp : GoodIn wsX7_find wsX5_lookUp := goodIn_r _ [13, 14, 15, 16, 4, 5, 6, 7, 8, 17, 18, 19, 20, 21, 22, 23, 24, 25, 26, 27, 28, 29, 37, 38, 39, 40, 41, 42, 43, 44, 35, 36] (by decide +kernel) (by decide +kernel)
set_option maxRecDepth 20000 in
theorem gX7_find_X5_lookUp : GoodIn wsX7_find (wsV RX7 83 RX5 yX5_lookUp wsX5_lookUp) := goodIn_app (goodIn_of _ (by decide +kernel)) ggX7_find_X5_lookUp
set_option maxRecDepth 20000 in
theorem ggX7_output_X4_at : GoodIn wsX7_output wsX4_at := goodIn_r _ [6, 7, 8, 14, 15] (by decide +kernel) (by decide +kernel)
set_option maxRecDepth 20000 in
theorem gX7_output_X4_at : GoodIn wsX7_output (wsV RX7 195 RX4 yX4_at wsX4_at) := goodIn_app (goodIn_of _ (by decide +kernel)) ggX7_output_X4_at
set_option maxRecDepth 20000 in
theorem ggX7_about_X4_size : GoodIn wsX7_about wsX4_size := goodIn_r _ [8, 9, 27, 28] (by decide +kernel) (by decide +kernel)
set_option maxRecDepth 20000 in
theorem gX7_about_X4_size : GoodIn wsX7_about (wsV RX7 56 RX4 yX4_size wsX4_size) := goodIn_app (goodIn_of _ (by decide +kernel)) ggX7_about_X4_size
set_option maxRecDepth 20000 in
theorem ggX7_about_X5_count : GoodIn wsX7_about wsX5_count := goodIn_r _ [14, 15, 29, 30, 31] (by decide +kernel) (by decide +kernel)
set_option maxRecDepth 20000 in
theorem gX7_about_X5_count : GoodIn wsX7_about (wsV RX7 98 RX5 yX5_count wsX5_count) := goodIn_app (goodIn_of _ (by decide +kernel)) ggX7_about_X5_count
set_option maxRecDepth 20000 in
theorem ggX7_about_X5_together : GoodIn wsX7_about wsX5_together := goodIn_r _ [19, 20, 21, 5, 6, 7, 8, 9, 29, 30, 31, 27, 28] (by decide +kernel) (by decide +kernel)
set_option maxRecDepth 20000 in
theorem gX7_about_X5_together : GoodIn wsX7_about (wsV RX7 202 RX5 yX5_together wsX5_together) := goodIn_app (goodIn_of _ (by decide +kernel)) ggX7_about_X5_together
set_option maxRecDepth 20000 in
theorem ggX8_goes_X8_copyFile : GoodIn wsX8_goes wsX8_copyFile := goodIn_r _ [6, 7, 8, 9, 10, 11, 12, 13, 14, 15, 16, 17, 18, 19, 20, 21, 22, 23, 24, 25, 26, 27, 28, 29] (by decide +kernel) (by decide +kernel)
set_option maxRecDepth 20000 in
theorem gX8_goes_X8_copyFile : GoodIn wsX8_goes (wsV RX8 62 RX8 yX8_copyFile wsX8_copyFile) := goodIn_app (goodIn_of _ (by decide +kernel)) ggX8_goes_X8_copyFile
set_option maxRecDepth 20000 in
theorem ggX8_add_X8_isName : GoodIn wsX8_add wsX8_isName := goodIn_r _ [8, 9, 30, 31, 32, 33, 34, 35, 36, 37, 38, 39, 40, 41, 42, 43, 44, 45, 46, 47, 48] (by decide +kernel) (by decide +kernel)
set_option maxRecDepth 20000 in
theorem gX8_add_X8_isName : GoodIn wsX8_add (wsV RX8 66 RX8 yX8_isName wsX8_isName) := goodIn_app (goodIn_of _ (by decide +kernel)) ggX8_add_X8_isName
set_option maxRecDepth 20000 in
theorem ggX8_add_X8_named : GoodIn wsX8_add wsX8_named := goodIn_r _ [13, 14, 15, 9, 30, 31, 32, 33, 34, 35, 36, 37, 38, 39, 40, 41, 42, 43, 44, 45, 46, 47, 48] (by decide +kernel) (by decide +kernel)
set_option maxRecDepth 20000 in
theorem gX8_add_X8_named : GoodIn wsX8_add (wsV RX8 70 RX8 yX8_named wsX8_named) := goodIn_app (goodIn_of _ (by decide +kernel)) ggX8_add_X8_named
set_option maxRecDepth 20000 in
theorem ggX8_add_X8_total : GoodIn wsX8_add wsX8_total := goodIn_r _ [19, 3, 20, 30, 31, 32, 33, 34, 35, 36, 37, 38, 39, 40, 41, 42, 43, 44, 45, 46, 47, 48] (by decide +kernel) (by decide +kernel)
set_option maxRecDepth 20000 in
theorem gX8_add_X8_total : GoodIn wsX8_add (wsV RX8 74 RX8 yX8_total wsX8_total) := goodIn_app (goodIn_of _ (by decide +kernel)) ggX8_add_X8_total
set_option maxRecDepth 20000 in
theorem ggX8_add_X8_setName : GoodIn wsX8_add wsX8_setName := goodIn_r _ [24, 15, 9, 14, 30, 31, 32, 33, 34, 35, 36, 37, 38, 39, 40, 41, 42, 43, 44, 45, 46, 47, 48] (by decide +kernel) (by decide +kernel)
set_option maxRecDepth 20000 in
theorem gX8_add_X8_setName : GoodIn wsX8_add (wsV RX8 78 RX8 yX8_setName wsX8_setName) := goodIn_app (goodIn_of _ (by decide +kernel)) ggX8_add_X8_setName
set_option maxRecDepth 20000 in
theorem ggX8_add_X8_setBytes : GoodIn wsX8_add wsX8_setBytes := goodIn_r _ [28, 29, 9, 20, 30, 31, 32, 33, 34, 35, 36, 37, 38, 39, 40, 41, 42, 43, 44, 45, 46, 47, 48] (by decide +kernel) (by decide +kernel)
set_option maxRecDepth 20000 in
theorem gX8_add_X8_setBytes : GoodIn wsX8_add (wsV RX8 82 RX8 yX8_setBytes wsX8_setBytes) := goodIn_app (goodIn_of _ (by decide +kernel)) ggX8_add_X8_setBytes
set_option maxRecDepth 20000 in
theorem ggX8_replace_X8_isFile : GoodIn wsX8_replace wsX8_isFile := goodIn_r _ [8, 9, 20, 21, 22, 23, 24, 25, 26, 27, 28, 29, 30, 31, 32, 33, 34, 35, 36, 37, 38] (by decide +kernel) (by decide +kernel)
set_option maxRecDepth 20000 in
theorem gX8_replace_X8_isFile : GoodIn wsX8_replace (wsV RX8 85 RX8 yX8_isFile wsX8_isFile) := goodIn_app (goodIn_of _ (by decide +kernel)) ggX8_replace_X8_isFile
set_option maxRecDepth 20000 in
theorem ggX8_replace_X8_total : GoodIn wsX8_replace wsX8_total := goodIn_r _ [13, 9, 2, 20, 21, 22, 23, 24, 25, 26, 27, 28, 29, 30, 31, 32, 33, 34, 35, 36, 37, 38] (by decide +kernel) (by decide +kernel)
set_option maxRecDepth 20000 in
theorem gX8_replace_X8_total : GoodIn wsX8_replace (wsV RX8 74 RX8 yX8_total wsX8_total) := goodIn_app (goodIn_of _ (by decide +kernel)) ggX8_replace_X8_total
set_option maxRecDepth 20000 in
theorem ggX8_replace_X8_setBytes : GoodIn wsX8_replace wsX8_setBytes := goodIn_r _ [17, 18, 19, 2, 20, 21, 22, 23, 24, 25, 26, 27, 28, 29, 30, 31, 32, 33, 34, 35, 36, 37, 38] (by decide +kernel) (by decide +kernel)
set_option maxRecDepth 20000 in
theorem gX8_replace_X8_setBytes : GoodIn wsX8_replace (wsV RX8 82 RX8 yX8_setBytes wsX8_setBytes) := goodIn_app (goodIn_of _ (by decide +kernel)) ggX8_replace_X8_setBytes
set_option maxRecDepth 20000 in
theorem ggX8_rename_X8_isFile : GoodIn wsX8_rename wsX8_isFile := goodIn_r _ [8, 3, 24, 25, 26, 27, 28, 29, 30, 31, 32, 33, 34, 35, 36, 37, 38, 39, 40, 41, 42] (by decide +kernel) (by decide +kernel)
set_option maxRecDepth 20000 in
theorem gX8_rename_X8_isFile : GoodIn wsX8_rename (wsV RX8 85 RX8 yX8_isFile wsX8_isFile) := goodIn_app (goodIn_of _ (by decide +kernel)) ggX8_rename_X8_isFile
set_option maxRecDepth 20000 in
theorem ggX8_rename_X8_isName : GoodIn wsX8_rename wsX8_isName := goodIn_r _ [12, 13, 24, 25, 26, 27, 28, 29, 30, 31, 32, 33, 34, 35, 36, 37, 38, 39, 40, 41, 42] (by decide +kernel) (by decide +kernel)
set_option maxRecDepth 20000 in
theorem gX8_rename_X8_isName : GoodIn wsX8_rename (wsV RX8 66 RX8 yX8_isName wsX8_isName) := goodIn_app (goodIn_of _ (by decide +kernel)) ggX8_rename_X8_isName
set_option maxRecDepth 20000 in
theorem ggX8_rename_X8_named : GoodIn wsX8_rename wsX8_named := goodIn_r _ [17, 18, 19, 13, 24, 25, 26, 27, 28, 29, 30, 31, 32, 33, 34, 35, 36, 37, 38, 39, 40, 41, 42] (by decide +kernel) (by decide +kernel)
set_option maxRecDepth 20000 in
theorem gX8_rename_X8_named : GoodIn wsX8_rename (wsV RX8 70 RX8 yX8_named wsX8_named) := goodIn_app (goodIn_of _ (by decide +kernel)) ggX8_rename_X8_named
set_option maxRecDepth 20000 in
theorem ggX8_rename_X8_setName : GoodIn wsX8_rename wsX8_setName := goodIn_r _ [23, 19, 13, 18, 24, 25, 26, 27, 28, 29, 30, 31, 32, 33, 34, 35, 36, 37, 38, 39, 40, 41, 42] (by decide +kernel) (by decide +kernel)
set_option maxRecDepth 20000 in
theorem gX8_rename_X8_setName : GoodIn wsX8_rename (wsV RX8 78 RX8 yX8_setName wsX8_setName) := goodIn_app (goodIn_of _ (by decide +kernel)) ggX8_rename_X8_setName
set_option maxRecDepth 20000 in
theorem ggX8_remove_X8_isFile : GoodIn wsX8_remove wsX8_isFile := goodIn_r _ [6, 7, 20, 21, 22, 23, 24, 25, 26, 27, 28, 29, 30, 31, 32, 33, 34, 35, 36, 37, 38] (by decide +kernel) (by decide +kernel)
set_option maxRecDepth 20000 in
theorem gX8_remove_X8_isFile : GoodIn wsX8_remove (wsV RX8 85 RX8 yX8_isFile wsX8_isFile) := goodIn_app (goodIn_of _ (by decide +kernel)) ggX8_remove_X8_isFile
set_option maxRecDepth 20000 in
theorem ggX8_remove_X8_goes : GoodIn wsX8_remove wsX8_goes := goodIn_r _ [11, 7, 12, 13, 14, 5, 15, 16, 17, 18, 19, 20, 21, 22, 23, 24, 25, 26, 27, 28, 29, 30, 31, 32, 33, 34, 35, 36, 37, 38] (by decide +kernel) (by decide +kernel)
set_option maxRecDepth 20000 in
theorem gX8_remove_X8_goes : GoodIn wsX8_remove (wsV RX8 89 RX8 yX8_goes wsX8_goes) := goodIn_app (goodIn_of _ (by decide +kernel)) ggX8_remove_X8_goes
set_option maxRecDepth 20000 in
theorem ggX8_sort_X8_isAhead : GoodIn wsX8_sort wsX8_isAhead := goodIn_r _ [7, 8, 9, 16, 17, 18, 19, 20, 21, 22, 23, 24, 25, 26, 27, 28, 29, 30, 31, 32, 33, 34] (by decide +kernel) (by decide +kernel)
set_option maxRecDepth 20000 in
theorem gX8_sort_X8_isAhead : GoodIn wsX8_sort (wsV RX8 93 RX8 yX8_isAhead wsX8_isAhead) := goodIn_app (goodIn_of _ (by decide +kernel)) ggX8_sort_X8_isAhead
set_option maxRecDepth 20000 in
theorem ggX8_sort_X8_copyFile : GoodIn wsX8_sort wsX8_copyFile := goodIn_r _ [13, 9, 8, 14, 15, 16, 17, 18, 19, 20, 21, 22, 23, 24, 25, 26, 27, 28, 29, 30, 31, 32, 33, 34] (by decide +kernel) (by decide +kernel)
set_option maxRecDepth 20000 in
theorem gX8_sort_X8_copyFile : GoodIn wsX8_sort (wsV RX8 62 RX8 yX8_copyFile wsX8_copyFile) := goodIn_app (goodIn_of _ (by decide +kernel)) ggX8_sort_X8_copyFile
set_option maxRecDepth 20000 in
theorem ggX8_fold_X8_alike : GoodIn wsX8_fold wsX8_alike := goodIn_r _ [8, 2, 3, 14, 15, 16, 17, 18, 19, 20, 21, 22, 23, 24, 25, 26, 27, 28, 29, 30, 31, 32] (by decide +kernel) (by decide +kernel)
set_option maxRecDepth 20000 in
theorem gX8_fold_X8_alike : GoodIn wsX8_fold (wsV RX8 99 RX8 yX8_alike wsX8_alike) := goodIn_app (goodIn_of _ (by decide +kernel)) ggX8_fold_X8_alike
set_option maxRecDepth 20000 in
theorem ggX8_fold_X8_put : GoodIn wsX8_fold wsX8_put := goodIn_r _ [12, 13, 1, 14, 15, 16, 17, 18, 19, 20, 21, 22, 23, 24, 25, 26, 27, 28, 29, 30, 31, 32] (by decide +kernel) (by decide +kernel)
set_option maxRecDepth 20000 in
theorem gX8_fold_X8_put : GoodIn wsX8_fold (wsV RX8 103 RX8 yX8_put wsX8_put) := goodIn_app (goodIn_of _ (by decide +kernel)) ggX8_fold_X8_put
set_option maxRecDepth 20000 in
theorem ggX8_method_X8_fold : GoodIn wsX8_method wsX8_fold := goodIn_r _ [7, 1, 2, 8, 9, 10, 11, 6, 12, 13, 14, 15, 16, 17, 18, 19, 20, 21, 22, 23, 24, 25, 26, 27, 28, 29, 30, 31, 32, 33, 34, 35, 36] (by decide +kernel) (by decide +kernel)
set_option maxRecDepth 20000 in
theorem gX8_method_X8_fold : GoodIn wsX8_method (wsV RX8 106 RX8 yX8_fold wsX8_fold) := goodIn_app (goodIn_of _ (by decide +kernel)) ggX8_method_X8_fold
set_option maxRecDepth 20000 in
theorem ggX8_packedSize_X8_method : GoodIn wsX8_packedSize wsX8_method := goodIn_r _ [7, 1, 2, 8, 9, 10, 6, 11, 12, 13, 14, 15, 16, 17, 18, 19, 20, 21, 22, 23, 24, 25, 26, 27, 28, 29, 30, 31, 32, 33, 34, 35, 36, 37, 38, 39, 40] (by decide +kernel) (by decide +kernel)
set_option maxRecDepth 20000 in
theorem gX8_packedSize_X8_method : GoodIn wsX8_packedSize (wsV RX8 109 RX8 yX8_method wsX8_method) := goodIn_app (goodIn_of _ (by decide +kernel)) ggX8_packedSize_X8_method
set_option maxRecDepth 20000 in
theorem ggX8_writeFacts_X8_write : GoodIn wsX8_writeFacts wsX8_write := goodIn_r _ [7, 8, 9, 38, 39, 40, 41, 42, 43, 44, 45, 46, 47, 48, 49, 50, 51, 52, 53, 54, 55, 56] (by decide +kernel) (by decide +kernel)
set_option maxRecDepth 20000 in
theorem gX8_writeFacts_X8_write : GoodIn wsX8_writeFacts (wsV RX8 114 RX8 yX8_write wsX8_write) := goodIn_app (goodIn_of _ (by decide +kernel)) ggX8_writeFacts_X8_write
set_option maxRecDepth 20000 in
theorem ggX8_writeFacts_X8_method : GoodIn wsX8_writeFacts wsX8_method := goodIn_r _ [13, 14, 1, 15, 16, 17, 6, 18, 19, 20, 21, 22, 23, 24, 25, 26, 27, 28, 38, 39, 40, 41, 42, 43, 44, 45, 46, 47, 48, 49, 50, 51, 52, 53, 54, 55, 56] (by decide +kernel) (by decide +kernel)
set_option maxRecDepth 20000 in
theorem gX8_writeFacts_X8_method : GoodIn wsX8_writeFacts (wsV RX8 109 RX8 yX8_method wsX8_method) := goodIn_app (goodIn_of _ (by decide +kernel)) ggX8_writeFacts_X8_method
set_option maxRecDepth 20000 in
theorem ggX8_writeFacts_X8_crc : GoodIn wsX8_writeFacts wsX8_crc := goodIn_r _ [32, 1, 19, 33, 38, 39, 40, 41, 42, 43, 44, 45, 46, 47, 48, 49, 50, 51, 52, 53, 54, 55, 56] (by decide +kernel) (by decide +kernel)
set_option maxRecDepth 20000 in
theorem gX8_writeFacts_X8_crc : GoodIn wsX8_writeFacts (wsV RX8 117 RX8 yX8_crc wsX8_crc) := goodIn_app (goodIn_of _ (by decide +kernel)) ggX8_writeFacts_X8_crc
set_option maxRecDepth 20000 in
theorem ggX8_writeFacts_X8_packedSize : GoodIn wsX8_writeFacts wsX8_packedSize := goodIn_r _ [37, 14, 1, 10, 11, 12, 6, 13, 15, 16, 17, 18, 19, 20, 21, 22, 23, 24, 25, 26, 27, 28, 38, 39, 40, 41, 42, 43, 44, 45, 46, 47, 48, 49, 50, 51, 52, 53, 54, 55, 56] (by decide +kernel) (by decide +kernel)
set_option maxRecDepth 20000 in
theorem gX8_writeFacts_X8_packedSize : GoodIn wsX8_writeFacts (wsV RX8 120 RX8 yX8_packedSize wsX8_packedSize) := goodIn_app (goodIn_of _ (by decide +kernel)) ggX8_writeFacts_X8_packedSize
set_option maxRecDepth 20000 in
theorem ggX8_writeName_X8_write : GoodIn wsX8_writeName wsX8_write := goodIn_r _ [7, 8, 9, 10, 11, 12, 13, 14, 15, 16, 17, 18, 19, 20, 21, 22, 23, 24, 25, 26, 27, 28] (by decide +kernel) (by decide +kernel)
set_option maxRecDepth 20000 in
theorem gX8_writeName_X8_write : GoodIn wsX8_writeName (wsV RX8 114 RX8 yX8_write wsX8_write) := goodIn_app (goodIn_of _ (by decide +kernel)) ggX8_writeName_X8_write
set_option maxRecDepth 20000 in
theorem ggX8_sign_X8_write : GoodIn wsX8_sign wsX8_write := goodIn_r _ [5, 6, 7, 8, 9, 10, 11, 12, 13, 14, 15, 16, 17, 18, 19, 20, 21, 22, 23, 24, 25, 26] (by decide +kernel) (by decide +kernel)
set_option maxRecDepth 20000 in
theorem gX8_sign_X8_write : GoodIn wsX8_sign (wsV RX8 114 RX8 yX8_write wsX8_write) := goodIn_app (goodIn_of _ (by decide +kernel)) ggX8_sign_X8_write
set_option maxRecDepth 20000 in
theorem ggX8_make_X8_sign : GoodIn wsX8_make wsX8_sign := goodIn_r _ [13, 14, 15, 16, 12, 17, 18, 2, 54, 55, 56, 57, 58, 59, 60, 61, 62, 63, 64, 65, 66, 67, 68, 69, 70, 71, 72] (by decide +kernel) (by decide +kernel)
set_option maxRecDepth 20000 in
theorem gX8_make_X8_sign : GoodIn wsX8_make (wsV RX8 123 RX8 yX8_sign wsX8_sign) := goodIn_app (goodIn_of _ (by decide +kernel)) ggX8_make_X8_sign
set_option maxRecDepth 20000 in
theorem ggX8_make_X8_write : GoodIn wsX8_make wsX8_write := goodIn_r _ [17, 18, 2, 54, 55, 56, 57, 58, 59, 60, 61, 62, 63, 64, 65, 66, 67, 68, 69, 70, 71, 72] (by decide +kernel) (by decide +kernel)
set_option maxRecDepth 20000 in
theorem gX8_make_X8_write : GoodIn wsX8_make (wsV RX8 114 RX8 yX8_write wsX8_write) := goodIn_app (goodIn_of _ (by decide +kernel)) ggX8_make_X8_write
set_option maxRecDepth 20000 in
theorem ggX8_make_X8_writeFacts : GoodIn wsX8_make wsX8_writeFacts := goodIn_r _ [22, 6, 23, 14, 15, 16, 12, 17, 18, 2, 24, 25, 26, 27, 5, 28, 29, 30, 31, 8, 32, 33, 34, 35, 36, 37, 38, 39, 7, 40, 41, 42, 43, 44, 45, 46, 47, 48, 54, 55, 56, 57, 58, 59, 60, 61, 62, 63, 64, 65, 66, 67, 68, 69, 70, 71, 72] (by decide +kernel) (by decide +kernel)
set_option maxRecDepth 20000 in
theorem gX8_make_X8_writeFacts : GoodIn wsX8_make (wsV RX8 126 RX8 yX8_writeFacts wsX8_writeFacts) := goodIn_app (goodIn_of _ (by decide +kernel)) ggX8_make_X8_writeFacts
set_option maxRecDepth 20000 in
theorem ggX8_make_X8_writeName : GoodIn wsX8_make wsX8_writeName := goodIn_r _ [52, 23, 53, 14, 15, 16, 12, 17, 18, 2, 54, 55, 56, 57, 58, 59, 60, 61, 62, 63, 64, 65, 66, 67, 68, 69, 70, 71, 72] (by decide +kernel) (by decide +kernel)
set_option maxRecDepth 20000 in
theorem gX8_make_X8_writeName : GoodIn wsX8_make (wsV RX8 129 RX8 yX8_writeName wsX8_writeName) := goodIn_app (goodIn_of _ (by decide +kernel)) ggX8_make_X8_writeName
set_option maxRecDepth 20000 in
theorem ggX8_make_X8_method : GoodIn wsX8_make wsX8_method := goodIn_r _ [27, 5, 6, 28, 29, 30, 12, 31, 8, 32, 33, 34, 35, 36, 37, 38, 39, 7, 54, 55, 56, 57, 58, 59, 60, 61, 62, 63, 64, 65, 66, 67, 68, 69, 70, 71, 72] (by decide +kernel) (by decide +kernel)
set_option maxRecDepth 20000 in
theorem gX8_make_X8_method : GoodIn wsX8_make (wsV RX8 109 RX8 yX8_method wsX8_method) := goodIn_app (goodIn_of _ (by decide +kernel)) ggX8_make_X8_method
set_option maxRecDepth 20000 in
theorem ggX8_is_X8_number : GoodIn wsX8_is wsX8_number := goodIn_r _ [5, 6, 7, 8, 9, 10, 11, 12, 13, 14, 15, 16, 17, 18, 19, 20, 21, 22, 23, 24, 25, 26, 27] (by decide +kernel) (by decide +kernel)
set_option maxRecDepth 20000 in
theorem gX8_is_X8_number : GoodIn wsX8_is (wsV RX8 135 RX8 yX8_number wsX8_number) := goodIn_app (goodIn_of _ (by decide +kernel)) ggX8_is_X8_number
set_option maxRecDepth 20000 in
theorem ggX8_areFacts_X8_is : GoodIn wsX8_areFacts wsX8_is := goodIn_r _ [5, 6, 7, 8, 4, 9, 10, 11, 12, 13, 14, 15, 16, 17, 18, 19, 20, 21, 22, 23, 24, 25, 26, 27, 28, 29, 30, 31] (by decide +kernel) (by decide +kernel)
set_option maxRecDepth 20000 in
theorem gX8_areFacts_X8_is : GoodIn wsX8_areFacts (wsV RX8 141 RX8 yX8_is wsX8_is) := goodIn_app (goodIn_of _ (by decide +kernel)) ggX8_areFacts_X8_is
set_option maxRecDepth 20000 in
theorem ggX8_findEnd_X8_isSign : GoodIn wsX8_findEnd wsX8_isSign := goodIn_r _ [6, 7, 18, 19, 20, 21, 22, 23, 24, 25, 26, 27, 28, 29, 30, 31, 32, 33, 34, 35, 36] (by decide +kernel) (by decide +kernel)
set_option maxRecDepth 20000 in
theorem gX8_findEnd_X8_isSign : GoodIn wsX8_findEnd (wsV RX8 145 RX8 yX8_isSign wsX8_isSign) := goodIn_app (goodIn_of _ (by decide +kernel)) ggX8_findEnd_X8_isSign
set_option maxRecDepth 20000 in
theorem ggX8_findEnd_X8_is : GoodIn wsX8_findEnd wsX8_is := goodIn_r _ [11, 12, 13, 14, 5, 15, 7, 16, 17, 18, 19, 20, 21, 22, 23, 24, 25, 26, 27, 28, 29, 30, 31, 32, 33, 34, 35, 36] (by decide +kernel) (by decide +kernel)
set_option maxRecDepth 20000 in
theorem gX8_findEnd_X8_is : GoodIn wsX8_findEnd (wsV RX8 141 RX8 yX8_is wsX8_is) := goodIn_app (goodIn_of _ (by decide +kernel)) ggX8_findEnd_X8_is
set_option maxRecDepth 20000 in
theorem ggX8_findEnd_X8_number : GoodIn wsX8_findEnd wsX8_number := goodIn_r _ [15, 7, 16, 17, 18, 19, 20, 21, 22, 23, 24, 25, 26, 27, 28, 29, 30, 31, 32, 33, 34, 35, 36] (by decide +kernel) (by decide +kernel)
set_option maxRecDepth 20000 in
theorem gX8_findEnd_X8_number : GoodIn wsX8_findEnd (wsV RX8 135 RX8 yX8_number wsX8_number) := goodIn_app (goodIn_of _ (by decide +kernel)) ggX8_findEnd_X8_number
set_option maxRecDepth 20000 in
theorem ggX8_isCentral_X8_isSign : GoodIn wsX8_isCentral wsX8_isSign := goodIn_r _ [6, 7, 30, 31, 32, 33, 34, 35, 36, 37, 38, 39, 40, 41, 42, 43, 44, 45, 46, 47, 48] (by decide +kernel) (by decide +kernel)
set_option maxRecDepth 20000 in
theorem gX8_isCentral_X8_isSign : GoodIn wsX8_isCentral (wsV RX8 145 RX8 yX8_isSign wsX8_isSign) := goodIn_app (goodIn_of _ (by decide +kernel)) ggX8_isCentral_X8_isSign
set_option maxRecDepth 20000 in
theorem ggX8_isCentral_X8_is : GoodIn wsX8_isCentral wsX8_is := goodIn_r _ [11, 12, 13, 14, 5, 15, 7, 16, 17, 30, 31, 32, 33, 34, 35, 36, 37, 38, 39, 40, 41, 42, 43, 44, 45, 46, 47, 48] (by decide +kernel) (by decide +kernel)
set_option maxRecDepth 20000 in
theorem gX8_isCentral_X8_is : GoodIn wsX8_isCentral (wsV RX8 141 RX8 yX8_is wsX8_is) := goodIn_app (goodIn_of _ (by decide +kernel)) ggX8_isCentral_X8_is
set_option maxRecDepth 20000 in
theorem ggX8_isCentral_X8_areFacts : GoodIn wsX8_isCentral wsX8_areFacts := goodIn_r _ [21, 8, 9, 10, 5, 11, 12, 13, 14, 15, 7, 16, 17, 30, 31, 32, 33, 34, 35, 36, 37, 38, 39, 40, 41, 42, 43, 44, 45, 46, 47, 48] (by decide +kernel) (by decide +kernel)
set_option maxRecDepth 20000 in
theorem gX8_isCentral_X8_areFacts : GoodIn wsX8_isCentral (wsV RX8 148 RX8 yX8_areFacts wsX8_areFacts) := goodIn_app (goodIn_of _ (by decide +kernel)) ggX8_isCentral_X8_areFacts
set_option maxRecDepth 20000 in
theorem ggX8_isCentral_X8_number : GoodIn wsX8_isCentral wsX8_number := goodIn_r _ [15, 7, 16, 17, 30, 31, 32, 33, 34, 35, 36, 37, 38, 39, 40, 41, 42, 43, 44, 45, 46, 47, 48] (by decide +kernel) (by decide +kernel)
set_option maxRecDepth 20000 in
theorem gX8_isCentral_X8_number : GoodIn wsX8_isCentral (wsV RX8 135 RX8 yX8_number wsX8_number) := goodIn_app (goodIn_of _ (by decide +kernel)) ggX8_isCentral_X8_number
set_option maxRecDepth 20000 in
theorem ggX8_isCentral_X8_isName : GoodIn wsX8_isCentral wsX8_isName := goodIn_r _ [25, 7, 30, 31, 32, 33, 34, 35, 36, 37, 38, 39, 40, 41, 42, 43, 44, 45, 46, 47, 48] (by decide +kernel) (by decide +kernel)
set_option maxRecDepth 20000 in
theorem gX8_isCentral_X8_isName : GoodIn wsX8_isCentral (wsV RX8 66 RX8 yX8_isName wsX8_isName) := goodIn_app (goodIn_of _ (by decide +kernel)) ggX8_isCentral_X8_isName
set_option maxRecDepth 20000 in
theorem ggX8_isCentral_X8_isSame : GoodIn wsX8_isCentral wsX8_isSame := goodIn_r _ [29, 7, 30, 31, 32, 33, 34, 35, 36, 37, 38, 39, 40, 41, 42, 43, 44, 45, 46, 47, 48] (by decide +kernel) (by decide +kernel)
set_option maxRecDepth 20000 in
theorem gX8_isCentral_X8_isSame : GoodIn wsX8_isCentral (wsV RX8 151 RX8 yX8_isSame wsX8_isSame) := goodIn_app (goodIn_of _ (by decide +kernel)) ggX8_isCentral_X8_isSame
set_option maxRecDepth 20000 in
theorem ggX8_findCentrals_X8_number : GoodIn wsX8_findCentrals wsX8_number := goodIn_r _ [6, 7, 8, 9, 41, 42, 43, 44, 45, 46, 47, 48, 49, 50, 51, 52, 53, 54, 55, 56, 57, 58, 59] (by decide +kernel) (by decide +kernel)
set_option maxRecDepth 20000 in
theorem gX8_findCentrals_X8_number : GoodIn wsX8_findCentrals (wsV RX8 135 RX8 yX8_number wsX8_number) := goodIn_app (goodIn_of _ (by decide +kernel)) ggX8_findCentrals_X8_number
set_option maxRecDepth 20000 in
theorem ggX8_findCentrals_X8_isCentral : GoodIn wsX8_findCentrals wsX8_isCentral := goodIn_r _ [13, 1, 14, 15, 16, 5, 17, 7, 18, 19, 20, 21, 2, 3, 4, 6, 8, 9, 22, 23, 24, 25, 26, 27, 28, 29, 30, 31, 32, 33, 41, 42, 43, 44, 45, 46, 47, 48, 49, 50, 51, 52, 53, 54, 55, 56, 57, 58, 59] (by decide +kernel) (by decide +kernel)
set_option maxRecDepth 20000 in
theorem gX8_findCentrals_X8_isCentral : GoodIn wsX8_findCentrals (wsV RX8 154 RX8 yX8_isCentral wsX8_isCentral) := goodIn_app (goodIn_of _ (by decide +kernel)) ggX8_findCentrals_X8_isCentral
set_option maxRecDepth 20000 in
theorem ggX8_findCentrals_X8_fails : GoodIn wsX8_findCentrals wsX8_fails := goodIn_r _ [37, 38, 39, 40, 41, 42, 43, 44, 45, 46, 47, 48, 49, 50, 51, 52, 53, 54, 55, 56, 57, 58, 59] (by decide +kernel) (by decide +kernel)
set_option maxRecDepth 20000 in
theorem gX8_findCentrals_X8_fails : GoodIn wsX8_findCentrals (wsV RX8 157 RX8 yX8_fails wsX8_fails) := goodIn_app (goodIn_of _ (by decide +kernel)) ggX8_findCentrals_X8_fails
set_option maxRecDepth 20000 in
theorem ggX8_isLocal_X8_number : GoodIn wsX8_isLocal wsX8_number := goodIn_r _ [7, 8, 9, 10, 23, 24, 25, 26, 27, 28, 29, 30, 31, 32, 33, 34, 35, 36, 37, 38, 39, 40, 41] (by decide +kernel) (by decide +kernel)
set_option maxRecDepth 20000 in
theorem gX8_isLocal_X8_number : GoodIn wsX8_isLocal (wsV RX8 135 RX8 yX8_number wsX8_number) := goodIn_app (goodIn_of _ (by decide +kernel)) ggX8_isLocal_X8_number
set_option maxRecDepth 20000 in
theorem ggX8_isLocal_X8_is : GoodIn wsX8_isLocal wsX8_is := goodIn_r _ [14, 3, 4, 5, 6, 7, 8, 9, 10, 23, 24, 25, 26, 27, 28, 29, 30, 31, 32, 33, 34, 35, 36, 37, 38, 39, 40, 41] (by decide +kernel) (by decide +kernel)
set_option maxRecDepth 20000 in
theorem gX8_isLocal_X8_is : GoodIn wsX8_isLocal (wsV RX8 141 RX8 yX8_is wsX8_is) := goodIn_app (goodIn_of _ (by decide +kernel)) ggX8_isLocal_X8_is
set_option maxRecDepth 20000 in
theorem ggX8_isLocal_X8_isSign : GoodIn wsX8_isLocal wsX8_isSign := goodIn_r _ [18, 8, 23, 24, 25, 26, 27, 28, 29, 30, 31, 32, 33, 34, 35, 36, 37, 38, 39, 40, 41] (by decide +kernel) (by decide +kernel)
set_option maxRecDepth 20000 in
theorem gX8_isLocal_X8_isSign : GoodIn wsX8_isLocal (wsV RX8 145 RX8 yX8_isSign wsX8_isSign) := goodIn_app (goodIn_of _ (by decide +kernel)) ggX8_isLocal_X8_isSign
set_option maxRecDepth 20000 in
theorem ggX8_isLocal_X8_isSame : GoodIn wsX8_isLocal wsX8_isSame := goodIn_r _ [22, 8, 23, 24, 25, 26, 27, 28, 29, 30, 31, 32, 33, 34, 35, 36, 37, 38, 39, 40, 41] (by decide +kernel) (by decide +kernel)
set_option maxRecDepth 20000 in
theorem gX8_isLocal_X8_isSame : GoodIn wsX8_isLocal (wsV RX8 151 RX8 yX8_isSame wsX8_isSame) := goodIn_app (goodIn_of _ (by decide +kernel)) ggX8_isLocal_X8_isSame
set_option maxRecDepth 20000 in
theorem ggX8_findLocals_X8_isLocal : GoodIn wsX8_findLocals wsX8_isLocal := goodIn_r _ [7, 1, 8, 9, 10, 11, 6, 12, 13, 14, 15, 16, 17, 18, 19, 20, 21, 22, 23, 24, 25, 26, 27, 35, 36, 37, 38, 39, 40, 41, 42, 43, 44, 45, 46, 47, 48, 49, 50, 51, 52, 53] (by decide +kernel) (by decide +kernel)
set_option maxRecDepth 20000 in
theorem gX8_findLocals_X8_isLocal : GoodIn wsX8_findLocals (wsV RX8 162 RX8 yX8_isLocal wsX8_isLocal) := goodIn_app (goodIn_of _ (by decide +kernel)) ggX8_findLocals_X8_isLocal
set_option maxRecDepth 20000 in
theorem ggX8_findLocals_X8_fails : GoodIn wsX8_findLocals wsX8_fails := goodIn_r _ [31, 32, 33, 34, 35, 36, 37, 38, 39, 40, 41, 42, 43, 44, 45, 46, 47, 48, 49, 50, 51, 52, 53] (by decide +kernel) (by decide +kernel)
set_option maxRecDepth 20000 in
theorem gX8_findLocals_X8_fails : GoodIn wsX8_findLocals (wsV RX8 157 RX8 yX8_fails wsX8_fails) := goodIn_app (goodIn_of _ (by decide +kernel)) ggX8_findLocals_X8_fails
set_option maxRecDepth 20000 in
theorem ggX8_findLocals_X8_number : GoodIn wsX8_findLocals wsX8_number := goodIn_r _ [12, 13, 14, 15, 35, 36, 37, 38, 39, 40, 41, 42, 43, 44, 45, 46, 47, 48, 49, 50, 51, 52, 53] (by decide +kernel) (by decide +kernel)
set_option maxRecDepth 20000 in
theorem gX8_findLocals_X8_number : GoodIn wsX8_findLocals (wsV RX8 135 RX8 yX8_number wsX8_number) := goodIn_app (goodIn_of _ (by decide +kernel)) ggX8_findLocals_X8_number
set_option maxRecDepth 20000 in
theorem ggX8_areSizes_X8_number : GoodIn wsX8_areSizes wsX8_number := goodIn_r _ [5, 6, 7, 8, 17, 18, 19, 20, 21, 22, 23, 24, 25, 26, 27, 28, 29, 30, 31, 32, 33, 34, 35] (by decide +kernel) (by decide +kernel)
set_option maxRecDepth 20000 in
theorem gX8_areSizes_X8_number : GoodIn wsX8_areSizes (wsV RX8 135 RX8 yX8_number wsX8_number) := goodIn_app (goodIn_of _ (by decide +kernel)) ggX8_areSizes_X8_number
set_option maxRecDepth 20000 in
theorem ggX8_areSizes_X8_is : GoodIn wsX8_areSizes wsX8_is := goodIn_r _ [12, 1, 2, 3, 4, 5, 6, 7, 8, 17, 18, 19, 20, 21, 22, 23, 24, 25, 26, 27, 28, 29, 30, 31, 32, 33, 34, 35] (by decide +kernel) (by decide +kernel)
set_option maxRecDepth 20000 in
theorem gX8_areSizes_X8_is : GoodIn wsX8_areSizes (wsV RX8 141 RX8 yX8_is wsX8_is) := goodIn_app (goodIn_of _ (by decide +kernel)) ggX8_areSizes_X8_is
set_option maxRecDepth 20000 in
theorem ggX8_areSizes_X8_isSame : GoodIn wsX8_areSizes wsX8_isSame := goodIn_r _ [16, 6, 17, 18, 19, 20, 21, 22, 23, 24, 25, 26, 27, 28, 29, 30, 31, 32, 33, 34, 35] (by decide +kernel) (by decide +kernel)
set_option maxRecDepth 20000 in
theorem gX8_areSizes_X8_isSame : GoodIn wsX8_areSizes (wsV RX8 151 RX8 yX8_isSame wsX8_isSame) := goodIn_app (goodIn_of _ (by decide +kernel)) ggX8_areSizes_X8_isSame
set_option maxRecDepth 20000 in
theorem ggX8_unfold_X8_number : GoodIn wsX8_unfold wsX8_number := goodIn_r _ [8, 1, 9, 10, 19, 20, 21, 22, 23, 24, 25, 26, 27, 28, 29, 30, 31, 32, 33, 34, 35, 36, 37] (by decide +kernel) (by decide +kernel)
set_option maxRecDepth 20000 in
theorem gX8_unfold_X8_number : GoodIn wsX8_unfold (wsV RX8 135 RX8 yX8_number wsX8_number) := goodIn_app (goodIn_of _ (by decide +kernel)) ggX8_unfold_X8_number
set_option maxRecDepth 20000 in
theorem ggX8_unfold_X8_is : GoodIn wsX8_unfold wsX8_is := goodIn_r _ [14, 4, 5, 6, 7, 8, 1, 9, 10, 19, 20, 21, 22, 23, 24, 25, 26, 27, 28, 29, 30, 31, 32, 33, 34, 35, 36, 37] (by decide +kernel) (by decide +kernel)
set_option maxRecDepth 20000 in
theorem gX8_unfold_X8_is : GoodIn wsX8_unfold (wsV RX8 141 RX8 yX8_is wsX8_is) := goodIn_app (goodIn_of _ (by decide +kernel)) ggX8_unfold_X8_is
set_option maxRecDepth 20000 in
theorem ggX8_unfold_X8_setBytes : GoodIn wsX8_unfold wsX8_setBytes := goodIn_r _ [18, 2, 1, 3, 19, 20, 21, 22, 23, 24, 25, 26, 27, 28, 29, 30, 31, 32, 33, 34, 35, 36, 37] (by decide +kernel) (by decide +kernel)
set_option maxRecDepth 20000 in
theorem gX8_unfold_X8_setBytes : GoodIn wsX8_unfold (wsV RX8 82 RX8 yX8_setBytes wsX8_setBytes) := goodIn_app (goodIn_of _ (by decide +kernel)) ggX8_unfold_X8_setBytes
set_option maxRecDepth 20000 in
theorem ggX8_isCrc_X8_crc : GoodIn wsX8_isCrc wsX8_crc := goodIn_r _ [6, 7, 8, 9, 10, 11, 12, 13, 14, 15, 16, 17, 18, 19, 20, 21, 22, 23, 24, 25, 26, 27, 28] (by decide +kernel) (by decide +kernel)
set_option maxRecDepth 20000 in
theorem gX8_isCrc_X8_crc : GoodIn wsX8_isCrc (wsV RX8 117 RX8 yX8_crc wsX8_crc) := goodIn_app (goodIn_of _ (by decide +kernel)) ggX8_isCrc_X8_crc
set_option maxRecDepth 20000 in
theorem ggX8_areBytes_X8_number : GoodIn wsX8_areBytes wsX8_number := goodIn_r _ [8, 9, 10, 11, 50, 51, 52, 53, 54, 55, 56, 57, 58, 59, 60, 61, 62, 63, 64, 65, 66, 67, 68] (by decide +kernel) (by decide +kernel)
set_option maxRecDepth 20000 in
theorem gX8_areBytes_X8_number : GoodIn wsX8_areBytes (wsV RX8 135 RX8 yX8_number wsX8_number) := goodIn_app (goodIn_of _ (by decide +kernel)) ggX8_areBytes_X8_number
set_option maxRecDepth 20000 in
theorem ggX8_areBytes_X8_areSizes : GoodIn wsX8_areBytes wsX8_areSizes := goodIn_r _ [15, 4, 5, 6, 7, 8, 9, 10, 11, 16, 17, 18, 19, 20, 21, 22, 23, 50, 51, 52, 53, 54, 55, 56, 57, 58, 59, 60, 61, 62, 63, 64, 65, 66, 67, 68] (by decide +kernel) (by decide +kernel)
set_option maxRecDepth 20000 in
theorem gX8_areBytes_X8_areSizes : GoodIn wsX8_areBytes (wsV RX8 166 RX8 yX8_areSizes wsX8_areSizes) := goodIn_app (goodIn_of _ (by decide +kernel)) ggX8_areBytes_X8_areSizes
set_option maxRecDepth 20000 in
theorem ggX8_areBytes_X8_fails : GoodIn wsX8_areBytes wsX8_fails := goodIn_r _ [27, 28, 29, 30, 50, 51, 52, 53, 54, 55, 56, 57, 58, 59, 60, 61, 62, 63, 64, 65, 66, 67, 68] (by decide +kernel) (by decide +kernel)
set_option maxRecDepth 20000 in
theorem gX8_areBytes_X8_fails : GoodIn wsX8_areBytes (wsV RX8 157 RX8 yX8_fails wsX8_fails) := goodIn_app (goodIn_of _ (by decide +kernel)) ggX8_areBytes_X8_fails
set_option maxRecDepth 20000 in
theorem ggX8_areBytes_X8_unfold : GoodIn wsX8_areBytes wsX8_unfold := goodIn_r _ [34, 9, 35, 36, 4, 5, 6, 7, 8, 10, 11, 16, 17, 18, 19, 37, 38, 39, 40, 50, 51, 52, 53, 54, 55, 56, 57, 58, 59, 60, 61, 62, 63, 64, 65, 66, 67, 68] (by decide +kernel) (by decide +kernel)
set_option maxRecDepth 20000 in
theorem gX8_areBytes_X8_unfold : GoodIn wsX8_areBytes (wsV RX8 171 RX8 yX8_unfold wsX8_unfold) := goodIn_app (goodIn_of _ (by decide +kernel)) ggX8_areBytes_X8_unfold
set_option maxRecDepth 20000 in
theorem ggX8_areBytes_X8_isCrc : GoodIn wsX8_areBytes wsX8_isCrc := goodIn_r _ [44, 9, 45, 46, 47, 7, 48, 36, 35, 49, 50, 51, 52, 53, 54, 55, 56, 57, 58, 59, 60, 61, 62, 63, 64, 65, 66, 67, 68] (by decide +kernel) (by decide +kernel)
set_option maxRecDepth 20000 in
theorem gX8_areBytes_X8_isCrc : GoodIn wsX8_areBytes (wsV RX8 174 RX8 yX8_isCrc wsX8_isCrc) := goodIn_app (goodIn_of _ (by decide +kernel)) ggX8_areBytes_X8_isCrc
set_option maxRecDepth 20000 in
theorem ggX8_read_X8_findEnd : GoodIn wsX8_read wsX8_findEnd := goodIn_r _ [13, 4, 14, 15, 16, 12, 17, 18, 19, 20, 21, 22, 23, 24, 25, 26, 27, 28, 104, 105, 106, 107, 108, 109, 110, 111, 112, 113, 114, 115, 116, 117, 118, 119, 120, 121, 122] (by decide +kernel) (by decide +kernel)
set_option maxRecDepth 20000 in
theorem gX8_read_X8_findEnd : GoodIn wsX8_read (wsV RX8 177 RX8 yX8_findEnd wsX8_findEnd) := goodIn_app (goodIn_of _ (by decide +kernel)) ggX8_read_X8_findEnd
set_option maxRecDepth 20000 in
theorem ggX8_read_X8_fails : GoodIn wsX8_read wsX8_fails := goodIn_r _ [32, 1, 2, 3, 104, 105, 106, 107, 108, 109, 110, 111, 112, 113, 114, 115, 116, 117, 118, 119, 120, 121, 122] (by decide +kernel) (by decide +kernel)
set_option maxRecDepth 20000 in
theorem gX8_read_X8_fails : GoodIn wsX8_read (wsV RX8 157 RX8 yX8_fails wsX8_fails) := goodIn_app (goodIn_of _ (by decide +kernel)) ggX8_read_X8_fails
set_option maxRecDepth 20000 in
theorem ggX8_read_X8_number : GoodIn wsX8_read wsX8_number := goodIn_r _ [26, 18, 27, 28, 104, 105, 106, 107, 108, 109, 110, 111, 112, 113, 114, 115, 116, 117, 118, 119, 120, 121, 122] (by decide +kernel) (by decide +kernel)
set_option maxRecDepth 20000 in
theorem gX8_read_X8_number : GoodIn wsX8_read (wsV RX8 135 RX8 yX8_number wsX8_number) := goodIn_app (goodIn_of _ (by decide +kernel)) ggX8_read_X8_number
set_option maxRecDepth 20000 in
theorem ggX8_read_X8_findCentrals : GoodIn wsX8_read wsX8_findCentrals := goodIn_r _ [36, 7, 23, 24, 25, 12, 26, 18, 27, 28, 37, 38, 39, 40, 14, 15, 16, 17, 19, 20, 21, 22, 41, 42, 43, 44, 45, 46, 47, 48, 49, 50, 51, 52, 29, 30, 31, 32, 1, 2, 3, 104, 105, 106, 107, 108, 109, 110, 111, 112, 113, 114, 115, 116, 117, 118, 119, 120, 121, 122] (by decide +kernel) (by decide +kernel)
set_option maxRecDepth 20000 in
theorem gX8_read_X8_findCentrals : GoodIn wsX8_read (wsV RX8 180 RX8 yX8_findCentrals wsX8_findCentrals) := goodIn_app (goodIn_of _ (by decide +kernel)) ggX8_read_X8_findCentrals
set_option maxRecDepth 20000 in
theorem ggX8_read_X8_findLocals : GoodIn wsX8_read wsX8_findLocals := goodIn_r _ [56, 7, 8, 57, 58, 59, 12, 60, 61, 23, 24, 25, 26, 18, 27, 28, 19, 20, 21, 22, 14, 15, 16, 17, 49, 50, 51, 52, 29, 30, 31, 32, 1, 2, 3, 104, 105, 106, 107, 108, 109, 110, 111, 112, 113, 114, 115, 116, 117, 118, 119, 120, 121, 122] (by decide +kernel) (by decide +kernel)
set_option maxRecDepth 20000 in
theorem gX8_read_X8_findLocals : GoodIn wsX8_read (wsV RX8 183 RX8 yX8_findLocals wsX8_findLocals) := goodIn_app (goodIn_of _ (by decide +kernel)) ggX8_read_X8_findLocals
set_option maxRecDepth 20000 in
theorem ggX8_read_X8_areBytes : GoodIn wsX8_read wsX8_areBytes := goodIn_r _ [65, 7, 66, 8, 23, 24, 25, 12, 26, 18, 27, 28, 67, 68, 69, 70, 19, 20, 21, 22, 49, 50, 51, 52, 29, 30, 31, 32, 1, 2, 3, 71, 72, 73, 74, 75, 76, 77, 78, 79, 80, 81, 82, 83, 84, 85, 86, 87, 88, 89, 104, 105, 106, 107, 108, 109, 110, 111, 112, 113, 114, 115, 116, 117, 118, 119, 120, 121, 122] (by decide +kernel) (by decide +kernel)
set_option maxRecDepth 20000 in
theorem gX8_read_X8_areBytes : GoodIn wsX8_read (wsV RX8 186 RX8 yX8_areBytes wsX8_areBytes) := goodIn_app (goodIn_of _ (by decide +kernel)) ggX8_read_X8_areBytes
set_option maxRecDepth 20000 in
theorem ggX8_read_X8_append : GoodIn wsX8_read wsX8_append := goodIn_r _ [93, 6, 71, 72, 73, 12, 74, 18, 75, 76, 23, 24, 25, 26, 27, 28, 19, 20, 21, 22, 77, 78, 79, 80, 94, 95, 96, 97, 98, 99, 100, 101, 102, 103, 104, 105, 106, 107, 108, 109, 110, 111, 112, 113, 114, 115, 116, 117, 118, 119, 120, 121, 122] (by decide +kernel) (by decide +kernel)
set_option maxRecDepth 20000 in
theorem gX8_read_X8_append : GoodIn wsX8_read (wsV RX8 189 RX8 yX8_append wsX8_append) := goodIn_app (goodIn_of _ (by decide +kernel)) ggX8_read_X8_append
set_option maxRecDepth 20000 in
theorem ggX8_append_X8_unfold : GoodIn wsX8_append wsX8_unfold := goodIn_r _ [6, 7, 8, 9, 10, 11, 12, 5, 13, 14, 15, 16, 17, 18, 19, 20, 21, 22, 23, 34, 35, 36, 37, 38, 39, 40, 41, 42, 43, 44, 45, 46, 47, 48, 49, 50, 51, 52] (by decide +kernel) (by decide +kernel)
set_option maxRecDepth 20000 in
theorem gX8_append_X8_unfold : GoodIn wsX8_append (wsV RX8 171 RX8 yX8_unfold wsX8_unfold) := goodIn_app (goodIn_of _ (by decide +kernel)) ggX8_append_X8_unfold
set_option maxRecDepth 20000 in
theorem ggX8_append_X8_setName : GoodIn wsX8_append wsX8_setName := goodIn_r _ [27, 28, 7, 29, 34, 35, 36, 37, 38, 39, 40, 41, 42, 43, 44, 45, 46, 47, 48, 49, 50, 51, 52] (by decide +kernel) (by decide +kernel)
set_option maxRecDepth 20000 in
theorem gX8_append_X8_setName : GoodIn wsX8_append (wsV RX8 78 RX8 yX8_setName wsX8_setName) := goodIn_app (goodIn_of _ (by decide +kernel)) ggX8_append_X8_setName
set_option maxRecDepth 20000 in
theorem ggX8_append_X8_copyFile : GoodIn wsX8_append wsX8_copyFile := goodIn_r _ [33, 28, 29, 9, 8, 34, 35, 36, 37, 38, 39, 40, 41, 42, 43, 44, 45, 46, 47, 48, 49, 50, 51, 52] (by decide +kernel) (by decide +kernel)
set_option maxRecDepth 20000 in
theorem gX8_append_X8_copyFile : GoodIn wsX8_append (wsV RX8 62 RX8 yX8_copyFile wsX8_copyFile) := goodIn_app (goodIn_of _ (by decide +kernel)) ggX8_append_X8_copyFile
set_option maxRecDepth 20000 in
theorem ggX8_saved_X8_isSign : GoodIn wsX8_saved wsX8_isSign := goodIn_r _ [9, 10, 81, 82, 83, 84, 85, 86, 87, 88, 89, 90, 91, 92, 93, 94, 95, 96, 97, 98, 99] (by decide +kernel) (by decide +kernel)
set_option maxRecDepth 20000 in
theorem gX8_saved_X8_isSign : GoodIn wsX8_saved (wsV RX8 145 RX8 yX8_isSign wsX8_isSign) := goodIn_app (goodIn_of _ (by decide +kernel)) ggX8_saved_X8_isSign
set_option maxRecDepth 20000 in
theorem ggX8_saved_X8_is : GoodIn wsX8_saved wsX8_is := goodIn_r _ [14, 15, 16, 17, 8, 18, 10, 19, 20, 81, 82, 83, 84, 85, 86, 87, 88, 89, 90, 91, 92, 93, 94, 95, 96, 97, 98, 99] (by decide +kernel) (by decide +kernel)
set_option maxRecDepth 20000 in
theorem gX8_saved_X8_is : GoodIn wsX8_saved (wsV RX8 141 RX8 yX8_is wsX8_is) := goodIn_app (goodIn_of _ (by decide +kernel)) ggX8_saved_X8_is
set_option maxRecDepth 20000 in
theorem ggX8_saved_X8_areFacts : GoodIn wsX8_saved wsX8_areFacts := goodIn_r _ [24, 11, 12, 13, 8, 14, 15, 16, 17, 18, 10, 19, 20, 81, 82, 83, 84, 85, 86, 87, 88, 89, 90, 91, 92, 93, 94, 95, 96, 97, 98, 99] (by decide +kernel) (by decide +kernel)
set_option maxRecDepth 20000 in
theorem gX8_saved_X8_areFacts : GoodIn wsX8_saved (wsV RX8 148 RX8 yX8_areFacts wsX8_areFacts) := goodIn_app (goodIn_of _ (by decide +kernel)) ggX8_saved_X8_areFacts
set_option maxRecDepth 20000 in
theorem ggX8_saved_X8_number : GoodIn wsX8_saved wsX8_number := goodIn_r _ [18, 10, 19, 20, 81, 82, 83, 84, 85, 86, 87, 88, 89, 90, 91, 92, 93, 94, 95, 96, 97, 98, 99] (by decide +kernel) (by decide +kernel)
set_option maxRecDepth 20000 in
theorem gX8_saved_X8_number : GoodIn wsX8_saved (wsV RX8 135 RX8 yX8_number wsX8_number) := goodIn_app (goodIn_of _ (by decide +kernel)) ggX8_saved_X8_number
set_option maxRecDepth 20000 in
theorem ggX8_saved_X8_isName : GoodIn wsX8_saved wsX8_isName := goodIn_r _ [28, 10, 81, 82, 83, 84, 85, 86, 87, 88, 89, 90, 91, 92, 93, 94, 95, 96, 97, 98, 99] (by decide +kernel) (by decide +kernel)
set_option maxRecDepth 20000 in
theorem gX8_saved_X8_isName : GoodIn wsX8_saved (wsV RX8 66 RX8 yX8_isName wsX8_isName) := goodIn_app (goodIn_of _ (by decide +kernel)) ggX8_saved_X8_isName
set_option maxRecDepth 20000 in
theorem ggX8_saved_X8_areSizes : GoodIn wsX8_saved wsX8_areSizes := goodIn_r _ [32, 15, 16, 17, 8, 18, 10, 19, 20, 11, 12, 13, 14, 33, 34, 35, 36, 81, 82, 83, 84, 85, 86, 87, 88, 89, 90, 91, 92, 93, 94, 95, 96, 97, 98, 99] (by decide +kernel) (by decide +kernel)
set_option maxRecDepth 20000 in
theorem gX8_saved_X8_areSizes : GoodIn wsX8_saved (wsV RX8 166 RX8 yX8_areSizes wsX8_areSizes) := goodIn_app (goodIn_of _ (by decide +kernel)) ggX8_saved_X8_areSizes
set_option maxRecDepth 20000 in
theorem ggX8_saved_X8_unfold : GoodIn wsX8_saved wsX8_unfold := goodIn_r _ [40, 10, 41, 4, 15, 16, 17, 8, 18, 19, 20, 11, 12, 13, 14, 42, 43, 44, 45, 81, 82, 83, 84, 85, 86, 87, 88, 89, 90, 91, 92, 93, 94, 95, 96, 97, 98, 99] (by decide +kernel) (by decide +kernel)
set_option maxRecDepth 20000 in
theorem gX8_saved_X8_unfold : GoodIn wsX8_saved (wsV RX8 171 RX8 yX8_unfold wsX8_unfold) := goodIn_app (goodIn_of _ (by decide +kernel)) ggX8_saved_X8_unfold
set_option maxRecDepth 20000 in
theorem ggX8_saved_X8_isCrc : GoodIn wsX8_saved wsX8_isCrc := goodIn_r _ [49, 10, 50, 51, 52, 8, 53, 4, 41, 54, 81, 82, 83, 84, 85, 86, 87, 88, 89, 90, 91, 92, 93, 94, 95, 96, 97, 98, 99] (by decide +kernel) (by decide +kernel)
set_option maxRecDepth 20000 in
theorem gX8_saved_X8_isCrc : GoodIn wsX8_saved (wsV RX8 174 RX8 yX8_isCrc wsX8_isCrc) := goodIn_app (goodIn_of _ (by decide +kernel)) ggX8_saved_X8_isCrc
set_option maxRecDepth 20000 in
theorem ggX8_saved_X8_named : GoodIn wsX8_saved wsX8_named := goodIn_r _ [58, 59, 60, 10, 81, 82, 83, 84, 85, 86, 87, 88, 89, 90, 91, 92, 93, 94, 95, 96, 97, 98, 99] (by decide +kernel) (by decide +kernel)
set_option maxRecDepth 20000 in
theorem gX8_saved_X8_named : GoodIn wsX8_saved (wsV RX8 70 RX8 yX8_named wsX8_named) := goodIn_app (goodIn_of _ (by decide +kernel)) ggX8_saved_X8_named
set_option maxRecDepth 20000 in
theorem ggX8_saved_X8_total : GoodIn wsX8_saved wsX8_total := goodIn_r _ [64, 3, 4, 81, 82, 83, 84, 85, 86, 87, 88, 89, 90, 91, 92, 93, 94, 95, 96, 97, 98, 99] (by decide +kernel) (by decide +kernel)
set_option maxRecDepth 20000 in
theorem gX8_saved_X8_total : GoodIn wsX8_saved (wsV RX8 74 RX8 yX8_total wsX8_total) := goodIn_app (goodIn_of _ (by decide +kernel)) ggX8_saved_X8_total
set_option maxRecDepth 20000 in
theorem ggX8_saved_X8_goes : GoodIn wsX8_saved wsX8_goes := goodIn_r _ [68, 3, 69, 70, 71, 8, 72, 60, 59, 4, 41, 81, 82, 83, 84, 85, 86, 87, 88, 89, 90, 91, 92, 93, 94, 95, 96, 97, 98, 99] (by decide +kernel) (by decide +kernel)
set_option maxRecDepth 20000 in
theorem gX8_saved_X8_goes : GoodIn wsX8_saved (wsV RX8 89 RX8 yX8_goes wsX8_goes) := goodIn_app (goodIn_of _ (by decide +kernel)) ggX8_saved_X8_goes
set_option maxRecDepth 20000 in
theorem ggX8_saved_X8_append : GoodIn wsX8_saved wsX8_append := goodIn_r _ [76, 3, 37, 38, 39, 8, 40, 10, 41, 4, 15, 16, 17, 18, 19, 20, 11, 12, 13, 14, 42, 43, 44, 45, 77, 78, 79, 80, 60, 59, 69, 70, 71, 72, 81, 82, 83, 84, 85, 86, 87, 88, 89, 90, 91, 92, 93, 94, 95, 96, 97, 98, 99] (by decide +kernel) (by decide +kernel)
set_option maxRecDepth 20000 in
theorem gX8_saved_X8_append : GoodIn wsX8_saved (wsV RX8 189 RX8 yX8_append wsX8_append) := goodIn_app (goodIn_of _ (by decide +kernel)) ggX8_saved_X8_append
set_option maxRecDepth 20000 in
theorem ggX8_save_X8_saved : GoodIn wsX8_save wsX8_saved := goodIn_r _ [7, 2, 8, 9, 10, 11, 12, 13, 6, 14, 15, 16, 17, 18, 19, 20, 21, 22, 23, 24, 25, 26, 27, 28, 29, 30, 31, 32, 33, 34, 35, 36, 37, 38, 39, 40, 41, 42, 43, 44, 45, 46, 47, 48, 49, 50, 51, 52, 53, 54, 55, 56, 57, 58, 59, 60, 61, 62, 63, 64, 65, 66, 67, 68, 69, 70, 71, 72, 73, 74, 75, 76, 77, 78, 79, 80, 81, 82, 83, 84, 85, 86, 87, 88, 89, 90, 91, 92, 93, 94, 95, 96, 97, 98, 99, 100, 101, 102, 103, 104] (by decide +kernel) (by decide +kernel)
set_option maxRecDepth 20000 in
theorem gX8_save_X8_saved : GoodIn wsX8_save (wsV RX8 193 RX8 yX8_saved wsX8_saved) := goodIn_app (goodIn_of _ (by decide +kernel)) ggX8_save_X8_saved
set_option maxRecDepth 20000 in
theorem ggX8_file_X8_isFile : GoodIn wsX8_file wsX8_isFile := goodIn_r _ [8, 9, 38, 39, 40, 41, 42, 43, 44, 45, 46, 47, 48, 49, 50, 51, 52, 53, 54, 55, 56] (by decide +kernel) (by decide +kernel)
set_option maxRecDepth 20000 in
theorem gX8_file_X8_isFile : GoodIn wsX8_file (wsV RX8 85 RX8 yX8_isFile wsX8_isFile) := goodIn_app (goodIn_of _ (by decide +kernel)) ggX8_file_X8_isFile
set_option maxRecDepth 20000 in
theorem ggX8_file_X8_packedSize : GoodIn wsX8_file wsX8_packedSize := goodIn_r _ [13, 14, 3, 15, 16, 17, 7, 18, 19, 20, 21, 22, 23, 24, 25, 26, 27, 28, 29, 30, 31, 32, 38, 39, 40, 41, 42, 43, 44, 45, 46, 47, 48, 49, 50, 51, 52, 53, 54, 55, 56] (by decide +kernel) (by decide +kernel)
set_option maxRecDepth 20000 in
theorem gX8_file_X8_packedSize : GoodIn wsX8_file (wsV RX8 120 RX8 yX8_packedSize wsX8_packedSize) := goodIn_app (goodIn_of _ (by decide +kernel)) ggX8_file_X8_packedSize
set_option maxRecDepth 20000 in
theorem ggX8_file_X8_method : GoodIn wsX8_file wsX8_method := goodIn_r _ [18, 14, 3, 19, 20, 21, 7, 22, 23, 24, 25, 26, 27, 28, 29, 30, 31, 32, 38, 39, 40, 41, 42, 43, 44, 45, 46, 47, 48, 49, 50, 51, 52, 53, 54, 55, 56] (by decide +kernel) (by decide +kernel)
set_option maxRecDepth 20000 in
theorem gX8_file_X8_method : GoodIn wsX8_file (wsV RX8 109 RX8 yX8_method wsX8_method) := goodIn_app (goodIn_of _ (by decide +kernel)) ggX8_file_X8_method
set_option maxRecDepth 20000 in
theorem ggX8_file_X8_crc : GoodIn wsX8_file wsX8_crc := goodIn_r _ [36, 3, 23, 37, 38, 39, 40, 41, 42, 43, 44, 45, 46, 47, 48, 49, 50, 51, 52, 53, 54, 55, 56] (by decide +kernel) (by decide +kernel)
set_option maxRecDepth 20000 in
theorem gX8_file_X8_crc : GoodIn wsX8_file (wsV RX8 117 RX8 yX8_crc wsX8_crc) := goodIn_app (goodIn_of _ (by decide +kernel)) ggX8_file_X8_crc
set_option maxRecDepth 20000 in
theorem ggX8_letter_X8_isFile : GoodIn wsX8_letter wsX8_isFile := goodIn_r _ [10, 11, 12, 13, 14, 15, 16, 17, 18, 19, 20, 21, 22, 23, 24, 25, 26, 27, 28, 29, 30] (by decide +kernel) (by decide +kernel)
set_option maxRecDepth 20000 in
theorem gX8_letter_X8_isFile : GoodIn wsX8_letter (wsV RX8 85 RX8 yX8_isFile wsX8_isFile) := goodIn_app (goodIn_of _ (by decide +kernel)) ggX8_letter_X8_isFile
set_option maxRecDepth 20000 in
theorem ggX8_find_X8_isName : GoodIn wsX8_find wsX8_isName := goodIn_r _ [8, 9, 16, 17, 18, 19, 20, 21, 22, 23, 24, 25, 26, 27, 28, 29, 30, 31, 32, 33, 34] (by decide +kernel) (by decide +kernel)
set_option maxRecDepth 20000 in
theorem gX8_find_X8_isName : GoodIn wsX8_find (wsV RX8 66 RX8 yX8_isName wsX8_isName) := goodIn_app (goodIn_of _ (by decide +kernel)) ggX8_find_X8_isName
set_option maxRecDepth 20000 in
theorem ggX8_find_X8_named : GoodIn wsX8_find wsX8_named := goodIn_r _ [13, 14, 15, 9, 16, 17, 18, 19, 20, 21, 22, 23, 24, 25, 26, 27, 28, 29, 30, 31, 32, 33, 34] (by decide +kernel) (by decide +kernel)
set_option maxRecDepth 20000 in
theorem gX8_find_X8_named : GoodIn wsX8_find (wsV RX8 70 RX8 yX8_named wsX8_named) := goodIn_app (goodIn_of _ (by decide +kernel)) ggX8_find_X8_named
set_option maxRecDepth 20000 in
theorem ggX8_about_X8_total : GoodIn wsX8_about wsX8_total := goodIn_r _ [9, 4, 10, 11, 12, 13, 14, 15, 16, 17, 18, 19, 20, 21, 22, 23, 24, 25, 26, 27, 28, 29] (by decide +kernel) (by decide +kernel)
set_option maxRecDepth 20000 in
theorem gX8_about_X8_total : GoodIn wsX8_about (wsV RX8 74 RX8 yX8_total wsX8_total) := goodIn_app (goodIn_of _ (by decide +kernel)) ggX8_about_X8_total
set_option maxRecDepth 20000 in
theorem ggL_take_X7_take : GoodIn wsL_take wsX7_take := goodIn_ca (goodIn_r _ [6, 7, 8, 9, 10, 11, 12, 13, 14, 15, 16, 17, 18, 19, 20, 21, 22, 23, 24, 25, 26, 27, 28, 29, 30, 31, 32, 33, 34, 35, 36, 37, 38, 39, 40, 41] (by decide +kernel) (by decide +kernel)) (goodIn_sub (fun _ h => List.mem_cons_of_mem _ (List.mem_append_right _ h)) (by decide +kernel))
set_option maxRecDepth 20000 in
theorem gL_take_X7_take : GoodIn wsL_take (wsV RL 7 RX7 yX7_take wsX7_take) := goodIn_app (goodIn_of _ (by decide +kernel)) ggL_take_X7_take
set_option maxRecDepth 20000 in
theorem ggL_add_X7_add : GoodIn wsL_add wsX7_add := goodIn_ca (goodIn_ca (goodIn_r _ [7, 8, 9, 10, 11, 12, 13, 14, 15, 16, 17, 18, 19, 20, 21, 22, 23, 24, 25, 26, 27, 28, 29, 30, 31, 32, 33, 34, 35, 36, 37, 38, 39, 40, 41, 42, 43, 44, 45, 46, 47, 48, 49, 50, 51, 52, 53, 54, 55, 56, 57, 58, 59, 60, 61, 62, 63, 64, 65, 66, 67, 68, 69, 70, 71, 72, 73, 74, 75, 76, 77, 78, 79, 80, 81, 82, 83, 84, 85, 86, 87, 88, 89, 90, 91, 92, 93, 94, 95, 96, 97, 98, 99, 100, 101, 102, 103, 104, 105, 106, 107, 108, 109, 110, 111, 112, 113, 114, 115, 116, 117, 118, 119, 120, 121, 122, 123, 124, 125, 126, 127, 128] (by decide +kernel) (by decide +kernel)) (goodIn_sub (fun _ h => List.mem_cons_of_mem _ (List.mem_append_left _ (List.mem_append_right _ h))) (by decide +kernel))) (goodIn_sub (fun _ h => List.mem_cons_of_mem _ (List.mem_append_right _ h)) (by decide +kernel))
set_option maxRecDepth 20000 in
theorem gL_add_X7_add : GoodIn wsL_add (wsV RL 15 RX7 yX7_add wsX7_add) := goodIn_app (goodIn_of _ (by decide +kernel)) ggL_add_X7_add
set_option maxRecDepth 20000 in
theorem ggL_replace_X7_replace : GoodIn wsL_replace wsX7_replace := goodIn_ca (goodIn_ca (goodIn_ca (goodIn_r _ [8, 9, 10, 11, 12, 13, 14, 15, 16, 17, 18, 19, 20, 21, 22, 23, 24, 25, 26, 27, 28, 29, 30, 31, 32, 33, 34, 35, 36, 37, 38, 39, 40, 41, 42, 43, 44, 45, 46, 47, 48, 49, 50, 51, 52, 53, 54, 55, 56, 57, 58, 59, 60, 61, 62, 63, 64, 65, 66, 67, 68, 69, 70, 71, 72, 73, 74, 75, 76, 77, 78, 79, 80, 81, 82, 83, 84, 85, 86, 87, 88, 89, 90, 91, 92, 93, 94, 95, 96, 97, 98, 99, 100, 101, 102, 103, 104, 105, 106, 107, 108, 109, 110, 111, 112, 113, 114, 115] (by decide +kernel) (by decide +kernel)) (goodIn_sub (fun _ h => List.mem_cons_of_mem _ (List.mem_append_left _ (List.mem_append_left _ (List.mem_append_right _ h)))) (by decide +kernel))) (goodIn_sub (fun _ h => List.mem_cons_of_mem _ (List.mem_append_left _ (List.mem_append_right _ h))) (by decide +kernel))) (goodIn_sub (fun _ h => List.mem_cons_of_mem _ (List.mem_append_right _ h)) (by decide +kernel))
set_option maxRecDepth 20000 in
theorem gL_replace_X7_replace : GoodIn wsL_replace (wsV RL 21 RX7 yX7_replace wsX7_replace) := goodIn_app (goodIn_of _ (by decide +kernel)) ggL_replace_X7_replace
set_option maxRecDepth 20000 in
theorem ggL_rename_X7_rename : GoodIn wsL_rename wsX7_rename := goodIn_ca (goodIn_ca (goodIn_ca (goodIn_r _ [8, 9, 10, 11, 12, 13, 14, 15, 16, 17, 18, 19, 20, 21, 22, 23, 24, 25, 26, 27, 28, 29, 30, 31, 32, 33, 34, 35, 36, 37, 38, 39, 40, 41, 42, 43, 44, 45, 46, 47, 48, 49, 50, 51, 52, 53, 54, 55, 56, 57, 58, 59, 60, 61, 62, 63, 64, 65, 66, 67, 68, 69, 70, 71, 72, 73, 74, 75, 76, 77, 78, 79, 80, 81, 82, 83, 84, 85, 86, 87, 88, 89, 90, 91, 92, 93, 94] (by decide +kernel) (by decide +kernel)) (goodIn_sub (fun _ h => List.mem_cons_of_mem _ (List.mem_append_left _ (List.mem_append_left _ (List.mem_append_right _ h)))) (by decide +kernel))) (goodIn_sub (fun _ h => List.mem_cons_of_mem _ (List.mem_append_left _ (List.mem_append_right _ h))) (by decide +kernel))) (goodIn_sub (fun _ h => List.mem_cons_of_mem _ (List.mem_append_right _ h)) (by decide +kernel))
set_option maxRecDepth 20000 in
theorem gL_rename_X7_rename : GoodIn wsL_rename (wsV RL 27 RX7 yX7_rename wsX7_rename) := goodIn_app (goodIn_of _ (by decide +kernel)) ggL_rename_X7_rename
set_option maxRecDepth 20000 in
theorem ggL_remove_X7_remove : GoodIn wsL_remove wsX7_remove := goodIn_ca (goodIn_r _ [6, 7, 8, 9, 10, 11, 12, 13, 14, 15, 16, 17, 18, 19, 20, 21, 22, 23, 24, 25, 26, 27, 28, 29, 30, 31, 32, 33, 34, 35, 36, 37, 38, 39, 40, 41, 42, 43, 44, 45, 46, 47, 48, 49, 50, 51, 52, 53, 54, 55, 56] (by decide +kernel) (by decide +kernel)) (goodIn_sub (fun _ h => List.mem_cons_of_mem _ (List.mem_append_right _ h)) (by decide +kernel))
set_option maxRecDepth 20000 in
theorem gL_remove_X7_remove : GoodIn wsL_remove (wsV RL 30 RX7 yX7_remove wsX7_remove) := goodIn_app (goodIn_of _ (by decide +kernel)) ggL_remove_X7_remove
set_option maxRecDepth 20000 in
theorem ggL_read_X7_read : GoodIn wsL_read wsX7_read := goodIn_ca (goodIn_r _ [6, 7, 8, 9, 10, 11, 12, 13, 14, 15, 16, 17, 18, 19, 20, 21, 22, 23, 24, 25, 26, 27, 28, 29, 30, 31, 32, 33, 34, 35, 36, 37, 38, 39, 40, 41, 42, 43, 44, 45, 46, 47, 48, 49, 50, 51, 52, 53, 54, 55, 56, 57, 58, 59, 60, 61, 62, 63, 64, 65, 66, 67, 68, 69, 70, 71, 72, 73, 74, 75, 76, 77, 78, 79, 80, 81, 82, 83, 84, 85, 86, 87, 88, 89, 90, 91, 92, 93, 94, 95, 96, 97, 98, 99, 100, 101, 102, 103, 104, 105, 106, 107, 108, 109, 110, 111, 112, 113, 114, 115, 116, 117, 118, 119, 120, 121, 122, 123, 124, 125, 126, 127, 128, 129, 130, 131, 132, 133, 134, 135, 136, 137, 138, 139, 140, 141, 142, 143, 144, 145, 146, 147, 148, 149, 150, 151, 152, 153, 154, 155, 156, 157, 158, 159, 160, 161, 162, 163, 164, 165, 166, 167, 168, 169, 170, 171, 172, 173, 174, 175, 176, 177, 178, 179, 180, 181, 182, 183, 184, 185, 186, 187, 188, 189, 190, 191, 192, 193, 194, 195, 196, 197, 198, 199, 200, 201, 202, 203, 204, 205, 206, 207, 208, 209, 210, 211, 212, 213, 214, 215, 216, 217, 218, 219, 220, 221, 222, 223, 224, 225, 226, 227, 228, 229, 230, 231, 232, 233, 234, 235, 236, 237, 238, 239, 240, 241, 242, 243, 244, 245, 246, 247, 248, 249] (by decide +kernel) (by decide +kernel)) (goodIn_sub (fun _ h => List.mem_cons_of_mem _ (List.mem_append_right _ h)) (by decide +kernel))
set_option maxRecDepth 20000 in
theorem gL_read_X7_read : GoodIn wsL_read (wsV RL 33 RX7 yX7_read wsX7_read) := goodIn_app (goodIn_of _ (by decide +kernel)) ggL_read_X7_read
set_option maxRecDepth 20000 in
theorem ggL_law_X7_init : GoodIn wsL_law wsX7_init := goodIn_r _ [9, 10, 11, 12, 13, 14, 15, 16, 17, 18, 19, 20, 21, 22, 23, 24, 25, 26, 27, 28, 29, 30, 31, 32, 33, 34, 35, 36, 37, 38, 39, 40, 41, 42, 43, 44, 45, 46, 47, 48, 49, 50, 51, 52, 53, 54, 55, 56, 57, 58, 59, 60, 61, 62, 63, 64, 65, 66, 67, 68, 69, 70, 71, 72, 73, 74, 75, 76, 807, 808, 783, 784, 785, 786, 787, 809, 810, 811, 812, 813, 814, 815, 816, 817, 818, 819, 820, 821, 822, 823, 824, 825, 826, 827, 828, 829, 830, 831] (by decide +kernel) (by decide +kernel)
set_option maxRecDepth 20000 in
theorem gL_law_X7_init : GoodIn wsL_law (wsX7_init) := ggL_law_X7_init
set_option maxRecDepth 20000 in
theorem ggL_law_X8_init : GoodIn wsL_law wsX8_init := goodIn_r _ [79, 80, 11, 12, 35, 81, 82, 83, 84, 85, 86, 87, 88, 89, 90, 91, 92, 93, 788, 789, 790, 791, 792, 793, 794, 795, 796, 797, 798, 799, 800, 801, 802, 803, 804, 805, 806] (by decide +kernel) (by decide +kernel)
set_option maxRecDepth 20000 in
theorem gL_law_X8_init : GoodIn wsL_law (wsX8_init) := ggL_law_X8_init
set_option maxRecDepth 20000 in
theorem ggL_law_X7_feed : GoodIn wsL_law wsX7_feed := goodIn_r _ [97, 16, 98, 99, 100, 15, 101, 76, 102, 103, 104, 105, 106, 107, 108, 109, 36, 783, 784, 785, 786, 787, 807, 808] (by decide +kernel) (by decide +kernel)
set_option maxRecDepth 20000 in
theorem gL_law_X7_feed : GoodIn wsL_law (wsV RL 40 RX7 yX7_feed wsX7_feed) := goodIn_app (goodIn_of _ (by decide +kernel)) ggL_law_X7_feed
set_option maxRecDepth 20000 in
theorem ggL_law_X8_feed : GoodIn wsL_law wsX8_feed := goodIn_r _ [113, 114, 81, 788, 789, 790, 791, 792, 793, 794, 795, 796, 797, 798, 799, 800, 801, 802, 803, 804, 805, 806] (by decide +kernel) (by decide +kernel)
set_option maxRecDepth 20000 in
theorem gL_law_X8_feed : GoodIn wsL_law (wsV RL 44 RX8 yX8_feed wsX8_feed) := goodIn_app (goodIn_of _ (by decide +kernel)) ggL_law_X8_feed
set_option maxRecDepth 20000 in
theorem ggL_law_X7_end : GoodIn wsL_law wsX7_end := goodIn_r _ [118, 17, 16, 119, 120, 121, 15, 122, 36, 76, 123, 124, 125, 126, 127, 128, 129, 130, 131, 132, 133, 134, 135, 72, 73, 74, 75, 136, 137, 138, 139, 783, 784, 785, 786, 787, 807, 808] (by decide +kernel) (by decide +kernel)
set_option maxRecDepth 20000 in
theorem gL_law_X7_end : GoodIn wsL_law (wsV RL 45 RX7 yX7_end wsX7_end) := goodIn_app (goodIn_of _ (by decide +kernel)) ggL_law_X7_end
set_option maxRecDepth 20000 in
theorem ggL_law_X8_end : GoodIn wsL_law wsX8_end := goodIn_r _ [143, 114, 144, 82, 81, 788, 789, 790, 791, 792, 793, 794, 795, 796, 797, 798, 799, 800, 801, 802, 803, 804, 805, 806] (by decide +kernel) (by decide +kernel)
set_option maxRecDepth 20000 in
theorem gL_law_X8_end : GoodIn wsL_law (wsV RL 49 RX8 yX8_end wsX8_end) := goodIn_app (goodIn_of _ (by decide +kernel)) ggL_law_X8_end
set_option maxRecDepth 20000 in
theorem ggL_law_X7_cut : GoodIn wsL_law wsX7_cut := goodIn_r _ [148, 17, 98, 99, 100, 15, 101, 76, 783, 784, 785, 786, 787, 807, 808] (by decide +kernel) (by decide +kernel)
set_option maxRecDepth 20000 in
theorem gL_law_X7_cut : GoodIn wsL_law (wsV RL 50 RX7 yX7_cut wsX7_cut) := goodIn_app (goodIn_of _ (by decide +kernel)) ggL_law_X7_cut
set_option maxRecDepth 20000 in
theorem ggL_law_X8_cut : GoodIn wsL_law wsX8_cut := goodIn_r _ [152, 114, 144, 788, 789, 790, 791, 792, 793, 794, 795, 796, 797, 798, 799, 800, 801, 802, 803, 804, 805, 806] (by decide +kernel) (by decide +kernel)
set_option maxRecDepth 20000 in
theorem gL_law_X8_cut : GoodIn wsL_law (wsV RL 54 RX8 yX8_cut wsX8_cut) := goodIn_app (goodIn_of _ (by decide +kernel)) ggL_law_X8_cut
set_option maxRecDepth 20000 in
theorem ggL_law_X7_drop : GoodIn wsL_law wsX7_drop := goodIn_r _ [156, 17, 157, 158, 159, 15, 160, 36, 76, 127, 128, 129, 130, 131, 132, 133, 134, 783, 784, 785, 786, 787, 807, 808] (by decide +kernel) (by decide +kernel)
set_option maxRecDepth 20000 in
theorem gL_law_X7_drop : GoodIn wsL_law (wsV RL 55 RX7 yX7_drop wsX7_drop) := goodIn_app (goodIn_of _ (by decide +kernel)) ggL_law_X7_drop
set_option maxRecDepth 20000 in
theorem ggL_law_X8_drop : GoodIn wsL_law wsX8_drop := goodIn_r _ [164, 114, 144, 82, 788, 789, 790, 791, 792, 793, 794, 795, 796, 797, 798, 799, 800, 801, 802, 803, 804, 805, 806] (by decide +kernel) (by decide +kernel)
set_option maxRecDepth 20000 in
theorem gL_law_X8_drop : GoodIn wsL_law (wsV RL 58 RX8 yX8_drop wsX8_drop) := goodIn_app (goodIn_of _ (by decide +kernel)) ggL_law_X8_drop
set_option maxRecDepth 20000 in
theorem ggL_law_X7_flip : GoodIn wsL_law wsX7_flip := goodIn_r _ [168, 17, 169, 170, 171, 15, 172, 76, 36, 783, 784, 785, 786, 787, 807, 808] (by decide +kernel) (by decide +kernel)
set_option maxRecDepth 20000 in
theorem gL_law_X7_flip : GoodIn wsL_law (wsV RL 59 RX7 yX7_flip wsX7_flip) := goodIn_app (goodIn_of _ (by decide +kernel)) ggL_law_X7_flip
set_option maxRecDepth 20000 in
theorem ggL_law_X8_flip : GoodIn wsL_law wsX8_flip := goodIn_r _ [176, 114, 144, 82, 788, 789, 790, 791, 792, 793, 794, 795, 796, 797, 798, 799, 800, 801, 802, 803, 804, 805, 806] (by decide +kernel) (by decide +kernel)
set_option maxRecDepth 20000 in
theorem gL_law_X8_flip : GoodIn wsL_law (wsV RL 63 RX8 yX8_flip wsX8_flip) := goodIn_app (goodIn_of _ (by decide +kernel)) ggL_law_X8_flip
set_option maxRecDepth 20000 in
theorem ggL_law_L_take : GoodIn wsL_law wsL_take := goodIn_ca (goodIn_r _ [180, 181, 182, 183, 184, 2, 185, 186, 187, 18, 17, 136, 137, 138, 15, 139, 76, 119, 120, 121, 122, 36, 123, 124, 125, 126, 127, 128, 129, 130, 131, 132, 133, 134, 135, 783, 784, 785, 786, 787, 807, 808] (by decide +kernel) (by decide +kernel)) (goodIn_sub (fun _ h => List.mem_append_left _ (List.mem_append_left _ (List.mem_append_right _ h))) (by decide +kernel))
set_option maxRecDepth 20000 in
theorem gL_law_L_take : GoodIn wsL_law (va_wsS RL 64 yL_take wsL_take) := goodIn_app (goodIn_of _ (by decide +kernel)) ggL_law_L_take
set_option maxRecDepth 20000 in
theorem ggL_law_X8_take : GoodIn wsL_law wsX8_take := goodIn_r _ [191, 144, 192, 114, 82, 83, 788, 789, 790, 791, 792, 793, 794, 795, 796, 797, 798, 799, 800, 801, 802, 803, 804, 805, 806] (by decide +kernel) (by decide +kernel)
set_option maxRecDepth 20000 in
theorem gL_law_X8_take : GoodIn wsL_law (wsV RL 69 RX8 yX8_take wsX8_take) := goodIn_app (goodIn_of _ (by decide +kernel)) ggL_law_X8_take
set_option maxRecDepth 20000 in
theorem ggL_law_L_add : GoodIn wsL_law wsL_add := goodIn_ca (goodIn_ca (goodIn_r _ [195, 196, 181, 197, 198, 199, 2, 200, 201, 202, 186, 187, 17, 22, 203, 204, 205, 15, 206, 131, 132, 133, 134, 76, 207, 208, 209, 210, 36, 136, 137, 138, 139, 211, 212, 213, 21, 214, 215, 42, 216, 217, 218, 219, 220, 221, 222, 223, 224, 44, 225, 226, 227, 228, 229, 120, 121, 122, 230, 231, 232, 233, 234, 235, 236, 46, 237, 52, 238, 99, 100, 101, 239, 124, 125, 126, 127, 128, 129, 130, 135, 240, 241, 242, 243, 244, 245, 33, 246, 247, 248, 249, 250, 251, 252, 253, 254, 255, 256, 257, 258, 259, 260, 32, 34, 261, 262, 263, 264, 98, 265, 266, 267, 268, 783, 784, 785, 786, 787, 807, 808, 809, 810, 811, 822, 823, 824, 825, 826] (by decide +kernel) (by decide +kernel)) (goodIn_sub (fun _ h => List.mem_append_left _ (List.mem_append_right _ h)) (by decide +kernel))) (goodIn_sub (fun _ h => List.mem_append_left _ (List.mem_append_left _ (List.mem_append_right _ h))) (by decide +kernel))
set_option maxRecDepth 20000 in
theorem gL_law_L_add : GoodIn wsL_law (va_wsS RL 70 yL_add wsL_add) := goodIn_app (goodIn_of _ (by decide +kernel)) ggL_law_L_add
set_option maxRecDepth 20000 in
theorem ggL_law_X8_add : GoodIn wsL_law wsX8_add := goodIn_r _ [272, 144, 114, 273, 274, 275, 276, 5, 277, 82, 278, 279, 280, 281, 85, 84, 282, 283, 284, 285, 87, 286, 287, 288, 289, 290, 291, 292, 293, 86, 788, 789, 790, 791, 792, 793, 794, 795, 796, 797, 798, 799, 800, 801, 802, 803, 804, 805, 806] (by decide +kernel) (by decide +kernel)
set_option maxRecDepth 20000 in
theorem gL_law_X8_add : GoodIn wsL_law (wsV RL 73 RX8 yX8_add wsX8_add) := goodIn_app (goodIn_of _ (by decide +kernel)) ggL_law_X8_add
set_option maxRecDepth 20000 in
theorem ggL_law_L_replace : GoodIn wsL_law wsL_replace := goodIn_ca (goodIn_ca (goodIn_ca (goodIn_r _ [296, 297, 196, 181, 298, 299, 300, 2, 301, 302, 303, 201, 202, 186, 187, 22, 17, 304, 226, 227, 21, 228, 215, 42, 136, 137, 138, 15, 139, 76, 221, 222, 223, 224, 44, 225, 229, 120, 121, 122, 36, 305, 306, 307, 308, 309, 310, 311, 312, 313, 158, 159, 160, 127, 128, 129, 130, 131, 132, 133, 134, 216, 240, 241, 242, 243, 244, 245, 33, 246, 247, 124, 125, 126, 135, 248, 249, 250, 251, 252, 253, 208, 209, 210, 254, 255, 256, 257, 258, 259, 260, 32, 34, 261, 262, 263, 264, 98, 99, 100, 101, 783, 784, 785, 786, 787, 809, 810, 811, 807, 808, 822, 823, 824, 825, 826] (by decide +kernel) (by decide +kernel)) (goodIn_sub (fun _ h => List.mem_append_right _ h) (by decide +kernel))) (goodIn_sub (fun _ h => List.mem_append_left _ (List.mem_append_right _ h)) (by decide +kernel))) (goodIn_sub (fun _ h => List.mem_append_left _ (List.mem_append_left _ (List.mem_append_right _ h))) (by decide +kernel))
set_option maxRecDepth 20000 in
theorem gL_law_L_replace : GoodIn wsL_law (va_wsS RL 74 yL_replace wsL_replace) := goodIn_app (goodIn_of _ (by decide +kernel)) ggL_law_L_replace
set_option maxRecDepth 20000 in
theorem ggL_law_X8_replace : GoodIn wsL_law wsX8_replace := goodIn_r _ [317, 144, 87, 114, 318, 319, 320, 5, 321, 273, 282, 283, 284, 285, 290, 291, 292, 293, 86, 82, 788, 789, 790, 791, 792, 793, 794, 795, 796, 797, 798, 799, 800, 801, 802, 803, 804, 805, 806] (by decide +kernel) (by decide +kernel)
set_option maxRecDepth 20000 in
theorem gL_law_X8_replace : GoodIn wsL_law (wsV RL 77 RX8 yX8_replace wsX8_replace) := goodIn_app (goodIn_of _ (by decide +kernel)) ggL_law_X8_replace
set_option maxRecDepth 20000 in
theorem ggL_law_L_rename : GoodIn wsL_law wsL_rename := goodIn_ca (goodIn_ca (goodIn_ca (goodIn_r _ [324, 297, 196, 181, 325, 326, 327, 2, 328, 302, 303, 201, 202, 186, 187, 22, 17, 304, 226, 227, 21, 228, 215, 42, 136, 137, 138, 15, 139, 76, 203, 204, 205, 206, 131, 132, 133, 134, 207, 208, 209, 210, 36, 211, 212, 213, 214, 216, 217, 218, 219, 220, 329, 330, 331, 332, 225, 234, 235, 236, 46, 237, 52, 238, 99, 100, 101, 239, 124, 125, 126, 127, 128, 129, 130, 135, 120, 121, 122, 98, 783, 784, 785, 786, 787, 809, 810, 811, 807, 808, 822, 823, 824, 825, 826] (by decide +kernel) (by decide +kernel)) (goodIn_sub (fun _ h => List.mem_append_right _ h) (by decide +kernel))) (goodIn_sub (fun _ h => List.mem_append_left _ (List.mem_append_right _ h)) (by decide +kernel))) (goodIn_sub (fun _ h => List.mem_append_left _ (List.mem_append_left _ (List.mem_append_right _ h))) (by decide +kernel))
set_option maxRecDepth 20000 in
theorem gL_law_L_rename : GoodIn wsL_law (va_wsS RL 78 yL_rename wsL_rename) := goodIn_app (goodIn_of _ (by decide +kernel)) ggL_law_L_rename
set_option maxRecDepth 20000 in
theorem ggL_law_X8_rename : GoodIn wsL_law wsX8_rename := goodIn_r _ [336, 144, 114, 273, 318, 319, 320, 5, 321, 274, 275, 276, 277, 82, 278, 279, 280, 281, 85, 84, 286, 287, 288, 289, 788, 789, 790, 791, 792, 793, 794, 795, 796, 797, 798, 799, 800, 801, 802, 803, 804, 805, 806] (by decide +kernel) (by decide +kernel)
set_option maxRecDepth 20000 in
theorem gL_law_X8_rename : GoodIn wsL_law (wsV RL 80 RX8 yX8_rename wsX8_rename) := goodIn_app (goodIn_of _ (by decide +kernel)) ggL_law_X8_rename
set_option maxRecDepth 20000 in
theorem ggL_law_L_remove : GoodIn wsL_law wsL_remove := goodIn_ca (goodIn_r _ [339, 297, 340, 341, 342, 2, 343, 302, 303, 22, 304, 226, 227, 21, 228, 215, 42, 344, 345, 346, 347, 225, 309, 310, 311, 312, 44, 313, 158, 159, 15, 160, 36, 76, 127, 128, 129, 130, 131, 132, 133, 134, 783, 784, 785, 786, 787, 809, 810, 811, 822, 823, 824, 825, 826, 807, 808] (by decide +kernel) (by decide +kernel)) (goodIn_sub (fun _ h => List.mem_append_right _ h) (by decide +kernel))
set_option maxRecDepth 20000 in
theorem gL_law_L_remove : GoodIn wsL_law (va_wsS RL 81 yL_remove wsL_remove) := goodIn_app (goodIn_of _ (by decide +kernel)) ggL_law_L_remove
set_option maxRecDepth 20000 in
theorem ggL_law_X8_remove : GoodIn wsL_law wsX8_remove := goodIn_r _ [351, 114, 318, 319, 320, 5, 321, 273, 352, 353, 354, 355, 356, 357, 358, 359, 84, 85, 87, 86, 788, 789, 790, 791, 792, 793, 794, 795, 796, 797, 798, 799, 800, 801, 802, 803, 804, 805, 806] (by decide +kernel) (by decide +kernel)
set_option maxRecDepth 20000 in
theorem gL_law_X8_remove : GoodIn wsL_law (wsV RL 83 RX8 yX8_remove wsX8_remove) := goodIn_app (goodIn_of _ (by decide +kernel)) ggL_law_X8_remove
set_option maxRecDepth 20000 in
theorem ggL_law_X7_sort : GoodIn wsL_law wsX7_sort := goodIn_r _ [363, 22, 364, 365, 366, 21, 367, 215, 42, 368, 369, 370, 15, 371, 207, 208, 209, 210, 76, 36, 783, 784, 785, 786, 787, 809, 810, 811, 822, 823, 824, 825, 826, 807, 808] (by decide +kernel) (by decide +kernel)
set_option maxRecDepth 20000 in
theorem gL_law_X7_sort : GoodIn wsL_law (wsV RL 84 RX7 yX7_sort wsX7_sort) := goodIn_app (goodIn_of _ (by decide +kernel)) ggL_law_X7_sort
set_option maxRecDepth 20000 in
theorem ggL_law_X8_sort : GoodIn wsL_law wsX8_sort := goodIn_r _ [375, 114, 273, 376, 377, 378, 5, 379, 85, 84, 356, 357, 358, 359, 87, 86, 788, 789, 790, 791, 792, 793, 794, 795, 796, 797, 798, 799, 800, 801, 802, 803, 804, 805, 806] (by decide +kernel) (by decide +kernel)
set_option maxRecDepth 20000 in
theorem gL_law_X8_sort : GoodIn wsL_law (wsV RL 87 RX8 yX8_sort wsX8_sort) := goodIn_app (goodIn_of _ (by decide +kernel)) ggL_law_X8_sort
set_option maxRecDepth 20000 in
theorem ggL_law_X7_clear : GoodIn wsL_law wsX7_clear := goodIn_r _ [383, 22, 384, 385, 386, 21, 387, 215, 44, 388, 99, 100, 15, 101, 76, 783, 784, 785, 786, 787, 809, 810, 811, 807, 808] (by decide +kernel) (by decide +kernel)
set_option maxRecDepth 20000 in
theorem gL_law_X7_clear : GoodIn wsL_law (wsV RL 88 RX7 yX7_clear wsX7_clear) := goodIn_app (goodIn_of _ (by decide +kernel)) ggL_law_X7_clear
set_option maxRecDepth 20000 in
theorem ggL_law_X8_clear : GoodIn wsL_law wsX8_clear := goodIn_r _ [392, 114, 273, 788, 789, 790, 791, 792, 793, 794, 795, 796, 797, 798, 799, 800, 801, 802, 803, 804, 805, 806] (by decide +kernel) (by decide +kernel)
set_option maxRecDepth 20000 in
theorem gL_law_X8_clear : GoodIn wsL_law (wsV RL 91 RX8 yX8_clear wsX8_clear) := goodIn_app (goodIn_of _ (by decide +kernel)) ggL_law_X8_clear
set_option maxRecDepth 20000 in
theorem ggL_law_X7_make : GoodIn wsL_law wsX7_make := goodIn_r _ [396, 18, 22, 98, 99, 100, 15, 101, 76, 397, 398, 399, 21, 400, 215, 42, 44, 401, 402, 403, 404, 405, 406, 407, 408, 106, 107, 108, 109, 36, 409, 410, 411, 412, 413, 414, 415, 416, 417, 418, 46, 419, 420, 421, 422, 423, 424, 425, 426, 427, 137, 138, 139, 428, 124, 125, 126, 127, 128, 129, 130, 131, 132, 133, 134, 135, 120, 121, 122, 429, 430, 431, 250, 432, 257, 258, 33, 259, 260, 32, 34, 261, 262, 263, 264, 245, 246, 253, 208, 209, 210, 433, 434, 247, 136, 435, 436, 437, 438, 439, 440, 441, 442, 443, 444, 445, 52, 446, 265, 266, 267, 268, 447, 448, 449, 783, 784, 785, 786, 787, 807, 808, 809, 810, 811, 822, 823, 824, 825, 826] (by decide +kernel) (by decide +kernel)
set_option maxRecDepth 20000 in
theorem gL_law_X7_make : GoodIn wsL_law (wsV RL 92 RX7 yX7_make wsX7_make) := goodIn_app (goodIn_of _ (by decide +kernel)) ggL_law_X7_make
set_option maxRecDepth 20000 in
theorem ggL_law_X8_make : GoodIn wsL_law wsX8_make := goodIn_r _ [453, 114, 192, 273, 93, 454, 87, 90, 86, 455, 456, 457, 5, 458, 459, 460, 461, 462, 83, 463, 464, 465, 466, 85, 467, 468, 469, 470, 471, 472, 473, 474, 475, 476, 477, 478, 479, 480, 481, 482, 483, 484, 485, 486, 487, 488, 489, 490, 491, 492, 493, 494, 495, 84, 788, 789, 790, 791, 792, 793, 794, 795, 796, 797, 798, 799, 800, 801, 802, 803, 804, 805, 806] (by decide +kernel) (by decide +kernel)
set_option maxRecDepth 20000 in
theorem gL_law_X8_make : GoodIn wsL_law (wsV RL 95 RX8 yX8_make wsX8_make) := goodIn_app (goodIn_of _ (by decide +kernel)) ggL_law_X8_make
set_option maxRecDepth 20000 in
theorem ggL_law_L_read : GoodIn wsL_law wsL_read := goodIn_ca (goodIn_r _ [498, 196, 499, 500, 501, 2, 502, 201, 202, 26, 17, 22, 503, 504, 505, 25, 506, 65, 66, 67, 507, 508, 509, 510, 511, 32, 33, 34, 512, 513, 137, 138, 15, 139, 76, 514, 515, 516, 517, 518, 519, 520, 132, 133, 134, 521, 522, 523, 524, 207, 208, 209, 210, 36, 525, 526, 527, 528, 131, 529, 530, 531, 532, 533, 534, 535, 536, 537, 538, 539, 540, 541, 62, 57, 542, 543, 544, 545, 546, 547, 548, 61, 549, 550, 551, 552, 553, 554, 555, 556, 557, 558, 204, 205, 206, 559, 560, 561, 562, 563, 218, 219, 220, 564, 565, 566, 567, 58, 568, 569, 570, 571, 572, 573, 574, 575, 576, 577, 578, 579, 580, 581, 582, 583, 584, 585, 586, 587, 588, 589, 64, 590, 99, 100, 101, 591, 124, 125, 126, 127, 128, 129, 130, 135, 120, 121, 122, 592, 593, 250, 594, 595, 253, 596, 434, 597, 598, 599, 433, 107, 108, 109, 600, 601, 602, 603, 604, 249, 251, 252, 384, 385, 386, 21, 387, 215, 44, 388, 605, 606, 607, 608, 609, 231, 232, 233, 42, 234, 235, 236, 46, 237, 52, 238, 239, 240, 241, 242, 243, 244, 245, 246, 216, 247, 248, 254, 255, 256, 257, 258, 259, 260, 261, 262, 263, 264, 265, 266, 267, 268, 783, 784, 785, 786, 787, 812, 813, 814, 815, 816, 817, 818, 819, 820, 821, 807, 808, 827, 828, 829, 830, 831, 809, 810, 811, 822, 823, 824, 825, 826] (by decide +kernel) (by decide +kernel)) (goodIn_sub (fun _ h => List.mem_append_left _ (List.mem_append_right _ h)) (by decide +kernel))
set_option maxRecDepth 20000 in
theorem gL_law_L_read : GoodIn wsL_law (va_wsS RL 96 yL_read wsL_read) := goodIn_app (goodIn_of _ (by decide +kernel)) ggL_law_L_read
set_option maxRecDepth 20000 in
theorem ggL_law_X8_read : GoodIn wsL_law wsX8_read := goodIn_r _ [613, 614, 88, 89, 144, 114, 273, 91, 92, 615, 616, 617, 5, 618, 619, 620, 621, 622, 82, 623, 624, 625, 626, 627, 628, 629, 630, 631, 632, 633, 634, 635, 636, 637, 638, 639, 640, 641, 642, 643, 644, 645, 646, 647, 648, 274, 275, 276, 277, 649, 650, 651, 652, 653, 654, 655, 656, 657, 658, 659, 660, 661, 662, 663, 664, 665, 666, 667, 668, 669, 670, 671, 672, 673, 674, 86, 87, 290, 291, 292, 293, 675, 676, 677, 678, 483, 484, 485, 486, 487, 679, 680, 681, 682, 286, 287, 288, 289, 84, 85, 356, 357, 358, 359, 788, 789, 790, 791, 792, 793, 794, 795, 796, 797, 798, 799, 800, 801, 802, 803, 804, 805, 806] (by decide +kernel) (by decide +kernel)
set_option maxRecDepth 20000 in
theorem gL_law_X8_read : GoodIn wsL_law (wsV RL 98 RX8 yX8_read wsX8_read) := goodIn_app (goodIn_of _ (by decide +kernel)) ggL_law_X8_read
set_option maxRecDepth 20000 in
theorem ggL_law_X7_fault : GoodIn wsL_law wsX7_fault := goodIn_r _ [686, 26, 687, 688, 689, 25, 690, 65, 691, 692, 693, 694, 66, 695, 696, 697, 698, 67, 783, 784, 785, 786, 787, 812, 813, 814, 815, 816, 817, 818, 819, 820, 821] (by decide +kernel) (by decide +kernel)
set_option maxRecDepth 20000 in
theorem gL_law_X7_fault : GoodIn wsL_law (wsV RL 99 RX7 yX7_fault wsX7_fault) := goodIn_app (goodIn_of _ (by decide +kernel)) ggL_law_X7_fault
set_option maxRecDepth 20000 in
theorem ggL_law_X8_fault : GoodIn wsL_law wsX8_fault := goodIn_r _ [702, 114, 614, 88, 89, 788, 789, 790, 791, 792, 793, 794, 795, 796, 797, 798, 799, 800, 801, 802, 803, 804, 805, 806] (by decide +kernel) (by decide +kernel)
set_option maxRecDepth 20000 in
theorem gL_law_X8_fault : GoodIn wsL_law (wsV RL 102 RX8 yX8_fault wsX8_fault) := goodIn_app (goodIn_of _ (by decide +kernel)) ggL_law_X8_fault
set_option maxRecDepth 20000 in
theorem ggL_law_X7_save : GoodIn wsL_law wsX7_save := goodIn_r _ [706, 17, 136, 137, 138, 15, 139, 76, 707, 708, 709, 2, 710, 26, 22, 711, 712, 713, 25, 714, 62, 521, 522, 523, 524, 207, 208, 209, 210, 36, 546, 547, 548, 61, 549, 550, 551, 552, 553, 554, 555, 132, 133, 134, 556, 526, 527, 528, 131, 557, 530, 531, 532, 533, 558, 204, 205, 206, 513, 581, 582, 583, 584, 585, 586, 587, 588, 589, 64, 590, 99, 100, 101, 572, 573, 574, 575, 591, 124, 125, 126, 127, 128, 129, 130, 135, 120, 121, 122, 592, 593, 250, 594, 595, 253, 596, 434, 597, 598, 599, 433, 107, 108, 109, 600, 601, 602, 603, 604, 249, 251, 252, 715, 716, 717, 718, 719, 720, 721, 722, 211, 212, 213, 21, 214, 215, 42, 216, 217, 218, 219, 220, 221, 222, 223, 224, 44, 225, 226, 227, 228, 229, 344, 345, 346, 347, 309, 310, 311, 312, 313, 158, 159, 160, 230, 231, 232, 233, 234, 235, 236, 46, 237, 52, 238, 239, 240, 241, 242, 243, 244, 245, 33, 246, 247, 248, 254, 255, 256, 257, 258, 259, 260, 32, 34, 261, 262, 263, 264, 723, 783, 784, 785, 786, 787, 807, 808, 812, 813, 814, 815, 816, 817, 818, 819, 820, 821, 827, 828, 829, 830, 831, 809, 810, 811, 822, 823, 824, 825, 826] (by decide +kernel) (by decide +kernel)
set_option maxRecDepth 20000 in
theorem gL_law_X7_save : GoodIn wsL_law (wsV RL 103 RX7 yX7_save wsX7_save) := goodIn_app (goodIn_of _ (by decide +kernel)) ggL_law_X7_save
set_option maxRecDepth 20000 in
theorem ggL_law_X8_save : GoodIn wsL_law wsX8_save := goodIn_r _ [727, 114, 144, 728, 729, 730, 5, 731, 661, 273, 87, 619, 620, 621, 622, 82, 623, 624, 625, 626, 627, 628, 629, 630, 631, 632, 645, 646, 647, 648, 274, 275, 276, 277, 667, 668, 669, 670, 649, 650, 651, 652, 671, 672, 673, 674, 86, 290, 291, 292, 293, 675, 676, 677, 678, 483, 484, 485, 486, 487, 278, 279, 280, 281, 85, 84, 282, 283, 284, 285, 352, 353, 354, 355, 356, 357, 358, 359, 679, 680, 681, 682, 286, 287, 288, 289, 788, 789, 790, 791, 792, 793, 794, 795, 796, 797, 798, 799, 800, 801, 802, 803, 804, 805, 806] (by decide +kernel) (by decide +kernel)
set_option maxRecDepth 20000 in
theorem gL_law_X8_save : GoodIn wsL_law (wsV RL 106 RX8 yX8_save wsX8_save) := goodIn_app (goodIn_of _ (by decide +kernel)) ggL_law_X8_save
set_option maxRecDepth 20000 in
theorem ggL_law_X7_file : GoodIn wsL_law wsX7_file := goodIn_r _ [735, 22, 304, 226, 227, 21, 228, 215, 42, 136, 137, 138, 15, 139, 76, 736, 417, 418, 46, 419, 420, 421, 783, 784, 785, 786, 787, 822, 823, 824, 825, 826, 809, 810, 811, 807, 808] (by decide +kernel) (by decide +kernel)
set_option maxRecDepth 20000 in
theorem gL_law_X7_file : GoodIn wsL_law (wsV RL 107 RX7 yX7_file wsX7_file) := goodIn_app (goodIn_of _ (by decide +kernel)) ggL_law_X7_file
set_option maxRecDepth 20000 in
theorem ggL_law_X8_file : GoodIn wsL_law wsX8_file := goodIn_r _ [740, 114, 85, 87, 318, 319, 320, 5, 321, 273, 488, 489, 490, 491, 454, 467, 468, 469, 470, 471, 472, 473, 474, 86, 475, 476, 477, 478, 479, 480, 481, 482, 90, 483, 484, 485, 486, 487, 788, 789, 790, 791, 792, 793, 794, 795, 796, 797, 798, 799, 800, 801, 802, 803, 804, 805, 806] (by decide +kernel) (by decide +kernel)
set_option maxRecDepth 20000 in
theorem gL_law_X8_file : GoodIn wsL_law (wsV RL 110 RX8 yX8_file wsX8_file) := goodIn_app (goodIn_of _ (by decide +kernel)) ggL_law_X8_file
set_option maxRecDepth 20000 in
theorem ggL_law_X7_letter : GoodIn wsL_law wsX7_letter := goodIn_r _ [744, 22, 304, 226, 227, 21, 228, 215, 42, 745, 208, 209, 15, 210, 76, 36, 746, 747, 748, 749, 44, 750, 783, 784, 785, 786, 787, 822, 823, 824, 825, 826, 809, 810, 811, 807, 808] (by decide +kernel) (by decide +kernel)
set_option maxRecDepth 20000 in
theorem gL_law_X7_letter : GoodIn wsL_law (wsV RL 111 RX7 yX7_letter wsX7_letter) := goodIn_app (goodIn_of _ (by decide +kernel)) ggL_law_X7_letter
set_option maxRecDepth 20000 in
theorem ggL_law_X8_letter : GoodIn wsL_law wsX8_letter := goodIn_r _ [754, 114, 85, 87, 84, 86, 318, 319, 320, 5, 321, 273, 788, 789, 790, 791, 792, 793, 794, 795, 796, 797, 798, 799, 800, 801, 802, 803, 804, 805, 806] (by decide +kernel) (by decide +kernel)
set_option maxRecDepth 20000 in
theorem gL_law_X8_letter : GoodIn wsL_law (wsV RL 115 RX8 yX8_letter wsX8_letter) := goodIn_app (goodIn_of _ (by decide +kernel)) ggL_law_X8_letter
set_option maxRecDepth 20000 in
theorem ggL_law_X7_find : GoodIn wsL_law wsX7_find := goodIn_r _ [758, 22, 17, 136, 137, 138, 15, 139, 76, 211, 212, 213, 21, 214, 215, 42, 216, 217, 218, 219, 220, 131, 132, 133, 134, 207, 208, 209, 210, 36, 783, 784, 785, 786, 787, 807, 808, 809, 810, 811, 822, 823, 824, 825, 826] (by decide +kernel) (by decide +kernel)
set_option maxRecDepth 20000 in
theorem gL_law_X7_find : GoodIn wsL_law (wsV RL 116 RX7 yX7_find wsX7_find) := goodIn_app (goodIn_of _ (by decide +kernel)) ggL_law_X7_find
set_option maxRecDepth 20000 in
theorem ggL_law_X8_find : GoodIn wsL_law wsX8_find := goodIn_r _ [762, 114, 144, 273, 274, 275, 276, 5, 277, 82, 278, 279, 280, 281, 85, 84, 788, 789, 790, 791, 792, 793, 794, 795, 796, 797, 798, 799, 800, 801, 802, 803, 804, 805, 806] (by decide +kernel) (by decide +kernel)
set_option maxRecDepth 20000 in
theorem gL_law_X8_find : GoodIn wsL_law (wsV RL 119 RX8 yX8_find wsX8_find) := goodIn_app (goodIn_of _ (by decide +kernel)) ggL_law_X8_find
set_option maxRecDepth 20000 in
theorem ggL_law_X7_output : GoodIn wsL_law wsX7_output := goodIn_r _ [766, 18, 745, 208, 209, 15, 210, 76, 36, 783, 784, 785, 786, 787, 807, 808] (by decide +kernel) (by decide +kernel)
set_option maxRecDepth 20000 in
theorem gL_law_X7_output : GoodIn wsL_law (wsV RL 120 RX7 yX7_output wsX7_output) := goodIn_app (goodIn_of _ (by decide +kernel)) ggL_law_X7_output
set_option maxRecDepth 20000 in
theorem ggL_law_X8_output : GoodIn wsL_law wsX8_output := goodIn_r _ [770, 114, 192, 83, 788, 789, 790, 791, 792, 793, 794, 795, 796, 797, 798, 799, 800, 801, 802, 803, 804, 805, 806] (by decide +kernel) (by decide +kernel)
set_option maxRecDepth 20000 in
theorem gL_law_X8_output : GoodIn wsL_law (wsV RL 123 RX8 yX8_output wsX8_output) := goodIn_app (goodIn_of _ (by decide +kernel)) ggL_law_X8_output
set_option maxRecDepth 20000 in
theorem ggL_law_X7_about : GoodIn wsL_law wsX7_about := goodIn_r _ [774, 17, 18, 22, 136, 137, 138, 15, 139, 76, 265, 266, 267, 21, 268, 215, 775, 776, 777, 778, 44, 216, 783, 784, 785, 786, 787, 807, 808, 809, 810, 811] (by decide +kernel) (by decide +kernel)
set_option maxRecDepth 20000 in
theorem gL_law_X7_about : GoodIn wsL_law (wsV RL 124 RX7 yX7_about wsX7_about) := goodIn_app (goodIn_of _ (by decide +kernel)) ggL_law_X7_about
set_option maxRecDepth 20000 in
theorem ggL_law_X8_about : GoodIn wsL_law wsX8_about := goodIn_r _ [782, 114, 144, 192, 273, 282, 283, 284, 5, 285, 87, 788, 789, 790, 791, 792, 793, 794, 795, 796, 797, 798, 799, 800, 801, 802, 803, 804, 805, 806] (by decide +kernel) (by decide +kernel)
set_option maxRecDepth 20000 in
theorem gL_law_X8_about : GoodIn wsL_law (wsV RL 127 RX8 yX8_about wsX8_about) := goodIn_app (goodIn_of _ (by decide +kernel)) ggL_law_X8_about
