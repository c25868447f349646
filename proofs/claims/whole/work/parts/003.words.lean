set_option maxRecDepth 20000 in
theorem gX9_sizes_X9_hitsOf : GoodIn wsX9_sizes (wsV RX9 203 RX9 yX9_hitsOf wsX9_hitsOf) := goodIn_app (goodIn_of _ (by decide +kernel)) ggX9_sizes_X9_hitsOf
set_option maxRecDepth 20000 in
theorem ggX9_sizes_X4_agree : GoodIn wsX9_sizes wsX4_agree := goodIn_r _ [138, 139, 140, 141, 142, 171, 172, 173, 174] (by decide +kernel) (by decide +kernel)
set_option maxRecDepth 20000 in
theorem gX9_sizes_X4_agree : GoodIn wsX9_sizes (wsV RX9 206 RX4 yX4_agree wsX4_agree) := goodIn_app (goodIn_of _ (by decide +kernel)) ggX9_sizes_X4_agree
set_option maxRecDepth 20000 in
theorem ggX9_kinds_X9_isDesk : GoodIn wsX9_kinds wsX9_isDesk := goodIn_r _ [8, 9, 10, 11, 7, 12, 143, 144, 145, 146, 147, 148, 149, 150, 151, 152, 153] (by decide +kernel) (by decide +kernel)
set_option maxRecDepth 20000 in
theorem gX9_kinds_X9_isDesk : GoodIn wsX9_kinds (wsV RX9 102 RX9 yX9_isDesk wsX9_isDesk) := goodIn_app (goodIn_of _ (by decide +kernel)) ggX9_kinds_X9_isDesk
set_option maxRecDepth 20000 in
theorem ggX9_kinds_X9_othersAgree : GoodIn wsX9_kinds wsX9_othersAgree := goodIn_r _ [16, 9, 2, 1, 3, 17, 18, 19, 20, 21, 22, 23, 24, 25, 26, 27, 28, 29, 30, 31, 32, 33, 34, 35, 7, 36, 37, 38, 39, 40, 41, 42, 43, 44, 45, 46, 47, 48, 49, 50, 51, 52, 53, 54, 55, 56, 57, 58, 59, 60, 61, 62, 63, 64, 65, 66, 67, 68, 69, 70, 71, 72, 73, 74, 75, 76, 77, 78, 79, 80, 81, 82, 83, 84, 85, 86, 87, 88, 89, 90, 91, 92, 93, 94, 95, 96, 97, 98, 99, 100, 101, 102, 103, 104, 105, 106, 107, 108, 109, 110, 111, 112, 113, 114, 115, 116, 117, 118, 119, 120, 121, 122, 123, 124, 125, 126, 127, 128, 129, 130, 131, 132, 133, 134, 135, 136, 137, 138, 139, 140, 141, 142, 143, 144, 145, 146, 147, 148, 149, 150, 151, 152, 153, 154, 155, 156, 157, 158, 159, 160, 161, 162, 163, 164, 165, 166, 167, 168, 169, 170, 171, 172, 173, 174] (by decide +kernel) (by decide +kernel)
set_option maxRecDepth 20000 in
theorem gX9_kinds_X9_othersAgree : GoodIn wsX9_kinds (wsV RX9 200 RX9 yX9_othersAgree wsX9_othersAgree) := goodIn_app (goodIn_of _ (by decide +kernel)) ggX9_kinds_X9_othersAgree
set_option maxRecDepth 20000 in
theorem ggX9_kinds_X9_hitsOf : GoodIn wsX9_kinds wsX9_hitsOf := goodIn_r _ [36, 37, 38, 39, 40, 41, 42, 43, 44, 28, 45, 46, 47, 48, 49, 50, 51, 52, 53, 54, 55, 56, 57, 58, 59, 60, 61, 62, 63, 64, 65, 66, 67, 68, 69, 70, 71, 22, 72, 73, 74, 75, 76, 77, 78, 79, 80, 81, 82, 31, 83, 84, 85, 86, 87, 88, 89, 90, 91, 92, 93, 94, 95, 96, 97, 98, 99, 100, 101, 102, 103, 104, 105, 106, 107, 108, 109, 110, 111, 112, 113, 114, 115, 116, 117, 118, 119, 120, 121, 122, 123, 124, 125, 126, 127, 128, 129, 130, 131, 132, 133, 143, 144, 145, 146, 147, 148, 149, 150, 151, 152, 153, 169, 170, 154, 155, 156, 157, 158, 159, 160, 161, 162, 163, 164, 165, 166, 167, 168] (by decide +kernel) (by decide +kernel)
set_option maxRecDepth 20000 in
theorem gX9_kinds_X9_hitsOf : GoodIn wsX9_kinds (wsV RX9 203 RX9 yX9_hitsOf wsX9_hitsOf) := goodIn_app (goodIn_of _ (by decide +kernel)) ggX9_kinds_X9_hitsOf
set_option maxRecDepth 20000 in
theorem ggX9_kinds_X4_agree : GoodIn wsX9_kinds wsX4_agree := goodIn_r _ [138, 139, 140, 141, 142, 171, 172, 173, 174] (by decide +kernel) (by decide +kernel)
set_option maxRecDepth 20000 in
theorem gX9_kinds_X4_agree : GoodIn wsX9_kinds (wsV RX9 206 RX4 yX4_agree wsX4_agree) := goodIn_app (goodIn_of _ (by decide +kernel)) ggX9_kinds_X4_agree
set_option maxRecDepth 20000 in
theorem ggX9_odds_X9_isDesk : GoodIn wsX9_odds wsX9_isDesk := goodIn_r _ [9, 10, 11, 12, 8, 13, 21, 22, 23, 24, 25, 26, 27, 28, 29, 30, 31] (by decide +kernel) (by decide +kernel)
set_option maxRecDepth 20000 in
theorem gX9_odds_X9_isDesk : GoodIn wsX9_odds (wsV RX9 102 RX9 yX9_isDesk wsX9_isDesk) := goodIn_app (goodIn_of _ (by decide +kernel)) ggX9_odds_X9_isDesk
set_option maxRecDepth 20000 in
theorem ggX9_odds_X9_isWithin : GoodIn wsX9_odds wsX9_isWithin := goodIn_r _ [13] (by decide +kernel) (by decide +kernel)
set_option maxRecDepth 20000 in
theorem gX9_odds_X9_isWithin : GoodIn wsX9_odds (va_wsS RX9 74 yX9_isWithin wsX9_isWithin) := goodIn_app (goodIn_of _ (by decide +kernel)) ggX9_odds_X9_isWithin
set_option maxRecDepth 20000 in
theorem ggX9_odds_X9_commonMeasure : GoodIn wsX9_odds wsX9_commonMeasure := goodIn_r _ [16, 17, 18, 19, 20] (by decide +kernel) (by decide +kernel)
set_option maxRecDepth 20000 in
theorem gX9_odds_X9_commonMeasure : GoodIn wsX9_odds (va_wsS RX9 213 yX9_commonMeasure wsX9_commonMeasure) := goodIn_app (goodIn_of _ (by decide +kernel)) ggX9_odds_X9_commonMeasure
set_option maxRecDepth 20000 in
theorem ggX9_sheet_X9_isSheet : GoodIn wsX9_sheet wsX9_isSheet := goodIn_r _ [6, 7, 8, 5, 9] (by decide +kernel) (by decide +kernel)
set_option maxRecDepth 20000 in
theorem gX9_sheet_X9_isSheet : GoodIn wsX9_sheet (va_wsS RX9 66 yX9_isSheet wsX9_isSheet) := goodIn_app (goodIn_of _ (by decide +kernel)) ggX9_sheet_X9_isSheet
set_option maxRecDepth 20000 in
theorem ggX9_sheet_X9_refused : GoodIn wsX9_sheet wsX9_refused := goodIn_r _ [13, 1, 26, 27, 28, 29, 30, 31, 32, 33, 34, 35, 36] (by decide +kernel) (by decide +kernel)
set_option maxRecDepth 20000 in
theorem gX9_sheet_X9_refused : GoodIn wsX9_sheet (wsV RX9 70 RX9 yX9_refused wsX9_refused) := goodIn_app (goodIn_of _ (by decide +kernel)) ggX9_sheet_X9_refused
set_option maxRecDepth 20000 in
theorem ggX9_sheet_X9_isWithin : GoodIn wsX9_sheet wsX9_isWithin := goodIn_r _ [9] (by decide +kernel) (by decide +kernel)
set_option maxRecDepth 20000 in
theorem gX9_sheet_X9_isWithin : GoodIn wsX9_sheet (va_wsS RX9 74 yX9_isWithin wsX9_isWithin) := goodIn_app (goodIn_of _ (by decide +kernel)) ggX9_sheet_X9_isWithin
set_option maxRecDepth 20000 in
theorem ggX9_sheet_X9_faulted : GoodIn wsX9_sheet wsX9_faulted := goodIn_r _ [17, 1, 26, 27, 28, 29, 30, 31, 32, 33, 34, 35, 36] (by decide +kernel) (by decide +kernel)
set_option maxRecDepth 20000 in
theorem gX9_sheet_X9_faulted : GoodIn wsX9_sheet (wsV RX9 85 RX9 yX9_faulted wsX9_faulted) := goodIn_app (goodIn_of _ (by decide +kernel)) ggX9_sheet_X9_faulted
set_option maxRecDepth 20000 in
theorem ggX9_sheet_X6_renew : GoodIn wsX9_sheet wsX6_renew := goodIn_r _ [22, 23, 24, 25, 37, 38, 39] (by decide +kernel) (by decide +kernel)
set_option maxRecDepth 20000 in
theorem gX9_sheet_X6_renew : GoodIn wsX9_sheet (wsV RX9 217 RX6 yX6_renew wsX6_renew) := goodIn_app (goodIn_of _ (by decide +kernel)) ggX9_sheet_X6_renew
set_option maxRecDepth 20000 in
theorem ggX9_lose_X9_isSheet : GoodIn wsX9_lose wsX9_isSheet := goodIn_r _ [6, 7, 8, 5, 9] (by decide +kernel) (by decide +kernel)
set_option maxRecDepth 20000 in
theorem gX9_lose_X9_isSheet : GoodIn wsX9_lose (va_wsS RX9 66 yX9_isSheet wsX9_isSheet) := goodIn_app (goodIn_of _ (by decide +kernel)) ggX9_lose_X9_isSheet
set_option maxRecDepth 20000 in
theorem ggX9_lose_X6_isNothing : GoodIn wsX9_lose wsX6_isNothing := goodIn_r _ [14, 15, 27, 28, 29] (by decide +kernel) (by decide +kernel)
set_option maxRecDepth 20000 in
theorem gX9_lose_X6_isNothing : GoodIn wsX9_lose (wsV RX9 221 RX6 yX6_isNothing wsX6_isNothing) := goodIn_app (goodIn_of _ (by decide +kernel)) ggX9_lose_X6_isNothing
set_option maxRecDepth 20000 in
theorem ggX9_put_X9_isSheet : GoodIn wsX9_put wsX9_isSheet := goodIn_r _ [7, 8, 9, 6, 10] (by decide +kernel) (by decide +kernel)
set_option maxRecDepth 20000 in
theorem gX9_put_X9_isSheet : GoodIn wsX9_put (va_wsS RX9 66 yX9_isSheet wsX9_isSheet) := goodIn_app (goodIn_of _ (by decide +kernel)) ggX9_put_X9_isSheet
set_option maxRecDepth 20000 in
theorem ggX9_put_X9_refused : GoodIn wsX9_put wsX9_refused := goodIn_r _ [14, 2, 34, 35, 36, 37, 38, 39, 40, 41, 42, 43, 44] (by decide +kernel) (by decide +kernel)
set_option maxRecDepth 20000 in
theorem gX9_put_X9_refused : GoodIn wsX9_put (wsV RX9 70 RX9 yX9_refused wsX9_refused) := goodIn_app (goodIn_of _ (by decide +kernel)) ggX9_put_X9_refused
set_option maxRecDepth 20000 in
theorem ggX9_put_X6_isNothing : GoodIn wsX9_put wsX6_isNothing := goodIn_r _ [19, 20, 45, 46, 47] (by decide +kernel) (by decide +kernel)
set_option maxRecDepth 20000 in
theorem gX9_put_X6_isNothing : GoodIn wsX9_put (wsV RX9 221 RX6 yX6_isNothing wsX6_isNothing) := goodIn_app (goodIn_of _ (by decide +kernel)) ggX9_put_X6_isNothing
set_option maxRecDepth 20000 in
theorem ggX9_put_X9_faulted : GoodIn wsX9_put wsX9_faulted := goodIn_r _ [24, 2, 34, 35, 36, 37, 38, 39, 40, 41, 42, 43, 44] (by decide +kernel) (by decide +kernel)
set_option maxRecDepth 20000 in
theorem gX9_put_X9_faulted : GoodIn wsX9_put (wsV RX9 85 RX9 yX9_faulted wsX9_faulted) := goodIn_app (goodIn_of _ (by decide +kernel)) ggX9_put_X9_faulted
set_option maxRecDepth 20000 in
theorem ggX9_put_X6_has : GoodIn wsX9_put wsX6_has := goodIn_r _ [28, 29, 9, 6, 10, 45, 46, 47] (by decide +kernel) (by decide +kernel)
set_option maxRecDepth 20000 in
theorem gX9_put_X6_has : GoodIn wsX9_put (wsV RX9 81 RX6 yX6_has wsX6_has) := goodIn_app (goodIn_of _ (by decide +kernel)) ggX9_put_X6_has
set_option maxRecDepth 20000 in
theorem ggX9_put_X6_cut : GoodIn wsX9_put wsX6_cut := goodIn_r _ [33, 20, 45, 46, 47] (by decide +kernel) (by decide +kernel)
set_option maxRecDepth 20000 in
theorem gX9_put_X6_cut : GoodIn wsX9_put (wsV RX9 227 RX6 yX6_cut wsX6_cut) := goodIn_app (goodIn_of _ (by decide +kernel)) ggX9_put_X6_cut
set_option maxRecDepth 20000 in
theorem ggX9_cell_X9_isSheet : GoodIn wsX9_cell wsX9_isSheet := goodIn_r _ [8, 9, 10, 7, 11] (by decide +kernel) (by decide +kernel)
set_option maxRecDepth 20000 in
theorem gX9_cell_X9_isSheet : GoodIn wsX9_cell (va_wsS RX9 66 yX9_isSheet wsX9_isSheet) := goodIn_app (goodIn_of _ (by decide +kernel)) ggX9_cell_X9_isSheet
set_option maxRecDepth 20000 in
theorem ggX9_cell_X9_isWithin : GoodIn wsX9_cell wsX9_isWithin := goodIn_r _ [11] (by decide +kernel) (by decide +kernel)
set_option maxRecDepth 20000 in
theorem gX9_cell_X9_isWithin : GoodIn wsX9_cell (va_wsS RX9 74 yX9_isWithin wsX9_isWithin) := goodIn_app (goodIn_of _ (by decide +kernel)) ggX9_cell_X9_isWithin
set_option maxRecDepth 20000 in
theorem ggX9_cell_X6_faultAs : GoodIn wsX9_cell wsX6_faultAs := goodIn_r _ [16, 17, 18, 19, 20, 15, 21, 38, 39, 40] (by decide +kernel) (by decide +kernel)
set_option maxRecDepth 20000 in
theorem gX9_cell_X6_faultAs : GoodIn wsX9_cell (wsV RX9 78 RX6 yX6_faultAs wsX6_faultAs) := goodIn_app (goodIn_of _ (by decide +kernel)) ggX9_cell_X6_faultAs
set_option maxRecDepth 20000 in
theorem ggX9_cell_X6_has : GoodIn wsX9_cell wsX6_has := goodIn_r _ [25, 26, 10, 7, 11, 38, 39, 40] (by decide +kernel) (by decide +kernel)
set_option maxRecDepth 20000 in
theorem gX9_cell_X6_has : GoodIn wsX9_cell (wsV RX9 81 RX6 yX6_has wsX6_has) := goodIn_app (goodIn_of _ (by decide +kernel)) ggX9_cell_X6_has
set_option maxRecDepth 20000 in
theorem ggX9_copy_X9_isSheet : GoodIn wsX9_copy wsX9_isSheet := goodIn_r _ [12, 13, 14, 11, 15] (by decide +kernel) (by decide +kernel)
set_option maxRecDepth 20000 in
theorem gX9_copy_X9_isSheet : GoodIn wsX9_copy (va_wsS RX9 66 yX9_isSheet wsX9_isSheet) := goodIn_app (goodIn_of _ (by decide +kernel)) ggX9_copy_X9_isSheet
set_option maxRecDepth 20000 in
theorem ggX9_copy_X9_refused : GoodIn wsX9_copy wsX9_refused := goodIn_r _ [19, 3, 35, 36, 37, 38, 39, 40, 41, 42, 43, 44, 45] (by decide +kernel) (by decide +kernel)
set_option maxRecDepth 20000 in
theorem gX9_copy_X9_refused : GoodIn wsX9_copy (wsV RX9 70 RX9 yX9_refused wsX9_refused) := goodIn_app (goodIn_of _ (by decide +kernel)) ggX9_copy_X9_refused
set_option maxRecDepth 20000 in
theorem ggX9_copy_X6_isNothing : GoodIn wsX9_copy wsX6_isNothing := goodIn_r _ [24, 25, 46, 47, 48] (by decide +kernel) (by decide +kernel)
set_option maxRecDepth 20000 in
theorem gX9_copy_X6_isNothing : GoodIn wsX9_copy (wsV RX9 221 RX6 yX6_isNothing wsX6_isNothing) := goodIn_app (goodIn_of _ (by decide +kernel)) ggX9_copy_X6_isNothing
set_option maxRecDepth 20000 in
theorem ggX9_copy_X9_faulted : GoodIn wsX9_copy wsX9_faulted := goodIn_r _ [29, 3, 35, 36, 37, 38, 39, 40, 41, 42, 43, 44, 45] (by decide +kernel) (by decide +kernel)
set_option maxRecDepth 20000 in
theorem gX9_copy_X9_faulted : GoodIn wsX9_copy (wsV RX9 85 RX9 yX9_faulted wsX9_faulted) := goodIn_app (goodIn_of _ (by decide +kernel)) ggX9_copy_X9_faulted
set_option maxRecDepth 20000 in
theorem ggX9_copy_X6_has : GoodIn wsX9_copy wsX6_has := goodIn_r _ [33, 34, 14, 11, 15, 46, 47, 48] (by decide +kernel) (by decide +kernel)
set_option maxRecDepth 20000 in
theorem gX9_copy_X6_has : GoodIn wsX9_copy (wsV RX9 81 RX6 yX6_has wsX6_has) := goodIn_app (goodIn_of _ (by decide +kernel)) ggX9_copy_X6_has
set_option maxRecDepth 20000 in
theorem ggX9_tell_X9_isDesk : GoodIn wsX9_tell wsX9_isDesk := goodIn_r _ [7, 8, 9, 10, 6, 11, 55, 56, 57, 58, 59, 60, 61, 62, 63, 64, 65] (by decide +kernel) (by decide +kernel)
set_option maxRecDepth 20000 in
theorem gX9_tell_X9_isDesk : GoodIn wsX9_tell (wsV RX9 102 RX9 yX9_isDesk wsX9_isDesk) := goodIn_app (goodIn_of _ (by decide +kernel)) ggX9_tell_X9_isDesk
set_option maxRecDepth 20000 in
theorem ggX9_tell_X0_telling : GoodIn wsX9_tell wsX0_telling := goodIn_r _ [18, 19, 20, 21, 22, 23, 24, 25, 26, 27, 28, 29, 30, 31, 32, 33, 66, 67, 68, 69, 70, 71, 72, 73, 74, 75, 76, 77, 78, 79, 80, 81] (by decide +kernel) (by decide +kernel)
set_option maxRecDepth 20000 in
theorem gX9_tell_X0_telling_u236X0 : GoodIn wsX9_tell (va_wsO RX9 236 RX0 "PageDesks$Queue" ⟨"PageDesks$Queue", "telling", "(LPageDesks$Trace;)I"⟩ yX0_telling wsX0_telling) := goodIn_app (goodIn_of _ (by decide +kernel)) ggX9_tell_X0_telling
set_option maxRecDepth 20000 in
theorem ggX9_tell_X3_telling : GoodIn wsX9_tell wsX3_telling := goodIn_r _ [34, 38, 39, 40, 28, 29, 30, 31, 32, 20, 21, 22, 23, 24, 41, 42, 43, 67, 68, 69, 70, 71, 72, 73, 74, 75, 76, 77, 78, 79, 80, 81, 66] (by decide +kernel) (by decide +kernel)
set_option maxRecDepth 20000 in
theorem gX9_tell_X3_telling : GoodIn wsX9_tell (wsV RX9 236 RX3 yX3_telling wsX3_telling) := goodIn_app (goodIn_of _ (by decide +kernel)) ggX9_tell_X3_telling
set_option maxRecDepth 20000 in
theorem ggX9_tell_X5_telling : GoodIn wsX9_tell wsX5_telling := goodIn_r _ [47, 48, 20, 21, 22, 23, 24, 49, 50, 51, 16, 17, 18, 19, 25, 26, 27, 28, 29, 30, 31, 32, 33, 52, 53, 54, 66, 67, 68, 69, 70, 71, 72, 73, 74, 75, 76, 77, 78, 79, 80, 81] (by decide +kernel) (by decide +kernel)
set_option maxRecDepth 20000 in
theorem gX9_tell_X5_telling_u236X5 : GoodIn wsX9_tell (va_wsO RX9 236 RX5 "PageDesks$Queue" ⟨"PageDesks$Queue", "telling", "(LPageDesks$Trace;)I"⟩ yX5_telling wsX5_telling) := goodIn_app (goodIn_of _ (by decide +kernel)) ggX9_tell_X5_telling
set_option maxRecDepth 20000 in
theorem ggX9_tally_X9_isDesk : GoodIn wsX9_tally wsX9_isDesk := goodIn_r _ [7, 8, 9, 10, 6, 11, 33, 34, 35, 36, 37, 38, 39, 40, 41, 42, 43] (by decide +kernel) (by decide +kernel)
set_option maxRecDepth 20000 in
theorem gX9_tally_X9_isDesk : GoodIn wsX9_tally (wsV RX9 102 RX9 yX9_isDesk wsX9_isDesk) := goodIn_app (goodIn_of _ (by decide +kernel)) ggX9_tally_X9_isDesk
set_option maxRecDepth 20000 in
theorem ggX9_tally_X3_counted : GoodIn wsX9_tally wsX3_counted := goodIn_r _ [17, 18, 19, 20, 21, 22, 23, 24, 44, 45, 46, 47, 48, 49, 50, 51, 52, 53, 54, 55, 56, 57, 58, 59] (by decide +kernel) (by decide +kernel)
set_option maxRecDepth 20000 in
theorem gX9_tally_X3_counted_u240X0 : GoodIn wsX9_tally (va_wsU RX9 240 RX0 "PageDesks$Queue" ⟨"PageDesks$Queue", "counted", "(LPageDesks$Trace;)I"⟩ yX3_counted wsX3_counted) := goodIn_app (goodIn_of _ (by decide +kernel)) ggX9_tally_X3_counted
set_option maxRecDepth 20000 in
theorem gX9_tally_X3_counted : GoodIn wsX9_tally (wsV RX9 240 RX3 yX3_counted wsX3_counted) := goodIn_app (goodIn_of _ (by decide +kernel)) ggX9_tally_X3_counted
set_option maxRecDepth 20000 in
theorem ggX9_tally_X5_counted : GoodIn wsX9_tally wsX5_counted := goodIn_r _ [31, 32, 20, 21, 22, 23, 24, 59] (by decide +kernel) (by decide +kernel)
set_option maxRecDepth 20000 in
theorem gX9_tally_X5_counted_u240X5 : GoodIn wsX9_tally (va_wsO RX9 240 RX5 "PageDesks$Queue" ⟨"PageDesks$Queue", "counted", "(LPageDesks$Trace;)I"⟩ yX5_counted wsX5_counted) := goodIn_app (goodIn_of _ (by decide +kernel)) ggX9_tally_X5_counted
set_option maxRecDepth 20000 in
theorem ggX9_as_X9_isDesk : GoodIn wsX9_as wsX9_isDesk := goodIn_r _ [7, 8, 9, 10, 6, 11, 25, 26, 27, 28, 29, 30, 31, 32, 33, 34, 35] (by decide +kernel) (by decide +kernel)
set_option maxRecDepth 20000 in
theorem gX9_as_X9_isDesk : GoodIn wsX9_as (wsV RX9 102 RX9 yX9_isDesk wsX9_isDesk) := goodIn_app (goodIn_of _ (by decide +kernel)) ggX9_as_X9_isDesk
set_option maxRecDepth 20000 in
theorem ggX9_as_X9_refused : GoodIn wsX9_as wsX9_refused := goodIn_r _ [15, 2, 25, 26, 27, 28, 29, 30, 31, 32, 33, 34, 35] (by decide +kernel) (by decide +kernel)
set_option maxRecDepth 20000 in
theorem gX9_as_X9_refused : GoodIn wsX9_as (wsV RX9 70 RX9 yX9_refused wsX9_refused) := goodIn_app (goodIn_of _ (by decide +kernel)) ggX9_as_X9_refused
set_option maxRecDepth 20000 in
theorem ggX9_as_X9_isWithin : GoodIn wsX9_as wsX9_isWithin := goodIn_r _ [11] (by decide +kernel) (by decide +kernel)
set_option maxRecDepth 20000 in
theorem gX9_as_X9_isWithin : GoodIn wsX9_as (va_wsS RX9 74 yX9_isWithin wsX9_isWithin) := goodIn_app (goodIn_of _ (by decide +kernel)) ggX9_as_X9_isWithin
set_option maxRecDepth 20000 in
theorem ggX9_as_X9_isOfKind : GoodIn wsX9_as wsX9_isOfKind := goodIn_r _ [18, 19, 20] (by decide +kernel) (by decide +kernel)
set_option maxRecDepth 20000 in
theorem gX9_as_X9_isOfKind : GoodIn wsX9_as (va_wsS RX9 243 yX9_isOfKind wsX9_isOfKind) := goodIn_app (goodIn_of _ (by decide +kernel)) ggX9_as_X9_isOfKind
set_option maxRecDepth 20000 in
theorem ggX9_as_X9_faulted : GoodIn wsX9_as wsX9_faulted := goodIn_r _ [24, 2, 25, 26, 27, 28, 29, 30, 31, 32, 33, 34, 35] (by decide +kernel) (by decide +kernel)
set_option maxRecDepth 20000 in
theorem gX9_as_X9_faulted : GoodIn wsX9_as (wsV RX9 85 RX9 yX9_faulted wsX9_faulted) := goodIn_app (goodIn_of _ (by decide +kernel)) ggX9_as_X9_faulted
set_option maxRecDepth 20000 in
theorem ggX9_many_X2_pagesOf : GoodIn wsX9_many wsX2_pagesOf := goodIn_r _ [11, 12, 31, 32] (by decide +kernel) (by decide +kernel)
set_option maxRecDepth 20000 in
theorem gX9_many_X2_pagesOf : GoodIn wsX9_many (wsV RX9 184 RX2 yX2_pagesOf wsX2_pagesOf) := goodIn_app (goodIn_of _ (by decide +kernel)) ggX9_many_X2_pagesOf
set_option maxRecDepth 20000 in
theorem ggX9_many_J6_bitCount_0f7a4 : GoodIn wsX9_many wsJ6_bitCount_0f7a4 := goodIn_r _ [16, 17, 18, 19] (by decide +kernel) (by decide +kernel)
set_option maxRecDepth 20000 in
theorem gX9_many_J6_bitCount_0f7a4 : GoodIn wsX9_many (va_wsS RX9 187 yJ6_bitCount_0f7a4 wsJ6_bitCount_0f7a4) := goodIn_app (goodIn_of _ (by decide +kernel)) ggX9_many_J6_bitCount_0f7a4
set_option maxRecDepth 20000 in
theorem ggX9_isPage_X9_isWithin : GoodIn wsX9_isPage wsX9_isWithin := goodIn_r _ [4] (by decide +kernel) (by decide +kernel)
set_option maxRecDepth 20000 in
theorem gX9_isPage_X9_isWithin : GoodIn wsX9_isPage (va_wsS RX9 74 yX9_isWithin wsX9_isWithin) := goodIn_app (goodIn_of _ (by decide +kernel)) ggX9_isPage_X9_isWithin
set_option maxRecDepth 20000 in
theorem ggX9_isSheet_X9_isWithin : GoodIn wsX9_isSheet wsX9_isWithin := goodIn_r _ [4] (by decide +kernel) (by decide +kernel)
set_option maxRecDepth 20000 in
theorem gX9_isSheet_X9_isWithin : GoodIn wsX9_isSheet (va_wsS RX9 74 yX9_isWithin wsX9_isWithin) := goodIn_app (goodIn_of _ (by decide +kernel)) ggX9_isSheet_X9_isWithin
set_option maxRecDepth 20000 in
theorem ggX9_isDesk_X9_isWithin : GoodIn wsX9_isDesk wsX9_isWithin := goodIn_r _ [5] (by decide +kernel) (by decide +kernel)
set_option maxRecDepth 20000 in
theorem gX9_isDesk_X9_isWithin : GoodIn wsX9_isDesk (va_wsS RX9 74 yX9_isWithin wsX9_isWithin) := goodIn_app (goodIn_of _ (by decide +kernel)) ggX9_isDesk_X9_isWithin
set_option maxRecDepth 20000 in
theorem ggX9_newDesk_X0_init : GoodIn wsX9_newDesk wsX0_init := goodIn_r _ [11, 12, 9, 13, 14, 15, 16, 17, 18, 19, 22, 23, 24, 25, 26, 32, 33, 34, 35, 36, 27, 28, 29, 30, 31] (by decide +kernel) (by decide +kernel)
set_option maxRecDepth 20000 in
theorem gX9_newDesk_X0_init_n252 : GoodIn wsX9_newDesk (wsX0_init) := ggX9_newDesk_X0_init
set_option maxRecDepth 20000 in
theorem ggX9_newDesk_X5_init : GoodIn wsX9_newDesk wsX5_init := goodIn_r _ [21, 10, 3, 11, 12, 9, 13, 14, 15, 16, 17, 18, 19, 22, 23, 24, 25, 26, 32, 33, 34, 35, 36, 27, 28, 29, 30, 31] (by decide +kernel) (by decide +kernel)
set_option maxRecDepth 20000 in
theorem gX9_newDesk_X5_init_n255 : GoodIn wsX9_newDesk (wsX5_init) := ggX9_newDesk_X5_init
set_option maxRecDepth 20000 in
theorem ggX9_newDesk_X3_init : GoodIn wsX9_newDesk wsX3_init := goodIn_r _ [13, 14, 15, 16, 17, 18, 19, 22, 23, 24, 25, 26, 32, 33, 34, 35, 36, 27, 28, 29, 30, 31] (by decide +kernel) (by decide +kernel)
set_option maxRecDepth 20000 in
theorem gX9_newDesk_X3_init_n256 : GoodIn wsX9_newDesk (wsX3_init) := ggX9_newDesk_X3_init
set_option maxRecDepth 20000 in
theorem ggX9_furnish_X9_newDesk : GoodIn wsX9_furnish wsX9_newDesk := goodIn_r _ [16, 17, 18, 19, 20, 21, 22, 23, 24, 25, 26, 27, 28, 29, 30, 31, 32, 33, 34, 35, 36, 37, 81, 82, 83, 84, 85, 86, 87, 88, 89, 90, 91, 92, 93, 94, 95] (by decide +kernel) (by decide +kernel)
set_option maxRecDepth 20000 in
theorem gX9_furnish_X9_newDesk : GoodIn wsX9_furnish (va_wsS RX9 62 yX9_newDesk wsX9_newDesk) := goodIn_app (goodIn_of _ (by decide +kernel)) ggX9_furnish_X9_newDesk
set_option maxRecDepth 20000 in
theorem ggX9_furnish_X3_clear : GoodIn wsX9_furnish wsX3_clear := goodIn_r _ [42, 35, 43, 44, 45, 81, 82, 83, 84, 85, 91, 92, 93, 94, 95, 86, 87, 88, 89, 90] (by decide +kernel) (by decide +kernel)
set_option maxRecDepth 20000 in
theorem gX9_furnish_X3_clear_u135X0 : GoodIn wsX9_furnish (va_wsU RX9 135 RX0 "PageDesks$Queue" ⟨"PageDesks$Queue", "clear", "(I)V"⟩ yX3_clear wsX3_clear) := goodIn_app (goodIn_of _ (by decide +kernel)) ggX9_furnish_X3_clear
set_option maxRecDepth 20000 in
theorem gX9_furnish_X3_clear : GoodIn wsX9_furnish (wsV RX9 135 RX3 yX3_clear wsX3_clear) := goodIn_app (goodIn_of _ (by decide +kernel)) ggX9_furnish_X3_clear
set_option maxRecDepth 20000 in
theorem gX9_furnish_X3_clear_u135X5 : GoodIn wsX9_furnish (va_wsU RX9 135 RX5 "PageDesks$Queue" ⟨"PageDesks$Queue", "clear", "(I)V"⟩ yX3_clear wsX3_clear) := goodIn_app (goodIn_of _ (by decide +kernel)) ggX9_furnish_X3_clear
set_option maxRecDepth 20000 in
theorem ggX9_furnish_X2_become : GoodIn wsX9_furnish wsX2_become := goodIn_r _ [53, 54, 55, 56, 57, 58, 59, 96, 97] (by decide +kernel) (by decide +kernel)
set_option maxRecDepth 20000 in
theorem gX9_furnish_X2_become : GoodIn wsX9_furnish (wsV RX9 267 RX2 yX2_become wsX2_become) := goodIn_app (goodIn_of _ (by decide +kernel)) ggX9_furnish_X2_become
set_option maxRecDepth 20000 in
theorem ggX9_missesOfAll_X3_serve : GoodIn wsX9_missesOfAll wsX3_serve := goodIn_r _ [8, 9, 10, 11, 12, 13, 14, 15, 16, 7, 17, 18, 19, 20, 21, 22, 23, 24, 25, 26, 27, 28, 29, 30, 31, 32, 33, 34, 35, 36, 37, 38, 39, 40, 41, 42, 43, 44, 45, 46, 47, 48, 49, 50, 51, 52, 53, 54, 55, 56, 57, 58, 59, 60, 61, 62, 63, 64, 65, 66, 67, 68, 69, 70, 71, 72, 73, 74, 75, 76, 77, 78, 79, 80, 81, 82, 83, 84, 85, 86, 87, 102, 103, 104, 105, 106, 107, 108, 109, 110, 111, 112, 113, 114, 115, 116] (by decide +kernel) (by decide +kernel)
set_option maxRecDepth 20000 in
theorem gX9_missesOfAll_X3_serve_u142X0 : GoodIn wsX9_missesOfAll (va_wsU RX9 142 RX0 "PageDesks$Queue" ⟨"PageDesks$Queue", "serve", "(I)Z"⟩ yX3_serve wsX3_serve) := goodIn_app (goodIn_of _ (by decide +kernel)) ggX9_missesOfAll_X3_serve
set_option maxRecDepth 20000 in
theorem gX9_missesOfAll_X3_serve : GoodIn wsX9_missesOfAll (wsV RX9 142 RX3 yX3_serve wsX3_serve) := goodIn_app (goodIn_of _ (by decide +kernel)) ggX9_missesOfAll_X3_serve
set_option maxRecDepth 20000 in
theorem gX9_missesOfAll_X3_serve_u142X5 : GoodIn wsX9_missesOfAll (va_wsU RX9 142 RX5 "PageDesks$Queue" ⟨"PageDesks$Queue", "serve", "(I)Z"⟩ yX3_serve wsX3_serve) := goodIn_app (goodIn_of _ (by decide +kernel)) ggX9_missesOfAll_X3_serve
set_option maxRecDepth 20000 in
theorem ggX9_toldOn_X0_kind : GoodIn wsX9_toldOn wsX0_kind := goodIn_r _ [11] (by decide +kernel) (by decide +kernel)
set_option maxRecDepth 20000 in
theorem gX9_toldOn_X0_kind_u105X0 : GoodIn wsX9_toldOn (va_wsO RX9 105 RX0 "PageDesks$Queue" ⟨"PageDesks$Queue", "kind", "()I"⟩ yX0_kind wsX0_kind) := goodIn_app (goodIn_of _ (by decide +kernel)) ggX9_toldOn_X0_kind
set_option maxRecDepth 20000 in
theorem ggX9_toldOn_X3_kind : GoodIn wsX9_toldOn wsX3_kind := goodIn_r _ [12] (by decide +kernel) (by decide +kernel)
set_option maxRecDepth 20000 in
theorem gX9_toldOn_X3_kind : GoodIn wsX9_toldOn (wsV RX9 105 RX3 yX3_kind wsX3_kind) := goodIn_app (goodIn_of _ (by decide +kernel)) ggX9_toldOn_X3_kind
set_option maxRecDepth 20000 in
theorem ggX9_toldOn_X5_kind : GoodIn wsX9_toldOn wsX5_kind := goodIn_r _ [20] (by decide +kernel) (by decide +kernel)
set_option maxRecDepth 20000 in
theorem gX9_toldOn_X5_kind_u105X5 : GoodIn wsX9_toldOn (va_wsO RX9 105 RX5 "PageDesks$Queue" ⟨"PageDesks$Queue", "kind", "()I"⟩ yX5_kind wsX5_kind) := goodIn_app (goodIn_of _ (by decide +kernel)) ggX9_toldOn_X5_kind
set_option maxRecDepth 20000 in
theorem ggX9_toldOn_X3_become : GoodIn wsX9_toldOn wsX3_become := goodIn_r _ [25, 26, 27, 28, 29, 30, 31, 32, 33, 34, 161, 162, 163, 164, 165, 166, 167, 168, 169, 170, 171, 172, 173, 174, 175] (by decide +kernel) (by decide +kernel)
set_option maxRecDepth 20000 in
theorem gX9_toldOn_X3_become_u271X0 : GoodIn wsX9_toldOn (va_wsU RX9 271 RX0 "PageDesks$Queue" ⟨"PageDesks$Queue", "become", "(LPageDesks$Queue;)V"⟩ yX3_become wsX3_become) := goodIn_app (goodIn_of _ (by decide +kernel)) ggX9_toldOn_X3_become
set_option maxRecDepth 20000 in
theorem gX9_toldOn_X3_become : GoodIn wsX9_toldOn (wsV RX9 271 RX3 yX3_become wsX3_become) := goodIn_app (goodIn_of _ (by decide +kernel)) ggX9_toldOn_X3_become
set_option maxRecDepth 20000 in
theorem gX9_toldOn_X3_become_u271X5 : GoodIn wsX9_toldOn (va_wsU RX9 271 RX5 "PageDesks$Queue" ⟨"PageDesks$Queue", "become", "(LPageDesks$Queue;)V"⟩ yX3_become wsX3_become) := goodIn_app (goodIn_of _ (by decide +kernel)) ggX9_toldOn_X3_become
set_option maxRecDepth 20000 in
theorem ggX9_toldOn_X3_serve : GoodIn wsX9_toldOn wsX3_serve := goodIn_r _ [42, 34, 32, 31, 26, 43, 44, 45, 46, 16, 47, 48, 49, 50, 51, 52, 53, 54, 55, 10, 56, 57, 58, 59, 60, 61, 62, 63, 64, 65, 66, 19, 67, 68, 69, 70, 71, 72, 73, 74, 75, 76, 77, 78, 79, 80, 81, 82, 83, 84, 85, 86, 87, 88, 33, 89, 90, 91, 92, 93, 94, 95, 96, 97, 98, 99, 100, 101, 102, 103, 104, 105, 106, 107, 108, 109, 110, 111, 112, 113, 114, 161, 162, 163, 164, 165, 166, 167, 168, 169, 170, 171, 172, 173, 174, 175] (by decide +kernel) (by decide +kernel)
set_option maxRecDepth 20000 in
theorem gX9_toldOn_X3_serve_u142X0 : GoodIn wsX9_toldOn (va_wsU RX9 142 RX0 "PageDesks$Queue" ⟨"PageDesks$Queue", "serve", "(I)Z"⟩ yX3_serve wsX3_serve) := goodIn_app (goodIn_of _ (by decide +kernel)) ggX9_toldOn_X3_serve
set_option maxRecDepth 20000 in
theorem gX9_toldOn_X3_serve : GoodIn wsX9_toldOn (wsV RX9 142 RX3 yX3_serve wsX3_serve) := goodIn_app (goodIn_of _ (by decide +kernel)) ggX9_toldOn_X3_serve
set_option maxRecDepth 20000 in
theorem gX9_toldOn_X3_serve_u142X5 : GoodIn wsX9_toldOn (va_wsU RX9 142 RX5 "PageDesks$Queue" ⟨"PageDesks$Queue", "serve", "(I)Z"⟩ yX3_serve wsX3_serve) := goodIn_app (goodIn_of _ (by decide +kernel)) ggX9_toldOn_X3_serve
set_option maxRecDepth 20000 in
theorem ggX9_toldOn_X3_pages : GoodIn wsX9_toldOn wsX3_pages := goodIn_r _ [122, 32, 26, 161, 162, 163, 164, 165, 166, 167, 168, 169, 170, 171, 172, 173, 174, 175] (by decide +kernel) (by decide +kernel)
set_option maxRecDepth 20000 in
theorem gX9_toldOn_X3_pages_u112X0 : GoodIn wsX9_toldOn (va_wsU RX9 112 RX0 "PageDesks$Queue" ⟨"PageDesks$Queue", "pages", "()I"⟩ yX3_pages wsX3_pages) := goodIn_app (goodIn_of _ (by decide +kernel)) ggX9_toldOn_X3_pages
set_option maxRecDepth 20000 in
theorem gX9_toldOn_X3_pages : GoodIn wsX9_toldOn (wsV RX9 112 RX3 yX3_pages wsX3_pages) := goodIn_app (goodIn_of _ (by decide +kernel)) ggX9_toldOn_X3_pages
set_option maxRecDepth 20000 in
theorem gX9_toldOn_X3_pages_u112X5 : GoodIn wsX9_toldOn (va_wsU RX9 112 RX5 "PageDesks$Queue" ⟨"PageDesks$Queue", "pages", "()I"⟩ yX3_pages wsX3_pages) := goodIn_app (goodIn_of _ (by decide +kernel)) ggX9_toldOn_X3_pages
set_option maxRecDepth 20000 in
theorem ggX9_toldOn_X3_nextToGo : GoodIn wsX9_toldOn wsX3_nextToGo := goodIn_r _ [130, 32, 31, 26, 131, 132, 133, 134, 135, 10, 136, 82, 83, 84, 85, 86, 87, 16, 88, 33, 89, 137, 138, 139, 140, 141, 142, 19, 143, 161, 162, 163, 164, 165, 166, 167, 168, 169, 170, 171, 172, 173, 174, 175] (by decide +kernel) (by decide +kernel)
set_option maxRecDepth 20000 in
theorem gX9_toldOn_X3_nextToGo_u118X0 : GoodIn wsX9_toldOn (va_wsU RX9 118 RX0 "PageDesks$Queue" ⟨"PageDesks$Queue", "nextToGo", "()I"⟩ yX3_nextToGo wsX3_nextToGo) := goodIn_app (goodIn_of _ (by decide +kernel)) ggX9_toldOn_X3_nextToGo
set_option maxRecDepth 20000 in
theorem gX9_toldOn_X3_nextToGo : GoodIn wsX9_toldOn (wsV RX9 118 RX3 yX3_nextToGo wsX3_nextToGo) := goodIn_app (goodIn_of _ (by decide +kernel)) ggX9_toldOn_X3_nextToGo
set_option maxRecDepth 20000 in
theorem gX9_toldOn_X3_nextToGo_u118X5 : GoodIn wsX9_toldOn (va_wsU RX9 118 RX5 "PageDesks$Queue" ⟨"PageDesks$Queue", "nextToGo", "()I"⟩ yX3_nextToGo wsX3_nextToGo) := goodIn_app (goodIn_of _ (by decide +kernel)) ggX9_toldOn_X3_nextToGo
set_option maxRecDepth 20000 in
theorem ggX9_missesBy_X0_kind : GoodIn wsX9_missesBy wsX0_kind := goodIn_r _ [10] (by decide +kernel) (by decide +kernel)
set_option maxRecDepth 20000 in
theorem gX9_missesBy_X0_kind_u105X0 : GoodIn wsX9_missesBy (va_wsO RX9 105 RX0 "PageDesks$Queue" ⟨"PageDesks$Queue", "kind", "()I"⟩ yX0_kind wsX0_kind) := goodIn_app (goodIn_of _ (by decide +kernel)) ggX9_missesBy_X0_kind
set_option maxRecDepth 20000 in
theorem ggX9_missesBy_X3_kind : GoodIn wsX9_missesBy wsX3_kind := goodIn_r _ [11] (by decide +kernel) (by decide +kernel)
set_option maxRecDepth 20000 in
theorem gX9_missesBy_X3_kind : GoodIn wsX9_missesBy (wsV RX9 105 RX3 yX3_kind wsX3_kind) := goodIn_app (goodIn_of _ (by decide +kernel)) ggX9_missesBy_X3_kind
set_option maxRecDepth 20000 in
theorem ggX9_missesBy_X5_kind : GoodIn wsX9_missesBy wsX5_kind := goodIn_r _ [19] (by decide +kernel) (by decide +kernel)
set_option maxRecDepth 20000 in
theorem gX9_missesBy_X5_kind_u105X5 : GoodIn wsX9_missesBy (va_wsO RX9 105 RX5 "PageDesks$Queue" ⟨"PageDesks$Queue", "kind", "()I"⟩ yX5_kind wsX5_kind) := goodIn_app (goodIn_of _ (by decide +kernel)) ggX9_missesBy_X5_kind
set_option maxRecDepth 20000 in
theorem ggX9_missesBy_X9_hitsOf : GoodIn wsX9_missesBy wsX9_hitsOf := goodIn_r _ [24, 25, 1, 2, 26, 27, 28, 29, 30, 15, 31, 32, 33, 34, 35, 36, 37, 38, 39, 40, 41, 42, 43, 44, 45, 46, 47, 48, 49, 50, 51, 52, 53, 54, 55, 56, 57, 9, 58, 59, 60, 61, 62, 63, 64, 65, 66, 67, 68, 18, 69, 70, 71, 72, 73, 74, 75, 76, 77, 78, 79, 80, 81, 82, 83, 84, 85, 86, 87, 88, 89, 90, 91, 92, 93, 94, 95, 96, 97, 98, 99, 100, 101, 102, 103, 104, 105, 106, 107, 108, 109, 110, 111, 112, 113, 114, 115, 116, 117, 118, 119, 127, 128, 129, 130, 131, 132, 133, 134, 135, 136, 137, 138, 139, 140, 141, 142, 143, 144, 145, 146, 147, 148, 149, 150, 151, 152, 153, 154] (by decide +kernel) (by decide +kernel)
set_option maxRecDepth 20000 in
theorem gX9_missesBy_X9_hitsOf : GoodIn wsX9_missesBy (wsV RX9 203 RX9 yX9_hitsOf wsX9_hitsOf) := goodIn_app (goodIn_of _ (by decide +kernel)) ggX9_missesBy_X9_hitsOf
set_option maxRecDepth 20000 in
theorem ggX9_missesBy_J6_bitCount_0f7a4 : GoodIn wsX9_missesBy wsJ6_bitCount_0f7a4 := goodIn_r _ [123, 124, 125, 126] (by decide +kernel) (by decide +kernel)
set_option maxRecDepth 20000 in
theorem gX9_missesBy_J6_bitCount_0f7a4 : GoodIn wsX9_missesBy (va_wsS RX9 187 yJ6_bitCount_0f7a4 wsJ6_bitCount_0f7a4) := goodIn_app (goodIn_of _ (by decide +kernel)) ggX9_missesBy_J6_bitCount_0f7a4
set_option maxRecDepth 20000 in
theorem ggX9_hitsOf_X3_clear : GoodIn wsX9_hitsOf wsX3_clear := goodIn_r _ [10, 11, 12, 13, 14, 114, 115, 116, 117, 118, 119, 120, 121, 122, 123, 124, 125, 126, 127, 128] (by decide +kernel) (by decide +kernel)
set_option maxRecDepth 20000 in
theorem gX9_hitsOf_X3_clear_u135X0 : GoodIn wsX9_hitsOf (va_wsU RX9 135 RX0 "PageDesks$Queue" ⟨"PageDesks$Queue", "clear", "(I)V"⟩ yX3_clear wsX3_clear) := goodIn_app (goodIn_of _ (by decide +kernel)) ggX9_hitsOf_X3_clear
set_option maxRecDepth 20000 in
theorem gX9_hitsOf_X3_clear : GoodIn wsX9_hitsOf (wsV RX9 135 RX3 yX3_clear wsX3_clear) := goodIn_app (goodIn_of _ (by decide +kernel)) ggX9_hitsOf_X3_clear
set_option maxRecDepth 20000 in
theorem gX9_hitsOf_X3_clear_u135X5 : GoodIn wsX9_hitsOf (va_wsU RX9 135 RX5 "PageDesks$Queue" ⟨"PageDesks$Queue", "clear", "(I)V"⟩ yX3_clear wsX3_clear) := goodIn_app (goodIn_of _ (by decide +kernel)) ggX9_hitsOf_X3_clear
set_option maxRecDepth 20000 in
theorem ggX9_hitsOf_X3_serve : GoodIn wsX9_hitsOf wsX3_serve := goodIn_r _ [22, 14, 12, 11, 23, 24, 25, 26, 27, 9, 28, 29, 30, 31, 32, 33, 34, 35, 36, 37, 38, 39, 40, 41, 42, 43, 44, 45, 46, 47, 48, 49, 50, 51, 52, 53, 54, 55, 56, 57, 58, 59, 60, 61, 62, 63, 64, 65, 66, 67, 68, 69, 70, 71, 13, 72, 73, 74, 75, 76, 77, 78, 79, 80, 81, 82, 83, 84, 85, 86, 87, 88, 89, 90, 91, 92, 93, 94, 95, 96, 97, 114, 115, 116, 117, 118, 119, 120, 121, 122, 123, 124, 125, 126, 127, 128] (by decide +kernel) (by decide +kernel)
set_option maxRecDepth 20000 in
theorem gX9_hitsOf_X3_serve_u142X0 : GoodIn wsX9_hitsOf (va_wsU RX9 142 RX0 "PageDesks$Queue" ⟨"PageDesks$Queue", "serve", "(I)Z"⟩ yX3_serve wsX3_serve) := goodIn_app (goodIn_of _ (by decide +kernel)) ggX9_hitsOf_X3_serve
set_option maxRecDepth 20000 in
theorem gX9_hitsOf_X3_serve : GoodIn wsX9_hitsOf (wsV RX9 142 RX3 yX3_serve wsX3_serve) := goodIn_app (goodIn_of _ (by decide +kernel)) ggX9_hitsOf_X3_serve
set_option maxRecDepth 20000 in
theorem gX9_hitsOf_X3_serve_u142X5 : GoodIn wsX9_hitsOf (va_wsU RX9 142 RX5 "PageDesks$Queue" ⟨"PageDesks$Queue", "serve", "(I)Z"⟩ yX3_serve wsX3_serve) := goodIn_app (goodIn_of _ (by decide +kernel)) ggX9_hitsOf_X3_serve
set_option maxRecDepth 20000 in
theorem ggX9_othersAgree_X0_kind : GoodIn wsX9_othersAgree wsX0_kind := goodIn_r _ [11] (by decide +kernel) (by decide +kernel)
set_option maxRecDepth 20000 in
theorem gX9_othersAgree_X0_kind_u105X0 : GoodIn wsX9_othersAgree (va_wsO RX9 105 RX0 "PageDesks$Queue" ⟨"PageDesks$Queue", "kind", "()I"⟩ yX0_kind wsX0_kind) := goodIn_app (goodIn_of _ (by decide +kernel)) ggX9_othersAgree_X0_kind
set_option maxRecDepth 20000 in
theorem ggX9_othersAgree_X3_kind : GoodIn wsX9_othersAgree wsX3_kind := goodIn_r _ [12] (by decide +kernel) (by decide +kernel)
set_option maxRecDepth 20000 in
theorem gX9_othersAgree_X3_kind : GoodIn wsX9_othersAgree (wsV RX9 105 RX3 yX3_kind wsX3_kind) := goodIn_app (goodIn_of _ (by decide +kernel)) ggX9_othersAgree_X3_kind
set_option maxRecDepth 20000 in
theorem ggX9_othersAgree_X5_kind : GoodIn wsX9_othersAgree wsX5_kind := goodIn_r _ [20] (by decide +kernel) (by decide +kernel)
set_option maxRecDepth 20000 in
theorem gX9_othersAgree_X5_kind_u105X5 : GoodIn wsX9_othersAgree (va_wsO RX9 105 RX5 "PageDesks$Queue" ⟨"PageDesks$Queue", "kind", "()I"⟩ yX5_kind wsX5_kind) := goodIn_app (goodIn_of _ (by decide +kernel)) ggX9_othersAgree_X5_kind
set_option maxRecDepth 20000 in
theorem ggX9_othersAgree_X9_hitsOf : GoodIn wsX9_othersAgree wsX9_hitsOf := goodIn_r _ [25, 26, 27, 28, 29, 30, 31, 32, 33, 16, 34, 35, 36, 37, 38, 39, 40, 41, 42, 43, 44, 45, 46, 47, 48, 49, 50, 51, 52, 53, 54, 55, 56, 57, 58, 59, 60, 10, 61, 62, 63, 64, 65, 66, 67, 68, 69, 70, 71, 19, 72, 73, 74, 75, 76, 77, 78, 79, 80, 81, 82, 83, 84, 85, 86, 87, 88, 89, 90, 91, 92, 93, 94, 95, 96, 97, 98, 99, 100, 101, 102, 103, 104, 105, 106, 107, 108, 109, 110, 111, 112, 113, 114, 115, 116, 117, 118, 119, 120, 121, 122, 132, 133, 134, 135, 136, 137, 138, 139, 140, 141, 142, 158, 159, 143, 144, 145, 146, 147, 148, 149, 150, 151, 152, 153, 154, 155, 156, 157] (by decide +kernel) (by decide +kernel)
set_option maxRecDepth 20000 in
theorem gX9_othersAgree_X9_hitsOf : GoodIn wsX9_othersAgree (wsV RX9 203 RX9 yX9_hitsOf wsX9_hitsOf) := goodIn_app (goodIn_of _ (by decide +kernel)) ggX9_othersAgree_X9_hitsOf
set_option maxRecDepth 20000 in
theorem ggX9_othersAgree_X4_agree : GoodIn wsX9_othersAgree wsX4_agree := goodIn_r _ [127, 128, 129, 130, 131, 160, 161, 162, 163] (by decide +kernel) (by decide +kernel)
set_option maxRecDepth 20000 in
theorem gX9_othersAgree_X4_agree : GoodIn wsX9_othersAgree (wsV RX9 206 RX4 yX4_agree wsX4_agree) := goodIn_app (goodIn_of _ (by decide +kernel)) ggX9_othersAgree_X4_agree
set_option maxRecDepth 20000 in
theorem ggX10_failedLong_X10_lost : GoodIn wsX10_failedLong wsX10_lost := goodIn_r _ [5, 6] (by decide +kernel) (by decide +kernel)
set_option maxRecDepth 20000 in
theorem gX10_failedLong_X10_lost : GoodIn wsX10_failedLong (va_wsS RX10 64 yX10_lost wsX10_lost) := goodIn_app (goodIn_of _ (by decide +kernel)) ggX10_failedLong_X10_lost
set_option maxRecDepth 20000 in
theorem ggX10_noDesk_X10_in : GoodIn wsX10_noDesk wsX10_in := goodIn_r _ [5] (by decide +kernel) (by decide +kernel)
set_option maxRecDepth 20000 in
theorem gX10_noDesk_X10_in : GoodIn wsX10_noDesk (va_wsS RX10 71 yX10_in wsX10_in) := goodIn_app (goodIn_of _ (by decide +kernel)) ggX10_noDesk_X10_in
set_option maxRecDepth 20000 in
theorem ggX10_noAsk_X10_in : GoodIn wsX10_noAsk wsX10_in := goodIn_r _ [5] (by decide +kernel) (by decide +kernel)
set_option maxRecDepth 20000 in
theorem gX10_noAsk_X10_in : GoodIn wsX10_noAsk (va_wsS RX10 71 yX10_in wsX10_in) := goodIn_app (goodIn_of _ (by decide +kernel)) ggX10_noAsk_X10_in
set_option maxRecDepth 20000 in
theorem ggX10_isPage_X10_in : GoodIn wsX10_isPage wsX10_in := goodIn_r _ [5] (by decide +kernel) (by decide +kernel)
set_option maxRecDepth 20000 in
theorem gX10_isPage_X10_in : GoodIn wsX10_isPage (va_wsS RX10 71 yX10_in wsX10_in) := goodIn_app (goodIn_of _ (by decide +kernel)) ggX10_isPage_X10_in
set_option maxRecDepth 20000 in
theorem ggX10_readsDesk_X10_codeAt : GoodIn wsX10_readsDesk wsX10_codeAt := goodIn_r _ [10, 2, 11, 15, 16, 17, 18, 19, 20, 21, 22, 23, 24, 25, 26, 27, 28, 29, 30, 31, 32, 33, 34, 35, 36, 37, 38, 39, 40, 41, 42, 43, 44] (by decide +kernel) (by decide +kernel)
set_option maxRecDepth 20000 in
theorem gX10_readsDesk_X10_codeAt : GoodIn wsX10_readsDesk (wsV RX10 86 RX10 yX10_codeAt wsX10_codeAt) := goodIn_app (goodIn_of _ (by decide +kernel)) ggX10_readsDesk_X10_codeAt
set_option maxRecDepth 20000 in
theorem ggX10_readsDesk_X10_in : GoodIn wsX10_readsDesk wsX10_in := goodIn_r _ [14] (by decide +kernel) (by decide +kernel)
set_option maxRecDepth 20000 in
theorem gX10_readsDesk_X10_in : GoodIn wsX10_readsDesk (va_wsS RX10 71 yX10_in wsX10_in) := goodIn_app (goodIn_of _ (by decide +kernel)) ggX10_readsDesk_X10_in
set_option maxRecDepth 20000 in
theorem ggX10_readsAsk_X10_codeAt : GoodIn wsX10_readsAsk wsX10_codeAt := goodIn_r _ [8, 3, 9, 17, 18, 19, 20, 21, 22, 23, 24, 25, 26, 27, 28, 29, 30, 31, 32, 33, 34, 35, 36, 37, 38, 39, 40, 41, 42, 43, 44, 45, 46] (by decide +kernel) (by decide +kernel)
set_option maxRecDepth 20000 in
theorem gX10_readsAsk_X10_codeAt : GoodIn wsX10_readsAsk (wsV RX10 86 RX10 yX10_codeAt wsX10_codeAt) := goodIn_app (goodIn_of _ (by decide +kernel)) ggX10_readsAsk_X10_codeAt
set_option maxRecDepth 20000 in
theorem ggX10_readsAsk_X10_isPage : GoodIn wsX10_readsAsk wsX10_isPage := goodIn_r _ [12, 13, 14, 15, 7, 16] (by decide +kernel) (by decide +kernel)
set_option maxRecDepth 20000 in
theorem gX10_readsAsk_X10_isPage : GoodIn wsX10_readsAsk (va_wsS RX10 95 yX10_isPage wsX10_isPage) := goodIn_app (goodIn_of _ (by decide +kernel)) ggX10_readsAsk_X10_isPage
set_option maxRecDepth 20000 in
theorem ggX10_readsRoom_X10_codeAt : GoodIn wsX10_readsRoom wsX10_codeAt := goodIn_r _ [8, 1, 9, 29, 30, 31, 32, 33, 34, 35, 36, 37, 38, 39, 40, 41, 42, 43, 44, 45, 46, 47, 48, 49, 50, 51, 52, 53, 54, 55, 56, 57, 58] (by decide +kernel) (by decide +kernel)
set_option maxRecDepth 20000 in
theorem gX10_readsRoom_X10_codeAt : GoodIn wsX10_readsRoom (wsV RX10 86 RX10 yX10_codeAt wsX10_codeAt) := goodIn_app (goodIn_of _ (by decide +kernel)) ggX10_readsRoom_X10_codeAt
set_option maxRecDepth 20000 in
theorem ggX10_readsRoom_X10_readsDesk : GoodIn wsX10_readsRoom wsX10_readsDesk := goodIn_r _ [13, 2, 1, 14, 15, 16, 4, 5, 6, 7, 8, 9, 17, 18, 19, 29, 30, 31, 32, 33, 34, 35, 36, 37, 38, 39, 40, 41, 42, 43, 44, 45, 46, 47, 48, 49, 50, 51, 52, 53, 54, 55, 56, 57, 58] (by decide +kernel) (by decide +kernel)
set_option maxRecDepth 20000 in
theorem gX10_readsRoom_X10_readsDesk : GoodIn wsX10_readsRoom (wsV RX10 99 RX10 yX10_readsDesk wsX10_readsDesk) := goodIn_app (goodIn_of _ (by decide +kernel)) ggX10_readsRoom_X10_readsDesk
set_option maxRecDepth 20000 in
theorem ggX10_readsRoom_X10_readsAsk : GoodIn wsX10_readsRoom wsX10_readsAsk := goodIn_r _ [23, 3, 24, 1, 4, 5, 6, 7, 8, 9, 25, 26, 27, 28, 17, 18, 19, 29, 30, 31, 32, 33, 34, 35, 36, 37, 38, 39, 40, 41, 42, 43, 44, 45, 46, 47, 48, 49, 50, 51, 52, 53, 54, 55, 56, 57, 58] (by decide +kernel) (by decide +kernel)
set_option maxRecDepth 20000 in
theorem gX10_readsRoom_X10_readsAsk : GoodIn wsX10_readsRoom (wsV RX10 103 RX10 yX10_readsAsk wsX10_readsAsk) := goodIn_app (goodIn_of _ (by decide +kernel)) ggX10_readsRoom_X10_readsAsk
set_option maxRecDepth 20000 in
theorem ggX10_cellsBarred_X10_failed : GoodIn wsX10_cellsBarred wsX10_failed := goodIn_r _ [7, 8, 12, 13, 14, 15, 16, 17, 18, 19, 20, 21, 22, 23, 24, 25, 26, 27, 28, 29, 30, 31, 32, 33, 34, 35, 36, 37, 38, 39, 40, 41] (by decide +kernel) (by decide +kernel)
set_option maxRecDepth 20000 in
theorem gX10_cellsBarred_X10_failed : GoodIn wsX10_cellsBarred (wsV RX10 106 RX10 yX10_failed wsX10_failed) := goodIn_app (goodIn_of _ (by decide +kernel)) ggX10_cellsBarred_X10_failed
set_option maxRecDepth 20000 in
theorem ggX10_cellsBarred_X10_isBeyond : GoodIn wsX10_cellsBarred wsX10_isBeyond := goodIn_r _ [11] (by decide +kernel) (by decide +kernel)
set_option maxRecDepth 20000 in
theorem gX10_cellsBarred_X10_isBeyond : GoodIn wsX10_cellsBarred (va_wsS RX10 110 yX10_isBeyond wsX10_isBeyond) := goodIn_app (goodIn_of _ (by decide +kernel)) ggX10_cellsBarred_X10_isBeyond
set_option maxRecDepth 20000 in
theorem ggX10_room_X10_noSheet : GoodIn wsX10_room wsX10_noSheet := goodIn_r _ [18, 19, 20, 21, 17, 22] (by decide +kernel) (by decide +kernel)
set_option maxRecDepth 20000 in
theorem gX10_room_X10_noSheet : GoodIn wsX10_room (va_wsS RX10 114 yX10_noSheet wsX10_noSheet) := goodIn_app (goodIn_of _ (by decide +kernel)) ggX10_room_X10_noSheet
set_option maxRecDepth 20000 in
theorem ggX10_room_X10_refused : GoodIn wsX10_room wsX10_refused := goodIn_r _ [26, 27, 63, 64, 65, 66, 67, 68, 69, 70, 71, 72, 73, 74, 75, 76, 77, 78, 79, 80, 81, 82, 83, 84, 85, 86, 87, 88, 89, 90, 91, 92] (by decide +kernel) (by decide +kernel)
set_option maxRecDepth 20000 in
theorem gX10_room_X10_refused : GoodIn wsX10_room (wsV RX10 117 RX10 yX10_refused wsX10_refused) := goodIn_app (goodIn_of _ (by decide +kernel)) ggX10_room_X10_refused
set_option maxRecDepth 20000 in
theorem ggX10_room_X10_in : GoodIn wsX10_room wsX10_in := goodIn_r _ [22] (by decide +kernel) (by decide +kernel)
set_option maxRecDepth 20000 in
theorem gX10_room_X10_in : GoodIn wsX10_room (va_wsS RX10 71 yX10_in wsX10_in) := goodIn_app (goodIn_of _ (by decide +kernel)) ggX10_room_X10_in
set_option maxRecDepth 20000 in
theorem ggX10_room_X10_cellsBarred : GoodIn wsX10_room wsX10_cellsBarred := goodIn_r _ [31, 32, 33, 34, 35, 36, 17, 37, 27, 38, 39, 40, 63, 64, 65, 66, 67, 68, 69, 70, 71, 72, 73, 74, 75, 76, 77, 78, 79, 80, 81, 82, 83, 84, 85, 86, 87, 88, 89, 90, 91, 92] (by decide +kernel) (by decide +kernel)
set_option maxRecDepth 20000 in
theorem gX10_room_X10_cellsBarred : GoodIn wsX10_room (wsV RX10 122 RX10 yX10_cellsBarred wsX10_cellsBarred) := goodIn_app (goodIn_of _ (by decide +kernel)) ggX10_room_X10_cellsBarred
set_option maxRecDepth 20000 in
theorem ggX10_room_X10_readsRoom : GoodIn wsX10_room wsX10_readsRoom := goodIn_r _ [44, 2, 3, 5, 45, 46, 47, 17, 48, 49, 50, 51, 52, 53, 54, 9, 11, 20, 21, 22, 55, 56, 57, 58, 13, 59, 60, 61, 62, 63, 64, 65, 66, 67, 68, 69, 70, 71, 72, 73, 74, 75, 76, 77, 78, 79, 80, 81, 82, 83, 84, 85, 86, 87, 88, 89, 90, 91, 92] (by decide +kernel) (by decide +kernel)
set_option maxRecDepth 20000 in
theorem gX10_room_X10_readsRoom : GoodIn wsX10_room (wsV RX10 126 RX10 yX10_readsRoom wsX10_readsRoom) := goodIn_app (goodIn_of _ (by decide +kernel)) ggX10_room_X10_readsRoom
set_option maxRecDepth 20000 in
theorem ggX10_makesRoom_X10_isIn : GoodIn wsX10_makesRoom wsX10_isIn := goodIn_r _ [7] (by decide +kernel) (by decide +kernel)
set_option maxRecDepth 20000 in
theorem gX10_makesRoom_X10_isIn : GoodIn wsX10_makesRoom (va_wsS RX10 150 yX10_isIn wsX10_isIn) := goodIn_app (goodIn_of _ (by decide +kernel)) ggX10_makesRoom_X10_isIn
set_option maxRecDepth 20000 in
theorem ggX10_makesRoom_X10_takesOut : GoodIn wsX10_makesRoom wsX10_takesOut := goodIn_r _ [11, 12, 3, 17, 18, 19, 20, 21, 22, 23, 24, 25, 26, 27, 28, 29, 30, 31, 32, 33, 34, 35, 36, 37, 38, 39, 40, 41, 42, 43, 44, 45, 46] (by decide +kernel) (by decide +kernel)
set_option maxRecDepth 20000 in
theorem gX10_makesRoom_X10_takesOut : GoodIn wsX10_makesRoom (wsV RX10 153 RX10 yX10_takesOut wsX10_takesOut) := goodIn_app (goodIn_of _ (by decide +kernel)) ggX10_makesRoom_X10_takesOut
set_option maxRecDepth 20000 in
theorem ggX10_makesRoom_X10_putsBehind : GoodIn wsX10_makesRoom wsX10_putsBehind := goodIn_r _ [16, 3, 12, 17, 18, 19, 20, 21, 22, 23, 24, 25, 26, 27, 28, 29, 30, 31, 32, 33, 34, 35, 36, 37, 38, 39, 40, 41, 42, 43, 44, 45, 46] (by decide +kernel) (by decide +kernel)
set_option maxRecDepth 20000 in
theorem gX10_makesRoom_X10_putsBehind : GoodIn wsX10_makesRoom (wsV RX10 157 RX10 yX10_putsBehind wsX10_putsBehind) := goodIn_app (goodIn_of _ (by decide +kernel)) ggX10_makesRoom_X10_putsBehind
set_option maxRecDepth 20000 in
theorem ggX10_plays_X10_whereLies : GoodIn wsX10_plays wsX10_whereLies := goodIn_r _ [10, 3, 11, 27, 28, 29, 30, 31, 32, 33, 34, 35, 36, 37, 38, 39, 40, 41, 42, 43, 44, 45, 46, 47, 48, 49, 50, 51, 52, 53, 54, 55, 56] (by decide +kernel) (by decide +kernel)
set_option maxRecDepth 20000 in
theorem gX10_plays_X10_whereLies : GoodIn wsX10_plays (wsV RX10 160 RX10 yX10_whereLies wsX10_whereLies) := goodIn_app (goodIn_of _ (by decide +kernel)) ggX10_plays_X10_whereLies
set_option maxRecDepth 20000 in
theorem ggX10_plays_X10_takesOut : GoodIn wsX10_plays wsX10_takesOut := goodIn_r _ [15, 3, 11, 27, 28, 29, 30, 31, 32, 33, 34, 35, 36, 37, 38, 39, 40, 41, 42, 43, 44, 45, 46, 47, 48, 49, 50, 51, 52, 53, 54, 55, 56] (by decide +kernel) (by decide +kernel)
set_option maxRecDepth 20000 in
theorem gX10_plays_X10_takesOut : GoodIn wsX10_plays (wsV RX10 153 RX10 yX10_takesOut wsX10_takesOut) := goodIn_app (goodIn_of _ (by decide +kernel)) ggX10_plays_X10_takesOut
set_option maxRecDepth 20000 in
theorem ggX10_plays_X10_putsBehind : GoodIn wsX10_plays wsX10_putsBehind := goodIn_r _ [19, 11, 3, 27, 28, 29, 30, 31, 32, 33, 34, 35, 36, 37, 38, 39, 40, 41, 42, 43, 44, 45, 46, 47, 48, 49, 50, 51, 52, 53, 54, 55, 56] (by decide +kernel) (by decide +kernel)
set_option maxRecDepth 20000 in
theorem gX10_plays_X10_putsBehind : GoodIn wsX10_plays (wsV RX10 157 RX10 yX10_putsBehind wsX10_putsBehind) := goodIn_app (goodIn_of _ (by decide +kernel)) ggX10_plays_X10_putsBehind
set_option maxRecDepth 20000 in
theorem ggX10_plays_X10_makesRoom : GoodIn wsX10_plays wsX10_makesRoom := goodIn_r _ [23, 2, 1, 11, 24, 25, 9, 26, 12, 13, 14, 15, 3, 16, 17, 18, 19, 27, 28, 29, 30, 31, 32, 33, 34, 35, 36, 37, 38, 39, 40, 41, 42, 43, 44, 45, 46, 47, 48, 49, 50, 51, 52, 53, 54, 55, 56] (by decide +kernel) (by decide +kernel)
set_option maxRecDepth 20000 in
theorem gX10_plays_X10_makesRoom : GoodIn wsX10_plays (wsV RX10 163 RX10 yX10_makesRoom wsX10_makesRoom) := goodIn_app (goodIn_of _ (by decide +kernel)) ggX10_plays_X10_makesRoom
set_option maxRecDepth 20000 in
theorem ggX10_playsLine_X10_clears : GoodIn wsX10_playsLine wsX10_clears := goodIn_r _ [6, 7, 8, 9, 10, 11, 36, 37, 38, 39, 40, 41, 42, 43, 44, 45, 46, 47, 48, 49, 50, 51, 52, 53, 54, 55, 56, 57, 58, 59, 60, 61, 62, 63, 64, 65] (by decide +kernel) (by decide +kernel)
set_option maxRecDepth 20000 in
theorem gX10_playsLine_X10_clears : GoodIn wsX10_playsLine (wsV RX10 166 RX10 yX10_clears wsX10_clears) := goodIn_app (goodIn_of _ (by decide +kernel)) ggX10_playsLine_X10_clears
set_option maxRecDepth 20000 in
theorem ggX10_playsLine_X10_plays : GoodIn wsX10_playsLine wsX10_plays := goodIn_r _ [15, 10, 7, 9, 8, 11, 16, 17, 18, 5, 19, 20, 21, 22, 23, 24, 25, 26, 27, 28, 29, 30, 31, 32, 33, 34, 35, 36, 37, 38, 39, 40, 41, 42, 43, 44, 45, 46, 47, 48, 49, 50, 51, 52, 53, 54, 55, 56, 57, 58, 59, 60, 61, 62, 63, 64, 65] (by decide +kernel) (by decide +kernel)
set_option maxRecDepth 20000 in
theorem gX10_playsLine_X10_plays : GoodIn wsX10_playsLine (wsV RX10 170 RX10 yX10_plays wsX10_plays) := goodIn_app (goodIn_of _ (by decide +kernel)) ggX10_playsLine_X10_plays
set_option maxRecDepth 20000 in
theorem ggX10_playsNow_X10_playsLine : GoodIn wsX10_playsNow wsX10_playsLine := goodIn_r _ [8, 9, 10, 11, 12, 7, 13, 14, 15, 16, 17, 18, 19, 20, 21, 22, 23, 24, 25, 26, 27, 28, 29, 30, 31, 32, 33, 34, 35, 36, 37, 38, 39, 40, 41, 42, 43, 44, 45, 46, 47, 48, 49, 50, 51, 52, 53, 54, 55, 56, 57, 58, 59, 60, 61, 62, 63, 64, 65, 66, 67, 68, 69, 70, 71, 72] (by decide +kernel) (by decide +kernel)
set_option maxRecDepth 20000 in
theorem gX10_playsNow_X10_playsLine : GoodIn wsX10_playsNow (wsV RX10 173 RX10 yX10_playsLine wsX10_playsLine) := goodIn_app (goodIn_of _ (by decide +kernel)) ggX10_playsNow_X10_playsLine
set_option maxRecDepth 20000 in
theorem ggX10_wouldGo_X10_isIn : GoodIn wsX10_wouldGo wsX10_isIn := goodIn_r _ [9] (by decide +kernel) (by decide +kernel)
set_option maxRecDepth 20000 in
theorem gX10_wouldGo_X10_isIn : GoodIn wsX10_wouldGo (va_wsS RX10 150 yX10_isIn wsX10_isIn) := goodIn_app (goodIn_of _ (by decide +kernel)) ggX10_wouldGo_X10_isIn
set_option maxRecDepth 20000 in
theorem ggX10_ofDesk_X10_noDesk : GoodIn wsX10_ofDesk wsX10_noDesk := goodIn_r _ [9, 10, 11, 12, 8, 13, 63, 64, 65, 66, 67, 68, 69, 70, 71, 72, 73, 74, 75, 76, 77, 78, 79, 80, 81, 82, 83, 84, 85, 86, 87, 88, 89, 90, 91, 92] (by decide +kernel) (by decide +kernel)
set_option maxRecDepth 20000 in
theorem gX10_ofDesk_X10_noDesk : GoodIn wsX10_ofDesk (wsV RX10 177 RX10 yX10_noDesk wsX10_noDesk) := goodIn_app (goodIn_of _ (by decide +kernel)) ggX10_ofDesk_X10_noDesk
set_option maxRecDepth 20000 in
theorem ggX10_ofDesk_X10_playsNow : GoodIn wsX10_ofDesk wsX10_playsNow := goodIn_r _ [17, 1, 2, 18, 19, 20, 21, 8, 22, 23, 24, 25, 26, 27, 28, 29, 30, 4, 3, 31, 32, 33, 34, 35, 36, 37, 38, 39, 40, 41, 42, 43, 44, 45, 46, 47, 48, 49, 50, 51, 52, 53, 54, 63, 64, 65, 66, 67, 68, 69, 70, 71, 72, 73, 74, 75, 76, 77, 78, 79, 80, 81, 82, 83, 84, 85, 86, 87, 88, 89, 90, 91, 92] (by decide +kernel) (by decide +kernel)
set_option maxRecDepth 20000 in
theorem gX10_ofDesk_X10_playsNow : GoodIn wsX10_ofDesk (wsV RX10 180 RX10 yX10_playsNow wsX10_playsNow) := goodIn_app (goodIn_of _ (by decide +kernel)) ggX10_ofDesk_X10_playsNow
set_option maxRecDepth 20000 in
theorem ggX10_ofDesk_X10_playSet : GoodIn wsX10_ofDesk wsX10_playSet := goodIn_r _ [58, 30, 39, 63, 64, 65, 66, 67, 68, 69, 70, 71, 72, 73, 74, 75, 76, 77, 78, 79, 80, 81, 82, 83, 84, 85, 86, 87, 88, 89, 90, 91, 92] (by decide +kernel) (by decide +kernel)
set_option maxRecDepth 20000 in
theorem gX10_ofDesk_X10_playSet : GoodIn wsX10_ofDesk (wsV RX10 183 RX10 yX10_playSet wsX10_playSet) := goodIn_app (goodIn_of _ (by decide +kernel)) ggX10_ofDesk_X10_playSet
set_option maxRecDepth 20000 in
theorem ggX10_ofDesk_X10_wouldGo : GoodIn wsX10_ofDesk wsX10_wouldGo := goodIn_r _ [62, 30, 29, 39, 28, 4, 52, 53, 8, 54, 63, 64, 65, 66, 67, 68, 69, 70, 71, 72, 73, 74, 75, 76, 77, 78, 79, 80, 81, 82, 83, 84, 85, 86, 87, 88, 89, 90, 91, 92] (by decide +kernel) (by decide +kernel)
set_option maxRecDepth 20000 in
theorem gX10_ofDesk_X10_wouldGo : GoodIn wsX10_ofDesk (wsV RX10 187 RX10 yX10_wouldGo wsX10_wouldGo) := goodIn_app (goodIn_of _ (by decide +kernel)) ggX10_ofDesk_X10_wouldGo
set_option maxRecDepth 20000 in
theorem ggX10_lies_X10_noDesk : GoodIn wsX10_lies wsX10_noDesk := goodIn_r _ [8, 9, 10, 11, 7, 12, 56, 57, 58, 59, 60, 61, 62, 63, 64, 65, 66, 67, 68, 69, 70, 71, 72, 73, 74, 75, 76, 77, 78, 79, 80, 81, 82, 83, 84, 85] (by decide +kernel) (by decide +kernel)
set_option maxRecDepth 20000 in
theorem gX10_lies_X10_noDesk : GoodIn wsX10_lies (wsV RX10 177 RX10 yX10_noDesk wsX10_noDesk) := goodIn_app (goodIn_of _ (by decide +kernel)) ggX10_lies_X10_noDesk
set_option maxRecDepth 20000 in
theorem ggX10_lies_X10_in : GoodIn wsX10_lies wsX10_in := goodIn_r _ [12] (by decide +kernel) (by decide +kernel)
set_option maxRecDepth 20000 in
theorem gX10_lies_X10_in : GoodIn wsX10_lies (va_wsS RX10 71 yX10_in wsX10_in) := goodIn_app (goodIn_of _ (by decide +kernel)) ggX10_lies_X10_in
set_option maxRecDepth 20000 in
theorem ggX10_lies_X10_playsNow : GoodIn wsX10_lies wsX10_playsNow := goodIn_r _ [16, 17, 18, 19, 20, 21, 22, 7, 23, 24, 25, 26, 27, 28, 29, 30, 2, 31, 32, 33, 34, 35, 36, 37, 38, 39, 40, 3, 41, 42, 43, 44, 45, 46, 47, 48, 49, 50, 51, 52, 53, 54, 55, 56, 57, 58, 59, 60, 61, 62, 63, 64, 65, 66, 67, 68, 69, 70, 71, 72, 73, 74, 75, 76, 77, 78, 79, 80, 81, 82, 83, 84, 85] (by decide +kernel) (by decide +kernel)
set_option maxRecDepth 20000 in
theorem gX10_lies_X10_playsNow : GoodIn wsX10_lies (wsV RX10 180 RX10 yX10_playsNow wsX10_playsNow) := goodIn_app (goodIn_of _ (by decide +kernel)) ggX10_lies_X10_playsNow
set_option maxRecDepth 20000 in
theorem ggX10_line_X10_noAsk : GoodIn wsX10_line wsX10_noAsk := goodIn_r _ [6, 7, 8, 9, 5, 10, 11, 12, 13, 14, 15, 16, 17, 18, 19, 20, 21, 22, 23, 24, 25, 26, 27, 28, 29, 30, 31, 32, 33, 34, 35, 36, 37, 38, 39, 40] (by decide +kernel) (by decide +kernel)
set_option maxRecDepth 20000 in
theorem gX10_line_X10_noAsk : GoodIn wsX10_line (wsV RX10 192 RX10 yX10_noAsk wsX10_noAsk) := goodIn_app (goodIn_of _ (by decide +kernel)) ggX10_line_X10_noAsk
set_option maxRecDepth 20000 in
theorem ggX10_build_X10_noDesk : GoodIn wsX10_build wsX10_noDesk := goodIn_r _ [7, 8, 9, 10, 6, 11, 12, 13, 14, 15, 16, 17, 18, 19, 20, 21, 22, 23, 24, 25, 26, 27, 28, 29, 30, 31, 32, 33, 34, 35, 36, 37, 38, 39, 40, 41] (by decide +kernel) (by decide +kernel)
set_option maxRecDepth 20000 in
theorem gX10_build_X10_noDesk : GoodIn wsX10_build (wsV RX10 177 RX10 yX10_noDesk wsX10_noDesk) := goodIn_app (goodIn_of _ (by decide +kernel)) ggX10_build_X10_noDesk
set_option maxRecDepth 20000 in
theorem ggX10_build_X10_in : GoodIn wsX10_build wsX10_in := goodIn_r _ [11] (by decide +kernel) (by decide +kernel)
set_option maxRecDepth 20000 in
theorem gX10_build_X10_in : GoodIn wsX10_build (va_wsS RX10 71 yX10_in wsX10_in) := goodIn_app (goodIn_of _ (by decide +kernel)) ggX10_build_X10_in
set_option maxRecDepth 20000 in
theorem ggX10_missesSoFar_X10_playsNow : GoodIn wsX10_missesSoFar wsX10_playsNow := goodIn_r _ [7, 8, 9, 10, 11, 12, 13, 6, 14, 15, 16, 17, 18, 19, 20, 21, 22, 23, 2, 24, 25, 26, 27, 28, 29, 30, 31, 32, 33, 34, 35, 36, 37, 38, 39, 40, 41, 42, 43, 44, 45, 46, 47, 48, 49, 50, 51, 52, 53, 54, 55, 56, 57, 58, 59, 60, 61, 62, 63, 64, 65, 66, 67, 68, 69, 70, 71, 72, 73, 74, 75, 76, 77] (by decide +kernel) (by decide +kernel)
set_option maxRecDepth 20000 in
theorem gX10_missesSoFar_X10_playsNow : GoodIn wsX10_missesSoFar (wsV RX10 180 RX10 yX10_playsNow wsX10_playsNow) := goodIn_app (goodIn_of _ (by decide +kernel)) ggX10_missesSoFar_X10_playsNow
set_option maxRecDepth 20000 in
theorem ggX10_come_X10_in : GoodIn wsX10_come wsX10_in := goodIn_r _ [8] (by decide +kernel) (by decide +kernel)
set_option maxRecDepth 20000 in
theorem gX10_come_X10_in : GoodIn wsX10_come (va_wsS RX10 71 yX10_in wsX10_in) := goodIn_app (goodIn_of _ (by decide +kernel)) ggX10_come_X10_in
set_option maxRecDepth 20000 in
theorem ggX10_come_X10_missesSoFar : GoodIn wsX10_come wsX10_missesSoFar := goodIn_r _ [12, 2, 13, 14, 15, 16, 7, 17, 18, 19, 3, 20, 21, 22, 23, 24, 25, 26, 27, 28, 29, 30, 31, 32, 33, 34, 35, 36, 37, 38, 39, 40, 41, 42, 43, 44, 45, 46, 47, 48, 49, 50, 51, 52, 53, 54, 55, 56, 57, 58, 59, 60, 61, 62, 63, 64, 65, 66, 67, 68, 69, 70, 71, 72, 73, 74, 75, 76, 77, 78, 79, 80, 81, 82, 83, 84, 85, 86] (by decide +kernel) (by decide +kernel)
set_option maxRecDepth 20000 in
theorem gX10_come_X10_missesSoFar : GoodIn wsX10_come (wsV RX10 197 RX10 yX10_missesSoFar wsX10_missesSoFar) := goodIn_app (goodIn_of _ (by decide +kernel)) ggX10_come_X10_missesSoFar
set_option maxRecDepth 20000 in
theorem ggX10_ask_X10_isPage : GoodIn wsX10_ask wsX10_isPage := goodIn_r _ [7, 8, 9, 10, 6, 11] (by decide +kernel) (by decide +kernel)
set_option maxRecDepth 20000 in
theorem gX10_ask_X10_isPage : GoodIn wsX10_ask (va_wsS RX10 95 yX10_isPage wsX10_isPage) := goodIn_app (goodIn_of _ (by decide +kernel)) ggX10_ask_X10_isPage
set_option maxRecDepth 20000 in
theorem ggX10_tale_X10_noSheet : GoodIn wsX10_tale wsX10_noSheet := goodIn_r _ [10, 11, 12, 13, 9, 14] (by decide +kernel) (by decide +kernel)
set_option maxRecDepth 20000 in
theorem gX10_tale_X10_noSheet : GoodIn wsX10_tale (va_wsS RX10 114 yX10_noSheet wsX10_noSheet) := goodIn_app (goodIn_of _ (by decide +kernel)) ggX10_tale_X10_noSheet
set_option maxRecDepth 20000 in
theorem ggX10_tale_X10_noDesk : GoodIn wsX10_tale wsX10_noDesk := goodIn_r _ [18, 19, 12, 13, 9, 14, 93, 94, 95, 96, 97, 98, 99, 100, 101, 102, 103, 104, 105, 106, 107, 108, 109, 110, 111, 112, 113, 114, 115, 116, 117, 118, 119, 120, 121, 122] (by decide +kernel) (by decide +kernel)
set_option maxRecDepth 20000 in
theorem gX10_tale_X10_noDesk : GoodIn wsX10_tale (wsV RX10 177 RX10 yX10_noDesk wsX10_noDesk) := goodIn_app (goodIn_of _ (by decide +kernel)) ggX10_tale_X10_noDesk
set_option maxRecDepth 20000 in
theorem ggX10_tale_X10_refused : GoodIn wsX10_tale wsX10_refused := goodIn_r _ [23, 24, 93, 94, 95, 96, 97, 98, 99, 100, 101, 102, 103, 104, 105, 106, 107, 108, 109, 110, 111, 112, 113, 114, 115, 116, 117, 118, 119, 120, 121, 122] (by decide +kernel) (by decide +kernel)
set_option maxRecDepth 20000 in
theorem gX10_tale_X10_refused : GoodIn wsX10_tale (wsV RX10 117 RX10 yX10_refused wsX10_refused) := goodIn_app (goodIn_of _ (by decide +kernel)) ggX10_tale_X10_refused
set_option maxRecDepth 20000 in
theorem ggX10_tale_X10_in : GoodIn wsX10_tale wsX10_in := goodIn_r _ [14] (by decide +kernel) (by decide +kernel)
set_option maxRecDepth 20000 in
theorem gX10_tale_X10_in : GoodIn wsX10_tale (va_wsS RX10 71 yX10_in wsX10_in) := goodIn_app (goodIn_of _ (by decide +kernel)) ggX10_tale_X10_in
set_option maxRecDepth 20000 in
theorem ggX10_tale_X10_cellsBarred : GoodIn wsX10_tale wsX10_cellsBarred := goodIn_r _ [28, 29, 30, 31, 32, 33, 9, 34, 24, 35, 36, 37, 93, 94, 95, 96, 97, 98, 99, 100, 101, 102, 103, 104, 105, 106, 107, 108, 109, 110, 111, 112, 113, 114, 115, 116, 117, 118, 119, 120, 121, 122] (by decide +kernel) (by decide +kernel)
set_option maxRecDepth 20000 in
theorem gX10_tale_X10_cellsBarred : GoodIn wsX10_tale (wsV RX10 122 RX10 yX10_cellsBarred wsX10_cellsBarred) := goodIn_app (goodIn_of _ (by decide +kernel)) ggX10_tale_X10_cellsBarred
set_option maxRecDepth 20000 in
theorem ggX10_tale_X10_isPage : GoodIn wsX10_tale wsX10_isPage := goodIn_r _ [40, 41, 12, 13, 9, 14] (by decide +kernel) (by decide +kernel)
set_option maxRecDepth 20000 in
theorem gX10_tale_X10_isPage : GoodIn wsX10_tale (va_wsS RX10 95 yX10_isPage wsX10_isPage) := goodIn_app (goodIn_of _ (by decide +kernel)) ggX10_tale_X10_isPage
set_option maxRecDepth 20000 in
theorem ggX10_tale_X10_playsNow : GoodIn wsX10_tale wsX10_playsNow := goodIn_r _ [45, 46, 47, 48, 49, 50, 51, 9, 52, 53, 54, 55, 56, 57, 58, 59, 60, 6, 5, 61, 62, 63, 64, 65, 66, 67, 68, 69, 70, 71, 72, 73, 74, 75, 76, 77, 78, 79, 80, 81, 82, 83, 84, 93, 94, 95, 96, 97, 98, 99, 100, 101, 102, 103, 104, 105, 106, 107, 108, 109, 110, 111, 112, 113, 114, 115, 116, 117, 118, 119, 120, 121, 122] (by decide +kernel) (by decide +kernel)
set_option maxRecDepth 20000 in
theorem gX10_tale_X10_playsNow : GoodIn wsX10_tale (wsV RX10 180 RX10 yX10_playsNow wsX10_playsNow) := goodIn_app (goodIn_of _ (by decide +kernel)) ggX10_tale_X10_playsNow
set_option maxRecDepth 20000 in
theorem ggX10_tale_X10_plays : GoodIn wsX10_tale wsX10_plays := goodIn_r _ [64, 6, 58, 60, 59, 5, 65, 66, 67, 9, 68, 69, 70, 71, 72, 73, 74, 75, 76, 77, 78, 79, 80, 81, 82, 83, 84, 93, 94, 95, 96, 97, 98, 99, 100, 101, 102, 103, 104, 105, 106, 107, 108, 109, 110, 111, 112, 113, 114, 115, 116, 117, 118, 119, 120, 121, 122] (by decide +kernel) (by decide +kernel)
set_option maxRecDepth 20000 in
theorem gX10_tale_X10_plays : GoodIn wsX10_tale (wsV RX10 170 RX10 yX10_plays wsX10_plays) := goodIn_app (goodIn_of _ (by decide +kernel)) ggX10_tale_X10_plays
set_option maxRecDepth 20000 in
theorem ggX10_tale_X10_playSet : GoodIn wsX10_tale wsX10_playSet := goodIn_r _ [88, 60, 69, 93, 94, 95, 96, 97, 98, 99, 100, 101, 102, 103, 104, 105, 106, 107, 108, 109, 110, 111, 112, 113, 114, 115, 116, 117, 118, 119, 120, 121, 122] (by decide +kernel) (by decide +kernel)
set_option maxRecDepth 20000 in
theorem gX10_tale_X10_playSet : GoodIn wsX10_tale (wsV RX10 183 RX10 yX10_playSet wsX10_playSet) := goodIn_app (goodIn_of _ (by decide +kernel)) ggX10_tale_X10_playSet
set_option maxRecDepth 20000 in
theorem ggX10_tale_X10_wouldGo : GoodIn wsX10_tale wsX10_wouldGo := goodIn_r _ [92, 60, 59, 69, 58, 6, 82, 83, 9, 84, 93, 94, 95, 96, 97, 98, 99, 100, 101, 102, 103, 104, 105, 106, 107, 108, 109, 110, 111, 112, 113, 114, 115, 116, 117, 118, 119, 120, 121, 122] (by decide +kernel) (by decide +kernel)
set_option maxRecDepth 20000 in
theorem gX10_tale_X10_wouldGo : GoodIn wsX10_tale (wsV RX10 187 RX10 yX10_wouldGo wsX10_wouldGo) := goodIn_app (goodIn_of _ (by decide +kernel)) ggX10_tale_X10_wouldGo
