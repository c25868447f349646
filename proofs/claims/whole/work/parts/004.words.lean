set_option maxRecDepth 20000 in
theorem ggX10_missesBy_X10_playsLine : GoodIn wsX10_missesBy wsX10_playsLine := goodIn_r _ [8, 9, 10, 11, 12, 7, 13, 14, 15, 16, 17, 3, 18, 19, 20, 21, 22, 23, 24, 25, 26, 27, 28, 29, 30, 31, 32, 33, 34, 35, 36, 37, 38, 39, 40, 41, 42, 43, 44, 45, 46, 47, 48, 49, 50, 51, 52, 53, 54, 55, 56, 57, 58, 59, 60, 61, 62, 63, 64, 65, 66, 67, 68, 69, 70, 71] (by decide +kernel) (by decide +kernel)
set_option maxRecDepth 20000 in
theorem gX10_missesBy_X10_playsLine : GoodIn wsX10_missesBy (wsV RX10 173 RX10 yX10_playsLine wsX10_playsLine) := goodIn_app (goodIn_of _ (by decide +kernel)) ggX10_missesBy_X10_playsLine
set_option maxRecDepth 20000 in
theorem ggX10_misses_X10_noDesk : GoodIn wsX10_misses wsX10_noDesk := goodIn_r _ [6, 7, 8, 9, 5, 10, 55, 56, 57, 58, 59, 60, 61, 62, 63, 64, 65, 66, 67, 68, 69, 70, 71, 72, 73, 74, 75, 76, 77, 78, 79, 80, 81, 82, 83, 84] (by decide +kernel) (by decide +kernel)
set_option maxRecDepth 20000 in
theorem gX10_misses_X10_noDesk : GoodIn wsX10_misses (wsV RX10 177 RX10 yX10_noDesk wsX10_noDesk) := goodIn_app (goodIn_of _ (by decide +kernel)) ggX10_misses_X10_noDesk
set_option maxRecDepth 20000 in
theorem ggX10_misses_X10_in : GoodIn wsX10_misses wsX10_in := goodIn_r _ [10] (by decide +kernel) (by decide +kernel)
set_option maxRecDepth 20000 in
theorem gX10_misses_X10_in : GoodIn wsX10_misses (va_wsS RX10 71 yX10_in wsX10_in) := goodIn_app (goodIn_of _ (by decide +kernel)) ggX10_misses_X10_in
set_option maxRecDepth 20000 in
theorem ggX10_misses_X10_missesBy : GoodIn wsX10_misses wsX10_missesBy := goodIn_r _ [14, 15, 16, 17, 18, 19, 20, 5, 21, 22, 23, 24, 25, 26, 27, 28, 29, 30, 31, 32, 33, 34, 35, 36, 37, 38, 39, 40, 41, 42, 43, 44, 45, 46, 47, 48, 49, 50, 51, 52, 53, 54, 55, 56, 57, 58, 59, 60, 61, 62, 63, 64, 65, 66, 67, 68, 69, 70, 71, 72, 73, 74, 75, 76, 77, 78, 79, 80, 81, 82, 83, 84] (by decide +kernel) (by decide +kernel)
set_option maxRecDepth 20000 in
theorem gX10_misses_X10_missesBy : GoodIn wsX10_misses (wsV RX10 204 RX10 yX10_missesBy wsX10_missesBy) := goodIn_app (goodIn_of _ (by decide +kernel)) ggX10_misses_X10_missesBy
set_option maxRecDepth 20000 in
theorem ggX10_odd_X10_noDesk : GoodIn wsX10_odd wsX10_noDesk := goodIn_r _ [5, 6, 7, 8, 4, 9, 54, 55, 56, 57, 58, 59, 60, 61, 62, 63, 64, 65, 66, 67, 68, 69, 70, 71, 72, 73, 74, 75, 76, 77, 78, 79, 80, 81, 82, 83] (by decide +kernel) (by decide +kernel)
set_option maxRecDepth 20000 in
theorem gX10_odd_X10_noDesk : GoodIn wsX10_odd (wsV RX10 177 RX10 yX10_noDesk wsX10_noDesk) := goodIn_app (goodIn_of _ (by decide +kernel)) ggX10_odd_X10_noDesk
set_option maxRecDepth 20000 in
theorem ggX10_odd_X10_missesBy : GoodIn wsX10_odd wsX10_missesBy := goodIn_r _ [13, 14, 15, 16, 17, 18, 19, 4, 20, 21, 22, 23, 24, 25, 26, 27, 28, 29, 30, 31, 32, 33, 34, 35, 36, 37, 38, 39, 40, 41, 42, 43, 44, 45, 46, 47, 48, 49, 50, 51, 52, 53, 54, 55, 56, 57, 58, 59, 60, 61, 62, 63, 64, 65, 66, 67, 68, 69, 70, 71, 72, 73, 74, 75, 76, 77, 78, 79, 80, 81, 82, 83] (by decide +kernel) (by decide +kernel)
set_option maxRecDepth 20000 in
theorem gX10_odd_X10_missesBy : GoodIn wsX10_odd (wsV RX10 204 RX10 yX10_missesBy wsX10_missesBy) := goodIn_app (goodIn_of _ (by decide +kernel)) ggX10_odd_X10_missesBy
set_option maxRecDepth 20000 in
theorem ggX10_need_X10_noDesk : GoodIn wsX10_need wsX10_noDesk := goodIn_r _ [6, 7, 8, 9, 5, 10, 55, 56, 57, 58, 59, 60, 61, 62, 63, 64, 65, 66, 67, 68, 69, 70, 71, 72, 73, 74, 75, 76, 77, 78, 79, 80, 81, 82, 83, 84] (by decide +kernel) (by decide +kernel)
set_option maxRecDepth 20000 in
theorem gX10_need_X10_noDesk : GoodIn wsX10_need (wsV RX10 177 RX10 yX10_noDesk wsX10_noDesk) := goodIn_app (goodIn_of _ (by decide +kernel)) ggX10_need_X10_noDesk
set_option maxRecDepth 20000 in
theorem ggX10_need_X10_in : GoodIn wsX10_need wsX10_in := goodIn_r _ [10] (by decide +kernel) (by decide +kernel)
set_option maxRecDepth 20000 in
theorem gX10_need_X10_in : GoodIn wsX10_need (va_wsS RX10 71 yX10_in wsX10_in) := goodIn_app (goodIn_of _ (by decide +kernel)) ggX10_need_X10_in
set_option maxRecDepth 20000 in
theorem ggX10_need_X10_missesBy : GoodIn wsX10_need wsX10_missesBy := goodIn_r _ [14, 15, 16, 17, 18, 19, 20, 5, 21, 22, 23, 24, 25, 26, 27, 28, 29, 30, 31, 32, 33, 34, 35, 36, 37, 38, 39, 40, 41, 42, 43, 44, 45, 46, 47, 48, 49, 50, 51, 52, 53, 54, 55, 56, 57, 58, 59, 60, 61, 62, 63, 64, 65, 66, 67, 68, 69, 70, 71, 72, 73, 74, 75, 76, 77, 78, 79, 80, 81, 82, 83, 84] (by decide +kernel) (by decide +kernel)
set_option maxRecDepth 20000 in
theorem gX10_need_X10_missesBy : GoodIn wsX10_need (wsV RX10 204 RX10 yX10_missesBy wsX10_missesBy) := goodIn_app (goodIn_of _ (by decide +kernel)) ggX10_need_X10_missesBy
set_option maxRecDepth 20000 in
theorem ggX10_asksOne_X10_isIn : GoodIn wsX10_asksOne wsX10_isIn := goodIn_r _ [5] (by decide +kernel) (by decide +kernel)
set_option maxRecDepth 20000 in
theorem gX10_asksOne_X10_isIn : GoodIn wsX10_asksOne (va_wsS RX10 150 yX10_isIn wsX10_isIn) := goodIn_app (goodIn_of _ (by decide +kernel)) ggX10_asksOne_X10_isIn
set_option maxRecDepth 20000 in
theorem ggX10_asksOne_X10_lets : GoodIn wsX10_asksOne wsX10_lets := goodIn_r _ [9, 10, 14, 15, 16, 17, 18, 19, 20, 21, 22, 23, 24, 25, 26, 27, 28, 29, 30, 31, 32, 33, 34, 35, 36, 37, 38, 39, 40, 41, 42, 43] (by decide +kernel) (by decide +kernel)
set_option maxRecDepth 20000 in
theorem gX10_asksOne_X10_lets : GoodIn wsX10_asksOne (wsV RX10 207 RX10 yX10_lets wsX10_lets) := goodIn_app (goodIn_of _ (by decide +kernel)) ggX10_asksOne_X10_lets
set_option maxRecDepth 20000 in
theorem ggX10_asksOne_X10_bits : GoodIn wsX10_asksOne wsX10_bits := goodIn_r _ [13] (by decide +kernel) (by decide +kernel)
set_option maxRecDepth 20000 in
theorem gX10_asksOne_X10_bits : GoodIn wsX10_asksOne (va_wsS RX10 210 yX10_bits wsX10_bits) := goodIn_app (goodIn_of _ (by decide +kernel)) ggX10_asksOne_X10_bits
set_option maxRecDepth 20000 in
theorem ggX10_fewest_X10_in : GoodIn wsX10_fewest wsX10_in := goodIn_r _ [10] (by decide +kernel) (by decide +kernel)
set_option maxRecDepth 20000 in
theorem gX10_fewest_X10_in : GoodIn wsX10_fewest (va_wsS RX10 71 yX10_in wsX10_in) := goodIn_app (goodIn_of _ (by decide +kernel)) ggX10_fewest_X10_in
set_option maxRecDepth 20000 in
theorem ggX10_fewest_X10_asksOne : GoodIn wsX10_fewest wsX10_asksOne := goodIn_r _ [14, 3, 15, 16, 9, 17, 18, 19, 20, 21, 5, 22, 23, 24, 25, 26, 27, 28, 29, 30, 31, 32, 33, 34, 35, 36, 37, 38, 39, 40, 41, 42, 43, 44, 45, 46, 47, 48, 49, 50, 51, 52, 53, 54] (by decide +kernel) (by decide +kernel)
set_option maxRecDepth 20000 in
theorem gX10_fewest_X10_asksOne : GoodIn wsX10_fewest (wsV RX10 213 RX10 yX10_asksOne wsX10_asksOne) := goodIn_app (goodIn_of _ (by decide +kernel)) ggX10_fewest_X10_asksOne
set_option maxRecDepth 20000 in
theorem ggX10_goesLatest_X10_isIn : GoodIn wsX10_goesLatest wsX10_isIn := goodIn_r _ [4] (by decide +kernel) (by decide +kernel)
set_option maxRecDepth 20000 in
theorem gX10_goesLatest_X10_isIn : GoodIn wsX10_goesLatest (va_wsS RX10 150 yX10_isIn wsX10_isIn) := goodIn_app (goodIn_of _ (by decide +kernel)) ggX10_goesLatest_X10_isIn
set_option maxRecDepth 20000 in
theorem ggX10_goesLatest_X10_nextOf : GoodIn wsX10_goesLatest wsX10_nextOf := goodIn_r _ [8, 9, 10, 11, 12, 13, 14, 15, 16, 17, 18, 19, 20, 21, 22, 23, 24, 25, 26, 27, 28, 29, 30, 31, 32, 33, 34, 35, 36, 37, 38, 39, 40] (by decide +kernel) (by decide +kernel)
set_option maxRecDepth 20000 in
theorem gX10_goesLatest_X10_nextOf : GoodIn wsX10_goesLatest (wsV RX10 216 RX10 yX10_nextOf wsX10_nextOf) := goodIn_app (goodIn_of _ (by decide +kernel)) ggX10_goesLatest_X10_nextOf
set_option maxRecDepth 20000 in
theorem ggX10_latest_X10_noAsk : GoodIn wsX10_latest wsX10_noAsk := goodIn_r _ [7, 8, 9, 10, 6, 11, 26, 27, 28, 29, 30, 31, 32, 33, 34, 35, 36, 37, 38, 39, 40, 41, 42, 43, 44, 45, 46, 47, 48, 49, 50, 51, 52, 53, 54, 55] (by decide +kernel) (by decide +kernel)
set_option maxRecDepth 20000 in
theorem gX10_latest_X10_noAsk : GoodIn wsX10_latest (wsV RX10 192 RX10 yX10_noAsk wsX10_noAsk) := goodIn_app (goodIn_of _ (by decide +kernel)) ggX10_latest_X10_noAsk
set_option maxRecDepth 20000 in
theorem ggX10_latest_X10_in : GoodIn wsX10_latest wsX10_in := goodIn_r _ [11] (by decide +kernel) (by decide +kernel)
set_option maxRecDepth 20000 in
theorem gX10_latest_X10_in : GoodIn wsX10_latest (va_wsS RX10 71 yX10_in wsX10_in) := goodIn_app (goodIn_of _ (by decide +kernel)) ggX10_latest_X10_in
set_option maxRecDepth 20000 in
theorem ggX10_latest_X10_isIn : GoodIn wsX10_latest wsX10_isIn := goodIn_r _ [14] (by decide +kernel) (by decide +kernel)
set_option maxRecDepth 20000 in
theorem gX10_latest_X10_isIn : GoodIn wsX10_latest (va_wsS RX10 150 yX10_isIn wsX10_isIn) := goodIn_app (goodIn_of _ (by decide +kernel)) ggX10_latest_X10_isIn
set_option maxRecDepth 20000 in
theorem ggX10_latest_X10_bits : GoodIn wsX10_latest wsX10_bits := goodIn_r _ [17] (by decide +kernel) (by decide +kernel)
set_option maxRecDepth 20000 in
theorem gX10_latest_X10_bits : GoodIn wsX10_latest (va_wsS RX10 210 yX10_bits wsX10_bits) := goodIn_app (goodIn_of _ (by decide +kernel)) ggX10_latest_X10_bits
set_option maxRecDepth 20000 in
theorem ggX10_latest_X10_goesLatest : GoodIn wsX10_latest wsX10_goesLatest := goodIn_r _ [21, 12, 13, 6, 14, 22, 23, 24, 25, 8, 2, 26, 27, 28, 29, 30, 31, 32, 33, 34, 35, 36, 37, 38, 39, 40, 41, 42, 43, 44, 45, 46, 47, 48, 49, 50, 51, 52, 53, 54, 55] (by decide +kernel) (by decide +kernel)
set_option maxRecDepth 20000 in
theorem gX10_latest_X10_goesLatest : GoodIn wsX10_latest (wsV RX10 219 RX10 yX10_goesLatest wsX10_goesLatest) := goodIn_app (goodIn_of _ (by decide +kernel)) ggX10_latest_X10_goesLatest
set_option maxRecDepth 20000 in
theorem ggX10_depth_X10_noAsk : GoodIn wsX10_depth wsX10_noAsk := goodIn_r _ [6, 7, 8, 9, 5, 10, 18, 19, 20, 21, 22, 23, 24, 25, 26, 27, 28, 29, 30, 31, 32, 33, 34, 35, 36, 37, 38, 39, 40, 41, 42, 43, 44, 45, 46, 47] (by decide +kernel) (by decide +kernel)
set_option maxRecDepth 20000 in
theorem gX10_depth_X10_noAsk : GoodIn wsX10_depth (wsV RX10 192 RX10 yX10_noAsk wsX10_noAsk) := goodIn_app (goodIn_of _ (by decide +kernel)) ggX10_depth_X10_noAsk
set_option maxRecDepth 20000 in
theorem ggX10_depth_X10_pagesFrom : GoodIn wsX10_depth wsX10_pagesFrom := goodIn_r _ [14, 1, 18, 19, 20, 21, 22, 23, 24, 25, 26, 27, 28, 29, 30, 31, 32, 33, 34, 35, 36, 37, 38, 39, 40, 41, 42, 43, 44, 45, 46, 47] (by decide +kernel) (by decide +kernel)
set_option maxRecDepth 20000 in
theorem gX10_depth_X10_pagesFrom : GoodIn wsX10_depth (wsV RX10 222 RX10 yX10_pagesFrom wsX10_pagesFrom) := goodIn_app (goodIn_of _ (by decide +kernel)) ggX10_depth_X10_pagesFrom
set_option maxRecDepth 20000 in
theorem ggX10_depth_X10_bits : GoodIn wsX10_depth wsX10_bits := goodIn_r _ [17] (by decide +kernel) (by decide +kernel)
set_option maxRecDepth 20000 in
theorem gX10_depth_X10_bits : GoodIn wsX10_depth (va_wsS RX10 210 yX10_bits wsX10_bits) := goodIn_app (goodIn_of _ (by decide +kernel)) ggX10_depth_X10_bits
set_option maxRecDepth 20000 in
theorem ggX10_work_X10_noAsk : GoodIn wsX10_work wsX10_noAsk := goodIn_r _ [6, 7, 8, 9, 5, 10, 16, 17, 18, 19, 20, 21, 22, 23, 24, 25, 26, 27, 28, 29, 30, 31, 32, 33, 34, 35, 36, 37, 38, 39, 40, 41, 42, 43, 44, 45] (by decide +kernel) (by decide +kernel)
set_option maxRecDepth 20000 in
theorem gX10_work_X10_noAsk : GoodIn wsX10_work (wsV RX10 192 RX10 yX10_noAsk wsX10_noAsk) := goodIn_app (goodIn_of _ (by decide +kernel)) ggX10_work_X10_noAsk
set_option maxRecDepth 20000 in
theorem ggX10_work_X10_in : GoodIn wsX10_work wsX10_in := goodIn_r _ [10] (by decide +kernel) (by decide +kernel)
set_option maxRecDepth 20000 in
theorem gX10_work_X10_in : GoodIn wsX10_work (va_wsS RX10 71 yX10_in wsX10_in) := goodIn_app (goodIn_of _ (by decide +kernel)) ggX10_work_X10_in
set_option maxRecDepth 20000 in
theorem ggX10_work_X10_pagesFrom : GoodIn wsX10_work wsX10_pagesFrom := goodIn_r _ [14, 15, 16, 17, 18, 19, 20, 21, 22, 23, 24, 25, 26, 27, 28, 29, 30, 31, 32, 33, 34, 35, 36, 37, 38, 39, 40, 41, 42, 43, 44, 45] (by decide +kernel) (by decide +kernel)
set_option maxRecDepth 20000 in
theorem gX10_work_X10_pagesFrom : GoodIn wsX10_work (wsV RX10 222 RX10 yX10_pagesFrom wsX10_pagesFrom) := goodIn_app (goodIn_of _ (by decide +kernel)) ggX10_work_X10_pagesFrom
set_option maxRecDepth 20000 in
theorem ggX10_reading_X10_noDesk : GoodIn wsX10_reading wsX10_noDesk := goodIn_r _ [9, 10, 11, 12, 8, 13, 19, 20, 21, 22, 23, 24, 25, 26, 27, 28, 29, 30, 31, 32, 33, 34, 35, 36, 37, 38, 39, 40, 41, 42, 43, 44, 45, 46, 47, 48] (by decide +kernel) (by decide +kernel)
set_option maxRecDepth 20000 in
theorem gX10_reading_X10_noDesk : GoodIn wsX10_reading (wsV RX10 177 RX10 yX10_noDesk wsX10_noDesk) := goodIn_app (goodIn_of _ (by decide +kernel)) ggX10_reading_X10_noDesk
set_option maxRecDepth 20000 in
theorem ggX10_reading_X10_noAsk : GoodIn wsX10_reading wsX10_noAsk := goodIn_r _ [17, 18, 11, 12, 8, 13, 19, 20, 21, 22, 23, 24, 25, 26, 27, 28, 29, 30, 31, 32, 33, 34, 35, 36, 37, 38, 39, 40, 41, 42, 43, 44, 45, 46, 47, 48] (by decide +kernel) (by decide +kernel)
set_option maxRecDepth 20000 in
theorem gX10_reading_X10_noAsk : GoodIn wsX10_reading (wsV RX10 192 RX10 yX10_noAsk wsX10_noAsk) := goodIn_app (goodIn_of _ (by decide +kernel)) ggX10_reading_X10_noAsk
set_option maxRecDepth 20000 in
theorem ggX10_reading_X10_in : GoodIn wsX10_reading wsX10_in := goodIn_r _ [13] (by decide +kernel) (by decide +kernel)
set_option maxRecDepth 20000 in
theorem gX10_reading_X10_in : GoodIn wsX10_reading (va_wsS RX10 71 yX10_in wsX10_in) := goodIn_app (goodIn_of _ (by decide +kernel)) ggX10_reading_X10_in
set_option maxRecDepth 20000 in
theorem ggX10_back_X10_in : GoodIn wsX10_back wsX10_in := goodIn_r _ [5] (by decide +kernel) (by decide +kernel)
set_option maxRecDepth 20000 in
theorem gX10_back_X10_in : GoodIn wsX10_back (va_wsS RX10 71 yX10_in wsX10_in) := goodIn_app (goodIn_of _ (by decide +kernel)) ggX10_back_X10_in
set_option maxRecDepth 20000 in
theorem ggX10_isHit_X10_playsLine : GoodIn wsX10_isHit wsX10_playsLine := goodIn_r _ [8, 3, 9, 10, 11, 7, 12, 13, 14, 15, 16, 17, 18, 19, 20, 21, 22, 23, 24, 25, 26, 27, 28, 29, 30, 31, 32, 33, 34, 35, 36, 37, 38, 39, 40, 41, 42, 43, 44, 45, 46, 47, 48, 49, 50, 51, 52, 53, 54, 55, 56, 57, 58, 59, 60, 61, 62, 63, 64, 65, 66, 67, 68, 69, 70, 71] (by decide +kernel) (by decide +kernel)
set_option maxRecDepth 20000 in
theorem gX10_isHit_X10_playsLine : GoodIn wsX10_isHit (wsV RX10 173 RX10 yX10_playsLine wsX10_playsLine) := goodIn_app (goodIn_of _ (by decide +kernel)) ggX10_isHit_X10_playsLine
set_option maxRecDepth 20000 in
theorem ggX10_isHit_X10_whereLies : GoodIn wsX10_isHit wsX10_whereLies := goodIn_r _ [25, 15, 26, 42, 43, 44, 45, 46, 47, 48, 49, 50, 51, 52, 53, 54, 55, 56, 57, 58, 59, 60, 61, 62, 63, 64, 65, 66, 67, 68, 69, 70, 71] (by decide +kernel) (by decide +kernel)
set_option maxRecDepth 20000 in
theorem gX10_isHit_X10_whereLies : GoodIn wsX10_isHit (wsV RX10 160 RX10 yX10_whereLies wsX10_whereLies) := goodIn_app (goodIn_of _ (by decide +kernel)) ggX10_isHit_X10_whereLies
set_option maxRecDepth 20000 in
theorem ggX10_areSo_X10_isHit : GoodIn wsX10_areSo wsX10_isHit := goodIn_r _ [9, 10, 11, 12, 13, 14, 15, 8, 16, 17, 18, 19, 20, 21, 22, 23, 24, 25, 26, 27, 28, 29, 30, 31, 32, 33, 34, 35, 36, 37, 38, 39, 40, 41, 42, 43, 44, 45, 46, 47, 48, 49, 50, 51, 52, 53, 54, 55, 56, 57, 58, 59, 60, 61, 62, 63, 64, 65, 66, 67, 68, 69, 70, 71, 72, 73, 74, 75, 76, 77, 78, 79] (by decide +kernel) (by decide +kernel)
set_option maxRecDepth 20000 in
theorem gX10_areSo_X10_isHit : GoodIn wsX10_areSo (wsV RX10 225 RX10 yX10_isHit wsX10_isHit) := goodIn_app (goodIn_of _ (by decide +kernel)) ggX10_areSo_X10_isHit
set_option maxRecDepth 20000 in
theorem ggX10_sizes_X10_noDesk : GoodIn wsX10_sizes wsX10_noDesk := goodIn_r _ [6, 7, 8, 9, 5, 10, 62, 63, 64, 65, 66, 67, 68, 69, 70, 71, 72, 73, 74, 75, 76, 77, 78, 79, 80, 81, 82, 83, 84, 85, 86, 87, 88, 89, 90, 91] (by decide +kernel) (by decide +kernel)
set_option maxRecDepth 20000 in
theorem gX10_sizes_X10_noDesk : GoodIn wsX10_sizes (wsV RX10 177 RX10 yX10_noDesk wsX10_noDesk) := goodIn_app (goodIn_of _ (by decide +kernel)) ggX10_sizes_X10_noDesk
set_option maxRecDepth 20000 in
theorem ggX10_sizes_X10_areSo : GoodIn wsX10_sizes wsX10_areSo := goodIn_r _ [14, 15, 16, 17, 18, 19, 20, 21, 5, 22, 23, 1, 24, 25, 26, 27, 28, 29, 30, 31, 32, 33, 34, 35, 36, 37, 38, 39, 40, 41, 42, 43, 44, 45, 46, 47, 48, 49, 50, 51, 52, 53, 54, 55, 56, 57, 58, 59, 60, 61, 62, 63, 64, 65, 66, 67, 68, 69, 70, 71, 72, 73, 74, 75, 76, 77, 78, 79, 80, 81, 82, 83, 84, 85, 86, 87, 88, 89, 90, 91] (by decide +kernel) (by decide +kernel)
set_option maxRecDepth 20000 in
theorem gX10_sizes_X10_areSo : GoodIn wsX10_sizes (wsV RX10 228 RX10 yX10_areSo wsX10_areSo) := goodIn_app (goodIn_of _ (by decide +kernel)) ggX10_sizes_X10_areSo
set_option maxRecDepth 20000 in
theorem ggX10_kinds_X10_noDesk : GoodIn wsX10_kinds wsX10_noDesk := goodIn_r _ [6, 7, 8, 9, 5, 10, 62, 63, 64, 65, 66, 67, 68, 69, 70, 71, 72, 73, 74, 75, 76, 77, 78, 79, 80, 81, 82, 83, 84, 85, 86, 87, 88, 89, 90, 91] (by decide +kernel) (by decide +kernel)
set_option maxRecDepth 20000 in
theorem gX10_kinds_X10_noDesk : GoodIn wsX10_kinds (wsV RX10 177 RX10 yX10_noDesk wsX10_noDesk) := goodIn_app (goodIn_of _ (by decide +kernel)) ggX10_kinds_X10_noDesk
set_option maxRecDepth 20000 in
theorem ggX10_kinds_X10_areSo : GoodIn wsX10_kinds wsX10_areSo := goodIn_r _ [14, 15, 16, 17, 18, 19, 20, 21, 5, 22, 1, 23, 24, 25, 26, 27, 28, 29, 30, 31, 32, 33, 34, 35, 36, 37, 38, 39, 40, 41, 42, 43, 44, 45, 46, 47, 48, 49, 50, 51, 52, 53, 54, 55, 56, 57, 58, 59, 60, 61, 62, 63, 64, 65, 66, 67, 68, 69, 70, 71, 72, 73, 74, 75, 76, 77, 78, 79, 80, 81, 82, 83, 84, 85, 86, 87, 88, 89, 90, 91] (by decide +kernel) (by decide +kernel)
set_option maxRecDepth 20000 in
theorem gX10_kinds_X10_areSo : GoodIn wsX10_kinds (wsV RX10 228 RX10 yX10_areSo wsX10_areSo) := goodIn_app (goodIn_of _ (by decide +kernel)) ggX10_kinds_X10_areSo
set_option maxRecDepth 20000 in
theorem ggX10_odds_X10_noDesk : GoodIn wsX10_odds wsX10_noDesk := goodIn_r _ [8, 9, 10, 11, 7, 12, 64, 65, 66, 67, 68, 69, 70, 71, 72, 73, 74, 75, 76, 77, 78, 79, 80, 81, 82, 83, 84, 85, 86, 87, 88, 89, 90, 91, 92, 93] (by decide +kernel) (by decide +kernel)
set_option maxRecDepth 20000 in
theorem gX10_odds_X10_noDesk : GoodIn wsX10_odds (wsV RX10 177 RX10 yX10_noDesk wsX10_noDesk) := goodIn_app (goodIn_of _ (by decide +kernel)) ggX10_odds_X10_noDesk
set_option maxRecDepth 20000 in
theorem ggX10_odds_X10_in : GoodIn wsX10_odds wsX10_in := goodIn_r _ [12] (by decide +kernel) (by decide +kernel)
set_option maxRecDepth 20000 in
theorem gX10_odds_X10_in : GoodIn wsX10_odds (va_wsS RX10 71 yX10_in wsX10_in) := goodIn_app (goodIn_of _ (by decide +kernel)) ggX10_odds_X10_in
set_option maxRecDepth 20000 in
theorem ggX10_odds_X10_lost : GoodIn wsX10_odds wsX10_lost := goodIn_r _ [15, 16] (by decide +kernel) (by decide +kernel)
set_option maxRecDepth 20000 in
theorem gX10_odds_X10_lost : GoodIn wsX10_odds (va_wsS RX10 64 yX10_lost wsX10_lost) := goodIn_app (goodIn_of _ (by decide +kernel)) ggX10_odds_X10_lost
set_option maxRecDepth 20000 in
theorem ggX10_odds_X10_playsNow : GoodIn wsX10_odds wsX10_playsNow := goodIn_r _ [20, 21, 22, 23, 24, 25, 26, 7, 27, 28, 29, 30, 31, 32, 33, 34, 2, 35, 36, 37, 38, 39, 40, 41, 42, 43, 44, 45, 46, 47, 48, 49, 50, 51, 52, 53, 54, 55, 56, 57, 58, 59, 60, 64, 65, 66, 67, 68, 69, 70, 71, 72, 73, 74, 75, 76, 77, 78, 79, 80, 81, 82, 83, 84, 85, 86, 87, 88, 89, 90, 91, 92, 93] (by decide +kernel) (by decide +kernel)
set_option maxRecDepth 20000 in
theorem gX10_odds_X10_playsNow : GoodIn wsX10_odds (wsV RX10 180 RX10 yX10_playsNow wsX10_playsNow) := goodIn_app (goodIn_of _ (by decide +kernel)) ggX10_odds_X10_playsNow
set_option maxRecDepth 20000 in
theorem ggX10_odds_X10_share : GoodIn wsX10_odds wsX10_share := goodIn_r _ [63] (by decide +kernel) (by decide +kernel)
set_option maxRecDepth 20000 in
theorem gX10_odds_X10_share : GoodIn wsX10_odds (va_wsS RX10 234 yX10_share wsX10_share) := goodIn_app (goodIn_of _ (by decide +kernel)) ggX10_odds_X10_share
set_option maxRecDepth 20000 in
theorem ggX10_noSheet_X10_in : GoodIn wsX10_noSheet wsX10_in := goodIn_r _ [5] (by decide +kernel) (by decide +kernel)
set_option maxRecDepth 20000 in
theorem gX10_noSheet_X10_in : GoodIn wsX10_noSheet (va_wsS RX10 71 yX10_in wsX10_in) := goodIn_app (goodIn_of _ (by decide +kernel)) ggX10_noSheet_X10_in
set_option maxRecDepth 20000 in
theorem ggX10_sheet_X10_noSheet : GoodIn wsX10_sheet wsX10_noSheet := goodIn_r _ [8, 9, 10, 11, 7, 12] (by decide +kernel) (by decide +kernel)
set_option maxRecDepth 20000 in
theorem gX10_sheet_X10_noSheet : GoodIn wsX10_sheet (va_wsS RX10 114 yX10_noSheet wsX10_noSheet) := goodIn_app (goodIn_of _ (by decide +kernel)) ggX10_sheet_X10_noSheet
set_option maxRecDepth 20000 in
theorem ggX10_sheet_X10_refused : GoodIn wsX10_sheet wsX10_refused := goodIn_r _ [16, 17, 22, 23, 24, 25, 26, 27, 28, 29, 30, 31, 32, 33, 34, 35, 36, 37, 38, 39, 40, 41, 42, 43, 44, 45, 46, 47, 48, 49, 50, 51] (by decide +kernel) (by decide +kernel)
set_option maxRecDepth 20000 in
theorem gX10_sheet_X10_refused : GoodIn wsX10_sheet (wsV RX10 117 RX10 yX10_refused wsX10_refused) := goodIn_app (goodIn_of _ (by decide +kernel)) ggX10_sheet_X10_refused
set_option maxRecDepth 20000 in
theorem ggX10_sheet_X10_in : GoodIn wsX10_sheet wsX10_in := goodIn_r _ [12] (by decide +kernel) (by decide +kernel)
set_option maxRecDepth 20000 in
theorem gX10_sheet_X10_in : GoodIn wsX10_sheet (va_wsS RX10 71 yX10_in wsX10_in) := goodIn_app (goodIn_of _ (by decide +kernel)) ggX10_sheet_X10_in
set_option maxRecDepth 20000 in
theorem ggX10_sheet_X10_failed : GoodIn wsX10_sheet wsX10_failed := goodIn_r _ [21, 17, 22, 23, 24, 25, 26, 27, 28, 29, 30, 31, 32, 33, 34, 35, 36, 37, 38, 39, 40, 41, 42, 43, 44, 45, 46, 47, 48, 49, 50, 51] (by decide +kernel) (by decide +kernel)
set_option maxRecDepth 20000 in
theorem gX10_sheet_X10_failed : GoodIn wsX10_sheet (wsV RX10 106 RX10 yX10_failed wsX10_failed) := goodIn_app (goodIn_of _ (by decide +kernel)) ggX10_sheet_X10_failed
set_option maxRecDepth 20000 in
theorem ggX10_lose_X10_noSheet : GoodIn wsX10_lose wsX10_noSheet := goodIn_r _ [5, 6, 7, 8, 4, 9] (by decide +kernel) (by decide +kernel)
set_option maxRecDepth 20000 in
theorem gX10_lose_X10_noSheet : GoodIn wsX10_lose (va_wsS RX10 114 yX10_noSheet wsX10_noSheet) := goodIn_app (goodIn_of _ (by decide +kernel)) ggX10_lose_X10_noSheet
set_option maxRecDepth 20000 in
theorem ggX10_noCell_X10_in : GoodIn wsX10_noCell wsX10_in := goodIn_r _ [5] (by decide +kernel) (by decide +kernel)
set_option maxRecDepth 20000 in
theorem gX10_noCell_X10_in : GoodIn wsX10_noCell (va_wsS RX10 71 yX10_in wsX10_in) := goodIn_app (goodIn_of _ (by decide +kernel)) ggX10_noCell_X10_in
set_option maxRecDepth 20000 in
theorem ggX10_put_X10_noSheet : GoodIn wsX10_put wsX10_noSheet := goodIn_r _ [6, 7, 8, 9, 5, 10] (by decide +kernel) (by decide +kernel)
set_option maxRecDepth 20000 in
theorem gX10_put_X10_noSheet : GoodIn wsX10_put (va_wsS RX10 114 yX10_noSheet wsX10_noSheet) := goodIn_app (goodIn_of _ (by decide +kernel)) ggX10_put_X10_noSheet
set_option maxRecDepth 20000 in
theorem ggX10_put_X10_refused : GoodIn wsX10_put wsX10_refused := goodIn_r _ [14, 15, 25, 26, 27, 28, 29, 30, 31, 32, 33, 34, 35, 36, 37, 38, 39, 40, 41, 42, 43, 44, 45, 46, 47, 48, 49, 50, 51, 52, 53, 54] (by decide +kernel) (by decide +kernel)
set_option maxRecDepth 20000 in
theorem gX10_put_X10_refused : GoodIn wsX10_put (wsV RX10 117 RX10 yX10_refused wsX10_refused) := goodIn_app (goodIn_of _ (by decide +kernel)) ggX10_put_X10_refused
set_option maxRecDepth 20000 in
theorem ggX10_put_X10_noCell : GoodIn wsX10_put wsX10_noCell := goodIn_r _ [19, 20, 8, 9, 5, 10, 25, 26, 27, 28, 29, 30, 31, 32, 33, 34, 35, 36, 37, 38, 39, 40, 41, 42, 43, 44, 45, 46, 47, 48, 49, 50, 51, 52, 53, 54] (by decide +kernel) (by decide +kernel)
set_option maxRecDepth 20000 in
theorem gX10_put_X10_noCell : GoodIn wsX10_put (wsV RX10 238 RX10 yX10_noCell wsX10_noCell) := goodIn_app (goodIn_of _ (by decide +kernel)) ggX10_put_X10_noCell
set_option maxRecDepth 20000 in
theorem ggX10_put_X10_failed : GoodIn wsX10_put wsX10_failed := goodIn_r _ [24, 15, 25, 26, 27, 28, 29, 30, 31, 32, 33, 34, 35, 36, 37, 38, 39, 40, 41, 42, 43, 44, 45, 46, 47, 48, 49, 50, 51, 52, 53, 54] (by decide +kernel) (by decide +kernel)
set_option maxRecDepth 20000 in
theorem gX10_put_X10_failed : GoodIn wsX10_put (wsV RX10 106 RX10 yX10_failed wsX10_failed) := goodIn_app (goodIn_of _ (by decide +kernel)) ggX10_put_X10_failed
set_option maxRecDepth 20000 in
theorem ggX10_cell_X10_noSheet : GoodIn wsX10_cell wsX10_noSheet := goodIn_r _ [9, 10, 11, 12, 8, 13] (by decide +kernel) (by decide +kernel)
set_option maxRecDepth 20000 in
theorem gX10_cell_X10_noSheet : GoodIn wsX10_cell (va_wsS RX10 114 yX10_noSheet wsX10_noSheet) := goodIn_app (goodIn_of _ (by decide +kernel)) ggX10_cell_X10_noSheet
set_option maxRecDepth 20000 in
theorem ggX10_cell_X10_in : GoodIn wsX10_cell wsX10_in := goodIn_r _ [13] (by decide +kernel) (by decide +kernel)
set_option maxRecDepth 20000 in
theorem gX10_cell_X10_in : GoodIn wsX10_cell (va_wsS RX10 71 yX10_in wsX10_in) := goodIn_app (goodIn_of _ (by decide +kernel)) ggX10_cell_X10_in
set_option maxRecDepth 20000 in
theorem ggX10_cell_X10_lost : GoodIn wsX10_cell wsX10_lost := goodIn_r _ [16, 17] (by decide +kernel) (by decide +kernel)
set_option maxRecDepth 20000 in
theorem gX10_cell_X10_lost : GoodIn wsX10_cell (va_wsS RX10 64 yX10_lost wsX10_lost) := goodIn_app (goodIn_of _ (by decide +kernel)) ggX10_cell_X10_lost
set_option maxRecDepth 20000 in
theorem ggX10_cell_X10_failedLong : GoodIn wsX10_cell wsX10_failedLong := goodIn_r _ [21, 1, 14, 15, 8, 16, 17, 26, 27, 28, 29, 30, 31, 32, 33, 34, 35, 36, 37, 38, 39, 40, 41, 42, 43, 44, 45, 46, 47, 48, 49, 50, 51, 52, 53, 54, 55] (by decide +kernel) (by decide +kernel)
set_option maxRecDepth 20000 in
theorem gX10_cell_X10_failedLong : GoodIn wsX10_cell (wsV RX10 241 RX10 yX10_failedLong wsX10_failedLong) := goodIn_app (goodIn_of _ (by decide +kernel)) ggX10_cell_X10_failedLong
set_option maxRecDepth 20000 in
theorem ggX10_cell_X10_noCell : GoodIn wsX10_cell wsX10_noCell := goodIn_r _ [25, 3, 11, 12, 8, 13, 26, 27, 28, 29, 30, 31, 32, 33, 34, 35, 36, 37, 38, 39, 40, 41, 42, 43, 44, 45, 46, 47, 48, 49, 50, 51, 52, 53, 54, 55] (by decide +kernel) (by decide +kernel)
set_option maxRecDepth 20000 in
theorem gX10_cell_X10_noCell : GoodIn wsX10_cell (wsV RX10 238 RX10 yX10_noCell wsX10_noCell) := goodIn_app (goodIn_of _ (by decide +kernel)) ggX10_cell_X10_noCell
set_option maxRecDepth 20000 in
theorem ggX10_copy_X10_noSheet : GoodIn wsX10_copy wsX10_noSheet := goodIn_r _ [8, 9, 10, 11, 7, 12] (by decide +kernel) (by decide +kernel)
set_option maxRecDepth 20000 in
theorem gX10_copy_X10_noSheet : GoodIn wsX10_copy (va_wsS RX10 114 yX10_noSheet wsX10_noSheet) := goodIn_app (goodIn_of _ (by decide +kernel)) ggX10_copy_X10_noSheet
set_option maxRecDepth 20000 in
theorem ggX10_copy_X10_refused : GoodIn wsX10_copy wsX10_refused := goodIn_r _ [16, 17, 25, 26, 27, 28, 29, 30, 31, 32, 33, 34, 35, 36, 37, 38, 39, 40, 41, 42, 43, 44, 45, 46, 47, 48, 49, 50, 51, 52, 53, 54] (by decide +kernel) (by decide +kernel)
set_option maxRecDepth 20000 in
theorem gX10_copy_X10_refused : GoodIn wsX10_copy (wsV RX10 117 RX10 yX10_refused wsX10_refused) := goodIn_app (goodIn_of _ (by decide +kernel)) ggX10_copy_X10_refused
set_option maxRecDepth 20000 in
theorem ggX10_copy_X10_failed : GoodIn wsX10_copy wsX10_failed := goodIn_r _ [21, 17, 25, 26, 27, 28, 29, 30, 31, 32, 33, 34, 35, 36, 37, 38, 39, 40, 41, 42, 43, 44, 45, 46, 47, 48, 49, 50, 51, 52, 53, 54] (by decide +kernel) (by decide +kernel)
set_option maxRecDepth 20000 in
theorem gX10_copy_X10_failed : GoodIn wsX10_copy (wsV RX10 106 RX10 yX10_failed wsX10_failed) := goodIn_app (goodIn_of _ (by decide +kernel)) ggX10_copy_X10_failed
set_option maxRecDepth 20000 in
theorem ggX10_copy_X10_isBeyond : GoodIn wsX10_copy wsX10_isBeyond := goodIn_r _ [24] (by decide +kernel) (by decide +kernel)
set_option maxRecDepth 20000 in
theorem gX10_copy_X10_isBeyond : GoodIn wsX10_copy (va_wsS RX10 110 yX10_isBeyond wsX10_isBeyond) := goodIn_app (goodIn_of _ (by decide +kernel)) ggX10_copy_X10_isBeyond
set_option maxRecDepth 20000 in
theorem ggX10_tell_X10_noDesk : GoodIn wsX10_tell wsX10_noDesk := goodIn_r _ [7, 8, 9, 10, 6, 11, 17, 18, 19, 20, 21, 22, 23, 24, 25, 26, 27, 28, 29, 30, 31, 32, 33, 34, 35, 36, 37, 38, 39, 40, 41, 42, 43, 44, 45, 46] (by decide +kernel) (by decide +kernel)
set_option maxRecDepth 20000 in
theorem gX10_tell_X10_noDesk : GoodIn wsX10_tell (wsV RX10 177 RX10 yX10_noDesk wsX10_noDesk) := goodIn_app (goodIn_of _ (by decide +kernel)) ggX10_tell_X10_noDesk
set_option maxRecDepth 20000 in
theorem ggX10_tell_X10_traced : GoodIn wsX10_tell wsX10_traced := goodIn_r _ [15, 16, 17, 18, 19, 20, 21, 22, 23, 24, 25, 26, 27, 28, 29, 30, 31, 32, 33, 34, 35, 36, 37, 38, 39, 40, 41, 42, 43, 44, 45, 46] (by decide +kernel) (by decide +kernel)
set_option maxRecDepth 20000 in
theorem gX10_tell_X10_traced : GoodIn wsX10_tell (wsV RX10 248 RX10 yX10_traced wsX10_traced) := goodIn_app (goodIn_of _ (by decide +kernel)) ggX10_tell_X10_traced
set_option maxRecDepth 20000 in
theorem ggX10_tally_X10_noDesk : GoodIn wsX10_tally wsX10_noDesk := goodIn_r _ [7, 8, 9, 10, 6, 11, 60, 61, 62, 63, 64, 65, 66, 67, 68, 69, 70, 71, 72, 73, 74, 75, 76, 77, 78, 79, 80, 81, 82, 83, 84, 85, 86, 87, 88, 89] (by decide +kernel) (by decide +kernel)
set_option maxRecDepth 20000 in
theorem gX10_tally_X10_noDesk : GoodIn wsX10_tally (wsV RX10 177 RX10 yX10_noDesk wsX10_noDesk) := goodIn_app (goodIn_of _ (by decide +kernel)) ggX10_tally_X10_noDesk
set_option maxRecDepth 20000 in
theorem ggX10_tally_X10_traced : GoodIn wsX10_tally wsX10_traced := goodIn_r _ [15, 16, 60, 61, 62, 63, 64, 65, 66, 67, 68, 69, 70, 71, 72, 73, 74, 75, 76, 77, 78, 79, 80, 81, 82, 83, 84, 85, 86, 87, 88, 89] (by decide +kernel) (by decide +kernel)
set_option maxRecDepth 20000 in
theorem gX10_tally_X10_traced : GoodIn wsX10_tally (wsV RX10 248 RX10 yX10_traced wsX10_traced) := goodIn_app (goodIn_of _ (by decide +kernel)) ggX10_tally_X10_traced
set_option maxRecDepth 20000 in
theorem ggX10_tally_X10_playsNow : GoodIn wsX10_tally wsX10_playsNow := goodIn_r _ [20, 1, 21, 22, 23, 24, 25, 6, 26, 27, 28, 29, 30, 31, 32, 33, 34, 35, 2, 36, 37, 38, 39, 40, 41, 42, 43, 44, 45, 46, 47, 48, 49, 50, 51, 52, 53, 54, 55, 56, 57, 58, 59, 60, 61, 62, 63, 64, 65, 66, 67, 68, 69, 70, 71, 72, 73, 74, 75, 76, 77, 78, 79, 80, 81, 82, 83, 84, 85, 86, 87, 88, 89] (by decide +kernel) (by decide +kernel)
set_option maxRecDepth 20000 in
theorem gX10_tally_X10_playsNow : GoodIn wsX10_tally (wsV RX10 180 RX10 yX10_playsNow wsX10_playsNow) := goodIn_app (goodIn_of _ (by decide +kernel)) ggX10_tally_X10_playsNow
set_option maxRecDepth 20000 in
theorem ggX10_as_X10_noDesk : GoodIn wsX10_as wsX10_noDesk := goodIn_r _ [7, 8, 9, 10, 6, 11, 21, 22, 23, 24, 25, 26, 27, 28, 29, 30, 31, 32, 33, 34, 35, 36, 37, 38, 39, 40, 41, 42, 43, 44, 45, 46, 47, 48, 49, 50] (by decide +kernel) (by decide +kernel)
set_option maxRecDepth 20000 in
theorem gX10_as_X10_noDesk : GoodIn wsX10_as (wsV RX10 177 RX10 yX10_noDesk wsX10_noDesk) := goodIn_app (goodIn_of _ (by decide +kernel)) ggX10_as_X10_noDesk
set_option maxRecDepth 20000 in
theorem ggX10_as_X10_refused : GoodIn wsX10_as wsX10_refused := goodIn_r _ [15, 16, 21, 22, 23, 24, 25, 26, 27, 28, 29, 30, 31, 32, 33, 34, 35, 36, 37, 38, 39, 40, 41, 42, 43, 44, 45, 46, 47, 48, 49, 50] (by decide +kernel) (by decide +kernel)
set_option maxRecDepth 20000 in
theorem gX10_as_X10_refused : GoodIn wsX10_as (wsV RX10 117 RX10 yX10_refused wsX10_refused) := goodIn_app (goodIn_of _ (by decide +kernel)) ggX10_as_X10_refused
set_option maxRecDepth 20000 in
theorem ggX10_as_X10_in : GoodIn wsX10_as wsX10_in := goodIn_r _ [11] (by decide +kernel) (by decide +kernel)
set_option maxRecDepth 20000 in
theorem gX10_as_X10_in : GoodIn wsX10_as (va_wsS RX10 71 yX10_in wsX10_in) := goodIn_app (goodIn_of _ (by decide +kernel)) ggX10_as_X10_in
set_option maxRecDepth 20000 in
theorem ggX10_as_X10_failed : GoodIn wsX10_as wsX10_failed := goodIn_r _ [20, 16, 21, 22, 23, 24, 25, 26, 27, 28, 29, 30, 31, 32, 33, 34, 35, 36, 37, 38, 39, 40, 41, 42, 43, 44, 45, 46, 47, 48, 49, 50] (by decide +kernel) (by decide +kernel)
set_option maxRecDepth 20000 in
theorem gX10_as_X10_failed : GoodIn wsX10_as (wsV RX10 106 RX10 yX10_failed wsX10_failed) := goodIn_app (goodIn_of _ (by decide +kernel)) ggX10_as_X10_failed
set_option maxRecDepth 20000 in
theorem ggX10_many_X10_pagesFrom : GoodIn wsX10_many wsX10_pagesFrom := goodIn_r _ [9, 10, 14, 15, 16, 17, 18, 19, 20, 21, 22, 23, 24, 25, 26, 27, 28, 29, 30, 31, 32, 33, 34, 35, 36, 37, 38, 39, 40, 41, 42, 43] (by decide +kernel) (by decide +kernel)
set_option maxRecDepth 20000 in
theorem gX10_many_X10_pagesFrom : GoodIn wsX10_many (wsV RX10 222 RX10 yX10_pagesFrom wsX10_pagesFrom) := goodIn_app (goodIn_of _ (by decide +kernel)) ggX10_many_X10_pagesFrom
set_option maxRecDepth 20000 in
theorem ggX10_many_X10_bits : GoodIn wsX10_many wsX10_bits := goodIn_r _ [13] (by decide +kernel) (by decide +kernel)
set_option maxRecDepth 20000 in
theorem gX10_many_X10_bits : GoodIn wsX10_many (va_wsS RX10 210 yX10_bits wsX10_bits) := goodIn_app (goodIn_of _ (by decide +kernel)) ggX10_many_X10_bits
set_option maxRecDepth 20000 in
theorem ggL_law_X9_init : GoodIn wsL_law wsX9_init := goodIn_r _ [8, 9, 10, 11, 12, 13, 14, 15, 16, 17, 18, 19, 20, 21, 22, 23, 24, 25, 26, 27, 28, 29, 30, 31, 32, 33, 34, 35, 36, 37, 38, 39, 40, 41, 42, 43, 44, 45, 46, 47, 48, 49, 50, 51, 52, 53, 54, 55, 56, 57, 58, 59, 60, 61, 62, 63, 64, 65, 66, 67, 68, 69, 2, 70, 71, 72, 73, 74, 75, 76, 77, 78, 79, 80, 81, 82, 83, 84, 85, 86, 87, 931, 932, 933, 934, 935, 936, 937, 938, 939, 940, 941, 972, 973, 974, 975, 976, 977, 978, 979, 980, 981, 982, 983, 984, 985, 986, 987, 988, 989, 990, 991, 992, 993, 994, 995, 996, 997, 998, 999, 1000, 1001, 1002, 1003, 1004] (by decide +kernel) (by decide +kernel)
set_option maxRecDepth 20000 in
theorem gL_law_X9_init : GoodIn wsL_law (wsX9_init) := ggL_law_X9_init
set_option maxRecDepth 20000 in
theorem ggL_law_X10_init : GoodIn wsL_law wsX10_init := goodIn_r _ [90, 91, 10, 11, 42, 92, 93, 94, 95, 96, 97, 98, 99, 100, 101, 102, 103, 104, 105, 106, 107, 942, 943, 944, 945, 946, 947, 948, 949, 950, 951, 952, 953, 954, 955, 956, 957, 958, 959, 960, 961, 962, 963, 964, 965, 966, 967, 968, 969, 970, 971] (by decide +kernel) (by decide +kernel)
set_option maxRecDepth 20000 in
theorem gL_law_X10_init : GoodIn wsL_law (wsX10_init) := ggL_law_X10_init
set_option maxRecDepth 20000 in
theorem ggL_law_X9_room : GoodIn wsL_law wsX9_room := goodIn_r _ [111, 13, 112, 17, 113, 114, 115, 2, 116, 117, 118, 119, 120, 121, 122, 123, 124, 125, 126, 38, 127, 67, 128, 129, 130, 131, 132, 133, 134, 135, 136, 137, 138, 139, 140, 141, 142, 143, 16, 144, 145, 146, 147, 148, 149, 150, 151, 152, 153, 154, 155, 156, 157, 158, 159, 160, 43, 161, 162, 163, 164, 44, 165, 166, 167, 168, 169, 170, 171, 172, 45, 173, 174, 175, 176, 177, 178, 179, 19, 180, 181, 24, 182, 183, 184, 32, 185, 68, 69, 70, 71, 72, 73, 74, 75, 76, 18, 77, 78, 79, 80, 81, 82, 83, 10, 11, 42, 84, 85, 86, 87, 186, 187, 188, 189, 190, 191, 192, 193, 194, 195, 196, 197, 198, 199, 23, 200, 49, 201, 202, 203, 204, 205, 931, 932, 933, 934, 935, 936, 937, 938, 939, 940, 941, 987, 988, 989, 972, 973, 974, 975, 976, 977, 982, 983, 984, 985, 990, 991, 992, 993, 994, 995, 996, 997, 998, 999, 1000, 1001, 1002, 1003, 1004, 978, 979] (by decide +kernel) (by decide +kernel)
set_option maxRecDepth 20000 in
theorem gL_law_X9_room : GoodIn wsL_law (wsV RL 13 RX9 yX9_room wsX9_room) := goodIn_app (goodIn_of _ (by decide +kernel)) ggL_law_X9_room
set_option maxRecDepth 20000 in
theorem ggL_law_X10_room : GoodIn wsL_law wsX10_room := goodIn_r _ [209, 210, 211, 212, 213, 214, 215, 216, 92, 95, 93, 96, 94, 97, 217, 218, 219, 5, 220, 221, 222, 223, 224, 225, 226, 227, 228, 229, 230, 231, 232, 233, 104, 105, 234, 235, 236, 237, 238, 239, 240, 241, 242, 243, 244, 245, 246, 247, 248, 106, 249, 250, 251, 252, 253, 254, 255, 256, 257, 258, 259, 260, 261, 942, 943, 944, 945, 946, 947, 948, 949, 950, 951, 952, 953, 954, 955, 956, 957, 958, 959, 960, 961, 962, 963, 964, 965, 966, 967, 968, 969, 970, 971] (by decide +kernel) (by decide +kernel)
set_option maxRecDepth 20000 in
theorem gL_law_X10_room : GoodIn wsL_law (wsV RL 17 RX10 yX10_room wsX10_room) := goodIn_app (goodIn_of _ (by decide +kernel)) ggL_law_X10_room
set_option maxRecDepth 20000 in
theorem ggL_law_X9_ofDesk : GoodIn wsL_law wsX9_ofDesk := goodIn_r _ [265, 19, 266, 267, 268, 269, 270, 271, 2, 272, 113, 117, 118, 119, 273, 274, 275, 276, 277, 73, 278, 279, 280, 281, 282, 78, 283, 284, 76, 285, 286, 287, 288, 289, 290, 191, 84, 291, 292, 293, 294, 295, 296, 297, 298, 85, 299, 300, 301, 302, 303, 304, 305, 306, 307, 308, 309, 310, 311, 192, 312, 313, 314, 315, 316, 317, 318, 319, 320, 321, 322, 931, 932, 933, 934, 935, 936, 937, 938, 939, 940, 941, 990, 991, 992, 993, 994, 1000, 1001, 1002, 1003, 1004, 995, 996, 997, 998, 999] (by decide +kernel) (by decide +kernel)
set_option maxRecDepth 20000 in
theorem gL_law_X9_ofDesk : GoodIn wsL_law (wsV RL 18 RX9 yX9_ofDesk wsX9_ofDesk) := goodIn_app (goodIn_of _ (by decide +kernel)) ggL_law_X9_ofDesk
set_option maxRecDepth 20000 in
theorem ggL_law_X10_ofDesk : GoodIn wsL_law wsX10_ofDesk := goodIn_r _ [326, 92, 93, 327, 328, 329, 330, 331, 5, 332, 213, 222, 223, 224, 333, 334, 335, 336, 216, 337, 338, 339, 340, 94, 341, 342, 343, 344, 345, 346, 347, 348, 349, 350, 351, 352, 353, 354, 355, 98, 356, 357, 358, 359, 360, 361, 362, 363, 364, 365, 366, 367, 368, 369, 370, 371, 372, 373, 374, 375, 376, 377, 378, 942, 943, 944, 945, 946, 947, 948, 949, 950, 951, 952, 953, 954, 955, 956, 957, 958, 959, 960, 961, 962, 963, 964, 965, 966, 967, 968, 969, 970, 971] (by decide +kernel) (by decide +kernel)
set_option maxRecDepth 20000 in
theorem gL_law_X10_ofDesk : GoodIn wsL_law (wsV RL 22 RX10 yX10_ofDesk wsX10_ofDesk) := goodIn_app (goodIn_of _ (by decide +kernel)) ggL_law_X10_ofDesk
set_option maxRecDepth 20000 in
theorem ggL_law_X9_lies : GoodIn wsL_law wsX9_lies := goodIn_r _ [382, 19, 383, 384, 269, 270, 271, 2, 272, 113, 117, 118, 119, 931, 932, 933, 934, 935, 936, 937, 938, 939, 940, 941, 990, 991, 992, 993, 994, 1000, 1001, 1002, 1003, 1004, 995, 996, 997, 998, 999] (by decide +kernel) (by decide +kernel)
set_option maxRecDepth 20000 in
theorem gL_law_X9_lies : GoodIn wsL_law (wsV RL 23 RX9 yX9_lies wsX9_lies) := goodIn_app (goodIn_of _ (by decide +kernel)) ggL_law_X9_lies
set_option maxRecDepth 20000 in
theorem ggL_law_X10_lies : GoodIn wsL_law wsX10_lies := goodIn_r _ [388, 389, 347, 98, 329, 330, 331, 5, 332, 213, 222, 223, 224, 333, 334, 335, 336, 92, 93, 216, 337, 338, 339, 340, 94, 341, 342, 343, 344, 345, 346, 328, 327, 348, 349, 350, 351, 352, 353, 354, 355, 356, 357, 358, 359, 360, 361, 362, 363, 364, 365, 366, 367, 368, 369, 370, 942, 943, 944, 945, 946, 947, 948, 949, 950, 951, 952, 953, 954, 955, 956, 957, 958, 959, 960, 961, 962, 963, 964, 965, 966, 967, 968, 969, 970, 971] (by decide +kernel) (by decide +kernel)
set_option maxRecDepth 20000 in
theorem gL_law_X10_lies : GoodIn wsL_law (wsV RL 26 RX10 yX10_lies wsX10_lies) := goodIn_app (goodIn_of _ (by decide +kernel)) ggL_law_X10_lies
set_option maxRecDepth 20000 in
theorem ggL_law_X9_line : GoodIn wsL_law wsX9_line := goodIn_r _ [393, 24, 394, 395, 396, 397, 23, 398, 205, 118, 2, 119, 931, 932, 933, 934, 935, 936, 937, 938, 939, 940, 941, 978, 979] (by decide +kernel) (by decide +kernel)
set_option maxRecDepth 20000 in
theorem gL_law_X9_line : GoodIn wsL_law (wsV RL 27 RX9 yX9_line wsX9_line) := goodIn_app (goodIn_of _ (by decide +kernel)) ggL_law_X9_line
set_option maxRecDepth 20000 in
theorem ggL_law_X10_line : GoodIn wsL_law wsX10_line := goodIn_r _ [402, 94, 403, 404, 405, 5, 406, 215, 222, 223, 224, 942, 943, 944, 945, 946, 947, 948, 949, 950, 951, 952, 953, 954, 955, 956, 957, 958, 959, 960, 961, 962, 963, 964, 965, 966, 967, 968, 969, 970, 971] (by decide +kernel) (by decide +kernel)
set_option maxRecDepth 20000 in
theorem gL_law_X10_line : GoodIn wsL_law (wsV RL 31 RX10 yX10_line wsX10_line) := goodIn_app (goodIn_of _ (by decide +kernel)) ggL_law_X10_line
set_option maxRecDepth 20000 in
theorem ggL_law_X9_build : GoodIn wsL_law wsX9_build := goodIn_r _ [410, 19, 266, 184, 24, 394, 269, 270, 271, 2, 272, 113, 117, 118, 119, 186, 187, 188, 189, 78, 190, 85, 191, 192, 193, 194, 195, 196, 411, 412, 413, 414, 415, 84, 416, 417, 418, 419, 420, 421, 422, 423, 424, 425, 426, 427, 428, 73, 429, 430, 431, 432, 433, 434, 435, 436, 437, 438, 439, 76, 440, 441, 442, 443, 444, 445, 446, 447, 448, 449, 450, 451, 452, 453, 454, 305, 306, 307, 308, 309, 310, 311, 312, 455, 456, 457, 458, 459, 460, 461, 462, 463, 464, 465, 466, 467, 468, 469, 470, 471, 472, 473, 474, 475, 476, 477, 478, 479, 480, 481, 482, 931, 932, 933, 934, 935, 936, 937, 938, 939, 940, 941, 990, 991, 992, 993, 994, 1000, 1001, 1002, 1003, 1004, 995, 996, 997, 998, 999, 978, 979] (by decide +kernel) (by decide +kernel)
set_option maxRecDepth 20000 in
theorem gL_law_X9_build : GoodIn wsL_law (wsV RL 32 RX9 yX9_build wsX9_build) := goodIn_app (goodIn_of _ (by decide +kernel)) ggL_law_X9_build
set_option maxRecDepth 20000 in
theorem ggL_law_X10_build : GoodIn wsL_law wsX10_build := goodIn_r _ [486, 253, 93, 329, 330, 331, 5, 332, 213, 222, 223, 224, 942, 943, 944, 945, 946, 947, 948, 949, 950, 951, 952, 953, 954, 955, 956, 957, 958, 959, 960, 961, 962, 963, 964, 965, 966, 967, 968, 969, 970, 971] (by decide +kernel) (by decide +kernel)
set_option maxRecDepth 20000 in
theorem gL_law_X10_build : GoodIn wsL_law (wsV RL 35 RX10 yX10_build wsX10_build) := goodIn_app (goodIn_of _ (by decide +kernel)) ggL_law_X10_build
set_option maxRecDepth 20000 in
theorem ggL_law_X9_come : GoodIn wsL_law wsX9_come := goodIn_r _ [490, 24, 491, 184, 394, 117, 118, 2, 119, 492, 493, 494, 495, 113, 496, 497, 498, 499, 19, 411, 412, 413, 414, 78, 415, 193, 191, 85, 84, 416, 417, 418, 419, 420, 421, 422, 423, 424, 425, 426, 427, 428, 73, 429, 430, 431, 432, 433, 434, 435, 436, 437, 438, 439, 76, 440, 441, 442, 443, 444, 445, 446, 447, 448, 449, 450, 451, 452, 453, 454, 305, 306, 307, 308, 309, 310, 311, 192, 312, 455, 456, 457, 458, 459, 460, 461, 462, 463, 464, 465, 466, 467, 468, 469, 470, 471, 472, 473, 474, 475, 476, 477, 478, 479, 480, 481, 482, 931, 932, 933, 934, 935, 936, 937, 938, 939, 940, 941, 978, 979, 990, 991, 992, 993, 994, 1000, 1001, 1002, 1003, 1004, 995, 996, 997, 998, 999] (by decide +kernel) (by decide +kernel)
set_option maxRecDepth 20000 in
theorem gL_law_X9_come : GoodIn wsL_law (wsV RL 36 RX9 yX9_come wsX9_come) := goodIn_app (goodIn_of _ (by decide +kernel)) ggL_law_X9_come
set_option maxRecDepth 20000 in
theorem ggL_law_X10_come : GoodIn wsL_law wsX10_come := goodIn_r _ [503, 504, 213, 216, 215, 222, 223, 5, 224, 505, 506, 507, 508, 327, 333, 334, 335, 336, 92, 93, 337, 338, 339, 340, 94, 341, 342, 343, 344, 345, 346, 347, 328, 348, 349, 350, 351, 352, 353, 354, 355, 98, 356, 357, 358, 359, 360, 361, 362, 363, 364, 365, 366, 367, 368, 369, 370, 942, 943, 944, 945, 946, 947, 948, 949, 950, 951, 952, 953, 954, 955, 956, 957, 958, 959, 960, 961, 962, 963, 964, 965, 966, 967, 968, 969, 970, 971] (by decide +kernel) (by decide +kernel)
set_option maxRecDepth 20000 in
theorem gL_law_X10_come : GoodIn wsL_law (wsV RL 39 RX10 yX10_come wsX10_come) := goodIn_app (goodIn_of _ (by decide +kernel)) ggL_law_X10_come
set_option maxRecDepth 20000 in
theorem ggL_law_X9_anew : GoodIn wsL_law wsX9_anew := goodIn_r _ [512, 184, 113, 19, 266, 492, 493, 494, 2, 495, 186, 187, 188, 189, 78, 190, 85, 191, 192, 193, 194, 195, 196, 931, 932, 933, 934, 935, 936, 937, 938, 939, 940, 941, 990, 991, 992, 993, 994, 1000, 1001, 1002, 1003, 1004, 995, 996, 997, 998, 999] (by decide +kernel) (by decide +kernel)
set_option maxRecDepth 20000 in
theorem gL_law_X9_anew : GoodIn wsL_law (wsV RL 40 RX9 yX9_anew wsX9_anew) := goodIn_app (goodIn_of _ (by decide +kernel)) ggL_law_X9_anew
set_option maxRecDepth 20000 in
theorem ggL_law_X10_anew : GoodIn wsL_law wsX10_anew := goodIn_r _ [516, 213, 216, 942, 943, 944, 945, 946, 947, 948, 949, 950, 951, 952, 953, 954, 955, 956, 957, 958, 959, 960, 961, 962, 963, 964, 965, 966, 967, 968, 969, 970, 971] (by decide +kernel) (by decide +kernel)
set_option maxRecDepth 20000 in
theorem gL_law_X10_anew : GoodIn wsL_law (wsV RL 44 RX10 yX10_anew wsX10_anew) := goodIn_app (goodIn_of _ (by decide +kernel)) ggL_law_X10_anew
set_option maxRecDepth 20000 in
theorem ggL_law_X9_ask : GoodIn wsL_law wsX9_ask := goodIn_r _ [520, 24, 491, 492, 493, 494, 2, 495, 113, 521, 173, 174, 117, 118, 119, 522, 523, 524, 23, 525, 49, 205, 931, 932, 933, 934, 935, 936, 937, 938, 939, 940, 941, 978, 979] (by decide +kernel) (by decide +kernel)
set_option maxRecDepth 20000 in
theorem gL_law_X9_ask : GoodIn wsL_law (wsV RL 45 RX9 yX9_ask wsX9_ask) := goodIn_app (goodIn_of _ (by decide +kernel)) ggL_law_X9_ask
set_option maxRecDepth 20000 in
theorem ggL_law_X10_ask : GoodIn wsL_law wsX10_ask := goodIn_r _ [529, 213, 215, 94, 258, 259, 5, 260, 261, 222, 223, 224, 942, 943, 944, 945, 946, 947, 948, 949, 950, 951, 952, 953, 954, 955, 956, 957, 958, 959, 960, 961, 962, 963, 964, 965, 966, 967, 968, 969, 970, 971] (by decide +kernel) (by decide +kernel)
set_option maxRecDepth 20000 in
theorem gL_law_X10_ask : GoodIn wsL_law (wsV RL 48 RX10 yX10_ask wsX10_ask) := goodIn_app (goodIn_of _ (by decide +kernel)) ggL_law_X10_ask
set_option maxRecDepth 20000 in
theorem ggL_law_X9_drop : GoodIn wsL_law wsX9_drop := goodIn_r _ [533, 184, 24, 491, 32, 185, 394, 492, 493, 494, 2, 495, 113, 931, 932, 933, 934, 935, 936, 937, 938, 939, 940, 941, 978, 979, 982, 983, 984, 985] (by decide +kernel) (by decide +kernel)
set_option maxRecDepth 20000 in
theorem gL_law_X9_drop : GoodIn wsL_law (wsV RL 49 RX9 yX9_drop wsX9_drop) := goodIn_app (goodIn_of _ (by decide +kernel)) ggL_law_X9_drop
set_option maxRecDepth 20000 in
theorem ggL_law_X10_drop : GoodIn wsL_law wsX10_drop := goodIn_r _ [537, 213, 216, 215, 217, 94, 942, 943, 944, 945, 946, 947, 948, 949, 950, 951, 952, 953, 954, 955, 956, 957, 958, 959, 960, 961, 962, 963, 964, 965, 966, 967, 968, 969, 970, 971] (by decide +kernel) (by decide +kernel)
set_option maxRecDepth 20000 in
theorem gL_law_X10_drop : GoodIn wsL_law (wsV RL 52 RX10 yX10_drop wsX10_drop) := goodIn_app (goodIn_of _ (by decide +kernel)) ggL_law_X10_drop
set_option maxRecDepth 20000 in
theorem ggL_law_X9_tale : GoodIn wsL_law wsX9_tale := goodIn_r _ [541, 13, 112, 542, 19, 114, 115, 2, 116, 117, 118, 119, 269, 270, 271, 272, 113, 120, 121, 122, 123, 124, 125, 126, 38, 127, 67, 128, 129, 130, 131, 132, 133, 134, 135, 136, 137, 138, 139, 140, 521, 173, 174, 543, 544, 545, 546, 20, 267, 268, 273, 274, 275, 276, 277, 73, 278, 279, 280, 281, 282, 78, 283, 284, 76, 285, 547, 548, 549, 550, 551, 84, 552, 202, 203, 204, 85, 191, 192, 193, 553, 554, 555, 411, 412, 413, 414, 415, 416, 417, 418, 419, 420, 421, 422, 423, 424, 425, 426, 427, 428, 429, 430, 431, 432, 433, 434, 435, 436, 437, 438, 439, 440, 441, 442, 443, 444, 445, 446, 447, 448, 449, 450, 451, 452, 453, 454, 305, 306, 307, 308, 309, 310, 311, 312, 455, 456, 457, 458, 459, 460, 461, 462, 463, 464, 465, 466, 467, 468, 469, 470, 471, 472, 473, 474, 475, 476, 477, 478, 479, 480, 481, 482, 286, 287, 288, 289, 290, 291, 292, 293, 294, 295, 296, 297, 298, 299, 300, 301, 302, 303, 304, 313, 314, 315, 316, 317, 318, 319, 320, 321, 322, 931, 932, 933, 934, 935, 936, 937, 938, 939, 940, 941, 987, 988, 989, 990, 991, 992, 993, 994, 1000, 1001, 1002, 1003, 1004, 995, 996, 997, 998, 999] (by decide +kernel) (by decide +kernel)
set_option maxRecDepth 20000 in
theorem gL_law_X9_tale : GoodIn wsL_law (wsV RL 53 RX9 yX9_tale wsX9_tale) := goodIn_app (goodIn_of _ (by decide +kernel)) ggL_law_X9_tale
set_option maxRecDepth 20000 in
theorem ggL_law_X10_tale : GoodIn wsL_law wsX10_tale := goodIn_r _ [559, 210, 560, 389, 106, 327, 328, 218, 219, 5, 220, 221, 222, 223, 224, 329, 330, 331, 332, 213, 225, 226, 227, 228, 229, 230, 231, 232, 233, 104, 105, 234, 235, 236, 237, 238, 239, 240, 258, 259, 260, 261, 333, 334, 335, 336, 92, 93, 216, 337, 338, 339, 340, 94, 341, 342, 343, 344, 345, 346, 347, 348, 349, 350, 351, 352, 353, 354, 355, 98, 356, 357, 358, 359, 360, 361, 362, 363, 364, 365, 366, 367, 368, 369, 370, 371, 372, 373, 374, 375, 376, 377, 378, 942, 943, 944, 945, 946, 947, 948, 949, 950, 951, 952, 953, 954, 955, 956, 957, 958, 959, 960, 961, 962, 963, 964, 965, 966, 967, 968, 969, 970, 971] (by decide +kernel) (by decide +kernel)
set_option maxRecDepth 20000 in
theorem gL_law_X10_tale : GoodIn wsL_law (wsV RL 57 RX10 yX10_tale wsX10_tale) := goodIn_app (goodIn_of _ (by decide +kernel)) ggL_law_X10_tale
set_option maxRecDepth 20000 in
theorem ggL_law_X9_misses : GoodIn wsL_law wsX9_misses := goodIn_r _ [564, 269, 270, 271, 2, 272, 113, 117, 118, 119, 565, 566, 567, 568, 24, 491, 19, 273, 274, 275, 276, 277, 73, 278, 279, 280, 281, 282, 78, 283, 284, 76, 285, 569, 570, 571, 572, 20, 394, 186, 187, 188, 189, 190, 85, 191, 192, 193, 194, 195, 196, 411, 412, 413, 414, 415, 84, 416, 417, 418, 419, 420, 421, 422, 423, 424, 425, 426, 427, 428, 429, 430, 431, 432, 433, 434, 435, 436, 437, 438, 439, 440, 441, 442, 443, 444, 445, 446, 447, 448, 449, 450, 451, 452, 453, 454, 305, 306, 307, 308, 309, 310, 311, 312, 455, 456, 457, 458, 459, 460, 461, 462, 463, 464, 465, 466, 467, 468, 469, 470, 471, 472, 473, 474, 475, 476, 477, 478, 479, 480, 481, 482, 573, 574, 575, 576, 577, 578, 579, 931, 932, 933, 934, 935, 936, 937, 938, 939, 940, 941, 978, 979, 990, 991, 992, 993, 994, 1000, 1001, 1002, 1003, 1004, 995, 996, 997, 998, 999] (by decide +kernel) (by decide +kernel)
set_option maxRecDepth 20000 in
theorem gL_law_X9_misses : GoodIn wsL_law (wsV RL 58 RX9 yX9_misses wsX9_misses) := goodIn_app (goodIn_of _ (by decide +kernel)) ggL_law_X9_misses
set_option maxRecDepth 20000 in
theorem ggL_law_X10_misses : GoodIn wsL_law wsX10_misses := goodIn_r _ [583, 584, 329, 330, 331, 5, 332, 213, 222, 223, 224, 585, 586, 587, 588, 92, 215, 327, 337, 338, 339, 340, 94, 341, 342, 343, 344, 345, 346, 347, 328, 348, 349, 350, 351, 352, 353, 354, 355, 98, 356, 357, 358, 359, 360, 361, 362, 363, 364, 365, 366, 367, 368, 369, 370, 942, 943, 944, 945, 946, 947, 948, 949, 950, 951, 952, 953, 954, 955, 956, 957, 958, 959, 960, 961, 962, 963, 964, 965, 966, 967, 968, 969, 970, 971] (by decide +kernel) (by decide +kernel)
set_option maxRecDepth 20000 in
theorem gL_law_X10_misses : GoodIn wsL_law (wsV RL 61 RX10 yX10_misses wsX10_misses) := goodIn_app (goodIn_of _ (by decide +kernel)) ggL_law_X10_misses
set_option maxRecDepth 20000 in
theorem ggL_law_X9_odd : GoodIn wsL_law wsX9_odd := goodIn_r _ [592, 269, 270, 271, 2, 272, 113, 117, 118, 119, 565, 566, 567, 568, 24, 491, 19, 273, 274, 275, 276, 277, 73, 278, 279, 280, 281, 282, 78, 283, 284, 76, 285, 569, 570, 571, 572, 20, 394, 186, 187, 188, 189, 190, 85, 191, 192, 193, 194, 195, 196, 411, 412, 413, 414, 415, 84, 416, 417, 418, 419, 420, 421, 422, 423, 424, 425, 426, 427, 428, 429, 430, 431, 432, 433, 434, 435, 436, 437, 438, 439, 440, 441, 442, 443, 444, 445, 446, 447, 448, 449, 450, 451, 452, 453, 454, 305, 306, 307, 308, 309, 310, 311, 312, 455, 456, 457, 458, 459, 460, 461, 462, 463, 464, 465, 466, 467, 468, 469, 470, 471, 472, 473, 474, 475, 476, 477, 478, 479, 480, 481, 482, 573, 574, 575, 576, 577, 578, 579, 931, 932, 933, 934, 935, 936, 937, 938, 939, 940, 941, 978, 979, 990, 991, 992, 993, 994, 1000, 1001, 1002, 1003, 1004, 995, 996, 997, 998, 999] (by decide +kernel) (by decide +kernel)
set_option maxRecDepth 20000 in
theorem gL_law_X9_odd : GoodIn wsL_law (wsV RL 62 RX9 yX9_odd wsX9_odd) := goodIn_app (goodIn_of _ (by decide +kernel)) ggL_law_X9_odd
set_option maxRecDepth 20000 in
theorem ggL_law_X10_odd : GoodIn wsL_law wsX10_odd := goodIn_r _ [596, 329, 330, 331, 5, 332, 213, 222, 223, 224, 585, 586, 587, 588, 92, 215, 327, 337, 338, 339, 340, 94, 341, 342, 343, 344, 345, 346, 347, 328, 348, 349, 350, 351, 352, 353, 354, 355, 98, 356, 357, 358, 359, 360, 361, 362, 363, 364, 365, 366, 367, 368, 369, 370, 942, 943, 944, 945, 946, 947, 948, 949, 950, 951, 952, 953, 954, 955, 956, 957, 958, 959, 960, 961, 962, 963, 964, 965, 966, 967, 968, 969, 970, 971] (by decide +kernel) (by decide +kernel)
set_option maxRecDepth 20000 in
theorem gL_law_X10_odd : GoodIn wsL_law (wsV RL 65 RX10 yX10_odd wsX10_odd) := goodIn_app (goodIn_of _ (by decide +kernel)) ggL_law_X10_odd
set_option maxRecDepth 20000 in
theorem ggL_law_X9_need : GoodIn wsL_law wsX9_need := goodIn_r _ [600, 269, 270, 271, 2, 272, 113, 117, 118, 119, 565, 566, 567, 568, 24, 491, 19, 273, 274, 275, 276, 277, 73, 278, 279, 280, 281, 282, 78, 283, 284, 76, 285, 569, 570, 571, 572, 20, 394, 186, 187, 188, 189, 190, 85, 191, 192, 193, 194, 195, 196, 411, 412, 413, 414, 415, 84, 416, 417, 418, 419, 420, 421, 422, 423, 424, 425, 426, 427, 428, 429, 430, 431, 432, 433, 434, 435, 436, 437, 438, 439, 440, 441, 442, 443, 444, 445, 446, 447, 448, 449, 450, 451, 452, 453, 454, 305, 306, 307, 308, 309, 310, 311, 312, 455, 456, 457, 458, 459, 460, 461, 462, 463, 464, 465, 466, 467, 468, 469, 470, 471, 472, 473, 474, 475, 476, 477, 478, 479, 480, 481, 482, 573, 574, 575, 576, 577, 578, 579, 931, 932, 933, 934, 935, 936, 937, 938, 939, 940, 941, 978, 979, 990, 991, 992, 993, 994, 1000, 1001, 1002, 1003, 1004, 995, 996, 997, 998, 999] (by decide +kernel) (by decide +kernel)
set_option maxRecDepth 20000 in
theorem gL_law_X9_need : GoodIn wsL_law (wsV RL 66 RX9 yX9_need wsX9_need) := goodIn_app (goodIn_of _ (by decide +kernel)) ggL_law_X9_need
set_option maxRecDepth 20000 in
theorem ggL_law_X10_need : GoodIn wsL_law wsX10_need := goodIn_r _ [604, 504, 329, 330, 331, 5, 332, 213, 222, 223, 224, 585, 586, 587, 588, 92, 215, 327, 337, 338, 339, 340, 94, 341, 342, 343, 344, 345, 346, 347, 328, 348, 349, 350, 351, 352, 353, 354, 355, 98, 356, 357, 358, 359, 360, 361, 362, 363, 364, 365, 366, 367, 368, 369, 370, 942, 943, 944, 945, 946, 947, 948, 949, 950, 951, 952, 953, 954, 955, 956, 957, 958, 959, 960, 961, 962, 963, 964, 965, 966, 967, 968, 969, 970, 971] (by decide +kernel) (by decide +kernel)
set_option maxRecDepth 20000 in
theorem gL_law_X10_need : GoodIn wsL_law (wsV RL 69 RX10 yX10_need wsX10_need) := goodIn_app (goodIn_of _ (by decide +kernel)) ggL_law_X10_need
set_option maxRecDepth 20000 in
theorem ggL_law_X9_fewest : GoodIn wsL_law wsX9_fewest := goodIn_r _ [608, 28, 24, 609, 492, 493, 494, 2, 495, 113, 117, 118, 119, 610, 611, 612, 27, 613, 614, 615, 616, 53, 617, 574, 575, 576, 577, 578, 579, 618, 619, 620, 621, 622, 623, 23, 624, 205, 49, 931, 932, 933, 934, 935, 936, 937, 938, 939, 940, 941, 980, 981, 978, 979] (by decide +kernel) (by decide +kernel)
set_option maxRecDepth 20000 in
theorem gL_law_X9_fewest : GoodIn wsL_law (wsV RL 70 RX9 yX9_fewest wsX9_fewest) := goodIn_app (goodIn_of _ (by decide +kernel)) ggL_law_X9_fewest
set_option maxRecDepth 20000 in
theorem ggL_law_X10_fewest : GoodIn wsL_law wsX10_fewest := goodIn_r _ [628, 213, 584, 99, 215, 100, 94, 222, 223, 5, 224, 629, 630, 631, 632, 368, 369, 370, 633, 634, 635, 636, 637, 638, 639, 942, 943, 944, 945, 946, 947, 948, 949, 950, 951, 952, 953, 954, 955, 956, 957, 958, 959, 960, 961, 962, 963, 964, 965, 966, 967, 968, 969, 970, 971] (by decide +kernel) (by decide +kernel)
set_option maxRecDepth 20000 in
theorem gL_law_X10_fewest : GoodIn wsL_law (wsV RL 73 RX10 yX10_fewest wsX10_fewest) := goodIn_app (goodIn_of _ (by decide +kernel)) ggL_law_X10_fewest
set_option maxRecDepth 20000 in
theorem ggL_law_X9_latest : GoodIn wsL_law wsX9_latest := goodIn_r _ [643, 24, 28, 644, 395, 396, 397, 23, 398, 205, 118, 2, 119, 117, 610, 611, 612, 27, 613, 614, 615, 616, 53, 617, 574, 575, 576, 577, 578, 579, 618, 619, 620, 621, 622, 623, 624, 49, 931, 932, 933, 934, 935, 936, 937, 938, 939, 940, 941, 980, 981, 978, 979] (by decide +kernel) (by decide +kernel)
set_option maxRecDepth 20000 in
theorem gL_law_X9_latest : GoodIn wsL_law (wsV RL 74 RX9 yX9_latest wsX9_latest) := goodIn_app (goodIn_of _ (by decide +kernel)) ggL_law_X9_latest
set_option maxRecDepth 20000 in
theorem ggL_law_X10_latest : GoodIn wsL_law wsX10_latest := goodIn_r _ [648, 584, 94, 403, 404, 405, 5, 406, 215, 222, 223, 224, 368, 369, 370, 637, 638, 639, 649, 650, 651, 652, 653, 654, 655, 656, 942, 943, 944, 945, 946, 947, 948, 949, 950, 951, 952, 953, 954, 955, 956, 957, 958, 959, 960, 961, 962, 963, 964, 965, 966, 967, 968, 969, 970, 971] (by decide +kernel) (by decide +kernel)
set_option maxRecDepth 20000 in
theorem gL_law_X10_latest : GoodIn wsL_law (wsV RL 77 RX10 yX10_latest wsX10_latest) := goodIn_app (goodIn_of _ (by decide +kernel)) ggL_law_X10_latest
set_option maxRecDepth 20000 in
theorem ggL_law_X9_depth : GoodIn wsL_law wsX9_depth := goodIn_r _ [660, 24, 395, 396, 397, 23, 398, 205, 118, 2, 119, 661, 662, 663, 664, 49, 665, 666, 667, 668, 573, 574, 575, 576, 577, 578, 579, 931, 932, 933, 934, 935, 936, 937, 938, 939, 940, 941, 978, 979] (by decide +kernel) (by decide +kernel)
set_option maxRecDepth 20000 in
theorem gL_law_X9_depth : GoodIn wsL_law (wsV RL 78 RX9 yX9_depth wsX9_depth) := goodIn_app (goodIn_of _ (by decide +kernel)) ggL_law_X9_depth
set_option maxRecDepth 20000 in
theorem ggL_law_X10_depth : GoodIn wsL_law wsX10_depth := goodIn_r _ [672, 94, 403, 404, 405, 5, 406, 215, 222, 223, 224, 673, 674, 675, 676, 637, 638, 639, 942, 943, 944, 945, 946, 947, 948, 949, 950, 951, 952, 953, 954, 955, 956, 957, 958, 959, 960, 961, 962, 963, 964, 965, 966, 967, 968, 969, 970, 971] (by decide +kernel) (by decide +kernel)
set_option maxRecDepth 20000 in
theorem gL_law_X10_depth : GoodIn wsL_law (wsV RL 81 RX10 yX10_depth wsX10_depth) := goodIn_app (goodIn_of _ (by decide +kernel)) ggL_law_X10_depth
set_option maxRecDepth 20000 in
theorem ggL_law_X9_work : GoodIn wsL_law wsX9_work := goodIn_r _ [680, 24, 681, 682, 683, 684, 395, 396, 397, 23, 398, 205, 118, 2, 119, 117, 665, 666, 667, 668, 49, 931, 932, 933, 934, 935, 936, 937, 938, 939, 940, 941, 978, 979] (by decide +kernel) (by decide +kernel)
set_option maxRecDepth 20000 in
theorem gL_law_X9_work : GoodIn wsL_law (wsV RL 82 RX9 yX9_work wsX9_work) := goodIn_app (goodIn_of _ (by decide +kernel)) ggL_law_X9_work
set_option maxRecDepth 20000 in
theorem ggL_law_X10_work : GoodIn wsL_law wsX10_work := goodIn_r _ [688, 504, 403, 404, 405, 5, 406, 215, 222, 223, 224, 673, 674, 675, 676, 94, 942, 943, 944, 945, 946, 947, 948, 949, 950, 951, 952, 953, 954, 955, 956, 957, 958, 959, 960, 961, 962, 963, 964, 965, 966, 967, 968, 969, 970, 971] (by decide +kernel) (by decide +kernel)
set_option maxRecDepth 20000 in
theorem gL_law_X10_work : GoodIn wsL_law (wsV RL 85 RX10 yX10_work wsX10_work) := goodIn_app (goodIn_of _ (by decide +kernel)) ggL_law_X10_work
set_option maxRecDepth 20000 in
theorem ggL_law_X9_reading : GoodIn wsL_law wsX9_reading := goodIn_r _ [692, 24, 32, 185, 269, 270, 271, 2, 272, 113, 117, 118, 119, 395, 396, 397, 23, 398, 205, 693, 694, 695, 31, 696, 57, 697, 58, 59, 931, 932, 933, 934, 935, 936, 937, 938, 939, 940, 941, 982, 983, 984, 985, 978, 979] (by decide +kernel) (by decide +kernel)
set_option maxRecDepth 20000 in
theorem gL_law_X9_reading : GoodIn wsL_law (wsV RL 86 RX9 yX9_reading wsX9_reading) := goodIn_app (goodIn_of _ (by decide +kernel)) ggL_law_X9_reading
set_option maxRecDepth 20000 in
theorem ggL_law_X10_reading : GoodIn wsL_law wsX10_reading := goodIn_r _ [701, 217, 101, 102, 103, 329, 330, 331, 5, 332, 213, 222, 223, 224, 403, 404, 405, 406, 215, 942, 943, 944, 945, 946, 947, 948, 949, 950, 951, 952, 953, 954, 955, 956, 957, 958, 959, 960, 961, 962, 963, 964, 965, 966, 967, 968, 969, 970, 971] (by decide +kernel) (by decide +kernel)
set_option maxRecDepth 20000 in
theorem gL_law_X10_reading : GoodIn wsL_law (wsV RL 90 RX10 yX10_reading wsX10_reading) := goodIn_app (goodIn_of _ (by decide +kernel)) ggL_law_X10_reading
set_option maxRecDepth 20000 in
theorem ggL_law_X9_back : GoodIn wsL_law wsX9_back := goodIn_r _ [705, 32, 185, 117, 118, 2, 119, 931, 932, 933, 934, 935, 936, 937, 938, 939, 940, 941, 982, 983, 984, 985] (by decide +kernel) (by decide +kernel)
set_option maxRecDepth 20000 in
theorem gL_law_X9_back : GoodIn wsL_law (wsV RL 91 RX9 yX9_back wsX9_back) := goodIn_app (goodIn_of _ (by decide +kernel)) ggL_law_X9_back
set_option maxRecDepth 20000 in
theorem ggL_law_X10_back : GoodIn wsL_law wsX10_back := goodIn_r _ [709, 217, 222, 223, 5, 224, 942, 943, 944, 945, 946, 947, 948, 949, 950, 951, 952, 953, 954, 955, 956, 957, 958, 959, 960, 961, 962, 963, 964, 965, 966, 967, 968, 969, 970, 971] (by decide +kernel) (by decide +kernel)
set_option maxRecDepth 20000 in
theorem gL_law_X10_back : GoodIn wsL_law (wsV RL 94 RX10 yX10_back wsX10_back) := goodIn_app (goodIn_of _ (by decide +kernel)) ggL_law_X10_back
set_option maxRecDepth 20000 in
theorem ggL_law_X9_sizes : GoodIn wsL_law wsX9_sizes := goodIn_r _ [713, 32, 19, 269, 270, 271, 2, 272, 113, 117, 118, 119, 714, 715, 716, 717, 266, 273, 274, 275, 276, 277, 73, 278, 279, 280, 281, 282, 78, 283, 284, 76, 285, 569, 570, 571, 572, 20, 24, 491, 394, 186, 187, 188, 189, 190, 85, 191, 192, 193, 194, 195, 196, 411, 412, 413, 414, 415, 84, 416, 417, 418, 419, 420, 421, 422, 423, 424, 425, 426, 427, 428, 429, 430, 431, 432, 433, 434, 435, 436, 437, 438, 439, 440, 441, 442, 443, 444, 445, 446, 447, 448, 449, 450, 451, 452, 453, 454, 305, 306, 307, 308, 309, 310, 311, 312, 455, 456, 457, 458, 459, 460, 461, 462, 463, 464, 465, 466, 467, 468, 469, 470, 471, 472, 473, 474, 475, 476, 477, 478, 479, 480, 481, 482, 718, 719, 720, 31, 721, 697, 57, 58, 59, 931, 932, 933, 934, 935, 936, 937, 938, 939, 940, 941, 990, 991, 992, 993, 994, 1000, 1001, 1002, 1003, 1004, 995, 996, 997, 998, 999, 978, 979, 982, 983, 984, 985] (by decide +kernel) (by decide +kernel)
set_option maxRecDepth 20000 in
theorem gL_law_X9_sizes : GoodIn wsL_law (wsV RL 95 RX9 yX9_sizes wsX9_sizes) := goodIn_app (goodIn_of _ (by decide +kernel)) ggL_law_X9_sizes
set_option maxRecDepth 20000 in
theorem ggL_law_X10_sizes : GoodIn wsL_law wsX10_sizes := goodIn_r _ [725, 93, 329, 330, 331, 5, 332, 213, 222, 223, 224, 726, 727, 728, 729, 217, 101, 102, 103, 730, 731, 732, 733, 92, 94, 337, 338, 339, 340, 341, 342, 343, 344, 345, 346, 347, 328, 327, 348, 349, 350, 351, 352, 353, 354, 355, 98, 356, 357, 358, 359, 360, 361, 362, 363, 364, 365, 366, 367, 368, 369, 370, 942, 943, 944, 945, 946, 947, 948, 949, 950, 951, 952, 953, 954, 955, 956, 957, 958, 959, 960, 961, 962, 963, 964, 965, 966, 967, 968, 969, 970, 971] (by decide +kernel) (by decide +kernel)
set_option maxRecDepth 20000 in
theorem gL_law_X10_sizes : GoodIn wsL_law (wsV RL 98 RX10 yX10_sizes wsX10_sizes) := goodIn_app (goodIn_of _ (by decide +kernel)) ggL_law_X10_sizes
set_option maxRecDepth 20000 in
theorem ggL_law_X9_kinds : GoodIn wsL_law wsX9_kinds := goodIn_r _ [737, 32, 19, 266, 269, 270, 271, 2, 272, 113, 117, 118, 119, 714, 715, 716, 717, 273, 274, 275, 276, 277, 73, 278, 279, 280, 281, 282, 78, 283, 284, 76, 285, 569, 570, 571, 572, 20, 24, 491, 394, 186, 187, 188, 189, 190, 85, 191, 192, 193, 194, 195, 196, 411, 412, 413, 414, 415, 84, 416, 417, 418, 419, 420, 421, 422, 423, 424, 425, 426, 427, 428, 429, 430, 431, 432, 433, 434, 435, 436, 437, 438, 439, 440, 441, 442, 443, 444, 445, 446, 447, 448, 449, 450, 451, 452, 453, 454, 305, 306, 307, 308, 309, 310, 311, 312, 455, 456, 457, 458, 459, 460, 461, 462, 463, 464, 465, 466, 467, 468, 469, 470, 471, 472, 473, 474, 475, 476, 477, 478, 479, 480, 481, 482, 718, 719, 720, 31, 721, 697, 57, 58, 59, 931, 932, 933, 934, 935, 936, 937, 938, 939, 940, 941, 990, 991, 992, 993, 994, 1000, 1001, 1002, 1003, 1004, 995, 996, 997, 998, 999, 978, 979, 982, 983, 984, 985] (by decide +kernel) (by decide +kernel)
set_option maxRecDepth 20000 in
theorem gL_law_X9_kinds : GoodIn wsL_law (wsV RL 99 RX9 yX9_kinds wsX9_kinds) := goodIn_app (goodIn_of _ (by decide +kernel)) ggL_law_X9_kinds
set_option maxRecDepth 20000 in
theorem ggL_law_X10_kinds : GoodIn wsL_law wsX10_kinds := goodIn_r _ [741, 92, 329, 330, 331, 5, 332, 213, 222, 223, 224, 726, 727, 728, 729, 217, 101, 102, 103, 730, 731, 732, 733, 93, 94, 337, 338, 339, 340, 341, 342, 343, 344, 345, 346, 347, 328, 327, 348, 349, 350, 351, 352, 353, 354, 355, 98, 356, 357, 358, 359, 360, 361, 362, 363, 364, 365, 366, 367, 368, 369, 370, 942, 943, 944, 945, 946, 947, 948, 949, 950, 951, 952, 953, 954, 955, 956, 957, 958, 959, 960, 961, 962, 963, 964, 965, 966, 967, 968, 969, 970, 971] (by decide +kernel) (by decide +kernel)
set_option maxRecDepth 20000 in
theorem gL_law_X10_kinds : GoodIn wsL_law (wsV RL 102 RX10 yX10_kinds wsX10_kinds) := goodIn_app (goodIn_of _ (by decide +kernel)) ggL_law_X10_kinds
set_option maxRecDepth 20000 in
theorem ggL_law_X9_odds : GoodIn wsL_law wsX9_odds := goodIn_r _ [745, 746, 19, 383, 747, 269, 270, 271, 2, 272, 113, 117, 118, 119, 748, 749, 750, 751, 752, 683, 753, 931, 932, 933, 934, 935, 936, 937, 938, 939, 940, 941, 990, 991, 992, 993, 994, 1000, 1001, 1002, 1003, 1004, 995, 996, 997, 998, 999] (by decide +kernel) (by decide +kernel)
set_option maxRecDepth 20000 in
theorem gL_law_X9_odds : GoodIn wsL_law (wsV RL 103 RX9 yX9_odds wsX9_odds) := goodIn_app (goodIn_of _ (by decide +kernel)) ggL_law_X9_odds
set_option maxRecDepth 20000 in
theorem ggL_law_X10_odds : GoodIn wsL_law wsX10_odds := goodIn_r _ [757, 221, 347, 584, 329, 330, 331, 5, 332, 213, 222, 223, 224, 758, 759, 760, 761, 333, 334, 335, 336, 92, 93, 216, 337, 338, 339, 340, 94, 341, 342, 343, 344, 345, 346, 328, 327, 348, 349, 350, 351, 352, 353, 354, 355, 98, 356, 357, 358, 359, 360, 361, 362, 363, 364, 365, 366, 367, 368, 369, 370, 762, 763, 764, 942, 943, 944, 945, 946, 947, 948, 949, 950, 951, 952, 953, 954, 955, 956, 957, 958, 959, 960, 961, 962, 963, 964, 965, 966, 967, 968, 969, 970, 971] (by decide +kernel) (by decide +kernel)
set_option maxRecDepth 20000 in
theorem gL_law_X10_odds : GoodIn wsL_law (wsV RL 107 RX10 yX10_odds wsX10_odds) := goodIn_app (goodIn_of _ (by decide +kernel)) ggL_law_X10_odds
set_option maxRecDepth 20000 in
theorem ggL_law_X9_sheet : GoodIn wsL_law wsX9_sheet := goodIn_r _ [768, 112, 13, 114, 115, 2, 116, 117, 118, 119, 120, 121, 122, 123, 137, 138, 139, 140, 769, 770, 771, 38, 772, 67, 136, 66, 931, 932, 933, 934, 935, 936, 937, 938, 939, 940, 941, 987, 988, 989] (by decide +kernel) (by decide +kernel)
set_option maxRecDepth 20000 in
theorem gL_law_X9_sheet : GoodIn wsL_law (wsV RL 108 RX9 yX9_sheet wsX9_sheet) := goodIn_app (goodIn_of _ (by decide +kernel)) ggL_law_X9_sheet
set_option maxRecDepth 20000 in
theorem ggL_law_X10_sheet : GoodIn wsL_law wsX10_sheet := goodIn_r _ [776, 210, 104, 105, 106, 218, 219, 5, 220, 221, 222, 223, 224, 225, 226, 227, 228, 229, 234, 235, 236, 237, 942, 943, 944, 945, 946, 947, 948, 949, 950, 951, 952, 953, 954, 955, 956, 957, 958, 959, 960, 961, 962, 963, 964, 965, 966, 967, 968, 969, 970, 971] (by decide +kernel) (by decide +kernel)
set_option maxRecDepth 20000 in
theorem gL_law_X10_sheet : GoodIn wsL_law (wsV RL 111 RX10 yX10_sheet wsX10_sheet) := goodIn_app (goodIn_of _ (by decide +kernel)) ggL_law_X10_sheet
set_option maxRecDepth 20000 in
theorem ggL_law_X9_lose : GoodIn wsL_law wsX9_lose := goodIn_r _ [780, 13, 781, 114, 115, 2, 116, 117, 118, 119, 782, 129, 130, 38, 131, 67, 931, 932, 933, 934, 935, 936, 937, 938, 939, 940, 941, 987, 988, 989] (by decide +kernel) (by decide +kernel)
set_option maxRecDepth 20000 in
theorem gL_law_X9_lose : GoodIn wsL_law (wsV RL 112 RX9 yX9_lose wsX9_lose) := goodIn_app (goodIn_of _ (by decide +kernel)) ggL_law_X9_lose
set_option maxRecDepth 20000 in
theorem ggL_law_X10_lose : GoodIn wsL_law wsX10_lose := goodIn_r _ [786, 104, 218, 219, 5, 220, 221, 222, 223, 224, 942, 943, 944, 945, 946, 947, 948, 949, 950, 951, 952, 953, 954, 955, 956, 957, 958, 959, 960, 961, 962, 963, 964, 965, 966, 967, 968, 969, 970, 971] (by decide +kernel) (by decide +kernel)
set_option maxRecDepth 20000 in
theorem gL_law_X10_lose : GoodIn wsL_law (wsV RL 115 RX10 yX10_lose wsX10_lose) := goodIn_app (goodIn_of _ (by decide +kernel)) ggL_law_X10_lose
set_option maxRecDepth 20000 in
theorem ggL_law_X9_put : GoodIn wsL_law wsX9_put := goodIn_r _ [790, 13, 112, 542, 114, 115, 2, 116, 117, 118, 119, 120, 121, 122, 123, 782, 129, 130, 38, 131, 67, 137, 138, 139, 140, 132, 133, 134, 135, 136, 791, 792, 793, 794, 931, 932, 933, 934, 935, 936, 937, 938, 939, 940, 941, 987, 988, 989] (by decide +kernel) (by decide +kernel)
set_option maxRecDepth 20000 in
theorem gL_law_X9_put : GoodIn wsL_law (wsV RL 116 RX9 yX9_put wsX9_put) := goodIn_app (goodIn_of _ (by decide +kernel)) ggL_law_X9_put
set_option maxRecDepth 20000 in
theorem ggL_law_X10_put : GoodIn wsL_law wsX10_put := goodIn_r _ [798, 106, 105, 218, 219, 5, 220, 221, 222, 223, 224, 225, 226, 227, 228, 229, 799, 800, 801, 802, 104, 234, 235, 236, 237, 942, 943, 944, 945, 946, 947, 948, 949, 950, 951, 952, 953, 954, 955, 956, 957, 958, 959, 960, 961, 962, 963, 964, 965, 966, 967, 968, 969, 970, 971] (by decide +kernel) (by decide +kernel)
set_option maxRecDepth 20000 in
theorem gL_law_X10_put : GoodIn wsL_law (wsV RL 119 RX10 yX10_put wsX10_put) := goodIn_app (goodIn_of _ (by decide +kernel)) ggL_law_X10_put
set_option maxRecDepth 20000 in
theorem ggL_law_X9_cell : GoodIn wsL_law wsX9_cell := goodIn_r _ [806, 112, 746, 13, 542, 114, 115, 2, 116, 117, 118, 119, 124, 125, 126, 38, 127, 67, 128, 129, 130, 131, 132, 133, 134, 135, 136, 931, 932, 933, 934, 935, 936, 937, 938, 939, 940, 941, 987, 988, 989] (by decide +kernel) (by decide +kernel)
set_option maxRecDepth 20000 in
theorem gL_law_X9_cell : GoodIn wsL_law (wsV RL 120 RX9 yX9_cell wsX9_cell) := goodIn_app (goodIn_of _ (by decide +kernel)) ggL_law_X9_cell
set_option maxRecDepth 20000 in
theorem ggL_law_X10_cell : GoodIn wsL_law wsX10_cell := goodIn_r _ [810, 229, 210, 104, 105, 106, 218, 219, 5, 220, 221, 222, 223, 224, 758, 759, 760, 761, 811, 812, 813, 814, 799, 800, 801, 802, 942, 943, 944, 945, 946, 947, 948, 949, 950, 951, 952, 953, 954, 955, 956, 957, 958, 959, 960, 961, 962, 963, 964, 965, 966, 967, 968, 969, 970, 971] (by decide +kernel) (by decide +kernel)
set_option maxRecDepth 20000 in
theorem gL_law_X10_cell : GoodIn wsL_law (wsV RL 123 RX10 yX10_cell wsX10_cell) := goodIn_app (goodIn_of _ (by decide +kernel)) ggL_law_X10_cell
set_option maxRecDepth 20000 in
theorem ggL_law_X9_copy : GoodIn wsL_law wsX9_copy := goodIn_r _ [818, 13, 781, 112, 542, 819, 202, 203, 204, 114, 115, 2, 116, 117, 118, 119, 120, 121, 122, 123, 782, 129, 130, 38, 131, 67, 137, 138, 139, 140, 132, 133, 134, 135, 136, 931, 932, 933, 934, 935, 936, 937, 938, 939, 940, 941, 987, 988, 989] (by decide +kernel) (by decide +kernel)
set_option maxRecDepth 20000 in
theorem gL_law_X9_copy : GoodIn wsL_law (wsV RL 124 RX9 yX9_copy wsX9_copy) := goodIn_app (goodIn_of _ (by decide +kernel)) ggL_law_X9_copy
set_option maxRecDepth 20000 in
theorem ggL_law_X10_copy : GoodIn wsL_law wsX10_copy := goodIn_r _ [823, 104, 105, 107, 106, 218, 219, 5, 220, 221, 222, 223, 224, 225, 226, 227, 228, 229, 234, 235, 236, 237, 238, 239, 240, 942, 943, 944, 945, 946, 947, 948, 949, 950, 951, 952, 953, 954, 955, 956, 957, 958, 959, 960, 961, 962, 963, 964, 965, 966, 967, 968, 969, 970, 971] (by decide +kernel) (by decide +kernel)
set_option maxRecDepth 20000 in
theorem gL_law_X10_copy : GoodIn wsL_law (wsV RL 128 RX10 yX10_copy wsX10_copy) := goodIn_app (goodIn_of _ (by decide +kernel)) ggL_law_X10_copy
set_option maxRecDepth 20000 in
theorem ggL_law_X9_tell : GoodIn wsL_law wsX9_tell := goodIn_r _ [827, 19, 36, 269, 270, 271, 2, 272, 113, 117, 118, 119, 828, 829, 830, 831, 832, 73, 833, 834, 835, 836, 35, 837, 838, 839, 840, 841, 842, 78, 843, 85, 844, 845, 846, 847, 848, 849, 850, 851, 852, 853, 854, 855, 856, 857, 76, 858, 859, 860, 861, 443, 862, 863, 864, 931, 932, 933, 934, 935, 936, 937, 938, 939, 940, 941, 986, 990, 991, 992, 993, 994, 1000, 1001, 1002, 1003, 1004, 995, 996, 997, 998, 999] (by decide +kernel) (by decide +kernel)
set_option maxRecDepth 20000 in
theorem gL_law_X9_tell : GoodIn wsL_law (wsV RL 129 RX9 yX9_tell wsX9_tell) := goodIn_app (goodIn_of _ (by decide +kernel)) ggL_law_X9_tell
set_option maxRecDepth 20000 in
theorem ggL_law_X10_tell : GoodIn wsL_law wsX10_tell := goodIn_r _ [868, 92, 93, 329, 330, 331, 5, 332, 213, 222, 223, 224, 869, 870, 871, 872, 873, 942, 943, 944, 945, 946, 947, 948, 949, 950, 951, 952, 953, 954, 955, 956, 957, 958, 959, 960, 961, 962, 963, 964, 965, 966, 967, 968, 969, 970, 971] (by decide +kernel) (by decide +kernel)
set_option maxRecDepth 20000 in
theorem gL_law_X10_tell : GoodIn wsL_law (wsV RL 132 RX10 yX10_tell wsX10_tell) := goodIn_app (goodIn_of _ (by decide +kernel)) ggL_law_X10_tell
set_option maxRecDepth 20000 in
theorem ggL_law_X9_tally : GoodIn wsL_law wsX9_tally := goodIn_r _ [877, 19, 36, 269, 270, 271, 2, 272, 113, 117, 118, 119, 878, 879, 880, 881, 78, 882, 193, 844, 835, 836, 35, 837, 838, 883, 884, 885, 886, 887, 76, 888, 859, 931, 932, 933, 934, 935, 936, 937, 938, 939, 940, 941, 990, 991, 992, 993, 994, 1000, 1001, 1002, 1003, 1004, 995, 996, 997, 998, 999, 986] (by decide +kernel) (by decide +kernel)
set_option maxRecDepth 20000 in
theorem gL_law_X9_tally : GoodIn wsL_law (wsV RL 133 RX9 yX9_tally wsX9_tally) := goodIn_app (goodIn_of _ (by decide +kernel)) ggL_law_X9_tally
set_option maxRecDepth 20000 in
theorem ggL_law_X10_tally : GoodIn wsL_law wsX10_tally := goodIn_r _ [892, 92, 327, 329, 330, 331, 5, 332, 213, 222, 223, 224, 869, 870, 871, 872, 873, 333, 334, 335, 336, 93, 216, 337, 338, 339, 340, 94, 341, 342, 343, 344, 345, 346, 347, 328, 348, 349, 350, 351, 352, 353, 354, 355, 98, 356, 357, 358, 359, 360, 361, 362, 363, 364, 365, 366, 367, 368, 369, 370, 942, 943, 944, 945, 946, 947, 948, 949, 950, 951, 952, 953, 954, 955, 956, 957, 958, 959, 960, 961, 962, 963, 964, 965, 966, 967, 968, 969, 970, 971] (by decide +kernel) (by decide +kernel)
set_option maxRecDepth 20000 in
theorem gL_law_X10_tally : GoodIn wsL_law (wsV RL 136 RX10 yX10_tally wsX10_tally) := goodIn_app (goodIn_of _ (by decide +kernel)) ggL_law_X10_tally
set_option maxRecDepth 20000 in
theorem ggL_law_X9_as : GoodIn wsL_law wsX9_as := goodIn_r _ [896, 19, 112, 269, 270, 271, 2, 272, 113, 117, 118, 119, 120, 121, 122, 123, 897, 898, 899, 900, 901, 137, 138, 139, 140, 931, 932, 933, 934, 935, 936, 937, 938, 939, 940, 941] (by decide +kernel) (by decide +kernel)
set_option maxRecDepth 20000 in
theorem gL_law_X9_as : GoodIn wsL_law (wsV RL 137 RX9 yX9_as wsX9_as) := goodIn_app (goodIn_of _ (by decide +kernel)) ggL_law_X9_as
