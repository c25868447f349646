theorem goodIn_app {big a b : List Cond} (ha : GoodIn big a) (hb : GoodIn big b) : GoodIn big (a ++ b) := fun w h => (List.mem_append.mp h).elim (ha w) (hb w)
theorem goodIn_ca {big a b : List Cond} {c : Cond} (ha : GoodIn big (c :: a)) (hb : GoodIn big b) : GoodIn big (c :: (a ++ b)) := fun w h => (List.mem_cons.mp h).elim (fun e => ha w (List.mem_cons.mpr (Or.inl e))) (fun h => (List.mem_append.mp h).elim (fun h => ha w (List.mem_cons.mpr (Or.inr h))) (hb w))
theorem goodIn_sub {big ws : List Cond} (hm : ∀ w ∈ ws, w ∈ big) (h : ws.all goodWord = true) : GoodIn big ws := fun w hw => ⟨hm w hw, good_of_word (List.all_eq_true.mp h w hw)⟩
set_option maxRecDepth 20000 in
theorem ggX0_init_X3_init : GoodIn wsX0_init wsX3_init := goodIn_r _ [3, 4, 5, 6, 7, 8, 9, 10, 11, 12, 13, 14, 15, 16, 17, 18, 19, 20, 21, 22, 23, 24] (by decide +kernel) (by decide +kernel)
set_option maxRecDepth 20000 in
theorem gX0_init_X3_init_n3 : GoodIn wsX0_init (wsX3_init) := ggX0_init_X3_init
set_option maxRecDepth 20000 in
theorem ggX0_spareUsed_X3_isUsed : GoodIn wsX0_spareUsed wsX3_isUsed := goodIn_r _ [12, 13, 14, 23, 24, 25, 26, 27, 28, 29, 30, 31, 32, 33, 34, 35, 36, 37] (by decide +kernel) (by decide +kernel)
set_option maxRecDepth 20000 in
theorem gX0_spareUsed_X3_isUsed_u22X0 : GoodIn wsX0_spareUsed (va_wsU RX0 22 RX0 "PageDesks$Queue" ⟨"PageDesks$Chance", "isUsed", "(I)Z"⟩ yX3_isUsed wsX3_isUsed) := goodIn_app (goodIn_of _ (by decide +kernel)) ggX0_spareUsed_X3_isUsed
set_option maxRecDepth 20000 in
theorem gX0_spareUsed_X3_isUsed_u22X5 : GoodIn wsX0_spareUsed (va_wsU RX0 22 RX5 "PageDesks$Queue" ⟨"PageDesks$Chance", "isUsed", "(I)Z"⟩ yX3_isUsed wsX3_isUsed) := goodIn_app (goodIn_of _ (by decide +kernel)) ggX0_spareUsed_X3_isUsed
set_option maxRecDepth 20000 in
theorem ggX0_spareUsed_X3_lieBehindAll : GoodIn wsX0_spareUsed wsX3_lieBehindAll := goodIn_r _ [20, 14, 21, 23, 24, 25, 26, 27, 28, 29, 30, 31, 32, 33, 34, 35, 36, 37] (by decide +kernel) (by decide +kernel)
set_option maxRecDepth 20000 in
theorem gX0_spareUsed_X3_lieBehindAll_u26X0 : GoodIn wsX0_spareUsed (va_wsU RX0 26 RX0 "PageDesks$Queue" ⟨"PageDesks$Chance", "lieBehindAll", "(I)V"⟩ yX3_lieBehindAll wsX3_lieBehindAll) := goodIn_app (goodIn_of _ (by decide +kernel)) ggX0_spareUsed_X3_lieBehindAll
set_option maxRecDepth 20000 in
theorem gX0_spareUsed_X3_lieBehindAll_u26X5 : GoodIn wsX0_spareUsed (va_wsU RX0 26 RX5 "PageDesks$Queue" ⟨"PageDesks$Chance", "lieBehindAll", "(I)V"⟩ yX3_lieBehindAll wsX3_lieBehindAll) := goodIn_app (goodIn_of _ (by decide +kernel)) ggX0_spareUsed_X3_lieBehindAll
set_option maxRecDepth 20000 in
theorem ggX0_placeToGo_X3_isUsed : GoodIn wsX0_placeToGo wsX3_isUsed := goodIn_r _ [8, 9, 10, 12, 13, 14, 15, 16, 17, 18, 19, 20, 21, 22, 23, 24, 25, 26] (by decide +kernel) (by decide +kernel)
set_option maxRecDepth 20000 in
theorem gX0_placeToGo_X3_isUsed_u22X0 : GoodIn wsX0_placeToGo (va_wsU RX0 22 RX0 "PageDesks$Queue" ⟨"PageDesks$Chance", "isUsed", "(I)Z"⟩ yX3_isUsed wsX3_isUsed) := goodIn_app (goodIn_of _ (by decide +kernel)) ggX0_placeToGo_X3_isUsed
set_option maxRecDepth 20000 in
theorem gX0_placeToGo_X3_isUsed_u22X5 : GoodIn wsX0_placeToGo (va_wsU RX0 22 RX5 "PageDesks$Queue" ⟨"PageDesks$Chance", "isUsed", "(I)Z"⟩ yX3_isUsed wsX3_isUsed) := goodIn_app (goodIn_of _ (by decide +kernel)) ggX0_placeToGo_X3_isUsed
set_option maxRecDepth 20000 in
theorem ggX0_telling_X8_leave : GoodIn wsX0_telling wsX8_leave := goodIn_r _ [5, 6, 16] (by decide +kernel) (by decide +kernel)
set_option maxRecDepth 20000 in
theorem gX0_telling_X8_leave : GoodIn wsX0_telling (wsV RX0 30 RX8 yX8_leave wsX8_leave) := goodIn_app (goodIn_of _ (by decide +kernel)) ggX0_telling_X8_leave
set_option maxRecDepth 20000 in
theorem ggX0_telling_X3_queueTelling : GoodIn wsX0_telling wsX3_queueTelling := goodIn_r _ [12, 13, 14, 2, 3, 4, 5, 6, 17, 18, 19, 20, 21, 22, 23, 24, 25, 26, 27, 28, 29, 30, 31, 16] (by decide +kernel) (by decide +kernel)
set_option maxRecDepth 20000 in
theorem gX0_telling_X3_queueTelling_u35X0 : GoodIn wsX0_telling (va_wsU RX0 35 RX0 "PageDesks$Queue" ⟨"PageDesks$Chance", "queueTelling", "(LPageDesks$Trace;)I"⟩ yX3_queueTelling wsX3_queueTelling) := goodIn_app (goodIn_of _ (by decide +kernel)) ggX0_telling_X3_queueTelling
set_option maxRecDepth 20000 in
theorem gX0_telling_X3_queueTelling_u35X5 : GoodIn wsX0_telling (va_wsU RX0 35 RX5 "PageDesks$Queue" ⟨"PageDesks$Chance", "queueTelling", "(LPageDesks$Trace;)I"⟩ yX3_queueTelling wsX3_queueTelling) := goodIn_app (goodIn_of _ (by decide +kernel)) ggX0_telling_X3_queueTelling
set_option maxRecDepth 20000 in
theorem ggX1_follow_J6_bitCount_0f7a4 : GoodIn wsX1_follow wsJ6_bitCount_0f7a4 := goodIn_r _ [8, 9, 10, 11] (by decide +kernel) (by decide +kernel)
set_option maxRecDepth 20000 in
theorem gX1_follow_J6_bitCount_0f7a4 : GoodIn wsX1_follow (va_wsS RX1 27 yJ6_bitCount_0f7a4 wsJ6_bitCount_0f7a4) := goodIn_app (goodIn_of _ (by decide +kernel)) ggX1_follow_J6_bitCount_0f7a4
set_option maxRecDepth 20000 in
theorem ggX1_follow_X1_latestOf : GoodIn wsX1_follow wsX1_latestOf := goodIn_r _ [15, 16, 17, 18, 19, 20, 21, 22, 25, 26] (by decide +kernel) (by decide +kernel)
set_option maxRecDepth 20000 in
theorem gX1_follow_X1_latestOf : GoodIn wsX1_follow (va_wsS RX1 33 yX1_latestOf wsX1_latestOf) := goodIn_app (goodIn_of _ (by decide +kernel)) ggX1_follow_X1_latestOf
set_option maxRecDepth 20000 in
theorem ggX1_latestOf_X2_nextOf : GoodIn wsX1_latestOf wsX2_nextOf := goodIn_r _ [5, 6, 7, 8, 9] (by decide +kernel) (by decide +kernel)
set_option maxRecDepth 20000 in
theorem gX1_latestOf_X2_nextOf : GoodIn wsX1_latestOf (wsV RX1 37 RX2 yX2_nextOf wsX2_nextOf) := goodIn_app (goodIn_of _ (by decide +kernel)) ggX1_latestOf_X2_nextOf
set_option maxRecDepth 20000 in
theorem ggX2_has_X9_isWithin : GoodIn wsX2_has wsX9_isWithin := goodIn_r _ [4] (by decide +kernel) (by decide +kernel)
set_option maxRecDepth 20000 in
theorem gX2_has_X9_isWithin_n25 : GoodIn wsX2_has (wsX9_isWithin) := ggX2_has_X9_isWithin
set_option maxRecDepth 20000 in
theorem ggX3_serve_X3_placeOf : GoodIn wsX3_serve wsX3_placeOf := goodIn_r _ [10, 2, 4, 81, 82, 83, 84, 85, 86, 87, 88, 89, 90, 91, 92, 93, 94, 95] (by decide +kernel) (by decide +kernel)
set_option maxRecDepth 20000 in
theorem gX3_serve_X3_placeOf_u34X0 : GoodIn wsX3_serve (va_wsU RX3 34 RX0 "PageDesks$Queue" ⟨"PageDesks$Queue", "placeOf", "(I)I"⟩ yX3_placeOf wsX3_placeOf) := goodIn_app (goodIn_of _ (by decide +kernel)) ggX3_serve_X3_placeOf
set_option maxRecDepth 20000 in
theorem gX3_serve_X3_placeOf : GoodIn wsX3_serve (wsV RX3 34 RX3 yX3_placeOf wsX3_placeOf) := goodIn_app (goodIn_of _ (by decide +kernel)) ggX3_serve_X3_placeOf
set_option maxRecDepth 20000 in
theorem gX3_serve_X3_placeOf_u34X5 : GoodIn wsX3_serve (va_wsU RX3 34 RX5 "PageDesks$Queue" ⟨"PageDesks$Queue", "placeOf", "(I)I"⟩ yX3_placeOf wsX3_placeOf) := goodIn_app (goodIn_of _ (by decide +kernel)) ggX3_serve_X3_placeOf
set_option maxRecDepth 20000 in
theorem ggX3_serve_X0_use : GoodIn wsX3_serve wsX0_use := goodIn_r _ [20, 21, 22, 23, 24, 81, 82, 83, 84, 85, 86, 87, 88, 89, 90, 91, 92, 93, 94, 95] (by decide +kernel) (by decide +kernel)
set_option maxRecDepth 20000 in
theorem gX3_serve_X0_use_u38X0 : GoodIn wsX3_serve (va_wsO RX3 38 RX0 "PageDesks$Queue" ⟨"PageDesks$Queue", "use", "(I)V"⟩ yX0_use wsX0_use) := goodIn_app (goodIn_of _ (by decide +kernel)) ggX3_serve_X0_use
set_option maxRecDepth 20000 in
theorem ggX3_serve_X3_use : GoodIn wsX3_serve wsX3_use := goodIn_r _ [25] (by decide +kernel) (by decide +kernel)
set_option maxRecDepth 20000 in
theorem gX3_serve_X3_use : GoodIn wsX3_serve (wsV RX3 38 RX3 yX3_use wsX3_use) := goodIn_app (goodIn_of _ (by decide +kernel)) ggX3_serve_X3_use
set_option maxRecDepth 20000 in
theorem ggX3_serve_X5_use : GoodIn wsX3_serve wsX5_use := goodIn_r _ [32, 33, 34, 35, 18, 19, 20, 21, 22, 23, 24, 36, 37, 38, 39, 9, 40, 4, 2, 81, 82, 83, 84, 85, 86, 87, 88, 89, 90, 91, 92, 93, 94, 95] (by decide +kernel) (by decide +kernel)
set_option maxRecDepth 20000 in
theorem gX3_serve_X5_use_u38X5 : GoodIn wsX3_serve (va_wsO RX3 38 RX5 "PageDesks$Queue" ⟨"PageDesks$Queue", "use", "(I)V"⟩ yX5_use wsX5_use) := goodIn_app (goodIn_of _ (by decide +kernel)) ggX3_serve_X5_use
set_option maxRecDepth 20000 in
theorem ggX3_serve_X0_spareUsed : GoodIn wsX3_serve wsX0_spareUsed := goodIn_r _ [46, 47, 48, 21, 22, 23, 24, 49, 50, 51, 52, 9, 53, 54, 4, 55, 56, 57, 58, 39, 40, 2, 59, 81, 82, 83, 84, 85, 86, 87, 88, 89, 90, 91, 92, 93, 94, 95] (by decide +kernel) (by decide +kernel)
set_option maxRecDepth 20000 in
theorem gX3_serve_X0_spareUsed_u42X0 : GoodIn wsX3_serve (va_wsO RX3 42 RX0 "PageDesks$Queue" ⟨"PageDesks$Queue", "spareUsed", "()V"⟩ yX0_spareUsed wsX0_spareUsed) := goodIn_app (goodIn_of _ (by decide +kernel)) ggX3_serve_X0_spareUsed
set_option maxRecDepth 20000 in
theorem ggX3_serve_X3_spareUsed : GoodIn wsX3_serve wsX3_spareUsed := goodIn_r _ [60] (by decide +kernel) (by decide +kernel)
set_option maxRecDepth 20000 in
theorem gX3_serve_X3_spareUsed : GoodIn wsX3_serve (wsV RX3 42 RX3 yX3_spareUsed wsX3_spareUsed) := goodIn_app (goodIn_of _ (by decide +kernel)) ggX3_serve_X3_spareUsed
set_option maxRecDepth 20000 in
theorem ggX3_serve_X5_spareUsed : GoodIn wsX3_serve wsX5_spareUsed := goodIn_r _ [66] (by decide +kernel) (by decide +kernel)
set_option maxRecDepth 20000 in
theorem gX3_serve_X5_spareUsed_u42X5 : GoodIn wsX3_serve (va_wsO RX3 42 RX5 "PageDesks$Queue" ⟨"PageDesks$Queue", "spareUsed", "()V"⟩ yX5_spareUsed wsX5_spareUsed) := goodIn_app (goodIn_of _ (by decide +kernel)) ggX3_serve_X5_spareUsed
set_option maxRecDepth 20000 in
theorem ggX3_serve_X3_letFirstGo : GoodIn wsX3_serve wsX3_letFirstGo := goodIn_r _ [71, 54, 4, 2, 72, 73, 74, 39, 9, 40, 75, 76, 77, 81, 82, 83, 84, 85, 86, 87, 88, 89, 90, 91, 92, 93, 94, 95] (by decide +kernel) (by decide +kernel)
set_option maxRecDepth 20000 in
theorem gX3_serve_X3_letFirstGo_u45X0 : GoodIn wsX3_serve (va_wsU RX3 45 RX0 "PageDesks$Queue" ⟨"PageDesks$Queue", "letFirstGo", "()V"⟩ yX3_letFirstGo wsX3_letFirstGo) := goodIn_app (goodIn_of _ (by decide +kernel)) ggX3_serve_X3_letFirstGo
set_option maxRecDepth 20000 in
theorem gX3_serve_X3_letFirstGo : GoodIn wsX3_serve (wsV RX3 45 RX3 yX3_letFirstGo wsX3_letFirstGo) := goodIn_app (goodIn_of _ (by decide +kernel)) ggX3_serve_X3_letFirstGo
set_option maxRecDepth 20000 in
theorem gX3_serve_X3_letFirstGo_u45X5 : GoodIn wsX3_serve (va_wsU RX3 45 RX5 "PageDesks$Queue" ⟨"PageDesks$Queue", "letFirstGo", "()V"⟩ yX3_letFirstGo wsX3_letFirstGo) := goodIn_app (goodIn_of _ (by decide +kernel)) ggX3_serve_X3_letFirstGo
set_option maxRecDepth 20000 in
theorem ggX3_nextToGo_X0_placeToGo : GoodIn wsX3_nextToGo wsX0_placeToGo := goodIn_r _ [10, 11, 12, 13, 14, 15, 16, 17, 18, 19, 3, 20, 29, 30, 31, 32, 33, 34, 35, 36, 37, 38, 39, 40, 41, 42, 43] (by decide +kernel) (by decide +kernel)
set_option maxRecDepth 20000 in
theorem gX3_nextToGo_X0_placeToGo_u48X0 : GoodIn wsX3_nextToGo (va_wsO RX3 48 RX0 "PageDesks$Queue" ⟨"PageDesks$Queue", "placeToGo", "()I"⟩ yX0_placeToGo wsX0_placeToGo) := goodIn_app (goodIn_of _ (by decide +kernel)) ggX3_nextToGo_X0_placeToGo
set_option maxRecDepth 20000 in
theorem ggX3_nextToGo_X3_placeToGo : GoodIn wsX3_nextToGo wsX3_placeToGo := goodIn_r _ [21] (by decide +kernel) (by decide +kernel)
set_option maxRecDepth 20000 in
theorem gX3_nextToGo_X3_placeToGo : GoodIn wsX3_nextToGo (wsV RX3 48 RX3 yX3_placeToGo wsX3_placeToGo) := goodIn_app (goodIn_of _ (by decide +kernel)) ggX3_nextToGo_X3_placeToGo
set_option maxRecDepth 20000 in
theorem ggX3_nextToGo_X5_placeToGo : GoodIn wsX3_nextToGo wsX5_placeToGo := goodIn_r _ [28] (by decide +kernel) (by decide +kernel)
set_option maxRecDepth 20000 in
theorem gX3_nextToGo_X5_placeToGo_u48X5 : GoodIn wsX3_nextToGo (va_wsO RX3 48 RX5 "PageDesks$Queue" ⟨"PageDesks$Queue", "placeToGo", "()I"⟩ yX5_placeToGo wsX5_placeToGo) := goodIn_app (goodIn_of _ (by decide +kernel)) ggX3_nextToGo_X5_placeToGo
set_option maxRecDepth 20000 in
theorem ggX3_telling_X3_queueTelling : GoodIn wsX3_telling wsX3_queueTelling := goodIn_r _ [6, 7, 8, 9, 10, 11, 12, 13, 17, 18, 19, 20, 21, 22, 23, 24, 25, 26, 27, 28, 29, 30, 31, 32] (by decide +kernel) (by decide +kernel)
set_option maxRecDepth 20000 in
theorem gX3_telling_X3_queueTelling_u52X0 : GoodIn wsX3_telling (va_wsU RX3 52 RX0 "PageDesks$Queue" ⟨"PageDesks$Queue", "queueTelling", "(LPageDesks$Trace;)I"⟩ yX3_queueTelling wsX3_queueTelling) := goodIn_app (goodIn_of _ (by decide +kernel)) ggX3_telling_X3_queueTelling
set_option maxRecDepth 20000 in
theorem gX3_telling_X3_queueTelling : GoodIn wsX3_telling (wsV RX3 52 RX3 yX3_queueTelling wsX3_queueTelling) := goodIn_app (goodIn_of _ (by decide +kernel)) ggX3_telling_X3_queueTelling
set_option maxRecDepth 20000 in
theorem gX3_telling_X3_queueTelling_u52X5 : GoodIn wsX3_telling (va_wsU RX3 52 RX5 "PageDesks$Queue" ⟨"PageDesks$Queue", "queueTelling", "(LPageDesks$Trace;)I"⟩ yX3_queueTelling wsX3_queueTelling) := goodIn_app (goodIn_of _ (by decide +kernel)) ggX3_telling_X3_queueTelling
set_option maxRecDepth 20000 in
theorem ggX3_counted_X8_leave : GoodIn wsX3_counted wsX8_leave := goodIn_r _ [6, 7, 23] (by decide +kernel) (by decide +kernel)
set_option maxRecDepth 20000 in
theorem gX3_counted_X8_leave : GoodIn wsX3_counted (wsV RX3 56 RX8 yX8_leave wsX8_leave) := goodIn_app (goodIn_of _ (by decide +kernel)) ggX3_counted_X8_leave
set_option maxRecDepth 20000 in
theorem ggX3_queueTelling_X8_leave : GoodIn wsX3_queueTelling wsX8_leave := goodIn_r _ [6, 7, 23] (by decide +kernel) (by decide +kernel)
set_option maxRecDepth 20000 in
theorem gX3_queueTelling_X8_leave : GoodIn wsX3_queueTelling (wsV RX3 56 RX8 yX8_leave wsX8_leave) := goodIn_app (goodIn_of _ (by decide +kernel)) ggX3_queueTelling_X8_leave
set_option maxRecDepth 20000 in
theorem ggX3_letFirstGo_X3_lieBehindAll : GoodIn wsX3_letFirstGo wsX3_lieBehindAll := goodIn_r _ [9, 2, 3, 13, 14, 15, 16, 17, 18, 19, 20, 21, 22, 23, 24, 25, 26, 27] (by decide +kernel) (by decide +kernel)
set_option maxRecDepth 20000 in
theorem gX3_letFirstGo_X3_lieBehindAll_u61X0 : GoodIn wsX3_letFirstGo (va_wsU RX3 61 RX0 "PageDesks$Queue" ⟨"PageDesks$Queue", "lieBehindAll", "(I)V"⟩ yX3_lieBehindAll wsX3_lieBehindAll) := goodIn_app (goodIn_of _ (by decide +kernel)) ggX3_letFirstGo_X3_lieBehindAll
set_option maxRecDepth 20000 in
theorem gX3_letFirstGo_X3_lieBehindAll : GoodIn wsX3_letFirstGo (wsV RX3 61 RX3 yX3_lieBehindAll wsX3_lieBehindAll) := goodIn_app (goodIn_of _ (by decide +kernel)) ggX3_letFirstGo_X3_lieBehindAll
set_option maxRecDepth 20000 in
theorem gX3_letFirstGo_X3_lieBehindAll_u61X5 : GoodIn wsX3_letFirstGo (va_wsU RX3 61 RX5 "PageDesks$Queue" ⟨"PageDesks$Queue", "lieBehindAll", "(I)V"⟩ yX3_lieBehindAll wsX3_lieBehindAll) := goodIn_app (goodIn_of _ (by decide +kernel)) ggX3_letFirstGo_X3_lieBehindAll
set_option maxRecDepth 20000 in
theorem ggX5_init_X0_init : GoodIn wsX5_init wsX0_init := goodIn_r _ [3, 4, 5, 6, 7, 8, 9, 10, 11, 12, 13, 14, 15, 16, 17, 18, 19, 20, 21, 22, 23, 24, 25, 26, 27] (by decide +kernel) (by decide +kernel)
set_option maxRecDepth 20000 in
theorem gX5_init_X0_init_n3 : GoodIn wsX5_init (wsX0_init) := ggX5_init_X0_init
set_option maxRecDepth 20000 in
theorem ggX5_use_X0_use : GoodIn wsX5_use wsX0_use := goodIn_r _ [6, 7, 8, 9, 10, 19, 20, 21, 22, 23, 24, 25, 26, 27, 28, 29, 30, 31, 32, 33] (by decide +kernel) (by decide +kernel)
set_option maxRecDepth 20000 in
theorem gX5_use_X0_use_s9 : GoodIn wsX5_use (va_wsSU RX5 9 yX0_use wsX0_use) := goodIn_app (goodIn_of _ (by decide +kernel)) ggX5_use_X0_use
set_option maxRecDepth 20000 in
theorem ggX5_use_X3_lieBehindAll : GoodIn wsX5_use wsX3_lieBehindAll := goodIn_r _ [16, 17, 18, 19, 20, 21, 22, 23, 24, 25, 26, 27, 28, 29, 30, 31, 32, 33] (by decide +kernel) (by decide +kernel)
set_option maxRecDepth 20000 in
theorem gX5_use_X3_lieBehindAll_u13X5 : GoodIn wsX5_use (va_wsU RX5 13 RX5 "PageDesks$Queue" ⟨"PageDesks$Recent", "lieBehindAll", "(I)V"⟩ yX3_lieBehindAll wsX3_lieBehindAll) := goodIn_app (goodIn_of _ (by decide +kernel)) ggX5_use_X3_lieBehindAll
set_option maxRecDepth 20000 in
theorem ggX5_telling_X8_leave : GoodIn wsX5_telling wsX8_leave := goodIn_r _ [5, 6, 26] (by decide +kernel) (by decide +kernel)
set_option maxRecDepth 20000 in
theorem gX5_telling_X8_leave : GoodIn wsX5_telling (wsV RX5 18 RX8 yX8_leave wsX8_leave) := goodIn_app (goodIn_of _ (by decide +kernel)) ggX5_telling_X8_leave
set_option maxRecDepth 20000 in
theorem ggX5_telling_X0_telling : GoodIn wsX5_telling wsX0_telling := goodIn_r _ [12, 13, 2, 3, 4, 5, 6, 14, 15, 16, 17, 18, 19, 20, 21, 22, 26, 27, 28, 29, 30, 31, 32, 33, 34, 35, 36, 37, 38, 39, 40, 41] (by decide +kernel) (by decide +kernel)
set_option maxRecDepth 20000 in
theorem gX5_telling_X0_telling_s23 : GoodIn wsX5_telling (va_wsSU RX5 23 yX0_telling wsX0_telling) := goodIn_app (goodIn_of _ (by decide +kernel)) ggX5_telling_X0_telling
set_option maxRecDepth 20000 in
theorem ggX5_telling_X3_queueTelling : GoodIn wsX5_telling wsX3_queueTelling := goodIn_r _ [19, 20, 21, 2, 3, 4, 5, 6, 27, 28, 29, 30, 31, 32, 33, 34, 35, 36, 37, 38, 39, 40, 41, 26] (by decide +kernel) (by decide +kernel)
set_option maxRecDepth 20000 in
theorem gX5_telling_X3_queueTelling_u27X5 : GoodIn wsX5_telling (va_wsU RX5 27 RX5 "PageDesks$Queue" ⟨"PageDesks$Recent", "queueTelling", "(LPageDesks$Trace;)I"⟩ yX3_queueTelling wsX3_queueTelling) := goodIn_app (goodIn_of _ (by decide +kernel)) ggX5_telling_X3_queueTelling
set_option maxRecDepth 20000 in
theorem ggX5_counted_X8_leave : GoodIn wsX5_counted wsX8_leave := goodIn_r _ [5, 6, 7] (by decide +kernel) (by decide +kernel)
set_option maxRecDepth 20000 in
theorem gX5_counted_X8_leave : GoodIn wsX5_counted (wsV RX5 18 RX8 yX8_leave wsX8_leave) := goodIn_app (goodIn_of _ (by decide +kernel)) ggX5_counted_X8_leave
set_option maxRecDepth 20000 in
theorem ggX6_faultAs_X6_isNothing : GoodIn wsX6_faultAs wsX6_isNothing := goodIn_r _ [6, 1, 7, 8, 9] (by decide +kernel) (by decide +kernel)
set_option maxRecDepth 20000 in
theorem gX6_faultAs_X6_isNothing : GoodIn wsX6_faultAs (wsV RX6 22 RX6 yX6_isNothing wsX6_isNothing) := goodIn_app (goodIn_of _ (by decide +kernel)) ggX6_faultAs_X6_isNothing
set_option maxRecDepth 20000 in
theorem ggX6_has_X9_isWithin : GoodIn wsX6_has wsX9_isWithin := goodIn_r _ [4] (by decide +kernel) (by decide +kernel)
set_option maxRecDepth 20000 in
theorem gX6_has_X9_isWithin_n26 : GoodIn wsX6_has (wsX9_isWithin) := ggX6_has_X9_isWithin
set_option maxRecDepth 20000 in
theorem ggX7_firstFault_X7_goesOn : GoodIn wsX7_firstFault wsX7_goesOn := goodIn_r _ [9, 3, 10, 11, 12, 8, 13, 14, 15, 16, 17, 18, 1, 19, 20, 21, 22, 23, 24, 25, 26, 27, 28, 29, 30, 31, 32, 33, 34, 2, 35, 36, 37, 38, 39, 40, 41, 42, 43, 44] (by decide +kernel) (by decide +kernel)
set_option maxRecDepth 20000 in
theorem gX7_firstFault_X7_goesOn : GoodIn wsX7_firstFault (wsV RX7 36 RX7 yX7_goesOn wsX7_goesOn) := goodIn_app (goodIn_of _ (by decide +kernel)) ggX7_firstFault_X7_goesOn
set_option maxRecDepth 20000 in
theorem ggX7_goesOn_X7_goesTo : GoodIn wsX7_goesOn wsX7_goesTo := goodIn_r _ [6, 1, 34, 35, 36, 37, 38, 39] (by decide +kernel) (by decide +kernel)
set_option maxRecDepth 20000 in
theorem gX7_goesOn_X7_goesTo : GoodIn wsX7_goesOn (wsV RX7 40 RX7 yX7_goesTo wsX7_goesTo) := goodIn_app (goodIn_of _ (by decide +kernel)) ggX7_goesOn_X7_goesTo
set_option maxRecDepth 20000 in
theorem ggX7_goesOn_X7_takesKind : GoodIn wsX7_goesOn wsX7_takesKind := goodIn_r _ [10, 11, 12, 2, 3, 4, 5, 6, 1, 34, 35, 36, 37, 38, 39] (by decide +kernel) (by decide +kernel)
set_option maxRecDepth 20000 in
theorem gX7_goesOn_X7_takesKind : GoodIn wsX7_goesOn (wsV RX7 44 RX7 yX7_takesKind wsX7_takesKind) := goodIn_app (goodIn_of _ (by decide +kernel)) ggX7_goesOn_X7_takesKind
set_option maxRecDepth 20000 in
theorem ggX7_goesOn_X7_takesFrames : GoodIn wsX7_goesOn wsX7_takesFrames := goodIn_r _ [16, 17, 12, 18, 19, 20, 2, 3, 4, 5, 6, 1, 34, 35, 36, 37, 38, 39] (by decide +kernel) (by decide +kernel)
set_option maxRecDepth 20000 in
theorem gX7_goesOn_X7_takesFrames : GoodIn wsX7_goesOn (wsV RX7 47 RX7 yX7_takesFrames wsX7_takesFrames) := goodIn_app (goodIn_of _ (by decide +kernel)) ggX7_goesOn_X7_takesFrames
set_option maxRecDepth 20000 in
theorem ggX7_goesOn_X7_goesBehindDesk : GoodIn wsX7_goesOn wsX7_goesBehindDesk := goodIn_r _ [24, 12, 2, 3, 4, 5, 6, 1, 34, 35, 36, 37, 38, 39] (by decide +kernel) (by decide +kernel)
set_option maxRecDepth 20000 in
theorem gX7_goesOn_X7_goesBehindDesk : GoodIn wsX7_goesOn (wsV RX7 50 RX7 yX7_goesBehindDesk wsX7_goesBehindDesk) := goodIn_app (goodIn_of _ (by decide +kernel)) ggX7_goesOn_X7_goesBehindDesk
set_option maxRecDepth 20000 in
theorem ggX7_goesOn_X7_takesAsk : GoodIn wsX7_goesOn wsX7_takesAsk := goodIn_r _ [28, 29, 30, 31, 19, 32, 33, 18, 20, 34, 35, 36, 37, 38, 39] (by decide +kernel) (by decide +kernel)
set_option maxRecDepth 20000 in
theorem gX7_goesOn_X7_takesAsk : GoodIn wsX7_goesOn (wsV RX7 53 RX7 yX7_takesAsk wsX7_takesAsk) := goodIn_app (goodIn_of _ (by decide +kernel)) ggX7_goesOn_X7_takesAsk
set_option maxRecDepth 20000 in
theorem ggX7_takesKind_X7_goesTo : GoodIn wsX7_takesKind wsX7_goesTo := goodIn_r _ [7, 8, 9, 10, 11, 12, 13, 14] (by decide +kernel) (by decide +kernel)
set_option maxRecDepth 20000 in
theorem gX7_takesKind_X7_goesTo : GoodIn wsX7_takesKind (wsV RX7 40 RX7 yX7_goesTo wsX7_goesTo) := goodIn_app (goodIn_of _ (by decide +kernel)) ggX7_takesKind_X7_goesTo
set_option maxRecDepth 20000 in
theorem ggX7_takesFrames_X9_isWithin : GoodIn wsX7_takesFrames wsX9_isWithin := goodIn_r _ [5] (by decide +kernel) (by decide +kernel)
set_option maxRecDepth 20000 in
theorem gX7_takesFrames_X9_isWithin_n56 : GoodIn wsX7_takesFrames (wsX9_isWithin) := ggX7_takesFrames_X9_isWithin
set_option maxRecDepth 20000 in
theorem ggX7_takesFrames_X7_goesTo : GoodIn wsX7_takesFrames wsX7_goesTo := goodIn_r _ [10, 11, 12, 13, 14, 15, 16, 17] (by decide +kernel) (by decide +kernel)
set_option maxRecDepth 20000 in
theorem gX7_takesFrames_X7_goesTo : GoodIn wsX7_takesFrames (wsV RX7 40 RX7 yX7_goesTo wsX7_goesTo) := goodIn_app (goodIn_of _ (by decide +kernel)) ggX7_takesFrames_X7_goesTo
set_option maxRecDepth 20000 in
theorem ggX7_goesBehindDesk_X7_goesTo : GoodIn wsX7_goesBehindDesk wsX7_goesTo := goodIn_r _ [6, 7, 8, 9, 10, 11, 12, 13] (by decide +kernel) (by decide +kernel)
set_option maxRecDepth 20000 in
theorem gX7_goesBehindDesk_X7_goesTo : GoodIn wsX7_goesBehindDesk (wsV RX7 40 RX7 yX7_goesTo wsX7_goesTo) := goodIn_app (goodIn_of _ (by decide +kernel)) ggX7_goesBehindDesk_X7_goesTo
set_option maxRecDepth 20000 in
theorem ggX7_takesAsk_X9_isPage : GoodIn wsX7_takesAsk wsX9_isPage := goodIn_r _ [5, 6, 7, 4, 8] (by decide +kernel) (by decide +kernel)
set_option maxRecDepth 20000 in
theorem gX7_takesAsk_X9_isPage_n60 : GoodIn wsX7_takesAsk (wsX9_isPage) := ggX7_takesAsk_X9_isPage
set_option maxRecDepth 20000 in
theorem ggX9_init_X7_init : GoodIn wsX9_init wsX7_init := goodIn_r _ [32, 33, 2, 3, 34, 35, 36, 37, 92, 93, 94, 95, 96, 97] (by decide +kernel) (by decide +kernel)
set_option maxRecDepth 20000 in
theorem gX9_init_X7_init_n19 : GoodIn wsX9_init (wsX7_init) := ggX9_init_X7_init
set_option maxRecDepth 20000 in
theorem ggX9_init_X2_init : GoodIn wsX9_init wsX2_init := goodIn_r _ [39, 40, 2, 3, 34, 41, 98, 99] (by decide +kernel) (by decide +kernel)
set_option maxRecDepth 20000 in
theorem gX9_init_X2_init_n35 : GoodIn wsX9_init (wsX2_init) := ggX9_init_X2_init
set_option maxRecDepth 20000 in
theorem ggX9_init_X1_init : GoodIn wsX9_init wsX1_init := goodIn_r _ [43, 44, 2, 3, 34, 45, 100, 101] (by decide +kernel) (by decide +kernel)
set_option maxRecDepth 20000 in
theorem gX9_init_X1_init_n42 : GoodIn wsX9_init (wsX1_init) := ggX9_init_X1_init
set_option maxRecDepth 20000 in
theorem ggX9_init_X4_init : GoodIn wsX9_init wsX4_init := goodIn_r _ [47, 48, 2, 3, 34, 49, 50, 51, 102, 103, 104, 105] (by decide +kernel) (by decide +kernel)
set_option maxRecDepth 20000 in
theorem gX9_init_X4_init_n49 : GoodIn wsX9_init (wsX4_init) := ggX9_init_X4_init
set_option maxRecDepth 20000 in
theorem ggX9_init_X8_init : GoodIn wsX9_init wsX8_init := goodIn_r _ [53, 54, 2, 3] (by decide +kernel) (by decide +kernel)
set_option maxRecDepth 20000 in
theorem gX9_init_X8_init_n56 : GoodIn wsX9_init (wsX8_init) := ggX9_init_X8_init
set_option maxRecDepth 20000 in
theorem ggX9_init_X6_init : GoodIn wsX9_init wsX6_init := goodIn_r _ [56, 57, 2, 3, 34, 58, 59, 107, 108, 109] (by decide +kernel) (by decide +kernel)
set_option maxRecDepth 20000 in
theorem gX9_init_X6_init_n61 : GoodIn wsX9_init (wsX6_init) := ggX9_init_X6_init
set_option maxRecDepth 20000 in
theorem ggX9_init_X9_newDesk : GoodIn wsX9_init wsX9_newDesk := goodIn_r _ [63, 64, 65, 66, 67, 68, 69, 10, 70, 71, 72, 73, 74, 75, 76, 2, 3, 34, 77, 78, 79, 80, 110, 111, 112, 113, 114, 115, 116, 117, 118, 119, 120, 121, 122, 123, 124] (by decide +kernel) (by decide +kernel)
set_option maxRecDepth 20000 in
theorem gX9_init_X9_newDesk : GoodIn wsX9_init (va_wsS RX9 62 yX9_newDesk wsX9_newDesk) := goodIn_app (goodIn_of _ (by decide +kernel)) ggX9_init_X9_newDesk
set_option maxRecDepth 20000 in
theorem ggX9_room_X9_isSheet : GoodIn wsX9_room wsX9_isSheet := goodIn_r _ [8, 9, 10, 7, 11] (by decide +kernel) (by decide +kernel)
set_option maxRecDepth 20000 in
theorem gX9_room_X9_isSheet : GoodIn wsX9_room (va_wsS RX9 66 yX9_isSheet wsX9_isSheet) := goodIn_app (goodIn_of _ (by decide +kernel)) ggX9_room_X9_isSheet
set_option maxRecDepth 20000 in
theorem ggX9_room_X9_refused : GoodIn wsX9_room wsX9_refused := goodIn_r _ [15, 2, 133, 134, 135, 136, 137, 138, 139, 140, 141, 142, 143] (by decide +kernel) (by decide +kernel)
set_option maxRecDepth 20000 in
theorem gX9_room_X9_refused : GoodIn wsX9_room (wsV RX9 70 RX9 yX9_refused wsX9_refused) := goodIn_app (goodIn_of _ (by decide +kernel)) ggX9_room_X9_refused
set_option maxRecDepth 20000 in
theorem ggX9_room_X9_isWithin : GoodIn wsX9_room wsX9_isWithin := goodIn_r _ [11] (by decide +kernel) (by decide +kernel)
set_option maxRecDepth 20000 in
theorem gX9_room_X9_isWithin : GoodIn wsX9_room (va_wsS RX9 74 yX9_isWithin wsX9_isWithin) := goodIn_app (goodIn_of _ (by decide +kernel)) ggX9_room_X9_isWithin
set_option maxRecDepth 20000 in
theorem ggX9_room_X6_faultAs : GoodIn wsX9_room wsX6_faultAs := goodIn_r _ [20, 21, 22, 23, 24, 19, 25, 144, 145, 146] (by decide +kernel) (by decide +kernel)
set_option maxRecDepth 20000 in
theorem gX9_room_X6_faultAs : GoodIn wsX9_room (wsV RX9 78 RX6 yX6_faultAs wsX6_faultAs) := goodIn_app (goodIn_of _ (by decide +kernel)) ggX9_room_X6_faultAs
set_option maxRecDepth 20000 in
theorem ggX9_room_X6_has : GoodIn wsX9_room wsX6_has := goodIn_r _ [29, 30, 10, 7, 11, 144, 145, 146] (by decide +kernel) (by decide +kernel)
set_option maxRecDepth 20000 in
theorem gX9_room_X6_has : GoodIn wsX9_room (wsV RX9 81 RX6 yX6_has wsX6_has) := goodIn_app (goodIn_of _ (by decide +kernel)) ggX9_room_X6_has
set_option maxRecDepth 20000 in
theorem ggX9_room_X9_faulted : GoodIn wsX9_room wsX9_faulted := goodIn_r _ [34, 2, 133, 134, 135, 136, 137, 138, 139, 140, 141, 142, 143] (by decide +kernel) (by decide +kernel)
set_option maxRecDepth 20000 in
theorem gX9_room_X9_faulted : GoodIn wsX9_room (wsV RX9 85 RX9 yX9_faulted wsX9_faulted) := goodIn_app (goodIn_of _ (by decide +kernel)) ggX9_room_X9_faulted
set_option maxRecDepth 20000 in
theorem ggX9_room_X7_firstFault : GoodIn wsX9_room wsX7_firstFault := goodIn_r _ [39, 40, 41, 42, 43, 44, 45, 46, 38, 47, 48, 49, 50, 51, 52, 53, 54, 55, 56, 57, 58, 59, 60, 61, 10, 7, 11, 62, 63, 64, 65, 66, 67, 68, 69, 70, 71, 72, 9, 147, 148, 149, 150, 151, 152, 144, 145, 146] (by decide +kernel) (by decide +kernel)
set_option maxRecDepth 20000 in
theorem gX9_room_X7_firstFault : GoodIn wsX9_room (wsV RX9 92 RX7 yX7_firstFault wsX7_firstFault) := goodIn_app (goodIn_of _ (by decide +kernel)) ggX9_room_X7_firstFault
set_option maxRecDepth 20000 in
theorem ggX9_room_X9_furnish : GoodIn wsX9_room wsX9_furnish := goodIn_r _ [76, 3, 77, 4, 78, 79, 80, 81, 82, 83, 84, 85, 86, 87, 88, 7, 89, 90, 91, 92, 93, 94, 95, 96, 97, 98, 99, 100, 101, 102, 103, 104, 105, 106, 107, 108, 109, 110, 111, 112, 113, 114, 115, 116, 117, 118, 119, 120, 121, 122, 123, 124, 125, 126, 127, 128, 129, 130, 131, 132, 133, 134, 135, 136, 137, 138, 139, 140, 141, 142, 143, 147, 148, 149, 150, 151, 152, 153, 154, 155, 156, 157, 158, 159, 160, 161, 162, 163, 164, 165, 166, 167, 168, 169, 170, 171, 172, 173] (by decide +kernel) (by decide +kernel)
set_option maxRecDepth 20000 in
theorem gX9_room_X9_furnish : GoodIn wsX9_room (wsV RX9 96 RX9 yX9_furnish wsX9_furnish) := goodIn_app (goodIn_of _ (by decide +kernel)) ggX9_room_X9_furnish
set_option maxRecDepth 20000 in
theorem ggX9_ofDesk_X9_isDesk : GoodIn wsX9_ofDesk wsX9_isDesk := goodIn_r _ [9, 10, 11, 12, 8, 13, 71, 72, 73, 74, 75, 76, 77, 78, 79, 80, 81] (by decide +kernel) (by decide +kernel)
set_option maxRecDepth 20000 in
theorem gX9_ofDesk_X9_isDesk : GoodIn wsX9_ofDesk (wsV RX9 102 RX9 yX9_isDesk wsX9_isDesk) := goodIn_app (goodIn_of _ (by decide +kernel)) ggX9_ofDesk_X9_isDesk
set_option maxRecDepth 20000 in
theorem ggX9_ofDesk_X0_kind : GoodIn wsX9_ofDesk wsX0_kind := goodIn_r _ [20] (by decide +kernel) (by decide +kernel)
set_option maxRecDepth 20000 in
theorem gX9_ofDesk_X0_kind_u105X0 : GoodIn wsX9_ofDesk (va_wsO RX9 105 RX0 "PageDesks$Queue" ⟨"PageDesks$Queue", "kind", "()I"⟩ yX0_kind wsX0_kind) := goodIn_app (goodIn_of _ (by decide +kernel)) ggX9_ofDesk_X0_kind
set_option maxRecDepth 20000 in
theorem ggX9_ofDesk_X3_kind : GoodIn wsX9_ofDesk wsX3_kind := goodIn_r _ [21] (by decide +kernel) (by decide +kernel)
set_option maxRecDepth 20000 in
theorem gX9_ofDesk_X3_kind : GoodIn wsX9_ofDesk (wsV RX9 105 RX3 yX3_kind wsX3_kind) := goodIn_app (goodIn_of _ (by decide +kernel)) ggX9_ofDesk_X3_kind
set_option maxRecDepth 20000 in
theorem ggX9_ofDesk_X5_kind : GoodIn wsX9_ofDesk wsX5_kind := goodIn_r _ [29] (by decide +kernel) (by decide +kernel)
set_option maxRecDepth 20000 in
theorem gX9_ofDesk_X5_kind_u105X5 : GoodIn wsX9_ofDesk (va_wsO RX9 105 RX5 "PageDesks$Queue" ⟨"PageDesks$Queue", "kind", "()I"⟩ yX5_kind wsX5_kind) := goodIn_app (goodIn_of _ (by decide +kernel)) ggX9_ofDesk_X5_kind
set_option maxRecDepth 20000 in
theorem ggX9_ofDesk_X3_pages : GoodIn wsX9_ofDesk wsX3_pages := goodIn_r _ [34, 35, 36, 82, 83, 84, 85, 86, 87, 88, 89, 90, 91, 92, 93, 94, 95, 96] (by decide +kernel) (by decide +kernel)
set_option maxRecDepth 20000 in
theorem gX9_ofDesk_X3_pages_u112X0 : GoodIn wsX9_ofDesk (va_wsU RX9 112 RX0 "PageDesks$Queue" ⟨"PageDesks$Queue", "pages", "()I"⟩ yX3_pages wsX3_pages) := goodIn_app (goodIn_of _ (by decide +kernel)) ggX9_ofDesk_X3_pages
set_option maxRecDepth 20000 in
theorem gX9_ofDesk_X3_pages : GoodIn wsX9_ofDesk (wsV RX9 112 RX3 yX3_pages wsX3_pages) := goodIn_app (goodIn_of _ (by decide +kernel)) ggX9_ofDesk_X3_pages
set_option maxRecDepth 20000 in
theorem gX9_ofDesk_X3_pages_u112X5 : GoodIn wsX9_ofDesk (va_wsU RX9 112 RX5 "PageDesks$Queue" ⟨"PageDesks$Queue", "pages", "()I"⟩ yX3_pages wsX3_pages) := goodIn_app (goodIn_of _ (by decide +kernel)) ggX9_ofDesk_X3_pages
set_option maxRecDepth 20000 in
theorem ggX9_ofDesk_X3_nextToGo : GoodIn wsX9_ofDesk wsX3_nextToGo := goodIn_r _ [44, 35, 45, 36, 46, 47, 48, 49, 50, 19, 51, 52, 53, 54, 55, 56, 57, 25, 58, 59, 60, 61, 62, 63, 64, 65, 66, 28, 67, 82, 83, 84, 85, 86, 87, 88, 89, 90, 91, 92, 93, 94, 95, 96] (by decide +kernel) (by decide +kernel)
set_option maxRecDepth 20000 in
theorem gX9_ofDesk_X3_nextToGo_u118X0 : GoodIn wsX9_ofDesk (va_wsU RX9 118 RX0 "PageDesks$Queue" ⟨"PageDesks$Queue", "nextToGo", "()I"⟩ yX3_nextToGo wsX3_nextToGo) := goodIn_app (goodIn_of _ (by decide +kernel)) ggX9_ofDesk_X3_nextToGo
set_option maxRecDepth 20000 in
theorem gX9_ofDesk_X3_nextToGo : GoodIn wsX9_ofDesk (wsV RX9 118 RX3 yX3_nextToGo wsX3_nextToGo) := goodIn_app (goodIn_of _ (by decide +kernel)) ggX9_ofDesk_X3_nextToGo
set_option maxRecDepth 20000 in
theorem gX9_ofDesk_X3_nextToGo_u118X5 : GoodIn wsX9_ofDesk (va_wsU RX9 118 RX5 "PageDesks$Queue" ⟨"PageDesks$Queue", "nextToGo", "()I"⟩ yX3_nextToGo wsX3_nextToGo) := goodIn_app (goodIn_of _ (by decide +kernel)) ggX9_ofDesk_X3_nextToGo
set_option maxRecDepth 20000 in
theorem ggX9_lies_X9_isDesk : GoodIn wsX9_lies wsX9_isDesk := goodIn_r _ [8, 9, 10, 11, 7, 12, 13, 14, 15, 16, 17, 18, 19, 20, 21, 22, 23] (by decide +kernel) (by decide +kernel)
set_option maxRecDepth 20000 in
theorem gX9_lies_X9_isDesk : GoodIn wsX9_lies (wsV RX9 102 RX9 yX9_isDesk wsX9_isDesk) := goodIn_app (goodIn_of _ (by decide +kernel)) ggX9_lies_X9_isDesk
set_option maxRecDepth 20000 in
theorem ggX9_lies_X9_isWithin : GoodIn wsX9_lies wsX9_isWithin := goodIn_r _ [12] (by decide +kernel) (by decide +kernel)
set_option maxRecDepth 20000 in
theorem gX9_lies_X9_isWithin : GoodIn wsX9_lies (va_wsS RX9 74 yX9_isWithin wsX9_isWithin) := goodIn_app (goodIn_of _ (by decide +kernel)) ggX9_lies_X9_isWithin
set_option maxRecDepth 20000 in
theorem ggX9_line_X2_has : GoodIn wsX9_line wsX2_has := goodIn_r _ [7, 8, 9, 10, 11, 23, 24] (by decide +kernel) (by decide +kernel)
set_option maxRecDepth 20000 in
theorem gX9_line_X2_has : GoodIn wsX9_line (wsV RX9 131 RX2 yX2_has wsX2_has) := goodIn_app (goodIn_of _ (by decide +kernel)) ggX9_line_X2_has
set_option maxRecDepth 20000 in
theorem ggX9_build_X9_isDesk : GoodIn wsX9_build wsX9_isDesk := goodIn_r _ [10, 11, 12, 13, 9, 14, 111, 112, 113, 114, 115, 116, 117, 118, 119, 120, 121] (by decide +kernel) (by decide +kernel)
set_option maxRecDepth 20000 in
theorem gX9_build_X9_isDesk : GoodIn wsX9_build (wsV RX9 102 RX9 yX9_isDesk wsX9_isDesk) := goodIn_app (goodIn_of _ (by decide +kernel)) ggX9_build_X9_isDesk
set_option maxRecDepth 20000 in
theorem ggX9_build_X9_isWithin : GoodIn wsX9_build wsX9_isWithin := goodIn_r _ [14] (by decide +kernel) (by decide +kernel)
set_option maxRecDepth 20000 in
theorem gX9_build_X9_isWithin : GoodIn wsX9_build (va_wsS RX9 74 yX9_isWithin wsX9_isWithin) := goodIn_app (goodIn_of _ (by decide +kernel)) ggX9_build_X9_isWithin
set_option maxRecDepth 20000 in
theorem ggX9_build_X3_clear : GoodIn wsX9_build wsX3_clear := goodIn_r _ [20, 21, 22, 23, 24, 122, 123, 124, 125, 126, 127, 128, 129, 130, 131, 132, 133, 134, 135, 136] (by decide +kernel) (by decide +kernel)
set_option maxRecDepth 20000 in
theorem gX9_build_X3_clear_u135X0 : GoodIn wsX9_build (va_wsU RX9 135 RX0 "PageDesks$Queue" ⟨"PageDesks$Queue", "clear", "(I)V"⟩ yX3_clear wsX3_clear) := goodIn_app (goodIn_of _ (by decide +kernel)) ggX9_build_X3_clear
set_option maxRecDepth 20000 in
theorem gX9_build_X3_clear : GoodIn wsX9_build (wsV RX9 135 RX3 yX3_clear wsX3_clear) := goodIn_app (goodIn_of _ (by decide +kernel)) ggX9_build_X3_clear
set_option maxRecDepth 20000 in
theorem gX9_build_X3_clear_u135X5 : GoodIn wsX9_build (va_wsU RX9 135 RX5 "PageDesks$Queue" ⟨"PageDesks$Queue", "clear", "(I)V"⟩ yX3_clear wsX3_clear) := goodIn_app (goodIn_of _ (by decide +kernel)) ggX9_build_X3_clear
set_option maxRecDepth 20000 in
theorem ggX9_build_X3_serve : GoodIn wsX9_build wsX3_serve := goodIn_r _ [32, 24, 22, 21, 33, 34, 35, 36, 37, 19, 38, 39, 40, 41, 42, 43, 44, 45, 46, 47, 48, 49, 50, 51, 52, 53, 54, 55, 56, 57, 58, 59, 60, 61, 62, 63, 64, 65, 66, 67, 68, 69, 70, 71, 72, 73, 74, 75, 76, 77, 78, 79, 80, 81, 23, 82, 83, 84, 85, 86, 87, 88, 89, 90, 91, 92, 93, 94, 95, 96, 97, 98, 99, 100, 101, 102, 103, 104, 105, 106, 107, 122, 123, 124, 125, 126, 127, 128, 129, 130, 131, 132, 133, 134, 135, 136] (by decide +kernel) (by decide +kernel)
set_option maxRecDepth 20000 in
theorem gX9_build_X3_serve_u142X0 : GoodIn wsX9_build (va_wsU RX9 142 RX0 "PageDesks$Queue" ⟨"PageDesks$Queue", "serve", "(I)Z"⟩ yX3_serve wsX3_serve) := goodIn_app (goodIn_of _ (by decide +kernel)) ggX9_build_X3_serve
set_option maxRecDepth 20000 in
theorem gX9_build_X3_serve : GoodIn wsX9_build (wsV RX9 142 RX3 yX3_serve wsX3_serve) := goodIn_app (goodIn_of _ (by decide +kernel)) ggX9_build_X3_serve
set_option maxRecDepth 20000 in
theorem gX9_build_X3_serve_u142X5 : GoodIn wsX9_build (va_wsU RX9 142 RX5 "PageDesks$Queue" ⟨"PageDesks$Queue", "serve", "(I)Z"⟩ yX3_serve wsX3_serve) := goodIn_app (goodIn_of _ (by decide +kernel)) ggX9_build_X3_serve
set_option maxRecDepth 20000 in
theorem ggX9_come_X9_isWithin : GoodIn wsX9_come wsX9_isWithin := goodIn_r _ [8] (by decide +kernel) (by decide +kernel)
set_option maxRecDepth 20000 in
theorem gX9_come_X9_isWithin : GoodIn wsX9_come (va_wsS RX9 74 yX9_isWithin wsX9_isWithin) := goodIn_app (goodIn_of _ (by decide +kernel)) ggX9_come_X9_isWithin
set_option maxRecDepth 20000 in
theorem ggX9_come_X9_hasRoom : GoodIn wsX9_come wsX9_hasRoom := goodIn_r _ [12, 13, 107, 108, 109, 110, 111, 112, 113, 114, 115, 116, 117] (by decide +kernel) (by decide +kernel)
set_option maxRecDepth 20000 in
theorem gX9_come_X9_hasRoom : GoodIn wsX9_come (wsV RX9 145 RX9 yX9_hasRoom wsX9_hasRoom) := goodIn_app (goodIn_of _ (by decide +kernel)) ggX9_come_X9_hasRoom
set_option maxRecDepth 20000 in
theorem ggX9_come_X9_missesOfAll : GoodIn wsX9_come wsX9_missesOfAll := goodIn_r _ [17, 13, 18, 19, 20, 21, 22, 23, 24, 25, 26, 27, 28, 29, 30, 31, 32, 33, 34, 35, 36, 37, 38, 39, 40, 41, 42, 43, 44, 45, 46, 47, 48, 49, 50, 51, 52, 53, 54, 55, 56, 57, 58, 59, 60, 61, 62, 63, 64, 65, 66, 67, 68, 69, 70, 71, 72, 73, 74, 75, 76, 77, 78, 79, 80, 81, 82, 83, 84, 85, 86, 87, 88, 89, 90, 91, 92, 93, 94, 95, 96, 97, 98, 99, 100, 101, 102, 103, 104, 105, 106, 107, 108, 109, 110, 111, 112, 113, 114, 115, 116, 117, 120, 121, 122, 123, 124, 125, 126, 127, 128, 129, 130, 131, 132, 133, 134] (by decide +kernel) (by decide +kernel)
set_option maxRecDepth 20000 in
theorem gX9_come_X9_missesOfAll : GoodIn wsX9_come (wsV RX9 152 RX9 yX9_missesOfAll wsX9_missesOfAll) := goodIn_app (goodIn_of _ (by decide +kernel)) ggX9_come_X9_missesOfAll
set_option maxRecDepth 20000 in
theorem ggX9_anew_X9_hasRoom : GoodIn wsX9_anew wsX9_hasRoom := goodIn_r _ [9, 2, 23, 24, 25, 26, 27, 28, 29, 30, 31, 32, 33] (by decide +kernel) (by decide +kernel)
set_option maxRecDepth 20000 in
theorem gX9_anew_X9_hasRoom : GoodIn wsX9_anew (wsV RX9 145 RX9 yX9_hasRoom wsX9_hasRoom) := goodIn_app (goodIn_of _ (by decide +kernel)) ggX9_anew_X9_hasRoom
set_option maxRecDepth 20000 in
theorem ggX9_anew_X3_clear : GoodIn wsX9_anew wsX3_clear := goodIn_r _ [15, 16, 17, 18, 19, 34, 35, 36, 37, 38, 39, 40, 41, 42, 43, 44, 45, 46, 47, 48] (by decide +kernel) (by decide +kernel)
set_option maxRecDepth 20000 in
theorem gX9_anew_X3_clear_u135X0 : GoodIn wsX9_anew (va_wsU RX9 135 RX0 "PageDesks$Queue" ⟨"PageDesks$Queue", "clear", "(I)V"⟩ yX3_clear wsX3_clear) := goodIn_app (goodIn_of _ (by decide +kernel)) ggX9_anew_X3_clear
set_option maxRecDepth 20000 in
theorem gX9_anew_X3_clear : GoodIn wsX9_anew (wsV RX9 135 RX3 yX3_clear wsX3_clear) := goodIn_app (goodIn_of _ (by decide +kernel)) ggX9_anew_X3_clear
set_option maxRecDepth 20000 in
theorem gX9_anew_X3_clear_u135X5 : GoodIn wsX9_anew (va_wsU RX9 135 RX5 "PageDesks$Queue" ⟨"PageDesks$Queue", "clear", "(I)V"⟩ yX3_clear wsX3_clear) := goodIn_app (goodIn_of _ (by decide +kernel)) ggX9_anew_X3_clear
set_option maxRecDepth 20000 in
theorem ggX9_ask_X9_hasRoom : GoodIn wsX9_ask wsX9_hasRoom := goodIn_r _ [7, 8, 22, 23, 24, 25, 26, 27, 28, 29, 30, 31, 32] (by decide +kernel) (by decide +kernel)
set_option maxRecDepth 20000 in
theorem gX9_ask_X9_hasRoom : GoodIn wsX9_ask (wsV RX9 145 RX9 yX9_hasRoom wsX9_hasRoom) := goodIn_app (goodIn_of _ (by decide +kernel)) ggX9_ask_X9_hasRoom
set_option maxRecDepth 20000 in
theorem ggX9_ask_X9_isPage : GoodIn wsX9_ask wsX9_isPage := goodIn_r _ [11, 12, 13, 6, 14] (by decide +kernel) (by decide +kernel)
set_option maxRecDepth 20000 in
theorem gX9_ask_X9_isPage : GoodIn wsX9_ask (va_wsS RX9 155 yX9_isPage wsX9_isPage) := goodIn_app (goodIn_of _ (by decide +kernel)) ggX9_ask_X9_isPage
set_option maxRecDepth 20000 in
theorem ggX9_ask_X2_append : GoodIn wsX9_ask wsX2_append := goodIn_r _ [19, 20, 21, 33, 34] (by decide +kernel) (by decide +kernel)
set_option maxRecDepth 20000 in
theorem gX9_ask_X2_append : GoodIn wsX9_ask (wsV RX9 158 RX2 yX2_append wsX2_append) := goodIn_app (goodIn_of _ (by decide +kernel)) ggX9_ask_X2_append
set_option maxRecDepth 20000 in
theorem ggX9_drop_X9_hasRoom : GoodIn wsX9_drop wsX9_hasRoom := goodIn_r _ [11, 12, 13, 14, 15, 16, 17, 18, 19, 20, 21, 22, 23] (by decide +kernel) (by decide +kernel)
set_option maxRecDepth 20000 in
theorem gX9_drop_X9_hasRoom : GoodIn wsX9_drop (wsV RX9 145 RX9 yX9_hasRoom wsX9_hasRoom) := goodIn_app (goodIn_of _ (by decide +kernel)) ggX9_drop_X9_hasRoom
set_option maxRecDepth 20000 in
theorem ggX9_tale_X9_isSheet : GoodIn wsX9_tale wsX9_isSheet := goodIn_r _ [8, 9, 10, 7, 11] (by decide +kernel) (by decide +kernel)
set_option maxRecDepth 20000 in
theorem gX9_tale_X9_isSheet : GoodIn wsX9_tale (va_wsS RX9 66 yX9_isSheet wsX9_isSheet) := goodIn_app (goodIn_of _ (by decide +kernel)) ggX9_tale_X9_isSheet
set_option maxRecDepth 20000 in
theorem ggX9_tale_X9_isDesk : GoodIn wsX9_tale wsX9_isDesk := goodIn_r _ [15, 16, 9, 10, 7, 11, 192, 193, 194, 195, 196, 197, 198, 199, 200, 201, 202] (by decide +kernel) (by decide +kernel)
set_option maxRecDepth 20000 in
theorem gX9_tale_X9_isDesk : GoodIn wsX9_tale (wsV RX9 102 RX9 yX9_isDesk wsX9_isDesk) := goodIn_app (goodIn_of _ (by decide +kernel)) ggX9_tale_X9_isDesk
set_option maxRecDepth 20000 in
theorem ggX9_tale_X9_refused : GoodIn wsX9_tale wsX9_refused := goodIn_r _ [20, 2, 192, 193, 194, 195, 196, 197, 198, 199, 200, 201, 202] (by decide +kernel) (by decide +kernel)
set_option maxRecDepth 20000 in
theorem gX9_tale_X9_refused : GoodIn wsX9_tale (wsV RX9 70 RX9 yX9_refused wsX9_refused) := goodIn_app (goodIn_of _ (by decide +kernel)) ggX9_tale_X9_refused
set_option maxRecDepth 20000 in
theorem ggX9_tale_X9_isWithin : GoodIn wsX9_tale wsX9_isWithin := goodIn_r _ [11] (by decide +kernel) (by decide +kernel)
set_option maxRecDepth 20000 in
theorem gX9_tale_X9_isWithin : GoodIn wsX9_tale (va_wsS RX9 74 yX9_isWithin wsX9_isWithin) := goodIn_app (goodIn_of _ (by decide +kernel)) ggX9_tale_X9_isWithin
set_option maxRecDepth 20000 in
theorem ggX9_tale_X6_faultAs : GoodIn wsX9_tale wsX6_faultAs := goodIn_r _ [25, 26, 27, 28, 29, 24, 30, 203, 204, 205] (by decide +kernel) (by decide +kernel)
set_option maxRecDepth 20000 in
theorem gX9_tale_X6_faultAs : GoodIn wsX9_tale (wsV RX9 78 RX6 yX6_faultAs wsX6_faultAs) := goodIn_app (goodIn_of _ (by decide +kernel)) ggX9_tale_X6_faultAs
set_option maxRecDepth 20000 in
theorem ggX9_tale_X6_has : GoodIn wsX9_tale wsX6_has := goodIn_r _ [34, 35, 10, 7, 11, 203, 204, 205] (by decide +kernel) (by decide +kernel)
set_option maxRecDepth 20000 in
theorem gX9_tale_X6_has : GoodIn wsX9_tale (wsV RX9 81 RX6 yX6_has wsX6_has) := goodIn_app (goodIn_of _ (by decide +kernel)) ggX9_tale_X6_has
set_option maxRecDepth 20000 in
theorem ggX9_tale_X9_faulted : GoodIn wsX9_tale wsX9_faulted := goodIn_r _ [39, 2, 192, 193, 194, 195, 196, 197, 198, 199, 200, 201, 202] (by decide +kernel) (by decide +kernel)
set_option maxRecDepth 20000 in
theorem gX9_tale_X9_faulted : GoodIn wsX9_tale (wsV RX9 85 RX9 yX9_faulted wsX9_faulted) := goodIn_app (goodIn_of _ (by decide +kernel)) ggX9_tale_X9_faulted
set_option maxRecDepth 20000 in
theorem ggX9_tale_X9_isPage : GoodIn wsX9_tale wsX9_isPage := goodIn_r _ [42, 9, 10, 7, 11] (by decide +kernel) (by decide +kernel)
set_option maxRecDepth 20000 in
theorem gX9_tale_X9_isPage : GoodIn wsX9_tale (va_wsS RX9 155 yX9_isPage wsX9_isPage) := goodIn_app (goodIn_of _ (by decide +kernel)) ggX9_tale_X9_isPage
set_option maxRecDepth 20000 in
theorem ggX9_tale_X9_toldOn : GoodIn wsX9_tale wsX9_toldOn := goodIn_r _ [46, 47, 3, 48, 49, 50, 51, 52, 53, 54, 55, 56, 57, 58, 59, 60, 61, 62, 63, 64, 65, 66, 67, 68, 69, 70, 71, 72, 73, 74, 75, 76, 77, 78, 79, 80, 81, 82, 83, 84, 85, 86, 87, 88, 89, 90, 91, 92, 93, 94, 95, 96, 97, 98, 99, 100, 101, 102, 103, 104, 105, 106, 107, 108, 109, 110, 111, 112, 113, 114, 115, 116, 117, 118, 119, 120, 121, 122, 123, 124, 125, 126, 127, 128, 129, 130, 131, 132, 133, 134, 135, 136, 137, 138, 139, 140, 141, 142, 143, 144, 145, 146, 147, 148, 149, 150, 151, 152, 153, 154, 155, 156, 157, 158, 159, 160, 161, 162, 163, 164, 165, 166, 167, 168, 169, 170, 171, 172, 173, 174, 175, 176, 177, 178, 179, 180, 181, 182, 183, 184, 185, 186, 187, 188, 189, 190, 191, 192, 193, 194, 195, 196, 197, 198, 199, 200, 201, 202, 203, 204, 205, 206, 207, 208, 209, 210, 211, 212, 213, 214, 215, 216, 217, 218, 219, 220] (by decide +kernel) (by decide +kernel)
set_option maxRecDepth 20000 in
theorem gX9_tale_X9_toldOn : GoodIn wsX9_tale (wsV RX9 165 RX9 yX9_toldOn wsX9_toldOn) := goodIn_app (goodIn_of _ (by decide +kernel)) ggX9_tale_X9_toldOn
set_option maxRecDepth 20000 in
theorem ggX9_misses_X9_isDesk : GoodIn wsX9_misses wsX9_isDesk := goodIn_r _ [5, 6, 7, 8, 4, 9, 139, 140, 141, 142, 143, 144, 145, 146, 147, 148, 149] (by decide +kernel) (by decide +kernel)
set_option maxRecDepth 20000 in
theorem gX9_misses_X9_isDesk : GoodIn wsX9_misses (wsV RX9 102 RX9 yX9_isDesk wsX9_isDesk) := goodIn_app (goodIn_of _ (by decide +kernel)) ggX9_misses_X9_isDesk
set_option maxRecDepth 20000 in
theorem ggX9_misses_X9_isWithin : GoodIn wsX9_misses wsX9_isWithin := goodIn_r _ [9] (by decide +kernel) (by decide +kernel)
set_option maxRecDepth 20000 in
theorem gX9_misses_X9_isWithin : GoodIn wsX9_misses (va_wsS RX9 74 yX9_isWithin wsX9_isWithin) := goodIn_app (goodIn_of _ (by decide +kernel)) ggX9_misses_X9_isWithin
set_option maxRecDepth 20000 in
theorem ggX9_misses_X9_missesBy : GoodIn wsX9_misses wsX9_missesBy := goodIn_r _ [13, 14, 15, 16, 17, 18, 19, 20, 21, 22, 23, 24, 25, 26, 27, 28, 29, 30, 31, 32, 33, 34, 35, 4, 36, 37, 38, 39, 40, 41, 42, 43, 44, 45, 46, 47, 48, 49, 50, 51, 52, 53, 54, 55, 56, 57, 58, 59, 60, 61, 62, 63, 64, 65, 66, 67, 68, 69, 70, 71, 72, 73, 74, 75, 76, 77, 78, 79, 80, 81, 82, 83, 84, 85, 86, 87, 88, 89, 90, 91, 92, 93, 94, 95, 96, 97, 98, 99, 100, 101, 102, 103, 104, 105, 106, 107, 108, 109, 110, 111, 112, 113, 114, 115, 116, 117, 118, 119, 120, 121, 122, 123, 124, 125, 126, 127, 128, 129, 130, 131, 132, 133, 134, 135, 136, 137, 138, 139, 140, 141, 142, 143, 144, 145, 146, 147, 148, 149, 150, 151, 152, 153, 154, 155, 156, 157, 158, 159, 160, 161, 162, 163, 164, 165, 166] (by decide +kernel) (by decide +kernel)
set_option maxRecDepth 20000 in
theorem gX9_misses_X9_missesBy : GoodIn wsX9_misses (wsV RX9 169 RX9 yX9_missesBy wsX9_missesBy) := goodIn_app (goodIn_of _ (by decide +kernel)) ggX9_misses_X9_missesBy
set_option maxRecDepth 20000 in
theorem ggX9_odd_X9_isDesk : GoodIn wsX9_odd wsX9_isDesk := goodIn_r _ [5, 6, 7, 8, 4, 9, 139, 140, 141, 142, 143, 144, 145, 146, 147, 148, 149] (by decide +kernel) (by decide +kernel)
set_option maxRecDepth 20000 in
theorem gX9_odd_X9_isDesk : GoodIn wsX9_odd (wsV RX9 102 RX9 yX9_isDesk wsX9_isDesk) := goodIn_app (goodIn_of _ (by decide +kernel)) ggX9_odd_X9_isDesk
set_option maxRecDepth 20000 in
theorem ggX9_odd_X9_missesBy : GoodIn wsX9_odd wsX9_missesBy := goodIn_r _ [13, 14, 15, 16, 17, 18, 19, 20, 21, 22, 23, 24, 25, 26, 27, 28, 29, 30, 31, 32, 33, 34, 35, 4, 36, 37, 38, 39, 40, 41, 42, 43, 44, 45, 46, 47, 48, 49, 50, 51, 52, 53, 54, 55, 56, 57, 58, 59, 60, 61, 62, 63, 64, 65, 66, 67, 68, 69, 70, 71, 72, 73, 74, 75, 76, 77, 78, 79, 80, 81, 82, 83, 84, 85, 86, 87, 88, 89, 90, 91, 92, 93, 94, 95, 96, 97, 98, 99, 100, 101, 102, 103, 104, 105, 106, 107, 108, 109, 110, 111, 112, 113, 114, 115, 116, 117, 118, 119, 120, 121, 122, 123, 124, 125, 126, 127, 128, 129, 130, 131, 132, 133, 134, 135, 136, 137, 138, 139, 140, 141, 142, 143, 144, 145, 146, 147, 148, 149, 150, 151, 152, 153, 154, 155, 156, 157, 158, 159, 160, 161, 162, 163, 164, 165, 166] (by decide +kernel) (by decide +kernel)
set_option maxRecDepth 20000 in
theorem gX9_odd_X9_missesBy : GoodIn wsX9_odd (wsV RX9 169 RX9 yX9_missesBy wsX9_missesBy) := goodIn_app (goodIn_of _ (by decide +kernel)) ggX9_odd_X9_missesBy
set_option maxRecDepth 20000 in
theorem ggX9_need_X9_isDesk : GoodIn wsX9_need wsX9_isDesk := goodIn_r _ [5, 6, 7, 8, 4, 9, 139, 140, 141, 142, 143, 144, 145, 146, 147, 148, 149] (by decide +kernel) (by decide +kernel)
set_option maxRecDepth 20000 in
theorem gX9_need_X9_isDesk : GoodIn wsX9_need (wsV RX9 102 RX9 yX9_isDesk wsX9_isDesk) := goodIn_app (goodIn_of _ (by decide +kernel)) ggX9_need_X9_isDesk
set_option maxRecDepth 20000 in
theorem ggX9_need_X9_isWithin : GoodIn wsX9_need wsX9_isWithin := goodIn_r _ [9] (by decide +kernel) (by decide +kernel)
set_option maxRecDepth 20000 in
theorem gX9_need_X9_isWithin : GoodIn wsX9_need (va_wsS RX9 74 yX9_isWithin wsX9_isWithin) := goodIn_app (goodIn_of _ (by decide +kernel)) ggX9_need_X9_isWithin
set_option maxRecDepth 20000 in
theorem ggX9_need_X9_missesBy : GoodIn wsX9_need wsX9_missesBy := goodIn_r _ [13, 14, 15, 16, 17, 18, 19, 20, 21, 22, 23, 24, 25, 26, 27, 28, 29, 30, 31, 32, 33, 34, 35, 4, 36, 37, 38, 39, 40, 41, 42, 43, 44, 45, 46, 47, 48, 49, 50, 51, 52, 53, 54, 55, 56, 57, 58, 59, 60, 61, 62, 63, 64, 65, 66, 67, 68, 69, 70, 71, 72, 73, 74, 75, 76, 77, 78, 79, 80, 81, 82, 83, 84, 85, 86, 87, 88, 89, 90, 91, 92, 93, 94, 95, 96, 97, 98, 99, 100, 101, 102, 103, 104, 105, 106, 107, 108, 109, 110, 111, 112, 113, 114, 115, 116, 117, 118, 119, 120, 121, 122, 123, 124, 125, 126, 127, 128, 129, 130, 131, 132, 133, 134, 135, 136, 137, 138, 139, 140, 141, 142, 143, 144, 145, 146, 147, 148, 149, 150, 151, 152, 153, 154, 155, 156, 157, 158, 159, 160, 161, 162, 163, 164, 165, 166] (by decide +kernel) (by decide +kernel)
set_option maxRecDepth 20000 in
theorem gX9_need_X9_missesBy : GoodIn wsX9_need (wsV RX9 169 RX9 yX9_missesBy wsX9_missesBy) := goodIn_app (goodIn_of _ (by decide +kernel)) ggX9_need_X9_missesBy
set_option maxRecDepth 20000 in
theorem ggX9_fewest_X9_hasRoom : GoodIn wsX9_fewest wsX9_hasRoom := goodIn_r _ [8, 9, 39, 40, 41, 42, 43, 44, 45, 46, 47, 48, 49] (by decide +kernel) (by decide +kernel)
set_option maxRecDepth 20000 in
theorem gX9_fewest_X9_hasRoom : GoodIn wsX9_fewest (wsV RX9 145 RX9 yX9_hasRoom wsX9_hasRoom) := goodIn_app (goodIn_of _ (by decide +kernel)) ggX9_fewest_X9_hasRoom
set_option maxRecDepth 20000 in
theorem ggX9_fewest_X9_isWithin : GoodIn wsX9_fewest wsX9_isWithin := goodIn_r _ [12] (by decide +kernel) (by decide +kernel)
set_option maxRecDepth 20000 in
theorem gX9_fewest_X9_isWithin : GoodIn wsX9_fewest (va_wsS RX9 74 yX9_isWithin wsX9_isWithin) := goodIn_app (goodIn_of _ (by decide +kernel)) ggX9_fewest_X9_isWithin
set_option maxRecDepth 20000 in
theorem ggX9_fewest_X1_follow : GoodIn wsX9_fewest wsX1_follow := goodIn_r _ [17, 18, 19, 20, 21, 22, 23, 24, 25, 26, 27, 28, 29, 30, 16, 31, 32, 33, 34, 35, 36, 37, 38, 50, 51, 52, 53] (by decide +kernel) (by decide +kernel)
set_option maxRecDepth 20000 in
theorem gX9_fewest_X1_follow : GoodIn wsX9_fewest (wsV RX9 173 RX1 yX1_follow wsX1_follow) := goodIn_app (goodIn_of _ (by decide +kernel)) ggX9_fewest_X1_follow
set_option maxRecDepth 20000 in
theorem ggX9_latest_X2_has : GoodIn wsX9_latest wsX2_has := goodIn_r _ [8, 9, 10, 11, 12, 51, 52] (by decide +kernel) (by decide +kernel)
set_option maxRecDepth 20000 in
theorem gX9_latest_X2_has : GoodIn wsX9_latest (wsV RX9 131 RX2 yX2_has wsX2_has) := goodIn_app (goodIn_of _ (by decide +kernel)) ggX9_latest_X2_has
set_option maxRecDepth 20000 in
theorem ggX9_latest_X9_isWithin : GoodIn wsX9_latest wsX9_isWithin := goodIn_r _ [12] (by decide +kernel) (by decide +kernel)
set_option maxRecDepth 20000 in
theorem gX9_latest_X9_isWithin : GoodIn wsX9_latest (va_wsS RX9 74 yX9_isWithin wsX9_isWithin) := goodIn_app (goodIn_of _ (by decide +kernel)) ggX9_latest_X9_isWithin
set_option maxRecDepth 20000 in
theorem ggX9_latest_X1_follow : GoodIn wsX9_latest wsX1_follow := goodIn_r _ [18, 19, 20, 21, 22, 23, 24, 25, 26, 27, 28, 29, 30, 31, 17, 32, 33, 34, 35, 7, 36, 9, 37, 49, 50, 51, 52] (by decide +kernel) (by decide +kernel)
set_option maxRecDepth 20000 in
theorem gX9_latest_X1_follow : GoodIn wsX9_latest (wsV RX9 173 RX1 yX1_follow wsX1_follow) := goodIn_app (goodIn_of _ (by decide +kernel)) ggX9_latest_X1_follow
set_option maxRecDepth 20000 in
theorem ggX9_depth_X2_has : GoodIn wsX9_depth wsX2_has := goodIn_r _ [6, 7, 8, 9, 10, 38, 39] (by decide +kernel) (by decide +kernel)
set_option maxRecDepth 20000 in
theorem gX9_depth_X2_has : GoodIn wsX9_depth (wsV RX9 131 RX2 yX2_has wsX2_has) := goodIn_app (goodIn_of _ (by decide +kernel)) ggX9_depth_X2_has
set_option maxRecDepth 20000 in
theorem ggX9_depth_X2_sameAhead : GoodIn wsX9_depth wsX2_sameAhead := goodIn_r _ [14, 15, 38, 39] (by decide +kernel) (by decide +kernel)
set_option maxRecDepth 20000 in
theorem gX9_depth_X2_sameAhead : GoodIn wsX9_depth (wsV RX9 181 RX2 yX2_sameAhead wsX2_sameAhead) := goodIn_app (goodIn_of _ (by decide +kernel)) ggX9_depth_X2_sameAhead
set_option maxRecDepth 20000 in
theorem ggX9_depth_X2_pagesOf : GoodIn wsX9_depth wsX2_pagesOf := goodIn_r _ [19, 15, 38, 39] (by decide +kernel) (by decide +kernel)
set_option maxRecDepth 20000 in
theorem gX9_depth_X2_pagesOf : GoodIn wsX9_depth (wsV RX9 184 RX2 yX2_pagesOf wsX2_pagesOf) := goodIn_app (goodIn_of _ (by decide +kernel)) ggX9_depth_X2_pagesOf
set_option maxRecDepth 20000 in
theorem ggX9_depth_J6_bitCount_0f7a4 : GoodIn wsX9_depth wsJ6_bitCount_0f7a4 := goodIn_r _ [23, 24, 25, 26] (by decide +kernel) (by decide +kernel)
set_option maxRecDepth 20000 in
theorem gX9_depth_J6_bitCount_0f7a4 : GoodIn wsX9_depth (va_wsS RX9 187 yJ6_bitCount_0f7a4 wsJ6_bitCount_0f7a4) := goodIn_app (goodIn_of _ (by decide +kernel)) ggX9_depth_J6_bitCount_0f7a4
set_option maxRecDepth 20000 in
theorem ggX9_work_X2_has : GoodIn wsX9_work wsX2_has := goodIn_r _ [10, 11, 12, 13, 14, 32, 33] (by decide +kernel) (by decide +kernel)
set_option maxRecDepth 20000 in
theorem gX9_work_X2_has : GoodIn wsX9_work (wsV RX9 131 RX2 yX2_has wsX2_has) := goodIn_app (goodIn_of _ (by decide +kernel)) ggX9_work_X2_has
set_option maxRecDepth 20000 in
theorem ggX9_work_X9_isWithin : GoodIn wsX9_work wsX9_isWithin := goodIn_r _ [14] (by decide +kernel) (by decide +kernel)
set_option maxRecDepth 20000 in
theorem gX9_work_X9_isWithin : GoodIn wsX9_work (va_wsS RX9 74 yX9_isWithin wsX9_isWithin) := goodIn_app (goodIn_of _ (by decide +kernel)) ggX9_work_X9_isWithin
set_option maxRecDepth 20000 in
theorem ggX9_work_X2_pagesOf : GoodIn wsX9_work wsX2_pagesOf := goodIn_r _ [19, 20, 32, 33] (by decide +kernel) (by decide +kernel)
set_option maxRecDepth 20000 in
theorem gX9_work_X2_pagesOf : GoodIn wsX9_work (wsV RX9 184 RX2 yX2_pagesOf wsX2_pagesOf) := goodIn_app (goodIn_of _ (by decide +kernel)) ggX9_work_X2_pagesOf
set_option maxRecDepth 20000 in
theorem ggX9_reading_X9_isDesk : GoodIn wsX9_reading wsX9_isDesk := goodIn_r _ [8, 9, 10, 11, 7, 12, 28, 29, 30, 31, 32, 33, 34, 35, 36, 37, 38] (by decide +kernel) (by decide +kernel)
set_option maxRecDepth 20000 in
theorem gX9_reading_X9_isDesk : GoodIn wsX9_reading (wsV RX9 102 RX9 yX9_isDesk wsX9_isDesk) := goodIn_app (goodIn_of _ (by decide +kernel)) ggX9_reading_X9_isDesk
set_option maxRecDepth 20000 in
theorem ggX9_reading_X2_has : GoodIn wsX9_reading wsX2_has := goodIn_r _ [17, 18, 11, 7, 12, 43, 44] (by decide +kernel) (by decide +kernel)
set_option maxRecDepth 20000 in
theorem gX9_reading_X2_has : GoodIn wsX9_reading (wsV RX9 131 RX2 yX2_has wsX2_has) := goodIn_app (goodIn_of _ (by decide +kernel)) ggX9_reading_X2_has
set_option maxRecDepth 20000 in
theorem ggX9_reading_X9_isWithin : GoodIn wsX9_reading wsX9_isWithin := goodIn_r _ [12] (by decide +kernel) (by decide +kernel)
set_option maxRecDepth 20000 in
theorem gX9_reading_X9_isWithin : GoodIn wsX9_reading (va_wsS RX9 74 yX9_isWithin wsX9_isWithin) := goodIn_app (goodIn_of _ (by decide +kernel)) ggX9_reading_X9_isWithin
set_option maxRecDepth 20000 in
theorem ggX9_reading_X4_append : GoodIn wsX9_reading wsX4_append := goodIn_r _ [23, 24, 25, 26, 27, 39, 40, 41, 42] (by decide +kernel) (by decide +kernel)
set_option maxRecDepth 20000 in
theorem gX9_reading_X4_append : GoodIn wsX9_reading (wsV RX9 197 RX4 yX4_append wsX4_append) := goodIn_app (goodIn_of _ (by decide +kernel)) ggX9_reading_X4_append
set_option maxRecDepth 20000 in
theorem ggX9_back_X9_isWithin : GoodIn wsX9_back wsX9_isWithin := goodIn_r _ [6] (by decide +kernel) (by decide +kernel)
set_option maxRecDepth 20000 in
theorem gX9_back_X9_isWithin : GoodIn wsX9_back (va_wsS RX9 74 yX9_isWithin wsX9_isWithin) := goodIn_app (goodIn_of _ (by decide +kernel)) ggX9_back_X9_isWithin
set_option maxRecDepth 20000 in
theorem ggX9_sizes_X9_isDesk : GoodIn wsX9_sizes wsX9_isDesk := goodIn_r _ [7, 8, 9, 10, 6, 11, 143, 144, 145, 146, 147, 148, 149, 150, 151, 152, 153] (by decide +kernel) (by decide +kernel)
set_option maxRecDepth 20000 in
theorem gX9_sizes_X9_isDesk : GoodIn wsX9_sizes (wsV RX9 102 RX9 yX9_isDesk wsX9_isDesk) := goodIn_app (goodIn_of _ (by decide +kernel)) ggX9_sizes_X9_isDesk
set_option maxRecDepth 20000 in
theorem ggX9_sizes_X9_othersAgree : GoodIn wsX9_sizes wsX9_othersAgree := goodIn_r _ [15, 8, 2, 1, 16, 17, 18, 19, 20, 21, 22, 23, 24, 25, 26, 27, 28, 29, 30, 31, 32, 33, 34, 35, 6, 36, 37, 38, 39, 40, 41, 42, 43, 44, 45, 46, 47, 48, 49, 50, 51, 52, 53, 54, 55, 56, 57, 58, 59, 60, 61, 62, 63, 64, 65, 66, 67, 68, 69, 70, 71, 72, 73, 74, 75, 76, 77, 78, 79, 80, 81, 82, 83, 84, 85, 86, 87, 88, 89, 90, 91, 92, 93, 94, 95, 96, 97, 98, 99, 100, 101, 102, 103, 104, 105, 106, 107, 108, 109, 110, 111, 112, 113, 114, 115, 116, 117, 118, 119, 120, 121, 122, 123, 124, 125, 126, 127, 128, 129, 130, 131, 132, 133, 134, 135, 136, 137, 138, 139, 140, 141, 142, 143, 144, 145, 146, 147, 148, 149, 150, 151, 152, 153, 154, 155, 156, 157, 158, 159, 160, 161, 162, 163, 164, 165, 166, 167, 168, 169, 170, 171, 172, 173, 174] (by decide +kernel) (by decide +kernel)
set_option maxRecDepth 20000 in
theorem gX9_sizes_X9_othersAgree : GoodIn wsX9_sizes (wsV RX9 200 RX9 yX9_othersAgree wsX9_othersAgree) := goodIn_app (goodIn_of _ (by decide +kernel)) ggX9_sizes_X9_othersAgree
set_option maxRecDepth 20000 in
theorem ggX9_sizes_X0_kind : GoodIn wsX9_sizes wsX0_kind := goodIn_r _ [23] (by decide +kernel) (by decide +kernel)
set_option maxRecDepth 20000 in
theorem gX9_sizes_X0_kind_u105X0 : GoodIn wsX9_sizes (va_wsO RX9 105 RX0 "PageDesks$Queue" ⟨"PageDesks$Queue", "kind", "()I"⟩ yX0_kind wsX0_kind) := goodIn_app (goodIn_of _ (by decide +kernel)) ggX9_sizes_X0_kind
set_option maxRecDepth 20000 in
theorem ggX9_sizes_X3_kind : GoodIn wsX9_sizes wsX3_kind := goodIn_r _ [24] (by decide +kernel) (by decide +kernel)
set_option maxRecDepth 20000 in
theorem gX9_sizes_X3_kind : GoodIn wsX9_sizes (wsV RX9 105 RX3 yX3_kind wsX3_kind) := goodIn_app (goodIn_of _ (by decide +kernel)) ggX9_sizes_X3_kind
set_option maxRecDepth 20000 in
theorem ggX9_sizes_X5_kind : GoodIn wsX9_sizes wsX5_kind := goodIn_r _ [32] (by decide +kernel) (by decide +kernel)
set_option maxRecDepth 20000 in
theorem gX9_sizes_X5_kind_u105X5 : GoodIn wsX9_sizes (va_wsO RX9 105 RX5 "PageDesks$Queue" ⟨"PageDesks$Queue", "kind", "()I"⟩ yX5_kind wsX5_kind) := goodIn_app (goodIn_of _ (by decide +kernel)) ggX9_sizes_X5_kind
set_option maxRecDepth 20000 in
theorem ggX9_sizes_X9_hitsOf : GoodIn wsX9_sizes wsX9_hitsOf := goodIn_r _ [36, 37, 38, 39, 40, 41, 42, 43, 44, 28, 45, 46, 47, 48, 49, 50, 51, 52, 53, 54, 55, 56, 57, 58, 59, 60, 61, 62, 63, 64, 65, 66, 67, 68, 69, 70, 71, 22, 72, 73, 74, 75, 76, 77, 78, 79, 80, 81, 82, 31, 83, 84, 85, 86, 87, 88, 89, 90, 91, 92, 93, 94, 95, 96, 97, 98, 99, 100, 101, 102, 103, 104, 105, 106, 107, 108, 109, 110, 111, 112, 113, 114, 115, 116, 117, 118, 119, 120, 121, 122, 123, 124, 125, 126, 127, 128, 129, 130, 131, 132, 133, 143, 144, 145, 146, 147, 148, 149, 150, 151, 152, 153, 169, 170, 154, 155, 156, 157, 158, 159, 160, 161, 162, 163, 164, 165, 166, 167, 168] (by decide +kernel) (by decide +kernel)
