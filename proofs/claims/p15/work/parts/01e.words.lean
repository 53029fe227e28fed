set_option maxRecDepth 20000 in
theorem ggX0_init_J7_fill_53178 : GoodIn wsX0_init wsJ7_fill_53178 := goodIn_r _ [13] (by decide +kernel) (by decide +kernel)
set_option maxRecDepth 20000 in
theorem gX0_init_J7_fill_53178 : GoodIn wsX0_init (va_wsS RX0 25 yJ7_fill_53178 wsJ7_fill_53178) := goodIn_app (goodIn_of _ (by decide +kernel)) ggX0_init_J7_fill_53178
set_option maxRecDepth 20000 in
theorem ggX0_findBest_J7_fill_53178 : GoodIn wsX0_findBest wsJ7_fill_53178 := goodIn_r _ [15] (by decide +kernel) (by decide +kernel)
set_option maxRecDepth 20000 in
theorem gX0_findBest_J7_fill_53178 : GoodIn wsX0_findBest (va_wsS RX0 25 yJ7_fill_53178 wsJ7_fill_53178) := goodIn_app (goodIn_of _ (by decide +kernel)) ggX0_findBest_J7_fill_53178
set_option maxRecDepth 20000 in
theorem ggX0_findBest_X0_chooseFrom : GoodIn wsX0_findBest wsX0_chooseFrom := goodIn_r _ [19, 8, 10, 11, 20, 9, 3, 4, 5, 6, 21, 22, 23, 24, 18, 25, 2, 26, 7, 27, 28, 29, 30, 31, 32, 33, 34, 35, 36, 37, 38, 39, 40, 41, 42, 16, 17, 46, 47, 48, 49, 50, 51, 52, 53, 54, 55, 56, 57, 58, 59, 60, 61, 62, 63] (by decide +kernel) (by decide +kernel)
set_option maxRecDepth 20000 in
theorem gX0_findBest_X0_chooseFrom : GoodIn wsX0_findBest (va_wsS RX0 54 yX0_chooseFrom wsX0_chooseFrom) := goodIn_app (goodIn_of _ (by decide +kernel)) ggX0_findBest_X0_chooseFrom
set_option maxRecDepth 20000 in
theorem ggX0_count_X0_countFrom : GoodIn wsX0_count wsX0_countFrom := goodIn_r _ [11, 12, 13, 7, 14, 15, 16, 17, 10, 18, 2, 19, 20, 21, 22, 23, 24, 25, 26, 27, 28, 29, 30, 31, 32, 33, 34, 35, 36, 8, 9, 40, 41, 42, 43, 44, 45, 46, 47, 48, 49, 50, 51, 52, 53, 54, 55, 56, 57] (by decide +kernel) (by decide +kernel)
set_option maxRecDepth 20000 in
theorem gX0_count_X0_countFrom : GoodIn wsX0_count (va_wsS RX0 61 yX0_countFrom wsX0_countFrom) := goodIn_app (goodIn_of _ (by decide +kernel)) ggX0_count_X0_countFrom
set_option maxRecDepth 20000 in
theorem ggX0_chooseFrom_X0_fittingAt : GoodIn wsX0_chooseFrom wsX0_fittingAt := goodIn_r _ [15, 16, 2, 17, 18, 19, 20, 4, 21, 22, 23, 24, 25, 26, 27, 28, 29, 30, 31, 32, 33, 34, 37, 38, 39, 40, 41, 42, 43, 44, 45, 46, 47, 48, 49, 50, 51, 52, 53, 54] (by decide +kernel) (by decide +kernel)
set_option maxRecDepth 20000 in
theorem gX0_chooseFrom_X0_fittingAt : GoodIn wsX0_chooseFrom (wsV RX0 65 RX0 yX0_fittingAt wsX0_fittingAt) := goodIn_app (goodIn_of _ (by decide +kernel)) ggX0_chooseFrom_X0_fittingAt
set_option maxRecDepth 20000 in
theorem ggX0_chooseFrom_X5_contains : GoodIn wsX0_chooseFrom wsX5_contains := goodIn_r _ [23] (by decide +kernel) (by decide +kernel)
set_option maxRecDepth 20000 in
theorem gX0_chooseFrom_X5_contains_n69 : GoodIn wsX0_chooseFrom (wsX5_contains) := ggX0_chooseFrom_X5_contains
set_option maxRecDepth 20000 in
theorem ggX0_chooseFrom_X0_chooseFrom : GoodIn wsX0_chooseFrom wsX0_chooseFrom := goodIn_r _ [0, 1, 2, 3, 4, 5, 6, 7, 8, 9, 10, 11, 12, 13, 14, 15, 16, 17, 18, 19, 20, 21, 22, 23, 24, 25, 26, 27, 28, 29, 30, 31, 32, 33, 34, 35, 36, 37, 38, 39, 40, 41, 42, 43, 44, 45, 46, 47, 48, 49, 50, 51, 52, 53, 54] (by decide +kernel) (by decide +kernel)
set_option maxRecDepth 20000 in
theorem gX0_chooseFrom_X0_chooseFrom : GoodIn wsX0_chooseFrom (va_wsS RX0 54 yX0_chooseFrom wsX0_chooseFrom) := goodIn_app (goodIn_of _ (by decide +kernel)) ggX0_chooseFrom_X0_chooseFrom
set_option maxRecDepth 20000 in
theorem ggX0_countFrom_X0_fittingAt : GoodIn wsX0_countFrom wsX0_fittingAt := goodIn_r _ [9, 10, 1, 11, 12, 13, 14, 4, 15, 16, 17, 18, 19, 20, 21, 22, 23, 24, 25, 26, 27, 28, 31, 32, 33, 34, 35, 36, 37, 38, 39, 40, 41, 42, 43, 44, 45, 46, 47, 48] (by decide +kernel) (by decide +kernel)
set_option maxRecDepth 20000 in
theorem gX0_countFrom_X0_fittingAt : GoodIn wsX0_countFrom (wsV RX0 65 RX0 yX0_fittingAt wsX0_fittingAt) := goodIn_app (goodIn_of _ (by decide +kernel)) ggX0_countFrom_X0_fittingAt
set_option maxRecDepth 20000 in
theorem ggX0_countFrom_X5_contains : GoodIn wsX0_countFrom wsX5_contains := goodIn_r _ [17] (by decide +kernel) (by decide +kernel)
set_option maxRecDepth 20000 in
theorem gX0_countFrom_X5_contains_n69 : GoodIn wsX0_countFrom (wsX5_contains) := ggX0_countFrom_X5_contains
set_option maxRecDepth 20000 in
theorem ggX0_countFrom_X0_countFrom : GoodIn wsX0_countFrom wsX0_countFrom := goodIn_r _ [0, 1, 2, 3, 4, 5, 6, 7, 8, 9, 10, 11, 12, 13, 14, 15, 16, 17, 18, 19, 20, 21, 22, 23, 24, 25, 26, 27, 28, 29, 30, 31, 32, 33, 34, 35, 36, 37, 38, 39, 40, 41, 42, 43, 44, 45, 46, 47, 48] (by decide +kernel) (by decide +kernel)
set_option maxRecDepth 20000 in
theorem gX0_countFrom_X0_countFrom : GoodIn wsX0_countFrom (va_wsS RX0 61 yX0_countFrom wsX0_countFrom) := goodIn_app (goodIn_of _ (by decide +kernel)) ggX0_countFrom_X0_countFrom
set_option maxRecDepth 20000 in
theorem ggX0_fittingAt_X5_contains : GoodIn wsX0_fittingAt wsX5_contains := goodIn_r _ [10] (by decide +kernel) (by decide +kernel)
set_option maxRecDepth 20000 in
theorem gX0_fittingAt_X5_contains_n69 : GoodIn wsX0_fittingAt (wsX5_contains) := ggX0_fittingAt_X5_contains
set_option maxRecDepth 20000 in
theorem ggX0_fittingAt_X2_isOfTwo : GoodIn wsX0_fittingAt wsX2_isOfTwo := goodIn_r _ [15, 16, 29, 30, 31, 32, 33, 34, 35, 36, 37, 38, 39] (by decide +kernel) (by decide +kernel)
set_option maxRecDepth 20000 in
theorem gX0_fittingAt_X2_isOfTwo : GoodIn wsX0_fittingAt (wsV RX0 77 RX2 yX2_isOfTwo wsX2_isOfTwo) := goodIn_app (goodIn_of _ (by decide +kernel)) ggX0_fittingAt_X2_isOfTwo
set_option maxRecDepth 20000 in
theorem ggX0_fittingAt_X2_letsByOther : GoodIn wsX0_fittingAt wsX2_letsByOther := goodIn_r _ [20, 16, 21, 29, 30, 31, 32, 33, 34, 35, 36, 37, 38, 39] (by decide +kernel) (by decide +kernel)
set_option maxRecDepth 20000 in
theorem gX0_fittingAt_X2_letsByOther : GoodIn wsX0_fittingAt (wsV RX0 87 RX2 yX2_letsByOther wsX2_letsByOther) := goodIn_app (goodIn_of _ (by decide +kernel)) ggX0_fittingAt_X2_letsByOther
set_option maxRecDepth 20000 in
theorem ggX1_init_J7_fill_53178 : GoodIn wsX1_init wsJ7_fill_53178 := goodIn_r _ [12] (by decide +kernel) (by decide +kernel)
set_option maxRecDepth 20000 in
theorem gX1_init_J7_fill_53178 : GoodIn wsX1_init (va_wsS RX1 23 yJ7_fill_53178 wsJ7_fill_53178) := goodIn_app (goodIn_of _ (by decide +kernel)) ggX1_init_J7_fill_53178
set_option maxRecDepth 20000 in
theorem ggX1_bring_X1_drifting : GoodIn wsX1_bring wsX1_drifting := goodIn_r _ [12, 13, 14, 15, 11, 16, 1, 17, 3, 2, 18, 19, 20, 21] (by decide +kernel) (by decide +kernel)
set_option maxRecDepth 20000 in
theorem gX1_bring_X1_drifting : GoodIn wsX1_bring (wsV RX1 39 RX1 yX1_drifting wsX1_drifting) := goodIn_app (goodIn_of _ (by decide +kernel)) ggX1_bring_X1_drifting
set_option maxRecDepth 20000 in
theorem ggX1_drifting_X1_drifts : GoodIn wsX1_drifting wsX1_drifts := goodIn_r _ [5, 6, 7, 8, 9, 10, 11, 12, 13] (by decide +kernel) (by decide +kernel)
set_option maxRecDepth 20000 in
theorem gX1_drifting_X1_drifts : GoodIn wsX1_drifting (wsV RX1 43 RX1 yX1_drifts wsX1_drifts) := goodIn_app (goodIn_of _ (by decide +kernel)) ggX1_drifting_X1_drifts
set_option maxRecDepth 20000 in
theorem ggX1_driftingMachines_X1_drifting : GoodIn wsX1_driftingMachines wsX1_drifting := goodIn_r _ [5, 6, 7, 8, 4, 9, 10, 11, 12, 13, 14, 15, 16, 17] (by decide +kernel) (by decide +kernel)
set_option maxRecDepth 20000 in
theorem gX1_driftingMachines_X1_drifting : GoodIn wsX1_driftingMachines (wsV RX1 39 RX1 yX1_drifting wsX1_drifting) := goodIn_app (goodIn_of _ (by decide +kernel)) ggX1_driftingMachines_X1_drifting
set_option maxRecDepth 20000 in
theorem ggX2_countingLines_X2_counts : GoodIn wsX2_countingLines wsX2_counts := goodIn_r _ [6, 7, 8, 9, 10, 11, 12, 13, 14, 15, 16, 17, 18, 19, 20, 21, 22] (by decide +kernel) (by decide +kernel)
set_option maxRecDepth 20000 in
theorem gX2_countingLines_X2_counts : GoodIn wsX2_countingLines (wsV RX2 47 RX2 yX2_counts wsX2_counts) := goodIn_app (goodIn_of _ (by decide +kernel)) ggX2_countingLines_X2_counts
set_option maxRecDepth 20000 in
theorem ggX2_strictLines_X2_counts : GoodIn wsX2_strictLines wsX2_counts := goodIn_r _ [7, 8, 9, 10, 11, 12, 13, 14, 15, 16, 17, 18, 19, 20, 21, 22, 23] (by decide +kernel) (by decide +kernel)
set_option maxRecDepth 20000 in
theorem gX2_strictLines_X2_counts : GoodIn wsX2_strictLines (wsV RX2 47 RX2 yX2_counts wsX2_counts) := goodIn_app (goodIn_of _ (by decide +kernel)) ggX2_strictLines_X2_counts
set_option maxRecDepth 20000 in
theorem ggX2_defaultsOf_X2_counts : GoodIn wsX2_defaultsOf wsX2_counts := goodIn_r _ [10, 11, 12, 13, 14, 3, 15, 16, 17, 18, 19, 20, 21, 22, 23, 24, 25] (by decide +kernel) (by decide +kernel)
set_option maxRecDepth 20000 in
theorem gX2_defaultsOf_X2_counts : GoodIn wsX2_defaultsOf (wsV RX2 47 RX2 yX2_counts wsX2_counts) := goodIn_app (goodIn_of _ (by decide +kernel)) ggX2_defaultsOf_X2_counts
set_option maxRecDepth 20000 in
theorem ggX3_begin_J7_fill_53178 : GoodIn wsX3_begin wsJ7_fill_53178 := goodIn_r _ [5] (by decide +kernel) (by decide +kernel)
set_option maxRecDepth 20000 in
theorem gX3_begin_J7_fill_53178 : GoodIn wsX3_begin (va_wsS RX3 19 yJ7_fill_53178 wsJ7_fill_53178) := goodIn_app (goodIn_of _ (by decide +kernel)) ggX3_begin_J7_fill_53178
set_option maxRecDepth 20000 in
theorem ggX3_begin_X3_goOn : GoodIn wsX3_begin wsX3_goOn := goodIn_r _ [10, 11, 12, 13, 14, 1, 15, 16, 17, 18, 19, 20, 9, 21, 22, 23, 24, 25, 26, 27, 28, 29, 30, 31, 32, 33, 34, 35, 36, 37, 38, 39, 2, 3, 4, 5, 40, 41, 42, 43, 44, 45, 46, 47, 48, 49, 50, 51, 52, 53] (by decide +kernel) (by decide +kernel)
set_option maxRecDepth 20000 in
theorem gX3_begin_X3_goOn : GoodIn wsX3_begin (wsV RX3 25 RX3 yX3_goOn wsX3_goOn) := goodIn_app (goodIn_of _ (by decide +kernel)) ggX3_begin_X3_goOn
set_option maxRecDepth 20000 in
theorem ggX3_goOn_X5_contains : GoodIn wsX3_goOn wsX5_contains := goodIn_r _ [8] (by decide +kernel) (by decide +kernel)
set_option maxRecDepth 20000 in
theorem gX3_goOn_X5_contains_n45 : GoodIn wsX3_goOn (wsX5_contains) := ggX3_goOn_X5_contains
set_option maxRecDepth 20000 in
theorem ggX3_goOn_X3_takesAway : GoodIn wsX3_goOn wsX3_takesAway := goodIn_r _ [13, 1, 14, 5, 15, 16, 17, 18, 19, 20, 21, 22, 23, 24, 25, 26, 27, 28, 29, 30, 31, 36, 37, 38, 39, 40, 41, 42, 43, 44, 45, 46, 47, 48, 49] (by decide +kernel) (by decide +kernel)
set_option maxRecDepth 20000 in
theorem gX3_goOn_X3_takesAway : GoodIn wsX3_goOn (wsV RX3 49 RX3 yX3_takesAway wsX3_takesAway) := goodIn_app (goodIn_of _ (by decide +kernel)) ggX3_goOn_X3_takesAway
set_option maxRecDepth 20000 in
theorem ggX3_goOn_J7_fill_53178 : GoodIn wsX3_goOn wsJ7_fill_53178 := goodIn_r _ [35] (by decide +kernel) (by decide +kernel)
set_option maxRecDepth 20000 in
theorem gX3_goOn_J7_fill_53178 : GoodIn wsX3_goOn (va_wsS RX3 19 yJ7_fill_53178 wsJ7_fill_53178) := goodIn_app (goodIn_of _ (by decide +kernel)) ggX3_goOn_J7_fill_53178
set_option maxRecDepth 20000 in
theorem ggX3_takesAway_X2_isOfTwo : GoodIn wsX3_takesAway wsX2_isOfTwo := goodIn_r _ [9, 10, 24, 25, 26, 27, 28, 29, 30, 31, 32, 33, 34] (by decide +kernel) (by decide +kernel)
set_option maxRecDepth 20000 in
theorem gX3_takesAway_X2_isOfTwo : GoodIn wsX3_takesAway (wsV RX3 59 RX2 yX2_isOfTwo wsX2_isOfTwo) := goodIn_app (goodIn_of _ (by decide +kernel)) ggX3_takesAway_X2_isOfTwo
set_option maxRecDepth 20000 in
theorem ggX3_takesAway_X2_letsAlone : GoodIn wsX3_takesAway wsX2_letsAlone := goodIn_r _ [14, 10, 15, 24, 25, 26, 27, 28, 29, 30, 31, 32, 33, 34] (by decide +kernel) (by decide +kernel)
set_option maxRecDepth 20000 in
theorem gX3_takesAway_X2_letsAlone : GoodIn wsX3_takesAway (wsV RX3 62 RX2 yX2_letsAlone wsX2_letsAlone) := goodIn_app (goodIn_of _ (by decide +kernel)) ggX3_takesAway_X2_letsAlone
set_option maxRecDepth 20000 in
theorem ggX3_takesAway_X2_letsByOther : GoodIn wsX3_takesAway wsX2_letsByOther := goodIn_r _ [19, 10, 20, 24, 25, 26, 27, 28, 29, 30, 31, 32, 33, 34] (by decide +kernel) (by decide +kernel)
set_option maxRecDepth 20000 in
theorem gX3_takesAway_X2_letsByOther : GoodIn wsX3_takesAway (wsV RX3 69 RX2 yX2_letsByOther wsX2_letsByOther) := goodIn_app (goodIn_of _ (by decide +kernel)) ggX3_takesAway_X2_letsByOther
set_option maxRecDepth 20000 in
theorem ggX4_init_X3_init : GoodIn wsX4_init wsX3_init := goodIn_r _ [19, 20, 2, 3, 4, 21, 22, 44, 45, 46] (by decide +kernel) (by decide +kernel)
set_option maxRecDepth 20000 in
theorem gX4_init_X3_init : GoodIn wsX4_init (wsX3_init) := ggX4_init_X3_init
set_option maxRecDepth 20000 in
theorem ggX4_init_X0_init : GoodIn wsX4_init wsX0_init := goodIn_r _ [25, 26, 2, 3, 4, 27, 28, 29, 30, 31, 32, 33, 34, 35, 47, 48, 49, 50, 51, 52, 53] (by decide +kernel) (by decide +kernel)
set_option maxRecDepth 20000 in
theorem gX4_init_X0_init : GoodIn wsX4_init (wsX0_init) := ggX4_init_X0_init
set_option maxRecDepth 20000 in
theorem ggX4_init_J7_fill_53178 : GoodIn wsX4_init wsJ7_fill_53178 := goodIn_r _ [35] (by decide +kernel) (by decide +kernel)
set_option maxRecDepth 20000 in
theorem gX4_init_J7_fill_53178 : GoodIn wsX4_init (va_wsS RX4 41 yJ7_fill_53178 wsJ7_fill_53178) := goodIn_app (goodIn_of _ (by decide +kernel)) ggX4_init_J7_fill_53178
set_option maxRecDepth 20000 in
theorem ggX4_renew_X2_strictLines : GoodIn wsX4_renew wsX2_strictLines := goodIn_r _ [13, 14, 15, 16, 17, 18, 12, 19, 20, 21, 22, 23, 24, 131, 132, 133, 134, 135, 136, 137, 138, 139, 140, 141] (by decide +kernel) (by decide +kernel)
set_option maxRecDepth 20000 in
theorem gX4_renew_X2_strictLines : GoodIn wsX4_renew (wsV RX4 47 RX2 yX2_strictLines wsX2_strictLines) := goodIn_app (goodIn_of _ (by decide +kernel)) ggX4_renew_X2_strictLines
set_option maxRecDepth 20000 in
theorem ggX4_renew_X3_begin : GoodIn wsX4_renew wsX3_begin := goodIn_r _ [29, 30, 31, 32, 33, 34, 35, 36, 37, 28, 38, 39, 40, 41, 42, 43, 44, 45, 46, 47, 48, 49, 50, 51, 52, 53, 54, 12, 55, 15, 56, 57, 58, 59, 60, 61, 62, 63, 64, 65, 142, 143, 144, 131, 132, 133, 134, 135, 136, 137, 138, 139, 140, 141] (by decide +kernel) (by decide +kernel)
set_option maxRecDepth 20000 in
theorem gX4_renew_X3_begin : GoodIn wsX4_renew (wsV RX4 57 RX3 yX3_begin wsX3_begin) := goodIn_app (goodIn_of _ (by decide +kernel)) ggX4_renew_X3_begin
set_option maxRecDepth 20000 in
theorem ggX4_renew_X0_findBest : GoodIn wsX4_renew wsX0_findBest := goodIn_r _ [70, 71, 72, 73, 74, 75, 76, 77, 78, 79, 80, 81, 82, 32, 33, 34, 83, 84, 69, 85, 86, 87, 88, 89, 90, 91, 92, 93, 94, 43, 44, 45, 95, 53, 54, 12, 55, 15, 96, 62, 63, 64, 65, 142, 143, 144, 145, 146, 147, 148, 149, 150, 151, 131, 132, 133, 134, 135, 136, 137, 138, 139, 140, 141] (by decide +kernel) (by decide +kernel)
set_option maxRecDepth 20000 in
theorem gX4_renew_X0_findBest : GoodIn wsX4_renew (wsV RX4 61 RX0 yX0_findBest wsX0_findBest) := goodIn_app (goodIn_of _ (by decide +kernel)) ggX4_renew_X0_findBest
set_option maxRecDepth 20000 in
theorem ggX4_renew_X3_copy : GoodIn wsX4_renew wsX3_copy := goodIn_r _ [100, 30, 101, 74, 75, 76, 41, 142, 143, 144] (by decide +kernel) (by decide +kernel)
set_option maxRecDepth 20000 in
theorem gX4_renew_X3_copy : GoodIn wsX4_renew (wsV RX4 65 RX3 yX3_copy wsX3_copy) := goodIn_app (goodIn_of _ (by decide +kernel)) ggX4_renew_X3_copy
set_option maxRecDepth 20000 in
theorem ggX4_renew_X4_takeDefault : GoodIn wsX4_renew wsX4_takeDefault := goodIn_r _ [106, 5, 8, 1, 107, 2, 108, 109, 110, 111, 112, 113, 114, 115, 116, 117, 118, 12, 119, 14, 15, 24, 65, 60, 16, 17, 18, 19, 20, 21, 22, 23, 43, 44, 45, 97, 98, 99, 28, 100, 30, 101, 74, 75, 76, 41, 120, 36, 37, 38, 39, 40, 42, 46, 47, 48, 49, 50, 51, 52, 53, 54, 55, 56, 57, 58, 59, 61, 62, 63, 64, 31, 32, 33, 34, 124, 125, 126, 127, 128, 129, 130, 142, 143, 144, 131, 132, 133, 134, 135, 136, 137, 138, 139, 140, 141] (by decide +kernel) (by decide +kernel)
set_option maxRecDepth 20000 in
theorem gX4_renew_X4_takeDefault : GoodIn wsX4_renew (wsV RX4 72 RX4 yX4_takeDefault wsX4_takeDefault) := goodIn_app (goodIn_of _ (by decide +kernel)) ggX4_renew_X4_takeDefault
set_option maxRecDepth 20000 in
theorem ggX4_renew_X4_onlyNumber : GoodIn wsX4_renew wsX4_onlyNumber := goodIn_r _ [123] (by decide +kernel) (by decide +kernel)
set_option maxRecDepth 20000 in
theorem gX4_renew_X4_onlyNumber : GoodIn wsX4_renew (va_wsS RX4 78 yX4_onlyNumber wsX4_onlyNumber) := goodIn_app (goodIn_of _ (by decide +kernel)) ggX4_renew_X4_onlyNumber
set_option maxRecDepth 20000 in
theorem ggX4_takeDefault_J6_bitCount_0f7a4 : GoodIn wsX4_takeDefault wsJ6_bitCount_0f7a4 := goodIn_r _ [10, 11, 12, 13] (by decide +kernel) (by decide +kernel)
set_option maxRecDepth 20000 in
theorem gX4_takeDefault_J6_bitCount_0f7a4 : GoodIn wsX4_takeDefault (va_wsS RX4 82 yJ6_bitCount_0f7a4 wsJ6_bitCount_0f7a4) := goodIn_app (goodIn_of _ (by decide +kernel)) ggX4_takeDefault_J6_bitCount_0f7a4
set_option maxRecDepth 20000 in
theorem ggX4_takeDefault_X2_defaultsOf : GoodIn wsX4_takeDefault wsX2_defaultsOf := goodIn_r _ [18, 19, 20, 21, 22, 23, 24, 25, 26, 17, 27, 28, 29, 30, 31, 85, 86, 87, 88, 89, 90, 91, 92, 93, 94, 95] (by decide +kernel) (by decide +kernel)
set_option maxRecDepth 20000 in
theorem gX4_takeDefault_X2_defaultsOf : GoodIn wsX4_takeDefault (wsV RX4 87 RX2 yX2_defaultsOf wsX2_defaultsOf) := goodIn_app (goodIn_of _ (by decide +kernel)) ggX4_takeDefault_X2_defaultsOf
set_option maxRecDepth 20000 in
theorem ggX4_takeDefault_X5_contains : GoodIn wsX4_takeDefault wsX5_contains := goodIn_r _ [34] (by decide +kernel) (by decide +kernel)
set_option maxRecDepth 20000 in
theorem gX4_takeDefault_X5_contains_n91 : GoodIn wsX4_takeDefault (wsX5_contains) := ggX4_takeDefault_X5_contains
set_option maxRecDepth 20000 in
theorem ggX4_takeDefault_X3_copy : GoodIn wsX4_takeDefault wsX3_copy := goodIn_r _ [39, 40, 41, 42, 43, 44, 45, 82, 83, 84] (by decide +kernel) (by decide +kernel)
set_option maxRecDepth 20000 in
theorem gX4_takeDefault_X3_copy : GoodIn wsX4_takeDefault (wsV RX4 65 RX3 yX3_copy wsX3_copy) := goodIn_app (goodIn_of _ (by decide +kernel)) ggX4_takeDefault_X3_copy
set_option maxRecDepth 20000 in
theorem ggX4_takeDefault_X3_goOn : GoodIn wsX4_takeDefault wsX3_goOn := goodIn_r _ [49, 50, 51, 45, 52, 40, 32, 33, 34, 53, 54, 55, 38, 56, 57, 58, 59, 60, 61, 17, 62, 20, 63, 64, 65, 66, 23, 67, 68, 69, 70, 22, 71, 72, 73, 74, 82, 83, 84, 85, 86, 87, 88, 89, 90, 91, 92, 93, 94, 95] (by decide +kernel) (by decide +kernel)
set_option maxRecDepth 20000 in
theorem gX4_takeDefault_X3_goOn : GoodIn wsX4_takeDefault (wsV RX4 95 RX3 yX3_goOn wsX3_goOn) := goodIn_app (goodIn_of _ (by decide +kernel)) ggX4_takeDefault_X3_goOn
set_option maxRecDepth 20000 in
theorem ggX4_reasonOf_X3_begin : GoodIn wsX4_reasonOf wsX3_begin := goodIn_r _ [13, 14, 15, 16, 17, 18, 19, 20, 21, 12, 22, 23, 24, 25, 26, 27, 28, 29, 30, 31, 32, 33, 34, 35, 36, 37, 38, 39, 40, 41, 42, 43, 44, 45, 46, 47, 48, 49, 50, 51, 70, 71, 72, 59, 60, 61, 62, 63, 64, 65, 66, 67, 68, 69] (by decide +kernel) (by decide +kernel)
set_option maxRecDepth 20000 in
theorem gX4_reasonOf_X3_begin : GoodIn wsX4_reasonOf (wsV RX4 57 RX3 yX3_begin wsX3_begin) := goodIn_app (goodIn_of _ (by decide +kernel)) ggX4_reasonOf_X3_begin
set_option maxRecDepth 20000 in
theorem ggX5_init_X2_init : GoodIn wsX5_init wsX2_init := goodIn_r _ [18, 19, 2, 3, 20, 21, 22, 23, 24, 25, 26, 27, 28, 29, 30, 76, 77, 78, 79, 80, 81, 82, 83, 84, 85, 86] (by decide +kernel) (by decide +kernel)
set_option maxRecDepth 20000 in
theorem gX5_init_X2_init_n9 : GoodIn wsX5_init (wsX2_init) := ggX5_init_X2_init
set_option maxRecDepth 20000 in
theorem ggX5_init_X4_init : GoodIn wsX5_init wsX4_init := goodIn_r _ [33, 34, 2, 3, 20, 35, 36, 37, 38, 39, 40, 41, 42, 43, 44, 45, 46, 47, 48, 49, 50, 51, 52, 53, 54, 55, 56, 57, 58, 59, 60, 61, 62, 63, 64, 65, 66, 91, 92, 93, 94, 95, 96, 97, 102, 103, 104, 105, 106, 107, 108, 109, 110, 111] (by decide +kernel) (by decide +kernel)
set_option maxRecDepth 20000 in
theorem gX5_init_X4_init : GoodIn wsX5_init (wsX4_init) := ggX5_init_X4_init
set_option maxRecDepth 20000 in
theorem ggX5_init_X1_init : GoodIn wsX5_init wsX1_init := goodIn_r _ [69, 70, 2, 3, 71, 20, 72, 73, 74, 75, 63, 64, 65, 98, 99, 100, 101] (by decide +kernel) (by decide +kernel)
set_option maxRecDepth 20000 in
theorem gX5_init_X1_init : GoodIn wsX5_init (wsX1_init) := ggX5_init_X1_init
set_option maxRecDepth 20000 in
theorem ggX5_field_X5_isTeam : GoodIn wsX5_field wsX5_isTeam := goodIn_r _ [11] (by decide +kernel) (by decide +kernel)
set_option maxRecDepth 20000 in
theorem gX5_field_X5_isTeam : GoodIn wsX5_field (va_wsS RX5 36 yX5_isTeam wsX5_isTeam) := goodIn_app (goodIn_of _ (by decide +kernel)) ggX5_field_X5_isTeam
set_option maxRecDepth 20000 in
theorem ggX5_field_X2_makeField : GoodIn wsX5_field wsX2_makeField := goodIn_r _ [16, 17, 18, 19, 148, 149, 150, 151, 152, 153, 154, 155, 156, 157, 158] (by decide +kernel) (by decide +kernel)
set_option maxRecDepth 20000 in
theorem gX5_field_X2_makeField : GoodIn wsX5_field (wsV RX5 55 RX2 yX2_makeField wsX2_makeField) := goodIn_app (goodIn_of _ (by decide +kernel)) ggX5_field_X2_makeField
set_option maxRecDepth 20000 in
theorem ggX5_field_X4_renew : GoodIn wsX5_field wsX4_renew := goodIn_r _ [24, 25, 26, 27, 28, 29, 30, 31, 32, 33, 34, 35, 15, 36, 37, 38, 39, 40, 41, 42, 43, 44, 45, 18, 46, 47, 48, 49, 50, 51, 52, 53, 54, 55, 56, 57, 58, 59, 60, 61, 62, 63, 64, 65, 10, 66, 67, 68, 69, 70, 71, 72, 73, 74, 75, 76, 77, 78, 79, 80, 81, 82, 83, 84, 85, 86, 87, 88, 89, 90, 91, 92, 93, 94, 95, 96, 97, 98, 99, 100, 101, 102, 103, 104, 105, 106, 107, 108, 109, 110, 111, 112, 113, 114, 115, 116, 117, 118, 119, 120, 121, 122, 123, 124, 125, 23, 126, 127, 128, 129, 130, 131, 132, 133, 134, 135, 136, 137, 138, 139, 140, 141, 142, 143, 159, 160, 161, 162, 163, 164, 165, 148, 149, 150, 151, 152, 153, 154, 155, 156, 157, 158, 166, 167, 168, 169, 170, 171, 172, 173, 174, 175] (by decide +kernel) (by decide +kernel)
set_option maxRecDepth 20000 in
theorem gX5_field_X4_renew : GoodIn wsX5_field (wsV RX5 59 RX4 yX4_renew wsX4_renew) := goodIn_app (goodIn_of _ (by decide +kernel)) ggX5_field_X4_renew
set_option maxRecDepth 20000 in
theorem ggX5_oneOf_X5_isField : GoodIn wsX5_oneOf wsX5_isField := goodIn_r _ [13, 7, 14, 153, 154, 155, 156, 157, 158, 159, 160, 161, 162, 163, 164, 165, 166, 167] (by decide +kernel) (by decide +kernel)
set_option maxRecDepth 20000 in
theorem gX5_oneOf_X5_isField : GoodIn wsX5_oneOf (wsV RX5 62 RX5 yX5_isField wsX5_isField) := goodIn_app (goodIn_of _ (by decide +kernel)) ggX5_oneOf_X5_isField
set_option maxRecDepth 20000 in
theorem ggX5_oneOf_X5_isTeam : GoodIn wsX5_oneOf wsX5_isTeam := goodIn_r _ [17] (by decide +kernel) (by decide +kernel)
set_option maxRecDepth 20000 in
theorem gX5_oneOf_X5_isTeam : GoodIn wsX5_oneOf (va_wsS RX5 36 yX5_isTeam wsX5_isTeam) := goodIn_app (goodIn_of _ (by decide +kernel)) ggX5_oneOf_X5_isTeam
set_option maxRecDepth 20000 in
theorem ggX5_oneOf_X5_tell : GoodIn wsX5_oneOf wsX5_tell := goodIn_r _ [21, 7, 22, 23, 24, 25, 26, 27, 28, 29, 30, 31, 32, 33, 34, 35, 36, 37, 38, 39, 40, 41, 42, 43, 44, 45, 46, 47, 48, 49, 50, 51, 52, 53, 54, 55, 56, 57, 58, 59, 60, 61, 62, 63, 64, 65, 66, 67, 68, 69, 70, 71, 72, 73, 74, 75, 76, 12, 77, 78, 79, 80, 81, 82, 83, 84, 85, 86, 87, 88, 89, 90, 91, 92, 93, 94, 95, 96, 97, 98, 99, 100, 101, 102, 103, 104, 105, 106, 107, 108, 109, 110, 111, 112, 113, 114, 115, 116, 117, 118, 119, 120, 121, 122, 123, 124, 125, 126, 127, 128, 129, 130, 131, 132, 133, 134, 135, 136, 137, 138, 139, 140, 141, 142, 143, 144, 145, 146, 147, 148, 149, 150, 151, 152, 153, 154, 155, 156, 157, 158, 159, 160, 161, 162, 163, 164, 165, 166, 167, 168, 169, 170, 171, 172, 173, 174, 175, 176, 177, 178, 179, 180, 181, 182, 183, 184] (by decide +kernel) (by decide +kernel)
set_option maxRecDepth 20000 in
theorem gX5_oneOf_X5_tell : GoodIn wsX5_oneOf (wsV RX5 77 RX5 yX5_tell wsX5_tell) := goodIn_app (goodIn_of _ (by decide +kernel)) ggX5_oneOf_X5_tell
set_option maxRecDepth 20000 in
theorem ggX5_bound_X5_isField : GoodIn wsX5_bound wsX5_isField := goodIn_r _ [13, 7, 14, 156, 157, 158, 159, 160, 161, 162, 163, 164, 165, 166, 167, 168, 169, 170] (by decide +kernel) (by decide +kernel)
set_option maxRecDepth 20000 in
theorem gX5_bound_X5_isField : GoodIn wsX5_bound (wsV RX5 62 RX5 yX5_isField wsX5_isField) := goodIn_app (goodIn_of _ (by decide +kernel)) ggX5_bound_X5_isField
set_option maxRecDepth 20000 in
theorem ggX5_bound_X5_isTeam : GoodIn wsX5_bound wsX5_isTeam := goodIn_r _ [17] (by decide +kernel) (by decide +kernel)
set_option maxRecDepth 20000 in
theorem gX5_bound_X5_isTeam : GoodIn wsX5_bound (va_wsS RX5 36 yX5_isTeam wsX5_isTeam) := goodIn_app (goodIn_of _ (by decide +kernel)) ggX5_bound_X5_isTeam
set_option maxRecDepth 20000 in
theorem ggX5_bound_X5_isNumber : GoodIn wsX5_bound wsX5_isNumber := goodIn_r _ [20] (by decide +kernel) (by decide +kernel)
set_option maxRecDepth 20000 in
theorem gX5_bound_X5_isNumber : GoodIn wsX5_bound (va_wsS RX5 81 yX5_isNumber wsX5_isNumber) := goodIn_app (goodIn_of _ (by decide +kernel)) ggX5_bound_X5_isNumber
set_option maxRecDepth 20000 in
theorem ggX5_bound_X5_tell : GoodIn wsX5_bound wsX5_tell := goodIn_r _ [24, 7, 25, 26, 27, 28, 29, 30, 31, 32, 33, 34, 35, 36, 37, 38, 39, 40, 41, 42, 43, 44, 45, 46, 47, 48, 49, 50, 51, 52, 53, 54, 55, 56, 57, 58, 59, 60, 61, 62, 63, 64, 65, 66, 67, 68, 69, 70, 71, 72, 73, 74, 75, 76, 77, 78, 79, 12, 80, 81, 82, 83, 84, 85, 86, 87, 88, 89, 90, 91, 92, 93, 94, 95, 96, 97, 98, 99, 100, 101, 102, 103, 104, 105, 106, 107, 108, 109, 110, 111, 112, 113, 114, 115, 116, 117, 118, 119, 120, 121, 122, 123, 124, 125, 126, 127, 128, 129, 130, 131, 132, 133, 134, 135, 136, 137, 138, 139, 140, 141, 142, 143, 144, 145, 146, 147, 148, 149, 150, 151, 152, 153, 154, 155, 156, 157, 158, 159, 160, 161, 162, 163, 164, 165, 166, 167, 168, 169, 170, 171, 172, 173, 174, 175, 176, 177, 178, 179, 180, 181, 182, 183, 184, 185, 186, 187] (by decide +kernel) (by decide +kernel)
set_option maxRecDepth 20000 in
theorem gX5_bound_X5_tell : GoodIn wsX5_bound (wsV RX5 77 RX5 yX5_tell wsX5_tell) := goodIn_app (goodIn_of _ (by decide +kernel)) ggX5_bound_X5_tell
set_option maxRecDepth 20000 in
theorem ggX5_more_X5_isField : GoodIn wsX5_more wsX5_isField := goodIn_r _ [13, 7, 14, 153, 154, 155, 156, 157, 158, 159, 160, 161, 162, 163, 164, 165, 166, 167] (by decide +kernel) (by decide +kernel)
set_option maxRecDepth 20000 in
theorem gX5_more_X5_isField : GoodIn wsX5_more (wsV RX5 62 RX5 yX5_isField wsX5_isField) := goodIn_app (goodIn_of _ (by decide +kernel)) ggX5_more_X5_isField
set_option maxRecDepth 20000 in
theorem ggX5_more_X5_isTeam : GoodIn wsX5_more wsX5_isTeam := goodIn_r _ [17] (by decide +kernel) (by decide +kernel)
set_option maxRecDepth 20000 in
theorem gX5_more_X5_isTeam : GoodIn wsX5_more (va_wsS RX5 36 yX5_isTeam wsX5_isTeam) := goodIn_app (goodIn_of _ (by decide +kernel)) ggX5_more_X5_isTeam
set_option maxRecDepth 20000 in
theorem ggX5_more_X5_tell : GoodIn wsX5_more wsX5_tell := goodIn_r _ [21, 7, 22, 23, 24, 25, 26, 27, 28, 29, 30, 31, 32, 33, 34, 35, 36, 37, 38, 39, 40, 41, 42, 43, 44, 45, 46, 47, 48, 49, 50, 51, 52, 53, 54, 55, 56, 57, 58, 59, 60, 61, 62, 63, 64, 65, 66, 67, 68, 69, 70, 71, 72, 73, 74, 75, 76, 12, 77, 78, 79, 80, 81, 82, 83, 84, 85, 86, 87, 88, 89, 90, 91, 92, 93, 94, 95, 96, 97, 98, 99, 100, 101, 102, 103, 104, 105, 106, 107, 108, 109, 110, 111, 112, 113, 114, 115, 116, 117, 118, 119, 120, 121, 122, 123, 124, 125, 126, 127, 128, 129, 130, 131, 132, 133, 134, 135, 136, 137, 138, 139, 140, 141, 142, 143, 144, 145, 146, 147, 148, 149, 150, 151, 152, 153, 154, 155, 156, 157, 158, 159, 160, 161, 162, 163, 164, 165, 166, 167, 168, 169, 170, 171, 172, 173, 174, 175, 176, 177, 178, 179, 180, 181, 182, 183, 184] (by decide +kernel) (by decide +kernel)
set_option maxRecDepth 20000 in
theorem gX5_more_X5_tell : GoodIn wsX5_more (wsV RX5 77 RX5 yX5_tell wsX5_tell) := goodIn_app (goodIn_of _ (by decide +kernel)) ggX5_more_X5_tell
set_option maxRecDepth 20000 in
theorem ggX5_unlike_X5_isField : GoodIn wsX5_unlike wsX5_isField := goodIn_r _ [13, 7, 14, 153, 154, 155, 156, 157, 158, 159, 160, 161, 162, 163, 164, 165, 166, 167] (by decide +kernel) (by decide +kernel)
set_option maxRecDepth 20000 in
theorem gX5_unlike_X5_isField : GoodIn wsX5_unlike (wsV RX5 62 RX5 yX5_isField wsX5_isField) := goodIn_app (goodIn_of _ (by decide +kernel)) ggX5_unlike_X5_isField
set_option maxRecDepth 20000 in
theorem ggX5_unlike_X5_isTeam : GoodIn wsX5_unlike wsX5_isTeam := goodIn_r _ [17] (by decide +kernel) (by decide +kernel)
set_option maxRecDepth 20000 in
theorem gX5_unlike_X5_isTeam : GoodIn wsX5_unlike (va_wsS RX5 36 yX5_isTeam wsX5_isTeam) := goodIn_app (goodIn_of _ (by decide +kernel)) ggX5_unlike_X5_isTeam
set_option maxRecDepth 20000 in
theorem ggX5_unlike_X5_tell : GoodIn wsX5_unlike wsX5_tell := goodIn_r _ [21, 7, 22, 23, 24, 25, 26, 27, 28, 29, 30, 31, 32, 33, 34, 35, 36, 37, 38, 39, 40, 41, 42, 43, 44, 45, 46, 47, 48, 49, 50, 51, 52, 53, 54, 55, 56, 57, 58, 59, 60, 61, 62, 63, 64, 65, 66, 67, 68, 69, 70, 71, 72, 73, 74, 75, 76, 12, 77, 78, 79, 80, 81, 82, 83, 84, 85, 86, 87, 88, 89, 90, 91, 92, 93, 94, 95, 96, 97, 98, 99, 100, 101, 102, 103, 104, 105, 106, 107, 108, 109, 110, 111, 112, 113, 114, 115, 116, 117, 118, 119, 120, 121, 122, 123, 124, 125, 126, 127, 128, 129, 130, 131, 132, 133, 134, 135, 136, 137, 138, 139, 140, 141, 142, 143, 144, 145, 146, 147, 148, 149, 150, 151, 152, 153, 154, 155, 156, 157, 158, 159, 160, 161, 162, 163, 164, 165, 166, 167, 168, 169, 170, 171, 172, 173, 174, 175, 176, 177, 178, 179, 180, 181, 182, 183, 184] (by decide +kernel) (by decide +kernel)
set_option maxRecDepth 20000 in
theorem gX5_unlike_X5_tell : GoodIn wsX5_unlike (wsV RX5 77 RX5 yX5_tell wsX5_tell) := goodIn_app (goodIn_of _ (by decide +kernel)) ggX5_unlike_X5_tell
set_option maxRecDepth 20000 in
theorem ggX5_preset_X5_isField : GoodIn wsX5_preset wsX5_isField := goodIn_r _ [13, 7, 14, 156, 157, 158, 159, 160, 161, 162, 163, 164, 165, 166, 167, 168, 169, 170] (by decide +kernel) (by decide +kernel)
set_option maxRecDepth 20000 in
theorem gX5_preset_X5_isField : GoodIn wsX5_preset (wsV RX5 62 RX5 yX5_isField wsX5_isField) := goodIn_app (goodIn_of _ (by decide +kernel)) ggX5_preset_X5_isField
set_option maxRecDepth 20000 in
theorem ggX5_preset_X5_isTeam : GoodIn wsX5_preset wsX5_isTeam := goodIn_r _ [17] (by decide +kernel) (by decide +kernel)
set_option maxRecDepth 20000 in
theorem gX5_preset_X5_isTeam : GoodIn wsX5_preset (va_wsS RX5 36 yX5_isTeam wsX5_isTeam) := goodIn_app (goodIn_of _ (by decide +kernel)) ggX5_preset_X5_isTeam
set_option maxRecDepth 20000 in
theorem ggX5_preset_X5_isNumber : GoodIn wsX5_preset wsX5_isNumber := goodIn_r _ [20] (by decide +kernel) (by decide +kernel)
set_option maxRecDepth 20000 in
theorem gX5_preset_X5_isNumber : GoodIn wsX5_preset (va_wsS RX5 81 yX5_isNumber wsX5_isNumber) := goodIn_app (goodIn_of _ (by decide +kernel)) ggX5_preset_X5_isNumber
set_option maxRecDepth 20000 in
theorem ggX5_preset_X5_tell : GoodIn wsX5_preset wsX5_tell := goodIn_r _ [24, 7, 25, 26, 27, 28, 29, 30, 31, 32, 33, 34, 35, 36, 37, 38, 39, 40, 41, 42, 43, 44, 45, 46, 47, 48, 49, 50, 51, 52, 53, 54, 55, 56, 57, 58, 59, 60, 61, 62, 63, 64, 65, 66, 67, 68, 69, 70, 71, 72, 73, 74, 75, 76, 77, 78, 79, 12, 80, 81, 82, 83, 84, 85, 86, 87, 88, 89, 90, 91, 92, 93, 94, 95, 96, 97, 98, 99, 100, 101, 102, 103, 104, 105, 106, 107, 108, 109, 110, 111, 112, 113, 114, 115, 116, 117, 118, 119, 120, 121, 122, 123, 124, 125, 126, 127, 128, 129, 130, 131, 132, 133, 134, 135, 136, 137, 138, 139, 140, 141, 142, 143, 144, 145, 146, 147, 148, 149, 150, 151, 152, 153, 154, 155, 156, 157, 158, 159, 160, 161, 162, 163, 164, 165, 166, 167, 168, 169, 170, 171, 172, 173, 174, 175, 176, 177, 178, 179, 180, 181, 182, 183, 184, 185, 186, 187] (by decide +kernel) (by decide +kernel)
set_option maxRecDepth 20000 in
theorem gX5_preset_X5_tell : GoodIn wsX5_preset (wsV RX5 77 RX5 yX5_tell wsX5_tell) := goodIn_app (goodIn_of _ (by decide +kernel)) ggX5_preset_X5_tell
set_option maxRecDepth 20000 in
theorem ggX5_approve_X5_isLine : GoodIn wsX5_approve wsX5_isLine := goodIn_r _ [10, 3, 11, 139, 140, 141, 142, 143, 144, 145, 146, 147, 148, 149, 150, 151, 152, 153] (by decide +kernel) (by decide +kernel)
set_option maxRecDepth 20000 in
theorem gX5_approve_X5_isLine : GoodIn wsX5_approve (wsV RX5 92 RX5 yX5_isLine wsX5_isLine) := goodIn_app (goodIn_of _ (by decide +kernel)) ggX5_approve_X5_isLine
set_option maxRecDepth 20000 in
theorem ggX5_approve_X4_renew : GoodIn wsX5_approve wsX4_renew := goodIn_r _ [16, 17, 18, 19, 20, 21, 22, 23, 24, 25, 26, 27, 28, 29, 30, 31, 32, 33, 34, 35, 36, 37, 38, 39, 40, 41, 42, 43, 44, 45, 46, 47, 48, 49, 50, 51, 52, 53, 54, 55, 56, 57, 58, 59, 9, 60, 61, 62, 63, 64, 65, 66, 67, 68, 69, 70, 71, 72, 73, 74, 75, 76, 77, 78, 79, 80, 81, 82, 83, 84, 85, 86, 87, 88, 89, 90, 91, 92, 93, 94, 95, 96, 97, 98, 99, 100, 101, 102, 103, 104, 105, 106, 107, 108, 109, 110, 111, 112, 113, 114, 115, 116, 117, 118, 119, 15, 120, 121, 122, 123, 124, 125, 126, 127, 128, 129, 130, 131, 132, 133, 134, 135, 136, 137, 154, 155, 156, 157, 158, 159, 160, 143, 144, 145, 146, 147, 148, 149, 150, 151, 152, 153, 161, 162, 163, 164, 165, 166, 167, 168, 169, 170] (by decide +kernel) (by decide +kernel)
set_option maxRecDepth 20000 in
theorem gX5_approve_X4_renew : GoodIn wsX5_approve (wsV RX5 59 RX4 yX4_renew wsX4_renew) := goodIn_app (goodIn_of _ (by decide +kernel)) ggX5_approve_X4_renew
set_option maxRecDepth 20000 in
theorem ggX5_approve_X2_counts : GoodIn wsX5_approve wsX2_counts := goodIn_r _ [35, 36, 37, 38, 39, 40, 143, 144, 145, 146, 147, 148, 149, 150, 151, 152, 153] (by decide +kernel) (by decide +kernel)
set_option maxRecDepth 20000 in
theorem gX5_approve_X2_counts : GoodIn wsX5_approve (wsV RX5 101 RX2 yX2_counts wsX2_counts) := goodIn_app (goodIn_of _ (by decide +kernel)) ggX5_approve_X2_counts
set_option maxRecDepth 20000 in
theorem ggX5_withdraw_X5_isLine : GoodIn wsX5_withdraw wsX5_isLine := goodIn_r _ [10, 3, 11, 139, 140, 141, 142, 143, 144, 145, 146, 147, 148, 149, 150, 151, 152, 153] (by decide +kernel) (by decide +kernel)
set_option maxRecDepth 20000 in
theorem gX5_withdraw_X5_isLine : GoodIn wsX5_withdraw (wsV RX5 92 RX5 yX5_isLine wsX5_isLine) := goodIn_app (goodIn_of _ (by decide +kernel)) ggX5_withdraw_X5_isLine
set_option maxRecDepth 20000 in
theorem ggX5_withdraw_X4_renew : GoodIn wsX5_withdraw wsX4_renew := goodIn_r _ [16, 17, 18, 19, 20, 21, 22, 23, 24, 25, 26, 27, 28, 29, 30, 31, 32, 33, 34, 35, 36, 37, 38, 39, 40, 41, 42, 43, 44, 45, 46, 47, 48, 49, 50, 51, 52, 53, 54, 55, 56, 57, 58, 59, 9, 60, 61, 62, 63, 64, 65, 66, 67, 68, 69, 70, 71, 72, 73, 74, 75, 76, 77, 78, 79, 80, 81, 82, 83, 84, 85, 86, 87, 88, 89, 90, 91, 92, 93, 94, 95, 96, 97, 98, 99, 100, 101, 102, 103, 104, 105, 106, 107, 108, 109, 110, 111, 112, 113, 114, 115, 116, 117, 118, 119, 15, 120, 121, 122, 123, 124, 125, 126, 127, 128, 129, 130, 131, 132, 133, 134, 135, 136, 137, 154, 155, 156, 157, 158, 159, 160, 143, 144, 145, 146, 147, 148, 149, 150, 151, 152, 153, 161, 162, 163, 164, 165, 166, 167, 168, 169, 170] (by decide +kernel) (by decide +kernel)
set_option maxRecDepth 20000 in
theorem gX5_withdraw_X4_renew : GoodIn wsX5_withdraw (wsV RX5 59 RX4 yX4_renew wsX4_renew) := goodIn_app (goodIn_of _ (by decide +kernel)) ggX5_withdraw_X4_renew
set_option maxRecDepth 20000 in
theorem ggX5_withdraw_X2_counts : GoodIn wsX5_withdraw wsX2_counts := goodIn_r _ [35, 36, 37, 38, 39, 40, 143, 144, 145, 146, 147, 148, 149, 150, 151, 152, 153] (by decide +kernel) (by decide +kernel)
set_option maxRecDepth 20000 in
theorem gX5_withdraw_X2_counts : GoodIn wsX5_withdraw (wsV RX5 101 RX2 yX2_counts wsX2_counts) := goodIn_app (goodIn_of _ (by decide +kernel)) ggX5_withdraw_X2_counts
set_option maxRecDepth 20000 in
theorem ggX5_weight_X5_isField : GoodIn wsX5_weight wsX5_isField := goodIn_r _ [12, 5, 13, 140, 141, 142, 143, 144, 145, 146, 147, 148, 149, 150, 151, 152, 153, 154] (by decide +kernel) (by decide +kernel)
set_option maxRecDepth 20000 in
theorem gX5_weight_X5_isField : GoodIn wsX5_weight (wsV RX5 62 RX5 yX5_isField wsX5_isField) := goodIn_app (goodIn_of _ (by decide +kernel)) ggX5_weight_X5_isField
set_option maxRecDepth 20000 in
theorem ggX5_weight_X4_renew : GoodIn wsX5_weight wsX4_renew := goodIn_r _ [18, 19, 20, 21, 22, 23, 24, 25, 26, 27, 28, 29, 30, 31, 32, 33, 34, 35, 36, 37, 38, 39, 40, 41, 42, 43, 44, 45, 46, 47, 48, 49, 50, 51, 52, 53, 54, 55, 56, 57, 58, 59, 60, 61, 11, 62, 63, 64, 65, 66, 67, 68, 69, 70, 71, 72, 73, 74, 75, 76, 77, 78, 79, 80, 81, 82, 83, 84, 85, 86, 87, 88, 89, 90, 91, 92, 93, 94, 95, 96, 97, 98, 99, 100, 101, 102, 103, 104, 105, 106, 107, 108, 109, 110, 111, 112, 113, 114, 115, 116, 117, 118, 119, 120, 121, 17, 122, 123, 124, 125, 126, 127, 128, 129, 130, 131, 132, 133, 134, 135, 136, 137, 138, 139, 155, 156, 157, 158, 159, 160, 161, 144, 145, 146, 147, 148, 149, 150, 151, 152, 153, 154, 162, 163, 164, 165, 166, 167, 168, 169, 170, 171] (by decide +kernel) (by decide +kernel)
set_option maxRecDepth 20000 in
theorem gX5_weight_X4_renew : GoodIn wsX5_weight (wsV RX5 59 RX4 yX4_renew wsX4_renew) := goodIn_app (goodIn_of _ (by decide +kernel)) ggX5_weight_X4_renew
set_option maxRecDepth 20000 in
theorem ggX5_commit_X1_keep : GoodIn wsX5_commit wsX1_keep := goodIn_r _ [13, 14, 15, 16, 17, 18, 19, 34, 35, 36, 37] (by decide +kernel) (by decide +kernel)
set_option maxRecDepth 20000 in
theorem gX5_commit_X1_keep : GoodIn wsX5_commit (wsV RX5 131 RX1 yX1_keep wsX1_keep) := goodIn_app (goodIn_of _ (by decide +kernel)) ggX5_commit_X1_keep
set_option maxRecDepth 20000 in
theorem ggX5_wave_X5_isCommit : GoodIn wsX5_wave wsX5_isCommit := goodIn_r _ [10, 5, 11, 36, 37, 38, 39, 40, 41, 42, 43] (by decide +kernel) (by decide +kernel)
set_option maxRecDepth 20000 in
theorem gX5_wave_X5_isCommit : GoodIn wsX5_wave (wsV RX5 135 RX5 yX5_isCommit wsX5_isCommit) := goodIn_app (goodIn_of _ (by decide +kernel)) ggX5_wave_X5_isCommit
set_option maxRecDepth 20000 in
theorem ggX5_wave_X5_contains : GoodIn wsX5_wave wsX5_contains := goodIn_r _ [14] (by decide +kernel) (by decide +kernel)
set_option maxRecDepth 20000 in
theorem gX5_wave_X5_contains : GoodIn wsX5_wave (va_wsS RX5 142 yX5_contains wsX5_contains) := goodIn_app (goodIn_of _ (by decide +kernel)) ggX5_wave_X5_contains
set_option maxRecDepth 20000 in
theorem ggX5_wave_X1_bring : GoodIn wsX5_wave wsX1_bring := goodIn_r _ [19, 20, 21, 22, 23, 24, 25, 26, 27, 28, 29, 18, 30, 31, 32, 33, 34, 35, 40, 41, 42, 43] (by decide +kernel) (by decide +kernel)
set_option maxRecDepth 20000 in
theorem gX5_wave_X1_bring : GoodIn wsX5_wave (wsV RX5 146 RX1 yX1_bring wsX1_bring) := goodIn_app (goodIn_of _ (by decide +kernel)) ggX5_wave_X1_bring
set_option maxRecDepth 20000 in
theorem ggX5_patch_X5_isMachine : GoodIn wsX5_patch wsX5_isMachine := goodIn_r _ [10] (by decide +kernel) (by decide +kernel)
set_option maxRecDepth 20000 in
theorem gX5_patch_X5_isMachine : GoodIn wsX5_patch (va_wsS RX5 149 yX5_isMachine wsX5_isMachine) := goodIn_app (goodIn_of _ (by decide +kernel)) ggX5_patch_X5_isMachine
set_option maxRecDepth 20000 in
theorem ggX5_patch_X5_isField : GoodIn wsX5_patch wsX5_isField := goodIn_r _ [14, 15, 16, 20, 21, 22, 23, 28, 29, 30, 31, 32, 33, 34, 35, 36, 37, 38] (by decide +kernel) (by decide +kernel)
set_option maxRecDepth 20000 in
theorem gX5_patch_X5_isField : GoodIn wsX5_patch (wsV RX5 62 RX5 yX5_isField wsX5_isField) := goodIn_app (goodIn_of _ (by decide +kernel)) ggX5_patch_X5_isField
set_option maxRecDepth 20000 in
theorem ggX5_patch_X5_isNumber : GoodIn wsX5_patch wsX5_isNumber := goodIn_r _ [19] (by decide +kernel) (by decide +kernel)
set_option maxRecDepth 20000 in
theorem gX5_patch_X5_isNumber : GoodIn wsX5_patch (va_wsS RX5 81 yX5_isNumber wsX5_isNumber) := goodIn_app (goodIn_of _ (by decide +kernel)) ggX5_patch_X5_isNumber
set_option maxRecDepth 20000 in
theorem ggX5_absorb_X5_isMachine : GoodIn wsX5_absorb wsX5_isMachine := goodIn_r _ [13] (by decide +kernel) (by decide +kernel)
set_option maxRecDepth 20000 in
theorem gX5_absorb_X5_isMachine : GoodIn wsX5_absorb (va_wsS RX5 149 yX5_isMachine wsX5_isMachine) := goodIn_app (goodIn_of _ (by decide +kernel)) ggX5_absorb_X5_isMachine
set_option maxRecDepth 20000 in
theorem ggX5_absorb_X5_isField : GoodIn wsX5_absorb wsX5_isField := goodIn_r _ [17, 7, 18, 166, 167, 168, 169, 174, 175, 176, 177, 178, 179, 180, 181, 182, 183, 184] (by decide +kernel) (by decide +kernel)
set_option maxRecDepth 20000 in
theorem gX5_absorb_X5_isField : GoodIn wsX5_absorb (wsV RX5 62 RX5 yX5_isField wsX5_isField) := goodIn_app (goodIn_of _ (by decide +kernel)) ggX5_absorb_X5_isField
set_option maxRecDepth 20000 in
theorem ggX5_absorb_X1_drifts : GoodIn wsX5_absorb wsX1_drifts := goodIn_r _ [23, 24, 25, 26, 27, 170, 171, 172, 173] (by decide +kernel) (by decide +kernel)
set_option maxRecDepth 20000 in
theorem gX5_absorb_X1_drifts : GoodIn wsX5_absorb (wsV RX5 160 RX1 yX1_drifts wsX1_drifts) := goodIn_app (goodIn_of _ (by decide +kernel)) ggX5_absorb_X1_drifts
set_option maxRecDepth 20000 in
theorem ggX5_absorb_X5_isNumber : GoodIn wsX5_absorb wsX5_isNumber := goodIn_r _ [30] (by decide +kernel) (by decide +kernel)
set_option maxRecDepth 20000 in
theorem gX5_absorb_X5_isNumber : GoodIn wsX5_absorb (va_wsS RX5 81 yX5_isNumber wsX5_isNumber) := goodIn_app (goodIn_of _ (by decide +kernel)) ggX5_absorb_X5_isNumber
set_option maxRecDepth 20000 in
theorem ggX5_absorb_X5_tell : GoodIn wsX5_absorb wsX5_tell := goodIn_r _ [34, 7, 35, 36, 37, 38, 39, 40, 41, 42, 43, 44, 45, 46, 47, 48, 49, 50, 51, 52, 53, 54, 55, 56, 57, 58, 59, 60, 61, 62, 63, 64, 65, 66, 67, 68, 69, 70, 71, 72, 73, 74, 75, 76, 77, 78, 79, 80, 81, 82, 83, 84, 85, 86, 87, 88, 89, 12, 90, 91, 92, 93, 94, 95, 96, 97, 98, 99, 100, 101, 102, 103, 104, 105, 106, 107, 108, 109, 110, 111, 112, 113, 114, 115, 116, 117, 118, 119, 120, 121, 122, 123, 124, 125, 126, 127, 128, 129, 130, 131, 132, 133, 134, 135, 136, 137, 138, 139, 140, 141, 142, 143, 144, 145, 146, 147, 148, 149, 150, 151, 152, 153, 154, 155, 156, 157, 158, 159, 160, 161, 162, 163, 164, 165, 166, 167, 168, 169, 174, 175, 176, 177, 178, 179, 180, 181, 182, 183, 184, 185, 186, 187, 188, 189, 190, 191, 192, 193, 194, 195, 196, 197, 198, 199, 200, 201] (by decide +kernel) (by decide +kernel)
set_option maxRecDepth 20000 in
theorem gX5_absorb_X5_tell : GoodIn wsX5_absorb (wsV RX5 77 RX5 yX5_tell wsX5_tell) := goodIn_app (goodIn_of _ (by decide +kernel)) ggX5_absorb_X5_tell
set_option maxRecDepth 20000 in
theorem ggX5_ofField_X5_isField : GoodIn wsX5_ofField wsX5_isField := goodIn_r _ [19, 5, 20, 35, 36, 37, 38, 39, 40, 41, 42, 43, 44, 45, 46, 47, 48, 49] (by decide +kernel) (by decide +kernel)
set_option maxRecDepth 20000 in
theorem gX5_ofField_X5_isField : GoodIn wsX5_ofField (wsV RX5 62 RX5 yX5_isField wsX5_isField) := goodIn_app (goodIn_of _ (by decide +kernel)) ggX5_ofField_X5_isField
set_option maxRecDepth 20000 in
theorem ggX5_ofField_J6_bitCount_0f7a4 : GoodIn wsX5_ofField wsJ6_bitCount_0f7a4 := goodIn_r _ [24, 25, 26, 27] (by decide +kernel) (by decide +kernel)
set_option maxRecDepth 20000 in
theorem gX5_ofField_J6_bitCount_0f7a4 : GoodIn wsX5_ofField (va_wsS RX5 171 yJ6_bitCount_0f7a4 wsJ6_bitCount_0f7a4) := goodIn_app (goodIn_of _ (by decide +kernel)) ggX5_ofField_J6_bitCount_0f7a4
set_option maxRecDepth 20000 in
theorem ggX5_ofField_X1_find : GoodIn wsX5_ofField wsX1_find := goodIn_r _ [32, 33, 34, 67, 68, 69, 70] (by decide +kernel) (by decide +kernel)
set_option maxRecDepth 20000 in
theorem gX5_ofField_X1_find : GoodIn wsX5_ofField (wsV RX5 185 RX1 yX1_find wsX1_find) := goodIn_app (goodIn_of _ (by decide +kernel)) ggX5_ofField_X1_find
set_option maxRecDepth 20000 in
theorem ggX5_ofLine_X5_isLine : GoodIn wsX5_ofLine wsX5_isLine := goodIn_r _ [16, 5, 17, 83, 84, 85, 86, 87, 88, 89, 90, 91, 92, 93, 94, 95, 96, 97] (by decide +kernel) (by decide +kernel)
set_option maxRecDepth 20000 in
theorem gX5_ofLine_X5_isLine : GoodIn wsX5_ofLine (wsV RX5 92 RX5 yX5_isLine wsX5_isLine) := goodIn_app (goodIn_of _ (by decide +kernel)) ggX5_ofLine_X5_isLine
set_option maxRecDepth 20000 in
theorem ggX5_ofLine_X2_counts : GoodIn wsX5_ofLine wsX2_counts := goodIn_r _ [22, 23, 24, 25, 26, 27, 87, 88, 89, 90, 91, 92, 93, 94, 95, 96, 97] (by decide +kernel) (by decide +kernel)
set_option maxRecDepth 20000 in
theorem gX5_ofLine_X2_counts : GoodIn wsX5_ofLine (wsV RX5 101 RX2 yX2_counts wsX2_counts) := goodIn_app (goodIn_of _ (by decide +kernel)) ggX5_ofLine_X2_counts
set_option maxRecDepth 20000 in
theorem ggX5_ofLine_X4_reasonOf : GoodIn wsX5_ofLine wsX4_reasonOf := goodIn_r _ [32, 33, 34, 35, 36, 37, 38, 39, 40, 41, 42, 43, 44, 45, 46, 47, 48, 49, 50, 51, 52, 53, 54, 55, 56, 57, 58, 59, 15, 60, 61, 62, 63, 64, 65, 66, 67, 68, 69, 21, 70, 71, 72, 73, 74, 75, 76, 77, 78, 79, 80, 81, 98, 99, 100, 101, 102, 103, 104, 87, 88, 89, 90, 91, 92, 93, 94, 95, 96, 97, 105, 106, 107] (by decide +kernel) (by decide +kernel)
set_option maxRecDepth 20000 in
theorem gX5_ofLine_X4_reasonOf : GoodIn wsX5_ofLine (wsV RX5 205 RX4 yX4_reasonOf wsX4_reasonOf) := goodIn_app (goodIn_of _ (by decide +kernel)) ggX5_ofLine_X4_reasonOf
set_option maxRecDepth 20000 in
theorem ggX5_ofLine_X5_contains : GoodIn wsX5_ofLine wsX5_contains := goodIn_r _ [60] (by decide +kernel) (by decide +kernel)
set_option maxRecDepth 20000 in
theorem gX5_ofLine_X5_contains : GoodIn wsX5_ofLine (va_wsS RX5 142 yX5_contains wsX5_contains) := goodIn_app (goodIn_of _ (by decide +kernel)) ggX5_ofLine_X5_contains
set_option maxRecDepth 20000 in
theorem ggX5_ofMachine_X5_isMachine : GoodIn wsX5_ofMachine wsX5_isMachine := goodIn_r _ [10] (by decide +kernel) (by decide +kernel)
set_option maxRecDepth 20000 in
theorem gX5_ofMachine_X5_isMachine : GoodIn wsX5_ofMachine (va_wsS RX5 149 yX5_isMachine wsX5_isMachine) := goodIn_app (goodIn_of _ (by decide +kernel)) ggX5_ofMachine_X5_isMachine
set_option maxRecDepth 20000 in
theorem ggX5_ofMachine_X1_drifting : GoodIn wsX5_ofMachine wsX1_drifting := goodIn_r _ [15, 16, 17, 18, 14, 19, 20, 21, 22, 23, 35, 36, 37, 38] (by decide +kernel) (by decide +kernel)
set_option maxRecDepth 20000 in
theorem gX5_ofMachine_X1_drifting : GoodIn wsX5_ofMachine (wsV RX5 213 RX1 yX1_drifting wsX1_drifting) := goodIn_app (goodIn_of _ (by decide +kernel)) ggX5_ofMachine_X1_drifting
set_option maxRecDepth 20000 in
theorem ggX5_ofMachine_J6_bitCount_0f7a4 : GoodIn wsX5_ofMachine wsJ6_bitCount_0f7a4 := goodIn_r _ [27, 28, 29, 30] (by decide +kernel) (by decide +kernel)
set_option maxRecDepth 20000 in
theorem gX5_ofMachine_J6_bitCount_0f7a4 : GoodIn wsX5_ofMachine (va_wsS RX5 171 yJ6_bitCount_0f7a4 wsJ6_bitCount_0f7a4) := goodIn_app (goodIn_of _ (by decide +kernel)) ggX5_ofMachine_J6_bitCount_0f7a4
set_option maxRecDepth 20000 in
theorem ggX5_has_X5_isMachine : GoodIn wsX5_has wsX5_isMachine := goodIn_r _ [8] (by decide +kernel) (by decide +kernel)
set_option maxRecDepth 20000 in
theorem gX5_has_X5_isMachine : GoodIn wsX5_has (va_wsS RX5 149 yX5_isMachine wsX5_isMachine) := goodIn_app (goodIn_of _ (by decide +kernel)) ggX5_has_X5_isMachine
set_option maxRecDepth 20000 in
theorem ggX5_has_X5_isField : GoodIn wsX5_has wsX5_isField := goodIn_r _ [12, 13, 14, 15, 16, 17, 18, 23, 24, 25, 26, 27, 28, 29, 30, 31, 32, 33] (by decide +kernel) (by decide +kernel)
set_option maxRecDepth 20000 in
theorem gX5_has_X5_isField : GoodIn wsX5_has (wsV RX5 62 RX5 yX5_isField wsX5_isField) := goodIn_app (goodIn_of _ (by decide +kernel)) ggX5_has_X5_isField
set_option maxRecDepth 20000 in
theorem ggX5_ofCommit_X5_isCommit : GoodIn wsX5_ofCommit wsX5_isCommit := goodIn_r _ [9, 3, 10, 17, 18, 19, 20, 21, 22, 23, 24] (by decide +kernel) (by decide +kernel)
set_option maxRecDepth 20000 in
theorem gX5_ofCommit_X5_isCommit : GoodIn wsX5_ofCommit (wsV RX5 135 RX5 yX5_isCommit wsX5_isCommit) := goodIn_app (goodIn_of _ (by decide +kernel)) ggX5_ofCommit_X5_isCommit
set_option maxRecDepth 20000 in
theorem ggX5_ofCommit_X5_isField : GoodIn wsX5_ofCommit wsX5_isField := goodIn_r _ [14, 15, 16, 17, 18, 19, 20, 25, 26, 27, 28, 29, 30, 31, 32, 33, 34, 35] (by decide +kernel) (by decide +kernel)
set_option maxRecDepth 20000 in
theorem gX5_ofCommit_X5_isField : GoodIn wsX5_ofCommit (wsV RX5 62 RX5 yX5_isField wsX5_isField) := goodIn_app (goodIn_of _ (by decide +kernel)) ggX5_ofCommit_X5_isField
set_option maxRecDepth 20000 in
theorem ggX5_house_X2_countingLines : GoodIn wsX5_house wsX2_countingLines := goodIn_r _ [18, 19, 20, 21, 22, 17, 23, 24, 25, 26, 27, 28, 58, 59, 60, 61, 62, 63, 64, 65, 66, 67, 68] (by decide +kernel) (by decide +kernel)
set_option maxRecDepth 20000 in
theorem gX5_house_X2_countingLines : GoodIn wsX5_house (wsV RX5 223 RX2 yX2_countingLines wsX2_countingLines) := goodIn_app (goodIn_of _ (by decide +kernel)) ggX5_house_X2_countingLines
set_option maxRecDepth 20000 in
theorem ggX5_house_X4_settledFields : GoodIn wsX5_house wsX4_settledFields := goodIn_r _ [33, 34, 35, 36, 69, 70, 71, 72, 73, 74, 75, 58, 59, 60, 61, 62, 63, 64, 65, 66, 67, 68] (by decide +kernel) (by decide +kernel)
set_option maxRecDepth 20000 in
theorem gX5_house_X4_settledFields : GoodIn wsX5_house (wsV RX5 227 RX4 yX4_settledFields wsX4_settledFields) := goodIn_app (goodIn_of _ (by decide +kernel)) ggX5_house_X4_settledFields
set_option maxRecDepth 20000 in
theorem ggX5_house_X1_driftingMachines : GoodIn wsX5_house wsX1_driftingMachines := goodIn_r _ [41, 42, 43, 44, 40, 45, 46, 47, 48, 49, 50, 51, 52, 53, 79, 80, 81, 82] (by decide +kernel) (by decide +kernel)
set_option maxRecDepth 20000 in
theorem gX5_house_X1_driftingMachines : GoodIn wsX5_house (wsV RX5 230 RX1 yX1_driftingMachines wsX1_driftingMachines) := goodIn_app (goodIn_of _ (by decide +kernel)) ggX5_house_X1_driftingMachines
set_option maxRecDepth 20000 in
theorem ggX5_value_X5_isField : GoodIn wsX5_value wsX5_isField := goodIn_r _ [15, 16, 17, 239, 240, 241, 242, 253, 254, 255, 256, 257, 258, 259, 260, 261, 262, 263] (by decide +kernel) (by decide +kernel)
set_option maxRecDepth 20000 in
theorem gX5_value_X5_isField : GoodIn wsX5_value (wsV RX5 62 RX5 yX5_isField wsX5_isField) := goodIn_app (goodIn_of _ (by decide +kernel)) ggX5_value_X5_isField
set_option maxRecDepth 20000 in
theorem ggX5_value_J4_init_da8c8 : GoodIn wsX5_value wsJ4_init_da8c8 := goodIn_r _ [20, 21, 22, 23, 24, 25, 26, 27, 28, 29, 30, 31, 32, 33, 34, 35, 36, 37, 38, 39, 235, 236, 237, 238] (by decide +kernel) (by decide +kernel)
set_option maxRecDepth 20000 in
theorem gX5_value_J4_init_da8c8 : GoodIn wsX5_value (wsJ4_init_da8c8) := ggX5_value_J4_init_da8c8
set_option maxRecDepth 20000 in
theorem ggX5_value_J4_append_cf468 : GoodIn wsX5_value wsJ4_append_cf468 := goodIn_r _ [43, 44, 45, 46, 47, 23, 48, 49, 30, 50, 51, 52, 53, 54, 31, 55, 56, 57, 58, 59, 60, 61, 62, 63, 64, 65, 66, 67, 68, 69, 70, 71, 72, 73, 74, 75, 76, 77, 78, 79, 80, 81, 82, 29, 83, 84, 85, 86, 87, 88, 89, 90, 91, 92, 93, 94, 28, 95, 96, 97, 98, 99, 100, 101, 102, 103, 32, 33, 34, 35, 36, 37, 38, 39, 104, 105, 106, 107, 108, 109, 110, 111, 112, 113, 114, 115, 116, 117, 118, 119, 120, 121, 122, 123, 124, 125, 126, 127, 128, 129, 130, 131, 132, 133, 134, 135, 136, 137, 138, 139, 140, 141, 142, 235, 236, 237, 238] (by decide +kernel) (by decide +kernel)
set_option maxRecDepth 20000 in
theorem gX5_value_J4_append_cf468 : GoodIn wsX5_value (wsV RX5 241 RJ4 yJ4_append_cf468 wsJ4_append_cf468) := goodIn_app (goodIn_of _ (by decide +kernel)) ggX5_value_J4_append_cf468
set_option maxRecDepth 20000 in
theorem ggX5_value_X5_contains : GoodIn wsX5_value wsX5_contains := goodIn_r _ [145] (by decide +kernel) (by decide +kernel)
set_option maxRecDepth 20000 in
theorem gX5_value_X5_contains : GoodIn wsX5_value (va_wsS RX5 142 yX5_contains wsX5_contains) := goodIn_app (goodIn_of _ (by decide +kernel)) ggX5_value_X5_contains
set_option maxRecDepth 20000 in
theorem ggX5_value_J4_append_bf812 : GoodIn wsX5_value wsJ4_append_bf812 := goodIn_r _ [149, 150, 151, 46, 152, 23, 153, 49, 30, 154, 155, 156, 157, 50, 51, 52, 53, 54, 31, 55, 56, 57, 58, 59, 60, 61, 62, 63, 64, 65, 66, 67, 68, 69, 70, 71, 72, 73, 74, 75, 76, 77, 78, 79, 80, 81, 82, 29, 83, 84, 85, 86, 87, 88, 89, 90, 91, 92, 93, 94, 28, 158, 159, 160, 161, 162, 163, 164, 34, 165, 128, 166, 167, 168, 113, 114, 115, 169, 170, 118, 171, 120, 172, 173, 123, 174, 175, 176, 177, 178, 179, 125, 126, 127, 129, 130, 235, 236, 237, 238] (by decide +kernel) (by decide +kernel)
set_option maxRecDepth 20000 in
theorem gX5_value_J4_append_bf812 : GoodIn wsX5_value (wsV RX5 245 RJ4 yJ4_append_bf812 wsJ4_append_bf812) := goodIn_app (goodIn_of _ (by decide +kernel)) ggX5_value_J4_append_bf812
set_option maxRecDepth 20000 in
theorem ggX5_value_J4_toString_0e30d : GoodIn wsX5_value wsJ4_toString_0e30d := goodIn_r _ [183, 184, 185, 118, 186, 187, 188, 189, 190, 191, 192, 26, 27, 193, 194, 195, 196, 197, 198, 199, 200, 23, 201, 30, 202, 203, 204, 205, 206, 5, 207, 208, 46, 209, 210, 49, 211, 91, 92, 93, 94, 28, 31, 212, 213, 75, 214, 77, 78, 79, 80, 81, 82, 215, 216, 217, 29, 83, 84, 67, 85, 86, 87, 88, 89, 218, 219, 220, 221, 4, 222, 223, 34, 224, 225, 226, 227, 110, 111, 112, 113, 114, 115, 116, 117, 119, 120, 121, 122, 123, 124, 228, 229, 230, 128, 129, 130, 36, 37, 38, 39, 231, 232, 233, 234, 264, 265, 266, 267, 235, 236, 237, 238] (by decide +kernel) (by decide +kernel)
set_option maxRecDepth 20000 in
theorem gX5_value_J4_toString_0e30d : GoodIn wsX5_value (wsV RX5 248 RJ4 yJ4_toString_0e30d wsJ4_toString_0e30d) := goodIn_app (goodIn_of _ (by decide +kernel)) ggX5_value_J4_toString_0e30d
set_option maxRecDepth 20000 in
theorem ggX5_reason_X5_isField : GoodIn wsX5_reason wsX5_isField := goodIn_r _ [8, 9, 10, 66, 67, 68, 69, 70, 71, 72, 73, 74, 75, 76, 77, 78, 79, 80] (by decide +kernel) (by decide +kernel)
set_option maxRecDepth 20000 in
theorem gX5_reason_X5_isField : GoodIn wsX5_reason (wsV RX5 62 RX5 yX5_isField wsX5_isField) := goodIn_app (goodIn_of _ (by decide +kernel)) ggX5_reason_X5_isField
set_option maxRecDepth 20000 in
theorem ggX5_reason_X4_reasonOf : GoodIn wsX5_reason wsX4_reasonOf := goodIn_r _ [15, 16, 17, 18, 19, 20, 21, 22, 23, 24, 25, 26, 27, 28, 29, 30, 31, 32, 33, 34, 35, 36, 37, 38, 39, 40, 41, 42, 7, 43, 44, 45, 46, 47, 48, 49, 50, 51, 52, 53, 54, 55, 56, 57, 58, 59, 60, 61, 62, 63, 64, 65, 81, 82, 83, 84, 85, 86, 87, 70, 71, 72, 73, 74, 75, 76, 77, 78, 79, 80, 88, 89, 90] (by decide +kernel) (by decide +kernel)
set_option maxRecDepth 20000 in
theorem gX5_reason_X4_reasonOf : GoodIn wsX5_reason (wsV RX5 205 RX4 yX4_reasonOf wsX4_reasonOf) := goodIn_app (goodIn_of _ (by decide +kernel)) ggX5_reason_X4_reasonOf
set_option maxRecDepth 20000 in
theorem ggX5_met_X5_isField : GoodIn wsX5_met wsX5_isField := goodIn_r _ [14, 5, 15, 58, 59, 60, 61, 62, 63, 64, 65, 66, 67, 68, 69, 70, 71, 72] (by decide +kernel) (by decide +kernel)
set_option maxRecDepth 20000 in
theorem gX5_met_X5_isField : GoodIn wsX5_met (wsV RX5 62 RX5 yX5_isField wsX5_isField) := goodIn_app (goodIn_of _ (by decide +kernel)) ggX5_met_X5_isField
set_option maxRecDepth 20000 in
theorem ggX5_met_X3_begin : GoodIn wsX5_met wsX3_begin := goodIn_r _ [20, 21, 22, 23, 24, 25, 26, 27, 28, 19, 29, 30, 31, 32, 33, 34, 13, 35, 36, 37, 38, 39, 40, 41, 42, 43, 44, 45, 46, 47, 48, 49, 50, 51, 52, 53, 54, 55, 56, 57, 80, 81, 82, 62, 63, 64, 65, 66, 67, 68, 69, 70, 71, 72] (by decide +kernel) (by decide +kernel)
set_option maxRecDepth 20000 in
theorem gX5_met_X3_begin : GoodIn wsX5_met (wsV RX5 257 RX3 yX3_begin wsX3_begin) := goodIn_app (goodIn_of _ (by decide +kernel)) ggX5_met_X3_begin
set_option maxRecDepth 20000 in
theorem ggX5_choices_X5_isField : GoodIn wsX5_choices wsX5_isField := goodIn_r _ [12, 13, 14, 57, 58, 59, 60, 68, 69, 70, 71, 72, 73, 74, 75, 76, 77, 78] (by decide +kernel) (by decide +kernel)
set_option maxRecDepth 20000 in
theorem gX5_choices_X5_isField : GoodIn wsX5_choices (wsV RX5 62 RX5 yX5_isField wsX5_isField) := goodIn_app (goodIn_of _ (by decide +kernel)) ggX5_choices_X5_isField
set_option maxRecDepth 20000 in
theorem ggX5_choices_X5_isNumber : GoodIn wsX5_choices wsX5_isNumber := goodIn_r _ [17] (by decide +kernel) (by decide +kernel)
set_option maxRecDepth 20000 in
theorem gX5_choices_X5_isNumber : GoodIn wsX5_choices (va_wsS RX5 81 yX5_isNumber wsX5_isNumber) := goodIn_app (goodIn_of _ (by decide +kernel)) ggX5_choices_X5_isNumber
set_option maxRecDepth 20000 in
theorem ggX5_choices_X0_count : GoodIn wsX5_choices wsX0_count := goodIn_r _ [22, 23, 24, 25, 26, 27, 28, 29, 30, 31, 21, 32, 33, 34, 35, 36, 37, 38, 39, 40, 41, 42, 43, 44, 11, 45, 46, 47, 48, 49, 50, 51, 52, 53, 54, 55, 56, 79, 80, 81, 82, 83, 84, 85, 86, 87, 88, 68, 69, 70, 71, 72, 73, 74, 75, 76, 77, 78] (by decide +kernel) (by decide +kernel)
set_option maxRecDepth 20000 in
theorem gX5_choices_X0_count : GoodIn wsX5_choices (wsV RX5 261 RX0 yX0_count wsX0_count) := goodIn_app (goodIn_of _ (by decide +kernel)) ggX5_choices_X0_count
set_option maxRecDepth 20000 in
theorem ggX5_isNarrower_X5_isField : GoodIn wsX5_isNarrower wsX5_isField := goodIn_r _ [10, 11, 12, 13, 14, 15, 16, 27, 28, 29, 30, 31, 32, 33, 34, 35, 36, 37] (by decide +kernel) (by decide +kernel)
set_option maxRecDepth 20000 in
theorem gX5_isNarrower_X5_isField : GoodIn wsX5_isNarrower (wsV RX5 62 RX5 yX5_isField wsX5_isField) := goodIn_app (goodIn_of _ (by decide +kernel)) ggX5_isNarrower_X5_isField
set_option maxRecDepth 20000 in
theorem ggX5_isSound_X5_contains : GoodIn wsX5_isSound wsX5_contains := goodIn_r _ [18] (by decide +kernel) (by decide +kernel)
set_option maxRecDepth 20000 in
theorem gX5_isSound_X5_contains : GoodIn wsX5_isSound (va_wsS RX5 142 yX5_contains wsX5_contains) := goodIn_app (goodIn_of _ (by decide +kernel)) ggX5_isSound_X5_contains
set_option maxRecDepth 20000 in
theorem ggX5_isSound_X2_counts : GoodIn wsX5_isSound wsX2_counts := goodIn_r _ [23, 24, 25, 26, 27, 28, 99, 100, 101, 102, 103, 104, 105, 106, 107, 108, 109] (by decide +kernel) (by decide +kernel)
set_option maxRecDepth 20000 in
theorem gX5_isSound_X2_counts : GoodIn wsX5_isSound (wsV RX5 101 RX2 yX2_counts wsX2_counts) := goodIn_app (goodIn_of _ (by decide +kernel)) ggX5_isSound_X2_counts
set_option maxRecDepth 20000 in
theorem ggX5_isSound_X1_drifting : GoodIn wsX5_isSound wsX1_drifting := goodIn_r _ [33, 34, 35, 36, 32, 37, 38, 39, 40, 41, 127, 128, 129, 130] (by decide +kernel) (by decide +kernel)
set_option maxRecDepth 20000 in
theorem gX5_isSound_X1_drifting : GoodIn wsX5_isSound (wsV RX5 213 RX1 yX1_drifting wsX1_drifting) := goodIn_app (goodIn_of _ (by decide +kernel)) ggX5_isSound_X1_drifting
set_option maxRecDepth 20000 in
theorem ggX5_isSound_X4_reasonOf : GoodIn wsX5_isSound wsX4_reasonOf := goodIn_r _ [46, 47, 48, 49, 50, 51, 52, 53, 54, 55, 56, 57, 58, 59, 60, 61, 62, 63, 64, 65, 66, 67, 68, 69, 70, 71, 72, 16, 17, 18, 73, 74, 75, 76, 77, 78, 79, 80, 81, 22, 82, 83, 84, 85, 86, 87, 88, 89, 90, 91, 92, 93, 110, 111, 112, 113, 114, 115, 116, 99, 100, 101, 102, 103, 104, 105, 106, 107, 108, 109, 117, 118, 119] (by decide +kernel) (by decide +kernel)
set_option maxRecDepth 20000 in
theorem gX5_isSound_X4_reasonOf : GoodIn wsX5_isSound (wsV RX5 205 RX4 yX4_reasonOf wsX4_reasonOf) := goodIn_app (goodIn_of _ (by decide +kernel)) ggX5_isSound_X4_reasonOf
set_option maxRecDepth 20000 in
theorem ggX5_isSound_X3_begin : GoodIn wsX5_isSound wsX3_begin := goodIn_r _ [59, 60, 61, 62, 63, 64, 65, 66, 67, 58, 68, 69, 70, 71, 72, 16, 17, 18, 73, 74, 75, 76, 77, 78, 79, 80, 81, 22, 82, 83, 84, 85, 86, 87, 88, 89, 90, 91, 92, 93, 117, 118, 119, 99, 100, 101, 102, 103, 104, 105, 106, 107, 108, 109] (by decide +kernel) (by decide +kernel)
set_option maxRecDepth 20000 in
theorem gX5_isSound_X3_begin : GoodIn wsX5_isSound (wsV RX5 257 RX3 yX3_begin wsX3_begin) := goodIn_app (goodIn_of _ (by decide +kernel)) ggX5_isSound_X3_begin
set_option maxRecDepth 20000 in
theorem ggX5_digest_X5_house : GoodIn wsX5_digest wsX5_house := goodIn_ca (goodIn_r _ [10, 11, 12, 3, 4, 5, 13, 14, 15, 16, 17, 18, 19, 20, 21, 22, 23, 24, 25, 26, 27, 28, 29, 30, 31, 32, 33, 34, 35, 36, 37, 38, 39, 40, 41, 42, 43, 44, 45, 46, 47, 48, 49, 50, 51, 52, 53, 54, 55, 56, 57, 58, 59, 60, 195, 196, 197, 198, 199, 200, 201, 202, 203, 204, 205, 206, 207, 208, 209, 210, 211, 212, 213, 214, 215, 216, 217, 218, 219, 220, 221, 222, 223, 224, 225, 226, 227, 228, 229, 230] (by decide +kernel) (by decide +kernel)) (goodIn_sub (fun _ h => List.mem_cons_of_mem _ (List.mem_append_left _ (List.mem_append_right _ h))) (by decide +kernel))
set_option maxRecDepth 20000 in
theorem gX5_digest_X5_house : GoodIn wsX5_digest (wsV RX5 269 RX5 yX5_house wsX5_house) := goodIn_app (goodIn_of _ (by decide +kernel)) ggX5_digest_X5_house
set_option maxRecDepth 20000 in
theorem ggX5_digest_X5_ofField : GoodIn wsX5_digest wsX5_ofField := goodIn_ca (goodIn_ca (goodIn_r _ [64, 65, 66, 11, 12, 3, 67, 13, 14, 68, 69, 70, 18, 71, 16, 72, 73, 74, 9, 75, 4, 76, 77, 78, 79, 80, 81, 82, 83, 84, 85, 47, 86, 58, 60, 195, 196, 197, 198, 199, 200, 201, 202, 203, 204, 205, 206, 207, 208, 209, 210, 211, 212, 213, 214, 215, 216, 217, 218, 219, 224, 225, 226, 227, 228, 229, 230, 220, 221, 222, 223] (by decide +kernel) (by decide +kernel)) (goodIn_sub (fun _ h => List.mem_cons_of_mem _ (List.mem_append_right _ h)) (by decide +kernel))) (goodIn_sub (fun _ h => List.mem_cons_of_mem _ (List.mem_append_left _ (List.mem_append_right _ h))) (by decide +kernel))
set_option maxRecDepth 20000 in
theorem gX5_digest_X5_ofField : GoodIn wsX5_digest (wsV RX5 272 RX5 yX5_ofField wsX5_ofField) := goodIn_app (goodIn_of _ (by decide +kernel)) ggX5_digest_X5_ofField
set_option maxRecDepth 20000 in
theorem ggX5_digest_X5_reason : GoodIn wsX5_digest wsX5_reason := goodIn_ca (goodIn_r _ [90, 65, 66, 13, 72, 73, 74, 9, 75, 3, 4, 91, 92, 93, 39, 94, 41, 42, 95, 96, 97, 98, 99, 100, 101, 102, 103, 104, 105, 106, 107, 108, 109, 110, 111, 112, 113, 114, 115, 116, 117, 118, 119, 120, 121, 122, 123, 124, 125, 126, 127, 128, 129, 24, 130, 131, 132, 133, 134, 135, 136, 137, 138, 139, 140, 141, 195, 196, 197, 198, 199, 200, 201, 202, 203, 204, 205, 206, 207, 208, 209, 210, 211, 212, 213, 214, 215, 216, 217, 218, 219] (by decide +kernel) (by decide +kernel)) (goodIn_sub (fun _ h => List.mem_cons_of_mem _ (List.mem_append_right _ h)) (by decide +kernel))
set_option maxRecDepth 20000 in
theorem gX5_digest_X5_reason : GoodIn wsX5_digest (wsV RX5 276 RX5 yX5_reason wsX5_reason) := goodIn_app (goodIn_of _ (by decide +kernel)) ggX5_digest_X5_reason
set_option maxRecDepth 20000 in
theorem ggX5_digest_X5_ofLine : GoodIn wsX5_digest wsX5_ofLine := goodIn_ca (goodIn_ca (goodIn_r _ [145, 65, 66, 11, 12, 3, 146, 147, 148, 149, 150, 13, 151, 152, 153, 9, 154, 5, 155, 28, 29, 24, 30, 31, 32, 33, 34, 35, 91, 92, 93, 39, 94, 41, 42, 95, 96, 97, 98, 99, 100, 101, 102, 103, 104, 105, 106, 107, 108, 109, 110, 111, 112, 113, 114, 115, 116, 117, 118, 119, 120, 121, 122, 123, 124, 125, 126, 127, 128, 129, 130, 131, 132, 133, 134, 135, 136, 137, 138, 139, 140, 141, 156, 195, 196, 197, 198, 199, 200, 201, 202, 203, 204, 205, 206, 207, 208, 209, 210, 211, 212, 213, 214, 215, 216, 217, 218, 219] (by decide +kernel) (by decide +kernel)) (goodIn_sub (fun _ h => List.mem_cons_of_mem _ (List.mem_append_right _ h)) (by decide +kernel))) (goodIn_sub (fun _ h => List.mem_cons_of_mem _ (List.mem_append_left _ (List.mem_append_right _ h))) (by decide +kernel))
set_option maxRecDepth 20000 in
theorem gX5_digest_X5_ofLine : GoodIn wsX5_digest (wsV RX5 279 RX5 yX5_ofLine wsX5_ofLine) := goodIn_app (goodIn_of _ (by decide +kernel)) ggX5_digest_X5_ofLine
set_option maxRecDepth 20000 in
theorem ggX5_digest_X5_sumOfMachines : GoodIn wsX5_digest wsX5_sumOfMachines := goodIn_ca (goodIn_ca (goodIn_r _ [160, 2, 3, 4, 161, 162, 163, 9, 164, 65, 66, 11, 12, 16, 165, 166, 167, 168, 169, 50, 51, 47, 52, 53, 54, 55, 56, 57, 58, 59, 60, 76, 77, 78, 79, 80, 81, 82, 170, 171, 172, 173, 174, 72, 73, 74, 75, 195, 196, 197, 198, 199, 200, 201, 202, 203, 204, 205, 206, 207, 208, 209, 220, 221, 222, 223] (by decide +kernel) (by decide +kernel)) (goodIn_sub (fun _ h => List.mem_cons_of_mem _ (List.mem_append_right _ h)) (by decide +kernel))) (goodIn_sub (fun _ h => List.mem_cons_of_mem _ (List.mem_append_left _ (List.mem_append_right _ h))) (by decide +kernel))
set_option maxRecDepth 20000 in
theorem gX5_digest_X5_sumOfMachines : GoodIn wsX5_digest (wsV RX5 282 RX5 yX5_sumOfMachines wsX5_sumOfMachines) := goodIn_app (goodIn_of _ (by decide +kernel)) ggX5_digest_X5_sumOfMachines
set_option maxRecDepth 20000 in
theorem ggX5_digest_X5_sumOfCommits : GoodIn wsX5_digest wsX5_sumOfCommits := goodIn_ca (goodIn_r _ [178, 16, 17, 3, 4, 2, 179, 180, 181, 9, 182, 65, 66, 183, 184, 185, 186, 187, 72, 73, 74, 75, 195, 196, 197, 198, 220, 221, 222, 223, 199, 200, 201, 202, 203, 204, 205, 206, 207, 208, 209] (by decide +kernel) (by decide +kernel)) (goodIn_sub (fun _ h => List.mem_cons_of_mem _ (List.mem_append_right _ h)) (by decide +kernel))
set_option maxRecDepth 20000 in
theorem gX5_digest_X5_sumOfCommits : GoodIn wsX5_digest (wsV RX5 286 RX5 yX5_sumOfCommits wsX5_sumOfCommits) := goodIn_app (goodIn_of _ (by decide +kernel)) ggX5_digest_X5_sumOfCommits
set_option maxRecDepth 20000 in
theorem ggX5_digest_X5_isSound : GoodIn wsX5_digest wsX5_isSound := goodIn_r _ [191, 3, 4, 13, 14, 68, 69, 18, 71, 5, 192, 16, 165, 15, 193, 156, 119, 9, 120, 155, 28, 29, 24, 30, 31, 32, 33, 34, 35, 169, 50, 51, 47, 52, 53, 54, 55, 56, 57, 58, 59, 60, 91, 92, 93, 39, 94, 41, 42, 95, 96, 97, 98, 99, 100, 101, 102, 103, 104, 105, 106, 107, 108, 109, 110, 111, 112, 113, 114, 115, 116, 117, 118, 121, 122, 123, 124, 125, 126, 127, 128, 129, 130, 131, 132, 133, 134, 135, 136, 137, 138, 139, 140, 141, 194, 195, 196, 197, 198, 199, 200, 201, 202, 203, 204, 205, 206, 207, 208, 209, 210, 211, 212, 213, 214, 215, 216, 217, 218, 219, 224, 225, 226, 227, 228, 229, 230, 220, 221, 222, 223] (by decide +kernel) (by decide +kernel)
set_option maxRecDepth 20000 in
theorem gX5_digest_X5_isSound : GoodIn wsX5_digest (wsV RX5 289 RX5 yX5_isSound wsX5_isSound) := goodIn_app (goodIn_of _ (by decide +kernel)) ggX5_digest_X5_isSound
set_option maxRecDepth 20000 in
theorem ggX5_sumOfMachines_X5_ofMachine : GoodIn wsX5_sumOfMachines wsX5_ofMachine := goodIn_ca (goodIn_ca (goodIn_r _ [8, 9, 10, 11, 12, 13, 14, 15, 16, 7, 17, 18, 19, 20, 21, 22, 23, 24, 25, 26, 27, 28, 29, 30, 31, 32, 33, 34, 35, 36, 37, 47, 48, 49, 50, 62, 63, 64, 65] (by decide +kernel) (by decide +kernel)) (goodIn_sub (fun _ h => List.mem_cons_of_mem _ (List.mem_append_left _ (List.mem_append_right _ h))) (by decide +kernel))) (goodIn_sub (fun _ h => List.mem_cons_of_mem _ (List.mem_append_right _ h)) (by decide +kernel))
set_option maxRecDepth 20000 in
theorem gX5_sumOfMachines_X5_ofMachine : GoodIn wsX5_sumOfMachines (wsV RX5 293 RX5 yX5_ofMachine wsX5_ofMachine) := goodIn_app (goodIn_of _ (by decide +kernel)) ggX5_sumOfMachines_X5_ofMachine
set_option maxRecDepth 20000 in
theorem ggX5_sumOfMachines_X5_has : GoodIn wsX5_sumOfMachines wsX5_has := goodIn_ca (goodIn_r _ [41, 9, 10, 13, 42, 15, 16, 7, 17, 43, 44, 45, 46, 2, 3, 47, 48, 49, 50, 62, 63, 64, 65, 51, 52, 53, 54, 55, 56, 57, 58, 59, 60, 61] (by decide +kernel) (by decide +kernel)) (goodIn_sub (fun _ h => List.mem_cons_of_mem _ (List.mem_append_left _ (List.mem_append_right _ h))) (by decide +kernel))
set_option maxRecDepth 20000 in
theorem gX5_sumOfMachines_X5_has : GoodIn wsX5_sumOfMachines (wsV RX5 296 RX5 yX5_has wsX5_has) := goodIn_app (goodIn_of _ (by decide +kernel)) ggX5_sumOfMachines_X5_has
set_option maxRecDepth 20000 in
theorem ggX5_sumOfCommits_X5_ofCommit : GoodIn wsX5_sumOfCommits wsX5_ofCommit := goodIn_ca (goodIn_r _ [10, 11, 12, 1, 13, 14, 15, 16, 9, 17, 2, 18, 19, 20, 21, 3, 4, 22, 23, 24, 25, 26, 27, 28, 29, 30, 31, 32, 33, 34, 35, 36, 37, 38, 39, 40] (by decide +kernel) (by decide +kernel)) (goodIn_sub (fun _ h => List.mem_cons_of_mem _ (List.mem_append_right _ h)) (by decide +kernel))
set_option maxRecDepth 20000 in
theorem gX5_sumOfCommits_X5_ofCommit : GoodIn wsX5_sumOfCommits (wsV RX5 299 RX5 yX5_ofCommit wsX5_ofCommit) := goodIn_app (goodIn_of _ (by decide +kernel)) ggX5_sumOfCommits_X5_ofCommit
set_option maxRecDepth 20000 in
theorem ggX5_tell_X2_makeLine : GoodIn wsX5_tell wsX2_makeLine := goodIn_r _ [7, 8, 9, 10, 11, 12, 13, 138, 139, 140, 141, 142, 143, 144, 145, 146, 147, 148] (by decide +kernel) (by decide +kernel)
set_option maxRecDepth 20000 in
theorem gX5_tell_X2_makeLine : GoodIn wsX5_tell (wsV RX5 302 RX2 yX2_makeLine wsX2_makeLine) := goodIn_app (goodIn_of _ (by decide +kernel)) ggX5_tell_X2_makeLine
set_option maxRecDepth 20000 in
theorem ggX5_tell_X4_renew : GoodIn wsX5_tell wsX4_renew := goodIn_r _ [18, 19, 20, 21, 22, 23, 24, 25, 26, 27, 28, 29, 6, 30, 8, 9, 31, 32, 33, 34, 35, 36, 10, 37, 11, 38, 39, 40, 41, 42, 43, 44, 45, 46, 47, 48, 49, 50, 51, 52, 53, 54, 55, 56, 57, 58, 59, 60, 61, 62, 63, 64, 65, 66, 67, 68, 69, 70, 71, 72, 12, 73, 74, 75, 76, 13, 77, 78, 79, 80, 81, 82, 83, 84, 85, 86, 87, 88, 89, 90, 91, 92, 93, 94, 95, 96, 97, 98, 99, 100, 101, 102, 103, 104, 105, 106, 107, 108, 109, 110, 111, 112, 113, 114, 115, 17, 116, 117, 118, 119, 120, 121, 122, 123, 124, 125, 126, 127, 128, 129, 130, 131, 132, 133, 149, 150, 151, 152, 153, 154, 155, 138, 139, 140, 141, 142, 143, 144, 145, 146, 147, 148, 156, 157, 158, 159, 160, 161, 162, 163, 164, 165] (by decide +kernel) (by decide +kernel)
set_option maxRecDepth 20000 in
theorem gX5_tell_X4_renew : GoodIn wsX5_tell (wsV RX5 59 RX4 yX4_renew wsX4_renew) := goodIn_app (goodIn_of _ (by decide +kernel)) ggX5_tell_X4_renew
set_option maxRecDepth 20000 in
theorem ggX8_init_Jx4a65c_init_da8c8 : GoodIn wsX8_init wsJx4a65c_init_da8c8 := goodIn_r _ [19, 20, 21, 22, 23, 24, 25, 26, 27, 28, 29, 30, 31, 2, 3, 47, 48, 49] (by decide +kernel) (by decide +kernel)
set_option maxRecDepth 20000 in
theorem gX8_init_Jx4a65c_init_da8c8 : GoodIn wsX8_init (wsJx4a65c_init_da8c8) := ggX8_init_Jx4a65c_init_da8c8
set_option maxRecDepth 20000 in
theorem ggX8_isField_X8_is : GoodIn wsX8_isField wsX8_is := goodIn_r _ [5] (by decide +kernel) (by decide +kernel)
set_option maxRecDepth 20000 in
theorem gX8_isField_X8_is : GoodIn wsX8_isField (va_wsS RX8 48 yX8_is wsX8_is) := goodIn_app (goodIn_of _ (by decide +kernel)) ggX8_isField_X8_is
set_option maxRecDepth 20000 in
theorem ggX8_isLine_Jx4a65c_size_8abf5 : GoodIn wsX8_isLine wsJx4a65c_size_8abf5 := goodIn_r _ [6, 7, 27, 28, 29] (by decide +kernel) (by decide +kernel)
set_option maxRecDepth 20000 in
theorem gX8_isLine_Jx4a65c_size_8abf5 : GoodIn wsX8_isLine (wsV RX8 52 RJx4a65c yJx4a65c_size_8abf5 wsJx4a65c_size_8abf5) := goodIn_app (goodIn_of _ (by decide +kernel)) ggX8_isLine_Jx4a65c_size_8abf5
set_option maxRecDepth 20000 in
theorem ggX8_isLine_X8_is : GoodIn wsX8_isLine wsX8_is := goodIn_r _ [11] (by decide +kernel) (by decide +kernel)
set_option maxRecDepth 20000 in
theorem gX8_isLine_X8_is : GoodIn wsX8_isLine (va_wsS RX8 48 yX8_is wsX8_is) := goodIn_app (goodIn_of _ (by decide +kernel)) ggX8_isLine_X8_is
set_option maxRecDepth 20000 in
theorem ggX8_isMachine_X8_is : GoodIn wsX8_isMachine wsX8_is := goodIn_r _ [4] (by decide +kernel) (by decide +kernel)
set_option maxRecDepth 20000 in
theorem gX8_isMachine_X8_is : GoodIn wsX8_isMachine (va_wsS RX8 48 yX8_is wsX8_is) := goodIn_app (goodIn_of _ (by decide +kernel)) ggX8_isMachine_X8_is
set_option maxRecDepth 20000 in
theorem ggX8_counting_Jx4a65c_size_8abf5 : GoodIn wsX8_counting wsJx4a65c_size_8abf5 := goodIn_r _ [7, 8, 54, 55, 56] (by decide +kernel) (by decide +kernel)
set_option maxRecDepth 20000 in
theorem gX8_counting_Jx4a65c_size_8abf5 : GoodIn wsX8_counting (wsV RX8 52 RJx4a65c yJx4a65c_size_8abf5 wsJx4a65c_size_8abf5) := goodIn_app (goodIn_of _ (by decide +kernel)) ggX8_counting_Jx4a65c_size_8abf5
set_option maxRecDepth 20000 in
theorem ggX8_counting_Jx4a65c_get_915e3 : GoodIn wsX8_counting wsJx4a65c_get_915e3 := goodIn_r _ [12, 8, 13, 14, 15, 16, 17, 18, 19, 20, 21, 22, 23, 6, 24, 25, 54, 55, 56] (by decide +kernel) (by decide +kernel)
set_option maxRecDepth 20000 in
theorem gX8_counting_Jx4a65c_get_915e3 : GoodIn wsX8_counting (wsV RX8 71 RJx4a65c yJx4a65c_get_915e3 wsJx4a65c_get_915e3) := goodIn_app (goodIn_of _ (by decide +kernel)) ggX8_counting_Jx4a65c_get_915e3
set_option maxRecDepth 20000 in
theorem ggX8_counting_X8_counts : GoodIn wsX8_counting wsX8_counts := goodIn_r _ [30, 31, 47, 48, 49, 50, 51, 52, 53, 32, 33, 34, 35, 36, 37, 38, 39, 40, 41, 42, 43, 44, 45, 46] (by decide +kernel) (by decide +kernel)
set_option maxRecDepth 20000 in
theorem gX8_counting_X8_counts : GoodIn wsX8_counting (wsV RX8 75 RX8 yX8_counts wsX8_counts) := goodIn_app (goodIn_of _ (by decide +kernel)) ggX8_counting_X8_counts
set_option maxRecDepth 20000 in
theorem ggX8_field_X8_is : GoodIn wsX8_field wsX8_is := goodIn_r _ [8] (by decide +kernel) (by decide +kernel)
set_option maxRecDepth 20000 in
theorem gX8_field_X8_is : GoodIn wsX8_field (va_wsS RX8 48 yX8_is wsX8_is) := goodIn_app (goodIn_of _ (by decide +kernel)) ggX8_field_X8_is
set_option maxRecDepth 20000 in
theorem ggX8_field_X8_refuse : GoodIn wsX8_field wsX8_refuse := goodIn_r _ [12, 1, 13, 14, 15, 16, 17, 18, 19, 20, 21, 22, 23, 24, 25, 26, 27] (by decide +kernel) (by decide +kernel)
set_option maxRecDepth 20000 in
theorem gX8_field_X8_refuse : GoodIn wsX8_field (wsV RX8 82 RX8 yX8_refuse wsX8_refuse) := goodIn_app (goodIn_of _ (by decide +kernel)) ggX8_field_X8_refuse
set_option maxRecDepth 20000 in
theorem ggX8_tell_X8_isField : GoodIn wsX8_tell wsX8_isField := goodIn_r _ [10, 11, 12, 13, 9, 14, 84, 85, 86, 87, 88, 89, 90, 91, 92, 93, 94, 95, 96, 97, 98] (by decide +kernel) (by decide +kernel)
set_option maxRecDepth 20000 in
theorem gX8_tell_X8_isField : GoodIn wsX8_tell (wsV RX8 86 RX8 yX8_isField wsX8_isField) := goodIn_app (goodIn_of _ (by decide +kernel)) ggX8_tell_X8_isField
set_option maxRecDepth 20000 in
theorem ggX8_tell_X8_refuse : GoodIn wsX8_tell wsX8_refuse := goodIn_r _ [18, 1, 84, 85, 86, 87, 88, 89, 90, 91, 92, 93, 94, 95, 96, 97, 98] (by decide +kernel) (by decide +kernel)
set_option maxRecDepth 20000 in
theorem gX8_tell_X8_refuse : GoodIn wsX8_tell (wsV RX8 82 RX8 yX8_refuse wsX8_refuse) := goodIn_app (goodIn_of _ (by decide +kernel)) ggX8_tell_X8_refuse
set_option maxRecDepth 20000 in
theorem ggX8_tell_X8_is : GoodIn wsX8_tell wsX8_is := goodIn_r _ [14] (by decide +kernel) (by decide +kernel)
set_option maxRecDepth 20000 in
theorem gX8_tell_X8_is : GoodIn wsX8_tell (va_wsS RX8 48 yX8_is wsX8_is) := goodIn_app (goodIn_of _ (by decide +kernel)) ggX8_tell_X8_is
set_option maxRecDepth 20000 in
theorem ggX8_tell_Jx4a65c_size_8abf5 : GoodIn wsX8_tell wsJx4a65c_size_8abf5 := goodIn_r _ [23, 24, 106, 107, 108] (by decide +kernel) (by decide +kernel)
set_option maxRecDepth 20000 in
theorem gX8_tell_Jx4a65c_size_8abf5 : GoodIn wsX8_tell (wsV RX8 52 RJx4a65c yJx4a65c_size_8abf5 wsJx4a65c_size_8abf5) := goodIn_app (goodIn_of _ (by decide +kernel)) ggX8_tell_Jx4a65c_size_8abf5
set_option maxRecDepth 20000 in
theorem ggX8_tell_X7_init : GoodIn wsX8_tell wsX7_init := goodIn_r _ [26, 27, 28, 29] (by decide +kernel) (by decide +kernel)
set_option maxRecDepth 20000 in
theorem gX8_tell_X7_init_n90 : GoodIn wsX8_tell (wsX7_init) := ggX8_tell_X7_init
set_option maxRecDepth 20000 in
theorem ggX8_tell_Jx4a65c_add_9ea2d : GoodIn wsX8_tell wsJx4a65c_add_9ea2d := goodIn_r _ [33, 34, 35, 36, 24, 37, 38, 39, 22, 40, 41, 42, 43, 44, 45, 46, 47, 48, 49, 50, 51, 52, 53, 54, 55, 56, 57, 58, 59, 60, 61, 62, 63, 64, 65, 66, 67, 68, 69, 70, 71, 72, 73, 74, 75, 76, 77, 78, 79, 80, 81, 82, 83, 106, 107, 108] (by decide +kernel) (by decide +kernel)
set_option maxRecDepth 20000 in
theorem gX8_tell_Jx4a65c_add_9ea2d : GoodIn wsX8_tell (wsV RX8 97 RJx4a65c yJx4a65c_add_9ea2d wsJx4a65c_add_9ea2d) := goodIn_app (goodIn_of _ (by decide +kernel)) ggX8_tell_Jx4a65c_add_9ea2d
set_option maxRecDepth 20000 in
theorem ggX8_oneOf_X8_is : GoodIn wsX8_oneOf wsX8_is := goodIn_r _ [4] (by decide +kernel) (by decide +kernel)
set_option maxRecDepth 20000 in
theorem gX8_oneOf_X8_is : GoodIn wsX8_oneOf (va_wsS RX8 48 yX8_is wsX8_is) := goodIn_app (goodIn_of _ (by decide +kernel)) ggX8_oneOf_X8_is
set_option maxRecDepth 20000 in
theorem ggX8_oneOf_X8_tell : GoodIn wsX8_oneOf wsX8_tell := goodIn_r _ [8, 9, 10, 11, 12, 13, 14, 15, 16, 3, 17, 18, 1, 2, 4, 19, 20, 21, 22, 23, 24, 25, 26, 27, 28, 29, 30, 31, 32, 33, 34, 35, 36, 37, 38, 39, 40, 41, 42, 43, 44, 45, 46, 47, 48, 49, 50, 51, 52, 53, 54, 55, 56, 57, 58, 59, 60, 61, 62, 63, 64, 65, 66, 67, 68, 69, 70, 71, 72, 73, 74, 75, 76, 77, 78, 79, 80, 81, 82, 83, 84, 85, 86, 87, 88, 89, 90, 91, 92, 93, 94, 95, 96, 97, 98, 99, 100, 101, 102, 103, 104, 105, 106, 107, 108, 109, 110, 111, 112] (by decide +kernel) (by decide +kernel)
set_option maxRecDepth 20000 in
theorem gX8_oneOf_X8_tell : GoodIn wsX8_oneOf (wsV RX8 101 RX8 yX8_tell wsX8_tell) := goodIn_app (goodIn_of _ (by decide +kernel)) ggX8_oneOf_X8_tell
set_option maxRecDepth 20000 in
theorem ggX8_bound_X8_is : GoodIn wsX8_bound wsX8_is := goodIn_r _ [4] (by decide +kernel) (by decide +kernel)
set_option maxRecDepth 20000 in
theorem gX8_bound_X8_is : GoodIn wsX8_bound (va_wsS RX8 48 yX8_is wsX8_is) := goodIn_app (goodIn_of _ (by decide +kernel)) ggX8_bound_X8_is
set_option maxRecDepth 20000 in
theorem ggX8_bound_X8_tell : GoodIn wsX8_bound wsX8_tell := goodIn_r _ [8, 9, 10, 11, 12, 13, 14, 15, 16, 3, 17, 18, 1, 2, 4, 19, 20, 21, 22, 23, 24, 25, 26, 27, 28, 29, 30, 31, 32, 33, 34, 35, 36, 37, 38, 39, 40, 41, 42, 43, 44, 45, 46, 47, 48, 49, 50, 51, 52, 53, 54, 55, 56, 57, 58, 59, 60, 61, 62, 63, 64, 65, 66, 67, 68, 69, 70, 71, 72, 73, 74, 75, 76, 77, 78, 79, 80, 81, 82, 83, 84, 85, 86, 87, 88, 89, 90, 91, 92, 93, 94, 95, 96, 97, 98, 99, 100, 101, 102, 103, 104, 105, 106, 107, 108, 109, 110, 111, 112] (by decide +kernel) (by decide +kernel)
set_option maxRecDepth 20000 in
theorem gX8_bound_X8_tell : GoodIn wsX8_bound (wsV RX8 101 RX8 yX8_tell wsX8_tell) := goodIn_app (goodIn_of _ (by decide +kernel)) ggX8_bound_X8_tell
set_option maxRecDepth 20000 in
theorem ggX8_more_X8_is : GoodIn wsX8_more wsX8_is := goodIn_r _ [4] (by decide +kernel) (by decide +kernel)
set_option maxRecDepth 20000 in
theorem gX8_more_X8_is : GoodIn wsX8_more (va_wsS RX8 48 yX8_is wsX8_is) := goodIn_app (goodIn_of _ (by decide +kernel)) ggX8_more_X8_is
set_option maxRecDepth 20000 in
theorem ggX8_more_X8_tell : GoodIn wsX8_more wsX8_tell := goodIn_r _ [8, 9, 10, 11, 12, 13, 14, 15, 16, 3, 17, 18, 1, 2, 4, 19, 20, 21, 22, 23, 24, 25, 26, 27, 28, 29, 30, 31, 32, 33, 34, 35, 36, 37, 38, 39, 40, 41, 42, 43, 44, 45, 46, 47, 48, 49, 50, 51, 52, 53, 54, 55, 56, 57, 58, 59, 60, 61, 62, 63, 64, 65, 66, 67, 68, 69, 70, 71, 72, 73, 74, 75, 76, 77, 78, 79, 80, 81, 82, 83, 84, 85, 86, 87, 88, 89, 90, 91, 92, 93, 94, 95, 96, 97, 98, 99, 100, 101, 102, 103, 104, 105, 106, 107, 108, 109, 110, 111, 112] (by decide +kernel) (by decide +kernel)
set_option maxRecDepth 20000 in
theorem gX8_more_X8_tell : GoodIn wsX8_more (wsV RX8 101 RX8 yX8_tell wsX8_tell) := goodIn_app (goodIn_of _ (by decide +kernel)) ggX8_more_X8_tell
set_option maxRecDepth 20000 in
theorem ggX8_unlike_X8_tell : GoodIn wsX8_unlike wsX8_tell := goodIn_r _ [5, 6, 7, 8, 9, 10, 11, 12, 13, 4, 14, 15, 16, 17, 18, 19, 20, 21, 22, 23, 24, 25, 26, 27, 28, 29, 30, 31, 32, 33, 34, 35, 36, 37, 38, 39, 40, 41, 42, 43, 44, 45, 46, 47, 48, 49, 50, 51, 52, 53, 54, 55, 56, 57, 58, 59, 60, 61, 62, 63, 64, 65, 66, 67, 68, 69, 70, 71, 72, 73, 74, 75, 76, 77, 78, 79, 80, 81, 82, 83, 84, 85, 86, 87, 88, 89, 90, 91, 92, 93, 94, 95, 96, 97, 98, 99, 100, 101, 102, 103, 104, 105, 106, 107, 108, 109, 110, 111, 112] (by decide +kernel) (by decide +kernel)
set_option maxRecDepth 20000 in
theorem gX8_unlike_X8_tell : GoodIn wsX8_unlike (wsV RX8 101 RX8 yX8_tell wsX8_tell) := goodIn_app (goodIn_of _ (by decide +kernel)) ggX8_unlike_X8_tell
set_option maxRecDepth 20000 in
theorem ggX8_preset_X8_is : GoodIn wsX8_preset wsX8_is := goodIn_r _ [4] (by decide +kernel) (by decide +kernel)
set_option maxRecDepth 20000 in
theorem gX8_preset_X8_is : GoodIn wsX8_preset (va_wsS RX8 48 yX8_is wsX8_is) := goodIn_app (goodIn_of _ (by decide +kernel)) ggX8_preset_X8_is
set_option maxRecDepth 20000 in
theorem ggX8_preset_X8_tell : GoodIn wsX8_preset wsX8_tell := goodIn_r _ [8, 9, 10, 11, 12, 13, 14, 15, 16, 3, 17, 18, 1, 2, 4, 19, 20, 21, 22, 23, 24, 25, 26, 27, 28, 29, 30, 31, 32, 33, 34, 35, 36, 37, 38, 39, 40, 41, 42, 43, 44, 45, 46, 47, 48, 49, 50, 51, 52, 53, 54, 55, 56, 57, 58, 59, 60, 61, 62, 63, 64, 65, 66, 67, 68, 69, 70, 71, 72, 73, 74, 75, 76, 77, 78, 79, 80, 81, 82, 83, 84, 85, 86, 87, 88, 89, 90, 91, 92, 93, 94, 95, 96, 97, 98, 99, 100, 101, 102, 103, 104, 105, 106, 107, 108, 109, 110, 111, 112] (by decide +kernel) (by decide +kernel)
set_option maxRecDepth 20000 in
theorem gX8_preset_X8_tell : GoodIn wsX8_preset (wsV RX8 101 RX8 yX8_tell wsX8_tell) := goodIn_app (goodIn_of _ (by decide +kernel)) ggX8_preset_X8_tell
set_option maxRecDepth 20000 in
theorem ggX8_approve_X8_isLine : GoodIn wsX8_approve wsX8_isLine := goodIn_r _ [8, 2, 9, 10, 11, 12, 13, 14, 15, 16, 7, 17, 40, 41, 42, 43, 44, 45, 46, 47, 48, 49, 50, 51, 52, 53, 54, 62, 63, 64] (by decide +kernel) (by decide +kernel)
set_option maxRecDepth 20000 in
theorem gX8_approve_X8_isLine : GoodIn wsX8_approve (wsV RX8 105 RX8 yX8_isLine wsX8_isLine) := goodIn_app (goodIn_of _ (by decide +kernel)) ggX8_approve_X8_isLine
set_option maxRecDepth 20000 in
theorem ggX8_approve_Jx4a65c_get_915e3 : GoodIn wsX8_approve wsJx4a65c_get_915e3 := goodIn_r _ [21, 14, 22, 23, 24, 25, 26, 27, 28, 29, 30, 31, 32, 12, 33, 34, 62, 63, 64] (by decide +kernel) (by decide +kernel)
set_option maxRecDepth 20000 in
theorem gX8_approve_Jx4a65c_get_915e3 : GoodIn wsX8_approve (wsV RX8 71 RJx4a65c yJx4a65c_get_915e3 wsJx4a65c_get_915e3) := goodIn_app (goodIn_of _ (by decide +kernel)) ggX8_approve_Jx4a65c_get_915e3
set_option maxRecDepth 20000 in
theorem ggX8_approve_X8_counts : GoodIn wsX8_approve wsX8_counts := goodIn_r _ [38, 39, 55, 56, 57, 58, 59, 60, 61, 40, 41, 42, 43, 44, 45, 46, 47, 48, 49, 50, 51, 52, 53, 54] (by decide +kernel) (by decide +kernel)
set_option maxRecDepth 20000 in
theorem gX8_approve_X8_counts : GoodIn wsX8_approve (wsV RX8 75 RX8 yX8_counts wsX8_counts) := goodIn_app (goodIn_of _ (by decide +kernel)) ggX8_approve_X8_counts
set_option maxRecDepth 20000 in
theorem ggX8_withdraw_X8_isLine : GoodIn wsX8_withdraw wsX8_isLine := goodIn_r _ [8, 2, 9, 10, 11, 12, 13, 14, 15, 16, 7, 17, 40, 41, 42, 43, 44, 45, 46, 47, 48, 49, 50, 51, 52, 53, 54, 62, 63, 64] (by decide +kernel) (by decide +kernel)
set_option maxRecDepth 20000 in
theorem gX8_withdraw_X8_isLine : GoodIn wsX8_withdraw (wsV RX8 105 RX8 yX8_isLine wsX8_isLine) := goodIn_app (goodIn_of _ (by decide +kernel)) ggX8_withdraw_X8_isLine
set_option maxRecDepth 20000 in
theorem ggX8_withdraw_Jx4a65c_get_915e3 : GoodIn wsX8_withdraw wsJx4a65c_get_915e3 := goodIn_r _ [21, 14, 22, 23, 24, 25, 26, 27, 28, 29, 30, 31, 32, 12, 33, 34, 62, 63, 64] (by decide +kernel) (by decide +kernel)
set_option maxRecDepth 20000 in
theorem gX8_withdraw_Jx4a65c_get_915e3 : GoodIn wsX8_withdraw (wsV RX8 71 RJx4a65c yJx4a65c_get_915e3 wsJx4a65c_get_915e3) := goodIn_app (goodIn_of _ (by decide +kernel)) ggX8_withdraw_Jx4a65c_get_915e3
set_option maxRecDepth 20000 in
theorem ggX8_withdraw_X8_counts : GoodIn wsX8_withdraw wsX8_counts := goodIn_r _ [38, 39, 55, 56, 57, 58, 59, 60, 61, 40, 41, 42, 43, 44, 45, 46, 47, 48, 49, 50, 51, 52, 53, 54] (by decide +kernel) (by decide +kernel)
set_option maxRecDepth 20000 in
theorem gX8_withdraw_X8_counts : GoodIn wsX8_withdraw (wsV RX8 75 RX8 yX8_counts wsX8_counts) := goodIn_app (goodIn_of _ (by decide +kernel)) ggX8_withdraw_X8_counts
set_option maxRecDepth 20000 in
theorem ggX8_weight_X8_isField : GoodIn wsX8_weight wsX8_isField := goodIn_r _ [7, 8, 9, 10, 6, 11, 16, 17, 18, 19, 20, 21, 22, 23, 24, 25, 26, 27, 28, 29, 30] (by decide +kernel) (by decide +kernel)
set_option maxRecDepth 20000 in
theorem gX8_weight_X8_isField : GoodIn wsX8_weight (wsV RX8 86 RX8 yX8_isField wsX8_isField) := goodIn_app (goodIn_of _ (by decide +kernel)) ggX8_weight_X8_isField
set_option maxRecDepth 20000 in
theorem ggX8_weight_X8_refuse : GoodIn wsX8_weight wsX8_refuse := goodIn_r _ [15, 1, 16, 17, 18, 19, 20, 21, 22, 23, 24, 25, 26, 27, 28, 29, 30] (by decide +kernel) (by decide +kernel)
set_option maxRecDepth 20000 in
theorem gX8_weight_X8_refuse : GoodIn wsX8_weight (wsV RX8 82 RX8 yX8_refuse wsX8_refuse) := goodIn_app (goodIn_of _ (by decide +kernel)) ggX8_weight_X8_refuse
set_option maxRecDepth 20000 in
theorem ggX8_weight_X8_is : GoodIn wsX8_weight wsX8_is := goodIn_r _ [11] (by decide +kernel) (by decide +kernel)
set_option maxRecDepth 20000 in
theorem gX8_weight_X8_is : GoodIn wsX8_weight (va_wsS RX8 48 yX8_is wsX8_is) := goodIn_app (goodIn_of _ (by decide +kernel)) ggX8_weight_X8_is
set_option maxRecDepth 20000 in
theorem ggX8_count_X8_setOf : GoodIn wsX8_count wsX8_setOf := goodIn_r _ [5, 6, 14, 15, 16, 17, 18, 19, 20, 21, 22, 23, 24, 25, 26, 27, 28] (by decide +kernel) (by decide +kernel)
set_option maxRecDepth 20000 in
theorem gX8_count_X8_setOf : GoodIn wsX8_count (wsV RX8 114 RX8 yX8_setOf wsX8_setOf) := goodIn_app (goodIn_of _ (by decide +kernel)) ggX8_count_X8_setOf
set_option maxRecDepth 20000 in
theorem ggX8_count_J6_bitCount_0f7a4 : GoodIn wsX8_count wsJ6_bitCount_0f7a4 := goodIn_r _ [10, 11, 12, 13] (by decide +kernel) (by decide +kernel)
set_option maxRecDepth 20000 in
theorem gX8_count_J6_bitCount_0f7a4 : GoodIn wsX8_count (va_wsS RX8 118 yJ6_bitCount_0f7a4 wsJ6_bitCount_0f7a4) := goodIn_app (goodIn_of _ (by decide +kernel)) ggX8_count_J6_bitCount_0f7a4
set_option maxRecDepth 20000 in
theorem ggX8_least_X8_setOf : GoodIn wsX8_least wsX8_setOf := goodIn_r _ [5, 6, 12, 13, 14, 15, 16, 17, 18, 19, 20, 21, 22, 23, 24, 25, 26] (by decide +kernel) (by decide +kernel)
set_option maxRecDepth 20000 in
theorem gX8_least_X8_setOf : GoodIn wsX8_least (wsV RX8 114 RX8 yX8_setOf wsX8_setOf) := goodIn_app (goodIn_of _ (by decide +kernel)) ggX8_least_X8_setOf
set_option maxRecDepth 20000 in
theorem ggX8_least_J6_numberOfTrailingZeros_0f7a4 : GoodIn wsX8_least wsJ6_numberOfTrailingZeros_0f7a4 := goodIn_r _ [10, 11] (by decide +kernel) (by decide +kernel)
set_option maxRecDepth 20000 in
theorem gX8_least_J6_numberOfTrailingZeros_0f7a4 : GoodIn wsX8_least (va_wsS RX8 123 yJ6_numberOfTrailingZeros_0f7a4 wsJ6_numberOfTrailingZeros_0f7a4) := goodIn_app (goodIn_of _ (by decide +kernel)) ggX8_least_J6_numberOfTrailingZeros_0f7a4
set_option maxRecDepth 20000 in
theorem ggX8_canBe_X8_setOf : GoodIn wsX8_canBe wsX8_setOf := goodIn_r _ [5, 6, 7, 8, 9, 10, 11, 12, 13, 14, 15, 16, 17, 18, 19, 20, 21] (by decide +kernel) (by decide +kernel)
set_option maxRecDepth 20000 in
theorem gX8_canBe_X8_setOf : GoodIn wsX8_canBe (wsV RX8 114 RX8 yX8_setOf wsX8_setOf) := goodIn_app (goodIn_of _ (by decide +kernel)) ggX8_canBe_X8_setOf
set_option maxRecDepth 20000 in
theorem ggX8_lets_X8_setOf : GoodIn wsX8_lets wsX8_setOf := goodIn_r _ [5, 6, 24, 25, 26, 27, 28, 29, 30, 31, 32, 33, 34, 35, 36, 37, 38] (by decide +kernel) (by decide +kernel)
set_option maxRecDepth 20000 in
theorem gX8_lets_X8_setOf : GoodIn wsX8_lets (wsV RX8 114 RX8 yX8_setOf wsX8_setOf) := goodIn_app (goodIn_of _ (by decide +kernel)) ggX8_lets_X8_setOf
set_option maxRecDepth 20000 in
theorem ggX8_lets_X8_shifted : GoodIn wsX8_lets wsX8_shifted := goodIn_r _ [9] (by decide +kernel) (by decide +kernel)
set_option maxRecDepth 20000 in
theorem gX8_lets_X8_shifted : GoodIn wsX8_lets (va_wsS RX8 126 yX8_shifted wsX8_shifted) := goodIn_app (goodIn_of _ (by decide +kernel)) ggX8_lets_X8_shifted
set_option maxRecDepth 20000 in
theorem ggX8_lets_J6_bitCount_0f7a4 : GoodIn wsX8_lets wsJ6_bitCount_0f7a4 := goodIn_r _ [13, 14, 15, 16] (by decide +kernel) (by decide +kernel)
set_option maxRecDepth 20000 in
theorem gX8_lets_J6_bitCount_0f7a4 : GoodIn wsX8_lets (va_wsS RX8 118 yJ6_bitCount_0f7a4 wsJ6_bitCount_0f7a4) := goodIn_app (goodIn_of _ (by decide +kernel)) ggX8_lets_J6_bitCount_0f7a4
set_option maxRecDepth 20000 in
theorem ggX8_takes_X8_setOf : GoodIn wsX8_takes wsX8_setOf := goodIn_r _ [6, 1, 21, 22, 23, 24, 25, 26, 27, 28, 29, 30, 31, 32, 33, 34, 35] (by decide +kernel) (by decide +kernel)
set_option maxRecDepth 20000 in
theorem gX8_takes_X8_setOf : GoodIn wsX8_takes (wsV RX8 114 RX8 yX8_setOf wsX8_setOf) := goodIn_app (goodIn_of _ (by decide +kernel)) ggX8_takes_X8_setOf
set_option maxRecDepth 20000 in
theorem ggX8_takes_X8_lets : GoodIn wsX8_takes wsX8_lets := goodIn_r _ [10, 2, 3, 4, 5, 6, 1, 11, 12, 13, 14, 15, 16, 17, 18, 19, 20, 36, 37, 38, 39, 40, 41, 42, 21, 22, 23, 24, 25, 26, 27, 28, 29, 30, 31, 32, 33, 34, 35] (by decide +kernel) (by decide +kernel)
set_option maxRecDepth 20000 in
theorem gX8_takes_X8_lets : GoodIn wsX8_takes (wsV RX8 129 RX8 yX8_lets wsX8_lets) := goodIn_app (goodIn_of _ (by decide +kernel)) ggX8_takes_X8_lets
set_option maxRecDepth 20000 in
theorem ggX8_isEmpty_X8_setOf : GoodIn wsX8_isEmpty wsX8_setOf := goodIn_r _ [6, 7, 8, 9, 10, 11, 12, 13, 14, 15, 16, 17, 18, 19, 20, 21, 22] (by decide +kernel) (by decide +kernel)
set_option maxRecDepth 20000 in
theorem gX8_isEmpty_X8_setOf : GoodIn wsX8_isEmpty (wsV RX8 114 RX8 yX8_setOf wsX8_setOf) := goodIn_app (goodIn_of _ (by decide +kernel)) ggX8_isEmpty_X8_setOf
set_option maxRecDepth 20000 in
theorem ggX8_meet_X8_isEmpty : GoodIn wsX8_meet wsX8_isEmpty := goodIn_r _ [8, 9, 10, 11, 12, 7, 13, 3, 55, 56, 57, 58, 59, 60, 61, 62, 63, 64, 65, 66, 67, 68, 69] (by decide +kernel) (by decide +kernel)
set_option maxRecDepth 20000 in
theorem gX8_meet_X8_isEmpty : GoodIn wsX8_meet (wsV RX8 133 RX8 yX8_isEmpty wsX8_isEmpty) := goodIn_app (goodIn_of _ (by decide +kernel)) ggX8_meet_X8_isEmpty
set_option maxRecDepth 20000 in
theorem ggX8_meet_Jx4a65c_size_8abf5 : GoodIn wsX8_meet wsJx4a65c_size_8abf5 := goodIn_r _ [18, 19, 77, 78, 79] (by decide +kernel) (by decide +kernel)
set_option maxRecDepth 20000 in
theorem gX8_meet_Jx4a65c_size_8abf5 : GoodIn wsX8_meet (wsV RX8 52 RJx4a65c yJx4a65c_size_8abf5 wsJx4a65c_size_8abf5) := goodIn_app (goodIn_of _ (by decide +kernel)) ggX8_meet_Jx4a65c_size_8abf5
set_option maxRecDepth 20000 in
theorem ggX8_meet_Jx4a65c_get_915e3 : GoodIn wsX8_meet wsJx4a65c_get_915e3 := goodIn_r _ [23, 19, 24, 25, 26, 27, 28, 29, 30, 31, 32, 33, 34, 17, 35, 36, 77, 78, 79] (by decide +kernel) (by decide +kernel)
set_option maxRecDepth 20000 in
theorem gX8_meet_Jx4a65c_get_915e3 : GoodIn wsX8_meet (wsV RX8 71 RJx4a65c yJx4a65c_get_915e3 wsJx4a65c_get_915e3) := goodIn_app (goodIn_of _ (by decide +kernel)) ggX8_meet_Jx4a65c_get_915e3
set_option maxRecDepth 20000 in
theorem ggX8_meet_X8_takes : GoodIn wsX8_meet wsX8_takes := goodIn_r _ [40, 3, 10, 11, 12, 7, 13, 41, 42, 43, 44, 45, 46, 47, 48, 49, 50, 51, 52, 53, 54, 55, 56, 57, 58, 59, 60, 61, 62, 63, 64, 65, 66, 67, 68, 69, 70, 71, 72, 73, 74, 75, 76] (by decide +kernel) (by decide +kernel)
set_option maxRecDepth 20000 in
theorem gX8_meet_X8_takes : GoodIn wsX8_meet (wsV RX8 136 RX8 yX8_takes wsX8_takes) := goodIn_app (goodIn_of _ (by decide +kernel)) ggX8_meet_X8_takes
set_option maxRecDepth 20000 in
theorem ggX8_meetAnew_X8_begin : GoodIn wsX8_meetAnew wsX8_begin := goodIn_r _ [5, 6, 63, 64, 65, 66, 67, 68, 69, 70, 71, 72, 73, 74, 75, 76, 77] (by decide +kernel) (by decide +kernel)
set_option maxRecDepth 20000 in
theorem gX8_meetAnew_X8_begin : GoodIn wsX8_meetAnew (wsV RX8 140 RX8 yX8_begin wsX8_begin) := goodIn_app (goodIn_of _ (by decide +kernel)) ggX8_meetAnew_X8_begin
set_option maxRecDepth 20000 in
theorem ggX8_meetAnew_X8_meet : GoodIn wsX8_meetAnew wsX8_meet := goodIn_r _ [10, 11, 12, 6, 13, 14, 15, 4, 16, 17, 18, 19, 20, 21, 22, 23, 24, 25, 26, 27, 28, 29, 30, 31, 32, 33, 34, 35, 36, 37, 38, 39, 40, 41, 42, 43, 44, 45, 46, 47, 48, 49, 50, 51, 52, 53, 54, 55, 56, 57, 58, 59, 60, 61, 62, 63, 64, 65, 66, 67, 68, 69, 70, 71, 72, 73, 74, 75, 76, 77, 78, 79, 80, 81, 82, 83, 84, 85, 86, 87] (by decide +kernel) (by decide +kernel)
set_option maxRecDepth 20000 in
theorem gX8_meetAnew_X8_meet : GoodIn wsX8_meetAnew (wsV RX8 144 RX8 yX8_meet wsX8_meet) := goodIn_app (goodIn_of _ (by decide +kernel)) ggX8_meetAnew_X8_meet
set_option maxRecDepth 20000 in
theorem ggX8_nextDefault_Jx4a65c_size_8abf5 : GoodIn wsX8_nextDefault wsJx4a65c_size_8abf5 := goodIn_r _ [7, 8, 58, 59, 60] (by decide +kernel) (by decide +kernel)
set_option maxRecDepth 20000 in
theorem gX8_nextDefault_Jx4a65c_size_8abf5 : GoodIn wsX8_nextDefault (wsV RX8 52 RJx4a65c yJx4a65c_size_8abf5 wsJx4a65c_size_8abf5) := goodIn_app (goodIn_of _ (by decide +kernel)) ggX8_nextDefault_Jx4a65c_size_8abf5
set_option maxRecDepth 20000 in
theorem ggX8_nextDefault_Jx4a65c_get_915e3 : GoodIn wsX8_nextDefault wsJx4a65c_get_915e3 := goodIn_r _ [12, 8, 13, 14, 15, 16, 17, 18, 19, 20, 21, 22, 23, 6, 24, 25, 58, 59, 60] (by decide +kernel) (by decide +kernel)
set_option maxRecDepth 20000 in
theorem gX8_nextDefault_Jx4a65c_get_915e3 : GoodIn wsX8_nextDefault (wsV RX8 71 RJx4a65c yJx4a65c_get_915e3 wsJx4a65c_get_915e3) := goodIn_app (goodIn_of _ (by decide +kernel)) ggX8_nextDefault_Jx4a65c_get_915e3
set_option maxRecDepth 20000 in
theorem ggX8_nextDefault_X8_counts : GoodIn wsX8_nextDefault wsX8_counts := goodIn_r _ [30, 31, 51, 52, 53, 54, 55, 56, 57, 36, 37, 38, 39, 40, 41, 42, 43, 44, 45, 46, 47, 48, 49, 50] (by decide +kernel) (by decide +kernel)
set_option maxRecDepth 20000 in
theorem gX8_nextDefault_X8_counts : GoodIn wsX8_nextDefault (wsV RX8 75 RX8 yX8_counts wsX8_counts) := goodIn_app (goodIn_of _ (by decide +kernel)) ggX8_nextDefault_X8_counts
set_option maxRecDepth 20000 in
theorem ggX8_nextDefault_X8_isBehind : GoodIn wsX8_nextDefault wsX8_isBehind := goodIn_r _ [35, 1, 2, 9, 10, 11, 6, 12, 8, 13, 14, 15, 16, 17, 18, 19, 20, 21, 22, 23, 24, 25, 36, 37, 38, 39, 40, 41, 42, 43, 44, 45, 46, 47, 48, 49, 50, 51, 52, 53, 54, 55, 56, 57, 58, 59, 60] (by decide +kernel) (by decide +kernel)
set_option maxRecDepth 20000 in
theorem gX8_nextDefault_X8_isBehind : GoodIn wsX8_nextDefault (wsV RX8 148 RX8 yX8_isBehind wsX8_isBehind) := goodIn_app (goodIn_of _ (by decide +kernel)) ggX8_nextDefault_X8_isBehind
set_option maxRecDepth 20000 in
theorem ggX8_isBehind_Jx4a65c_get_915e3 : GoodIn wsX8_isBehind wsJx4a65c_get_915e3 := goodIn_r _ [7, 8, 9, 10, 11, 12, 13, 14, 15, 16, 17, 18, 19, 6, 20, 21, 44, 45, 46] (by decide +kernel) (by decide +kernel)
set_option maxRecDepth 20000 in
theorem gX8_isBehind_Jx4a65c_get_915e3 : GoodIn wsX8_isBehind (wsV RX8 71 RJx4a65c yJx4a65c_get_915e3 wsJx4a65c_get_915e3) := goodIn_app (goodIn_of _ (by decide +kernel)) ggX8_isBehind_Jx4a65c_get_915e3
set_option maxRecDepth 20000 in
theorem ggX8_settle_X8_counting : GoodIn wsX8_settle wsX8_counting := goodIn_r _ [8, 2, 3, 9, 10, 11, 12, 13, 14, 15, 16, 17, 18, 19, 20, 21, 22, 23, 24, 25, 26, 27, 28, 29, 30, 31, 32, 33, 34, 7, 35, 36, 104, 105, 106, 107, 108, 109, 110, 111, 112, 113, 114, 115, 116, 117, 118, 119, 120, 121, 122, 123, 124, 125, 126, 127, 128] (by decide +kernel) (by decide +kernel)
set_option maxRecDepth 20000 in
theorem gX8_settle_X8_counting : GoodIn wsX8_settle (wsV RX8 151 RX8 yX8_counting wsX8_counting) := goodIn_app (goodIn_of _ (by decide +kernel)) ggX8_settle_X8_counting
set_option maxRecDepth 20000 in
theorem ggX8_settle_X8_meetAnew : GoodIn wsX8_settle wsX8_meetAnew := goodIn_r _ [40, 41, 42, 43, 7, 44, 45, 46, 47, 48, 49, 2, 3, 50, 51, 52, 53, 1, 54, 55, 56, 57, 9, 10, 11, 12, 13, 14, 15, 16, 17, 18, 19, 20, 21, 22, 23, 24, 25, 26, 27, 28, 29, 30, 31, 58, 59, 60, 61, 62, 63, 64, 65, 66, 67, 68, 69, 70, 71, 72, 73, 74, 75, 104, 105, 106, 107, 108, 109, 110, 111, 112, 113, 114, 115, 116, 117, 118, 119, 120, 121, 122, 123, 124, 125, 126, 127, 128] (by decide +kernel) (by decide +kernel)
set_option maxRecDepth 20000 in
theorem gX8_settle_X8_meetAnew : GoodIn wsX8_settle (wsV RX8 154 RX8 yX8_meetAnew wsX8_meetAnew) := goodIn_app (goodIn_of _ (by decide +kernel)) ggX8_settle_X8_meetAnew
set_option maxRecDepth 20000 in
theorem ggX8_settle_X8_count : GoodIn wsX8_settle wsX8_count := goodIn_r _ [79, 54, 55, 56, 7, 57, 45, 69, 70, 71, 72, 73, 74, 75, 104, 105, 106, 107, 108, 109, 110, 111, 112, 113, 114, 115, 116, 117, 118] (by decide +kernel) (by decide +kernel)
set_option maxRecDepth 20000 in
theorem gX8_settle_X8_count : GoodIn wsX8_settle (wsV RX8 157 RX8 yX8_count wsX8_count) := goodIn_app (goodIn_of _ (by decide +kernel)) ggX8_settle_X8_count
set_option maxRecDepth 20000 in
theorem ggX8_settle_X8_nextDefault : GoodIn wsX8_settle wsX8_nextDefault := goodIn_r _ [83, 2, 3, 9, 10, 11, 12, 13, 14, 15, 16, 17, 18, 19, 20, 21, 22, 23, 24, 25, 26, 27, 28, 29, 30, 31, 32, 33, 34, 7, 35, 36, 84, 85, 86, 87, 104, 105, 106, 107, 108, 109, 110, 111, 112, 113, 114, 115, 116, 117, 118, 119, 120, 121, 122, 123, 124, 125, 126, 127, 128] (by decide +kernel) (by decide +kernel)
set_option maxRecDepth 20000 in
theorem gX8_settle_X8_nextDefault : GoodIn wsX8_settle (wsV RX8 160 RX8 yX8_nextDefault wsX8_nextDefault) := goodIn_app (goodIn_of _ (by decide +kernel)) ggX8_settle_X8_nextDefault
set_option maxRecDepth 20000 in
theorem ggX8_settle_Jx4a65c_get_915e3 : GoodIn wsX8_settle wsJx4a65c_get_915e3 := goodIn_r _ [18, 14, 19, 20, 21, 22, 23, 24, 25, 26, 27, 28, 29, 12, 30, 31, 126, 127, 128] (by decide +kernel) (by decide +kernel)
set_option maxRecDepth 20000 in
theorem gX8_settle_Jx4a65c_get_915e3 : GoodIn wsX8_settle (wsV RX8 71 RJx4a65c yJx4a65c_get_915e3 wsJx4a65c_get_915e3) := goodIn_app (goodIn_of _ (by decide +kernel)) ggX8_settle_Jx4a65c_get_915e3
set_option maxRecDepth 20000 in
theorem ggX8_settle_X8_canBe : GoodIn wsX8_settle wsX8_canBe := goodIn_r _ [91, 54, 55, 56, 7, 57, 45, 104, 105, 106, 107, 108, 109, 110, 111, 112, 113, 114, 115, 116, 117, 118] (by decide +kernel) (by decide +kernel)
set_option maxRecDepth 20000 in
theorem gX8_settle_X8_canBe : GoodIn wsX8_settle (wsV RX8 163 RX8 yX8_canBe wsX8_canBe) := goodIn_app (goodIn_of _ (by decide +kernel)) ggX8_settle_X8_canBe
set_option maxRecDepth 20000 in
theorem ggX8_settle_X8_copy : GoodIn wsX8_settle wsX8_copy := goodIn_r _ [95, 45, 96, 97, 98, 99, 104, 105, 106, 107, 108, 109, 110, 111, 112, 113, 114, 115, 116, 117, 118] (by decide +kernel) (by decide +kernel)
set_option maxRecDepth 20000 in
theorem gX8_settle_X8_copy : GoodIn wsX8_settle (wsV RX8 166 RX8 yX8_copy wsX8_copy) := goodIn_app (goodIn_of _ (by decide +kernel)) ggX8_settle_X8_copy
set_option maxRecDepth 20000 in
theorem ggX8_settle_X8_only : GoodIn wsX8_settle wsX8_only := goodIn_r _ [103, 45, 104, 105, 106, 107, 108, 109, 110, 111, 112, 113, 114, 115, 116, 117, 118] (by decide +kernel) (by decide +kernel)
set_option maxRecDepth 20000 in
theorem gX8_settle_X8_only : GoodIn wsX8_settle (wsV RX8 170 RX8 yX8_only wsX8_only) := goodIn_app (goodIn_of _ (by decide +kernel)) ggX8_settle_X8_only
set_option maxRecDepth 20000 in
theorem ggX8_settle_X8_meet : GoodIn wsX8_settle wsX8_meet := goodIn_r _ [49, 2, 3, 45, 50, 51, 52, 7, 53, 1, 54, 55, 56, 57, 9, 10, 11, 12, 13, 14, 15, 16, 17, 18, 19, 20, 21, 22, 23, 24, 25, 26, 27, 28, 29, 30, 31, 58, 59, 60, 61, 62, 63, 64, 65, 66, 67, 68, 69, 70, 71, 72, 73, 74, 75, 104, 105, 106, 107, 108, 109, 110, 111, 112, 113, 114, 115, 116, 117, 118, 119, 120, 121, 122, 123, 124, 125, 126, 127, 128] (by decide +kernel) (by decide +kernel)
set_option maxRecDepth 20000 in
theorem gX8_settle_X8_meet : GoodIn wsX8_settle (wsV RX8 144 RX8 yX8_meet wsX8_meet) := goodIn_app (goodIn_of _ (by decide +kernel)) ggX8_settle_X8_meet
set_option maxRecDepth 20000 in
theorem ggX8_whatIs_X8_settle : GoodIn wsX8_whatIs wsX8_settle := goodIn_r _ [5, 6, 7, 8, 9, 10, 11, 4, 12, 13, 14, 15, 16, 17, 18, 19, 20, 21, 22, 23, 24, 25, 26, 27, 28, 29, 30, 31, 32, 33, 34, 35, 36, 37, 38, 39, 40, 41, 42, 43, 44, 45, 46, 47, 48, 49, 50, 51, 52, 53, 54, 55, 56, 57, 58, 59, 60, 61, 62, 63, 64, 65, 66, 67, 68, 69, 70, 71, 72, 73, 74, 75, 76, 77, 78, 79, 80, 81, 82, 83, 84, 85, 86, 87, 88, 89, 90, 91, 92, 93, 94, 95, 96, 97, 98, 99, 100, 101, 102, 103, 104, 105, 106, 107, 116, 117, 118, 119, 120, 121, 122, 123, 124, 125, 126, 127, 128, 129, 130, 131, 132, 133, 134, 135, 136, 137, 138, 139, 140] (by decide +kernel) (by decide +kernel)
set_option maxRecDepth 20000 in
theorem gX8_whatIs_X8_settle : GoodIn wsX8_whatIs (wsV RX8 174 RX8 yX8_settle wsX8_settle) := goodIn_app (goodIn_of _ (by decide +kernel)) ggX8_whatIs_X8_settle
set_option maxRecDepth 20000 in
theorem ggX8_whatIs_X8_count : GoodIn wsX8_whatIs wsX8_count := goodIn_r _ [83, 58, 59, 60, 4, 61, 49, 73, 74, 75, 76, 77, 78, 79, 116, 117, 118, 119, 120, 121, 122, 123, 124, 125, 126, 127, 128, 129, 130] (by decide +kernel) (by decide +kernel)
set_option maxRecDepth 20000 in
theorem gX8_whatIs_X8_count : GoodIn wsX8_whatIs (wsV RX8 157 RX8 yX8_count wsX8_count) := goodIn_app (goodIn_of _ (by decide +kernel)) ggX8_whatIs_X8_count
set_option maxRecDepth 20000 in
theorem ggX8_whatIs_X8_least : GoodIn wsX8_whatIs wsX8_least := goodIn_r _ [111, 58, 59, 60, 4, 61, 49, 112, 113, 75, 114, 115, 116, 117, 118, 119, 120, 121, 122, 123, 124, 125, 126, 127, 128, 129, 130] (by decide +kernel) (by decide +kernel)
set_option maxRecDepth 20000 in
theorem gX8_whatIs_X8_least : GoodIn wsX8_whatIs (wsV RX8 177 RX8 yX8_least wsX8_least) := goodIn_app (goodIn_of _ (by decide +kernel)) ggX8_whatIs_X8_least
set_option maxRecDepth 20000 in
theorem ggX8_isContradiction_X8_counting : GoodIn wsX8_isContradiction wsX8_counting := goodIn_r _ [5, 6, 7, 8, 9, 10, 11, 12, 13, 14, 15, 16, 17, 18, 19, 20, 21, 22, 23, 24, 25, 26, 27, 28, 29, 30, 31, 32, 33, 4, 34, 35, 76, 77, 78, 79, 80, 81, 82, 83, 84, 85, 86, 87, 88, 89, 90, 91, 92, 93, 94, 95, 96, 97, 98, 99, 100] (by decide +kernel) (by decide +kernel)
set_option maxRecDepth 20000 in
theorem gX8_isContradiction_X8_counting : GoodIn wsX8_isContradiction (wsV RX8 151 RX8 yX8_counting wsX8_counting) := goodIn_app (goodIn_of _ (by decide +kernel)) ggX8_isContradiction_X8_counting
set_option maxRecDepth 20000 in
theorem ggX8_isContradiction_X8_meetAnew : GoodIn wsX8_isContradiction wsX8_meetAnew := goodIn_r _ [39, 40, 41, 42, 4, 43, 44, 45, 46, 47, 48, 6, 7, 49, 50, 51, 52, 53, 54, 55, 56, 57, 8, 9, 10, 11, 12, 13, 14, 15, 16, 17, 18, 19, 20, 21, 22, 23, 24, 25, 26, 27, 28, 29, 30, 58, 59, 60, 61, 62, 63, 64, 65, 66, 67, 68, 69, 70, 71, 72, 73, 74, 75, 76, 77, 78, 79, 80, 81, 82, 83, 84, 85, 86, 87, 88, 89, 90, 91, 92, 93, 94, 95, 96, 97, 98, 99, 100] (by decide +kernel) (by decide +kernel)
set_option maxRecDepth 20000 in
theorem gX8_isContradiction_X8_meetAnew : GoodIn wsX8_isContradiction (wsV RX8 154 RX8 yX8_meetAnew wsX8_meetAnew) := goodIn_app (goodIn_of _ (by decide +kernel)) ggX8_isContradiction_X8_meetAnew
set_option maxRecDepth 20000 in
theorem ggX8_mayBe_X8_counting : GoodIn wsX8_mayBe wsX8_counting := goodIn_r _ [5, 6, 7, 8, 9, 10, 11, 12, 13, 14, 15, 16, 17, 18, 19, 20, 21, 22, 23, 24, 25, 26, 27, 28, 29, 30, 31, 32, 33, 4, 34, 35, 76, 77, 78, 79, 80, 81, 82, 83, 84, 85, 86, 87, 88, 89, 90, 91, 92, 93, 94, 95, 96, 97, 98, 99, 100] (by decide +kernel) (by decide +kernel)
set_option maxRecDepth 20000 in
theorem gX8_mayBe_X8_counting : GoodIn wsX8_mayBe (wsV RX8 151 RX8 yX8_counting wsX8_counting) := goodIn_app (goodIn_of _ (by decide +kernel)) ggX8_mayBe_X8_counting
set_option maxRecDepth 20000 in
theorem ggX8_mayBe_X8_meetAnew : GoodIn wsX8_mayBe wsX8_meetAnew := goodIn_r _ [39, 40, 41, 42, 4, 43, 44, 45, 46, 47, 48, 6, 7, 49, 50, 51, 52, 53, 54, 55, 56, 57, 8, 9, 10, 11, 12, 13, 14, 15, 16, 17, 18, 19, 20, 21, 22, 23, 24, 25, 26, 27, 28, 29, 30, 58, 59, 60, 61, 62, 63, 64, 65, 66, 67, 68, 69, 70, 71, 72, 73, 74, 75, 76, 77, 78, 79, 80, 81, 82, 83, 84, 85, 86, 87, 88, 89, 90, 91, 92, 93, 94, 95, 96, 97, 98, 99, 100] (by decide +kernel) (by decide +kernel)
set_option maxRecDepth 20000 in
theorem gX8_mayBe_X8_meetAnew : GoodIn wsX8_mayBe (wsV RX8 154 RX8 yX8_meetAnew wsX8_meetAnew) := goodIn_app (goodIn_of _ (by decide +kernel)) ggX8_mayBe_X8_meetAnew
set_option maxRecDepth 20000 in
theorem ggX8_mayBe_X8_setOf : GoodIn wsX8_mayBe wsX8_setOf := goodIn_r _ [57, 44, 76, 77, 78, 79, 80, 81, 82, 83, 84, 85, 86, 87, 88, 89, 90] (by decide +kernel) (by decide +kernel)
set_option maxRecDepth 20000 in
theorem gX8_mayBe_X8_setOf : GoodIn wsX8_mayBe (wsV RX8 114 RX8 yX8_setOf wsX8_setOf) := goodIn_app (goodIn_of _ (by decide +kernel)) ggX8_mayBe_X8_setOf
set_option maxRecDepth 20000 in
theorem ggX8_reasonFor_X8_counting : GoodIn wsX8_reasonFor wsX8_counting := goodIn_r _ [6, 1, 7, 8, 9, 10, 11, 12, 13, 14, 15, 16, 17, 18, 19, 20, 21, 22, 23, 24, 25, 26, 27, 28, 29, 30, 31, 32, 33, 5, 34, 35, 76, 77, 78, 79, 80, 81, 82, 83, 84, 85, 86, 87, 88, 89, 90, 91, 92, 93, 94, 95, 96, 97, 98, 99, 100] (by decide +kernel) (by decide +kernel)
set_option maxRecDepth 20000 in
theorem gX8_reasonFor_X8_counting : GoodIn wsX8_reasonFor (wsV RX8 151 RX8 yX8_counting wsX8_counting) := goodIn_app (goodIn_of _ (by decide +kernel)) ggX8_reasonFor_X8_counting
set_option maxRecDepth 20000 in
theorem ggX8_reasonFor_X8_meetAnew : GoodIn wsX8_reasonFor wsX8_meetAnew := goodIn_r _ [39, 40, 41, 42, 5, 43, 44, 45, 46, 47, 48, 1, 7, 49, 50, 51, 52, 53, 54, 55, 56, 57, 8, 9, 10, 11, 12, 13, 14, 15, 16, 17, 18, 19, 20, 21, 22, 23, 24, 25, 26, 27, 28, 29, 30, 58, 59, 60, 61, 62, 63, 64, 65, 66, 67, 68, 69, 70, 71, 72, 73, 74, 75, 76, 77, 78, 79, 80, 81, 82, 83, 84, 85, 86, 87, 88, 89, 90, 91, 92, 93, 94, 95, 96, 97, 98, 99, 100] (by decide +kernel) (by decide +kernel)
set_option maxRecDepth 20000 in
theorem gX8_reasonFor_X8_meetAnew : GoodIn wsX8_reasonFor (wsV RX8 154 RX8 yX8_meetAnew wsX8_meetAnew) := goodIn_app (goodIn_of _ (by decide +kernel)) ggX8_reasonFor_X8_meetAnew
set_option maxRecDepth 20000 in
theorem ggX8_reasonFor_X8_setOf : GoodIn wsX8_reasonFor wsX8_setOf := goodIn_r _ [57, 44, 76, 77, 78, 79, 80, 81, 82, 83, 84, 85, 86, 87, 88, 89, 90] (by decide +kernel) (by decide +kernel)
set_option maxRecDepth 20000 in
theorem gX8_reasonFor_X8_setOf : GoodIn wsX8_reasonFor (wsV RX8 114 RX8 yX8_setOf wsX8_setOf) := goodIn_app (goodIn_of _ (by decide +kernel)) ggX8_reasonFor_X8_setOf
set_option maxRecDepth 20000 in
theorem ggX8_reasonFor_Jx4a65c_size_8abf5 : GoodIn wsX8_reasonFor wsJx4a65c_size_8abf5 := goodIn_r _ [12, 13, 98, 99, 100] (by decide +kernel) (by decide +kernel)
set_option maxRecDepth 20000 in
theorem gX8_reasonFor_Jx4a65c_size_8abf5 : GoodIn wsX8_reasonFor (wsV RX8 52 RJx4a65c yJx4a65c_size_8abf5 wsJx4a65c_size_8abf5) := goodIn_app (goodIn_of _ (by decide +kernel)) ggX8_reasonFor_Jx4a65c_size_8abf5
set_option maxRecDepth 20000 in
theorem ggX8_bound__X8_least : GoodIn wsX8_bound_ wsX8_least := goodIn_r _ [7, 8, 9, 10, 6, 11, 12, 13, 14, 15, 16, 17, 18, 19, 20, 21, 22, 23, 24, 25, 26, 27, 28, 29, 30, 31, 32] (by decide +kernel) (by decide +kernel)
set_option maxRecDepth 20000 in
theorem gX8_bound__X8_least : GoodIn wsX8_bound_ (wsV RX8 177 RX8 yX8_least wsX8_least) := goodIn_app (goodIn_of _ (by decide +kernel)) ggX8_bound__X8_least
set_option maxRecDepth 20000 in
theorem ggX8_choose_X8_bound_ : GoodIn wsX8_choose wsX8_bound_ := goodIn_r _ [14, 1, 15, 16, 17, 18, 13, 19, 20, 21, 22, 23, 24, 25, 26, 27, 28, 29, 95, 96, 97, 98, 99, 100, 101, 102, 103, 104, 105, 106, 107, 108, 109] (by decide +kernel) (by decide +kernel)
set_option maxRecDepth 20000 in
theorem gX8_choose_X8_bound_ : GoodIn wsX8_choose (wsV RX8 180 RX8 yX8_bound_ wsX8_bound_) := goodIn_app (goodIn_of _ (by decide +kernel)) ggX8_choose_X8_bound_
set_option maxRecDepth 20000 in
theorem ggX8_choose_X8_canBe : GoodIn wsX8_choose wsX8_canBe := goodIn_r _ [33, 20, 21, 22, 13, 23, 24, 95, 96, 97, 98, 99, 100, 101, 102, 103, 104, 105, 106, 107, 108, 109] (by decide +kernel) (by decide +kernel)
set_option maxRecDepth 20000 in
theorem gX8_choose_X8_canBe : GoodIn wsX8_choose (wsV RX8 163 RX8 yX8_canBe wsX8_canBe) := goodIn_app (goodIn_of _ (by decide +kernel)) ggX8_choose_X8_canBe
set_option maxRecDepth 20000 in
theorem ggX8_choose_X8_copy : GoodIn wsX8_choose wsX8_copy := goodIn_r _ [37, 24, 6, 7, 8, 9, 95, 96, 97, 98, 99, 100, 101, 102, 103, 104, 105, 106, 107, 108, 109] (by decide +kernel) (by decide +kernel)
set_option maxRecDepth 20000 in
theorem gX8_choose_X8_copy : GoodIn wsX8_choose (wsV RX8 166 RX8 yX8_copy wsX8_copy) := goodIn_app (goodIn_of _ (by decide +kernel)) ggX8_choose_X8_copy
set_option maxRecDepth 20000 in
theorem ggX8_choose_X8_only : GoodIn wsX8_choose wsX8_only := goodIn_r _ [41, 24, 95, 96, 97, 98, 99, 100, 101, 102, 103, 104, 105, 106, 107, 108, 109] (by decide +kernel) (by decide +kernel)
set_option maxRecDepth 20000 in
theorem gX8_choose_X8_only : GoodIn wsX8_choose (wsV RX8 170 RX8 yX8_only wsX8_only) := goodIn_app (goodIn_of _ (by decide +kernel)) ggX8_choose_X8_only
set_option maxRecDepth 20000 in
theorem ggX8_choose_X8_meet : GoodIn wsX8_choose wsX8_meet := goodIn_r _ [45, 46, 47, 24, 48, 49, 50, 13, 51, 1, 20, 21, 22, 23, 52, 53, 54, 55, 56, 57, 58, 59, 60, 61, 62, 63, 64, 65, 66, 67, 68, 69, 70, 71, 72, 73, 74, 75, 76, 77, 78, 79, 80, 81, 82, 83, 84, 85, 86, 87, 27, 88, 89, 90, 91, 95, 96, 97, 98, 99, 100, 101, 102, 103, 104, 105, 106, 107, 108, 109, 110, 111, 112, 113, 114, 115, 116, 117, 118, 119] (by decide +kernel) (by decide +kernel)
set_option maxRecDepth 20000 in
theorem gX8_choose_X8_meet : GoodIn wsX8_choose (wsV RX8 144 RX8 yX8_meet wsX8_meet) := goodIn_app (goodIn_of _ (by decide +kernel)) ggX8_choose_X8_meet
set_option maxRecDepth 20000 in
theorem ggX8_choose_X8_choose : GoodIn wsX8_choose wsX8_choose := goodIn_r _ [0, 1, 2, 3, 4, 5, 6, 7, 8, 9, 10, 11, 12, 13, 14, 15, 16, 17, 18, 19, 20, 21, 22, 23, 24, 25, 26, 27, 28, 29, 30, 31, 32, 33, 34, 35, 36, 37, 38, 39, 40, 41, 42, 43, 44, 45, 46, 47, 48, 49, 50, 51, 52, 53, 54, 55, 56, 57, 58, 59, 60, 61, 62, 63, 64, 65, 66, 67, 68, 69, 70, 71, 72, 73, 74, 75, 76, 77, 78, 79, 80, 81, 82, 83, 84, 85, 86, 87, 88, 89, 90, 91, 92, 93, 94, 95, 96, 97, 98, 99, 100, 101, 102, 103, 104, 105, 106, 107, 108, 109, 110, 111, 112, 113, 114, 115, 116, 117, 118, 119] (by decide +kernel) (by decide +kernel)
set_option maxRecDepth 20000 in
theorem gX8_choose_X8_choose : GoodIn wsX8_choose (wsV RX8 189 RX8 yX8_choose wsX8_choose) := goodIn_app (goodIn_of _ (by decide +kernel)) ggX8_choose_X8_choose
