theorem inlX0 : ∀ w ∈ wsX00, w ∈ wsL_law := fun _ h => List.mem_append_left _ (List.mem_append_left _ (List.mem_append_left _ (List.mem_append_right _ h)))
theorem inX0 : ∀ w ∈ wsX00, w ∈ lw_tbl := fun w h => wsL_law_in w (inlX0 w h)
theorem inlX1 : ∀ w ∈ wsX10, w ∈ wsL_law := fun _ h => List.mem_append_left _ (List.mem_append_left _ (List.mem_append_right _ h))
theorem inX1 : ∀ w ∈ wsX10, w ∈ lw_tbl := fun w h => wsL_law_in w (inlX1 w h)
theorem inlX2 : ∀ w ∈ wsX20, w ∈ wsL_law := fun _ h => List.mem_append_left _ (List.mem_append_right _ h)
theorem inX2 : ∀ w ∈ wsX20, w ∈ lw_tbl := fun w h => wsL_law_in w (inlX2 w h)
theorem inlX3 : ∀ w ∈ wsX30, w ∈ wsL_law := fun _ h => List.mem_append_left _ (List.mem_append_left _ (List.mem_append_left _ (List.mem_append_left _ (List.mem_append_right _ h))))
theorem inX3 : ∀ w ∈ wsX30, w ∈ lw_tbl := fun w h => wsL_law_in w (inlX3 w h)
theorem inX4 : ∀ w ∈ wsX40, w ∈ lw_tbl := by decide +kernel
theorem inJ9 : ∀ w ∈ wsJ90, w ∈ lw_tbl := by decide +kernel
set_option maxRecDepth 20000 in
theorem ggX0_init_X2_init : GoodIn wsX0_init wsX2_init := goodIn_r _ [17, 18, 2, 3, 19, 20, 21, 22, 8, 23, 24, 25, 26, 27, 28] (by decide +kernel) (by decide +kernel)
set_option maxRecDepth 20000 in
theorem gX0_init_X2_init : GoodIn wsX0_init (wsX2_init) := ggX0_init_X2_init
theorem dX0_init_0 : decode cX0_init 0 = .ok (.aload_n 0, 1) := by decide +kernel
theorem dX0_init_1 : decode cX0_init 1 = .ok (.invokespecial 3, 3) := by decide +kernel
theorem dX0_init_4 : decode cX0_init 4 = .ok (.aload_n 0, 1) := by decide +kernel
theorem dX0_init_5 : decode cX0_init 5 = .ok (.new 9, 3) := by decide +kernel
theorem dX0_init_8 : decode cX0_init 8 = .ok (.dup, 1) := by decide +kernel
theorem dX0_init_9 : decode cX0_init 9 = .ok (.invokespecial 11, 3) := by decide +kernel
theorem dX0_init_12 : decode cX0_init 12 = .ok (.putfield 12, 3) := by decide +kernel
theorem dX0_init_15 : decode cX0_init 15 = .ok (.aload_n 0, 1) := by decide +kernel
theorem dX0_init_16 : decode cX0_init 16 = .ok (.bipush 24, 2) := by decide +kernel
theorem dX0_init_18 : decode cX0_init 18 = .ok (.newarray .int, 2) := by decide +kernel
theorem dX0_init_20 : decode cX0_init 20 = .ok (.putfield 18, 3) := by decide +kernel
theorem dX0_init_23 : decode cX0_init 23 = .ok (.aload_n 0, 1) := by decide +kernel
theorem dX0_init_24 : decode cX0_init 24 = .ok (.bipush 24, 2) := by decide +kernel
theorem dX0_init_26 : decode cX0_init 26 = .ok (.newarray .int, 2) := by decide +kernel
theorem dX0_init_28 : decode cX0_init 28 = .ok (.putfield 22, 3) := by decide +kernel
theorem dX0_init_31 : decode cX0_init 31 = .ok (.aload_n 0, 1) := by decide +kernel
theorem dX0_init_32 : decode cX0_init 32 = .ok (.bipush 24, 2) := by decide +kernel
theorem dX0_init_34 : decode cX0_init 34 = .ok (.newarray .int, 2) := by decide +kernel
theorem dX0_init_36 : decode cX0_init 36 = .ok (.putfield 25, 3) := by decide +kernel
theorem dX0_init_39 : decode cX0_init 39 = .ok (.aload_n 0, 1) := by decide +kernel
theorem dX0_init_40 : decode cX0_init 40 = .ok (.iconst 0, 1) := by decide +kernel
theorem dX0_init_41 : decode cX0_init 41 = .ok (.putfield 28, 3) := by decide +kernel
theorem dX0_init_44 : decode cX0_init 44 = .ok (.aload_n 0, 1) := by decide +kernel
theorem dX0_init_45 : decode cX0_init 45 = .ok (.lconst 0, 1) := by decide +kernel
theorem dX0_init_46 : decode cX0_init 46 = .ok (.putfield 32, 3) := by decide +kernel
theorem dX0_init_49 : decode cX0_init 49 = .ok (.aload_n 0, 1) := by decide +kernel
theorem dX0_init_50 : decode cX0_init 50 = .ok (.lconst 0, 1) := by decide +kernel
theorem dX0_init_51 : decode cX0_init 51 = .ok (.putfield 36, 3) := by decide +kernel
theorem dX0_init_54 : decode cX0_init 54 = .ok (.return_, 1) := by decide +kernel
theorem dX0_pointIn_0 : decode cX0_pointIn 0 = .ok (.iload_n 1, 1) := by decide +kernel
theorem dX0_pointIn_1 : decode cX0_pointIn 1 = .ok (.ifCond .lt 17, 3) := by decide +kernel
theorem dX0_pointIn_4 : decode cX0_pointIn 4 = .ok (.iload_n 1, 1) := by decide +kernel
theorem dX0_pointIn_5 : decode cX0_pointIn 5 = .ok (.aload_n 0, 1) := by decide +kernel
theorem dX0_pointIn_6 : decode cX0_pointIn 6 = .ok (.getfield 28, 3) := by decide +kernel
theorem dX0_pointIn_9 : decode cX0_pointIn 9 = .ok (.if_icmp .ge 9, 3) := by decide +kernel
theorem dX0_pointIn_12 : decode cX0_pointIn 12 = .ok (.iload_n 1, 1) := by decide +kernel
theorem dX0_pointIn_13 : decode cX0_pointIn 13 = .ok (.bipush 24, 2) := by decide +kernel
theorem dX0_pointIn_15 : decode cX0_pointIn 15 = .ok (.if_icmp .lt 5, 3) := by decide +kernel
theorem dX0_pointIn_18 : decode cX0_pointIn 18 = .ok (.iconst (-1), 1) := by decide +kernel
theorem dX0_pointIn_19 : decode cX0_pointIn 19 = .ok (.ireturn, 1) := by decide +kernel
theorem dX0_pointIn_20 : decode cX0_pointIn 20 = .ok (.aload_n 0, 1) := by decide +kernel
theorem dX0_pointIn_21 : decode cX0_pointIn 21 = .ok (.getfield 18, 3) := by decide +kernel
theorem dX0_pointIn_24 : decode cX0_pointIn 24 = .ok (.iload_n 1, 1) := by decide +kernel
theorem dX0_pointIn_25 : decode cX0_pointIn 25 = .ok (.iaload, 1) := by decide +kernel
theorem dX0_pointIn_26 : decode cX0_pointIn 26 = .ok (.ireturn, 1) := by decide +kernel
theorem dX0_placeOf_0 : decode cX0_placeOf 0 = .ok (.iload_n 1, 1) := by decide +kernel
theorem dX0_placeOf_1 : decode cX0_placeOf 1 = .ok (.ifCond .lt 9, 3) := by decide +kernel
theorem dX0_placeOf_4 : decode cX0_placeOf 4 = .ok (.iload_n 1, 1) := by decide +kernel
theorem dX0_placeOf_5 : decode cX0_placeOf 5 = .ok (.bipush 24, 2) := by decide +kernel
theorem dX0_placeOf_7 : decode cX0_placeOf 7 = .ok (.if_icmp .lt 5, 3) := by decide +kernel
theorem dX0_placeOf_10 : decode cX0_placeOf 10 = .ok (.iconst (-1), 1) := by decide +kernel
theorem dX0_placeOf_11 : decode cX0_placeOf 11 = .ok (.ireturn, 1) := by decide +kernel
theorem dX0_placeOf_12 : decode cX0_placeOf 12 = .ok (.aload_n 0, 1) := by decide +kernel
theorem dX0_placeOf_13 : decode cX0_placeOf 13 = .ok (.getfield 22, 3) := by decide +kernel
theorem dX0_placeOf_16 : decode cX0_placeOf 16 = .ok (.iload_n 1, 1) := by decide +kernel
theorem dX0_placeOf_17 : decode cX0_placeOf 17 = .ok (.iaload, 1) := by decide +kernel
theorem dX0_placeOf_18 : decode cX0_placeOf 18 = .ok (.ireturn, 1) := by decide +kernel
theorem dX0_hasCertificate_0 : decode cX0_hasCertificate 0 = .ok (.iload_n 1, 1) := by decide +kernel
theorem dX0_hasCertificate_1 : decode cX0_hasCertificate 1 = .ok (.iconst 1, 1) := by decide +kernel
theorem dX0_hasCertificate_2 : decode cX0_hasCertificate 2 = .ok (.if_icmp .lt 15, 3) := by decide +kernel
theorem dX0_hasCertificate_5 : decode cX0_hasCertificate 5 = .ok (.iload_n 1, 1) := by decide +kernel
theorem dX0_hasCertificate_6 : decode cX0_hasCertificate 6 = .ok (.aload_n 0, 1) := by decide +kernel
theorem dX0_hasCertificate_7 : decode cX0_hasCertificate 7 = .ok (.getfield 28, 3) := by decide +kernel
theorem dX0_hasCertificate_10 : decode cX0_hasCertificate 10 = .ok (.if_icmp .ge 7, 3) := by decide +kernel
theorem dX0_hasCertificate_13 : decode cX0_hasCertificate 13 = .ok (.iconst 1, 1) := by decide +kernel
theorem dX0_hasCertificate_14 : decode cX0_hasCertificate 14 = .ok (.goto 4, 3) := by decide +kernel
theorem dX0_hasCertificate_17 : decode cX0_hasCertificate 17 = .ok (.iconst 0, 1) := by decide +kernel
theorem dX0_hasCertificate_18 : decode cX0_hasCertificate 18 = .ok (.ireturn, 1) := by decide +kernel
set_option maxRecDepth 20000 in
theorem ggX0_append_X0_put : GoodIn wsX0_append wsX0_put := goodIn_r _ [6, 7, 8, 9, 10, 11, 12, 13, 14, 15] (by decide +kernel) (by decide +kernel)
set_option maxRecDepth 20000 in
theorem gX0_append_X0_put : GoodIn wsX0_append (wsV RX0 39 RX0 yX0_put wsX0_put) := goodIn_app (goodIn_of _ (by decide +kernel)) ggX0_append_X0_put
theorem dX0_append_0 : decode cX0_append 0 = .ok (.aload_n 0, 1) := by decide +kernel
theorem dX0_append_1 : decode cX0_append 1 = .ok (.getfield 28, 3) := by decide +kernel
theorem dX0_append_4 : decode cX0_append 4 = .ok (.bipush 24, 2) := by decide +kernel
theorem dX0_append_6 : decode cX0_append 6 = .ok (.if_icmp .ge 22, 3) := by decide +kernel
theorem dX0_append_9 : decode cX0_append 9 = .ok (.aload_n 0, 1) := by decide +kernel
theorem dX0_append_10 : decode cX0_append 10 = .ok (.aload_n 0, 1) := by decide +kernel
theorem dX0_append_11 : decode cX0_append 11 = .ok (.getfield 28, 3) := by decide +kernel
theorem dX0_append_14 : decode cX0_append 14 = .ok (.iload_n 1, 1) := by decide +kernel
theorem dX0_append_15 : decode cX0_append 15 = .ok (.invokevirtual 39, 3) := by decide +kernel
theorem dX0_append_18 : decode cX0_append 18 = .ok (.aload_n 0, 1) := by decide +kernel
theorem dX0_append_19 : decode cX0_append 19 = .ok (.dup, 1) := by decide +kernel
theorem dX0_append_20 : decode cX0_append 20 = .ok (.getfield 28, 3) := by decide +kernel
theorem dX0_append_23 : decode cX0_append 23 = .ok (.iconst 1, 1) := by decide +kernel
theorem dX0_append_24 : decode cX0_append 24 = .ok (.iadd, 1) := by decide +kernel
theorem dX0_append_25 : decode cX0_append 25 = .ok (.putfield 28, 3) := by decide +kernel
theorem dX0_append_28 : decode cX0_append 28 = .ok (.return_, 1) := by decide +kernel
set_option maxRecDepth 20000 in
theorem ggX0_takeOut_X0_placeOf : GoodIn wsX0_takeOut wsX0_placeOf := goodIn_r _ [6, 7, 17, 18, 19, 20, 21, 22, 23] (by decide +kernel) (by decide +kernel)
set_option maxRecDepth 20000 in
theorem gX0_takeOut_X0_placeOf : GoodIn wsX0_takeOut (wsV RX0 43 RX0 yX0_placeOf wsX0_placeOf) := goodIn_app (goodIn_of _ (by decide +kernel)) ggX0_takeOut_X0_placeOf
set_option maxRecDepth 20000 in
theorem ggX0_takeOut_X0_pointIn : GoodIn wsX0_takeOut wsX0_pointIn := goodIn_r _ [11, 1, 12, 17, 18, 19, 20, 21, 22, 23] (by decide +kernel) (by decide +kernel)
set_option maxRecDepth 20000 in
theorem gX0_takeOut_X0_pointIn : GoodIn wsX0_takeOut (wsV RX0 47 RX0 yX0_pointIn wsX0_pointIn) := goodIn_app (goodIn_of _ (by decide +kernel)) ggX0_takeOut_X0_pointIn
set_option maxRecDepth 20000 in
theorem ggX0_takeOut_X0_put : GoodIn wsX0_takeOut wsX0_put := goodIn_r _ [16, 12, 7, 17, 18, 19, 20, 21, 22, 23] (by decide +kernel) (by decide +kernel)
set_option maxRecDepth 20000 in
theorem gX0_takeOut_X0_put : GoodIn wsX0_takeOut (wsV RX0 39 RX0 yX0_put wsX0_put) := goodIn_app (goodIn_of _ (by decide +kernel)) ggX0_takeOut_X0_put
theorem dX0_takeOut_0 : decode cX0_takeOut 0 = .ok (.aload_n 0, 1) := by decide +kernel
theorem dX0_takeOut_1 : decode cX0_takeOut 1 = .ok (.iload_n 1, 1) := by decide +kernel
theorem dX0_takeOut_2 : decode cX0_takeOut 2 = .ok (.invokevirtual 43, 3) := by decide +kernel
theorem dX0_takeOut_5 : decode cX0_takeOut 5 = .ok (.istore_n 2, 1) := by decide +kernel
theorem dX0_takeOut_6 : decode cX0_takeOut 6 = .ok (.aload_n 0, 1) := by decide +kernel
theorem dX0_takeOut_7 : decode cX0_takeOut 7 = .ok (.getfield 28, 3) := by decide +kernel
theorem dX0_takeOut_10 : decode cX0_takeOut 10 = .ok (.iconst 1, 1) := by decide +kernel
theorem dX0_takeOut_11 : decode cX0_takeOut 11 = .ok (.isub, 1) := by decide +kernel
theorem dX0_takeOut_12 : decode cX0_takeOut 12 = .ok (.istore_n 3, 1) := by decide +kernel
theorem dX0_takeOut_13 : decode cX0_takeOut 13 = .ok (.iload_n 2, 1) := by decide +kernel
theorem dX0_takeOut_14 : decode cX0_takeOut 14 = .ok (.ifCond .lt 23, 3) := by decide +kernel
theorem dX0_takeOut_17 : decode cX0_takeOut 17 = .ok (.iload_n 2, 1) := by decide +kernel
theorem dX0_takeOut_18 : decode cX0_takeOut 18 = .ok (.iload_n 3, 1) := by decide +kernel
theorem dX0_takeOut_19 : decode cX0_takeOut 19 = .ok (.if_icmp .gt 18, 3) := by decide +kernel
theorem dX0_takeOut_22 : decode cX0_takeOut 22 = .ok (.aload_n 0, 1) := by decide +kernel
theorem dX0_takeOut_23 : decode cX0_takeOut 23 = .ok (.iload_n 2, 1) := by decide +kernel
theorem dX0_takeOut_24 : decode cX0_takeOut 24 = .ok (.aload_n 0, 1) := by decide +kernel
theorem dX0_takeOut_25 : decode cX0_takeOut 25 = .ok (.iload_n 3, 1) := by decide +kernel
theorem dX0_takeOut_26 : decode cX0_takeOut 26 = .ok (.invokevirtual 47, 3) := by decide +kernel
theorem dX0_takeOut_29 : decode cX0_takeOut 29 = .ok (.invokevirtual 39, 3) := by decide +kernel
theorem dX0_takeOut_32 : decode cX0_takeOut 32 = .ok (.aload_n 0, 1) := by decide +kernel
theorem dX0_takeOut_33 : decode cX0_takeOut 33 = .ok (.iload_n 3, 1) := by decide +kernel
theorem dX0_takeOut_34 : decode cX0_takeOut 34 = .ok (.putfield 28, 3) := by decide +kernel
theorem dX0_takeOut_37 : decode cX0_takeOut 37 = .ok (.return_, 1) := by decide +kernel
theorem dX0_put_0 : decode cX0_put 0 = .ok (.iload_n 1, 1) := by decide +kernel
theorem dX0_put_1 : decode cX0_put 1 = .ok (.ifCond .lt 33, 3) := by decide +kernel
theorem dX0_put_4 : decode cX0_put 4 = .ok (.iload_n 1, 1) := by decide +kernel
theorem dX0_put_5 : decode cX0_put 5 = .ok (.bipush 24, 2) := by decide +kernel
theorem dX0_put_7 : decode cX0_put 7 = .ok (.if_icmp .ge 27, 3) := by decide +kernel
theorem dX0_put_10 : decode cX0_put 10 = .ok (.iload_n 2, 1) := by decide +kernel
theorem dX0_put_11 : decode cX0_put 11 = .ok (.ifCond .lt 23, 3) := by decide +kernel
theorem dX0_put_14 : decode cX0_put 14 = .ok (.iload_n 2, 1) := by decide +kernel
theorem dX0_put_15 : decode cX0_put 15 = .ok (.bipush 24, 2) := by decide +kernel
theorem dX0_put_17 : decode cX0_put 17 = .ok (.if_icmp .ge 17, 3) := by decide +kernel
theorem dX0_put_20 : decode cX0_put 20 = .ok (.aload_n 0, 1) := by decide +kernel
theorem dX0_put_21 : decode cX0_put 21 = .ok (.getfield 18, 3) := by decide +kernel
theorem dX0_put_24 : decode cX0_put 24 = .ok (.iload_n 1, 1) := by decide +kernel
theorem dX0_put_25 : decode cX0_put 25 = .ok (.iload_n 2, 1) := by decide +kernel
theorem dX0_put_26 : decode cX0_put 26 = .ok (.iastore, 1) := by decide +kernel
theorem dX0_put_27 : decode cX0_put 27 = .ok (.aload_n 0, 1) := by decide +kernel
theorem dX0_put_28 : decode cX0_put 28 = .ok (.getfield 22, 3) := by decide +kernel
theorem dX0_put_31 : decode cX0_put 31 = .ok (.iload_n 2, 1) := by decide +kernel
theorem dX0_put_32 : decode cX0_put 32 = .ok (.iload_n 1, 1) := by decide +kernel
theorem dX0_put_33 : decode cX0_put 33 = .ok (.iastore, 1) := by decide +kernel
theorem dX0_put_34 : decode cX0_put 34 = .ok (.return_, 1) := by decide +kernel
set_option maxRecDepth 20000 in
theorem ggX0_failureOf_X0_hasCertificate : GoodIn wsX0_failureOf wsX0_hasCertificate := goodIn_r _ [7, 8, 43, 44, 45, 46, 47, 48, 49] (by decide +kernel) (by decide +kernel)
set_option maxRecDepth 20000 in
theorem gX0_failureOf_X0_hasCertificate : GoodIn wsX0_failureOf (wsV RX0 50 RX0 yX0_hasCertificate wsX0_hasCertificate) := goodIn_app (goodIn_of _ (by decide +kernel)) ggX0_failureOf_X0_hasCertificate
set_option maxRecDepth 20000 in
theorem ggX0_failureOf_X0_parentOf : GoodIn wsX0_failureOf wsX0_parentOf := goodIn_r _ [11] (by decide +kernel) (by decide +kernel)
set_option maxRecDepth 20000 in
theorem gX0_failureOf_X0_parentOf : GoodIn wsX0_failureOf (va_wsS RX0 55 yX0_parentOf wsX0_parentOf) := goodIn_app (goodIn_of _ (by decide +kernel)) ggX0_failureOf_X0_parentOf
set_option maxRecDepth 20000 in
theorem ggX0_failureOf_X0_pointIn : GoodIn wsX0_failureOf wsX0_pointIn := goodIn_r _ [15, 8, 16, 43, 44, 45, 46, 47, 48, 49] (by decide +kernel) (by decide +kernel)
set_option maxRecDepth 20000 in
theorem gX0_failureOf_X0_pointIn : GoodIn wsX0_failureOf (wsV RX0 47 RX0 yX0_pointIn wsX0_pointIn) := goodIn_app (goodIn_of _ (by decide +kernel)) ggX0_failureOf_X0_pointIn
set_option maxRecDepth 20000 in
theorem ggX0_failureOf_X2_endOfOrder : GoodIn wsX0_failureOf wsX2_endOfOrder := goodIn_r _ [21, 22, 23, 24, 25, 26, 20, 27, 28, 29, 30, 31, 32, 33, 34, 35, 36, 37, 38, 39, 40, 41, 42, 50, 51, 52, 53] (by decide +kernel) (by decide +kernel)
set_option maxRecDepth 20000 in
theorem gX0_failureOf_X2_endOfOrder : GoodIn wsX0_failureOf (wsV RX0 58 RX2 yX2_endOfOrder wsX2_endOfOrder) := goodIn_app (goodIn_of _ (by decide +kernel)) ggX0_failureOf_X2_endOfOrder
theorem dX0_failureOf_0 : decode cX0_failureOf 0 = .ok (.aload_n 0, 1) := by decide +kernel
theorem dX0_failureOf_1 : decode cX0_failureOf 1 = .ok (.iload_n 1, 1) := by decide +kernel
theorem dX0_failureOf_2 : decode cX0_failureOf 2 = .ok (.invokevirtual 50, 3) := by decide +kernel
theorem dX0_failureOf_5 : decode cX0_failureOf 5 = .ok (.ifCond .ne 6, 3) := by decide +kernel
theorem dX0_failureOf_8 : decode cX0_failureOf 8 = .ok (.ldc 54, 2) := by decide +kernel
theorem dX0_failureOf_10 : decode cX0_failureOf 10 = .ok (.ireturn, 1) := by decide +kernel
theorem dX0_failureOf_11 : decode cX0_failureOf 11 = .ok (.aload_n 0, 1) := by decide +kernel
theorem dX0_failureOf_12 : decode cX0_failureOf 12 = .ok (.getfield 12, 3) := by decide +kernel
theorem dX0_failureOf_15 : decode cX0_failureOf 15 = .ok (.aload_n 0, 1) := by decide +kernel
theorem dX0_failureOf_16 : decode cX0_failureOf 16 = .ok (.iload_n 1, 1) := by decide +kernel
theorem dX0_failureOf_17 : decode cX0_failureOf 17 = .ok (.invokestatic 55, 3) := by decide +kernel
theorem dX0_failureOf_20 : decode cX0_failureOf 20 = .ok (.invokevirtual 47, 3) := by decide +kernel
theorem dX0_failureOf_23 : decode cX0_failureOf 23 = .ok (.aload_n 0, 1) := by decide +kernel
theorem dX0_failureOf_24 : decode cX0_failureOf 24 = .ok (.iload_n 1, 1) := by decide +kernel
theorem dX0_failureOf_25 : decode cX0_failureOf 25 = .ok (.invokevirtual 47, 3) := by decide +kernel
theorem dX0_failureOf_28 : decode cX0_failureOf 28 = .ok (.iload_n 2, 1) := by decide +kernel
theorem dX0_failureOf_29 : decode cX0_failureOf 29 = .ok (.invokevirtual 58, 3) := by decide +kernel
theorem dX0_failureOf_32 : decode cX0_failureOf 32 = .ok (.ireturn, 1) := by decide +kernel
set_option maxRecDepth 20000 in
theorem ggX0_nextFailure_X0_failureOf : GoodIn wsX0_nextFailure wsX0_failureOf := goodIn_r _ [11, 1, 12, 13, 14, 15, 10, 16, 2, 17, 18, 19, 20, 21, 22, 23, 24, 25, 26, 27, 28, 29, 30, 31, 32, 33, 34, 35, 36, 37, 38, 39, 40, 41, 42, 43, 44, 45, 46, 47, 48, 49, 50, 51, 52, 53, 54, 55, 56, 57, 58, 59, 60, 61] (by decide +kernel) (by decide +kernel)
set_option maxRecDepth 20000 in
theorem gX0_nextFailure_X0_failureOf : GoodIn wsX0_nextFailure (wsV RX0 62 RX0 yX0_failureOf wsX0_failureOf) := goodIn_app (goodIn_of _ (by decide +kernel)) ggX0_nextFailure_X0_failureOf
theorem dX0_nextFailure_0 : decode cX0_nextFailure 0 = .ok (.ldc 54, 2) := by decide +kernel
theorem dX0_nextFailure_2 : decode cX0_nextFailure 2 = .ok (.istore_n 2, 1) := by decide +kernel
theorem dX0_nextFailure_3 : decode cX0_nextFailure 3 = .ok (.iconst 1, 1) := by decide +kernel
theorem dX0_nextFailure_4 : decode cX0_nextFailure 4 = .ok (.istore_n 3, 1) := by decide +kernel
theorem dX0_nextFailure_5 : decode cX0_nextFailure 5 = .ok (.iload_n 3, 1) := by decide +kernel
theorem dX0_nextFailure_6 : decode cX0_nextFailure 6 = .ok (.aload_n 0, 1) := by decide +kernel
theorem dX0_nextFailure_7 : decode cX0_nextFailure 7 = .ok (.getfield 28, 3) := by decide +kernel
theorem dX0_nextFailure_10 : decode cX0_nextFailure 10 = .ok (.if_icmp .ge 20, 3) := by decide +kernel
theorem dX0_nextFailure_13 : decode cX0_nextFailure 13 = .ok (.iload_n 2, 1) := by decide +kernel
theorem dX0_nextFailure_14 : decode cX0_nextFailure 14 = .ok (.aload_n 0, 1) := by decide +kernel
theorem dX0_nextFailure_15 : decode cX0_nextFailure 15 = .ok (.iload_n 3, 1) := by decide +kernel
theorem dX0_nextFailure_16 : decode cX0_nextFailure 16 = .ok (.iload_n 1, 1) := by decide +kernel
theorem dX0_nextFailure_17 : decode cX0_nextFailure 17 = .ok (.invokevirtual 62, 3) := by decide +kernel
theorem dX0_nextFailure_20 : decode cX0_nextFailure 20 = .ok (.invokestatic 66, 3) := by decide +kernel
theorem dX0_nextFailure_23 : decode cX0_nextFailure 23 = .ok (.istore_n 2, 1) := by decide +kernel
theorem dX0_nextFailure_24 : decode cX0_nextFailure 24 = .ok (.iinc 3 1, 3) := by decide +kernel
theorem dX0_nextFailure_27 : decode cX0_nextFailure 27 = .ok (.goto (-22), 3) := by decide +kernel
theorem dX0_nextFailure_30 : decode cX0_nextFailure 30 = .ok (.iload_n 2, 1) := by decide +kernel
theorem dX0_nextFailure_31 : decode cX0_nextFailure 31 = .ok (.ireturn, 1) := by decide +kernel
set_option maxRecDepth 20000 in
theorem ggX0_settle_X0_firstBroken : GoodIn wsX0_settle wsX0_firstBroken := goodIn_r _ [5, 6, 7, 8, 9, 4, 10, 11, 12, 13, 14, 15, 16, 17, 18, 19, 20, 21, 22, 23, 24, 25, 26, 27, 28, 29, 30, 31, 43, 44, 45, 46, 47, 48, 49, 50, 51, 52, 53] (by decide +kernel) (by decide +kernel)
set_option maxRecDepth 20000 in
theorem gX0_settle_X0_firstBroken : GoodIn wsX0_settle (wsV RX0 71 RX0 yX0_firstBroken wsX0_firstBroken) := goodIn_app (goodIn_of _ (by decide +kernel)) ggX0_settle_X0_firstBroken
set_option maxRecDepth 20000 in
theorem ggX0_settle_X0_exchange : GoodIn wsX0_settle wsX0_exchange := goodIn_r _ [35, 36, 37, 8, 9, 4, 10, 11, 12, 13, 14, 6, 15, 38, 39, 40, 41, 42, 43, 44, 45, 46, 47, 48, 49] (by decide +kernel) (by decide +kernel)
set_option maxRecDepth 20000 in
theorem gX0_settle_X0_exchange : GoodIn wsX0_settle (wsV RX0 74 RX0 yX0_exchange wsX0_exchange) := goodIn_app (goodIn_of _ (by decide +kernel)) ggX0_settle_X0_exchange
theorem dX0_settle_0 : decode cX0_settle 0 = .ok (.iconst 0, 1) := by decide +kernel
theorem dX0_settle_1 : decode cX0_settle 1 = .ok (.istore_n 2, 1) := by decide +kernel
theorem dX0_settle_2 : decode cX0_settle 2 = .ok (.iload_n 2, 1) := by decide +kernel
theorem dX0_settle_3 : decode cX0_settle 3 = .ok (.sipush 276, 3) := by decide +kernel
theorem dX0_settle_6 : decode cX0_settle 6 = .ok (.if_icmp .ge 25, 3) := by decide +kernel
theorem dX0_settle_9 : decode cX0_settle 9 = .ok (.aload_n 0, 1) := by decide +kernel
theorem dX0_settle_10 : decode cX0_settle 10 = .ok (.iload_n 1, 1) := by decide +kernel
theorem dX0_settle_11 : decode cX0_settle 11 = .ok (.invokevirtual 71, 3) := by decide +kernel
theorem dX0_settle_14 : decode cX0_settle 14 = .ok (.istore_n 3, 1) := by decide +kernel
theorem dX0_settle_15 : decode cX0_settle 15 = .ok (.iload_n 3, 1) := by decide +kernel
theorem dX0_settle_16 : decode cX0_settle 16 = .ok (.ifCond .ne 4, 3) := by decide +kernel
theorem dX0_settle_19 : decode cX0_settle 19 = .ok (.return_, 1) := by decide +kernel
theorem dX0_settle_20 : decode cX0_settle 20 = .ok (.aload_n 0, 1) := by decide +kernel
theorem dX0_settle_21 : decode cX0_settle 21 = .ok (.iload_n 3, 1) := by decide +kernel
theorem dX0_settle_22 : decode cX0_settle 22 = .ok (.invokevirtual 74, 3) := by decide +kernel
theorem dX0_settle_25 : decode cX0_settle 25 = .ok (.iinc 2 1, 3) := by decide +kernel
theorem dX0_settle_28 : decode cX0_settle 28 = .ok (.goto (-26), 3) := by decide +kernel
theorem dX0_settle_31 : decode cX0_settle 31 = .ok (.return_, 1) := by decide +kernel
set_option maxRecDepth 20000 in
theorem ggX0_firstBroken_X0_parentOf : GoodIn wsX0_firstBroken wsX0_parentOf := goodIn_r _ [6] (by decide +kernel) (by decide +kernel)
set_option maxRecDepth 20000 in
theorem gX0_firstBroken_X0_parentOf : GoodIn wsX0_firstBroken (va_wsS RX0 55 yX0_parentOf wsX0_parentOf) := goodIn_app (goodIn_of _ (by decide +kernel)) ggX0_firstBroken_X0_parentOf
set_option maxRecDepth 20000 in
theorem ggX0_firstBroken_X0_pointIn : GoodIn wsX0_firstBroken wsX0_pointIn := goodIn_r _ [10, 1, 11, 28, 29, 30, 31, 32, 33, 34] (by decide +kernel) (by decide +kernel)
set_option maxRecDepth 20000 in
theorem gX0_firstBroken_X0_pointIn : GoodIn wsX0_firstBroken (wsV RX0 47 RX0 yX0_pointIn wsX0_pointIn) := goodIn_app (goodIn_of _ (by decide +kernel)) ggX0_firstBroken_X0_pointIn
set_option maxRecDepth 20000 in
theorem ggX0_firstBroken_X2_isBefore : GoodIn wsX0_firstBroken wsX2_isBefore := goodIn_r _ [16, 17, 18, 19, 15, 20, 21, 22, 23, 24, 25, 26, 27, 35, 36, 37, 38] (by decide +kernel) (by decide +kernel)
set_option maxRecDepth 20000 in
theorem gX0_firstBroken_X2_isBefore : GoodIn wsX0_firstBroken (wsV RX0 78 RX2 yX2_isBefore wsX2_isBefore) := goodIn_app (goodIn_of _ (by decide +kernel)) ggX0_firstBroken_X2_isBefore
theorem dX0_firstBroken_0 : decode cX0_firstBroken 0 = .ok (.iconst 1, 1) := by decide +kernel
theorem dX0_firstBroken_1 : decode cX0_firstBroken 1 = .ok (.istore_n 2, 1) := by decide +kernel
theorem dX0_firstBroken_2 : decode cX0_firstBroken 2 = .ok (.iload_n 2, 1) := by decide +kernel
theorem dX0_firstBroken_3 : decode cX0_firstBroken 3 = .ok (.aload_n 0, 1) := by decide +kernel
theorem dX0_firstBroken_4 : decode cX0_firstBroken 4 = .ok (.getfield 28, 3) := by decide +kernel
theorem dX0_firstBroken_7 : decode cX0_firstBroken 7 = .ok (.if_icmp .ge 35, 3) := by decide +kernel
theorem dX0_firstBroken_10 : decode cX0_firstBroken 10 = .ok (.aload_n 0, 1) := by decide +kernel
theorem dX0_firstBroken_11 : decode cX0_firstBroken 11 = .ok (.getfield 12, 3) := by decide +kernel
theorem dX0_firstBroken_14 : decode cX0_firstBroken 14 = .ok (.aload_n 0, 1) := by decide +kernel
theorem dX0_firstBroken_15 : decode cX0_firstBroken 15 = .ok (.iload_n 2, 1) := by decide +kernel
theorem dX0_firstBroken_16 : decode cX0_firstBroken 16 = .ok (.invokestatic 55, 3) := by decide +kernel
theorem dX0_firstBroken_19 : decode cX0_firstBroken 19 = .ok (.invokevirtual 47, 3) := by decide +kernel
theorem dX0_firstBroken_22 : decode cX0_firstBroken 22 = .ok (.aload_n 0, 1) := by decide +kernel
theorem dX0_firstBroken_23 : decode cX0_firstBroken 23 = .ok (.iload_n 2, 1) := by decide +kernel
theorem dX0_firstBroken_24 : decode cX0_firstBroken 24 = .ok (.invokevirtual 47, 3) := by decide +kernel
theorem dX0_firstBroken_27 : decode cX0_firstBroken 27 = .ok (.iload_n 1, 1) := by decide +kernel
theorem dX0_firstBroken_28 : decode cX0_firstBroken 28 = .ok (.invokevirtual 78, 3) := by decide +kernel
theorem dX0_firstBroken_31 : decode cX0_firstBroken 31 = .ok (.ifCond .ne 5, 3) := by decide +kernel
theorem dX0_firstBroken_34 : decode cX0_firstBroken 34 = .ok (.iload_n 2, 1) := by decide +kernel
theorem dX0_firstBroken_35 : decode cX0_firstBroken 35 = .ok (.ireturn, 1) := by decide +kernel
theorem dX0_firstBroken_36 : decode cX0_firstBroken 36 = .ok (.iinc 2 1, 3) := by decide +kernel
theorem dX0_firstBroken_39 : decode cX0_firstBroken 39 = .ok (.goto (-37), 3) := by decide +kernel
theorem dX0_firstBroken_42 : decode cX0_firstBroken 42 = .ok (.iconst 0, 1) := by decide +kernel
theorem dX0_firstBroken_43 : decode cX0_firstBroken 43 = .ok (.ireturn, 1) := by decide +kernel
set_option maxRecDepth 20000 in
theorem ggX0_exchange_X0_parentOf : GoodIn wsX0_exchange wsX0_parentOf := goodIn_r _ [6] (by decide +kernel) (by decide +kernel)
set_option maxRecDepth 20000 in
theorem gX0_exchange_X0_parentOf : GoodIn wsX0_exchange (va_wsS RX0 55 yX0_parentOf wsX0_parentOf) := goodIn_app (goodIn_of _ (by decide +kernel)) ggX0_exchange_X0_parentOf
set_option maxRecDepth 20000 in
theorem ggX0_exchange_X0_pointIn : GoodIn wsX0_exchange wsX0_pointIn := goodIn_r _ [10, 11, 12, 18, 19, 20, 21, 22, 23, 24] (by decide +kernel) (by decide +kernel)
set_option maxRecDepth 20000 in
theorem gX0_exchange_X0_pointIn : GoodIn wsX0_exchange (wsV RX0 47 RX0 yX0_pointIn wsX0_pointIn) := goodIn_app (goodIn_of _ (by decide +kernel)) ggX0_exchange_X0_pointIn
set_option maxRecDepth 20000 in
theorem ggX0_exchange_X0_put : GoodIn wsX0_exchange wsX0_put := goodIn_r _ [16, 12, 17, 18, 19, 20, 21, 22, 23, 24] (by decide +kernel) (by decide +kernel)
set_option maxRecDepth 20000 in
theorem gX0_exchange_X0_put : GoodIn wsX0_exchange (wsV RX0 39 RX0 yX0_put wsX0_put) := goodIn_app (goodIn_of _ (by decide +kernel)) ggX0_exchange_X0_put
theorem dX0_exchange_0 : decode cX0_exchange 0 = .ok (.iload_n 1, 1) := by decide +kernel
theorem dX0_exchange_1 : decode cX0_exchange 1 = .ok (.invokestatic 55, 3) := by decide +kernel
theorem dX0_exchange_4 : decode cX0_exchange 4 = .ok (.istore_n 2, 1) := by decide +kernel
theorem dX0_exchange_5 : decode cX0_exchange 5 = .ok (.aload_n 0, 1) := by decide +kernel
theorem dX0_exchange_6 : decode cX0_exchange 6 = .ok (.iload_n 2, 1) := by decide +kernel
theorem dX0_exchange_7 : decode cX0_exchange 7 = .ok (.invokevirtual 47, 3) := by decide +kernel
theorem dX0_exchange_10 : decode cX0_exchange 10 = .ok (.istore_n 3, 1) := by decide +kernel
theorem dX0_exchange_11 : decode cX0_exchange 11 = .ok (.aload_n 0, 1) := by decide +kernel
theorem dX0_exchange_12 : decode cX0_exchange 12 = .ok (.iload_n 2, 1) := by decide +kernel
theorem dX0_exchange_13 : decode cX0_exchange 13 = .ok (.aload_n 0, 1) := by decide +kernel
theorem dX0_exchange_14 : decode cX0_exchange 14 = .ok (.iload_n 1, 1) := by decide +kernel
theorem dX0_exchange_15 : decode cX0_exchange 15 = .ok (.invokevirtual 47, 3) := by decide +kernel
theorem dX0_exchange_18 : decode cX0_exchange 18 = .ok (.invokevirtual 39, 3) := by decide +kernel
theorem dX0_exchange_21 : decode cX0_exchange 21 = .ok (.aload_n 0, 1) := by decide +kernel
theorem dX0_exchange_22 : decode cX0_exchange 22 = .ok (.iload_n 1, 1) := by decide +kernel
theorem dX0_exchange_23 : decode cX0_exchange 23 = .ok (.iload_n 3, 1) := by decide +kernel
theorem dX0_exchange_24 : decode cX0_exchange 24 = .ok (.invokevirtual 39, 3) := by decide +kernel
theorem dX0_exchange_27 : decode cX0_exchange 27 = .ok (.aload_n 0, 1) := by decide +kernel
theorem dX0_exchange_28 : decode cX0_exchange 28 = .ok (.dup, 1) := by decide +kernel
theorem dX0_exchange_29 : decode cX0_exchange 29 = .ok (.getfield 32, 3) := by decide +kernel
theorem dX0_exchange_32 : decode cX0_exchange 32 = .ok (.lconst 1, 1) := by decide +kernel
theorem dX0_exchange_33 : decode cX0_exchange 33 = .ok (.ladd, 1) := by decide +kernel
theorem dX0_exchange_34 : decode cX0_exchange 34 = .ok (.putfield 32, 3) := by decide +kernel
theorem dX0_exchange_37 : decode cX0_exchange 37 = .ok (.iload_n 2, 1) := by decide +kernel
theorem dX0_exchange_38 : decode cX0_exchange 38 = .ok (.ifCond .ne 13, 3) := by decide +kernel
theorem dX0_exchange_41 : decode cX0_exchange 41 = .ok (.aload_n 0, 1) := by decide +kernel
theorem dX0_exchange_42 : decode cX0_exchange 42 = .ok (.dup, 1) := by decide +kernel
theorem dX0_exchange_43 : decode cX0_exchange 43 = .ok (.getfield 36, 3) := by decide +kernel
theorem dX0_exchange_46 : decode cX0_exchange 46 = .ok (.lconst 1, 1) := by decide +kernel
theorem dX0_exchange_47 : decode cX0_exchange 47 = .ok (.ladd, 1) := by decide +kernel
theorem dX0_exchange_48 : decode cX0_exchange 48 = .ok (.putfield 36, 3) := by decide +kernel
theorem dX0_exchange_51 : decode cX0_exchange 51 = .ok (.return_, 1) := by decide +kernel
theorem dX0_parentOf_0 : decode cX0_parentOf 0 = .ok (.iload_n 0, 1) := by decide +kernel
theorem dX0_parentOf_1 : decode cX0_parentOf 1 = .ok (.iconst 1, 1) := by decide +kernel
theorem dX0_parentOf_2 : decode cX0_parentOf 2 = .ok (.isub, 1) := by decide +kernel
theorem dX0_parentOf_3 : decode cX0_parentOf 3 = .ok (.iconst 2, 1) := by decide +kernel
theorem dX0_parentOf_4 : decode cX0_parentOf 4 = .ok (.idiv, 1) := by decide +kernel
theorem dX0_parentOf_5 : decode cX0_parentOf 5 = .ok (.ireturn, 1) := by decide +kernel
set_option maxRecDepth 20000 in
theorem ggX0_calendarLength_X0_failureOf : GoodIn wsX0_calendarLength wsX0_failureOf := goodIn_r _ [7, 2, 8, 9, 10, 11, 6, 12, 1, 13, 14, 15, 16, 17, 18, 19, 20, 21, 22, 23, 24, 25, 26, 27, 28, 29, 30, 31, 32, 33, 34, 35, 36, 37, 38, 39, 40, 41, 42, 43, 44, 45, 46, 47, 48, 49, 50, 51, 52, 53, 54, 55, 56, 57] (by decide +kernel) (by decide +kernel)
set_option maxRecDepth 20000 in
theorem gX0_calendarLength_X0_failureOf : GoodIn wsX0_calendarLength (wsV RX0 62 RX0 yX0_failureOf wsX0_failureOf) := goodIn_app (goodIn_of _ (by decide +kernel)) ggX0_calendarLength_X0_failureOf
theorem dX0_calendarLength_0 : decode cX0_calendarLength 0 = .ok (.iconst 0, 1) := by decide +kernel
theorem dX0_calendarLength_1 : decode cX0_calendarLength 1 = .ok (.istore_n 2, 1) := by decide +kernel
theorem dX0_calendarLength_2 : decode cX0_calendarLength 2 = .ok (.iconst 1, 1) := by decide +kernel
theorem dX0_calendarLength_3 : decode cX0_calendarLength 3 = .ok (.istore_n 3, 1) := by decide +kernel
theorem dX0_calendarLength_4 : decode cX0_calendarLength 4 = .ok (.iload_n 3, 1) := by decide +kernel
theorem dX0_calendarLength_5 : decode cX0_calendarLength 5 = .ok (.aload_n 0, 1) := by decide +kernel
theorem dX0_calendarLength_6 : decode cX0_calendarLength 6 = .ok (.getfield 28, 3) := by decide +kernel
theorem dX0_calendarLength_9 : decode cX0_calendarLength 9 = .ok (.if_icmp .ge 23, 3) := by decide +kernel
theorem dX0_calendarLength_12 : decode cX0_calendarLength 12 = .ok (.aload_n 0, 1) := by decide +kernel
theorem dX0_calendarLength_13 : decode cX0_calendarLength 13 = .ok (.iload_n 3, 1) := by decide +kernel
theorem dX0_calendarLength_14 : decode cX0_calendarLength 14 = .ok (.iload_n 1, 1) := by decide +kernel
theorem dX0_calendarLength_15 : decode cX0_calendarLength 15 = .ok (.invokevirtual 62, 3) := by decide +kernel
theorem dX0_calendarLength_18 : decode cX0_calendarLength 18 = .ok (.ldc 54, 2) := by decide +kernel
theorem dX0_calendarLength_20 : decode cX0_calendarLength 20 = .ok (.if_icmp .eq 6, 3) := by decide +kernel
theorem dX0_calendarLength_23 : decode cX0_calendarLength 23 = .ok (.iinc 2 1, 3) := by decide +kernel
theorem dX0_calendarLength_26 : decode cX0_calendarLength 26 = .ok (.iinc 3 1, 3) := by decide +kernel
theorem dX0_calendarLength_29 : decode cX0_calendarLength 29 = .ok (.goto (-25), 3) := by decide +kernel
theorem dX0_calendarLength_32 : decode cX0_calendarLength 32 = .ok (.iload_n 2, 1) := by decide +kernel
theorem dX0_calendarLength_33 : decode cX0_calendarLength 33 = .ok (.ireturn, 1) := by decide +kernel
set_option maxRecDepth 20000 in
theorem ggX0_calendarEntry_X0_failureOf : GoodIn wsX0_calendarEntry wsX0_failureOf := goodIn_r _ [8, 3, 9, 10, 11, 12, 7, 13, 1, 14, 15, 16, 17, 18, 19, 20, 21, 22, 23, 24, 25, 26, 27, 28, 29, 30, 31, 32, 33, 34, 35, 36, 37, 38, 39, 40, 41, 42, 43, 44, 45, 46, 47, 52, 53, 54, 55, 56, 57, 58, 59, 60, 61, 62] (by decide +kernel) (by decide +kernel)
set_option maxRecDepth 20000 in
theorem gX0_calendarEntry_X0_failureOf : GoodIn wsX0_calendarEntry (wsV RX0 62 RX0 yX0_failureOf wsX0_failureOf) := goodIn_app (goodIn_of _ (by decide +kernel)) ggX0_calendarEntry_X0_failureOf
set_option maxRecDepth 20000 in
theorem ggX0_calendarEntry_X0_earlierThan : GoodIn wsX0_calendarEntry wsX0_earlierThan := goodIn_r _ [51, 1, 2, 52, 53, 54, 55, 56, 57, 58] (by decide +kernel) (by decide +kernel)
set_option maxRecDepth 20000 in
theorem gX0_calendarEntry_X0_earlierThan : GoodIn wsX0_calendarEntry (wsV RX0 82 RX0 yX0_earlierThan wsX0_earlierThan) := goodIn_app (goodIn_of _ (by decide +kernel)) ggX0_calendarEntry_X0_earlierThan
theorem dX0_calendarEntry_0 : decode cX0_calendarEntry 0 = .ok (.iconst 1, 1) := by decide +kernel
theorem dX0_calendarEntry_1 : decode cX0_calendarEntry 1 = .ok (.istore_n 3, 1) := by decide +kernel
theorem dX0_calendarEntry_2 : decode cX0_calendarEntry 2 = .ok (.iload_n 3, 1) := by decide +kernel
theorem dX0_calendarEntry_3 : decode cX0_calendarEntry 3 = .ok (.aload_n 0, 1) := by decide +kernel
theorem dX0_calendarEntry_4 : decode cX0_calendarEntry 4 = .ok (.getfield 28, 3) := by decide +kernel
theorem dX0_calendarEntry_7 : decode cX0_calendarEntry 7 = .ok (.if_icmp .ge 27, 3) := by decide +kernel
theorem dX0_calendarEntry_10 : decode cX0_calendarEntry 10 = .ok (.iload_n 3, 1) := by decide +kernel
theorem dX0_calendarEntry_11 : decode cX0_calendarEntry 11 = .ok (.bipush 24, 2) := by decide +kernel
theorem dX0_calendarEntry_13 : decode cX0_calendarEntry 13 = .ok (.if_icmp .ge 21, 3) := by decide +kernel
theorem dX0_calendarEntry_16 : decode cX0_calendarEntry 16 = .ok (.aload_n 0, 1) := by decide +kernel
theorem dX0_calendarEntry_17 : decode cX0_calendarEntry 17 = .ok (.getfield 25, 3) := by decide +kernel
theorem dX0_calendarEntry_20 : decode cX0_calendarEntry 20 = .ok (.iload_n 3, 1) := by decide +kernel
theorem dX0_calendarEntry_21 : decode cX0_calendarEntry 21 = .ok (.aload_n 0, 1) := by decide +kernel
theorem dX0_calendarEntry_22 : decode cX0_calendarEntry 22 = .ok (.iload_n 3, 1) := by decide +kernel
theorem dX0_calendarEntry_23 : decode cX0_calendarEntry 23 = .ok (.iload_n 2, 1) := by decide +kernel
theorem dX0_calendarEntry_24 : decode cX0_calendarEntry 24 = .ok (.invokevirtual 62, 3) := by decide +kernel
theorem dX0_calendarEntry_27 : decode cX0_calendarEntry 27 = .ok (.iastore, 1) := by decide +kernel
theorem dX0_calendarEntry_28 : decode cX0_calendarEntry 28 = .ok (.iinc 3 1, 3) := by decide +kernel
theorem dX0_calendarEntry_31 : decode cX0_calendarEntry 31 = .ok (.goto (-29), 3) := by decide +kernel
theorem dX0_calendarEntry_34 : decode cX0_calendarEntry 34 = .ok (.iconst 1, 1) := by decide +kernel
theorem dX0_calendarEntry_35 : decode cX0_calendarEntry 35 = .ok (.istore_n 3, 1) := by decide +kernel
theorem dX0_calendarEntry_36 : decode cX0_calendarEntry 36 = .ok (.iload_n 3, 1) := by decide +kernel
theorem dX0_calendarEntry_37 : decode cX0_calendarEntry 37 = .ok (.aload_n 0, 1) := by decide +kernel
theorem dX0_calendarEntry_38 : decode cX0_calendarEntry 38 = .ok (.getfield 28, 3) := by decide +kernel
theorem dX0_calendarEntry_41 : decode cX0_calendarEntry 41 = .ok (.if_icmp .ge 43, 3) := by decide +kernel
theorem dX0_calendarEntry_44 : decode cX0_calendarEntry 44 = .ok (.iload_n 3, 1) := by decide +kernel
theorem dX0_calendarEntry_45 : decode cX0_calendarEntry 45 = .ok (.bipush 24, 2) := by decide +kernel
theorem dX0_calendarEntry_47 : decode cX0_calendarEntry 47 = .ok (.if_icmp .ge 37, 3) := by decide +kernel
theorem dX0_calendarEntry_50 : decode cX0_calendarEntry 50 = .ok (.aload_n 0, 1) := by decide +kernel
theorem dX0_calendarEntry_51 : decode cX0_calendarEntry 51 = .ok (.getfield 25, 3) := by decide +kernel
theorem dX0_calendarEntry_54 : decode cX0_calendarEntry 54 = .ok (.iload_n 3, 1) := by decide +kernel
theorem dX0_calendarEntry_55 : decode cX0_calendarEntry 55 = .ok (.iaload, 1) := by decide +kernel
theorem dX0_calendarEntry_56 : decode cX0_calendarEntry 56 = .ok (.ldc 54, 2) := by decide +kernel
theorem dX0_calendarEntry_58 : decode cX0_calendarEntry 58 = .ok (.if_icmp .eq 20, 3) := by decide +kernel
theorem dX0_calendarEntry_61 : decode cX0_calendarEntry 61 = .ok (.aload_n 0, 1) := by decide +kernel
theorem dX0_calendarEntry_62 : decode cX0_calendarEntry 62 = .ok (.iload_n 3, 1) := by decide +kernel
theorem dX0_calendarEntry_63 : decode cX0_calendarEntry 63 = .ok (.aload_n 0, 1) := by decide +kernel
theorem dX0_calendarEntry_64 : decode cX0_calendarEntry 64 = .ok (.getfield 25, 3) := by decide +kernel
theorem dX0_calendarEntry_67 : decode cX0_calendarEntry 67 = .ok (.iload_n 3, 1) := by decide +kernel
theorem dX0_calendarEntry_68 : decode cX0_calendarEntry 68 = .ok (.iaload, 1) := by decide +kernel
theorem dX0_calendarEntry_69 : decode cX0_calendarEntry 69 = .ok (.invokevirtual 82, 3) := by decide +kernel
theorem dX0_calendarEntry_72 : decode cX0_calendarEntry 72 = .ok (.iload_n 1, 1) := by decide +kernel
theorem dX0_calendarEntry_73 : decode cX0_calendarEntry 73 = .ok (.if_icmp .ne 5, 3) := by decide +kernel
theorem dX0_calendarEntry_76 : decode cX0_calendarEntry 76 = .ok (.iload_n 3, 1) := by decide +kernel
theorem dX0_calendarEntry_77 : decode cX0_calendarEntry 77 = .ok (.ireturn, 1) := by decide +kernel
theorem dX0_calendarEntry_78 : decode cX0_calendarEntry 78 = .ok (.iinc 3 1, 3) := by decide +kernel
theorem dX0_calendarEntry_81 : decode cX0_calendarEntry 81 = .ok (.goto (-45), 3) := by decide +kernel
theorem dX0_calendarEntry_84 : decode cX0_calendarEntry 84 = .ok (.iconst 0, 1) := by decide +kernel
theorem dX0_calendarEntry_85 : decode cX0_calendarEntry 85 = .ok (.ireturn, 1) := by decide +kernel
theorem dX0_earlierThan_0 : decode cX0_earlierThan 0 = .ok (.iconst 0, 1) := by decide +kernel
theorem dX0_earlierThan_1 : decode cX0_earlierThan 1 = .ok (.istore_n 3, 1) := by decide +kernel
theorem dX0_earlierThan_2 : decode cX0_earlierThan 2 = .ok (.iconst 1, 1) := by decide +kernel
theorem dX0_earlierThan_3 : decode cX0_earlierThan 3 = .ok (.istore 4, 2) := by decide +kernel
theorem dX0_earlierThan_5 : decode cX0_earlierThan 5 = .ok (.iload 4, 2) := by decide +kernel
theorem dX0_earlierThan_7 : decode cX0_earlierThan 7 = .ok (.aload_n 0, 1) := by decide +kernel
theorem dX0_earlierThan_8 : decode cX0_earlierThan 8 = .ok (.getfield 28, 3) := by decide +kernel
theorem dX0_earlierThan_11 : decode cX0_earlierThan 11 = .ok (.if_icmp .ge 47, 3) := by decide +kernel
theorem dX0_earlierThan_14 : decode cX0_earlierThan 14 = .ok (.iload 4, 2) := by decide +kernel
theorem dX0_earlierThan_16 : decode cX0_earlierThan 16 = .ok (.bipush 24, 2) := by decide +kernel
theorem dX0_earlierThan_18 : decode cX0_earlierThan 18 = .ok (.if_icmp .ge 40, 3) := by decide +kernel
theorem dX0_earlierThan_21 : decode cX0_earlierThan 21 = .ok (.aload_n 0, 1) := by decide +kernel
theorem dX0_earlierThan_22 : decode cX0_earlierThan 22 = .ok (.getfield 25, 3) := by decide +kernel
theorem dX0_earlierThan_25 : decode cX0_earlierThan 25 = .ok (.iload 4, 2) := by decide +kernel
theorem dX0_earlierThan_27 : decode cX0_earlierThan 27 = .ok (.iaload, 1) := by decide +kernel
theorem dX0_earlierThan_28 : decode cX0_earlierThan 28 = .ok (.iload_n 2, 1) := by decide +kernel
theorem dX0_earlierThan_29 : decode cX0_earlierThan 29 = .ok (.if_icmp .lt 20, 3) := by decide +kernel
theorem dX0_earlierThan_32 : decode cX0_earlierThan 32 = .ok (.aload_n 0, 1) := by decide +kernel
theorem dX0_earlierThan_33 : decode cX0_earlierThan 33 = .ok (.getfield 25, 3) := by decide +kernel
theorem dX0_earlierThan_36 : decode cX0_earlierThan 36 = .ok (.iload 4, 2) := by decide +kernel
theorem dX0_earlierThan_38 : decode cX0_earlierThan 38 = .ok (.iaload, 1) := by decide +kernel
theorem dX0_earlierThan_39 : decode cX0_earlierThan 39 = .ok (.iload_n 2, 1) := by decide +kernel
theorem dX0_earlierThan_40 : decode cX0_earlierThan 40 = .ok (.if_icmp .ne 12, 3) := by decide +kernel
theorem dX0_earlierThan_43 : decode cX0_earlierThan 43 = .ok (.iload 4, 2) := by decide +kernel
theorem dX0_earlierThan_45 : decode cX0_earlierThan 45 = .ok (.iload_n 1, 1) := by decide +kernel
theorem dX0_earlierThan_46 : decode cX0_earlierThan 46 = .ok (.if_icmp .ge 6, 3) := by decide +kernel
theorem dX0_earlierThan_49 : decode cX0_earlierThan 49 = .ok (.iinc 3 1, 3) := by decide +kernel
theorem dX0_earlierThan_52 : decode cX0_earlierThan 52 = .ok (.iinc 4 1, 3) := by decide +kernel
theorem dX0_earlierThan_55 : decode cX0_earlierThan 55 = .ok (.goto (-50), 3) := by decide +kernel
theorem dX0_earlierThan_58 : decode cX0_earlierThan 58 = .ok (.iload_n 3, 1) := by decide +kernel
theorem dX0_earlierThan_59 : decode cX0_earlierThan 59 = .ok (.ireturn, 1) := by decide +kernel
set_option maxRecDepth 20000 in
theorem ggX1_init_X2_init : GoodIn wsX1_init wsX2_init := goodIn_r _ [22, 23, 2, 3, 12, 24, 14, 25, 9, 26, 27, 28, 29, 30, 31] (by decide +kernel) (by decide +kernel)
set_option maxRecDepth 20000 in
theorem gX1_init_X2_init : GoodIn wsX1_init (wsX2_init) := ggX1_init_X2_init
theorem dX1_init_0 : decode cX1_init 0 = .ok (.aload_n 0, 1) := by decide +kernel
theorem dX1_init_1 : decode cX1_init 1 = .ok (.invokespecial 3, 3) := by decide +kernel
theorem dX1_init_4 : decode cX1_init 4 = .ok (.aload_n 0, 1) := by decide +kernel
theorem dX1_init_5 : decode cX1_init 5 = .ok (.new 9, 3) := by decide +kernel
theorem dX1_init_8 : decode cX1_init 8 = .ok (.dup, 1) := by decide +kernel
theorem dX1_init_9 : decode cX1_init 9 = .ok (.invokespecial 11, 3) := by decide +kernel
theorem dX1_init_12 : decode cX1_init 12 = .ok (.putfield 12, 3) := by decide +kernel
theorem dX1_init_15 : decode cX1_init 15 = .ok (.aload_n 0, 1) := by decide +kernel
theorem dX1_init_16 : decode cX1_init 16 = .ok (.new 9, 3) := by decide +kernel
theorem dX1_init_19 : decode cX1_init 19 = .ok (.dup, 1) := by decide +kernel
theorem dX1_init_20 : decode cX1_init 20 = .ok (.invokespecial 11, 3) := by decide +kernel
theorem dX1_init_23 : decode cX1_init 23 = .ok (.putfield 18, 3) := by decide +kernel
theorem dX1_init_26 : decode cX1_init 26 = .ok (.aload_n 0, 1) := by decide +kernel
theorem dX1_init_27 : decode cX1_init 27 = .ok (.sipush 200, 3) := by decide +kernel
theorem dX1_init_30 : decode cX1_init 30 = .ok (.newarray .int, 2) := by decide +kernel
theorem dX1_init_32 : decode cX1_init 32 = .ok (.putfield 21, 3) := by decide +kernel
theorem dX1_init_35 : decode cX1_init 35 = .ok (.aload_n 0, 1) := by decide +kernel
theorem dX1_init_36 : decode cX1_init 36 = .ok (.sipush 200, 3) := by decide +kernel
theorem dX1_init_39 : decode cX1_init 39 = .ok (.newarray .int, 2) := by decide +kernel
theorem dX1_init_41 : decode cX1_init 41 = .ok (.putfield 25, 3) := by decide +kernel
theorem dX1_init_44 : decode cX1_init 44 = .ok (.aload_n 0, 1) := by decide +kernel
theorem dX1_init_45 : decode cX1_init 45 = .ok (.sipush 200, 3) := by decide +kernel
theorem dX1_init_48 : decode cX1_init 48 = .ok (.newarray .boolean, 2) := by decide +kernel
theorem dX1_init_50 : decode cX1_init 50 = .ok (.putfield 28, 3) := by decide +kernel
theorem dX1_init_53 : decode cX1_init 53 = .ok (.aload_n 0, 1) := by decide +kernel
theorem dX1_init_54 : decode cX1_init 54 = .ok (.sipush 200, 3) := by decide +kernel
theorem dX1_init_57 : decode cX1_init 57 = .ok (.newarray .long, 2) := by decide +kernel
theorem dX1_init_59 : decode cX1_init 59 = .ok (.putfield 32, 3) := by decide +kernel
theorem dX1_init_62 : decode cX1_init 62 = .ok (.aload_n 0, 1) := by decide +kernel
theorem dX1_init_63 : decode cX1_init 63 = .ok (.sipush 200, 3) := by decide +kernel
theorem dX1_init_66 : decode cX1_init 66 = .ok (.newarray .int, 2) := by decide +kernel
theorem dX1_init_68 : decode cX1_init 68 = .ok (.putfield 36, 3) := by decide +kernel
theorem dX1_init_71 : decode cX1_init 71 = .ok (.aload_n 0, 1) := by decide +kernel
theorem dX1_init_72 : decode cX1_init 72 = .ok (.iconst 0, 1) := by decide +kernel
theorem dX1_init_73 : decode cX1_init 73 = .ok (.putfield 39, 3) := by decide +kernel
theorem dX1_init_76 : decode cX1_init 76 = .ok (.aload_n 0, 1) := by decide +kernel
theorem dX1_init_77 : decode cX1_init 77 = .ok (.iconst 0, 1) := by decide +kernel
theorem dX1_init_78 : decode cX1_init 78 = .ok (.putfield 43, 3) := by decide +kernel
theorem dX1_init_81 : decode cX1_init 81 = .ok (.aload_n 0, 1) := by decide +kernel
theorem dX1_init_82 : decode cX1_init 82 = .ok (.iconst 0, 1) := by decide +kernel
theorem dX1_init_83 : decode cX1_init 83 = .ok (.putfield 46, 3) := by decide +kernel
theorem dX1_init_86 : decode cX1_init 86 = .ok (.return_, 1) := by decide +kernel
theorem dX1_operations_0 : decode cX1_operations 0 = .ok (.aload_n 0, 1) := by decide +kernel
theorem dX1_operations_1 : decode cX1_operations 1 = .ok (.getfield 39, 3) := by decide +kernel
theorem dX1_operations_4 : decode cX1_operations 4 = .ok (.ireturn, 1) := by decide +kernel
theorem dX1_isFull_0 : decode cX1_isFull 0 = .ok (.aload_n 0, 1) := by decide +kernel
theorem dX1_isFull_1 : decode cX1_isFull 1 = .ok (.getfield 39, 3) := by decide +kernel
theorem dX1_isFull_4 : decode cX1_isFull 4 = .ok (.sipush 200, 3) := by decide +kernel
theorem dX1_isFull_7 : decode cX1_isFull 7 = .ok (.if_icmp .lt 7, 3) := by decide +kernel
theorem dX1_isFull_10 : decode cX1_isFull 10 = .ok (.iconst 1, 1) := by decide +kernel
theorem dX1_isFull_11 : decode cX1_isFull 11 = .ok (.goto 4, 3) := by decide +kernel
theorem dX1_isFull_14 : decode cX1_isFull 14 = .ok (.iconst 0, 1) := by decide +kernel
theorem dX1_isFull_15 : decode cX1_isFull 15 = .ok (.ireturn, 1) := by decide +kernel
theorem dX1_knows_0 : decode cX1_knows 0 = .ok (.iload_n 1, 1) := by decide +kernel
theorem dX1_knows_1 : decode cX1_knows 1 = .ok (.aload_n 0, 1) := by decide +kernel
theorem dX1_knows_2 : decode cX1_knows 2 = .ok (.getfield 46, 3) := by decide +kernel
theorem dX1_knows_5 : decode cX1_knows 5 = .ok (.if_icmp .lt 7, 3) := by decide +kernel
theorem dX1_knows_8 : decode cX1_knows 8 = .ok (.iconst 1, 1) := by decide +kernel
theorem dX1_knows_9 : decode cX1_knows 9 = .ok (.goto 4, 3) := by decide +kernel
theorem dX1_knows_12 : decode cX1_knows 12 = .ok (.iconst 0, 1) := by decide +kernel
theorem dX1_knows_13 : decode cX1_knows 13 = .ok (.ireturn, 1) := by decide +kernel
set_option maxRecDepth 20000 in
theorem ggX1_record_X1_isFull : GoodIn wsX1_record wsX1_isFull := goodIn_r _ [11, 2, 29, 30, 31, 32, 33, 34, 35, 36, 37, 38] (by decide +kernel) (by decide +kernel)
set_option maxRecDepth 20000 in
theorem gX1_record_X1_isFull : GoodIn wsX1_record (wsV RX1 49 RX1 yX1_isFull wsX1_isFull) := goodIn_app (goodIn_of _ (by decide +kernel)) ggX1_record_X1_isFull
set_option maxRecDepth 20000 in
theorem ggX1_record_X2_has : GoodIn wsX1_record wsX2_has := goodIn_r _ [16, 17, 39, 40, 41, 42] (by decide +kernel) (by decide +kernel)
set_option maxRecDepth 20000 in
theorem gX1_record_X2_has : GoodIn wsX1_record (wsV RX1 53 RX2 yX2_has wsX2_has) := goodIn_app (goodIn_of _ (by decide +kernel)) ggX1_record_X2_has
set_option maxRecDepth 20000 in
theorem ggX1_record_X2_heightOf : GoodIn wsX1_record wsX2_heightOf := goodIn_r _ [21, 22, 23, 13, 14, 15, 16, 17, 39, 40, 41, 42] (by decide +kernel) (by decide +kernel)
set_option maxRecDepth 20000 in
theorem gX1_record_X2_heightOf : GoodIn wsX1_record (wsV RX1 57 RX2 yX2_heightOf wsX2_heightOf) := goodIn_app (goodIn_of _ (by decide +kernel)) ggX1_record_X2_heightOf
set_option maxRecDepth 20000 in
theorem ggX1_record_X2_velocityOf : GoodIn wsX1_record wsX2_velocityOf := goodIn_r _ [27, 28, 23, 13, 14, 15, 16, 17, 39, 40, 41, 42] (by decide +kernel) (by decide +kernel)
set_option maxRecDepth 20000 in
theorem gX1_record_X2_velocityOf : GoodIn wsX1_record (wsV RX1 61 RX2 yX2_velocityOf wsX2_velocityOf) := goodIn_app (goodIn_of _ (by decide +kernel)) ggX1_record_X2_velocityOf
theorem dX1_record_0 : decode cX1_record 0 = .ok (.aload_n 0, 1) := by decide +kernel
theorem dX1_record_1 : decode cX1_record 1 = .ok (.invokevirtual 49, 3) := by decide +kernel
theorem dX1_record_4 : decode cX1_record 4 = .ok (.ifCond .eq 4, 3) := by decide +kernel
theorem dX1_record_7 : decode cX1_record 7 = .ok (.return_, 1) := by decide +kernel
theorem dX1_record_8 : decode cX1_record 8 = .ok (.aload_n 0, 1) := by decide +kernel
theorem dX1_record_9 : decode cX1_record 9 = .ok (.getfield 21, 3) := by decide +kernel
theorem dX1_record_12 : decode cX1_record 12 = .ok (.aload_n 0, 1) := by decide +kernel
theorem dX1_record_13 : decode cX1_record 13 = .ok (.getfield 39, 3) := by decide +kernel
theorem dX1_record_16 : decode cX1_record 16 = .ok (.iload_n 3, 1) := by decide +kernel
theorem dX1_record_17 : decode cX1_record 17 = .ok (.iastore, 1) := by decide +kernel
theorem dX1_record_18 : decode cX1_record 18 = .ok (.aload_n 0, 1) := by decide +kernel
theorem dX1_record_19 : decode cX1_record 19 = .ok (.getfield 25, 3) := by decide +kernel
theorem dX1_record_22 : decode cX1_record 22 = .ok (.aload_n 0, 1) := by decide +kernel
theorem dX1_record_23 : decode cX1_record 23 = .ok (.getfield 39, 3) := by decide +kernel
theorem dX1_record_26 : decode cX1_record 26 = .ok (.iload_n 2, 1) := by decide +kernel
theorem dX1_record_27 : decode cX1_record 27 = .ok (.iastore, 1) := by decide +kernel
theorem dX1_record_28 : decode cX1_record 28 = .ok (.aload_n 0, 1) := by decide +kernel
theorem dX1_record_29 : decode cX1_record 29 = .ok (.getfield 28, 3) := by decide +kernel
theorem dX1_record_32 : decode cX1_record 32 = .ok (.aload_n 0, 1) := by decide +kernel
theorem dX1_record_33 : decode cX1_record 33 = .ok (.getfield 39, 3) := by decide +kernel
theorem dX1_record_36 : decode cX1_record 36 = .ok (.aload_n 1, 1) := by decide +kernel
theorem dX1_record_37 : decode cX1_record 37 = .ok (.iload_n 2, 1) := by decide +kernel
theorem dX1_record_38 : decode cX1_record 38 = .ok (.invokevirtual 53, 3) := by decide +kernel
theorem dX1_record_41 : decode cX1_record 41 = .ok (.bastore, 1) := by decide +kernel
theorem dX1_record_42 : decode cX1_record 42 = .ok (.aload_n 0, 1) := by decide +kernel
theorem dX1_record_43 : decode cX1_record 43 = .ok (.getfield 32, 3) := by decide +kernel
theorem dX1_record_46 : decode cX1_record 46 = .ok (.aload_n 0, 1) := by decide +kernel
theorem dX1_record_47 : decode cX1_record 47 = .ok (.getfield 39, 3) := by decide +kernel
theorem dX1_record_50 : decode cX1_record 50 = .ok (.aload_n 1, 1) := by decide +kernel
theorem dX1_record_51 : decode cX1_record 51 = .ok (.iload_n 2, 1) := by decide +kernel
theorem dX1_record_52 : decode cX1_record 52 = .ok (.invokevirtual 57, 3) := by decide +kernel
theorem dX1_record_55 : decode cX1_record 55 = .ok (.lastore, 1) := by decide +kernel
theorem dX1_record_56 : decode cX1_record 56 = .ok (.aload_n 0, 1) := by decide +kernel
theorem dX1_record_57 : decode cX1_record 57 = .ok (.getfield 36, 3) := by decide +kernel
theorem dX1_record_60 : decode cX1_record 60 = .ok (.aload_n 0, 1) := by decide +kernel
theorem dX1_record_61 : decode cX1_record 61 = .ok (.getfield 39, 3) := by decide +kernel
theorem dX1_record_64 : decode cX1_record 64 = .ok (.aload_n 1, 1) := by decide +kernel
theorem dX1_record_65 : decode cX1_record 65 = .ok (.iload_n 2, 1) := by decide +kernel
theorem dX1_record_66 : decode cX1_record 66 = .ok (.invokevirtual 61, 3) := by decide +kernel
theorem dX1_record_69 : decode cX1_record 69 = .ok (.iastore, 1) := by decide +kernel
theorem dX1_record_70 : decode cX1_record 70 = .ok (.aload_n 0, 1) := by decide +kernel
theorem dX1_record_71 : decode cX1_record 71 = .ok (.dup, 1) := by decide +kernel
theorem dX1_record_72 : decode cX1_record 72 = .ok (.getfield 39, 3) := by decide +kernel
theorem dX1_record_75 : decode cX1_record 75 = .ok (.iconst 1, 1) := by decide +kernel
theorem dX1_record_76 : decode cX1_record 76 = .ok (.iadd, 1) := by decide +kernel
theorem dX1_record_77 : decode cX1_record 77 = .ok (.putfield 39, 3) := by decide +kernel
theorem dX1_record_80 : decode cX1_record 80 = .ok (.return_, 1) := by decide +kernel
set_option maxRecDepth 20000 in
theorem ggX1_restart_X2_copyFrom : GoodIn wsX1_restart wsX2_copyFrom := goodIn_r _ [9, 10, 11, 12, 13, 24, 25, 26, 27] (by decide +kernel) (by decide +kernel)
set_option maxRecDepth 20000 in
theorem gX1_restart_X2_copyFrom : GoodIn wsX1_restart (wsV RX1 65 RX2 yX2_copyFrom wsX2_copyFrom) := goodIn_app (goodIn_of _ (by decide +kernel)) ggX1_restart_X2_copyFrom
theorem dX1_restart_0 : decode cX1_restart 0 = .ok (.aload_n 0, 1) := by decide +kernel
theorem dX1_restart_1 : decode cX1_restart 1 = .ok (.getfield 12, 3) := by decide +kernel
theorem dX1_restart_4 : decode cX1_restart 4 = .ok (.aload_n 1, 1) := by decide +kernel
theorem dX1_restart_5 : decode cX1_restart 5 = .ok (.invokevirtual 65, 3) := by decide +kernel
theorem dX1_restart_8 : decode cX1_restart 8 = .ok (.aload_n 0, 1) := by decide +kernel
theorem dX1_restart_9 : decode cX1_restart 9 = .ok (.iconst 0, 1) := by decide +kernel
theorem dX1_restart_10 : decode cX1_restart 10 = .ok (.putfield 39, 3) := by decide +kernel
theorem dX1_restart_13 : decode cX1_restart 13 = .ok (.aload_n 0, 1) := by decide +kernel
theorem dX1_restart_14 : decode cX1_restart 14 = .ok (.iconst 0, 1) := by decide +kernel
theorem dX1_restart_15 : decode cX1_restart 15 = .ok (.putfield 43, 3) := by decide +kernel
theorem dX1_restart_18 : decode cX1_restart 18 = .ok (.aload_n 0, 1) := by decide +kernel
theorem dX1_restart_19 : decode cX1_restart 19 = .ok (.iload_n 2, 1) := by decide +kernel
theorem dX1_restart_20 : decode cX1_restart 20 = .ok (.putfield 46, 3) := by decide +kernel
theorem dX1_restart_23 : decode cX1_restart 23 = .ok (.return_, 1) := by decide +kernel
set_option maxRecDepth 20000 in
theorem ggX1_stateAt_X2_copyFrom : GoodIn wsX1_stateAt wsX2_copyFrom := goodIn_r _ [8, 9, 10, 11, 12, 46, 47, 48, 49] (by decide +kernel) (by decide +kernel)
set_option maxRecDepth 20000 in
theorem gX1_stateAt_X2_copyFrom : GoodIn wsX1_stateAt (wsV RX1 65 RX2 yX2_copyFrom wsX2_copyFrom) := goodIn_app (goodIn_of _ (by decide +kernel)) ggX1_stateAt_X2_copyFrom
set_option maxRecDepth 20000 in
theorem ggX1_stateAt_X1_advance : GoodIn wsX1_stateAt wsX1_advance := goodIn_r _ [17, 3, 18, 19, 20, 1, 21, 22, 23, 24, 25, 26, 7, 27, 9, 12, 10, 11, 28, 29, 30, 31, 32, 33, 34, 35, 36, 37, 38, 39, 40, 41, 42, 43, 44, 45, 46, 47, 48, 49] (by decide +kernel) (by decide +kernel)
set_option maxRecDepth 20000 in
theorem gX1_stateAt_X1_advance : GoodIn wsX1_stateAt (wsV RX1 69 RX1 yX1_advance wsX1_advance) := goodIn_app (goodIn_of _ (by decide +kernel)) ggX1_stateAt_X1_advance
theorem dX1_stateAt_0 : decode cX1_stateAt 0 = .ok (.aload_n 0, 1) := by decide +kernel
theorem dX1_stateAt_1 : decode cX1_stateAt 1 = .ok (.getfield 18, 3) := by decide +kernel
theorem dX1_stateAt_4 : decode cX1_stateAt 4 = .ok (.aload_n 0, 1) := by decide +kernel
theorem dX1_stateAt_5 : decode cX1_stateAt 5 = .ok (.getfield 12, 3) := by decide +kernel
theorem dX1_stateAt_8 : decode cX1_stateAt 8 = .ok (.invokevirtual 65, 3) := by decide +kernel
theorem dX1_stateAt_11 : decode cX1_stateAt 11 = .ok (.aload_n 0, 1) := by decide +kernel
theorem dX1_stateAt_12 : decode cX1_stateAt 12 = .ok (.iconst 0, 1) := by decide +kernel
theorem dX1_stateAt_13 : decode cX1_stateAt 13 = .ok (.putfield 43, 3) := by decide +kernel
theorem dX1_stateAt_16 : decode cX1_stateAt 16 = .ok (.aload_n 0, 1) := by decide +kernel
theorem dX1_stateAt_17 : decode cX1_stateAt 17 = .ok (.iload_n 1, 1) := by decide +kernel
theorem dX1_stateAt_18 : decode cX1_stateAt 18 = .ok (.invokevirtual 69, 3) := by decide +kernel
theorem dX1_stateAt_21 : decode cX1_stateAt 21 = .ok (.aload_n 0, 1) := by decide +kernel
theorem dX1_stateAt_22 : decode cX1_stateAt 22 = .ok (.getfield 18, 3) := by decide +kernel
theorem dX1_stateAt_25 : decode cX1_stateAt 25 = .ok (.areturn, 1) := by decide +kernel
set_option maxRecDepth 20000 in
theorem ggX1_advance_X2_setLine : GoodIn wsX1_advance wsX2_setLine := goodIn_r _ [13, 14, 15, 16, 17, 36, 37, 38, 39] (by decide +kernel) (by decide +kernel)
set_option maxRecDepth 20000 in
theorem gX1_advance_X2_setLine : GoodIn wsX1_advance (wsV RX1 73 RX2 yX2_setLine wsX2_setLine) := goodIn_app (goodIn_of _ (by decide +kernel)) ggX1_advance_X2_setLine
set_option maxRecDepth 20000 in
theorem ggX1_advance_X2_drop : GoodIn wsX1_advance wsX2_drop := goodIn_r _ [21, 14, 15, 22, 23, 24, 12, 25, 36, 37, 38, 39] (by decide +kernel) (by decide +kernel)
set_option maxRecDepth 20000 in
theorem gX1_advance_X2_drop : GoodIn wsX1_advance (wsV RX1 77 RX2 yX2_drop wsX2_drop) := goodIn_app (goodIn_of _ (by decide +kernel)) ggX1_advance_X2_drop
theorem dX1_advance_0 : decode cX1_advance 0 = .ok (.aload_n 0, 1) := by decide +kernel
theorem dX1_advance_1 : decode cX1_advance 1 = .ok (.getfield 43, 3) := by decide +kernel
theorem dX1_advance_4 : decode cX1_advance 4 = .ok (.istore_n 2, 1) := by decide +kernel
theorem dX1_advance_5 : decode cX1_advance 5 = .ok (.iload_n 2, 1) := by decide +kernel
theorem dX1_advance_6 : decode cX1_advance 6 = .ok (.aload_n 0, 1) := by decide +kernel
theorem dX1_advance_7 : decode cX1_advance 7 = .ok (.getfield 39, 3) := by decide +kernel
theorem dX1_advance_10 : decode cX1_advance 10 = .ok (.if_icmp .ge 83, 3) := by decide +kernel
theorem dX1_advance_13 : decode cX1_advance 13 = .ok (.iload_n 2, 1) := by decide +kernel
theorem dX1_advance_14 : decode cX1_advance 14 = .ok (.sipush 200, 3) := by decide +kernel
theorem dX1_advance_17 : decode cX1_advance 17 = .ok (.if_icmp .ge 76, 3) := by decide +kernel
theorem dX1_advance_20 : decode cX1_advance 20 = .ok (.aload_n 0, 1) := by decide +kernel
theorem dX1_advance_21 : decode cX1_advance 21 = .ok (.getfield 21, 3) := by decide +kernel
theorem dX1_advance_24 : decode cX1_advance 24 = .ok (.iload_n 2, 1) := by decide +kernel
theorem dX1_advance_25 : decode cX1_advance 25 = .ok (.iaload, 1) := by decide +kernel
theorem dX1_advance_26 : decode cX1_advance 26 = .ok (.iload_n 1, 1) := by decide +kernel
theorem dX1_advance_27 : decode cX1_advance 27 = .ok (.if_icmp .gt 66, 3) := by decide +kernel
theorem dX1_advance_30 : decode cX1_advance 30 = .ok (.aload_n 0, 1) := by decide +kernel
theorem dX1_advance_31 : decode cX1_advance 31 = .ok (.getfield 28, 3) := by decide +kernel
theorem dX1_advance_34 : decode cX1_advance 34 = .ok (.iload_n 2, 1) := by decide +kernel
theorem dX1_advance_35 : decode cX1_advance 35 = .ok (.baload, 1) := by decide +kernel
theorem dX1_advance_36 : decode cX1_advance 36 = .ok (.ifCond .eq 31, 3) := by decide +kernel
theorem dX1_advance_39 : decode cX1_advance 39 = .ok (.aload_n 0, 1) := by decide +kernel
theorem dX1_advance_40 : decode cX1_advance 40 = .ok (.getfield 18, 3) := by decide +kernel
theorem dX1_advance_43 : decode cX1_advance 43 = .ok (.aload_n 0, 1) := by decide +kernel
theorem dX1_advance_44 : decode cX1_advance 44 = .ok (.getfield 25, 3) := by decide +kernel
theorem dX1_advance_47 : decode cX1_advance 47 = .ok (.iload_n 2, 1) := by decide +kernel
theorem dX1_advance_48 : decode cX1_advance 48 = .ok (.iaload, 1) := by decide +kernel
theorem dX1_advance_49 : decode cX1_advance 49 = .ok (.aload_n 0, 1) := by decide +kernel
theorem dX1_advance_50 : decode cX1_advance 50 = .ok (.getfield 32, 3) := by decide +kernel
theorem dX1_advance_53 : decode cX1_advance 53 = .ok (.iload_n 2, 1) := by decide +kernel
theorem dX1_advance_54 : decode cX1_advance 54 = .ok (.laload, 1) := by decide +kernel
theorem dX1_advance_55 : decode cX1_advance 55 = .ok (.aload_n 0, 1) := by decide +kernel
theorem dX1_advance_56 : decode cX1_advance 56 = .ok (.getfield 36, 3) := by decide +kernel
theorem dX1_advance_59 : decode cX1_advance 59 = .ok (.iload_n 2, 1) := by decide +kernel
theorem dX1_advance_60 : decode cX1_advance 60 = .ok (.iaload, 1) := by decide +kernel
theorem dX1_advance_61 : decode cX1_advance 61 = .ok (.invokevirtual 73, 3) := by decide +kernel
theorem dX1_advance_64 : decode cX1_advance 64 = .ok (.goto 16, 3) := by decide +kernel
theorem dX1_advance_67 : decode cX1_advance 67 = .ok (.aload_n 0, 1) := by decide +kernel
theorem dX1_advance_68 : decode cX1_advance 68 = .ok (.getfield 18, 3) := by decide +kernel
theorem dX1_advance_71 : decode cX1_advance 71 = .ok (.aload_n 0, 1) := by decide +kernel
theorem dX1_advance_72 : decode cX1_advance 72 = .ok (.getfield 25, 3) := by decide +kernel
theorem dX1_advance_75 : decode cX1_advance 75 = .ok (.iload_n 2, 1) := by decide +kernel
theorem dX1_advance_76 : decode cX1_advance 76 = .ok (.iaload, 1) := by decide +kernel
theorem dX1_advance_77 : decode cX1_advance 77 = .ok (.invokevirtual 77, 3) := by decide +kernel
theorem dX1_advance_80 : decode cX1_advance 80 = .ok (.aload_n 0, 1) := by decide +kernel
theorem dX1_advance_81 : decode cX1_advance 81 = .ok (.iload_n 2, 1) := by decide +kernel
theorem dX1_advance_82 : decode cX1_advance 82 = .ok (.iconst 1, 1) := by decide +kernel
theorem dX1_advance_83 : decode cX1_advance 83 = .ok (.iadd, 1) := by decide +kernel
theorem dX1_advance_84 : decode cX1_advance 84 = .ok (.putfield 43, 3) := by decide +kernel
theorem dX1_advance_87 : decode cX1_advance 87 = .ok (.iinc 2 1, 3) := by decide +kernel
theorem dX1_advance_90 : decode cX1_advance 90 = .ok (.goto (-85), 3) := by decide +kernel
theorem dX1_advance_93 : decode cX1_advance 93 = .ok (.return_, 1) := by decide +kernel
theorem dX1_nextOperation_0 : decode cX1_nextOperation 0 = .ok (.aload_n 0, 1) := by decide +kernel
theorem dX1_nextOperation_1 : decode cX1_nextOperation 1 = .ok (.getfield 43, 3) := by decide +kernel
theorem dX1_nextOperation_4 : decode cX1_nextOperation 4 = .ok (.aload_n 0, 1) := by decide +kernel
theorem dX1_nextOperation_5 : decode cX1_nextOperation 5 = .ok (.getfield 39, 3) := by decide +kernel
theorem dX1_nextOperation_8 : decode cX1_nextOperation 8 = .ok (.if_icmp .ge 25, 3) := by decide +kernel
theorem dX1_nextOperation_11 : decode cX1_nextOperation 11 = .ok (.aload_n 0, 1) := by decide +kernel
theorem dX1_nextOperation_12 : decode cX1_nextOperation 12 = .ok (.getfield 43, 3) := by decide +kernel
theorem dX1_nextOperation_15 : decode cX1_nextOperation 15 = .ok (.sipush 200, 3) := by decide +kernel
theorem dX1_nextOperation_18 : decode cX1_nextOperation 18 = .ok (.if_icmp .ge 15, 3) := by decide +kernel
theorem dX1_nextOperation_21 : decode cX1_nextOperation 21 = .ok (.aload_n 0, 1) := by decide +kernel
theorem dX1_nextOperation_22 : decode cX1_nextOperation 22 = .ok (.getfield 21, 3) := by decide +kernel
theorem dX1_nextOperation_25 : decode cX1_nextOperation 25 = .ok (.aload_n 0, 1) := by decide +kernel
theorem dX1_nextOperation_26 : decode cX1_nextOperation 26 = .ok (.getfield 43, 3) := by decide +kernel
theorem dX1_nextOperation_29 : decode cX1_nextOperation 29 = .ok (.iaload, 1) := by decide +kernel
theorem dX1_nextOperation_30 : decode cX1_nextOperation 30 = .ok (.goto 5, 3) := by decide +kernel
theorem dX1_nextOperation_33 : decode cX1_nextOperation 33 = .ok (.ldc 80, 2) := by decide +kernel
theorem dX1_nextOperation_35 : decode cX1_nextOperation 35 = .ok (.ireturn, 1) := by decide +kernel
theorem dX2_init_0 : decode cX2_init 0 = .ok (.aload_n 0, 1) := by decide +kernel
theorem dX2_init_1 : decode cX2_init 1 = .ok (.invokespecial 3, 3) := by decide +kernel
theorem dX2_init_4 : decode cX2_init 4 = .ok (.aload_n 0, 1) := by decide +kernel
theorem dX2_init_5 : decode cX2_init 5 = .ok (.bipush 24, 2) := by decide +kernel
theorem dX2_init_7 : decode cX2_init 7 = .ok (.newarray .boolean, 2) := by decide +kernel
theorem dX2_init_9 : decode cX2_init 9 = .ok (.putfield 9, 3) := by decide +kernel
theorem dX2_init_12 : decode cX2_init 12 = .ok (.aload_n 0, 1) := by decide +kernel
theorem dX2_init_13 : decode cX2_init 13 = .ok (.bipush 24, 2) := by decide +kernel
theorem dX2_init_15 : decode cX2_init 15 = .ok (.newarray .long, 2) := by decide +kernel
theorem dX2_init_17 : decode cX2_init 17 = .ok (.putfield 15, 3) := by decide +kernel
theorem dX2_init_20 : decode cX2_init 20 = .ok (.aload_n 0, 1) := by decide +kernel
theorem dX2_init_21 : decode cX2_init 21 = .ok (.bipush 24, 2) := by decide +kernel
theorem dX2_init_23 : decode cX2_init 23 = .ok (.newarray .int, 2) := by decide +kernel
theorem dX2_init_25 : decode cX2_init 25 = .ok (.putfield 19, 3) := by decide +kernel
theorem dX2_init_28 : decode cX2_init 28 = .ok (.aload_n 0, 1) := by decide +kernel
theorem dX2_init_29 : decode cX2_init 29 = .ok (.iconst 0, 1) := by decide +kernel
theorem dX2_init_30 : decode cX2_init 30 = .ok (.putfield 23, 3) := by decide +kernel
theorem dX2_init_33 : decode cX2_init 33 = .ok (.return_, 1) := by decide +kernel
theorem dX2_number_0 : decode cX2_number 0 = .ok (.aload_n 0, 1) := by decide +kernel
theorem dX2_number_1 : decode cX2_number 1 = .ok (.getfield 23, 3) := by decide +kernel
theorem dX2_number_4 : decode cX2_number 4 = .ok (.ireturn, 1) := by decide +kernel
theorem dX2_has_0 : decode cX2_has 0 = .ok (.iload_n 1, 1) := by decide +kernel
theorem dX2_has_1 : decode cX2_has 1 = .ok (.ifCond .lt 22, 3) := by decide +kernel
theorem dX2_has_4 : decode cX2_has 4 = .ok (.iload_n 1, 1) := by decide +kernel
theorem dX2_has_5 : decode cX2_has 5 = .ok (.bipush 24, 2) := by decide +kernel
theorem dX2_has_7 : decode cX2_has 7 = .ok (.if_icmp .ge 16, 3) := by decide +kernel
theorem dX2_has_10 : decode cX2_has 10 = .ok (.aload_n 0, 1) := by decide +kernel
theorem dX2_has_11 : decode cX2_has 11 = .ok (.getfield 9, 3) := by decide +kernel
theorem dX2_has_14 : decode cX2_has 14 = .ok (.iload_n 1, 1) := by decide +kernel
theorem dX2_has_15 : decode cX2_has 15 = .ok (.baload, 1) := by decide +kernel
theorem dX2_has_16 : decode cX2_has 16 = .ok (.ifCond .eq 7, 3) := by decide +kernel
theorem dX2_has_19 : decode cX2_has 19 = .ok (.iconst 1, 1) := by decide +kernel
theorem dX2_has_20 : decode cX2_has 20 = .ok (.goto 4, 3) := by decide +kernel
theorem dX2_has_23 : decode cX2_has 23 = .ok (.iconst 0, 1) := by decide +kernel
theorem dX2_has_24 : decode cX2_has 24 = .ok (.ireturn, 1) := by decide +kernel
theorem dX2_lowestFree_0 : decode cX2_lowestFree 0 = .ok (.iconst 0, 1) := by decide +kernel
theorem dX2_lowestFree_1 : decode cX2_lowestFree 1 = .ok (.istore_n 1, 1) := by decide +kernel
theorem dX2_lowestFree_2 : decode cX2_lowestFree 2 = .ok (.iload_n 1, 1) := by decide +kernel
theorem dX2_lowestFree_3 : decode cX2_lowestFree 3 = .ok (.bipush 24, 2) := by decide +kernel
theorem dX2_lowestFree_5 : decode cX2_lowestFree 5 = .ok (.if_icmp .ge 20, 3) := by decide +kernel
theorem dX2_lowestFree_8 : decode cX2_lowestFree 8 = .ok (.aload_n 0, 1) := by decide +kernel
theorem dX2_lowestFree_9 : decode cX2_lowestFree 9 = .ok (.getfield 9, 3) := by decide +kernel
theorem dX2_lowestFree_12 : decode cX2_lowestFree 12 = .ok (.iload_n 1, 1) := by decide +kernel
theorem dX2_lowestFree_13 : decode cX2_lowestFree 13 = .ok (.baload, 1) := by decide +kernel
theorem dX2_lowestFree_14 : decode cX2_lowestFree 14 = .ok (.ifCond .ne 5, 3) := by decide +kernel
theorem dX2_lowestFree_17 : decode cX2_lowestFree 17 = .ok (.iload_n 1, 1) := by decide +kernel
theorem dX2_lowestFree_18 : decode cX2_lowestFree 18 = .ok (.ireturn, 1) := by decide +kernel
theorem dX2_lowestFree_19 : decode cX2_lowestFree 19 = .ok (.iinc 1 1, 3) := by decide +kernel
theorem dX2_lowestFree_22 : decode cX2_lowestFree 22 = .ok (.goto (-20), 3) := by decide +kernel
theorem dX2_lowestFree_25 : decode cX2_lowestFree 25 = .ok (.iconst (-1), 1) := by decide +kernel
theorem dX2_lowestFree_26 : decode cX2_lowestFree 26 = .ok (.ireturn, 1) := by decide +kernel
set_option maxRecDepth 20000 in
theorem ggX2_heightOf_X2_has : GoodIn wsX2_heightOf wsX2_has := goodIn_r _ [6, 7, 8, 9, 10, 11] (by decide +kernel) (by decide +kernel)
set_option maxRecDepth 20000 in
theorem gX2_heightOf_X2_has : GoodIn wsX2_heightOf (wsV RX2 27 RX2 yX2_has wsX2_has) := goodIn_app (goodIn_of _ (by decide +kernel)) ggX2_heightOf_X2_has
theorem dX2_heightOf_0 : decode cX2_heightOf 0 = .ok (.aload_n 0, 1) := by decide +kernel
theorem dX2_heightOf_1 : decode cX2_heightOf 1 = .ok (.iload_n 1, 1) := by decide +kernel
theorem dX2_heightOf_2 : decode cX2_heightOf 2 = .ok (.invokevirtual 27, 3) := by decide +kernel
theorem dX2_heightOf_5 : decode cX2_heightOf 5 = .ok (.ifCond .eq 12, 3) := by decide +kernel
theorem dX2_heightOf_8 : decode cX2_heightOf 8 = .ok (.aload_n 0, 1) := by decide +kernel
theorem dX2_heightOf_9 : decode cX2_heightOf 9 = .ok (.getfield 15, 3) := by decide +kernel
theorem dX2_heightOf_12 : decode cX2_heightOf 12 = .ok (.iload_n 1, 1) := by decide +kernel
theorem dX2_heightOf_13 : decode cX2_heightOf 13 = .ok (.laload, 1) := by decide +kernel
theorem dX2_heightOf_14 : decode cX2_heightOf 14 = .ok (.goto 4, 3) := by decide +kernel
theorem dX2_heightOf_17 : decode cX2_heightOf 17 = .ok (.lconst 0, 1) := by decide +kernel
theorem dX2_heightOf_18 : decode cX2_heightOf 18 = .ok (.lreturn, 1) := by decide +kernel
set_option maxRecDepth 20000 in
theorem ggX2_velocityOf_X2_has : GoodIn wsX2_velocityOf wsX2_has := goodIn_r _ [6, 7, 8, 9, 10, 11] (by decide +kernel) (by decide +kernel)
set_option maxRecDepth 20000 in
theorem gX2_velocityOf_X2_has : GoodIn wsX2_velocityOf (wsV RX2 27 RX2 yX2_has wsX2_has) := goodIn_app (goodIn_of _ (by decide +kernel)) ggX2_velocityOf_X2_has
theorem dX2_velocityOf_0 : decode cX2_velocityOf 0 = .ok (.aload_n 0, 1) := by decide +kernel
theorem dX2_velocityOf_1 : decode cX2_velocityOf 1 = .ok (.iload_n 1, 1) := by decide +kernel
theorem dX2_velocityOf_2 : decode cX2_velocityOf 2 = .ok (.invokevirtual 27, 3) := by decide +kernel
theorem dX2_velocityOf_5 : decode cX2_velocityOf 5 = .ok (.ifCond .eq 12, 3) := by decide +kernel
theorem dX2_velocityOf_8 : decode cX2_velocityOf 8 = .ok (.aload_n 0, 1) := by decide +kernel
theorem dX2_velocityOf_9 : decode cX2_velocityOf 9 = .ok (.getfield 19, 3) := by decide +kernel
theorem dX2_velocityOf_12 : decode cX2_velocityOf 12 = .ok (.iload_n 1, 1) := by decide +kernel
theorem dX2_velocityOf_13 : decode cX2_velocityOf 13 = .ok (.iaload, 1) := by decide +kernel
theorem dX2_velocityOf_14 : decode cX2_velocityOf 14 = .ok (.goto 4, 3) := by decide +kernel
theorem dX2_velocityOf_17 : decode cX2_velocityOf 17 = .ok (.iconst 0, 1) := by decide +kernel
theorem dX2_velocityOf_18 : decode cX2_velocityOf 18 = .ok (.ireturn, 1) := by decide +kernel
set_option maxRecDepth 20000 in
theorem ggX2_valueOf_X2_has : GoodIn wsX2_valueOf wsX2_has := goodIn_r _ [7, 8, 9, 10, 11, 12] (by decide +kernel) (by decide +kernel)
set_option maxRecDepth 20000 in
theorem gX2_valueOf_X2_has : GoodIn wsX2_valueOf (wsV RX2 27 RX2 yX2_has wsX2_has) := goodIn_app (goodIn_of _ (by decide +kernel)) ggX2_valueOf_X2_has
theorem dX2_valueOf_0 : decode cX2_valueOf 0 = .ok (.aload_n 0, 1) := by decide +kernel
theorem dX2_valueOf_1 : decode cX2_valueOf 1 = .ok (.iload_n 1, 1) := by decide +kernel
theorem dX2_valueOf_2 : decode cX2_valueOf 2 = .ok (.invokevirtual 27, 3) := by decide +kernel
theorem dX2_valueOf_5 : decode cX2_valueOf 5 = .ok (.ifCond .eq 23, 3) := by decide +kernel
theorem dX2_valueOf_8 : decode cX2_valueOf 8 = .ok (.aload_n 0, 1) := by decide +kernel
theorem dX2_valueOf_9 : decode cX2_valueOf 9 = .ok (.getfield 15, 3) := by decide +kernel
theorem dX2_valueOf_12 : decode cX2_valueOf 12 = .ok (.iload_n 1, 1) := by decide +kernel
theorem dX2_valueOf_13 : decode cX2_valueOf 13 = .ok (.laload, 1) := by decide +kernel
theorem dX2_valueOf_14 : decode cX2_valueOf 14 = .ok (.aload_n 0, 1) := by decide +kernel
theorem dX2_valueOf_15 : decode cX2_valueOf 15 = .ok (.getfield 19, 3) := by decide +kernel
theorem dX2_valueOf_18 : decode cX2_valueOf 18 = .ok (.iload_n 1, 1) := by decide +kernel
theorem dX2_valueOf_19 : decode cX2_valueOf 19 = .ok (.iaload, 1) := by decide +kernel
theorem dX2_valueOf_20 : decode cX2_valueOf 20 = .ok (.i2l, 1) := by decide +kernel
theorem dX2_valueOf_21 : decode cX2_valueOf 21 = .ok (.iload_n 2, 1) := by decide +kernel
theorem dX2_valueOf_22 : decode cX2_valueOf 22 = .ok (.i2l, 1) := by decide +kernel
theorem dX2_valueOf_23 : decode cX2_valueOf 23 = .ok (.lmul, 1) := by decide +kernel
theorem dX2_valueOf_24 : decode cX2_valueOf 24 = .ok (.ladd, 1) := by decide +kernel
theorem dX2_valueOf_25 : decode cX2_valueOf 25 = .ok (.goto 4, 3) := by decide +kernel
theorem dX2_valueOf_28 : decode cX2_valueOf 28 = .ok (.lconst 0, 1) := by decide +kernel
theorem dX2_valueOf_29 : decode cX2_valueOf 29 = .ok (.lreturn, 1) := by decide +kernel
set_option maxRecDepth 20000 in
theorem ggX2_start_X2_setLine : GoodIn wsX2_start wsX2_setLine := goodIn_r _ [5, 6, 7, 8, 9, 10, 11, 12, 13] (by decide +kernel) (by decide +kernel)
set_option maxRecDepth 20000 in
theorem gX2_start_X2_setLine : GoodIn wsX2_start (wsV RX2 31 RX2 yX2_setLine wsX2_setLine) := goodIn_app (goodIn_of _ (by decide +kernel)) ggX2_start_X2_setLine
theorem dX2_start_0 : decode cX2_start 0 = .ok (.aload_n 0, 1) := by decide +kernel
theorem dX2_start_1 : decode cX2_start 1 = .ok (.iload_n 1, 1) := by decide +kernel
theorem dX2_start_2 : decode cX2_start 2 = .ok (.lload_n 2, 1) := by decide +kernel
theorem dX2_start_3 : decode cX2_start 3 = .ok (.iload 4, 2) := by decide +kernel
theorem dX2_start_5 : decode cX2_start 5 = .ok (.i2l, 1) := by decide +kernel
theorem dX2_start_6 : decode cX2_start 6 = .ok (.iload 5, 2) := by decide +kernel
theorem dX2_start_8 : decode cX2_start 8 = .ok (.i2l, 1) := by decide +kernel
theorem dX2_start_9 : decode cX2_start 9 = .ok (.lmul, 1) := by decide +kernel
theorem dX2_start_10 : decode cX2_start 10 = .ok (.lsub, 1) := by decide +kernel
theorem dX2_start_11 : decode cX2_start 11 = .ok (.iload 4, 2) := by decide +kernel
theorem dX2_start_13 : decode cX2_start 13 = .ok (.invokevirtual 31, 3) := by decide +kernel
theorem dX2_start_16 : decode cX2_start 16 = .ok (.return_, 1) := by decide +kernel
theorem dX2_setLine_0 : decode cX2_setLine 0 = .ok (.iload_n 1, 1) := by decide +kernel
theorem dX2_setLine_1 : decode cX2_setLine 1 = .ok (.ifCond .lt 9, 3) := by decide +kernel
theorem dX2_setLine_4 : decode cX2_setLine 4 = .ok (.iload_n 1, 1) := by decide +kernel
theorem dX2_setLine_5 : decode cX2_setLine 5 = .ok (.bipush 24, 2) := by decide +kernel
theorem dX2_setLine_7 : decode cX2_setLine 7 = .ok (.if_icmp .lt 4, 3) := by decide +kernel
theorem dX2_setLine_10 : decode cX2_setLine 10 = .ok (.return_, 1) := by decide +kernel
theorem dX2_setLine_11 : decode cX2_setLine 11 = .ok (.aload_n 0, 1) := by decide +kernel
theorem dX2_setLine_12 : decode cX2_setLine 12 = .ok (.getfield 9, 3) := by decide +kernel
theorem dX2_setLine_15 : decode cX2_setLine 15 = .ok (.iload_n 1, 1) := by decide +kernel
theorem dX2_setLine_16 : decode cX2_setLine 16 = .ok (.baload, 1) := by decide +kernel
theorem dX2_setLine_17 : decode cX2_setLine 17 = .ok (.ifCond .ne 20, 3) := by decide +kernel
theorem dX2_setLine_20 : decode cX2_setLine 20 = .ok (.aload_n 0, 1) := by decide +kernel
theorem dX2_setLine_21 : decode cX2_setLine 21 = .ok (.getfield 9, 3) := by decide +kernel
theorem dX2_setLine_24 : decode cX2_setLine 24 = .ok (.iload_n 1, 1) := by decide +kernel
theorem dX2_setLine_25 : decode cX2_setLine 25 = .ok (.iconst 1, 1) := by decide +kernel
theorem dX2_setLine_26 : decode cX2_setLine 26 = .ok (.bastore, 1) := by decide +kernel
theorem dX2_setLine_27 : decode cX2_setLine 27 = .ok (.aload_n 0, 1) := by decide +kernel
theorem dX2_setLine_28 : decode cX2_setLine 28 = .ok (.dup, 1) := by decide +kernel
theorem dX2_setLine_29 : decode cX2_setLine 29 = .ok (.getfield 23, 3) := by decide +kernel
theorem dX2_setLine_32 : decode cX2_setLine 32 = .ok (.iconst 1, 1) := by decide +kernel
theorem dX2_setLine_33 : decode cX2_setLine 33 = .ok (.iadd, 1) := by decide +kernel
theorem dX2_setLine_34 : decode cX2_setLine 34 = .ok (.putfield 23, 3) := by decide +kernel
theorem dX2_setLine_37 : decode cX2_setLine 37 = .ok (.aload_n 0, 1) := by decide +kernel
theorem dX2_setLine_38 : decode cX2_setLine 38 = .ok (.getfield 15, 3) := by decide +kernel
theorem dX2_setLine_41 : decode cX2_setLine 41 = .ok (.iload_n 1, 1) := by decide +kernel
theorem dX2_setLine_42 : decode cX2_setLine 42 = .ok (.lload_n 2, 1) := by decide +kernel
theorem dX2_setLine_43 : decode cX2_setLine 43 = .ok (.lastore, 1) := by decide +kernel
theorem dX2_setLine_44 : decode cX2_setLine 44 = .ok (.aload_n 0, 1) := by decide +kernel
theorem dX2_setLine_45 : decode cX2_setLine 45 = .ok (.getfield 19, 3) := by decide +kernel
theorem dX2_setLine_48 : decode cX2_setLine 48 = .ok (.iload_n 1, 1) := by decide +kernel
theorem dX2_setLine_49 : decode cX2_setLine 49 = .ok (.iload 4, 2) := by decide +kernel
theorem dX2_setLine_51 : decode cX2_setLine 51 = .ok (.iastore, 1) := by decide +kernel
theorem dX2_setLine_52 : decode cX2_setLine 52 = .ok (.return_, 1) := by decide +kernel
set_option maxRecDepth 20000 in
theorem ggX2_drop_X2_has : GoodIn wsX2_drop wsX2_has := goodIn_r _ [7, 1, 8, 9, 10, 11] (by decide +kernel) (by decide +kernel)
set_option maxRecDepth 20000 in
theorem gX2_drop_X2_has : GoodIn wsX2_drop (wsV RX2 27 RX2 yX2_has wsX2_has) := goodIn_app (goodIn_of _ (by decide +kernel)) ggX2_drop_X2_has
theorem dX2_drop_0 : decode cX2_drop 0 = .ok (.aload_n 0, 1) := by decide +kernel
theorem dX2_drop_1 : decode cX2_drop 1 = .ok (.iload_n 1, 1) := by decide +kernel
theorem dX2_drop_2 : decode cX2_drop 2 = .ok (.invokevirtual 27, 3) := by decide +kernel
theorem dX2_drop_5 : decode cX2_drop 5 = .ok (.ifCond .eq 20, 3) := by decide +kernel
theorem dX2_drop_8 : decode cX2_drop 8 = .ok (.aload_n 0, 1) := by decide +kernel
theorem dX2_drop_9 : decode cX2_drop 9 = .ok (.getfield 9, 3) := by decide +kernel
theorem dX2_drop_12 : decode cX2_drop 12 = .ok (.iload_n 1, 1) := by decide +kernel
theorem dX2_drop_13 : decode cX2_drop 13 = .ok (.iconst 0, 1) := by decide +kernel
theorem dX2_drop_14 : decode cX2_drop 14 = .ok (.bastore, 1) := by decide +kernel
theorem dX2_drop_15 : decode cX2_drop 15 = .ok (.aload_n 0, 1) := by decide +kernel
theorem dX2_drop_16 : decode cX2_drop 16 = .ok (.dup, 1) := by decide +kernel
theorem dX2_drop_17 : decode cX2_drop 17 = .ok (.getfield 23, 3) := by decide +kernel
theorem dX2_drop_20 : decode cX2_drop 20 = .ok (.iconst 1, 1) := by decide +kernel
theorem dX2_drop_21 : decode cX2_drop 21 = .ok (.isub, 1) := by decide +kernel
theorem dX2_drop_22 : decode cX2_drop 22 = .ok (.putfield 23, 3) := by decide +kernel
theorem dX2_drop_25 : decode cX2_drop 25 = .ok (.return_, 1) := by decide +kernel
theorem dX2_copyFrom_0 : decode cX2_copyFrom 0 = .ok (.iconst 0, 1) := by decide +kernel
theorem dX2_copyFrom_1 : decode cX2_copyFrom 1 = .ok (.istore_n 2, 1) := by decide +kernel
theorem dX2_copyFrom_2 : decode cX2_copyFrom 2 = .ok (.iload_n 2, 1) := by decide +kernel
theorem dX2_copyFrom_3 : decode cX2_copyFrom 3 = .ok (.bipush 24, 2) := by decide +kernel
theorem dX2_copyFrom_5 : decode cX2_copyFrom 5 = .ok (.if_icmp .ge 45, 3) := by decide +kernel
theorem dX2_copyFrom_8 : decode cX2_copyFrom 8 = .ok (.aload_n 0, 1) := by decide +kernel
theorem dX2_copyFrom_9 : decode cX2_copyFrom 9 = .ok (.getfield 9, 3) := by decide +kernel
theorem dX2_copyFrom_12 : decode cX2_copyFrom 12 = .ok (.iload_n 2, 1) := by decide +kernel
theorem dX2_copyFrom_13 : decode cX2_copyFrom 13 = .ok (.aload_n 1, 1) := by decide +kernel
theorem dX2_copyFrom_14 : decode cX2_copyFrom 14 = .ok (.getfield 9, 3) := by decide +kernel
theorem dX2_copyFrom_17 : decode cX2_copyFrom 17 = .ok (.iload_n 2, 1) := by decide +kernel
theorem dX2_copyFrom_18 : decode cX2_copyFrom 18 = .ok (.baload, 1) := by decide +kernel
theorem dX2_copyFrom_19 : decode cX2_copyFrom 19 = .ok (.bastore, 1) := by decide +kernel
theorem dX2_copyFrom_20 : decode cX2_copyFrom 20 = .ok (.aload_n 0, 1) := by decide +kernel
theorem dX2_copyFrom_21 : decode cX2_copyFrom 21 = .ok (.getfield 15, 3) := by decide +kernel
theorem dX2_copyFrom_24 : decode cX2_copyFrom 24 = .ok (.iload_n 2, 1) := by decide +kernel
theorem dX2_copyFrom_25 : decode cX2_copyFrom 25 = .ok (.aload_n 1, 1) := by decide +kernel
theorem dX2_copyFrom_26 : decode cX2_copyFrom 26 = .ok (.getfield 15, 3) := by decide +kernel
theorem dX2_copyFrom_29 : decode cX2_copyFrom 29 = .ok (.iload_n 2, 1) := by decide +kernel
theorem dX2_copyFrom_30 : decode cX2_copyFrom 30 = .ok (.laload, 1) := by decide +kernel
theorem dX2_copyFrom_31 : decode cX2_copyFrom 31 = .ok (.lastore, 1) := by decide +kernel
theorem dX2_copyFrom_32 : decode cX2_copyFrom 32 = .ok (.aload_n 0, 1) := by decide +kernel
theorem dX2_copyFrom_33 : decode cX2_copyFrom 33 = .ok (.getfield 19, 3) := by decide +kernel
theorem dX2_copyFrom_36 : decode cX2_copyFrom 36 = .ok (.iload_n 2, 1) := by decide +kernel
theorem dX2_copyFrom_37 : decode cX2_copyFrom 37 = .ok (.aload_n 1, 1) := by decide +kernel
theorem dX2_copyFrom_38 : decode cX2_copyFrom 38 = .ok (.getfield 19, 3) := by decide +kernel
theorem dX2_copyFrom_41 : decode cX2_copyFrom 41 = .ok (.iload_n 2, 1) := by decide +kernel
theorem dX2_copyFrom_42 : decode cX2_copyFrom 42 = .ok (.iaload, 1) := by decide +kernel
theorem dX2_copyFrom_43 : decode cX2_copyFrom 43 = .ok (.iastore, 1) := by decide +kernel
theorem dX2_copyFrom_44 : decode cX2_copyFrom 44 = .ok (.iinc 2 1, 3) := by decide +kernel
theorem dX2_copyFrom_47 : decode cX2_copyFrom 47 = .ok (.goto (-45), 3) := by decide +kernel
theorem dX2_copyFrom_50 : decode cX2_copyFrom 50 = .ok (.aload_n 0, 1) := by decide +kernel
theorem dX2_copyFrom_51 : decode cX2_copyFrom 51 = .ok (.aload_n 1, 1) := by decide +kernel
theorem dX2_copyFrom_52 : decode cX2_copyFrom 52 = .ok (.getfield 23, 3) := by decide +kernel
theorem dX2_copyFrom_55 : decode cX2_copyFrom 55 = .ok (.putfield 23, 3) := by decide +kernel
theorem dX2_copyFrom_58 : decode cX2_copyFrom 58 = .ok (.return_, 1) := by decide +kernel
set_option maxRecDepth 20000 in
theorem ggX2_isBefore_X2_valueOf : GoodIn wsX2_isBefore wsX2_valueOf := goodIn_r _ [5, 6, 7, 8, 9, 10, 4, 11, 12, 13, 14, 15, 16] (by decide +kernel) (by decide +kernel)
set_option maxRecDepth 20000 in
theorem gX2_isBefore_X2_valueOf : GoodIn wsX2_isBefore (wsV RX2 35 RX2 yX2_valueOf wsX2_valueOf) := goodIn_app (goodIn_of _ (by decide +kernel)) ggX2_isBefore_X2_valueOf
theorem dX2_isBefore_0 : decode cX2_isBefore 0 = .ok (.aload_n 0, 1) := by decide +kernel
theorem dX2_isBefore_1 : decode cX2_isBefore 1 = .ok (.iload_n 1, 1) := by decide +kernel
theorem dX2_isBefore_2 : decode cX2_isBefore 2 = .ok (.iload_n 3, 1) := by decide +kernel
theorem dX2_isBefore_3 : decode cX2_isBefore 3 = .ok (.invokevirtual 35, 3) := by decide +kernel
theorem dX2_isBefore_6 : decode cX2_isBefore 6 = .ok (.lstore 4, 2) := by decide +kernel
theorem dX2_isBefore_8 : decode cX2_isBefore 8 = .ok (.aload_n 0, 1) := by decide +kernel
theorem dX2_isBefore_9 : decode cX2_isBefore 9 = .ok (.iload_n 2, 1) := by decide +kernel
theorem dX2_isBefore_10 : decode cX2_isBefore 10 = .ok (.iload_n 3, 1) := by decide +kernel
theorem dX2_isBefore_11 : decode cX2_isBefore 11 = .ok (.invokevirtual 35, 3) := by decide +kernel
theorem dX2_isBefore_14 : decode cX2_isBefore 14 = .ok (.lstore 6, 2) := by decide +kernel
theorem dX2_isBefore_16 : decode cX2_isBefore 16 = .ok (.lload 4, 2) := by decide +kernel
theorem dX2_isBefore_18 : decode cX2_isBefore 18 = .ok (.lload 6, 2) := by decide +kernel
theorem dX2_isBefore_20 : decode cX2_isBefore 20 = .ok (.lcmp, 1) := by decide +kernel
theorem dX2_isBefore_21 : decode cX2_isBefore 21 = .ok (.ifCond .lt 16, 3) := by decide +kernel
theorem dX2_isBefore_24 : decode cX2_isBefore 24 = .ok (.lload 4, 2) := by decide +kernel
theorem dX2_isBefore_26 : decode cX2_isBefore 26 = .ok (.lload 6, 2) := by decide +kernel
theorem dX2_isBefore_28 : decode cX2_isBefore 28 = .ok (.lcmp, 1) := by decide +kernel
theorem dX2_isBefore_29 : decode cX2_isBefore 29 = .ok (.ifCond .ne 12, 3) := by decide +kernel
theorem dX2_isBefore_32 : decode cX2_isBefore 32 = .ok (.iload_n 1, 1) := by decide +kernel
theorem dX2_isBefore_33 : decode cX2_isBefore 33 = .ok (.iload_n 2, 1) := by decide +kernel
theorem dX2_isBefore_34 : decode cX2_isBefore 34 = .ok (.if_icmp .ge 7, 3) := by decide +kernel
theorem dX2_isBefore_37 : decode cX2_isBefore 37 = .ok (.iconst 1, 1) := by decide +kernel
theorem dX2_isBefore_38 : decode cX2_isBefore 38 = .ok (.goto 4, 3) := by decide +kernel
theorem dX2_isBefore_41 : decode cX2_isBefore 41 = .ok (.iconst 0, 1) := by decide +kernel
theorem dX2_isBefore_42 : decode cX2_isBefore 42 = .ok (.ireturn, 1) := by decide +kernel
set_option maxRecDepth 20000 in
theorem ggX2_endOfOrder_X2_isBefore : GoodIn wsX2_endOfOrder wsX2_isBefore := goodIn_r _ [7, 8, 9, 10, 6, 11, 12, 13, 14, 15, 16, 17, 18, 23, 24, 25, 26] (by decide +kernel) (by decide +kernel)
set_option maxRecDepth 20000 in
theorem gX2_endOfOrder_X2_isBefore : GoodIn wsX2_endOfOrder (wsV RX2 39 RX2 yX2_isBefore wsX2_isBefore) := goodIn_app (goodIn_of _ (by decide +kernel)) ggX2_endOfOrder_X2_isBefore
set_option maxRecDepth 20000 in
theorem ggX2_endOfOrder_X2_velocityOf : GoodIn wsX2_endOfOrder wsX2_velocityOf := goodIn_r _ [22, 13, 14, 15, 16, 6, 17, 18, 23, 24, 25, 26] (by decide +kernel) (by decide +kernel)
set_option maxRecDepth 20000 in
theorem gX2_endOfOrder_X2_velocityOf : GoodIn wsX2_endOfOrder (wsV RX2 43 RX2 yX2_velocityOf wsX2_velocityOf) := goodIn_app (goodIn_of _ (by decide +kernel)) ggX2_endOfOrder_X2_velocityOf
set_option maxRecDepth 20000 in
theorem ggX2_endOfOrder_X2_valueOf : GoodIn wsX2_endOfOrder wsX2_valueOf := goodIn_r _ [11, 12, 13, 14, 15, 16, 6, 17, 18, 23, 24, 25, 26] (by decide +kernel) (by decide +kernel)
set_option maxRecDepth 20000 in
theorem gX2_endOfOrder_X2_valueOf : GoodIn wsX2_endOfOrder (wsV RX2 35 RX2 yX2_valueOf wsX2_valueOf) := goodIn_app (goodIn_of _ (by decide +kernel)) ggX2_endOfOrder_X2_valueOf
theorem dX2_endOfOrder_0 : decode cX2_endOfOrder 0 = .ok (.aload_n 0, 1) := by decide +kernel
theorem dX2_endOfOrder_1 : decode cX2_endOfOrder 1 = .ok (.iload_n 1, 1) := by decide +kernel
theorem dX2_endOfOrder_2 : decode cX2_endOfOrder 2 = .ok (.iload_n 2, 1) := by decide +kernel
theorem dX2_endOfOrder_3 : decode cX2_endOfOrder 3 = .ok (.iload_n 3, 1) := by decide +kernel
theorem dX2_endOfOrder_4 : decode cX2_endOfOrder 4 = .ok (.invokevirtual 39, 3) := by decide +kernel
theorem dX2_endOfOrder_7 : decode cX2_endOfOrder 7 = .ok (.ifCond .ne 5, 3) := by decide +kernel
theorem dX2_endOfOrder_10 : decode cX2_endOfOrder 10 = .ok (.iload_n 3, 1) := by decide +kernel
theorem dX2_endOfOrder_11 : decode cX2_endOfOrder 11 = .ok (.ireturn, 1) := by decide +kernel
theorem dX2_endOfOrder_12 : decode cX2_endOfOrder 12 = .ok (.aload_n 0, 1) := by decide +kernel
theorem dX2_endOfOrder_13 : decode cX2_endOfOrder 13 = .ok (.iload_n 1, 1) := by decide +kernel
theorem dX2_endOfOrder_14 : decode cX2_endOfOrder 14 = .ok (.invokevirtual 43, 3) := by decide +kernel
theorem dX2_endOfOrder_17 : decode cX2_endOfOrder 17 = .ok (.i2l, 1) := by decide +kernel
theorem dX2_endOfOrder_18 : decode cX2_endOfOrder 18 = .ok (.aload_n 0, 1) := by decide +kernel
theorem dX2_endOfOrder_19 : decode cX2_endOfOrder 19 = .ok (.iload_n 2, 1) := by decide +kernel
theorem dX2_endOfOrder_20 : decode cX2_endOfOrder 20 = .ok (.invokevirtual 43, 3) := by decide +kernel
theorem dX2_endOfOrder_23 : decode cX2_endOfOrder 23 = .ok (.i2l, 1) := by decide +kernel
theorem dX2_endOfOrder_24 : decode cX2_endOfOrder 24 = .ok (.lsub, 1) := by decide +kernel
theorem dX2_endOfOrder_25 : decode cX2_endOfOrder 25 = .ok (.lstore 4, 2) := by decide +kernel
theorem dX2_endOfOrder_27 : decode cX2_endOfOrder 27 = .ok (.lload 4, 2) := by decide +kernel
theorem dX2_endOfOrder_29 : decode cX2_endOfOrder 29 = .ok (.lconst 0, 1) := by decide +kernel
theorem dX2_endOfOrder_30 : decode cX2_endOfOrder 30 = .ok (.lcmp, 1) := by decide +kernel
theorem dX2_endOfOrder_31 : decode cX2_endOfOrder 31 = .ok (.ifCond .gt 6, 3) := by decide +kernel
theorem dX2_endOfOrder_34 : decode cX2_endOfOrder 34 = .ok (.ldc 47, 2) := by decide +kernel
theorem dX2_endOfOrder_36 : decode cX2_endOfOrder 36 = .ok (.ireturn, 1) := by decide +kernel
theorem dX2_endOfOrder_37 : decode cX2_endOfOrder 37 = .ok (.aload_n 0, 1) := by decide +kernel
theorem dX2_endOfOrder_38 : decode cX2_endOfOrder 38 = .ok (.iload_n 2, 1) := by decide +kernel
theorem dX2_endOfOrder_39 : decode cX2_endOfOrder 39 = .ok (.iload_n 3, 1) := by decide +kernel
theorem dX2_endOfOrder_40 : decode cX2_endOfOrder 40 = .ok (.invokevirtual 35, 3) := by decide +kernel
theorem dX2_endOfOrder_43 : decode cX2_endOfOrder 43 = .ok (.aload_n 0, 1) := by decide +kernel
theorem dX2_endOfOrder_44 : decode cX2_endOfOrder 44 = .ok (.iload_n 1, 1) := by decide +kernel
theorem dX2_endOfOrder_45 : decode cX2_endOfOrder 45 = .ok (.iload_n 3, 1) := by decide +kernel
theorem dX2_endOfOrder_46 : decode cX2_endOfOrder 46 = .ok (.invokevirtual 35, 3) := by decide +kernel
theorem dX2_endOfOrder_49 : decode cX2_endOfOrder 49 = .ok (.lsub, 1) := by decide +kernel
theorem dX2_endOfOrder_50 : decode cX2_endOfOrder 50 = .ok (.iload_n 1, 1) := by decide +kernel
theorem dX2_endOfOrder_51 : decode cX2_endOfOrder 51 = .ok (.iload_n 2, 1) := by decide +kernel
theorem dX2_endOfOrder_52 : decode cX2_endOfOrder 52 = .ok (.if_icmp .ge 7, 3) := by decide +kernel
theorem dX2_endOfOrder_55 : decode cX2_endOfOrder 55 = .ok (.iconst 1, 1) := by decide +kernel
theorem dX2_endOfOrder_56 : decode cX2_endOfOrder 56 = .ok (.goto 4, 3) := by decide +kernel
theorem dX2_endOfOrder_59 : decode cX2_endOfOrder 59 = .ok (.iconst 0, 1) := by decide +kernel
theorem dX2_endOfOrder_60 : decode cX2_endOfOrder 60 = .ok (.i2l, 1) := by decide +kernel
theorem dX2_endOfOrder_61 : decode cX2_endOfOrder 61 = .ok (.ladd, 1) := by decide +kernel
theorem dX2_endOfOrder_62 : decode cX2_endOfOrder 62 = .ok (.lstore 6, 2) := by decide +kernel
theorem dX2_endOfOrder_64 : decode cX2_endOfOrder 64 = .ok (.iload_n 3, 1) := by decide +kernel
theorem dX2_endOfOrder_65 : decode cX2_endOfOrder 65 = .ok (.i2l, 1) := by decide +kernel
theorem dX2_endOfOrder_66 : decode cX2_endOfOrder 66 = .ok (.lload 6, 2) := by decide +kernel
theorem dX2_endOfOrder_68 : decode cX2_endOfOrder 68 = .ok (.lload 4, 2) := by decide +kernel
theorem dX2_endOfOrder_70 : decode cX2_endOfOrder 70 = .ok (.ladd, 1) := by decide +kernel
theorem dX2_endOfOrder_71 : decode cX2_endOfOrder 71 = .ok (.lconst 1, 1) := by decide +kernel
theorem dX2_endOfOrder_72 : decode cX2_endOfOrder 72 = .ok (.lsub, 1) := by decide +kernel
theorem dX2_endOfOrder_73 : decode cX2_endOfOrder 73 = .ok (.lload 4, 2) := by decide +kernel
theorem dX2_endOfOrder_75 : decode cX2_endOfOrder 75 = .ok (.ldiv, 1) := by decide +kernel
theorem dX2_endOfOrder_76 : decode cX2_endOfOrder 76 = .ok (.ladd, 1) := by decide +kernel
theorem dX2_endOfOrder_77 : decode cX2_endOfOrder 77 = .ok (.lstore 8, 2) := by decide +kernel
theorem dX2_endOfOrder_79 : decode cX2_endOfOrder 79 = .ok (.lload 8, 2) := by decide +kernel
theorem dX2_endOfOrder_81 : decode cX2_endOfOrder 81 = .ok (.ldc2_w 48, 3) := by decide +kernel
theorem dX2_endOfOrder_84 : decode cX2_endOfOrder 84 = .ok (.lcmp, 1) := by decide +kernel
theorem dX2_endOfOrder_85 : decode cX2_endOfOrder 85 = .ok (.ifCond .le 8, 3) := by decide +kernel
theorem dX2_endOfOrder_88 : decode cX2_endOfOrder 88 = .ok (.ldc 47, 2) := by decide +kernel
theorem dX2_endOfOrder_90 : decode cX2_endOfOrder 90 = .ok (.goto 6, 3) := by decide +kernel
theorem dX2_endOfOrder_93 : decode cX2_endOfOrder 93 = .ok (.lload 8, 2) := by decide +kernel
theorem dX2_endOfOrder_95 : decode cX2_endOfOrder 95 = .ok (.l2i, 1) := by decide +kernel
theorem dX2_endOfOrder_96 : decode cX2_endOfOrder 96 = .ok (.ireturn, 1) := by decide +kernel
set_option maxRecDepth 20000 in
theorem ggX2_firstAt_X2_isBefore : GoodIn wsX2_firstAt wsX2_isBefore := goodIn_r _ [6, 7, 8, 9, 5, 10, 11, 12, 13, 14, 15, 16, 1, 17, 18, 19, 20] (by decide +kernel) (by decide +kernel)
set_option maxRecDepth 20000 in
theorem gX2_firstAt_X2_isBefore : GoodIn wsX2_firstAt (wsV RX2 39 RX2 yX2_isBefore wsX2_isBefore) := goodIn_app (goodIn_of _ (by decide +kernel)) ggX2_firstAt_X2_isBefore
theorem dX2_firstAt_0 : decode cX2_firstAt 0 = .ok (.iconst (-1), 1) := by decide +kernel
theorem dX2_firstAt_1 : decode cX2_firstAt 1 = .ok (.istore_n 2, 1) := by decide +kernel
theorem dX2_firstAt_2 : decode cX2_firstAt 2 = .ok (.iconst 0, 1) := by decide +kernel
theorem dX2_firstAt_3 : decode cX2_firstAt 3 = .ok (.istore_n 3, 1) := by decide +kernel
theorem dX2_firstAt_4 : decode cX2_firstAt 4 = .ok (.iload_n 3, 1) := by decide +kernel
theorem dX2_firstAt_5 : decode cX2_firstAt 5 = .ok (.bipush 24, 2) := by decide +kernel
theorem dX2_firstAt_7 : decode cX2_firstAt 7 = .ok (.if_icmp .ge 35, 3) := by decide +kernel
theorem dX2_firstAt_10 : decode cX2_firstAt 10 = .ok (.aload_n 0, 1) := by decide +kernel
theorem dX2_firstAt_11 : decode cX2_firstAt 11 = .ok (.getfield 9, 3) := by decide +kernel
theorem dX2_firstAt_14 : decode cX2_firstAt 14 = .ok (.iload_n 3, 1) := by decide +kernel
theorem dX2_firstAt_15 : decode cX2_firstAt 15 = .ok (.baload, 1) := by decide +kernel
theorem dX2_firstAt_16 : decode cX2_firstAt 16 = .ok (.ifCond .eq 20, 3) := by decide +kernel
theorem dX2_firstAt_19 : decode cX2_firstAt 19 = .ok (.iload_n 2, 1) := by decide +kernel
theorem dX2_firstAt_20 : decode cX2_firstAt 20 = .ok (.iconst (-1), 1) := by decide +kernel
theorem dX2_firstAt_21 : decode cX2_firstAt 21 = .ok (.if_icmp .eq 13, 3) := by decide +kernel
theorem dX2_firstAt_24 : decode cX2_firstAt 24 = .ok (.aload_n 0, 1) := by decide +kernel
theorem dX2_firstAt_25 : decode cX2_firstAt 25 = .ok (.iload_n 3, 1) := by decide +kernel
theorem dX2_firstAt_26 : decode cX2_firstAt 26 = .ok (.iload_n 2, 1) := by decide +kernel
theorem dX2_firstAt_27 : decode cX2_firstAt 27 = .ok (.iload_n 1, 1) := by decide +kernel
theorem dX2_firstAt_28 : decode cX2_firstAt 28 = .ok (.invokevirtual 39, 3) := by decide +kernel
theorem dX2_firstAt_31 : decode cX2_firstAt 31 = .ok (.ifCond .eq 5, 3) := by decide +kernel
theorem dX2_firstAt_34 : decode cX2_firstAt 34 = .ok (.iload_n 3, 1) := by decide +kernel
theorem dX2_firstAt_35 : decode cX2_firstAt 35 = .ok (.istore_n 2, 1) := by decide +kernel
theorem dX2_firstAt_36 : decode cX2_firstAt 36 = .ok (.iinc 3 1, 3) := by decide +kernel
theorem dX2_firstAt_39 : decode cX2_firstAt 39 = .ok (.goto (-35), 3) := by decide +kernel
theorem dX2_firstAt_42 : decode cX2_firstAt 42 = .ok (.iload_n 2, 1) := by decide +kernel
theorem dX2_firstAt_43 : decode cX2_firstAt 43 = .ok (.ireturn, 1) := by decide +kernel
set_option maxRecDepth 20000 in
theorem ggX2_nextFirst_X2_firstAt : GoodIn wsX2_nextFirst wsX2_firstAt := goodIn_r _ [11, 2, 12, 13, 14, 10, 15, 16, 17, 18, 19, 20, 21, 22, 23, 24, 25, 35, 36, 37, 38] (by decide +kernel) (by decide +kernel)
set_option maxRecDepth 20000 in
theorem gX2_nextFirst_X2_firstAt : GoodIn wsX2_nextFirst (wsV RX2 50 RX2 yX2_firstAt wsX2_firstAt) := goodIn_app (goodIn_of _ (by decide +kernel)) ggX2_nextFirst_X2_firstAt
set_option maxRecDepth 20000 in
theorem ggX2_nextFirst_X2_endOfOrder : GoodIn wsX2_nextFirst wsX2_endOfOrder := goodIn_r _ [29, 1, 30, 12, 13, 14, 10, 15, 16, 17, 18, 19, 20, 21, 22, 23, 24, 25, 2, 31, 32, 33, 34, 35, 36, 37, 38] (by decide +kernel) (by decide +kernel)
set_option maxRecDepth 20000 in
theorem gX2_nextFirst_X2_endOfOrder : GoodIn wsX2_nextFirst (wsV RX2 53 RX2 yX2_endOfOrder wsX2_endOfOrder) := goodIn_app (goodIn_of _ (by decide +kernel)) ggX2_nextFirst_X2_endOfOrder
theorem dX2_nextFirst_0 : decode cX2_nextFirst 0 = .ok (.aload_n 0, 1) := by decide +kernel
theorem dX2_nextFirst_1 : decode cX2_nextFirst 1 = .ok (.iload_n 1, 1) := by decide +kernel
theorem dX2_nextFirst_2 : decode cX2_nextFirst 2 = .ok (.invokevirtual 50, 3) := by decide +kernel
theorem dX2_nextFirst_5 : decode cX2_nextFirst 5 = .ok (.istore_n 2, 1) := by decide +kernel
theorem dX2_nextFirst_6 : decode cX2_nextFirst 6 = .ok (.ldc 47, 2) := by decide +kernel
theorem dX2_nextFirst_8 : decode cX2_nextFirst 8 = .ok (.istore_n 3, 1) := by decide +kernel
theorem dX2_nextFirst_9 : decode cX2_nextFirst 9 = .ok (.iconst 0, 1) := by decide +kernel
theorem dX2_nextFirst_10 : decode cX2_nextFirst 10 = .ok (.istore 4, 2) := by decide +kernel
theorem dX2_nextFirst_12 : decode cX2_nextFirst 12 = .ok (.iload 4, 2) := by decide +kernel
theorem dX2_nextFirst_14 : decode cX2_nextFirst 14 = .ok (.bipush 24, 2) := by decide +kernel
theorem dX2_nextFirst_16 : decode cX2_nextFirst 16 = .ok (.if_icmp .ge 38, 3) := by decide +kernel
theorem dX2_nextFirst_19 : decode cX2_nextFirst 19 = .ok (.aload_n 0, 1) := by decide +kernel
theorem dX2_nextFirst_20 : decode cX2_nextFirst 20 = .ok (.getfield 9, 3) := by decide +kernel
theorem dX2_nextFirst_23 : decode cX2_nextFirst 23 = .ok (.iload 4, 2) := by decide +kernel
theorem dX2_nextFirst_25 : decode cX2_nextFirst 25 = .ok (.baload, 1) := by decide +kernel
theorem dX2_nextFirst_26 : decode cX2_nextFirst 26 = .ok (.ifCond .eq 22, 3) := by decide +kernel
theorem dX2_nextFirst_29 : decode cX2_nextFirst 29 = .ok (.iload 4, 2) := by decide +kernel
theorem dX2_nextFirst_31 : decode cX2_nextFirst 31 = .ok (.iload_n 2, 1) := by decide +kernel
theorem dX2_nextFirst_32 : decode cX2_nextFirst 32 = .ok (.if_icmp .eq 16, 3) := by decide +kernel
theorem dX2_nextFirst_35 : decode cX2_nextFirst 35 = .ok (.iload_n 3, 1) := by decide +kernel
theorem dX2_nextFirst_36 : decode cX2_nextFirst 36 = .ok (.aload_n 0, 1) := by decide +kernel
theorem dX2_nextFirst_37 : decode cX2_nextFirst 37 = .ok (.iload_n 2, 1) := by decide +kernel
theorem dX2_nextFirst_38 : decode cX2_nextFirst 38 = .ok (.iload 4, 2) := by decide +kernel
theorem dX2_nextFirst_40 : decode cX2_nextFirst 40 = .ok (.iload_n 1, 1) := by decide +kernel
theorem dX2_nextFirst_41 : decode cX2_nextFirst 41 = .ok (.invokevirtual 53, 3) := by decide +kernel
theorem dX2_nextFirst_44 : decode cX2_nextFirst 44 = .ok (.invokestatic 57, 3) := by decide +kernel
theorem dX2_nextFirst_47 : decode cX2_nextFirst 47 = .ok (.istore_n 3, 1) := by decide +kernel
theorem dX2_nextFirst_48 : decode cX2_nextFirst 48 = .ok (.iinc 4 1, 3) := by decide +kernel
theorem dX2_nextFirst_51 : decode cX2_nextFirst 51 = .ok (.goto (-39), 3) := by decide +kernel
theorem dX2_nextFirst_54 : decode cX2_nextFirst 54 = .ok (.iload_n 3, 1) := by decide +kernel
theorem dX2_nextFirst_55 : decode cX2_nextFirst 55 = .ok (.ireturn, 1) := by decide +kernel
set_option maxRecDepth 20000 in
theorem ggX2_rankOf_X2_isBefore : GoodIn wsX2_rankOf wsX2_isBefore := goodIn_r _ [6, 7, 8, 9, 5, 10, 11, 12, 13, 14, 15, 16, 1, 17, 18, 19, 20] (by decide +kernel) (by decide +kernel)
set_option maxRecDepth 20000 in
theorem gX2_rankOf_X2_isBefore : GoodIn wsX2_rankOf (wsV RX2 39 RX2 yX2_isBefore wsX2_isBefore) := goodIn_app (goodIn_of _ (by decide +kernel)) ggX2_rankOf_X2_isBefore
theorem dX2_rankOf_0 : decode cX2_rankOf 0 = .ok (.iconst 0, 1) := by decide +kernel
theorem dX2_rankOf_1 : decode cX2_rankOf 1 = .ok (.istore_n 3, 1) := by decide +kernel
theorem dX2_rankOf_2 : decode cX2_rankOf 2 = .ok (.iconst 0, 1) := by decide +kernel
theorem dX2_rankOf_3 : decode cX2_rankOf 3 = .ok (.istore 4, 2) := by decide +kernel
theorem dX2_rankOf_5 : decode cX2_rankOf 5 = .ok (.iload 4, 2) := by decide +kernel
theorem dX2_rankOf_7 : decode cX2_rankOf 7 = .ok (.bipush 24, 2) := by decide +kernel
theorem dX2_rankOf_9 : decode cX2_rankOf 9 = .ok (.if_icmp .ge 33, 3) := by decide +kernel
theorem dX2_rankOf_12 : decode cX2_rankOf 12 = .ok (.aload_n 0, 1) := by decide +kernel
theorem dX2_rankOf_13 : decode cX2_rankOf 13 = .ok (.getfield 9, 3) := by decide +kernel
theorem dX2_rankOf_16 : decode cX2_rankOf 16 = .ok (.iload 4, 2) := by decide +kernel
theorem dX2_rankOf_18 : decode cX2_rankOf 18 = .ok (.baload, 1) := by decide +kernel
theorem dX2_rankOf_19 : decode cX2_rankOf 19 = .ok (.ifCond .eq 17, 3) := by decide +kernel
theorem dX2_rankOf_22 : decode cX2_rankOf 22 = .ok (.aload_n 0, 1) := by decide +kernel
theorem dX2_rankOf_23 : decode cX2_rankOf 23 = .ok (.iload 4, 2) := by decide +kernel
theorem dX2_rankOf_25 : decode cX2_rankOf 25 = .ok (.iload_n 1, 1) := by decide +kernel
theorem dX2_rankOf_26 : decode cX2_rankOf 26 = .ok (.iload_n 2, 1) := by decide +kernel
theorem dX2_rankOf_27 : decode cX2_rankOf 27 = .ok (.invokevirtual 39, 3) := by decide +kernel
theorem dX2_rankOf_30 : decode cX2_rankOf 30 = .ok (.ifCond .eq 6, 3) := by decide +kernel
theorem dX2_rankOf_33 : decode cX2_rankOf 33 = .ok (.iinc 3 1, 3) := by decide +kernel
theorem dX2_rankOf_36 : decode cX2_rankOf 36 = .ok (.iinc 4 1, 3) := by decide +kernel
theorem dX2_rankOf_39 : decode cX2_rankOf 39 = .ok (.goto (-34), 3) := by decide +kernel
theorem dX2_rankOf_42 : decode cX2_rankOf 42 = .ok (.iload_n 3, 1) := by decide +kernel
theorem dX2_rankOf_43 : decode cX2_rankOf 43 = .ok (.ireturn, 1) := by decide +kernel
set_option maxRecDepth 20000 in
theorem ggX2_pointOfRank_X2_rankOf : GoodIn wsX2_pointOfRank wsX2_rankOf := goodIn_r _ [6, 1, 7, 8, 9, 5, 10, 11, 12, 13, 14, 15, 16, 17, 18, 19, 20, 21, 22, 23, 24] (by decide +kernel) (by decide +kernel)
set_option maxRecDepth 20000 in
theorem gX2_pointOfRank_X2_rankOf : GoodIn wsX2_pointOfRank (wsV RX2 63 RX2 yX2_rankOf wsX2_rankOf) := goodIn_app (goodIn_of _ (by decide +kernel)) ggX2_pointOfRank_X2_rankOf
theorem dX2_pointOfRank_0 : decode cX2_pointOfRank 0 = .ok (.iconst 0, 1) := by decide +kernel
theorem dX2_pointOfRank_1 : decode cX2_pointOfRank 1 = .ok (.istore_n 3, 1) := by decide +kernel
theorem dX2_pointOfRank_2 : decode cX2_pointOfRank 2 = .ok (.iload_n 3, 1) := by decide +kernel
theorem dX2_pointOfRank_3 : decode cX2_pointOfRank 3 = .ok (.bipush 24, 2) := by decide +kernel
theorem dX2_pointOfRank_5 : decode cX2_pointOfRank 5 = .ok (.if_icmp .ge 30, 3) := by decide +kernel
theorem dX2_pointOfRank_8 : decode cX2_pointOfRank 8 = .ok (.aload_n 0, 1) := by decide +kernel
theorem dX2_pointOfRank_9 : decode cX2_pointOfRank 9 = .ok (.getfield 9, 3) := by decide +kernel
theorem dX2_pointOfRank_12 : decode cX2_pointOfRank 12 = .ok (.iload_n 3, 1) := by decide +kernel
theorem dX2_pointOfRank_13 : decode cX2_pointOfRank 13 = .ok (.baload, 1) := by decide +kernel
theorem dX2_pointOfRank_14 : decode cX2_pointOfRank 14 = .ok (.ifCond .eq 15, 3) := by decide +kernel
theorem dX2_pointOfRank_17 : decode cX2_pointOfRank 17 = .ok (.aload_n 0, 1) := by decide +kernel
theorem dX2_pointOfRank_18 : decode cX2_pointOfRank 18 = .ok (.iload_n 3, 1) := by decide +kernel
theorem dX2_pointOfRank_19 : decode cX2_pointOfRank 19 = .ok (.iload_n 2, 1) := by decide +kernel
theorem dX2_pointOfRank_20 : decode cX2_pointOfRank 20 = .ok (.invokevirtual 63, 3) := by decide +kernel
theorem dX2_pointOfRank_23 : decode cX2_pointOfRank 23 = .ok (.iload_n 1, 1) := by decide +kernel
theorem dX2_pointOfRank_24 : decode cX2_pointOfRank 24 = .ok (.if_icmp .ne 5, 3) := by decide +kernel
theorem dX2_pointOfRank_27 : decode cX2_pointOfRank 27 = .ok (.iload_n 3, 1) := by decide +kernel
theorem dX2_pointOfRank_28 : decode cX2_pointOfRank 28 = .ok (.ireturn, 1) := by decide +kernel
theorem dX2_pointOfRank_29 : decode cX2_pointOfRank 29 = .ok (.iinc 3 1, 3) := by decide +kernel
theorem dX2_pointOfRank_32 : decode cX2_pointOfRank 32 = .ok (.goto (-30), 3) := by decide +kernel
theorem dX2_pointOfRank_35 : decode cX2_pointOfRank 35 = .ok (.iconst (-1), 1) := by decide +kernel
theorem dX2_pointOfRank_36 : decode cX2_pointOfRank 36 = .ok (.ireturn, 1) := by decide +kernel
set_option maxRecDepth 20000 in
theorem ggX3_init_X0_init : GoodIn wsX3_init wsX0_init := goodIn_r _ [19, 20, 2, 3, 21, 22, 23, 24, 13, 25, 26, 27, 28, 29, 30, 31, 32, 33, 34, 35, 36, 37, 38, 39, 40, 80, 81, 82, 83, 57, 58, 59, 60, 61, 62, 63] (by decide +kernel) (by decide +kernel)
set_option maxRecDepth 20000 in
theorem gX3_init_X0_init : GoodIn wsX3_init (wsX0_init) := ggX3_init_X0_init
set_option maxRecDepth 20000 in
theorem ggX3_init_X1_init : GoodIn wsX3_init wsX1_init := goodIn_r _ [43, 44, 2, 3, 45, 22, 23, 46, 47, 13, 48, 49, 35, 50, 37, 51, 52, 53, 54, 55, 56, 32, 33, 34, 36, 38, 39, 40, 80, 81, 82, 83, 70, 71, 72, 73, 74, 75, 76, 77, 78, 79] (by decide +kernel) (by decide +kernel)
set_option maxRecDepth 20000 in
theorem gX3_init_X1_init : GoodIn wsX3_init (wsX1_init) := ggX3_init_X1_init
theorem dX3_init_0 : decode cX3_init 0 = .ok (.aload_n 0, 1) := by decide +kernel
theorem dX3_init_1 : decode cX3_init 1 = .ok (.invokespecial 3, 3) := by decide +kernel
theorem dX3_init_4 : decode cX3_init 4 = .ok (.aload_n 0, 1) := by decide +kernel
theorem dX3_init_5 : decode cX3_init 5 = .ok (.new 9, 3) := by decide +kernel
theorem dX3_init_8 : decode cX3_init 8 = .ok (.dup, 1) := by decide +kernel
theorem dX3_init_9 : decode cX3_init 9 = .ok (.invokespecial 11, 3) := by decide +kernel
theorem dX3_init_12 : decode cX3_init 12 = .ok (.putfield 12, 3) := by decide +kernel
theorem dX3_init_15 : decode cX3_init 15 = .ok (.aload_n 0, 1) := by decide +kernel
theorem dX3_init_16 : decode cX3_init 16 = .ok (.aload_n 0, 1) := by decide +kernel
theorem dX3_init_17 : decode cX3_init 17 = .ok (.getfield 12, 3) := by decide +kernel
theorem dX3_init_20 : decode cX3_init 20 = .ok (.getfield 16, 3) := by decide +kernel
theorem dX3_init_23 : decode cX3_init 23 = .ok (.putfield 20, 3) := by decide +kernel
theorem dX3_init_26 : decode cX3_init 26 = .ok (.aload_n 0, 1) := by decide +kernel
theorem dX3_init_27 : decode cX3_init 27 = .ok (.new 21, 3) := by decide +kernel
theorem dX3_init_30 : decode cX3_init 30 = .ok (.dup, 1) := by decide +kernel
theorem dX3_init_31 : decode cX3_init 31 = .ok (.invokespecial 23, 3) := by decide +kernel
theorem dX3_init_34 : decode cX3_init 34 = .ok (.putfield 24, 3) := by decide +kernel
theorem dX3_init_37 : decode cX3_init 37 = .ok (.aload_n 0, 1) := by decide +kernel
theorem dX3_init_38 : decode cX3_init 38 = .ok (.bipush 24, 2) := by decide +kernel
theorem dX3_init_40 : decode cX3_init 40 = .ok (.newarray .int, 2) := by decide +kernel
theorem dX3_init_42 : decode cX3_init 42 = .ok (.putfield 28, 3) := by decide +kernel
theorem dX3_init_45 : decode cX3_init 45 = .ok (.aload_n 0, 1) := by decide +kernel
theorem dX3_init_46 : decode cX3_init 46 = .ok (.iconst 0, 1) := by decide +kernel
theorem dX3_init_47 : decode cX3_init 47 = .ok (.putfield 32, 3) := by decide +kernel
theorem dX3_init_50 : decode cX3_init 50 = .ok (.aload_n 0, 1) := by decide +kernel
theorem dX3_init_51 : decode cX3_init 51 = .ok (.lconst 0, 1) := by decide +kernel
theorem dX3_init_52 : decode cX3_init 52 = .ok (.putfield 36, 3) := by decide +kernel
theorem dX3_init_55 : decode cX3_init 55 = .ok (.return_, 1) := by decide +kernel
set_option maxRecDepth 20000 in
theorem ggX3_insert_X3_isValue : GoodIn wsX3_insert wsX3_isValue := goodIn_r _ [11, 12, 13] (by decide +kernel) (by decide +kernel)
set_option maxRecDepth 20000 in
theorem gX3_insert_X3_isValue : GoodIn wsX3_insert (va_wsS RX3 40 yX3_isValue wsX3_isValue) := goodIn_app (goodIn_of _ (by decide +kernel)) ggX3_insert_X3_isValue
set_option maxRecDepth 20000 in
theorem ggX3_insert_X3_isVelocity : GoodIn wsX3_insert wsX3_isVelocity := goodIn_r _ [16] (by decide +kernel) (by decide +kernel)
set_option maxRecDepth 20000 in
theorem gX3_insert_X3_isVelocity : GoodIn wsX3_insert (va_wsS RX3 44 yX3_isVelocity wsX3_isVelocity) := goodIn_app (goodIn_of _ (by decide +kernel)) ggX3_insert_X3_isVelocity
set_option maxRecDepth 20000 in
theorem ggX3_insert_X2_lowestFree : GoodIn wsX3_insert wsX2_lowestFree := goodIn_r _ [21, 22, 115, 116, 117, 118] (by decide +kernel) (by decide +kernel)
set_option maxRecDepth 20000 in
theorem gX3_insert_X2_lowestFree : GoodIn wsX3_insert (wsV RX3 49 RX2 yX2_lowestFree wsX2_lowestFree) := goodIn_app (goodIn_of _ (by decide +kernel)) ggX3_insert_X2_lowestFree
set_option maxRecDepth 20000 in
theorem ggX3_insert_X1_isFull : GoodIn wsX3_insert wsX1_isFull := goodIn_r _ [27, 28, 119, 120, 121, 122, 123, 124, 125, 126, 127, 128] (by decide +kernel) (by decide +kernel)
set_option maxRecDepth 20000 in
theorem gX3_insert_X1_isFull : GoodIn wsX3_insert (wsV RX3 55 RX1 yX1_isFull wsX1_isFull) := goodIn_app (goodIn_of _ (by decide +kernel)) ggX3_insert_X1_isFull
set_option maxRecDepth 20000 in
theorem ggX3_insert_X2_start : GoodIn wsX3_insert wsX2_start := goodIn_r _ [32, 33, 34, 35, 20, 36, 22, 37, 38, 39, 115, 116, 117, 118] (by decide +kernel) (by decide +kernel)
set_option maxRecDepth 20000 in
theorem gX3_insert_X2_start : GoodIn wsX3_insert (wsV RX3 61 RX2 yX2_start wsX2_start) := goodIn_app (goodIn_of _ (by decide +kernel)) ggX3_insert_X2_start
set_option maxRecDepth 20000 in
theorem ggX3_insert_X0_append : GoodIn wsX3_insert wsX0_append := goodIn_r _ [44, 45, 46, 47, 48, 43, 49, 50, 51, 129, 130, 131, 132, 133, 134, 135] (by decide +kernel) (by decide +kernel)
set_option maxRecDepth 20000 in
theorem gX3_insert_X0_append : GoodIn wsX3_insert (wsV RX3 65 RX0 yX0_append wsX0_append) := goodIn_app (goodIn_of _ (by decide +kernel)) ggX3_insert_X0_append
set_option maxRecDepth 20000 in
theorem ggX3_insert_X3_finishOperation : GoodIn wsX3_insert wsX3_finishOperation := goodIn_r _ [55, 7, 5, 3, 2, 56, 57, 58, 43, 59, 60, 61, 62, 63, 45, 64, 65, 66, 67, 68, 69, 70, 71, 50, 72, 73, 74, 20, 75, 76, 77, 78, 79, 38, 39, 80, 81, 82, 83, 22, 84, 85, 86, 87, 88, 89, 46, 47, 48, 49, 51, 90, 91, 92, 26, 93, 94, 28, 95, 96, 97, 98, 99, 24, 25, 27, 100, 101, 102, 103, 104, 105, 106, 107, 108, 109, 110, 111, 112, 113, 114, 129, 130, 131, 132, 133, 134, 135, 115, 116, 117, 118, 119, 120, 121, 122, 123, 124, 125, 126, 127, 128] (by decide +kernel) (by decide +kernel)
set_option maxRecDepth 20000 in
theorem gX3_insert_X3_finishOperation : GoodIn wsX3_insert (wsV RX3 69 RX3 yX3_finishOperation wsX3_finishOperation) := goodIn_app (goodIn_of _ (by decide +kernel)) ggX3_insert_X3_finishOperation
theorem dX3_insert_0 : decode cX3_insert 0 = .ok (.iload_n 1, 1) := by decide +kernel
theorem dX3_insert_1 : decode cX3_insert 1 = .ok (.invokestatic 40, 3) := by decide +kernel
theorem dX3_insert_4 : decode cX3_insert 4 = .ok (.ifCond .eq 10, 3) := by decide +kernel
theorem dX3_insert_7 : decode cX3_insert 7 = .ok (.iload_n 2, 1) := by decide +kernel
theorem dX3_insert_8 : decode cX3_insert 8 = .ok (.invokestatic 44, 3) := by decide +kernel
theorem dX3_insert_11 : decode cX3_insert 11 = .ok (.ifCond .ne 7, 3) := by decide +kernel
theorem dX3_insert_14 : decode cX3_insert 14 = .ok (.ldc2_w 47, 3) := by decide +kernel
theorem dX3_insert_17 : decode cX3_insert 17 = .ok (.lreturn, 1) := by decide +kernel
theorem dX3_insert_18 : decode cX3_insert 18 = .ok (.aload_n 0, 1) := by decide +kernel
theorem dX3_insert_19 : decode cX3_insert 19 = .ok (.getfield 20, 3) := by decide +kernel
theorem dX3_insert_22 : decode cX3_insert 22 = .ok (.invokevirtual 49, 3) := by decide +kernel
theorem dX3_insert_25 : decode cX3_insert 25 = .ok (.istore_n 3, 1) := by decide +kernel
theorem dX3_insert_26 : decode cX3_insert 26 = .ok (.iload_n 3, 1) := by decide +kernel
theorem dX3_insert_27 : decode cX3_insert 27 = .ok (.iconst (-1), 1) := by decide +kernel
theorem dX3_insert_28 : decode cX3_insert 28 = .ok (.if_icmp .eq 13, 3) := by decide +kernel
theorem dX3_insert_31 : decode cX3_insert 31 = .ok (.aload_n 0, 1) := by decide +kernel
theorem dX3_insert_32 : decode cX3_insert 32 = .ok (.getfield 24, 3) := by decide +kernel
theorem dX3_insert_35 : decode cX3_insert 35 = .ok (.invokevirtual 55, 3) := by decide +kernel
theorem dX3_insert_38 : decode cX3_insert 38 = .ok (.ifCond .eq 7, 3) := by decide +kernel
theorem dX3_insert_41 : decode cX3_insert 41 = .ok (.ldc2_w 59, 3) := by decide +kernel
theorem dX3_insert_44 : decode cX3_insert 44 = .ok (.lreturn, 1) := by decide +kernel
theorem dX3_insert_45 : decode cX3_insert 45 = .ok (.aload_n 0, 1) := by decide +kernel
theorem dX3_insert_46 : decode cX3_insert 46 = .ok (.getfield 20, 3) := by decide +kernel
theorem dX3_insert_49 : decode cX3_insert 49 = .ok (.iload_n 3, 1) := by decide +kernel
theorem dX3_insert_50 : decode cX3_insert 50 = .ok (.iload_n 1, 1) := by decide +kernel
theorem dX3_insert_51 : decode cX3_insert 51 = .ok (.i2l, 1) := by decide +kernel
theorem dX3_insert_52 : decode cX3_insert 52 = .ok (.iload_n 2, 1) := by decide +kernel
theorem dX3_insert_53 : decode cX3_insert 53 = .ok (.aload_n 0, 1) := by decide +kernel
theorem dX3_insert_54 : decode cX3_insert 54 = .ok (.getfield 32, 3) := by decide +kernel
theorem dX3_insert_57 : decode cX3_insert 57 = .ok (.invokevirtual 61, 3) := by decide +kernel
theorem dX3_insert_60 : decode cX3_insert 60 = .ok (.aload_n 0, 1) := by decide +kernel
theorem dX3_insert_61 : decode cX3_insert 61 = .ok (.getfield 28, 3) := by decide +kernel
theorem dX3_insert_64 : decode cX3_insert 64 = .ok (.iload_n 3, 1) := by decide +kernel
theorem dX3_insert_65 : decode cX3_insert 65 = .ok (.aload_n 0, 1) := by decide +kernel
theorem dX3_insert_66 : decode cX3_insert 66 = .ok (.getfield 32, 3) := by decide +kernel
theorem dX3_insert_69 : decode cX3_insert 69 = .ok (.iastore, 1) := by decide +kernel
theorem dX3_insert_70 : decode cX3_insert 70 = .ok (.aload_n 0, 1) := by decide +kernel
theorem dX3_insert_71 : decode cX3_insert 71 = .ok (.getfield 12, 3) := by decide +kernel
theorem dX3_insert_74 : decode cX3_insert 74 = .ok (.iload_n 3, 1) := by decide +kernel
theorem dX3_insert_75 : decode cX3_insert 75 = .ok (.invokevirtual 65, 3) := by decide +kernel
theorem dX3_insert_78 : decode cX3_insert 78 = .ok (.aload_n 0, 1) := by decide +kernel
theorem dX3_insert_79 : decode cX3_insert 79 = .ok (.iload_n 3, 1) := by decide +kernel
theorem dX3_insert_80 : decode cX3_insert 80 = .ok (.invokevirtual 69, 3) := by decide +kernel
theorem dX3_insert_83 : decode cX3_insert 83 = .ok (.iload_n 3, 1) := by decide +kernel
theorem dX3_insert_84 : decode cX3_insert 84 = .ok (.i2l, 1) := by decide +kernel
theorem dX3_insert_85 : decode cX3_insert 85 = .ok (.lreturn, 1) := by decide +kernel
set_option maxRecDepth 20000 in
theorem ggX3_remove_X2_has : GoodIn wsX3_remove wsX2_has := goodIn_r _ [11, 12, 104, 105, 106, 107] (by decide +kernel) (by decide +kernel)
set_option maxRecDepth 20000 in
theorem gX3_remove_X2_has : GoodIn wsX3_remove (wsV RX3 72 RX2 yX2_has wsX2_has) := goodIn_app (goodIn_of _ (by decide +kernel)) ggX3_remove_X2_has
set_option maxRecDepth 20000 in
theorem ggX3_remove_X1_isFull : GoodIn wsX3_remove wsX1_isFull := goodIn_r _ [17, 18, 108, 109, 110, 111, 112, 113, 114, 115, 116, 117] (by decide +kernel) (by decide +kernel)
set_option maxRecDepth 20000 in
theorem gX3_remove_X1_isFull : GoodIn wsX3_remove (wsV RX3 55 RX1 yX1_isFull wsX1_isFull) := goodIn_app (goodIn_of _ (by decide +kernel)) ggX3_remove_X1_isFull
set_option maxRecDepth 20000 in
theorem ggX3_remove_X2_valueOf : GoodIn wsX3_remove wsX2_valueOf := goodIn_r _ [22, 23, 24, 25, 8, 9, 10, 11, 12, 104, 105, 106, 107] (by decide +kernel) (by decide +kernel)
set_option maxRecDepth 20000 in
theorem gX3_remove_X2_valueOf : GoodIn wsX3_remove (wsV RX3 75 RX2 yX2_valueOf wsX2_valueOf) := goodIn_app (goodIn_of _ (by decide +kernel)) ggX3_remove_X2_valueOf
set_option maxRecDepth 20000 in
theorem ggX3_remove_X0_takeOut : GoodIn wsX3_remove wsX0_takeOut := goodIn_r _ [30, 31, 32, 33, 34, 29, 35, 36, 37, 38, 39, 40, 41, 42, 43, 44, 45, 118, 119, 120, 121, 122, 123, 124] (by decide +kernel) (by decide +kernel)
set_option maxRecDepth 20000 in
theorem gX3_remove_X0_takeOut : GoodIn wsX3_remove (wsV RX3 79 RX0 yX0_takeOut wsX0_takeOut) := goodIn_app (goodIn_of _ (by decide +kernel)) ggX3_remove_X0_takeOut
set_option maxRecDepth 20000 in
theorem ggX3_remove_X2_drop : GoodIn wsX3_remove wsX2_drop := goodIn_r _ [49, 12, 50, 25, 8, 9, 10, 11, 104, 105, 106, 107] (by decide +kernel) (by decide +kernel)
set_option maxRecDepth 20000 in
theorem gX3_remove_X2_drop : GoodIn wsX3_remove (wsV RX3 82 RX2 yX2_drop wsX2_drop) := goodIn_app (goodIn_of _ (by decide +kernel)) ggX3_remove_X2_drop
set_option maxRecDepth 20000 in
theorem ggX3_remove_X3_finishOperation : GoodIn wsX3_remove wsX3_finishOperation := goodIn_r _ [55, 6, 5, 3, 1, 56, 57, 58, 29, 59, 60, 61, 62, 63, 31, 64, 65, 66, 67, 37, 38, 39, 40, 41, 68, 69, 70, 10, 71, 72, 20, 21, 22, 23, 24, 25, 8, 9, 11, 12, 73, 74, 75, 76, 77, 78, 42, 43, 44, 45, 36, 79, 80, 81, 16, 82, 83, 18, 84, 85, 86, 87, 88, 14, 15, 17, 89, 90, 91, 92, 93, 94, 95, 96, 97, 98, 99, 100, 101, 102, 103, 118, 119, 120, 121, 122, 123, 124, 104, 105, 106, 107, 108, 109, 110, 111, 112, 113, 114, 115, 116, 117] (by decide +kernel) (by decide +kernel)
set_option maxRecDepth 20000 in
theorem gX3_remove_X3_finishOperation : GoodIn wsX3_remove (wsV RX3 69 RX3 yX3_finishOperation wsX3_finishOperation) := goodIn_app (goodIn_of _ (by decide +kernel)) ggX3_remove_X3_finishOperation
theorem dX3_remove_0 : decode cX3_remove 0 = .ok (.aload_n 0, 1) := by decide +kernel
theorem dX3_remove_1 : decode cX3_remove 1 = .ok (.getfield 20, 3) := by decide +kernel
theorem dX3_remove_4 : decode cX3_remove 4 = .ok (.iload_n 1, 1) := by decide +kernel
theorem dX3_remove_5 : decode cX3_remove 5 = .ok (.invokevirtual 72, 3) := by decide +kernel
theorem dX3_remove_8 : decode cX3_remove 8 = .ok (.ifCond .ne 7, 3) := by decide +kernel
theorem dX3_remove_11 : decode cX3_remove 11 = .ok (.ldc2_w 47, 3) := by decide +kernel
theorem dX3_remove_14 : decode cX3_remove 14 = .ok (.lreturn, 1) := by decide +kernel
theorem dX3_remove_15 : decode cX3_remove 15 = .ok (.aload_n 0, 1) := by decide +kernel
theorem dX3_remove_16 : decode cX3_remove 16 = .ok (.getfield 24, 3) := by decide +kernel
theorem dX3_remove_19 : decode cX3_remove 19 = .ok (.invokevirtual 55, 3) := by decide +kernel
theorem dX3_remove_22 : decode cX3_remove 22 = .ok (.ifCond .eq 7, 3) := by decide +kernel
theorem dX3_remove_25 : decode cX3_remove 25 = .ok (.ldc2_w 59, 3) := by decide +kernel
theorem dX3_remove_28 : decode cX3_remove 28 = .ok (.lreturn, 1) := by decide +kernel
theorem dX3_remove_29 : decode cX3_remove 29 = .ok (.aload_n 0, 1) := by decide +kernel
theorem dX3_remove_30 : decode cX3_remove 30 = .ok (.getfield 20, 3) := by decide +kernel
theorem dX3_remove_33 : decode cX3_remove 33 = .ok (.iload_n 1, 1) := by decide +kernel
theorem dX3_remove_34 : decode cX3_remove 34 = .ok (.aload_n 0, 1) := by decide +kernel
theorem dX3_remove_35 : decode cX3_remove 35 = .ok (.getfield 32, 3) := by decide +kernel
theorem dX3_remove_38 : decode cX3_remove 38 = .ok (.invokevirtual 75, 3) := by decide +kernel
theorem dX3_remove_41 : decode cX3_remove 41 = .ok (.lstore_n 2, 1) := by decide +kernel
theorem dX3_remove_42 : decode cX3_remove 42 = .ok (.aload_n 0, 1) := by decide +kernel
theorem dX3_remove_43 : decode cX3_remove 43 = .ok (.getfield 12, 3) := by decide +kernel
theorem dX3_remove_46 : decode cX3_remove 46 = .ok (.iload_n 1, 1) := by decide +kernel
theorem dX3_remove_47 : decode cX3_remove 47 = .ok (.invokevirtual 79, 3) := by decide +kernel
theorem dX3_remove_50 : decode cX3_remove 50 = .ok (.aload_n 0, 1) := by decide +kernel
theorem dX3_remove_51 : decode cX3_remove 51 = .ok (.getfield 20, 3) := by decide +kernel
theorem dX3_remove_54 : decode cX3_remove 54 = .ok (.iload_n 1, 1) := by decide +kernel
theorem dX3_remove_55 : decode cX3_remove 55 = .ok (.invokevirtual 82, 3) := by decide +kernel
theorem dX3_remove_58 : decode cX3_remove 58 = .ok (.aload_n 0, 1) := by decide +kernel
theorem dX3_remove_59 : decode cX3_remove 59 = .ok (.iload_n 1, 1) := by decide +kernel
theorem dX3_remove_60 : decode cX3_remove 60 = .ok (.invokevirtual 69, 3) := by decide +kernel
theorem dX3_remove_63 : decode cX3_remove 63 = .ok (.lload_n 2, 1) := by decide +kernel
theorem dX3_remove_64 : decode cX3_remove 64 = .ok (.lreturn, 1) := by decide +kernel
set_option maxRecDepth 20000 in
theorem ggX3_setVelocity_X2_has : GoodIn wsX3_setVelocity wsX2_has := goodIn_r _ [10, 11, 104, 105, 106, 107] (by decide +kernel) (by decide +kernel)
set_option maxRecDepth 20000 in
theorem gX3_setVelocity_X2_has : GoodIn wsX3_setVelocity (wsV RX3 72 RX2 yX2_has wsX2_has) := goodIn_app (goodIn_of _ (by decide +kernel)) ggX3_setVelocity_X2_has
set_option maxRecDepth 20000 in
theorem ggX3_setVelocity_X3_isVelocity : GoodIn wsX3_setVelocity wsX3_isVelocity := goodIn_r _ [15] (by decide +kernel) (by decide +kernel)
set_option maxRecDepth 20000 in
theorem gX3_setVelocity_X3_isVelocity : GoodIn wsX3_setVelocity (va_wsS RX3 44 yX3_isVelocity wsX3_isVelocity) := goodIn_app (goodIn_of _ (by decide +kernel)) ggX3_setVelocity_X3_isVelocity
set_option maxRecDepth 20000 in
theorem ggX3_setVelocity_X1_isFull : GoodIn wsX3_setVelocity wsX1_isFull := goodIn_r _ [20, 21, 108, 109, 110, 111, 112, 113, 114, 115, 116, 117] (by decide +kernel) (by decide +kernel)
set_option maxRecDepth 20000 in
theorem gX3_setVelocity_X1_isFull : GoodIn wsX3_setVelocity (wsV RX3 55 RX1 yX1_isFull wsX1_isFull) := goodIn_app (goodIn_of _ (by decide +kernel)) ggX3_setVelocity_X1_isFull
set_option maxRecDepth 20000 in
theorem ggX3_setVelocity_X2_velocityOf : GoodIn wsX3_setVelocity wsX2_velocityOf := goodIn_r _ [25, 26, 27, 7, 8, 9, 10, 11, 104, 105, 106, 107] (by decide +kernel) (by decide +kernel)
set_option maxRecDepth 20000 in
theorem gX3_setVelocity_X2_velocityOf : GoodIn wsX3_setVelocity (wsV RX3 85 RX2 yX2_velocityOf wsX2_velocityOf) := goodIn_app (goodIn_of _ (by decide +kernel)) ggX3_setVelocity_X2_velocityOf
set_option maxRecDepth 20000 in
theorem ggX3_setVelocity_X2_valueOf : GoodIn wsX3_setVelocity wsX2_valueOf := goodIn_r _ [31, 32, 26, 27, 7, 8, 9, 10, 11, 104, 105, 106, 107] (by decide +kernel) (by decide +kernel)
set_option maxRecDepth 20000 in
theorem gX3_setVelocity_X2_valueOf : GoodIn wsX3_setVelocity (wsV RX3 75 RX2 yX2_valueOf wsX2_valueOf) := goodIn_app (goodIn_of _ (by decide +kernel)) ggX3_setVelocity_X2_valueOf
set_option maxRecDepth 20000 in
theorem ggX3_setVelocity_X2_start : GoodIn wsX3_setVelocity wsX2_start := goodIn_r _ [36, 37, 38, 39, 9, 40, 11, 41, 32, 26, 104, 105, 106, 107] (by decide +kernel) (by decide +kernel)
set_option maxRecDepth 20000 in
theorem gX3_setVelocity_X2_start : GoodIn wsX3_setVelocity (wsV RX3 61 RX2 yX2_start wsX2_start) := goodIn_app (goodIn_of _ (by decide +kernel)) ggX3_setVelocity_X2_start
set_option maxRecDepth 20000 in
theorem ggX3_setVelocity_X3_finishOperation : GoodIn wsX3_setVelocity wsX3_finishOperation := goodIn_r _ [45, 46, 5, 3, 1, 47, 48, 49, 50, 51, 52, 53, 54, 55, 56, 57, 58, 59, 60, 61, 62, 63, 64, 65, 66, 67, 68, 9, 69, 70, 29, 30, 31, 32, 26, 27, 7, 8, 10, 11, 71, 72, 73, 74, 75, 76, 77, 78, 79, 80, 81, 82, 83, 84, 19, 85, 86, 21, 87, 88, 89, 90, 91, 17, 18, 20, 92, 93, 94, 95, 96, 97, 23, 24, 25, 98, 99, 100, 101, 102, 103, 118, 119, 120, 121, 122, 123, 124, 104, 105, 106, 107, 108, 109, 110, 111, 112, 113, 114, 115, 116, 117] (by decide +kernel) (by decide +kernel)
set_option maxRecDepth 20000 in
theorem gX3_setVelocity_X3_finishOperation : GoodIn wsX3_setVelocity (wsV RX3 69 RX3 yX3_finishOperation wsX3_finishOperation) := goodIn_app (goodIn_of _ (by decide +kernel)) ggX3_setVelocity_X3_finishOperation
theorem dX3_setVelocity_0 : decode cX3_setVelocity 0 = .ok (.aload_n 0, 1) := by decide +kernel
theorem dX3_setVelocity_1 : decode cX3_setVelocity 1 = .ok (.getfield 20, 3) := by decide +kernel
theorem dX3_setVelocity_4 : decode cX3_setVelocity 4 = .ok (.iload_n 1, 1) := by decide +kernel
theorem dX3_setVelocity_5 : decode cX3_setVelocity 5 = .ok (.invokevirtual 72, 3) := by decide +kernel
theorem dX3_setVelocity_8 : decode cX3_setVelocity 8 = .ok (.ifCond .eq 10, 3) := by decide +kernel
theorem dX3_setVelocity_11 : decode cX3_setVelocity 11 = .ok (.iload_n 2, 1) := by decide +kernel
theorem dX3_setVelocity_12 : decode cX3_setVelocity 12 = .ok (.invokestatic 44, 3) := by decide +kernel
theorem dX3_setVelocity_15 : decode cX3_setVelocity 15 = .ok (.ifCond .ne 7, 3) := by decide +kernel
theorem dX3_setVelocity_18 : decode cX3_setVelocity 18 = .ok (.ldc2_w 47, 3) := by decide +kernel
theorem dX3_setVelocity_21 : decode cX3_setVelocity 21 = .ok (.lreturn, 1) := by decide +kernel
theorem dX3_setVelocity_22 : decode cX3_setVelocity 22 = .ok (.aload_n 0, 1) := by decide +kernel
theorem dX3_setVelocity_23 : decode cX3_setVelocity 23 = .ok (.getfield 24, 3) := by decide +kernel
theorem dX3_setVelocity_26 : decode cX3_setVelocity 26 = .ok (.invokevirtual 55, 3) := by decide +kernel
theorem dX3_setVelocity_29 : decode cX3_setVelocity 29 = .ok (.ifCond .eq 7, 3) := by decide +kernel
theorem dX3_setVelocity_32 : decode cX3_setVelocity 32 = .ok (.ldc2_w 59, 3) := by decide +kernel
theorem dX3_setVelocity_35 : decode cX3_setVelocity 35 = .ok (.lreturn, 1) := by decide +kernel
theorem dX3_setVelocity_36 : decode cX3_setVelocity 36 = .ok (.aload_n 0, 1) := by decide +kernel
theorem dX3_setVelocity_37 : decode cX3_setVelocity 37 = .ok (.getfield 20, 3) := by decide +kernel
theorem dX3_setVelocity_40 : decode cX3_setVelocity 40 = .ok (.iload_n 1, 1) := by decide +kernel
theorem dX3_setVelocity_41 : decode cX3_setVelocity 41 = .ok (.invokevirtual 85, 3) := by decide +kernel
theorem dX3_setVelocity_44 : decode cX3_setVelocity 44 = .ok (.i2l, 1) := by decide +kernel
theorem dX3_setVelocity_45 : decode cX3_setVelocity 45 = .ok (.lstore_n 3, 1) := by decide +kernel
theorem dX3_setVelocity_46 : decode cX3_setVelocity 46 = .ok (.aload_n 0, 1) := by decide +kernel
theorem dX3_setVelocity_47 : decode cX3_setVelocity 47 = .ok (.getfield 20, 3) := by decide +kernel
theorem dX3_setVelocity_50 : decode cX3_setVelocity 50 = .ok (.iload_n 1, 1) := by decide +kernel
theorem dX3_setVelocity_51 : decode cX3_setVelocity 51 = .ok (.aload_n 0, 1) := by decide +kernel
theorem dX3_setVelocity_52 : decode cX3_setVelocity 52 = .ok (.getfield 20, 3) := by decide +kernel
theorem dX3_setVelocity_55 : decode cX3_setVelocity 55 = .ok (.iload_n 1, 1) := by decide +kernel
theorem dX3_setVelocity_56 : decode cX3_setVelocity 56 = .ok (.aload_n 0, 1) := by decide +kernel
theorem dX3_setVelocity_57 : decode cX3_setVelocity 57 = .ok (.getfield 32, 3) := by decide +kernel
theorem dX3_setVelocity_60 : decode cX3_setVelocity 60 = .ok (.invokevirtual 75, 3) := by decide +kernel
theorem dX3_setVelocity_63 : decode cX3_setVelocity 63 = .ok (.iload_n 2, 1) := by decide +kernel
theorem dX3_setVelocity_64 : decode cX3_setVelocity 64 = .ok (.aload_n 0, 1) := by decide +kernel
theorem dX3_setVelocity_65 : decode cX3_setVelocity 65 = .ok (.getfield 32, 3) := by decide +kernel
theorem dX3_setVelocity_68 : decode cX3_setVelocity 68 = .ok (.invokevirtual 61, 3) := by decide +kernel
theorem dX3_setVelocity_71 : decode cX3_setVelocity 71 = .ok (.aload_n 0, 1) := by decide +kernel
theorem dX3_setVelocity_72 : decode cX3_setVelocity 72 = .ok (.iload_n 1, 1) := by decide +kernel
theorem dX3_setVelocity_73 : decode cX3_setVelocity 73 = .ok (.invokevirtual 69, 3) := by decide +kernel
theorem dX3_setVelocity_76 : decode cX3_setVelocity 76 = .ok (.lload_n 3, 1) := by decide +kernel
theorem dX3_setVelocity_77 : decode cX3_setVelocity 77 = .ok (.lreturn, 1) := by decide +kernel
set_option maxRecDepth 20000 in
theorem ggX3_jump_X2_has : GoodIn wsX3_jump wsX2_has := goodIn_r _ [10, 11, 106, 107, 108, 109] (by decide +kernel) (by decide +kernel)
set_option maxRecDepth 20000 in
theorem gX3_jump_X2_has : GoodIn wsX3_jump (wsV RX3 72 RX2 yX2_has wsX2_has) := goodIn_app (goodIn_of _ (by decide +kernel)) ggX3_jump_X2_has
set_option maxRecDepth 20000 in
theorem ggX3_jump_X3_isValue : GoodIn wsX3_jump wsX3_isValue := goodIn_r _ [15, 16, 17] (by decide +kernel) (by decide +kernel)
set_option maxRecDepth 20000 in
theorem gX3_jump_X3_isValue : GoodIn wsX3_jump (va_wsS RX3 40 yX3_isValue wsX3_isValue) := goodIn_app (goodIn_of _ (by decide +kernel)) ggX3_jump_X3_isValue
set_option maxRecDepth 20000 in
theorem ggX3_jump_X1_isFull : GoodIn wsX3_jump wsX1_isFull := goodIn_r _ [22, 23, 110, 111, 112, 113, 114, 115, 116, 117, 118, 119] (by decide +kernel) (by decide +kernel)
set_option maxRecDepth 20000 in
theorem gX3_jump_X1_isFull : GoodIn wsX3_jump (wsV RX3 55 RX1 yX1_isFull wsX1_isFull) := goodIn_app (goodIn_of _ (by decide +kernel)) ggX3_jump_X1_isFull
set_option maxRecDepth 20000 in
theorem ggX3_jump_X2_valueOf : GoodIn wsX3_jump wsX2_valueOf := goodIn_r _ [27, 28, 29, 30, 7, 8, 9, 10, 11, 106, 107, 108, 109] (by decide +kernel) (by decide +kernel)
set_option maxRecDepth 20000 in
theorem gX3_jump_X2_valueOf : GoodIn wsX3_jump (wsV RX3 75 RX2 yX2_valueOf wsX2_valueOf) := goodIn_app (goodIn_of _ (by decide +kernel)) ggX3_jump_X2_valueOf
set_option maxRecDepth 20000 in
theorem ggX3_jump_X2_velocityOf : GoodIn wsX3_jump wsX2_velocityOf := goodIn_r _ [34, 29, 30, 7, 8, 9, 10, 11, 106, 107, 108, 109] (by decide +kernel) (by decide +kernel)
set_option maxRecDepth 20000 in
theorem gX3_jump_X2_velocityOf : GoodIn wsX3_jump (wsV RX3 85 RX2 yX2_velocityOf wsX2_velocityOf) := goodIn_app (goodIn_of _ (by decide +kernel)) ggX3_jump_X2_velocityOf
set_option maxRecDepth 20000 in
theorem ggX3_jump_X2_start : GoodIn wsX3_jump wsX2_start := goodIn_r _ [38, 39, 40, 41, 9, 42, 11, 43, 28, 29, 106, 107, 108, 109] (by decide +kernel) (by decide +kernel)
set_option maxRecDepth 20000 in
theorem gX3_jump_X2_start : GoodIn wsX3_jump (wsV RX3 61 RX2 yX2_start wsX2_start) := goodIn_app (goodIn_of _ (by decide +kernel)) ggX3_jump_X2_start
set_option maxRecDepth 20000 in
theorem ggX3_jump_X3_finishOperation : GoodIn wsX3_jump wsX3_finishOperation := goodIn_r _ [47, 48, 5, 3, 1, 49, 50, 51, 52, 53, 54, 55, 56, 57, 58, 59, 60, 61, 62, 63, 64, 65, 66, 67, 68, 69, 70, 9, 71, 72, 25, 26, 27, 28, 29, 30, 7, 8, 10, 11, 73, 74, 75, 76, 77, 78, 79, 80, 81, 82, 83, 84, 85, 86, 21, 87, 88, 23, 89, 90, 91, 92, 93, 19, 20, 22, 94, 95, 96, 97, 98, 99, 32, 33, 34, 100, 101, 102, 103, 104, 105, 120, 121, 122, 123, 124, 125, 126, 106, 107, 108, 109, 110, 111, 112, 113, 114, 115, 116, 117, 118, 119] (by decide +kernel) (by decide +kernel)
set_option maxRecDepth 20000 in
theorem gX3_jump_X3_finishOperation : GoodIn wsX3_jump (wsV RX3 69 RX3 yX3_finishOperation wsX3_finishOperation) := goodIn_app (goodIn_of _ (by decide +kernel)) ggX3_jump_X3_finishOperation
theorem dX3_jump_0 : decode cX3_jump 0 = .ok (.aload_n 0, 1) := by decide +kernel
theorem dX3_jump_1 : decode cX3_jump 1 = .ok (.getfield 20, 3) := by decide +kernel
theorem dX3_jump_4 : decode cX3_jump 4 = .ok (.iload_n 1, 1) := by decide +kernel
theorem dX3_jump_5 : decode cX3_jump 5 = .ok (.invokevirtual 72, 3) := by decide +kernel
theorem dX3_jump_8 : decode cX3_jump 8 = .ok (.ifCond .eq 10, 3) := by decide +kernel
theorem dX3_jump_11 : decode cX3_jump 11 = .ok (.iload_n 2, 1) := by decide +kernel
theorem dX3_jump_12 : decode cX3_jump 12 = .ok (.invokestatic 40, 3) := by decide +kernel
theorem dX3_jump_15 : decode cX3_jump 15 = .ok (.ifCond .ne 7, 3) := by decide +kernel
theorem dX3_jump_18 : decode cX3_jump 18 = .ok (.ldc2_w 47, 3) := by decide +kernel
theorem dX3_jump_21 : decode cX3_jump 21 = .ok (.lreturn, 1) := by decide +kernel
theorem dX3_jump_22 : decode cX3_jump 22 = .ok (.aload_n 0, 1) := by decide +kernel
theorem dX3_jump_23 : decode cX3_jump 23 = .ok (.getfield 24, 3) := by decide +kernel
theorem dX3_jump_26 : decode cX3_jump 26 = .ok (.invokevirtual 55, 3) := by decide +kernel
theorem dX3_jump_29 : decode cX3_jump 29 = .ok (.ifCond .eq 7, 3) := by decide +kernel
theorem dX3_jump_32 : decode cX3_jump 32 = .ok (.ldc2_w 59, 3) := by decide +kernel
theorem dX3_jump_35 : decode cX3_jump 35 = .ok (.lreturn, 1) := by decide +kernel
theorem dX3_jump_36 : decode cX3_jump 36 = .ok (.aload_n 0, 1) := by decide +kernel
theorem dX3_jump_37 : decode cX3_jump 37 = .ok (.getfield 20, 3) := by decide +kernel
theorem dX3_jump_40 : decode cX3_jump 40 = .ok (.iload_n 1, 1) := by decide +kernel
theorem dX3_jump_41 : decode cX3_jump 41 = .ok (.aload_n 0, 1) := by decide +kernel
theorem dX3_jump_42 : decode cX3_jump 42 = .ok (.getfield 32, 3) := by decide +kernel
theorem dX3_jump_45 : decode cX3_jump 45 = .ok (.invokevirtual 75, 3) := by decide +kernel
theorem dX3_jump_48 : decode cX3_jump 48 = .ok (.lstore_n 3, 1) := by decide +kernel
theorem dX3_jump_49 : decode cX3_jump 49 = .ok (.aload_n 0, 1) := by decide +kernel
theorem dX3_jump_50 : decode cX3_jump 50 = .ok (.getfield 20, 3) := by decide +kernel
theorem dX3_jump_53 : decode cX3_jump 53 = .ok (.iload_n 1, 1) := by decide +kernel
theorem dX3_jump_54 : decode cX3_jump 54 = .ok (.iload_n 2, 1) := by decide +kernel
theorem dX3_jump_55 : decode cX3_jump 55 = .ok (.i2l, 1) := by decide +kernel
theorem dX3_jump_56 : decode cX3_jump 56 = .ok (.aload_n 0, 1) := by decide +kernel
theorem dX3_jump_57 : decode cX3_jump 57 = .ok (.getfield 20, 3) := by decide +kernel
theorem dX3_jump_60 : decode cX3_jump 60 = .ok (.iload_n 1, 1) := by decide +kernel
theorem dX3_jump_61 : decode cX3_jump 61 = .ok (.invokevirtual 85, 3) := by decide +kernel
theorem dX3_jump_64 : decode cX3_jump 64 = .ok (.aload_n 0, 1) := by decide +kernel
theorem dX3_jump_65 : decode cX3_jump 65 = .ok (.getfield 32, 3) := by decide +kernel
theorem dX3_jump_68 : decode cX3_jump 68 = .ok (.invokevirtual 61, 3) := by decide +kernel
theorem dX3_jump_71 : decode cX3_jump 71 = .ok (.aload_n 0, 1) := by decide +kernel
theorem dX3_jump_72 : decode cX3_jump 72 = .ok (.iload_n 1, 1) := by decide +kernel
theorem dX3_jump_73 : decode cX3_jump 73 = .ok (.invokevirtual 69, 3) := by decide +kernel
theorem dX3_jump_76 : decode cX3_jump 76 = .ok (.lload_n 3, 1) := by decide +kernel
theorem dX3_jump_77 : decode cX3_jump 77 = .ok (.lreturn, 1) := by decide +kernel
set_option maxRecDepth 20000 in
theorem ggX3_size_X2_number : GoodIn wsX3_size wsX2_number := goodIn_r _ [6, 7, 14, 15, 16, 17] (by decide +kernel) (by decide +kernel)
set_option maxRecDepth 20000 in
theorem gX3_size_X2_number : GoodIn wsX3_size (wsV RX3 89 RX2 yX2_number wsX2_number) := goodIn_app (goodIn_of _ (by decide +kernel)) ggX3_size_X2_number
theorem dX3_size_0 : decode cX3_size 0 = .ok (.aload_n 0, 1) := by decide +kernel
theorem dX3_size_1 : decode cX3_size 1 = .ok (.getfield 20, 3) := by decide +kernel
theorem dX3_size_4 : decode cX3_size 4 = .ok (.invokevirtual 89, 3) := by decide +kernel
theorem dX3_size_7 : decode cX3_size 7 = .ok (.ireturn, 1) := by decide +kernel
set_option maxRecDepth 20000 in
theorem ggX3_point_X2_has : GoodIn wsX3_point wsX2_has := goodIn_r _ [10, 11, 44, 45, 46, 47] (by decide +kernel) (by decide +kernel)
set_option maxRecDepth 20000 in
theorem gX3_point_X2_has : GoodIn wsX3_point (wsV RX3 72 RX2 yX2_has wsX2_has) := goodIn_app (goodIn_of _ (by decide +kernel)) ggX3_point_X2_has
set_option maxRecDepth 20000 in
theorem ggX3_point_X2_valueOf : GoodIn wsX3_point wsX2_valueOf := goodIn_r _ [15, 16, 17, 18, 7, 8, 9, 10, 11, 44, 45, 46, 47] (by decide +kernel) (by decide +kernel)
set_option maxRecDepth 20000 in
theorem gX3_point_X2_valueOf : GoodIn wsX3_point (wsV RX3 75 RX2 yX2_valueOf wsX2_valueOf) := goodIn_app (goodIn_of _ (by decide +kernel)) ggX3_point_X2_valueOf
set_option maxRecDepth 20000 in
theorem ggX3_point_X2_velocityOf : GoodIn wsX3_point wsX2_velocityOf := goodIn_r _ [22, 17, 18, 7, 8, 9, 10, 11, 44, 45, 46, 47] (by decide +kernel) (by decide +kernel)
set_option maxRecDepth 20000 in
theorem gX3_point_X2_velocityOf : GoodIn wsX3_point (wsV RX3 85 RX2 yX2_velocityOf wsX2_velocityOf) := goodIn_app (goodIn_of _ (by decide +kernel)) ggX3_point_X2_velocityOf
set_option maxRecDepth 20000 in
theorem ggX3_point_X0_placeOf : GoodIn wsX3_point wsX0_placeOf := goodIn_r _ [27, 28, 48, 49, 50, 51, 52, 53, 54] (by decide +kernel) (by decide +kernel)
set_option maxRecDepth 20000 in
theorem gX3_point_X0_placeOf : GoodIn wsX3_point (wsV RX3 92 RX0 yX0_placeOf wsX0_placeOf) := goodIn_app (goodIn_of _ (by decide +kernel)) ggX3_point_X0_placeOf
set_option maxRecDepth 20000 in
theorem ggX3_point_X2_rankOf : GoodIn wsX3_point wsX2_rankOf := goodIn_r _ [32, 11, 33, 34, 35, 9, 36, 37, 13, 14, 15, 16, 17, 18, 7, 8, 10, 44, 45, 46, 47] (by decide +kernel) (by decide +kernel)
set_option maxRecDepth 20000 in
theorem gX3_point_X2_rankOf : GoodIn wsX3_point (wsV RX3 95 RX2 yX2_rankOf wsX2_rankOf) := goodIn_app (goodIn_of _ (by decide +kernel)) ggX3_point_X2_rankOf
theorem dX3_point_0 : decode cX3_point 0 = .ok (.aload_n 0, 1) := by decide +kernel
theorem dX3_point_1 : decode cX3_point 1 = .ok (.getfield 20, 3) := by decide +kernel
theorem dX3_point_4 : decode cX3_point 4 = .ok (.iload_n 1, 1) := by decide +kernel
theorem dX3_point_5 : decode cX3_point 5 = .ok (.invokevirtual 72, 3) := by decide +kernel
theorem dX3_point_8 : decode cX3_point 8 = .ok (.ifCond .ne 7, 3) := by decide +kernel
theorem dX3_point_11 : decode cX3_point 11 = .ok (.ldc2_w 47, 3) := by decide +kernel
theorem dX3_point_14 : decode cX3_point 14 = .ok (.lreturn, 1) := by decide +kernel
theorem dX3_point_15 : decode cX3_point 15 = .ok (.iload_n 2, 1) := by decide +kernel
theorem dX3_point_16 : decode cX3_point 16 = .ok (.tableswitch 91 0 4 #[36, 49, 59, 69, 77], 36) := by decide +kernel
theorem dX3_point_52 : decode cX3_point 52 = .ok (.aload_n 0, 1) := by decide +kernel
theorem dX3_point_53 : decode cX3_point 53 = .ok (.getfield 20, 3) := by decide +kernel
theorem dX3_point_56 : decode cX3_point 56 = .ok (.iload_n 1, 1) := by decide +kernel
theorem dX3_point_57 : decode cX3_point 57 = .ok (.aload_n 0, 1) := by decide +kernel
theorem dX3_point_58 : decode cX3_point 58 = .ok (.getfield 32, 3) := by decide +kernel
theorem dX3_point_61 : decode cX3_point 61 = .ok (.invokevirtual 75, 3) := by decide +kernel
theorem dX3_point_64 : decode cX3_point 64 = .ok (.lreturn, 1) := by decide +kernel
theorem dX3_point_65 : decode cX3_point 65 = .ok (.aload_n 0, 1) := by decide +kernel
theorem dX3_point_66 : decode cX3_point 66 = .ok (.getfield 20, 3) := by decide +kernel
theorem dX3_point_69 : decode cX3_point 69 = .ok (.iload_n 1, 1) := by decide +kernel
theorem dX3_point_70 : decode cX3_point 70 = .ok (.invokevirtual 85, 3) := by decide +kernel
theorem dX3_point_73 : decode cX3_point 73 = .ok (.i2l, 1) := by decide +kernel
theorem dX3_point_74 : decode cX3_point 74 = .ok (.lreturn, 1) := by decide +kernel
theorem dX3_point_75 : decode cX3_point 75 = .ok (.aload_n 0, 1) := by decide +kernel
theorem dX3_point_76 : decode cX3_point 76 = .ok (.getfield 12, 3) := by decide +kernel
theorem dX3_point_79 : decode cX3_point 79 = .ok (.iload_n 1, 1) := by decide +kernel
theorem dX3_point_80 : decode cX3_point 80 = .ok (.invokevirtual 92, 3) := by decide +kernel
theorem dX3_point_83 : decode cX3_point 83 = .ok (.i2l, 1) := by decide +kernel
theorem dX3_point_84 : decode cX3_point 84 = .ok (.lreturn, 1) := by decide +kernel
theorem dX3_point_85 : decode cX3_point 85 = .ok (.aload_n 0, 1) := by decide +kernel
theorem dX3_point_86 : decode cX3_point 86 = .ok (.getfield 28, 3) := by decide +kernel
theorem dX3_point_89 : decode cX3_point 89 = .ok (.iload_n 1, 1) := by decide +kernel
theorem dX3_point_90 : decode cX3_point 90 = .ok (.iaload, 1) := by decide +kernel
theorem dX3_point_91 : decode cX3_point 91 = .ok (.i2l, 1) := by decide +kernel
theorem dX3_point_92 : decode cX3_point 92 = .ok (.lreturn, 1) := by decide +kernel
theorem dX3_point_93 : decode cX3_point 93 = .ok (.aload_n 0, 1) := by decide +kernel
theorem dX3_point_94 : decode cX3_point 94 = .ok (.getfield 20, 3) := by decide +kernel
theorem dX3_point_97 : decode cX3_point 97 = .ok (.iload_n 1, 1) := by decide +kernel
theorem dX3_point_98 : decode cX3_point 98 = .ok (.aload_n 0, 1) := by decide +kernel
theorem dX3_point_99 : decode cX3_point 99 = .ok (.getfield 32, 3) := by decide +kernel
theorem dX3_point_102 : decode cX3_point 102 = .ok (.invokevirtual 95, 3) := by decide +kernel
theorem dX3_point_105 : decode cX3_point 105 = .ok (.i2l, 1) := by decide +kernel
theorem dX3_point_106 : decode cX3_point 106 = .ok (.lreturn, 1) := by decide +kernel
theorem dX3_point_107 : decode cX3_point 107 = .ok (.ldc2_w 47, 3) := by decide +kernel
theorem dX3_point_110 : decode cX3_point 110 = .ok (.lreturn, 1) := by decide +kernel
set_option maxRecDepth 20000 in
theorem ggX3_at_X0_pointIn : GoodIn wsX3_at wsX0_pointIn := goodIn_r _ [7, 8, 9, 21, 22, 23, 24, 25, 26, 27] (by decide +kernel) (by decide +kernel)
set_option maxRecDepth 20000 in
theorem gX3_at_X0_pointIn : GoodIn wsX3_at (wsV RX3 99 RX0 yX0_pointIn wsX0_pointIn) := goodIn_app (goodIn_of _ (by decide +kernel)) ggX3_at_X0_pointIn
set_option maxRecDepth 20000 in
theorem ggX3_at_X3_pointOrNotFound : GoodIn wsX3_at wsX3_pointOrNotFound := goodIn_r _ [13, 14] (by decide +kernel) (by decide +kernel)
set_option maxRecDepth 20000 in
theorem gX3_at_X3_pointOrNotFound : GoodIn wsX3_at (va_wsS RX3 102 yX3_pointOrNotFound wsX3_pointOrNotFound) := goodIn_app (goodIn_of _ (by decide +kernel)) ggX3_at_X3_pointOrNotFound
theorem dX3_at_0 : decode cX3_at 0 = .ok (.iload_n 1, 1) := by decide +kernel
theorem dX3_at_1 : decode cX3_at 1 = .ok (.ifCond .ge 7, 3) := by decide +kernel
theorem dX3_at_4 : decode cX3_at 4 = .ok (.ldc2_w 47, 3) := by decide +kernel
theorem dX3_at_7 : decode cX3_at 7 = .ok (.lreturn, 1) := by decide +kernel
theorem dX3_at_8 : decode cX3_at 8 = .ok (.aload_n 0, 1) := by decide +kernel
theorem dX3_at_9 : decode cX3_at 9 = .ok (.getfield 12, 3) := by decide +kernel
theorem dX3_at_12 : decode cX3_at 12 = .ok (.iload_n 1, 1) := by decide +kernel
theorem dX3_at_13 : decode cX3_at 13 = .ok (.invokevirtual 99, 3) := by decide +kernel
theorem dX3_at_16 : decode cX3_at 16 = .ok (.invokestatic 102, 3) := by decide +kernel
theorem dX3_at_19 : decode cX3_at 19 = .ok (.lreturn, 1) := by decide +kernel
set_option maxRecDepth 20000 in
theorem ggX3_pass_X0_nextFailure : GoodIn wsX3_pass wsX0_nextFailure := goodIn_r _ [9, 10, 11, 12, 13, 14, 15, 16, 17, 18, 8, 19, 20, 21, 22, 23, 24, 25, 26, 27, 28, 29, 30, 31, 32, 33, 34, 35, 36, 37, 38, 39, 40, 41, 42, 43, 44, 45, 46, 47, 48, 49, 50, 51, 52, 53, 54, 55, 56, 57, 58, 91, 92, 93, 94, 95, 96, 97, 98, 99, 100, 101] (by decide +kernel) (by decide +kernel)
set_option maxRecDepth 20000 in
theorem gX3_pass_X0_nextFailure : GoodIn wsX3_pass (wsV RX3 107 RX0 yX0_nextFailure wsX0_nextFailure) := goodIn_app (goodIn_of _ (by decide +kernel)) ggX3_pass_X0_nextFailure
set_option maxRecDepth 20000 in
theorem ggX3_pass_X3_stopAt : GoodIn wsX3_pass wsX3_stopAt := goodIn_r _ [63, 1, 64, 4, 65, 66, 67, 8, 68, 69, 70, 71, 72, 11, 20, 25, 26, 27, 28, 29, 30, 31, 32, 73, 41, 42, 36, 43, 44, 45, 46, 47, 48, 49, 50, 51, 52, 53, 54, 74, 75, 76, 77, 78, 79, 80, 81, 82, 83, 84, 85, 86, 87, 88, 89, 90, 91, 92, 93, 94, 95, 96, 97, 98, 99, 100, 101] (by decide +kernel) (by decide +kernel)
set_option maxRecDepth 20000 in
theorem gX3_pass_X3_stopAt : GoodIn wsX3_pass (wsV RX3 110 RX3 yX3_stopAt wsX3_stopAt) := goodIn_app (goodIn_of _ (by decide +kernel)) ggX3_pass_X3_stopAt
theorem dX3_pass_0 : decode cX3_pass 0 = .ok (.iload_n 1, 1) := by decide +kernel
theorem dX3_pass_1 : decode cX3_pass 1 = .ok (.aload_n 0, 1) := by decide +kernel
theorem dX3_pass_2 : decode cX3_pass 2 = .ok (.getfield 32, 3) := by decide +kernel
theorem dX3_pass_5 : decode cX3_pass 5 = .ok (.if_icmp .lt 9, 3) := by decide +kernel
theorem dX3_pass_8 : decode cX3_pass 8 = .ok (.iload_n 1, 1) := by decide +kernel
theorem dX3_pass_9 : decode cX3_pass 9 = .ok (.ldc 106, 2) := by decide +kernel
theorem dX3_pass_11 : decode cX3_pass 11 = .ok (.if_icmp .le 7, 3) := by decide +kernel
theorem dX3_pass_14 : decode cX3_pass 14 = .ok (.ldc2_w 47, 3) := by decide +kernel
theorem dX3_pass_17 : decode cX3_pass 17 = .ok (.lreturn, 1) := by decide +kernel
theorem dX3_pass_18 : decode cX3_pass 18 = .ok (.lconst 0, 1) := by decide +kernel
theorem dX3_pass_19 : decode cX3_pass 19 = .ok (.lstore_n 2, 1) := by decide +kernel
theorem dX3_pass_20 : decode cX3_pass 20 = .ok (.iconst 0, 1) := by decide +kernel
theorem dX3_pass_21 : decode cX3_pass 21 = .ok (.istore 4, 2) := by decide +kernel
theorem dX3_pass_23 : decode cX3_pass 23 = .ok (.iload 4, 2) := by decide +kernel
theorem dX3_pass_25 : decode cX3_pass 25 = .ok (.sipush 276, 3) := by decide +kernel
theorem dX3_pass_28 : decode cX3_pass 28 = .ok (.if_icmp .ge 41, 3) := by decide +kernel
theorem dX3_pass_31 : decode cX3_pass 31 = .ok (.aload_n 0, 1) := by decide +kernel
theorem dX3_pass_32 : decode cX3_pass 32 = .ok (.getfield 12, 3) := by decide +kernel
theorem dX3_pass_35 : decode cX3_pass 35 = .ok (.aload_n 0, 1) := by decide +kernel
theorem dX3_pass_36 : decode cX3_pass 36 = .ok (.getfield 32, 3) := by decide +kernel
theorem dX3_pass_39 : decode cX3_pass 39 = .ok (.invokevirtual 107, 3) := by decide +kernel
theorem dX3_pass_42 : decode cX3_pass 42 = .ok (.istore 5, 2) := by decide +kernel
theorem dX3_pass_44 : decode cX3_pass 44 = .ok (.iload 5, 2) := by decide +kernel
theorem dX3_pass_46 : decode cX3_pass 46 = .ok (.iload_n 1, 1) := by decide +kernel
theorem dX3_pass_47 : decode cX3_pass 47 = .ok (.if_icmp .le 6, 3) := by decide +kernel
theorem dX3_pass_50 : decode cX3_pass 50 = .ok (.goto 19, 3) := by decide +kernel
theorem dX3_pass_53 : decode cX3_pass 53 = .ok (.aload_n 0, 1) := by decide +kernel
theorem dX3_pass_54 : decode cX3_pass 54 = .ok (.iload 5, 2) := by decide +kernel
theorem dX3_pass_56 : decode cX3_pass 56 = .ok (.invokevirtual 110, 3) := by decide +kernel
theorem dX3_pass_59 : decode cX3_pass 59 = .ok (.lload_n 2, 1) := by decide +kernel
theorem dX3_pass_60 : decode cX3_pass 60 = .ok (.lconst 1, 1) := by decide +kernel
theorem dX3_pass_61 : decode cX3_pass 61 = .ok (.ladd, 1) := by decide +kernel
theorem dX3_pass_62 : decode cX3_pass 62 = .ok (.lstore_n 2, 1) := by decide +kernel
theorem dX3_pass_63 : decode cX3_pass 63 = .ok (.iinc 4 1, 3) := by decide +kernel
theorem dX3_pass_66 : decode cX3_pass 66 = .ok (.goto (-43), 3) := by decide +kernel
theorem dX3_pass_69 : decode cX3_pass 69 = .ok (.aload_n 0, 1) := by decide +kernel
theorem dX3_pass_70 : decode cX3_pass 70 = .ok (.iload_n 1, 1) := by decide +kernel
theorem dX3_pass_71 : decode cX3_pass 71 = .ok (.putfield 32, 3) := by decide +kernel
theorem dX3_pass_74 : decode cX3_pass 74 = .ok (.lload_n 2, 1) := by decide +kernel
theorem dX3_pass_75 : decode cX3_pass 75 = .ok (.lreturn, 1) := by decide +kernel
set_option maxRecDepth 20000 in
theorem ggX3_step_X0_nextFailure : GoodIn wsX3_step wsX0_nextFailure := goodIn_r _ [9, 10, 11, 12, 13, 14, 15, 16, 17, 18, 8, 19, 20, 21, 22, 23, 24, 25, 26, 27, 28, 29, 30, 31, 32, 33, 34, 35, 36, 37, 38, 39, 40, 41, 42, 43, 44, 45, 46, 47, 48, 49, 50, 51, 52, 53, 54, 55, 56, 57, 58, 91, 92, 93, 94, 95, 96, 97, 98, 99, 100, 101] (by decide +kernel) (by decide +kernel)
set_option maxRecDepth 20000 in
theorem gX3_step_X0_nextFailure : GoodIn wsX3_step (wsV RX3 107 RX0 yX0_nextFailure wsX0_nextFailure) := goodIn_app (goodIn_of _ (by decide +kernel)) ggX3_step_X0_nextFailure
set_option maxRecDepth 20000 in
theorem ggX3_step_X3_stopAt : GoodIn wsX3_step wsX3_stopAt := goodIn_r _ [63, 2, 64, 1, 65, 66, 67, 8, 68, 69, 70, 71, 72, 11, 20, 25, 26, 27, 28, 29, 30, 31, 32, 73, 41, 42, 36, 43, 44, 45, 46, 47, 48, 49, 50, 51, 52, 53, 54, 74, 75, 76, 77, 78, 79, 80, 81, 82, 83, 84, 85, 86, 87, 88, 89, 90, 91, 92, 93, 94, 95, 96, 97, 98, 99, 100, 101] (by decide +kernel) (by decide +kernel)
set_option maxRecDepth 20000 in
theorem gX3_step_X3_stopAt : GoodIn wsX3_step (wsV RX3 110 RX3 yX3_stopAt wsX3_stopAt) := goodIn_app (goodIn_of _ (by decide +kernel)) ggX3_step_X3_stopAt
theorem dX3_step_0 : decode cX3_step 0 = .ok (.aload_n 0, 1) := by decide +kernel
theorem dX3_step_1 : decode cX3_step 1 = .ok (.getfield 12, 3) := by decide +kernel
theorem dX3_step_4 : decode cX3_step 4 = .ok (.aload_n 0, 1) := by decide +kernel
theorem dX3_step_5 : decode cX3_step 5 = .ok (.getfield 32, 3) := by decide +kernel
theorem dX3_step_8 : decode cX3_step 8 = .ok (.invokevirtual 107, 3) := by decide +kernel
theorem dX3_step_11 : decode cX3_step 11 = .ok (.istore_n 1, 1) := by decide +kernel
theorem dX3_step_12 : decode cX3_step 12 = .ok (.iload_n 1, 1) := by decide +kernel
theorem dX3_step_13 : decode cX3_step 13 = .ok (.ldc 106, 2) := by decide +kernel
theorem dX3_step_15 : decode cX3_step 15 = .ok (.if_icmp .le 7, 3) := by decide +kernel
theorem dX3_step_18 : decode cX3_step 18 = .ok (.ldc2_w 113, 3) := by decide +kernel
theorem dX3_step_21 : decode cX3_step 21 = .ok (.lreturn, 1) := by decide +kernel
theorem dX3_step_22 : decode cX3_step 22 = .ok (.aload_n 0, 1) := by decide +kernel
theorem dX3_step_23 : decode cX3_step 23 = .ok (.iload_n 1, 1) := by decide +kernel
theorem dX3_step_24 : decode cX3_step 24 = .ok (.invokevirtual 110, 3) := by decide +kernel
theorem dX3_step_27 : decode cX3_step 27 = .ok (.iload_n 1, 1) := by decide +kernel
theorem dX3_step_28 : decode cX3_step 28 = .ok (.i2l, 1) := by decide +kernel
theorem dX3_step_29 : decode cX3_step 29 = .ok (.lreturn, 1) := by decide +kernel
theorem dX3_time_0 : decode cX3_time 0 = .ok (.aload_n 0, 1) := by decide +kernel
theorem dX3_time_1 : decode cX3_time 1 = .ok (.getfield 32, 3) := by decide +kernel
theorem dX3_time_4 : decode cX3_time 4 = .ok (.ireturn, 1) := by decide +kernel
theorem dX3_count_0 : decode cX3_count 0 = .ok (.iload_n 1, 1) := by decide +kernel
theorem dX3_count_1 : decode cX3_count 1 = .ok (.tableswitch 48 0 2 #[27, 35, 40], 27) := by decide +kernel
theorem dX3_count_28 : decode cX3_count 28 = .ok (.aload_n 0, 1) := by decide +kernel
theorem dX3_count_29 : decode cX3_count 29 = .ok (.getfield 12, 3) := by decide +kernel
theorem dX3_count_32 : decode cX3_count 32 = .ok (.getfield 115, 3) := by decide +kernel
theorem dX3_count_35 : decode cX3_count 35 = .ok (.lreturn, 1) := by decide +kernel
theorem dX3_count_36 : decode cX3_count 36 = .ok (.aload_n 0, 1) := by decide +kernel
theorem dX3_count_37 : decode cX3_count 37 = .ok (.getfield 36, 3) := by decide +kernel
theorem dX3_count_40 : decode cX3_count 40 = .ok (.lreturn, 1) := by decide +kernel
theorem dX3_count_41 : decode cX3_count 41 = .ok (.aload_n 0, 1) := by decide +kernel
theorem dX3_count_42 : decode cX3_count 42 = .ok (.getfield 12, 3) := by decide +kernel
theorem dX3_count_45 : decode cX3_count 45 = .ok (.getfield 118, 3) := by decide +kernel
theorem dX3_count_48 : decode cX3_count 48 = .ok (.lreturn, 1) := by decide +kernel
theorem dX3_count_49 : decode cX3_count 49 = .ok (.ldc2_w 47, 3) := by decide +kernel
theorem dX3_count_52 : decode cX3_count 52 = .ok (.lreturn, 1) := by decide +kernel
set_option maxRecDepth 20000 in
theorem ggX3_failure_X0_hasCertificate : GoodIn wsX3_failure wsX0_hasCertificate := goodIn_r _ [8, 9, 63, 64, 65, 66, 67, 68, 69] (by decide +kernel) (by decide +kernel)
set_option maxRecDepth 20000 in
theorem gX3_failure_X0_hasCertificate : GoodIn wsX3_failure (wsV RX3 121 RX0 yX0_hasCertificate wsX0_hasCertificate) := goodIn_app (goodIn_of _ (by decide +kernel)) ggX3_failure_X0_hasCertificate
set_option maxRecDepth 20000 in
theorem ggX3_failure_X0_failureOf : GoodIn wsX3_failure wsX0_failureOf := goodIn_r _ [13, 14, 15, 16, 5, 6, 7, 8, 9, 17, 18, 19, 20, 21, 22, 23, 24, 25, 26, 27, 28, 29, 30, 31, 32, 33, 34, 35, 36, 37, 38, 39, 40, 41, 42, 43, 44, 45, 46, 47, 48, 49, 50, 63, 64, 65, 66, 67, 68, 69, 70, 71, 72, 73] (by decide +kernel) (by decide +kernel)
set_option maxRecDepth 20000 in
theorem gX3_failure_X0_failureOf : GoodIn wsX3_failure (wsV RX3 124 RX0 yX0_failureOf wsX0_failureOf) := goodIn_app (goodIn_of _ (by decide +kernel)) ggX3_failure_X0_failureOf
set_option maxRecDepth 20000 in
theorem ggX3_failure_X3_timeOrNotFound : GoodIn wsX3_failure wsX3_timeOrNotFound := goodIn_r _ [54, 55, 56] (by decide +kernel) (by decide +kernel)
set_option maxRecDepth 20000 in
theorem gX3_failure_X3_timeOrNotFound : GoodIn wsX3_failure (va_wsS RX3 127 yX3_timeOrNotFound wsX3_timeOrNotFound) := goodIn_app (goodIn_of _ (by decide +kernel)) ggX3_failure_X3_timeOrNotFound
theorem dX3_failure_0 : decode cX3_failure 0 = .ok (.aload_n 0, 1) := by decide +kernel
theorem dX3_failure_1 : decode cX3_failure 1 = .ok (.getfield 12, 3) := by decide +kernel
theorem dX3_failure_4 : decode cX3_failure 4 = .ok (.iload_n 1, 1) := by decide +kernel
theorem dX3_failure_5 : decode cX3_failure 5 = .ok (.invokevirtual 121, 3) := by decide +kernel
theorem dX3_failure_8 : decode cX3_failure 8 = .ok (.ifCond .ne 7, 3) := by decide +kernel
theorem dX3_failure_11 : decode cX3_failure 11 = .ok (.ldc2_w 47, 3) := by decide +kernel
theorem dX3_failure_14 : decode cX3_failure 14 = .ok (.lreturn, 1) := by decide +kernel
theorem dX3_failure_15 : decode cX3_failure 15 = .ok (.aload_n 0, 1) := by decide +kernel
theorem dX3_failure_16 : decode cX3_failure 16 = .ok (.getfield 12, 3) := by decide +kernel
theorem dX3_failure_19 : decode cX3_failure 19 = .ok (.iload_n 1, 1) := by decide +kernel
theorem dX3_failure_20 : decode cX3_failure 20 = .ok (.aload_n 0, 1) := by decide +kernel
theorem dX3_failure_21 : decode cX3_failure 21 = .ok (.getfield 32, 3) := by decide +kernel
theorem dX3_failure_24 : decode cX3_failure 24 = .ok (.invokevirtual 124, 3) := by decide +kernel
theorem dX3_failure_27 : decode cX3_failure 27 = .ok (.invokestatic 127, 3) := by decide +kernel
theorem dX3_failure_30 : decode cX3_failure 30 = .ok (.lreturn, 1) := by decide +kernel
set_option maxRecDepth 20000 in
theorem ggX3_calendar_X0_calendarEntry : GoodIn wsX3_calendar wsX0_calendarEntry := goodIn_r _ [9, 10, 11, 12, 13, 14, 15, 8, 16, 17, 18, 19, 20, 21, 22, 23, 24, 25, 26, 27, 28, 29, 30, 31, 32, 33, 34, 35, 36, 37, 38, 39, 40, 41, 42, 43, 44, 45, 46, 47, 48, 49, 50, 51, 52, 53, 54, 55, 56, 57, 58, 59, 67, 68, 69, 70, 71, 72, 73, 74, 75, 76, 77] (by decide +kernel) (by decide +kernel)
set_option maxRecDepth 20000 in
theorem gX3_calendar_X0_calendarEntry : GoodIn wsX3_calendar (wsV RX3 130 RX0 yX0_calendarEntry wsX0_calendarEntry) := goodIn_app (goodIn_of _ (by decide +kernel)) ggX3_calendar_X0_calendarEntry
set_option maxRecDepth 20000 in
theorem ggX3_calendar_X0_failureOf : GoodIn wsX3_calendar wsX0_failureOf := goodIn_r _ [16, 12, 17, 18, 19, 20, 8, 21, 10, 22, 23, 24, 25, 26, 27, 28, 29, 30, 31, 32, 33, 34, 35, 36, 37, 38, 39, 40, 41, 42, 43, 44, 45, 46, 47, 48, 49, 50, 51, 52, 53, 54, 55, 67, 68, 69, 70, 71, 72, 73, 74, 75, 76, 77] (by decide +kernel) (by decide +kernel)
set_option maxRecDepth 20000 in
theorem gX3_calendar_X0_failureOf : GoodIn wsX3_calendar (wsV RX3 124 RX0 yX0_failureOf wsX0_failureOf) := goodIn_app (goodIn_of _ (by decide +kernel)) ggX3_calendar_X0_failureOf
theorem dX3_calendar_0 : decode cX3_calendar 0 = .ok (.iload_n 1, 1) := by decide +kernel
theorem dX3_calendar_1 : decode cX3_calendar 1 = .ok (.ifCond .lt 12, 3) := by decide +kernel
theorem dX3_calendar_4 : decode cX3_calendar 4 = .ok (.iload_n 2, 1) := by decide +kernel
theorem dX3_calendar_5 : decode cX3_calendar 5 = .ok (.ifCond .lt 8, 3) := by decide +kernel
theorem dX3_calendar_8 : decode cX3_calendar 8 = .ok (.iload_n 2, 1) := by decide +kernel
theorem dX3_calendar_9 : decode cX3_calendar 9 = .ok (.iconst 1, 1) := by decide +kernel
theorem dX3_calendar_10 : decode cX3_calendar 10 = .ok (.if_icmp .le 7, 3) := by decide +kernel
theorem dX3_calendar_13 : decode cX3_calendar 13 = .ok (.ldc2_w 47, 3) := by decide +kernel
theorem dX3_calendar_16 : decode cX3_calendar 16 = .ok (.lreturn, 1) := by decide +kernel
theorem dX3_calendar_17 : decode cX3_calendar 17 = .ok (.aload_n 0, 1) := by decide +kernel
theorem dX3_calendar_18 : decode cX3_calendar 18 = .ok (.getfield 12, 3) := by decide +kernel
theorem dX3_calendar_21 : decode cX3_calendar 21 = .ok (.iload_n 1, 1) := by decide +kernel
theorem dX3_calendar_22 : decode cX3_calendar 22 = .ok (.aload_n 0, 1) := by decide +kernel
theorem dX3_calendar_23 : decode cX3_calendar 23 = .ok (.getfield 32, 3) := by decide +kernel
theorem dX3_calendar_26 : decode cX3_calendar 26 = .ok (.invokevirtual 130, 3) := by decide +kernel
theorem dX3_calendar_29 : decode cX3_calendar 29 = .ok (.istore_n 3, 1) := by decide +kernel
theorem dX3_calendar_30 : decode cX3_calendar 30 = .ok (.iload_n 3, 1) := by decide +kernel
theorem dX3_calendar_31 : decode cX3_calendar 31 = .ok (.ifCond .ne 7, 3) := by decide +kernel
theorem dX3_calendar_34 : decode cX3_calendar 34 = .ok (.ldc2_w 113, 3) := by decide +kernel
theorem dX3_calendar_37 : decode cX3_calendar 37 = .ok (.lreturn, 1) := by decide +kernel
theorem dX3_calendar_38 : decode cX3_calendar 38 = .ok (.iload_n 2, 1) := by decide +kernel
theorem dX3_calendar_39 : decode cX3_calendar 39 = .ok (.ifCond .ne 19, 3) := by decide +kernel
theorem dX3_calendar_42 : decode cX3_calendar 42 = .ok (.aload_n 0, 1) := by decide +kernel
theorem dX3_calendar_43 : decode cX3_calendar 43 = .ok (.getfield 12, 3) := by decide +kernel
theorem dX3_calendar_46 : decode cX3_calendar 46 = .ok (.iload_n 3, 1) := by decide +kernel
theorem dX3_calendar_47 : decode cX3_calendar 47 = .ok (.aload_n 0, 1) := by decide +kernel
theorem dX3_calendar_48 : decode cX3_calendar 48 = .ok (.getfield 32, 3) := by decide +kernel
theorem dX3_calendar_51 : decode cX3_calendar 51 = .ok (.invokevirtual 124, 3) := by decide +kernel
theorem dX3_calendar_54 : decode cX3_calendar 54 = .ok (.i2l, 1) := by decide +kernel
theorem dX3_calendar_55 : decode cX3_calendar 55 = .ok (.goto 5, 3) := by decide +kernel
theorem dX3_calendar_58 : decode cX3_calendar 58 = .ok (.iload_n 3, 1) := by decide +kernel
theorem dX3_calendar_59 : decode cX3_calendar 59 = .ok (.i2l, 1) := by decide +kernel
theorem dX3_calendar_60 : decode cX3_calendar 60 = .ok (.lreturn, 1) := by decide +kernel
set_option maxRecDepth 20000 in
theorem ggX3_calendarSize_X0_calendarLength : GoodIn wsX3_calendarSize wsX0_calendarLength := goodIn_r _ [7, 8, 9, 10, 11, 12, 6, 13, 14, 15, 16, 17, 18, 19, 20, 21, 22, 23, 24, 25, 26, 27, 28, 29, 30, 31, 32, 33, 34, 35, 36, 37, 38, 39, 40, 41, 42, 43, 44, 45, 46, 47, 48, 49, 50, 51, 52, 59, 60, 61, 62, 63, 64, 65, 66, 67, 68, 69] (by decide +kernel) (by decide +kernel)
set_option maxRecDepth 20000 in
theorem gX3_calendarSize_X0_calendarLength : GoodIn wsX3_calendarSize (wsV RX3 133 RX0 yX0_calendarLength wsX0_calendarLength) := goodIn_app (goodIn_of _ (by decide +kernel)) ggX3_calendarSize_X0_calendarLength
theorem dX3_calendarSize_0 : decode cX3_calendarSize 0 = .ok (.aload_n 0, 1) := by decide +kernel
theorem dX3_calendarSize_1 : decode cX3_calendarSize 1 = .ok (.getfield 12, 3) := by decide +kernel
theorem dX3_calendarSize_4 : decode cX3_calendarSize 4 = .ok (.aload_n 0, 1) := by decide +kernel
theorem dX3_calendarSize_5 : decode cX3_calendarSize 5 = .ok (.getfield 32, 3) := by decide +kernel
theorem dX3_calendarSize_8 : decode cX3_calendarSize 8 = .ok (.invokevirtual 133, 3) := by decide +kernel
theorem dX3_calendarSize_11 : decode cX3_calendarSize 11 = .ok (.ireturn, 1) := by decide +kernel
set_option maxRecDepth 20000 in
theorem ggX3_topChange_X2_number : GoodIn wsX3_topChange wsX2_number := goodIn_r _ [8, 9, 59, 60, 61, 62] (by decide +kernel) (by decide +kernel)
set_option maxRecDepth 20000 in
theorem gX3_topChange_X2_number : GoodIn wsX3_topChange (wsV RX3 89 RX2 yX2_number wsX2_number) := goodIn_app (goodIn_of _ (by decide +kernel)) ggX3_topChange_X2_number
set_option maxRecDepth 20000 in
theorem ggX3_topChange_X2_nextFirst : GoodIn wsX3_topChange wsX2_nextFirst := goodIn_r _ [13, 14, 15, 16, 17, 18, 19, 20, 21, 22, 7, 23, 24, 25, 26, 27, 28, 29, 30, 31, 32, 33, 34, 35, 36, 37, 38, 39, 40, 41, 42, 43, 44, 45, 46, 59, 60, 61, 62] (by decide +kernel) (by decide +kernel)
set_option maxRecDepth 20000 in
theorem gX3_topChange_X2_nextFirst : GoodIn wsX3_topChange (wsV RX3 138 RX2 yX2_nextFirst wsX2_nextFirst) := goodIn_app (goodIn_of _ (by decide +kernel)) ggX3_topChange_X2_nextFirst
set_option maxRecDepth 20000 in
theorem ggX3_topChange_X3_timeOrNotFound : GoodIn wsX3_topChange wsX3_timeOrNotFound := goodIn_r _ [50, 51, 52] (by decide +kernel) (by decide +kernel)
set_option maxRecDepth 20000 in
theorem gX3_topChange_X3_timeOrNotFound : GoodIn wsX3_topChange (va_wsS RX3 127 yX3_timeOrNotFound wsX3_timeOrNotFound) := goodIn_app (goodIn_of _ (by decide +kernel)) ggX3_topChange_X3_timeOrNotFound
theorem dX3_topChange_0 : decode cX3_topChange 0 = .ok (.aload_n 0, 1) := by decide +kernel
theorem dX3_topChange_1 : decode cX3_topChange 1 = .ok (.getfield 20, 3) := by decide +kernel
theorem dX3_topChange_4 : decode cX3_topChange 4 = .ok (.invokevirtual 89, 3) := by decide +kernel
theorem dX3_topChange_7 : decode cX3_topChange 7 = .ok (.ifCond .ne 7, 3) := by decide +kernel
theorem dX3_topChange_10 : decode cX3_topChange 10 = .ok (.ldc2_w 136, 3) := by decide +kernel
theorem dX3_topChange_13 : decode cX3_topChange 13 = .ok (.lreturn, 1) := by decide +kernel
theorem dX3_topChange_14 : decode cX3_topChange 14 = .ok (.aload_n 0, 1) := by decide +kernel
theorem dX3_topChange_15 : decode cX3_topChange 15 = .ok (.getfield 20, 3) := by decide +kernel
theorem dX3_topChange_18 : decode cX3_topChange 18 = .ok (.aload_n 0, 1) := by decide +kernel
theorem dX3_topChange_19 : decode cX3_topChange 19 = .ok (.getfield 32, 3) := by decide +kernel
theorem dX3_topChange_22 : decode cX3_topChange 22 = .ok (.invokevirtual 138, 3) := by decide +kernel
theorem dX3_topChange_25 : decode cX3_topChange 25 = .ok (.invokestatic 127, 3) := by decide +kernel
theorem dX3_topChange_28 : decode cX3_topChange 28 = .ok (.lreturn, 1) := by decide +kernel
set_option maxRecDepth 20000 in
theorem ggX3_meeting_X2_has : GoodIn wsX3_meeting wsX2_has := goodIn_r _ [8, 9, 44, 45, 46, 47] (by decide +kernel) (by decide +kernel)
set_option maxRecDepth 20000 in
theorem gX3_meeting_X2_has : GoodIn wsX3_meeting (wsV RX3 72 RX2 yX2_has wsX2_has) := goodIn_app (goodIn_of _ (by decide +kernel)) ggX3_meeting_X2_has
set_option maxRecDepth 20000 in
theorem ggX3_meeting_X2_isBefore : GoodIn wsX3_meeting wsX2_isBefore := goodIn_r _ [13, 14, 15, 16, 7, 17, 18, 19, 20, 5, 6, 8, 9, 44, 45, 46, 47] (by decide +kernel) (by decide +kernel)
set_option maxRecDepth 20000 in
theorem gX3_meeting_X2_isBefore : GoodIn wsX3_meeting (wsV RX3 141 RX2 yX2_isBefore wsX2_isBefore) := goodIn_app (goodIn_of _ (by decide +kernel)) ggX3_meeting_X2_isBefore
set_option maxRecDepth 20000 in
theorem ggX3_meeting_X2_endOfOrder : GoodIn wsX3_meeting wsX2_endOfOrder := goodIn_r _ [24, 25, 26, 27, 11, 12, 7, 13, 14, 15, 16, 17, 18, 19, 20, 5, 6, 8, 9, 28, 29, 30, 31, 44, 45, 46, 47] (by decide +kernel) (by decide +kernel)
set_option maxRecDepth 20000 in
theorem gX3_meeting_X2_endOfOrder : GoodIn wsX3_meeting (wsV RX3 145 RX2 yX2_endOfOrder wsX2_endOfOrder) := goodIn_app (goodIn_of _ (by decide +kernel)) ggX3_meeting_X2_endOfOrder
set_option maxRecDepth 20000 in
theorem ggX3_meeting_X3_timeOrNotFound : GoodIn wsX3_meeting wsX3_timeOrNotFound := goodIn_r _ [35, 36, 37] (by decide +kernel) (by decide +kernel)
set_option maxRecDepth 20000 in
theorem gX3_meeting_X3_timeOrNotFound : GoodIn wsX3_meeting (va_wsS RX3 127 yX3_timeOrNotFound wsX3_timeOrNotFound) := goodIn_app (goodIn_of _ (by decide +kernel)) ggX3_meeting_X3_timeOrNotFound
theorem dX3_meeting_0 : decode cX3_meeting 0 = .ok (.aload_n 0, 1) := by decide +kernel
theorem dX3_meeting_1 : decode cX3_meeting 1 = .ok (.getfield 20, 3) := by decide +kernel
theorem dX3_meeting_4 : decode cX3_meeting 4 = .ok (.iload_n 1, 1) := by decide +kernel
theorem dX3_meeting_5 : decode cX3_meeting 5 = .ok (.invokevirtual 72, 3) := by decide +kernel
theorem dX3_meeting_8 : decode cX3_meeting 8 = .ok (.ifCond .eq 19, 3) := by decide +kernel
theorem dX3_meeting_11 : decode cX3_meeting 11 = .ok (.aload_n 0, 1) := by decide +kernel
theorem dX3_meeting_12 : decode cX3_meeting 12 = .ok (.getfield 20, 3) := by decide +kernel
theorem dX3_meeting_15 : decode cX3_meeting 15 = .ok (.iload_n 2, 1) := by decide +kernel
theorem dX3_meeting_16 : decode cX3_meeting 16 = .ok (.invokevirtual 72, 3) := by decide +kernel
theorem dX3_meeting_19 : decode cX3_meeting 19 = .ok (.ifCond .eq 8, 3) := by decide +kernel
theorem dX3_meeting_22 : decode cX3_meeting 22 = .ok (.iload_n 1, 1) := by decide +kernel
theorem dX3_meeting_23 : decode cX3_meeting 23 = .ok (.iload_n 2, 1) := by decide +kernel
theorem dX3_meeting_24 : decode cX3_meeting 24 = .ok (.if_icmp .ne 7, 3) := by decide +kernel
theorem dX3_meeting_27 : decode cX3_meeting 27 = .ok (.ldc2_w 47, 3) := by decide +kernel
theorem dX3_meeting_30 : decode cX3_meeting 30 = .ok (.lreturn, 1) := by decide +kernel
theorem dX3_meeting_31 : decode cX3_meeting 31 = .ok (.aload_n 0, 1) := by decide +kernel
theorem dX3_meeting_32 : decode cX3_meeting 32 = .ok (.getfield 20, 3) := by decide +kernel
theorem dX3_meeting_35 : decode cX3_meeting 35 = .ok (.iload_n 1, 1) := by decide +kernel
theorem dX3_meeting_36 : decode cX3_meeting 36 = .ok (.iload_n 2, 1) := by decide +kernel
theorem dX3_meeting_37 : decode cX3_meeting 37 = .ok (.aload_n 0, 1) := by decide +kernel
theorem dX3_meeting_38 : decode cX3_meeting 38 = .ok (.getfield 32, 3) := by decide +kernel
theorem dX3_meeting_41 : decode cX3_meeting 41 = .ok (.invokevirtual 141, 3) := by decide +kernel
theorem dX3_meeting_44 : decode cX3_meeting 44 = .ok (.ifCond .eq 20, 3) := by decide +kernel
theorem dX3_meeting_47 : decode cX3_meeting 47 = .ok (.aload_n 0, 1) := by decide +kernel
theorem dX3_meeting_48 : decode cX3_meeting 48 = .ok (.getfield 20, 3) := by decide +kernel
theorem dX3_meeting_51 : decode cX3_meeting 51 = .ok (.iload_n 1, 1) := by decide +kernel
theorem dX3_meeting_52 : decode cX3_meeting 52 = .ok (.iload_n 2, 1) := by decide +kernel
theorem dX3_meeting_53 : decode cX3_meeting 53 = .ok (.aload_n 0, 1) := by decide +kernel
theorem dX3_meeting_54 : decode cX3_meeting 54 = .ok (.getfield 32, 3) := by decide +kernel
theorem dX3_meeting_57 : decode cX3_meeting 57 = .ok (.invokevirtual 145, 3) := by decide +kernel
theorem dX3_meeting_60 : decode cX3_meeting 60 = .ok (.invokestatic 127, 3) := by decide +kernel
theorem dX3_meeting_63 : decode cX3_meeting 63 = .ok (.lreturn, 1) := by decide +kernel
theorem dX3_meeting_64 : decode cX3_meeting 64 = .ok (.aload_n 0, 1) := by decide +kernel
theorem dX3_meeting_65 : decode cX3_meeting 65 = .ok (.getfield 20, 3) := by decide +kernel
theorem dX3_meeting_68 : decode cX3_meeting 68 = .ok (.iload_n 2, 1) := by decide +kernel
theorem dX3_meeting_69 : decode cX3_meeting 69 = .ok (.iload_n 1, 1) := by decide +kernel
theorem dX3_meeting_70 : decode cX3_meeting 70 = .ok (.aload_n 0, 1) := by decide +kernel
theorem dX3_meeting_71 : decode cX3_meeting 71 = .ok (.getfield 32, 3) := by decide +kernel
theorem dX3_meeting_74 : decode cX3_meeting 74 = .ok (.invokevirtual 145, 3) := by decide +kernel
theorem dX3_meeting_77 : decode cX3_meeting 77 = .ok (.invokestatic 127, 3) := by decide +kernel
theorem dX3_meeting_80 : decode cX3_meeting 80 = .ok (.lreturn, 1) := by decide +kernel
set_option maxRecDepth 20000 in
theorem ggX3_topAt_X3_momentError : GoodIn wsX3_topAt wsX3_momentError := goodIn_r _ [6, 7, 8, 1, 9, 10, 11, 12, 13, 14, 15, 70, 71, 72, 73, 74, 75, 76, 77, 78, 79, 80, 81, 82, 83, 84, 85] (by decide +kernel) (by decide +kernel)
set_option maxRecDepth 20000 in
theorem gX3_topAt_X3_momentError : GoodIn wsX3_topAt (wsV RX3 149 RX3 yX3_momentError wsX3_momentError) := goodIn_app (goodIn_of _ (by decide +kernel)) ggX3_topAt_X3_momentError
set_option maxRecDepth 20000 in
theorem ggX3_topAt_X1_stateAt : GoodIn wsX3_topAt wsX1_stateAt := goodIn_r _ [19, 20, 21, 22, 23, 24, 25, 26, 27, 28, 29, 30, 31, 32, 33, 34, 13, 35, 36, 37, 38, 39, 40, 41, 42, 43, 44, 45, 46, 47, 48, 49, 50, 51, 52, 53, 76, 77, 78, 79, 80, 81, 82, 83, 84, 85, 86, 87, 88, 89] (by decide +kernel) (by decide +kernel)
set_option maxRecDepth 20000 in
theorem gX3_topAt_X1_stateAt : GoodIn wsX3_topAt (wsV RX3 152 RX1 yX1_stateAt wsX1_stateAt) := goodIn_app (goodIn_of _ (by decide +kernel)) ggX3_topAt_X1_stateAt
set_option maxRecDepth 20000 in
theorem ggX3_topAt_X2_firstAt : GoodIn wsX3_topAt wsX2_firstAt := goodIn_r _ [57, 28, 58, 59, 60, 26, 61, 62, 63, 64, 65, 29, 30, 50, 51, 52, 53, 86, 87, 88, 89] (by decide +kernel) (by decide +kernel)
set_option maxRecDepth 20000 in
theorem gX3_topAt_X2_firstAt : GoodIn wsX3_topAt (wsV RX3 156 RX2 yX2_firstAt wsX2_firstAt) := goodIn_app (goodIn_of _ (by decide +kernel)) ggX3_topAt_X2_firstAt
set_option maxRecDepth 20000 in
theorem ggX3_topAt_X3_pointOrNotFound : GoodIn wsX3_topAt wsX3_pointOrNotFound := goodIn_r _ [68, 69] (by decide +kernel) (by decide +kernel)
set_option maxRecDepth 20000 in
theorem gX3_topAt_X3_pointOrNotFound : GoodIn wsX3_topAt (va_wsS RX3 102 yX3_pointOrNotFound wsX3_pointOrNotFound) := goodIn_app (goodIn_of _ (by decide +kernel)) ggX3_topAt_X3_pointOrNotFound
theorem dX3_topAt_0 : decode cX3_topAt 0 = .ok (.aload_n 0, 1) := by decide +kernel
theorem dX3_topAt_1 : decode cX3_topAt 1 = .ok (.iload_n 1, 1) := by decide +kernel
theorem dX3_topAt_2 : decode cX3_topAt 2 = .ok (.invokevirtual 149, 3) := by decide +kernel
theorem dX3_topAt_5 : decode cX3_topAt 5 = .ok (.lstore_n 2, 1) := by decide +kernel
theorem dX3_topAt_6 : decode cX3_topAt 6 = .ok (.lload_n 2, 1) := by decide +kernel
theorem dX3_topAt_7 : decode cX3_topAt 7 = .ok (.lconst 0, 1) := by decide +kernel
theorem dX3_topAt_8 : decode cX3_topAt 8 = .ok (.lcmp, 1) := by decide +kernel
theorem dX3_topAt_9 : decode cX3_topAt 9 = .ok (.ifCond .eq 5, 3) := by decide +kernel
theorem dX3_topAt_12 : decode cX3_topAt 12 = .ok (.lload_n 2, 1) := by decide +kernel
theorem dX3_topAt_13 : decode cX3_topAt 13 = .ok (.lreturn, 1) := by decide +kernel
theorem dX3_topAt_14 : decode cX3_topAt 14 = .ok (.aload_n 0, 1) := by decide +kernel
theorem dX3_topAt_15 : decode cX3_topAt 15 = .ok (.getfield 24, 3) := by decide +kernel
theorem dX3_topAt_18 : decode cX3_topAt 18 = .ok (.iload_n 1, 1) := by decide +kernel
theorem dX3_topAt_19 : decode cX3_topAt 19 = .ok (.invokevirtual 152, 3) := by decide +kernel
theorem dX3_topAt_22 : decode cX3_topAt 22 = .ok (.iload_n 1, 1) := by decide +kernel
theorem dX3_topAt_23 : decode cX3_topAt 23 = .ok (.invokevirtual 156, 3) := by decide +kernel
theorem dX3_topAt_26 : decode cX3_topAt 26 = .ok (.invokestatic 102, 3) := by decide +kernel
theorem dX3_topAt_29 : decode cX3_topAt 29 = .ok (.lreturn, 1) := by decide +kernel
set_option maxRecDepth 20000 in
theorem ggX3_valueAt_X3_momentError : GoodIn wsX3_valueAt wsX3_momentError := goodIn_r _ [8, 9, 1, 2, 10, 11, 12, 13, 14, 15, 16, 60, 61, 62, 63, 64, 65, 66, 67, 68, 69, 70, 71, 72, 73, 74, 75] (by decide +kernel) (by decide +kernel)
set_option maxRecDepth 20000 in
theorem gX3_valueAt_X3_momentError : GoodIn wsX3_valueAt (wsV RX3 149 RX3 yX3_momentError wsX3_momentError) := goodIn_app (goodIn_of _ (by decide +kernel)) ggX3_valueAt_X3_momentError
set_option maxRecDepth 20000 in
theorem ggX3_valueAt_X1_stateAt : GoodIn wsX3_valueAt wsX1_stateAt := goodIn_r _ [20, 21, 22, 23, 24, 25, 26, 27, 28, 29, 30, 31, 32, 33, 34, 35, 14, 36, 37, 38, 39, 40, 41, 42, 43, 44, 45, 46, 47, 48, 49, 50, 51, 52, 53, 54, 66, 67, 68, 69, 70, 71, 72, 73, 74, 75, 76, 77, 78, 79] (by decide +kernel) (by decide +kernel)
set_option maxRecDepth 20000 in
theorem gX3_valueAt_X1_stateAt : GoodIn wsX3_valueAt (wsV RX3 152 RX1 yX1_stateAt wsX1_stateAt) := goodIn_app (goodIn_of _ (by decide +kernel)) ggX3_valueAt_X1_stateAt
set_option maxRecDepth 20000 in
theorem ggX3_valueAt_X2_has : GoodIn wsX3_valueAt wsX2_has := goodIn_r _ [54, 29, 76, 77, 78, 79] (by decide +kernel) (by decide +kernel)
set_option maxRecDepth 20000 in
theorem gX3_valueAt_X2_has : GoodIn wsX3_valueAt (wsV RX3 72 RX2 yX2_has wsX2_has) := goodIn_app (goodIn_of _ (by decide +kernel)) ggX3_valueAt_X2_has
set_option maxRecDepth 20000 in
theorem ggX3_valueAt_X2_valueOf : GoodIn wsX3_valueAt wsX2_valueOf := goodIn_r _ [59, 30, 31, 51, 52, 53, 27, 54, 29, 76, 77, 78, 79] (by decide +kernel) (by decide +kernel)
set_option maxRecDepth 20000 in
theorem gX3_valueAt_X2_valueOf : GoodIn wsX3_valueAt (wsV RX3 75 RX2 yX2_valueOf wsX2_valueOf) := goodIn_app (goodIn_of _ (by decide +kernel)) ggX3_valueAt_X2_valueOf
theorem dX3_valueAt_0 : decode cX3_valueAt 0 = .ok (.iload_n 1, 1) := by decide +kernel
theorem dX3_valueAt_1 : decode cX3_valueAt 1 = .ok (.ifCond .lt 9, 3) := by decide +kernel
theorem dX3_valueAt_4 : decode cX3_valueAt 4 = .ok (.iload_n 1, 1) := by decide +kernel
theorem dX3_valueAt_5 : decode cX3_valueAt 5 = .ok (.bipush 24, 2) := by decide +kernel
theorem dX3_valueAt_7 : decode cX3_valueAt 7 = .ok (.if_icmp .lt 7, 3) := by decide +kernel
theorem dX3_valueAt_10 : decode cX3_valueAt 10 = .ok (.ldc2_w 47, 3) := by decide +kernel
theorem dX3_valueAt_13 : decode cX3_valueAt 13 = .ok (.lreturn, 1) := by decide +kernel
theorem dX3_valueAt_14 : decode cX3_valueAt 14 = .ok (.aload_n 0, 1) := by decide +kernel
theorem dX3_valueAt_15 : decode cX3_valueAt 15 = .ok (.iload_n 2, 1) := by decide +kernel
theorem dX3_valueAt_16 : decode cX3_valueAt 16 = .ok (.invokevirtual 149, 3) := by decide +kernel
theorem dX3_valueAt_19 : decode cX3_valueAt 19 = .ok (.lstore_n 3, 1) := by decide +kernel
theorem dX3_valueAt_20 : decode cX3_valueAt 20 = .ok (.lload_n 3, 1) := by decide +kernel
theorem dX3_valueAt_21 : decode cX3_valueAt 21 = .ok (.lconst 0, 1) := by decide +kernel
theorem dX3_valueAt_22 : decode cX3_valueAt 22 = .ok (.lcmp, 1) := by decide +kernel
theorem dX3_valueAt_23 : decode cX3_valueAt 23 = .ok (.ifCond .eq 5, 3) := by decide +kernel
theorem dX3_valueAt_26 : decode cX3_valueAt 26 = .ok (.lload_n 3, 1) := by decide +kernel
theorem dX3_valueAt_27 : decode cX3_valueAt 27 = .ok (.lreturn, 1) := by decide +kernel
theorem dX3_valueAt_28 : decode cX3_valueAt 28 = .ok (.aload_n 0, 1) := by decide +kernel
theorem dX3_valueAt_29 : decode cX3_valueAt 29 = .ok (.getfield 24, 3) := by decide +kernel
theorem dX3_valueAt_32 : decode cX3_valueAt 32 = .ok (.iload_n 2, 1) := by decide +kernel
theorem dX3_valueAt_33 : decode cX3_valueAt 33 = .ok (.invokevirtual 152, 3) := by decide +kernel
theorem dX3_valueAt_36 : decode cX3_valueAt 36 = .ok (.astore 5, 2) := by decide +kernel
theorem dX3_valueAt_38 : decode cX3_valueAt 38 = .ok (.aload 5, 2) := by decide +kernel
theorem dX3_valueAt_40 : decode cX3_valueAt 40 = .ok (.iload_n 1, 1) := by decide +kernel
theorem dX3_valueAt_41 : decode cX3_valueAt 41 = .ok (.invokevirtual 72, 3) := by decide +kernel
theorem dX3_valueAt_44 : decode cX3_valueAt 44 = .ok (.ifCond .eq 13, 3) := by decide +kernel
theorem dX3_valueAt_47 : decode cX3_valueAt 47 = .ok (.aload 5, 2) := by decide +kernel
theorem dX3_valueAt_49 : decode cX3_valueAt 49 = .ok (.iload_n 1, 1) := by decide +kernel
theorem dX3_valueAt_50 : decode cX3_valueAt 50 = .ok (.iload_n 2, 1) := by decide +kernel
theorem dX3_valueAt_51 : decode cX3_valueAt 51 = .ok (.invokevirtual 75, 3) := by decide +kernel
theorem dX3_valueAt_54 : decode cX3_valueAt 54 = .ok (.goto 6, 3) := by decide +kernel
theorem dX3_valueAt_57 : decode cX3_valueAt 57 = .ok (.ldc2_w 113, 3) := by decide +kernel
theorem dX3_valueAt_60 : decode cX3_valueAt 60 = .ok (.lreturn, 1) := by decide +kernel
set_option maxRecDepth 20000 in
theorem ggX3_orderAt_X3_momentError : GoodIn wsX3_orderAt wsX3_momentError := goodIn_r _ [7, 8, 1, 2, 9, 10, 11, 12, 13, 14, 15, 74, 75, 76, 77, 78, 79, 80, 81, 82, 83, 84, 85, 86, 87, 88, 89] (by decide +kernel) (by decide +kernel)
set_option maxRecDepth 20000 in
theorem gX3_orderAt_X3_momentError : GoodIn wsX3_orderAt (wsV RX3 149 RX3 yX3_momentError wsX3_momentError) := goodIn_app (goodIn_of _ (by decide +kernel)) ggX3_orderAt_X3_momentError
set_option maxRecDepth 20000 in
theorem ggX3_orderAt_X1_stateAt : GoodIn wsX3_orderAt wsX1_stateAt := goodIn_r _ [19, 20, 21, 22, 23, 24, 25, 26, 27, 28, 29, 30, 31, 32, 33, 34, 13, 35, 36, 37, 38, 39, 40, 41, 42, 43, 44, 45, 46, 47, 48, 49, 50, 51, 52, 53, 80, 81, 82, 83, 84, 85, 86, 87, 88, 89, 90, 91, 92, 93] (by decide +kernel) (by decide +kernel)
set_option maxRecDepth 20000 in
theorem gX3_orderAt_X1_stateAt : GoodIn wsX3_orderAt (wsV RX3 152 RX1 yX1_stateAt wsX1_stateAt) := goodIn_app (goodIn_of _ (by decide +kernel)) ggX3_orderAt_X1_stateAt
set_option maxRecDepth 20000 in
theorem ggX3_orderAt_X2_pointOfRank : GoodIn wsX3_orderAt wsX2_pointOfRank := goodIn_r _ [57, 28, 58, 59, 60, 26, 61, 62, 63, 64, 65, 66, 67, 68, 69, 29, 30, 50, 51, 52, 53, 90, 91, 92, 93] (by decide +kernel) (by decide +kernel)
set_option maxRecDepth 20000 in
theorem gX3_orderAt_X2_pointOfRank : GoodIn wsX3_orderAt (wsV RX3 159 RX2 yX2_pointOfRank wsX2_pointOfRank) := goodIn_app (goodIn_of _ (by decide +kernel)) ggX3_orderAt_X2_pointOfRank
set_option maxRecDepth 20000 in
theorem ggX3_orderAt_X3_pointOrNotFound : GoodIn wsX3_orderAt wsX3_pointOrNotFound := goodIn_r _ [72, 73] (by decide +kernel) (by decide +kernel)
set_option maxRecDepth 20000 in
theorem gX3_orderAt_X3_pointOrNotFound : GoodIn wsX3_orderAt (va_wsS RX3 102 yX3_pointOrNotFound wsX3_pointOrNotFound) := goodIn_app (goodIn_of _ (by decide +kernel)) ggX3_orderAt_X3_pointOrNotFound
theorem dX3_orderAt_0 : decode cX3_orderAt 0 = .ok (.iload_n 1, 1) := by decide +kernel
theorem dX3_orderAt_1 : decode cX3_orderAt 1 = .ok (.ifCond .ge 7, 3) := by decide +kernel
theorem dX3_orderAt_4 : decode cX3_orderAt 4 = .ok (.ldc2_w 47, 3) := by decide +kernel
theorem dX3_orderAt_7 : decode cX3_orderAt 7 = .ok (.lreturn, 1) := by decide +kernel
theorem dX3_orderAt_8 : decode cX3_orderAt 8 = .ok (.aload_n 0, 1) := by decide +kernel
theorem dX3_orderAt_9 : decode cX3_orderAt 9 = .ok (.iload_n 2, 1) := by decide +kernel
theorem dX3_orderAt_10 : decode cX3_orderAt 10 = .ok (.invokevirtual 149, 3) := by decide +kernel
theorem dX3_orderAt_13 : decode cX3_orderAt 13 = .ok (.lstore_n 3, 1) := by decide +kernel
theorem dX3_orderAt_14 : decode cX3_orderAt 14 = .ok (.lload_n 3, 1) := by decide +kernel
theorem dX3_orderAt_15 : decode cX3_orderAt 15 = .ok (.lconst 0, 1) := by decide +kernel
theorem dX3_orderAt_16 : decode cX3_orderAt 16 = .ok (.lcmp, 1) := by decide +kernel
theorem dX3_orderAt_17 : decode cX3_orderAt 17 = .ok (.ifCond .eq 5, 3) := by decide +kernel
theorem dX3_orderAt_20 : decode cX3_orderAt 20 = .ok (.lload_n 3, 1) := by decide +kernel
theorem dX3_orderAt_21 : decode cX3_orderAt 21 = .ok (.lreturn, 1) := by decide +kernel
theorem dX3_orderAt_22 : decode cX3_orderAt 22 = .ok (.aload_n 0, 1) := by decide +kernel
theorem dX3_orderAt_23 : decode cX3_orderAt 23 = .ok (.getfield 24, 3) := by decide +kernel
theorem dX3_orderAt_26 : decode cX3_orderAt 26 = .ok (.iload_n 2, 1) := by decide +kernel
theorem dX3_orderAt_27 : decode cX3_orderAt 27 = .ok (.invokevirtual 152, 3) := by decide +kernel
theorem dX3_orderAt_30 : decode cX3_orderAt 30 = .ok (.iload_n 1, 1) := by decide +kernel
theorem dX3_orderAt_31 : decode cX3_orderAt 31 = .ok (.iload_n 2, 1) := by decide +kernel
theorem dX3_orderAt_32 : decode cX3_orderAt 32 = .ok (.invokevirtual 159, 3) := by decide +kernel
theorem dX3_orderAt_35 : decode cX3_orderAt 35 = .ok (.invokestatic 102, 3) := by decide +kernel
theorem dX3_orderAt_38 : decode cX3_orderAt 38 = .ok (.lreturn, 1) := by decide +kernel
set_option maxRecDepth 20000 in
theorem ggX3_sizeAt_X3_momentError : GoodIn wsX3_sizeAt wsX3_momentError := goodIn_r _ [6, 7, 8, 1, 9, 10, 11, 12, 13, 14, 15, 58, 59, 60, 61, 62, 63, 64, 65, 66, 67, 68, 69, 70, 71, 72, 73] (by decide +kernel) (by decide +kernel)
set_option maxRecDepth 20000 in
theorem gX3_sizeAt_X3_momentError : GoodIn wsX3_sizeAt (wsV RX3 149 RX3 yX3_momentError wsX3_momentError) := goodIn_app (goodIn_of _ (by decide +kernel)) ggX3_sizeAt_X3_momentError
set_option maxRecDepth 20000 in
theorem ggX3_sizeAt_X1_stateAt : GoodIn wsX3_sizeAt wsX1_stateAt := goodIn_r _ [19, 20, 21, 22, 23, 24, 25, 26, 27, 28, 29, 30, 31, 32, 33, 34, 13, 35, 36, 37, 38, 39, 40, 41, 42, 43, 44, 45, 46, 47, 48, 49, 50, 51, 52, 53, 64, 65, 66, 67, 68, 69, 70, 71, 72, 73, 74, 75, 76, 77] (by decide +kernel) (by decide +kernel)
set_option maxRecDepth 20000 in
theorem gX3_sizeAt_X1_stateAt : GoodIn wsX3_sizeAt (wsV RX3 152 RX1 yX1_stateAt wsX1_stateAt) := goodIn_app (goodIn_of _ (by decide +kernel)) ggX3_sizeAt_X1_stateAt
set_option maxRecDepth 20000 in
theorem ggX3_sizeAt_X2_number : GoodIn wsX3_sizeAt wsX2_number := goodIn_r _ [57, 31, 74, 75, 76, 77] (by decide +kernel) (by decide +kernel)
set_option maxRecDepth 20000 in
theorem gX3_sizeAt_X2_number : GoodIn wsX3_sizeAt (wsV RX3 89 RX2 yX2_number wsX2_number) := goodIn_app (goodIn_of _ (by decide +kernel)) ggX3_sizeAt_X2_number
theorem dX3_sizeAt_0 : decode cX3_sizeAt 0 = .ok (.aload_n 0, 1) := by decide +kernel
theorem dX3_sizeAt_1 : decode cX3_sizeAt 1 = .ok (.iload_n 1, 1) := by decide +kernel
theorem dX3_sizeAt_2 : decode cX3_sizeAt 2 = .ok (.invokevirtual 149, 3) := by decide +kernel
theorem dX3_sizeAt_5 : decode cX3_sizeAt 5 = .ok (.lstore_n 2, 1) := by decide +kernel
theorem dX3_sizeAt_6 : decode cX3_sizeAt 6 = .ok (.lload_n 2, 1) := by decide +kernel
theorem dX3_sizeAt_7 : decode cX3_sizeAt 7 = .ok (.lconst 0, 1) := by decide +kernel
theorem dX3_sizeAt_8 : decode cX3_sizeAt 8 = .ok (.lcmp, 1) := by decide +kernel
theorem dX3_sizeAt_9 : decode cX3_sizeAt 9 = .ok (.ifCond .eq 5, 3) := by decide +kernel
theorem dX3_sizeAt_12 : decode cX3_sizeAt 12 = .ok (.lload_n 2, 1) := by decide +kernel
theorem dX3_sizeAt_13 : decode cX3_sizeAt 13 = .ok (.lreturn, 1) := by decide +kernel
theorem dX3_sizeAt_14 : decode cX3_sizeAt 14 = .ok (.aload_n 0, 1) := by decide +kernel
theorem dX3_sizeAt_15 : decode cX3_sizeAt 15 = .ok (.getfield 24, 3) := by decide +kernel
theorem dX3_sizeAt_18 : decode cX3_sizeAt 18 = .ok (.iload_n 1, 1) := by decide +kernel
theorem dX3_sizeAt_19 : decode cX3_sizeAt 19 = .ok (.invokevirtual 152, 3) := by decide +kernel
theorem dX3_sizeAt_22 : decode cX3_sizeAt 22 = .ok (.invokevirtual 89, 3) := by decide +kernel
theorem dX3_sizeAt_25 : decode cX3_sizeAt 25 = .ok (.i2l, 1) := by decide +kernel
theorem dX3_sizeAt_26 : decode cX3_sizeAt 26 = .ok (.lreturn, 1) := by decide +kernel
set_option maxRecDepth 20000 in
theorem ggX3_topChanges_X3_spanError : GoodIn wsX3_topChanges wsX3_spanError := goodIn_r _ [10, 11, 12, 13, 14, 15, 9, 16, 1, 17, 18, 19, 20, 21, 22, 23, 96, 97, 98, 99, 100, 101, 102, 103, 104, 105, 106, 107, 108, 109, 110, 111] (by decide +kernel) (by decide +kernel)
set_option maxRecDepth 20000 in
theorem gX3_topChanges_X3_spanError : GoodIn wsX3_topChanges (wsV RX3 162 RX3 yX3_spanError wsX3_spanError) := goodIn_app (goodIn_of _ (by decide +kernel)) ggX3_topChanges_X3_spanError
set_option maxRecDepth 20000 in
theorem ggX3_topChanges_X1_stateAt : GoodIn wsX3_topChanges wsX1_stateAt := goodIn_r _ [27, 28, 29, 30, 31, 32, 33, 34, 35, 36, 37, 38, 39, 40, 41, 42, 21, 43, 44, 45, 46, 47, 48, 49, 50, 51, 52, 53, 54, 55, 56, 57, 58, 59, 60, 61, 102, 103, 104, 105, 106, 107, 108, 109, 110, 111, 112, 113, 114, 115] (by decide +kernel) (by decide +kernel)
set_option maxRecDepth 20000 in
theorem gX3_topChanges_X1_stateAt : GoodIn wsX3_topChanges (wsV RX3 152 RX1 yX1_stateAt wsX1_stateAt) := goodIn_app (goodIn_of _ (by decide +kernel)) ggX3_topChanges_X1_stateAt
set_option maxRecDepth 20000 in
theorem ggX3_topChanges_X2_firstAt : GoodIn wsX3_topChanges wsX2_firstAt := goodIn_r _ [65, 36, 66, 67, 68, 34, 69, 70, 71, 72, 73, 37, 38, 58, 59, 60, 61, 112, 113, 114, 115] (by decide +kernel) (by decide +kernel)
set_option maxRecDepth 20000 in
theorem gX3_topChanges_X2_firstAt : GoodIn wsX3_topChanges (wsV RX3 156 RX2 yX2_firstAt wsX2_firstAt) := goodIn_app (goodIn_of _ (by decide +kernel)) ggX3_topChanges_X2_firstAt
set_option maxRecDepth 20000 in
theorem ggX3_topChanges_X1_nextOperation : GoodIn wsX3_topChanges wsX1_nextOperation := goodIn_r _ [77, 30, 44, 45, 78, 102, 103, 104, 105, 106, 107, 108, 109, 110, 111] (by decide +kernel) (by decide +kernel)
set_option maxRecDepth 20000 in
theorem gX3_topChanges_X1_nextOperation : GoodIn wsX3_topChanges (wsV RX3 166 RX1 yX1_nextOperation wsX1_nextOperation) := goodIn_app (goodIn_of _ (by decide +kernel)) ggX3_topChanges_X1_nextOperation
set_option maxRecDepth 20000 in
theorem ggX3_topChanges_X2_nextFirst : GoodIn wsX3_topChanges wsX2_nextFirst := goodIn_r _ [82, 83, 36, 84, 3, 4, 5, 85, 63, 64, 34, 65, 66, 67, 68, 69, 70, 71, 72, 73, 37, 38, 58, 59, 60, 61, 86, 87, 88, 89, 90, 91, 92, 93, 94, 112, 113, 114, 115] (by decide +kernel) (by decide +kernel)
set_option maxRecDepth 20000 in
theorem gX3_topChanges_X2_nextFirst : GoodIn wsX3_topChanges (wsV RX3 138 RX2 yX2_nextFirst wsX2_nextFirst) := goodIn_app (goodIn_of _ (by decide +kernel)) ggX3_topChanges_X2_nextFirst
set_option maxRecDepth 20000 in
theorem ggX3_topChanges_X1_advance : GoodIn wsX3_topChanges wsX1_advance := goodIn_r _ [43, 30, 44, 45, 46, 28, 47, 48, 49, 50, 51, 52, 34, 53, 36, 39, 37, 38, 54, 55, 56, 57, 58, 59, 60, 61, 102, 103, 104, 105, 106, 107, 108, 109, 110, 111, 112, 113, 114, 115] (by decide +kernel) (by decide +kernel)
set_option maxRecDepth 20000 in
theorem gX3_topChanges_X1_advance : GoodIn wsX3_topChanges (wsV RX3 174 RX1 yX1_advance wsX1_advance) := goodIn_app (goodIn_of _ (by decide +kernel)) ggX3_topChanges_X1_advance
theorem dX3_topChanges_0 : decode cX3_topChanges 0 = .ok (.aload_n 0, 1) := by decide +kernel
theorem dX3_topChanges_1 : decode cX3_topChanges 1 = .ok (.iload_n 1, 1) := by decide +kernel
theorem dX3_topChanges_2 : decode cX3_topChanges 2 = .ok (.iload_n 2, 1) := by decide +kernel
theorem dX3_topChanges_3 : decode cX3_topChanges 3 = .ok (.iconst 1, 1) := by decide +kernel
theorem dX3_topChanges_4 : decode cX3_topChanges 4 = .ok (.invokevirtual 162, 3) := by decide +kernel
theorem dX3_topChanges_7 : decode cX3_topChanges 7 = .ok (.lstore_n 3, 1) := by decide +kernel
theorem dX3_topChanges_8 : decode cX3_topChanges 8 = .ok (.lload_n 3, 1) := by decide +kernel
theorem dX3_topChanges_9 : decode cX3_topChanges 9 = .ok (.lconst 0, 1) := by decide +kernel
theorem dX3_topChanges_10 : decode cX3_topChanges 10 = .ok (.lcmp, 1) := by decide +kernel
theorem dX3_topChanges_11 : decode cX3_topChanges 11 = .ok (.ifCond .eq 5, 3) := by decide +kernel
theorem dX3_topChanges_14 : decode cX3_topChanges 14 = .ok (.lload_n 3, 1) := by decide +kernel
theorem dX3_topChanges_15 : decode cX3_topChanges 15 = .ok (.lreturn, 1) := by decide +kernel
theorem dX3_topChanges_16 : decode cX3_topChanges 16 = .ok (.aload_n 0, 1) := by decide +kernel
theorem dX3_topChanges_17 : decode cX3_topChanges 17 = .ok (.getfield 24, 3) := by decide +kernel
theorem dX3_topChanges_20 : decode cX3_topChanges 20 = .ok (.iload_n 1, 1) := by decide +kernel
theorem dX3_topChanges_21 : decode cX3_topChanges 21 = .ok (.iconst 1, 1) := by decide +kernel
theorem dX3_topChanges_22 : decode cX3_topChanges 22 = .ok (.isub, 1) := by decide +kernel
theorem dX3_topChanges_23 : decode cX3_topChanges 23 = .ok (.invokevirtual 152, 3) := by decide +kernel
theorem dX3_topChanges_26 : decode cX3_topChanges 26 = .ok (.astore 5, 2) := by decide +kernel
theorem dX3_topChanges_28 : decode cX3_topChanges 28 = .ok (.aload 5, 2) := by decide +kernel
theorem dX3_topChanges_30 : decode cX3_topChanges 30 = .ok (.iload_n 1, 1) := by decide +kernel
theorem dX3_topChanges_31 : decode cX3_topChanges 31 = .ok (.iconst 1, 1) := by decide +kernel
theorem dX3_topChanges_32 : decode cX3_topChanges 32 = .ok (.isub, 1) := by decide +kernel
theorem dX3_topChanges_33 : decode cX3_topChanges 33 = .ok (.invokevirtual 156, 3) := by decide +kernel
theorem dX3_topChanges_36 : decode cX3_topChanges 36 = .ok (.istore 6, 2) := by decide +kernel
theorem dX3_topChanges_38 : decode cX3_topChanges 38 = .ok (.aload_n 0, 1) := by decide +kernel
theorem dX3_topChanges_39 : decode cX3_topChanges 39 = .ok (.getfield 24, 3) := by decide +kernel
theorem dX3_topChanges_42 : decode cX3_topChanges 42 = .ok (.invokevirtual 166, 3) := by decide +kernel
theorem dX3_topChanges_45 : decode cX3_topChanges 45 = .ok (.aload 5, 2) := by decide +kernel
theorem dX3_topChanges_47 : decode cX3_topChanges 47 = .ok (.iload_n 1, 1) := by decide +kernel
theorem dX3_topChanges_48 : decode cX3_topChanges 48 = .ok (.iconst 1, 1) := by decide +kernel
theorem dX3_topChanges_49 : decode cX3_topChanges 49 = .ok (.isub, 1) := by decide +kernel
theorem dX3_topChanges_50 : decode cX3_topChanges 50 = .ok (.invokevirtual 138, 3) := by decide +kernel
theorem dX3_topChanges_53 : decode cX3_topChanges 53 = .ok (.invokestatic 169, 3) := by decide +kernel
theorem dX3_topChanges_56 : decode cX3_topChanges 56 = .ok (.istore 7, 2) := by decide +kernel
theorem dX3_topChanges_58 : decode cX3_topChanges 58 = .ok (.lconst 0, 1) := by decide +kernel
theorem dX3_topChanges_59 : decode cX3_topChanges 59 = .ok (.lstore 8, 2) := by decide +kernel
theorem dX3_topChanges_61 : decode cX3_topChanges 61 = .ok (.iload_n 1, 1) := by decide +kernel
theorem dX3_topChanges_62 : decode cX3_topChanges 62 = .ok (.istore 10, 2) := by decide +kernel
theorem dX3_topChanges_64 : decode cX3_topChanges 64 = .ok (.iload 10, 2) := by decide +kernel
theorem dX3_topChanges_66 : decode cX3_topChanges 66 = .ok (.iload_n 2, 1) := by decide +kernel
theorem dX3_topChanges_67 : decode cX3_topChanges 67 = .ok (.if_icmp .gt 70, 3) := by decide +kernel
theorem dX3_topChanges_70 : decode cX3_topChanges 70 = .ok (.iload 10, 2) := by decide +kernel
theorem dX3_topChanges_72 : decode cX3_topChanges 72 = .ok (.iload 7, 2) := by decide +kernel
theorem dX3_topChanges_74 : decode cX3_topChanges 74 = .ok (.if_icmp .lt 57, 3) := by decide +kernel
theorem dX3_topChanges_77 : decode cX3_topChanges 77 = .ok (.aload_n 0, 1) := by decide +kernel
theorem dX3_topChanges_78 : decode cX3_topChanges 78 = .ok (.getfield 24, 3) := by decide +kernel
theorem dX3_topChanges_81 : decode cX3_topChanges 81 = .ok (.iload 10, 2) := by decide +kernel
theorem dX3_topChanges_83 : decode cX3_topChanges 83 = .ok (.invokevirtual 174, 3) := by decide +kernel
theorem dX3_topChanges_86 : decode cX3_topChanges 86 = .ok (.aload 5, 2) := by decide +kernel
theorem dX3_topChanges_88 : decode cX3_topChanges 88 = .ok (.iload 10, 2) := by decide +kernel
theorem dX3_topChanges_90 : decode cX3_topChanges 90 = .ok (.invokevirtual 156, 3) := by decide +kernel
theorem dX3_topChanges_93 : decode cX3_topChanges 93 = .ok (.istore 11, 2) := by decide +kernel
theorem dX3_topChanges_95 : decode cX3_topChanges 95 = .ok (.iload 11, 2) := by decide +kernel
theorem dX3_topChanges_97 : decode cX3_topChanges 97 = .ok (.iload 6, 2) := by decide +kernel
theorem dX3_topChanges_99 : decode cX3_topChanges 99 = .ok (.if_icmp .eq 9, 3) := by decide +kernel
theorem dX3_topChanges_102 : decode cX3_topChanges 102 = .ok (.lload 8, 2) := by decide +kernel
theorem dX3_topChanges_104 : decode cX3_topChanges 104 = .ok (.lconst 1, 1) := by decide +kernel
theorem dX3_topChanges_105 : decode cX3_topChanges 105 = .ok (.ladd, 1) := by decide +kernel
theorem dX3_topChanges_106 : decode cX3_topChanges 106 = .ok (.lstore 8, 2) := by decide +kernel
theorem dX3_topChanges_108 : decode cX3_topChanges 108 = .ok (.iload 11, 2) := by decide +kernel
theorem dX3_topChanges_110 : decode cX3_topChanges 110 = .ok (.istore 6, 2) := by decide +kernel
theorem dX3_topChanges_112 : decode cX3_topChanges 112 = .ok (.aload_n 0, 1) := by decide +kernel
theorem dX3_topChanges_113 : decode cX3_topChanges 113 = .ok (.getfield 24, 3) := by decide +kernel
theorem dX3_topChanges_116 : decode cX3_topChanges 116 = .ok (.invokevirtual 166, 3) := by decide +kernel
theorem dX3_topChanges_119 : decode cX3_topChanges 119 = .ok (.aload 5, 2) := by decide +kernel
theorem dX3_topChanges_121 : decode cX3_topChanges 121 = .ok (.iload 10, 2) := by decide +kernel
theorem dX3_topChanges_123 : decode cX3_topChanges 123 = .ok (.invokevirtual 138, 3) := by decide +kernel
theorem dX3_topChanges_126 : decode cX3_topChanges 126 = .ok (.invokestatic 169, 3) := by decide +kernel
theorem dX3_topChanges_129 : decode cX3_topChanges 129 = .ok (.istore 7, 2) := by decide +kernel
theorem dX3_topChanges_131 : decode cX3_topChanges 131 = .ok (.iinc 10 1, 3) := by decide +kernel
theorem dX3_topChanges_134 : decode cX3_topChanges 134 = .ok (.goto (-70), 3) := by decide +kernel
theorem dX3_topChanges_137 : decode cX3_topChanges 137 = .ok (.lload 8, 2) := by decide +kernel
theorem dX3_topChanges_139 : decode cX3_topChanges 139 = .ok (.lreturn, 1) := by decide +kernel
set_option maxRecDepth 20000 in
theorem ggX3_forget_X1_operations : GoodIn wsX3_forget wsX1_operations := goodIn_r _ [8, 9, 32, 33, 34, 35, 36, 37, 38, 39, 40, 41] (by decide +kernel) (by decide +kernel)
set_option maxRecDepth 20000 in
theorem gX3_forget_X1_operations : GoodIn wsX3_forget (wsV RX3 185 RX1 yX1_operations wsX1_operations) := goodIn_app (goodIn_of _ (by decide +kernel)) ggX3_forget_X1_operations
set_option maxRecDepth 20000 in
theorem ggX3_forget_X1_restart : GoodIn wsX3_forget wsX1_restart := goodIn_r _ [13, 14, 9, 15, 16, 17, 18, 19, 20, 21, 22, 23, 24, 25, 32, 33, 34, 35, 36, 37, 38, 39, 40, 41, 42, 43, 44, 45] (by decide +kernel) (by decide +kernel)
set_option maxRecDepth 20000 in
theorem gX3_forget_X1_restart : GoodIn wsX3_forget (wsV RX3 188 RX1 yX1_restart wsX1_restart) := goodIn_app (goodIn_of _ (by decide +kernel)) ggX3_forget_X1_restart
theorem dX3_forget_0 : decode cX3_forget 0 = .ok (.aload_n 0, 1) := by decide +kernel
theorem dX3_forget_1 : decode cX3_forget 1 = .ok (.getfield 24, 3) := by decide +kernel
theorem dX3_forget_4 : decode cX3_forget 4 = .ok (.invokevirtual 185, 3) := by decide +kernel
theorem dX3_forget_7 : decode cX3_forget 7 = .ok (.istore_n 1, 1) := by decide +kernel
theorem dX3_forget_8 : decode cX3_forget 8 = .ok (.aload_n 0, 1) := by decide +kernel
theorem dX3_forget_9 : decode cX3_forget 9 = .ok (.getfield 24, 3) := by decide +kernel
theorem dX3_forget_12 : decode cX3_forget 12 = .ok (.aload_n 0, 1) := by decide +kernel
theorem dX3_forget_13 : decode cX3_forget 13 = .ok (.getfield 20, 3) := by decide +kernel
theorem dX3_forget_16 : decode cX3_forget 16 = .ok (.aload_n 0, 1) := by decide +kernel
theorem dX3_forget_17 : decode cX3_forget 17 = .ok (.getfield 32, 3) := by decide +kernel
theorem dX3_forget_20 : decode cX3_forget 20 = .ok (.invokevirtual 188, 3) := by decide +kernel
theorem dX3_forget_23 : decode cX3_forget 23 = .ok (.iload_n 1, 1) := by decide +kernel
theorem dX3_forget_24 : decode cX3_forget 24 = .ok (.ireturn, 1) := by decide +kernel
theorem dX3_isValue_0 : decode cX3_isValue 0 = .ok (.iload_n 0, 1) := by decide +kernel
theorem dX3_isValue_1 : decode cX3_isValue 1 = .ok (.ldc 192, 2) := by decide +kernel
theorem dX3_isValue_3 : decode cX3_isValue 3 = .ok (.if_icmp .lt 13, 3) := by decide +kernel
theorem dX3_isValue_6 : decode cX3_isValue 6 = .ok (.iload_n 0, 1) := by decide +kernel
theorem dX3_isValue_7 : decode cX3_isValue 7 = .ok (.ldc 193, 2) := by decide +kernel
theorem dX3_isValue_9 : decode cX3_isValue 9 = .ok (.if_icmp .gt 7, 3) := by decide +kernel
theorem dX3_isValue_12 : decode cX3_isValue 12 = .ok (.iconst 1, 1) := by decide +kernel
theorem dX3_isValue_13 : decode cX3_isValue 13 = .ok (.goto 4, 3) := by decide +kernel
theorem dX3_isValue_16 : decode cX3_isValue 16 = .ok (.iconst 0, 1) := by decide +kernel
theorem dX3_isValue_17 : decode cX3_isValue 17 = .ok (.ireturn, 1) := by decide +kernel
theorem dX3_isVelocity_0 : decode cX3_isVelocity 0 = .ok (.iload_n 0, 1) := by decide +kernel
theorem dX3_isVelocity_1 : decode cX3_isVelocity 1 = .ok (.sipush (-1000), 3) := by decide +kernel
theorem dX3_isVelocity_4 : decode cX3_isVelocity 4 = .ok (.if_icmp .lt 14, 3) := by decide +kernel
theorem dX3_isVelocity_7 : decode cX3_isVelocity 7 = .ok (.iload_n 0, 1) := by decide +kernel
theorem dX3_isVelocity_8 : decode cX3_isVelocity 8 = .ok (.sipush 1000, 3) := by decide +kernel
theorem dX3_isVelocity_11 : decode cX3_isVelocity 11 = .ok (.if_icmp .gt 7, 3) := by decide +kernel
theorem dX3_isVelocity_14 : decode cX3_isVelocity 14 = .ok (.iconst 1, 1) := by decide +kernel
theorem dX3_isVelocity_15 : decode cX3_isVelocity 15 = .ok (.goto 4, 3) := by decide +kernel
theorem dX3_isVelocity_18 : decode cX3_isVelocity 18 = .ok (.iconst 0, 1) := by decide +kernel
theorem dX3_isVelocity_19 : decode cX3_isVelocity 19 = .ok (.ireturn, 1) := by decide +kernel
theorem dX3_timeOrNotFound_0 : decode cX3_timeOrNotFound 0 = .ok (.iload_n 0, 1) := by decide +kernel
theorem dX3_timeOrNotFound_1 : decode cX3_timeOrNotFound 1 = .ok (.ldc 194, 2) := by decide +kernel
theorem dX3_timeOrNotFound_3 : decode cX3_timeOrNotFound 3 = .ok (.if_icmp .ne 9, 3) := by decide +kernel
theorem dX3_timeOrNotFound_6 : decode cX3_timeOrNotFound 6 = .ok (.ldc2_w 113, 3) := by decide +kernel
theorem dX3_timeOrNotFound_9 : decode cX3_timeOrNotFound 9 = .ok (.goto 5, 3) := by decide +kernel
theorem dX3_timeOrNotFound_12 : decode cX3_timeOrNotFound 12 = .ok (.iload_n 0, 1) := by decide +kernel
theorem dX3_timeOrNotFound_13 : decode cX3_timeOrNotFound 13 = .ok (.i2l, 1) := by decide +kernel
theorem dX3_timeOrNotFound_14 : decode cX3_timeOrNotFound 14 = .ok (.lreturn, 1) := by decide +kernel
theorem dX3_pointOrNotFound_0 : decode cX3_pointOrNotFound 0 = .ok (.iload_n 0, 1) := by decide +kernel
theorem dX3_pointOrNotFound_1 : decode cX3_pointOrNotFound 1 = .ok (.iconst (-1), 1) := by decide +kernel
theorem dX3_pointOrNotFound_2 : decode cX3_pointOrNotFound 2 = .ok (.if_icmp .ne 9, 3) := by decide +kernel
theorem dX3_pointOrNotFound_5 : decode cX3_pointOrNotFound 5 = .ok (.ldc2_w 113, 3) := by decide +kernel
theorem dX3_pointOrNotFound_8 : decode cX3_pointOrNotFound 8 = .ok (.goto 5, 3) := by decide +kernel
theorem dX3_pointOrNotFound_11 : decode cX3_pointOrNotFound 11 = .ok (.iload_n 0, 1) := by decide +kernel
theorem dX3_pointOrNotFound_12 : decode cX3_pointOrNotFound 12 = .ok (.i2l, 1) := by decide +kernel
theorem dX3_pointOrNotFound_13 : decode cX3_pointOrNotFound 13 = .ok (.lreturn, 1) := by decide +kernel
set_option maxRecDepth 20000 in
theorem ggX3_finishOperation_X0_settle : GoodIn wsX3_finishOperation wsX0_settle := goodIn_r _ [9, 10, 11, 12, 8, 13, 14, 15, 16, 17, 18, 19, 20, 21, 22, 23, 24, 25, 26, 27, 28, 29, 30, 31, 32, 33, 34, 35, 36, 37, 38, 39, 40, 41, 42, 43, 44, 45, 46, 47, 48, 49, 50, 81, 82, 83, 84, 85, 86, 87, 88, 89, 90, 91] (by decide +kernel) (by decide +kernel)
set_option maxRecDepth 20000 in
theorem gX3_finishOperation_X0_settle : GoodIn wsX3_finishOperation (wsV RX3 195 RX0 yX0_settle wsX0_settle) := goodIn_app (goodIn_of _ (by decide +kernel)) ggX3_finishOperation_X0_settle
set_option maxRecDepth 20000 in
theorem ggX3_finishOperation_X1_record : GoodIn wsX3_finishOperation wsX1_record := goodIn_r _ [55, 56, 57, 58, 59, 60, 61, 62, 63, 64, 54, 65, 66, 36, 37, 27, 38, 39, 67, 68, 69, 70, 33, 35, 71, 72, 73, 74, 34, 92, 93, 94, 95, 96, 97, 98, 99, 100, 101, 88, 89, 90, 91] (by decide +kernel) (by decide +kernel)
set_option maxRecDepth 20000 in
theorem gX3_finishOperation_X1_record : GoodIn wsX3_finishOperation (wsV RX3 198 RX1 yX1_record wsX1_record) := goodIn_app (goodIn_of _ (by decide +kernel)) ggX3_finishOperation_X1_record
theorem dX3_finishOperation_0 : decode cX3_finishOperation 0 = .ok (.aload_n 0, 1) := by decide +kernel
theorem dX3_finishOperation_1 : decode cX3_finishOperation 1 = .ok (.getfield 12, 3) := by decide +kernel
theorem dX3_finishOperation_4 : decode cX3_finishOperation 4 = .ok (.aload_n 0, 1) := by decide +kernel
theorem dX3_finishOperation_5 : decode cX3_finishOperation 5 = .ok (.getfield 32, 3) := by decide +kernel
theorem dX3_finishOperation_8 : decode cX3_finishOperation 8 = .ok (.invokevirtual 195, 3) := by decide +kernel
theorem dX3_finishOperation_11 : decode cX3_finishOperation 11 = .ok (.aload_n 0, 1) := by decide +kernel
theorem dX3_finishOperation_12 : decode cX3_finishOperation 12 = .ok (.getfield 24, 3) := by decide +kernel
theorem dX3_finishOperation_15 : decode cX3_finishOperation 15 = .ok (.aload_n 0, 1) := by decide +kernel
theorem dX3_finishOperation_16 : decode cX3_finishOperation 16 = .ok (.getfield 20, 3) := by decide +kernel
theorem dX3_finishOperation_19 : decode cX3_finishOperation 19 = .ok (.iload_n 1, 1) := by decide +kernel
theorem dX3_finishOperation_20 : decode cX3_finishOperation 20 = .ok (.aload_n 0, 1) := by decide +kernel
theorem dX3_finishOperation_21 : decode cX3_finishOperation 21 = .ok (.getfield 32, 3) := by decide +kernel
theorem dX3_finishOperation_24 : decode cX3_finishOperation 24 = .ok (.invokevirtual 198, 3) := by decide +kernel
theorem dX3_finishOperation_27 : decode cX3_finishOperation 27 = .ok (.return_, 1) := by decide +kernel
set_option maxRecDepth 20000 in
theorem ggX3_stopAt_X0_settle : GoodIn wsX3_stopAt wsX0_settle := goodIn_r _ [8, 9, 10, 11, 7, 12, 13, 14, 15, 16, 17, 18, 19, 20, 21, 22, 23, 24, 25, 26, 27, 28, 29, 30, 31, 32, 33, 34, 35, 36, 37, 38, 39, 40, 41, 42, 43, 44, 45, 46, 47, 48, 49, 56, 57, 58, 59, 60, 61, 62, 63, 64, 65, 66] (by decide +kernel) (by decide +kernel)
set_option maxRecDepth 20000 in
theorem gX3_stopAt_X0_settle : GoodIn wsX3_stopAt (wsV RX3 195 RX0 yX0_settle wsX0_settle) := goodIn_app (goodIn_of _ (by decide +kernel)) ggX3_stopAt_X0_settle
theorem dX3_stopAt_0 : decode cX3_stopAt 0 = .ok (.aload_n 0, 1) := by decide +kernel
theorem dX3_stopAt_1 : decode cX3_stopAt 1 = .ok (.iload_n 1, 1) := by decide +kernel
theorem dX3_stopAt_2 : decode cX3_stopAt 2 = .ok (.putfield 32, 3) := by decide +kernel
theorem dX3_stopAt_5 : decode cX3_stopAt 5 = .ok (.aload_n 0, 1) := by decide +kernel
theorem dX3_stopAt_6 : decode cX3_stopAt 6 = .ok (.dup, 1) := by decide +kernel
theorem dX3_stopAt_7 : decode cX3_stopAt 7 = .ok (.getfield 36, 3) := by decide +kernel
theorem dX3_stopAt_10 : decode cX3_stopAt 10 = .ok (.lconst 1, 1) := by decide +kernel
theorem dX3_stopAt_11 : decode cX3_stopAt 11 = .ok (.ladd, 1) := by decide +kernel
theorem dX3_stopAt_12 : decode cX3_stopAt 12 = .ok (.putfield 36, 3) := by decide +kernel
theorem dX3_stopAt_15 : decode cX3_stopAt 15 = .ok (.aload_n 0, 1) := by decide +kernel
theorem dX3_stopAt_16 : decode cX3_stopAt 16 = .ok (.getfield 12, 3) := by decide +kernel
theorem dX3_stopAt_19 : decode cX3_stopAt 19 = .ok (.aload_n 0, 1) := by decide +kernel
theorem dX3_stopAt_20 : decode cX3_stopAt 20 = .ok (.getfield 32, 3) := by decide +kernel
theorem dX3_stopAt_23 : decode cX3_stopAt 23 = .ok (.invokevirtual 195, 3) := by decide +kernel
theorem dX3_stopAt_26 : decode cX3_stopAt 26 = .ok (.return_, 1) := by decide +kernel
set_option maxRecDepth 20000 in
theorem ggX3_momentError_X1_knows : GoodIn wsX3_momentError wsX1_knows := goodIn_r _ [9, 10, 17, 18, 19, 20, 21, 22, 23, 24, 25, 26] (by decide +kernel) (by decide +kernel)
set_option maxRecDepth 20000 in
theorem gX3_momentError_X1_knows : GoodIn wsX3_momentError (wsV RX3 202 RX1 yX1_knows wsX1_knows) := goodIn_app (goodIn_of _ (by decide +kernel)) ggX3_momentError_X1_knows
theorem dX3_momentError_0 : decode cX3_momentError 0 = .ok (.iload_n 1, 1) := by decide +kernel
theorem dX3_momentError_1 : decode cX3_momentError 1 = .ok (.ifCond .lt 11, 3) := by decide +kernel
theorem dX3_momentError_4 : decode cX3_momentError 4 = .ok (.iload_n 1, 1) := by decide +kernel
theorem dX3_momentError_5 : decode cX3_momentError 5 = .ok (.aload_n 0, 1) := by decide +kernel
theorem dX3_momentError_6 : decode cX3_momentError 6 = .ok (.getfield 32, 3) := by decide +kernel
theorem dX3_momentError_9 : decode cX3_momentError 9 = .ok (.if_icmp .le 7, 3) := by decide +kernel
theorem dX3_momentError_12 : decode cX3_momentError 12 = .ok (.ldc2_w 47, 3) := by decide +kernel
theorem dX3_momentError_15 : decode cX3_momentError 15 = .ok (.lreturn, 1) := by decide +kernel
theorem dX3_momentError_16 : decode cX3_momentError 16 = .ok (.aload_n 0, 1) := by decide +kernel
theorem dX3_momentError_17 : decode cX3_momentError 17 = .ok (.getfield 24, 3) := by decide +kernel
theorem dX3_momentError_20 : decode cX3_momentError 20 = .ok (.iload_n 1, 1) := by decide +kernel
theorem dX3_momentError_21 : decode cX3_momentError 21 = .ok (.invokevirtual 202, 3) := by decide +kernel
theorem dX3_momentError_24 : decode cX3_momentError 24 = .ok (.ifCond .eq 7, 3) := by decide +kernel
theorem dX3_momentError_27 : decode cX3_momentError 27 = .ok (.lconst 0, 1) := by decide +kernel
theorem dX3_momentError_28 : decode cX3_momentError 28 = .ok (.goto 6, 3) := by decide +kernel
theorem dX3_momentError_31 : decode cX3_momentError 31 = .ok (.ldc2_w 136, 3) := by decide +kernel
theorem dX3_momentError_34 : decode cX3_momentError 34 = .ok (.lreturn, 1) := by decide +kernel
set_option maxRecDepth 20000 in
theorem ggX3_spanError_X3_momentError : GoodIn wsX3_spanError wsX3_momentError := goodIn_r _ [7, 1, 2, 8, 9, 10, 11, 12, 13, 14, 15, 16, 17, 18, 19, 20, 21, 22, 23, 24, 25, 26, 27, 28, 29, 30, 31] (by decide +kernel) (by decide +kernel)
set_option maxRecDepth 20000 in
theorem gX3_spanError_X3_momentError : GoodIn wsX3_spanError (wsV RX3 149 RX3 yX3_momentError wsX3_momentError) := goodIn_app (goodIn_of _ (by decide +kernel)) ggX3_spanError_X3_momentError
theorem dX3_spanError_0 : decode cX3_spanError 0 = .ok (.iload_n 1, 1) := by decide +kernel
theorem dX3_spanError_1 : decode cX3_spanError 1 = .ok (.iload_n 3, 1) := by decide +kernel
theorem dX3_spanError_2 : decode cX3_spanError 2 = .ok (.if_icmp .lt 33, 3) := by decide +kernel
theorem dX3_spanError_5 : decode cX3_spanError 5 = .ok (.iload_n 1, 1) := by decide +kernel
theorem dX3_spanError_6 : decode cX3_spanError 6 = .ok (.aload_n 0, 1) := by decide +kernel
theorem dX3_spanError_7 : decode cX3_spanError 7 = .ok (.getfield 32, 3) := by decide +kernel
theorem dX3_spanError_10 : decode cX3_spanError 10 = .ok (.if_icmp .gt 25, 3) := by decide +kernel
theorem dX3_spanError_13 : decode cX3_spanError 13 = .ok (.iload_n 2, 1) := by decide +kernel
theorem dX3_spanError_14 : decode cX3_spanError 14 = .ok (.iload_n 1, 1) := by decide +kernel
theorem dX3_spanError_15 : decode cX3_spanError 15 = .ok (.if_icmp .lt 20, 3) := by decide +kernel
theorem dX3_spanError_18 : decode cX3_spanError 18 = .ok (.iload_n 2, 1) := by decide +kernel
theorem dX3_spanError_19 : decode cX3_spanError 19 = .ok (.aload_n 0, 1) := by decide +kernel
theorem dX3_spanError_20 : decode cX3_spanError 20 = .ok (.getfield 32, 3) := by decide +kernel
theorem dX3_spanError_23 : decode cX3_spanError 23 = .ok (.if_icmp .gt 12, 3) := by decide +kernel
theorem dX3_spanError_26 : decode cX3_spanError 26 = .ok (.iload_n 2, 1) := by decide +kernel
theorem dX3_spanError_27 : decode cX3_spanError 27 = .ok (.iload_n 1, 1) := by decide +kernel
theorem dX3_spanError_28 : decode cX3_spanError 28 = .ok (.isub, 1) := by decide +kernel
theorem dX3_spanError_29 : decode cX3_spanError 29 = .ok (.sipush 500, 3) := by decide +kernel
theorem dX3_spanError_32 : decode cX3_spanError 32 = .ok (.if_icmp .le 7, 3) := by decide +kernel
theorem dX3_spanError_35 : decode cX3_spanError 35 = .ok (.ldc2_w 47, 3) := by decide +kernel
theorem dX3_spanError_38 : decode cX3_spanError 38 = .ok (.lreturn, 1) := by decide +kernel
theorem dX3_spanError_39 : decode cX3_spanError 39 = .ok (.aload_n 0, 1) := by decide +kernel
theorem dX3_spanError_40 : decode cX3_spanError 40 = .ok (.iload_n 1, 1) := by decide +kernel
theorem dX3_spanError_41 : decode cX3_spanError 41 = .ok (.iload_n 3, 1) := by decide +kernel
theorem dX3_spanError_42 : decode cX3_spanError 42 = .ok (.isub, 1) := by decide +kernel
theorem dX3_spanError_43 : decode cX3_spanError 43 = .ok (.invokevirtual 149, 3) := by decide +kernel
theorem dX3_spanError_46 : decode cX3_spanError 46 = .ok (.lreturn, 1) := by decide +kernel
theorem dJ9_min_7cf53_0 : decode cJ9_min_7cf53 0 = .ok (.iload_n 0, 1) := by decide +kernel
theorem dJ9_min_7cf53_1 : decode cJ9_min_7cf53 1 = .ok (.iload_n 1, 1) := by decide +kernel
theorem dJ9_min_7cf53_2 : decode cJ9_min_7cf53 2 = .ok (.if_icmp .gt 7, 3) := by decide +kernel
theorem dJ9_min_7cf53_5 : decode cJ9_min_7cf53 5 = .ok (.iload_n 0, 1) := by decide +kernel
theorem dJ9_min_7cf53_6 : decode cJ9_min_7cf53 6 = .ok (.goto 4, 3) := by decide +kernel
theorem dJ9_min_7cf53_9 : decode cJ9_min_7cf53 9 = .ok (.iload_n 1, 1) := by decide +kernel
theorem dJ9_min_7cf53_10 : decode cJ9_min_7cf53 10 = .ok (.ireturn, 1) := by decide +kernel
theorem dL_cell_0 : decode cL_cell 0 = .ok (.iload_n 1, 1) := by decide +kernel
theorem dL_cell_1 : decode cL_cell 1 = .ok (.aload_n 0, 1) := by decide +kernel
theorem dL_cell_2 : decode cL_cell 2 = .ok (.arraylength, 1) := by decide +kernel
theorem dL_cell_3 : decode cL_cell 3 = .ok (.if_icmp .ge 9, 3) := by decide +kernel
theorem dL_cell_6 : decode cL_cell 6 = .ok (.aload_n 0, 1) := by decide +kernel
theorem dL_cell_7 : decode cL_cell 7 = .ok (.iload_n 1, 1) := by decide +kernel
theorem dL_cell_8 : decode cL_cell 8 = .ok (.iaload, 1) := by decide +kernel
theorem dL_cell_9 : decode cL_cell 9 = .ok (.goto 11, 3) := by decide +kernel
theorem dL_cell_12 : decode cL_cell 12 = .ok (.ldc 7, 2) := by decide +kernel
theorem dL_cell_14 : decode cL_cell 14 = .ok (.iload_n 1, 1) := by decide +kernel
theorem dL_cell_15 : decode cL_cell 15 = .ok (.imul, 1) := by decide +kernel
theorem dL_cell_16 : decode cL_cell 16 = .ok (.sipush 283, 3) := by decide +kernel
theorem dL_cell_19 : decode cL_cell 19 = .ok (.iadd, 1) := by decide +kernel
theorem dL_cell_20 : decode cL_cell 20 = .ok (.ldc 8, 2) := by decide +kernel
theorem dL_cell_22 : decode cL_cell 22 = .ok (.iand, 1) := by decide +kernel
theorem dL_cell_23 : decode cL_cell 23 = .ok (.ireturn, 1) := by decide +kernel
set_option maxRecDepth 20000 in
theorem ggL_isHeap_X3_size : GoodIn wsL_isHeap wsX3_size := goodIn_r _ [6, 7, 8, 9, 10, 11, 12, 13, 195, 196, 197, 198, 199, 200, 201, 202, 203, 204] (by decide +kernel) (by decide +kernel)
set_option maxRecDepth 20000 in
theorem gL_isHeap_X3_size : GoodIn wsL_isHeap (wsV RL 9 RX3 yX3_size wsX3_size) := goodIn_app (goodIn_of _ (by decide +kernel)) ggL_isHeap_X3_size
set_option maxRecDepth 20000 in
theorem ggL_isHeap_X3_at : GoodIn wsL_isHeap wsX3_at := goodIn_r _ [17, 18, 19, 20, 21, 22, 23, 24, 25, 26, 27, 28, 5, 29, 30, 195, 196, 197, 198, 199, 200, 205, 206, 207, 208, 209, 210, 211] (by decide +kernel) (by decide +kernel)
set_option maxRecDepth 20000 in
theorem gL_isHeap_X3_at : GoodIn wsL_isHeap (wsV RL 15 RX3 yX3_at wsX3_at) := goodIn_app (goodIn_of _ (by decide +kernel)) ggL_isHeap_X3_at
set_option maxRecDepth 20000 in
theorem ggL_isHeap_X3_point : GoodIn wsL_isHeap wsX3_point := goodIn_r _ [34, 7, 18, 35, 19, 36, 37, 38, 39, 11, 40, 41, 42, 43, 44, 45, 46, 47, 48, 49, 50, 51, 52, 53, 54, 55, 23, 56, 57, 58, 59, 60, 61, 62, 63, 64, 65, 66, 195, 196, 197, 198, 199, 200, 201, 202, 203, 204, 205, 206, 207, 208, 209, 210, 211] (by decide +kernel) (by decide +kernel)
set_option maxRecDepth 20000 in
theorem gL_isHeap_X3_point : GoodIn wsL_isHeap (wsV RL 19 RX3 yX3_point wsX3_point) := goodIn_app (goodIn_of _ (by decide +kernel)) ggL_isHeap_X3_point
set_option maxRecDepth 20000 in
theorem ggL_isHeap_X3_time : GoodIn wsL_isHeap wsX3_time := goodIn_r _ [70, 35, 195, 196, 197, 198, 199, 200] (by decide +kernel) (by decide +kernel)
set_option maxRecDepth 20000 in
theorem gL_isHeap_X3_time : GoodIn wsL_isHeap (wsV RL 23 RX3 yX3_time wsX3_time) := goodIn_app (goodIn_of _ (by decide +kernel)) ggL_isHeap_X3_time
set_option maxRecDepth 20000 in
theorem ggL_isHeap_X3_valueAt : GoodIn wsL_isHeap wsX3_valueAt := goodIn_r _ [74, 18, 75, 30, 76, 77, 78, 5, 79, 35, 80, 81, 82, 83, 84, 85, 86, 87, 88, 89, 90, 91, 92, 93, 94, 95, 96, 11, 97, 41, 46, 47, 13, 98, 99, 100, 101, 102, 103, 104, 105, 106, 107, 108, 109, 110, 111, 112, 113, 114, 115, 48, 38, 39, 40, 37, 42, 43, 44, 45, 195, 196, 197, 198, 199, 200, 212, 213, 214, 215, 216, 217, 218, 219, 220, 221, 201, 202, 203, 204] (by decide +kernel) (by decide +kernel)
set_option maxRecDepth 20000 in
theorem gL_isHeap_X3_valueAt : GoodIn wsL_isHeap (wsV RL 26 RX3 yX3_valueAt wsX3_valueAt) := goodIn_app (goodIn_of _ (by decide +kernel)) ggL_isHeap_X3_valueAt
set_option maxRecDepth 20000 in
theorem ggL_isHeap_X3_orderAt : GoodIn wsL_isHeap wsX3_orderAt := goodIn_r _ [119, 18, 75, 76, 77, 78, 5, 79, 35, 80, 81, 82, 83, 84, 85, 86, 87, 88, 89, 90, 91, 92, 93, 94, 95, 96, 11, 97, 41, 46, 47, 13, 98, 99, 100, 101, 102, 103, 104, 105, 106, 107, 108, 109, 110, 111, 112, 113, 114, 115, 48, 38, 39, 40, 120, 121, 122, 123, 124, 59, 60, 61, 62, 63, 64, 65, 66, 43, 44, 45, 27, 28, 29, 30, 195, 196, 197, 198, 199, 200, 212, 213, 214, 215, 216, 217, 218, 219, 220, 221, 201, 202, 203, 204] (by decide +kernel) (by decide +kernel)
set_option maxRecDepth 20000 in
theorem gL_isHeap_X3_orderAt : GoodIn wsL_isHeap (wsV RL 29 RX3 yX3_orderAt wsX3_orderAt) := goodIn_app (goodIn_of _ (by decide +kernel)) ggL_isHeap_X3_orderAt
set_option maxRecDepth 20000 in
theorem ggL_isHeap_X3_failure : GoodIn wsL_isHeap wsX3_failure := goodIn_r _ [128, 19, 18, 35, 129, 130, 131, 23, 132, 25, 133, 134, 135, 136, 137, 138, 139, 140, 141, 142, 143, 21, 22, 24, 26, 144, 145, 146, 11, 147, 148, 149, 62, 63, 64, 65, 66, 43, 44, 45, 46, 47, 48, 38, 39, 40, 41, 150, 50, 51, 52, 151, 152, 5, 153, 154, 30, 195, 196, 197, 198, 199, 200, 205, 206, 207, 208, 209, 210, 211, 201, 202, 203, 204] (by decide +kernel) (by decide +kernel)
set_option maxRecDepth 20000 in
theorem gL_isHeap_X3_failure : GoodIn wsL_isHeap (wsV RL 32 RX3 yX3_failure wsX3_failure) := goodIn_app (goodIn_of _ (by decide +kernel)) ggL_isHeap_X3_failure
set_option maxRecDepth 20000 in
theorem ggL_isHeap_X3_meeting : GoodIn wsL_isHeap wsX3_meeting := goodIn_r _ [158, 7, 18, 35, 37, 38, 39, 11, 40, 41, 159, 63, 64, 65, 66, 43, 44, 45, 46, 47, 48, 160, 145, 146, 147, 148, 149, 62, 150, 50, 51, 52, 151, 152, 5, 153, 154, 30, 195, 196, 197, 198, 199, 200, 201, 202, 203, 204] (by decide +kernel) (by decide +kernel)
set_option maxRecDepth 20000 in
theorem gL_isHeap_X3_meeting : GoodIn wsL_isHeap (wsV RL 37 RX3 yX3_meeting wsX3_meeting) := goodIn_app (goodIn_of _ (by decide +kernel)) ggL_isHeap_X3_meeting
set_option maxRecDepth 20000 in
theorem ggL_isHeap_X3_calendar : GoodIn wsL_isHeap wsX3_calendar := goodIn_r _ [164, 18, 19, 35, 30, 165, 166, 167, 23, 168, 25, 169, 137, 170, 134, 135, 136, 138, 139, 130, 131, 132, 140, 141, 142, 143, 21, 22, 24, 26, 144, 145, 146, 11, 147, 148, 149, 62, 63, 64, 65, 66, 43, 44, 45, 46, 47, 48, 38, 39, 40, 41, 150, 50, 51, 52, 171, 172, 173, 174, 133, 195, 196, 197, 198, 199, 200, 205, 206, 207, 208, 209, 210, 211, 201, 202, 203, 204] (by decide +kernel) (by decide +kernel)
set_option maxRecDepth 20000 in
theorem gL_isHeap_X3_calendar : GoodIn wsL_isHeap (wsV RL 40 RX3 yX3_calendar wsX3_calendar) := goodIn_app (goodIn_of _ (by decide +kernel)) ggL_isHeap_X3_calendar
set_option maxRecDepth 20000 in
theorem ggL_isHeap_X3_calendarSize : GoodIn wsL_isHeap wsX3_calendarSize := goodIn_r _ [178, 19, 35, 179, 180, 181, 23, 182, 25, 137, 170, 134, 135, 136, 138, 139, 130, 131, 132, 140, 141, 142, 143, 21, 22, 24, 26, 144, 145, 146, 11, 147, 148, 149, 62, 63, 64, 65, 66, 43, 44, 45, 46, 47, 48, 38, 39, 40, 41, 150, 50, 51, 52, 195, 196, 197, 198, 199, 200, 205, 206, 207, 208, 209, 210, 211, 201, 202, 203, 204] (by decide +kernel) (by decide +kernel)
set_option maxRecDepth 20000 in
theorem gL_isHeap_X3_calendarSize : GoodIn wsL_isHeap (wsV RL 43 RX3 yX3_calendarSize wsX3_calendarSize) := goodIn_app (goodIn_of _ (by decide +kernel)) ggL_isHeap_X3_calendarSize
set_option maxRecDepth 20000 in
theorem ggL_isHeap_X3_topAt : GoodIn wsL_isHeap wsX3_topAt := goodIn_r _ [186, 75, 76, 77, 78, 5, 79, 35, 18, 80, 81, 82, 83, 84, 85, 86, 87, 88, 89, 90, 91, 92, 93, 94, 95, 96, 11, 97, 41, 46, 47, 13, 98, 99, 100, 101, 102, 103, 104, 105, 106, 107, 108, 109, 110, 111, 112, 113, 114, 115, 48, 38, 39, 40, 187, 188, 189, 190, 62, 63, 64, 65, 66, 43, 44, 45, 27, 28, 29, 30, 195, 196, 197, 198, 199, 200, 212, 213, 214, 215, 216, 217, 218, 219, 220, 221, 201, 202, 203, 204] (by decide +kernel) (by decide +kernel)
set_option maxRecDepth 20000 in
theorem gL_isHeap_X3_topAt : GoodIn wsL_isHeap (wsV RL 46 RX3 yX3_topAt wsX3_topAt) := goodIn_app (goodIn_of _ (by decide +kernel)) ggL_isHeap_X3_topAt
set_option maxRecDepth 20000 in
theorem ggL_isHeap_X3_sizeAt : GoodIn wsL_isHeap wsX3_sizeAt := goodIn_r _ [194, 75, 76, 77, 78, 5, 79, 35, 18, 80, 81, 82, 83, 84, 85, 86, 87, 88, 89, 90, 91, 92, 93, 94, 95, 96, 11, 97, 41, 46, 47, 13, 98, 99, 100, 101, 102, 103, 104, 105, 106, 107, 108, 109, 110, 111, 112, 113, 114, 115, 48, 38, 39, 40, 8, 9, 10, 12, 195, 196, 197, 198, 199, 200, 212, 213, 214, 215, 216, 217, 218, 219, 220, 221, 201, 202, 203, 204] (by decide +kernel) (by decide +kernel)
set_option maxRecDepth 20000 in
theorem gL_isHeap_X3_sizeAt : GoodIn wsL_isHeap (wsV RL 49 RX3 yX3_sizeAt wsX3_sizeAt) := goodIn_app (goodIn_of _ (by decide +kernel)) ggL_isHeap_X3_sizeAt
theorem dL_isHeap_0 : decode cL_isHeap 0 = .ok (.aload_n 0, 1) := by decide +kernel
theorem dL_isHeap_1 : decode cL_isHeap 1 = .ok (.invokevirtual 9, 3) := by decide +kernel
theorem dL_isHeap_4 : decode cL_isHeap 4 = .ok (.istore_n 1, 1) := by decide +kernel
theorem dL_isHeap_5 : decode cL_isHeap 5 = .ok (.iconst 0, 1) := by decide +kernel
theorem dL_isHeap_6 : decode cL_isHeap 6 = .ok (.istore_n 2, 1) := by decide +kernel
theorem dL_isHeap_7 : decode cL_isHeap 7 = .ok (.iconst 0, 1) := by decide +kernel
theorem dL_isHeap_8 : decode cL_isHeap 8 = .ok (.istore_n 3, 1) := by decide +kernel
theorem dL_isHeap_9 : decode cL_isHeap 9 = .ok (.iload_n 1, 1) := by decide +kernel
theorem dL_isHeap_10 : decode cL_isHeap 10 = .ok (.bipush 24, 2) := by decide +kernel
theorem dL_isHeap_12 : decode cL_isHeap 12 = .ok (.if_icmp .gt 7, 3) := by decide +kernel
theorem dL_isHeap_15 : decode cL_isHeap 15 = .ok (.iconst 1, 1) := by decide +kernel
theorem dL_isHeap_16 : decode cL_isHeap 16 = .ok (.goto 4, 3) := by decide +kernel
theorem dL_isHeap_19 : decode cL_isHeap 19 = .ok (.iconst 0, 1) := by decide +kernel
theorem dL_isHeap_20 : decode cL_isHeap 20 = .ok (.istore 4, 2) := by decide +kernel
theorem dL_isHeap_22 : decode cL_isHeap 22 = .ok (.iconst 0, 1) := by decide +kernel
theorem dL_isHeap_23 : decode cL_isHeap 23 = .ok (.istore 5, 2) := by decide +kernel
theorem dL_isHeap_25 : decode cL_isHeap 25 = .ok (.iload 5, 2) := by decide +kernel
theorem dL_isHeap_27 : decode cL_isHeap 27 = .ok (.iload_n 1, 1) := by decide +kernel
theorem dL_isHeap_28 : decode cL_isHeap 28 = .ok (.if_icmp .ge 247, 3) := by decide +kernel
theorem dL_isHeap_31 : decode cL_isHeap 31 = .ok (.iload 4, 2) := by decide +kernel
theorem dL_isHeap_33 : decode cL_isHeap 33 = .ok (.ifCond .eq 242, 3) := by decide +kernel
theorem dL_isHeap_36 : decode cL_isHeap 36 = .ok (.aload_n 0, 1) := by decide +kernel
theorem dL_isHeap_37 : decode cL_isHeap 37 = .ok (.iload 5, 2) := by decide +kernel
theorem dL_isHeap_39 : decode cL_isHeap 39 = .ok (.invokevirtual 15, 3) := by decide +kernel
theorem dL_isHeap_42 : decode cL_isHeap 42 = .ok (.lstore 6, 2) := by decide +kernel
theorem dL_isHeap_44 : decode cL_isHeap 44 = .ok (.iload_n 2, 1) := by decide +kernel
theorem dL_isHeap_45 : decode cL_isHeap 45 = .ok (.iconst 1, 1) := by decide +kernel
theorem dL_isHeap_46 : decode cL_isHeap 46 = .ok (.lload 6, 2) := by decide +kernel
theorem dL_isHeap_48 : decode cL_isHeap 48 = .ok (.l2i, 1) := by decide +kernel
theorem dL_isHeap_49 : decode cL_isHeap 49 = .ok (.ishl, 1) := by decide +kernel
theorem dL_isHeap_50 : decode cL_isHeap 50 = .ok (.ior, 1) := by decide +kernel
theorem dL_isHeap_51 : decode cL_isHeap 51 = .ok (.istore_n 2, 1) := by decide +kernel
theorem dL_isHeap_52 : decode cL_isHeap 52 = .ok (.aload_n 0, 1) := by decide +kernel
theorem dL_isHeap_53 : decode cL_isHeap 53 = .ok (.lload 6, 2) := by decide +kernel
theorem dL_isHeap_55 : decode cL_isHeap 55 = .ok (.l2i, 1) := by decide +kernel
theorem dL_isHeap_56 : decode cL_isHeap 56 = .ok (.iconst 2, 1) := by decide +kernel
theorem dL_isHeap_57 : decode cL_isHeap 57 = .ok (.invokevirtual 19, 3) := by decide +kernel
theorem dL_isHeap_60 : decode cL_isHeap 60 = .ok (.iload 5, 2) := by decide +kernel
theorem dL_isHeap_62 : decode cL_isHeap 62 = .ok (.i2l, 1) := by decide +kernel
theorem dL_isHeap_63 : decode cL_isHeap 63 = .ok (.lcmp, 1) := by decide +kernel
theorem dL_isHeap_64 : decode cL_isHeap 64 = .ok (.ifCond .ne 70, 3) := by decide +kernel
theorem dL_isHeap_67 : decode cL_isHeap 67 = .ok (.aload_n 0, 1) := by decide +kernel
theorem dL_isHeap_68 : decode cL_isHeap 68 = .ok (.lload 6, 2) := by decide +kernel
theorem dL_isHeap_70 : decode cL_isHeap 70 = .ok (.l2i, 1) := by decide +kernel
theorem dL_isHeap_71 : decode cL_isHeap 71 = .ok (.iconst 3, 1) := by decide +kernel
theorem dL_isHeap_72 : decode cL_isHeap 72 = .ok (.invokevirtual 19, 3) := by decide +kernel
theorem dL_isHeap_75 : decode cL_isHeap 75 = .ok (.aload_n 0, 1) := by decide +kernel
theorem dL_isHeap_76 : decode cL_isHeap 76 = .ok (.invokevirtual 23, 3) := by decide +kernel
theorem dL_isHeap_79 : decode cL_isHeap 79 = .ok (.i2l, 1) := by decide +kernel
theorem dL_isHeap_80 : decode cL_isHeap 80 = .ok (.lcmp, 1) := by decide +kernel
theorem dL_isHeap_81 : decode cL_isHeap 81 = .ok (.ifCond .gt 53, 3) := by decide +kernel
theorem dL_isHeap_84 : decode cL_isHeap 84 = .ok (.aload_n 0, 1) := by decide +kernel
theorem dL_isHeap_85 : decode cL_isHeap 85 = .ok (.lload 6, 2) := by decide +kernel
theorem dL_isHeap_87 : decode cL_isHeap 87 = .ok (.l2i, 1) := by decide +kernel
theorem dL_isHeap_88 : decode cL_isHeap 88 = .ok (.aload_n 0, 1) := by decide +kernel
theorem dL_isHeap_89 : decode cL_isHeap 89 = .ok (.invokevirtual 23, 3) := by decide +kernel
theorem dL_isHeap_92 : decode cL_isHeap 92 = .ok (.invokevirtual 26, 3) := by decide +kernel
theorem dL_isHeap_95 : decode cL_isHeap 95 = .ok (.aload_n 0, 1) := by decide +kernel
theorem dL_isHeap_96 : decode cL_isHeap 96 = .ok (.lload 6, 2) := by decide +kernel
theorem dL_isHeap_98 : decode cL_isHeap 98 = .ok (.l2i, 1) := by decide +kernel
theorem dL_isHeap_99 : decode cL_isHeap 99 = .ok (.iconst 0, 1) := by decide +kernel
theorem dL_isHeap_100 : decode cL_isHeap 100 = .ok (.invokevirtual 19, 3) := by decide +kernel
theorem dL_isHeap_103 : decode cL_isHeap 103 = .ok (.lcmp, 1) := by decide +kernel
theorem dL_isHeap_104 : decode cL_isHeap 104 = .ok (.ifCond .ne 30, 3) := by decide +kernel
theorem dL_isHeap_107 : decode cL_isHeap 107 = .ok (.aload_n 0, 1) := by decide +kernel
theorem dL_isHeap_108 : decode cL_isHeap 108 = .ok (.aload_n 0, 1) := by decide +kernel
theorem dL_isHeap_109 : decode cL_isHeap 109 = .ok (.lload 6, 2) := by decide +kernel
theorem dL_isHeap_111 : decode cL_isHeap 111 = .ok (.l2i, 1) := by decide +kernel
theorem dL_isHeap_112 : decode cL_isHeap 112 = .ok (.iconst 4, 1) := by decide +kernel
theorem dL_isHeap_113 : decode cL_isHeap 113 = .ok (.invokevirtual 19, 3) := by decide +kernel
theorem dL_isHeap_116 : decode cL_isHeap 116 = .ok (.l2i, 1) := by decide +kernel
theorem dL_isHeap_117 : decode cL_isHeap 117 = .ok (.aload_n 0, 1) := by decide +kernel
theorem dL_isHeap_118 : decode cL_isHeap 118 = .ok (.invokevirtual 23, 3) := by decide +kernel
theorem dL_isHeap_121 : decode cL_isHeap 121 = .ok (.invokevirtual 29, 3) := by decide +kernel
theorem dL_isHeap_124 : decode cL_isHeap 124 = .ok (.lload 6, 2) := by decide +kernel
theorem dL_isHeap_126 : decode cL_isHeap 126 = .ok (.lcmp, 1) := by decide +kernel
theorem dL_isHeap_127 : decode cL_isHeap 127 = .ok (.ifCond .ne 7, 3) := by decide +kernel
theorem dL_isHeap_130 : decode cL_isHeap 130 = .ok (.iconst 1, 1) := by decide +kernel
theorem dL_isHeap_131 : decode cL_isHeap 131 = .ok (.goto 4, 3) := by decide +kernel
theorem dL_isHeap_134 : decode cL_isHeap 134 = .ok (.iconst 0, 1) := by decide +kernel
theorem dL_isHeap_135 : decode cL_isHeap 135 = .ok (.istore 4, 2) := by decide +kernel
theorem dL_isHeap_137 : decode cL_isHeap 137 = .ok (.iload 5, 2) := by decide +kernel
theorem dL_isHeap_139 : decode cL_isHeap 139 = .ok (.ifCond .le 130, 3) := by decide +kernel
theorem dL_isHeap_142 : decode cL_isHeap 142 = .ok (.iload 4, 2) := by decide +kernel
theorem dL_isHeap_144 : decode cL_isHeap 144 = .ok (.ifCond .eq 125, 3) := by decide +kernel
theorem dL_isHeap_147 : decode cL_isHeap 147 = .ok (.aload_n 0, 1) := by decide +kernel
theorem dL_isHeap_148 : decode cL_isHeap 148 = .ok (.iload 5, 2) := by decide +kernel
theorem dL_isHeap_150 : decode cL_isHeap 150 = .ok (.iconst 1, 1) := by decide +kernel
theorem dL_isHeap_151 : decode cL_isHeap 151 = .ok (.isub, 1) := by decide +kernel
theorem dL_isHeap_152 : decode cL_isHeap 152 = .ok (.iconst 2, 1) := by decide +kernel
theorem dL_isHeap_153 : decode cL_isHeap 153 = .ok (.idiv, 1) := by decide +kernel
theorem dL_isHeap_154 : decode cL_isHeap 154 = .ok (.invokevirtual 15, 3) := by decide +kernel
theorem dL_isHeap_157 : decode cL_isHeap 157 = .ok (.lstore 8, 2) := by decide +kernel
theorem dL_isHeap_159 : decode cL_isHeap 159 = .ok (.aload_n 0, 1) := by decide +kernel
theorem dL_isHeap_160 : decode cL_isHeap 160 = .ok (.lload 8, 2) := by decide +kernel
theorem dL_isHeap_162 : decode cL_isHeap 162 = .ok (.l2i, 1) := by decide +kernel
theorem dL_isHeap_163 : decode cL_isHeap 163 = .ok (.iconst 0, 1) := by decide +kernel
theorem dL_isHeap_164 : decode cL_isHeap 164 = .ok (.invokevirtual 19, 3) := by decide +kernel
theorem dL_isHeap_167 : decode cL_isHeap 167 = .ok (.lstore 10, 2) := by decide +kernel
theorem dL_isHeap_169 : decode cL_isHeap 169 = .ok (.aload_n 0, 1) := by decide +kernel
theorem dL_isHeap_170 : decode cL_isHeap 170 = .ok (.lload 6, 2) := by decide +kernel
theorem dL_isHeap_172 : decode cL_isHeap 172 = .ok (.l2i, 1) := by decide +kernel
theorem dL_isHeap_173 : decode cL_isHeap 173 = .ok (.iconst 0, 1) := by decide +kernel
theorem dL_isHeap_174 : decode cL_isHeap 174 = .ok (.invokevirtual 19, 3) := by decide +kernel
theorem dL_isHeap_177 : decode cL_isHeap 177 = .ok (.lstore 12, 2) := by decide +kernel
theorem dL_isHeap_179 : decode cL_isHeap 179 = .ok (.aload_n 0, 1) := by decide +kernel
theorem dL_isHeap_180 : decode cL_isHeap 180 = .ok (.iload 5, 2) := by decide +kernel
theorem dL_isHeap_182 : decode cL_isHeap 182 = .ok (.invokevirtual 32, 3) := by decide +kernel
theorem dL_isHeap_185 : decode cL_isHeap 185 = .ok (.lstore 14, 2) := by decide +kernel
theorem dL_isHeap_187 : decode cL_isHeap 187 = .ok (.iload_n 3, 1) := by decide +kernel
theorem dL_isHeap_188 : decode cL_isHeap 188 = .ok (.lload 14, 2) := by decide +kernel
theorem dL_isHeap_190 : decode cL_isHeap 190 = .ok (.lconst 0, 1) := by decide +kernel
theorem dL_isHeap_191 : decode cL_isHeap 191 = .ok (.lcmp, 1) := by decide +kernel
theorem dL_isHeap_192 : decode cL_isHeap 192 = .ok (.ifCond .lt 7, 3) := by decide +kernel
theorem dL_isHeap_195 : decode cL_isHeap 195 = .ok (.iconst 1, 1) := by decide +kernel
theorem dL_isHeap_196 : decode cL_isHeap 196 = .ok (.goto 4, 3) := by decide +kernel
theorem dL_isHeap_199 : decode cL_isHeap 199 = .ok (.iconst 0, 1) := by decide +kernel
theorem dL_isHeap_200 : decode cL_isHeap 200 = .ok (.iadd, 1) := by decide +kernel
theorem dL_isHeap_201 : decode cL_isHeap 201 = .ok (.istore_n 3, 1) := by decide +kernel
theorem dL_isHeap_202 : decode cL_isHeap 202 = .ok (.lload 10, 2) := by decide +kernel
theorem dL_isHeap_204 : decode cL_isHeap 204 = .ok (.lload 12, 2) := by decide +kernel
theorem dL_isHeap_206 : decode cL_isHeap 206 = .ok (.lcmp, 1) := by decide +kernel
theorem dL_isHeap_207 : decode cL_isHeap 207 = .ok (.ifCond .lt 19, 3) := by decide +kernel
theorem dL_isHeap_210 : decode cL_isHeap 210 = .ok (.lload 10, 2) := by decide +kernel
theorem dL_isHeap_212 : decode cL_isHeap 212 = .ok (.lload 12, 2) := by decide +kernel
theorem dL_isHeap_214 : decode cL_isHeap 214 = .ok (.lcmp, 1) := by decide +kernel
theorem dL_isHeap_215 : decode cL_isHeap 215 = .ok (.ifCond .ne 51, 3) := by decide +kernel
theorem dL_isHeap_218 : decode cL_isHeap 218 = .ok (.lload 8, 2) := by decide +kernel
theorem dL_isHeap_220 : decode cL_isHeap 220 = .ok (.lload 6, 2) := by decide +kernel
theorem dL_isHeap_222 : decode cL_isHeap 222 = .ok (.lcmp, 1) := by decide +kernel
theorem dL_isHeap_223 : decode cL_isHeap 223 = .ok (.ifCond .ge 43, 3) := by decide +kernel
theorem dL_isHeap_226 : decode cL_isHeap 226 = .ok (.lload 14, 2) := by decide +kernel
theorem dL_isHeap_228 : decode cL_isHeap 228 = .ok (.ldc2_w 35, 3) := by decide +kernel
theorem dL_isHeap_231 : decode cL_isHeap 231 = .ok (.lcmp, 1) := by decide +kernel
theorem dL_isHeap_232 : decode cL_isHeap 232 = .ok (.ifCond .eq 14, 3) := by decide +kernel
theorem dL_isHeap_235 : decode cL_isHeap 235 = .ok (.lload 14, 2) := by decide +kernel
theorem dL_isHeap_237 : decode cL_isHeap 237 = .ok (.aload_n 0, 1) := by decide +kernel
theorem dL_isHeap_238 : decode cL_isHeap 238 = .ok (.invokevirtual 23, 3) := by decide +kernel
theorem dL_isHeap_241 : decode cL_isHeap 241 = .ok (.i2l, 1) := by decide +kernel
theorem dL_isHeap_242 : decode cL_isHeap 242 = .ok (.lcmp, 1) := by decide +kernel
theorem dL_isHeap_243 : decode cL_isHeap 243 = .ok (.ifCond .le 23, 3) := by decide +kernel
theorem dL_isHeap_246 : decode cL_isHeap 246 = .ok (.aload_n 0, 1) := by decide +kernel
theorem dL_isHeap_247 : decode cL_isHeap 247 = .ok (.lload 6, 2) := by decide +kernel
theorem dL_isHeap_249 : decode cL_isHeap 249 = .ok (.l2i, 1) := by decide +kernel
theorem dL_isHeap_250 : decode cL_isHeap 250 = .ok (.lload 8, 2) := by decide +kernel
theorem dL_isHeap_252 : decode cL_isHeap 252 = .ok (.l2i, 1) := by decide +kernel
theorem dL_isHeap_253 : decode cL_isHeap 253 = .ok (.invokevirtual 37, 3) := by decide +kernel
theorem dL_isHeap_256 : decode cL_isHeap 256 = .ok (.lload 14, 2) := by decide +kernel
theorem dL_isHeap_258 : decode cL_isHeap 258 = .ok (.lcmp, 1) := by decide +kernel
theorem dL_isHeap_259 : decode cL_isHeap 259 = .ok (.ifCond .ne 7, 3) := by decide +kernel
theorem dL_isHeap_262 : decode cL_isHeap 262 = .ok (.iconst 1, 1) := by decide +kernel
theorem dL_isHeap_263 : decode cL_isHeap 263 = .ok (.goto 4, 3) := by decide +kernel
theorem dL_isHeap_266 : decode cL_isHeap 266 = .ok (.iconst 0, 1) := by decide +kernel
theorem dL_isHeap_267 : decode cL_isHeap 267 = .ok (.istore 4, 2) := by decide +kernel
theorem dL_isHeap_269 : decode cL_isHeap 269 = .ok (.iinc 5 1, 3) := by decide +kernel
theorem dL_isHeap_272 : decode cL_isHeap 272 = .ok (.goto (-247), 3) := by decide +kernel
theorem dL_isHeap_275 : decode cL_isHeap 275 = .ok (.iconst 0, 1) := by decide +kernel
theorem dL_isHeap_276 : decode cL_isHeap 276 = .ok (.istore 5, 2) := by decide +kernel
theorem dL_isHeap_278 : decode cL_isHeap 278 = .ok (.iconst 0, 1) := by decide +kernel
theorem dL_isHeap_279 : decode cL_isHeap 279 = .ok (.istore 6, 2) := by decide +kernel
theorem dL_isHeap_281 : decode cL_isHeap 281 = .ok (.iload 6, 2) := by decide +kernel
theorem dL_isHeap_283 : decode cL_isHeap 283 = .ok (.bipush 24, 2) := by decide +kernel
theorem dL_isHeap_285 : decode cL_isHeap 285 = .ok (.if_icmp .ge 20, 3) := by decide +kernel
theorem dL_isHeap_288 : decode cL_isHeap 288 = .ok (.iload 5, 2) := by decide +kernel
theorem dL_isHeap_290 : decode cL_isHeap 290 = .ok (.iload_n 2, 1) := by decide +kernel
theorem dL_isHeap_291 : decode cL_isHeap 291 = .ok (.iload 6, 2) := by decide +kernel
theorem dL_isHeap_293 : decode cL_isHeap 293 = .ok (.ishr, 1) := by decide +kernel
theorem dL_isHeap_294 : decode cL_isHeap 294 = .ok (.iconst 1, 1) := by decide +kernel
theorem dL_isHeap_295 : decode cL_isHeap 295 = .ok (.iand, 1) := by decide +kernel
theorem dL_isHeap_296 : decode cL_isHeap 296 = .ok (.iadd, 1) := by decide +kernel
theorem dL_isHeap_297 : decode cL_isHeap 297 = .ok (.istore 5, 2) := by decide +kernel
theorem dL_isHeap_299 : decode cL_isHeap 299 = .ok (.iinc 6 1, 3) := by decide +kernel
theorem dL_isHeap_302 : decode cL_isHeap 302 = .ok (.goto (-21), 3) := by decide +kernel
theorem dL_isHeap_305 : decode cL_isHeap 305 = .ok (.lconst 0, 1) := by decide +kernel
theorem dL_isHeap_306 : decode cL_isHeap 306 = .ok (.lstore 6, 2) := by decide +kernel
theorem dL_isHeap_308 : decode cL_isHeap 308 = .ok (.iconst 0, 1) := by decide +kernel
theorem dL_isHeap_309 : decode cL_isHeap 309 = .ok (.istore 8, 2) := by decide +kernel
theorem dL_isHeap_311 : decode cL_isHeap 311 = .ok (.iload 8, 2) := by decide +kernel
theorem dL_isHeap_313 : decode cL_isHeap 313 = .ok (.iload_n 3, 1) := by decide +kernel
theorem dL_isHeap_314 : decode cL_isHeap 314 = .ok (.if_icmp .ge 60, 3) := by decide +kernel
theorem dL_isHeap_317 : decode cL_isHeap 317 = .ok (.iload 4, 2) := by decide +kernel
theorem dL_isHeap_319 : decode cL_isHeap 319 = .ok (.ifCond .eq 55, 3) := by decide +kernel
theorem dL_isHeap_322 : decode cL_isHeap 322 = .ok (.aload_n 0, 1) := by decide +kernel
theorem dL_isHeap_323 : decode cL_isHeap 323 = .ok (.iload 8, 2) := by decide +kernel
theorem dL_isHeap_325 : decode cL_isHeap 325 = .ok (.iconst 0, 1) := by decide +kernel
theorem dL_isHeap_326 : decode cL_isHeap 326 = .ok (.invokevirtual 40, 3) := by decide +kernel
theorem dL_isHeap_329 : decode cL_isHeap 329 = .ok (.lstore 9, 2) := by decide +kernel
theorem dL_isHeap_331 : decode cL_isHeap 331 = .ok (.lload 9, 2) := by decide +kernel
theorem dL_isHeap_333 : decode cL_isHeap 333 = .ok (.lload 6, 2) := by decide +kernel
theorem dL_isHeap_335 : decode cL_isHeap 335 = .ok (.lcmp, 1) := by decide +kernel
theorem dL_isHeap_336 : decode cL_isHeap 336 = .ok (.ifCond .lt 25, 3) := by decide +kernel
theorem dL_isHeap_339 : decode cL_isHeap 339 = .ok (.aload_n 0, 1) := by decide +kernel
theorem dL_isHeap_340 : decode cL_isHeap 340 = .ok (.aload_n 0, 1) := by decide +kernel
theorem dL_isHeap_341 : decode cL_isHeap 341 = .ok (.iload 8, 2) := by decide +kernel
theorem dL_isHeap_343 : decode cL_isHeap 343 = .ok (.iconst 1, 1) := by decide +kernel
theorem dL_isHeap_344 : decode cL_isHeap 344 = .ok (.invokevirtual 40, 3) := by decide +kernel
theorem dL_isHeap_347 : decode cL_isHeap 347 = .ok (.l2i, 1) := by decide +kernel
theorem dL_isHeap_348 : decode cL_isHeap 348 = .ok (.invokevirtual 32, 3) := by decide +kernel
theorem dL_isHeap_351 : decode cL_isHeap 351 = .ok (.lload 9, 2) := by decide +kernel
theorem dL_isHeap_353 : decode cL_isHeap 353 = .ok (.lcmp, 1) := by decide +kernel
theorem dL_isHeap_354 : decode cL_isHeap 354 = .ok (.ifCond .ne 7, 3) := by decide +kernel
theorem dL_isHeap_357 : decode cL_isHeap 357 = .ok (.iconst 1, 1) := by decide +kernel
theorem dL_isHeap_358 : decode cL_isHeap 358 = .ok (.goto 4, 3) := by decide +kernel
theorem dL_isHeap_361 : decode cL_isHeap 361 = .ok (.iconst 0, 1) := by decide +kernel
theorem dL_isHeap_362 : decode cL_isHeap 362 = .ok (.istore 4, 2) := by decide +kernel
theorem dL_isHeap_364 : decode cL_isHeap 364 = .ok (.lload 9, 2) := by decide +kernel
theorem dL_isHeap_366 : decode cL_isHeap 366 = .ok (.lstore 6, 2) := by decide +kernel
theorem dL_isHeap_368 : decode cL_isHeap 368 = .ok (.iinc 8 1, 3) := by decide +kernel
theorem dL_isHeap_371 : decode cL_isHeap 371 = .ok (.goto (-60), 3) := by decide +kernel
theorem dL_isHeap_374 : decode cL_isHeap 374 = .ok (.iload 4, 2) := by decide +kernel
theorem dL_isHeap_376 : decode cL_isHeap 376 = .ok (.ifCond .eq 62, 3) := by decide +kernel
theorem dL_isHeap_379 : decode cL_isHeap 379 = .ok (.iload 5, 2) := by decide +kernel
theorem dL_isHeap_381 : decode cL_isHeap 381 = .ok (.iload_n 1, 1) := by decide +kernel
theorem dL_isHeap_382 : decode cL_isHeap 382 = .ok (.if_icmp .ne 56, 3) := by decide +kernel
theorem dL_isHeap_385 : decode cL_isHeap 385 = .ok (.aload_n 0, 1) := by decide +kernel
theorem dL_isHeap_386 : decode cL_isHeap 386 = .ok (.invokevirtual 43, 3) := by decide +kernel
theorem dL_isHeap_389 : decode cL_isHeap 389 = .ok (.iload_n 3, 1) := by decide +kernel
theorem dL_isHeap_390 : decode cL_isHeap 390 = .ok (.if_icmp .ne 48, 3) := by decide +kernel
theorem dL_isHeap_393 : decode cL_isHeap 393 = .ok (.aload_n 0, 1) := by decide +kernel
theorem dL_isHeap_394 : decode cL_isHeap 394 = .ok (.aload_n 0, 1) := by decide +kernel
theorem dL_isHeap_395 : decode cL_isHeap 395 = .ok (.invokevirtual 23, 3) := by decide +kernel
theorem dL_isHeap_398 : decode cL_isHeap 398 = .ok (.invokevirtual 46, 3) := by decide +kernel
theorem dL_isHeap_401 : decode cL_isHeap 401 = .ok (.iload_n 1, 1) := by decide +kernel
theorem dL_isHeap_402 : decode cL_isHeap 402 = .ok (.ifCond .ne 9, 3) := by decide +kernel
theorem dL_isHeap_405 : decode cL_isHeap 405 = .ok (.ldc2_w 35, 3) := by decide +kernel
theorem dL_isHeap_408 : decode cL_isHeap 408 = .ok (.goto 8, 3) := by decide +kernel
theorem dL_isHeap_411 : decode cL_isHeap 411 = .ok (.aload_n 0, 1) := by decide +kernel
theorem dL_isHeap_412 : decode cL_isHeap 412 = .ok (.iconst 0, 1) := by decide +kernel
theorem dL_isHeap_413 : decode cL_isHeap 413 = .ok (.invokevirtual 15, 3) := by decide +kernel
theorem dL_isHeap_416 : decode cL_isHeap 416 = .ok (.lcmp, 1) := by decide +kernel
theorem dL_isHeap_417 : decode cL_isHeap 417 = .ok (.ifCond .ne 21, 3) := by decide +kernel
theorem dL_isHeap_420 : decode cL_isHeap 420 = .ok (.aload_n 0, 1) := by decide +kernel
theorem dL_isHeap_421 : decode cL_isHeap 421 = .ok (.aload_n 0, 1) := by decide +kernel
theorem dL_isHeap_422 : decode cL_isHeap 422 = .ok (.invokevirtual 23, 3) := by decide +kernel
theorem dL_isHeap_425 : decode cL_isHeap 425 = .ok (.invokevirtual 49, 3) := by decide +kernel
theorem dL_isHeap_428 : decode cL_isHeap 428 = .ok (.iload_n 1, 1) := by decide +kernel
theorem dL_isHeap_429 : decode cL_isHeap 429 = .ok (.i2l, 1) := by decide +kernel
theorem dL_isHeap_430 : decode cL_isHeap 430 = .ok (.lcmp, 1) := by decide +kernel
theorem dL_isHeap_431 : decode cL_isHeap 431 = .ok (.ifCond .ne 7, 3) := by decide +kernel
theorem dL_isHeap_434 : decode cL_isHeap 434 = .ok (.iconst 1, 1) := by decide +kernel
theorem dL_isHeap_435 : decode cL_isHeap 435 = .ok (.goto 4, 3) := by decide +kernel
theorem dL_isHeap_438 : decode cL_isHeap 438 = .ok (.iconst 0, 1) := by decide +kernel
theorem dL_isHeap_439 : decode cL_isHeap 439 = .ok (.ireturn, 1) := by decide +kernel
set_option maxRecDepth 20000 in
theorem ggL_acts_X3_size : GoodIn wsL_acts wsX3_size := goodIn_r _ [14, 15, 16, 17, 18, 19, 20, 21, 259, 260, 261, 262, 263, 264, 265, 266, 267, 268] (by decide +kernel) (by decide +kernel)
set_option maxRecDepth 20000 in
theorem gL_acts_X3_size : GoodIn wsL_acts (wsV RL 9 RX3 yX3_size wsX3_size) := goodIn_app (goodIn_of _ (by decide +kernel)) ggL_acts_X3_size
set_option maxRecDepth 20000 in
theorem ggL_acts_X3_insert : GoodIn wsL_acts wsX3_insert := goodIn_r _ [25, 26, 15, 27, 28, 29, 30, 31, 32, 33, 13, 34, 35, 36, 37, 38, 39, 40, 41, 42, 19, 43, 44, 45, 46, 47, 48, 49, 50, 51, 52, 53, 54, 55, 56, 57, 58, 21, 59, 60, 61, 62, 63, 64, 65, 66, 67, 68, 69, 70, 71, 72, 73, 74, 75, 76, 77, 78, 79, 80, 81, 82, 83, 84, 85, 86, 87, 88, 89, 90, 91, 92, 93, 94, 95, 96, 97, 98, 99, 100, 101, 102, 103, 104, 105, 106, 107, 108, 109, 110, 111, 112, 113, 114, 115, 116, 117, 118, 119, 120, 121, 122, 123, 124, 125, 126, 127, 128, 129, 259, 260, 261, 262, 263, 264, 265, 266, 267, 268, 269, 270, 271, 272, 273, 274, 275, 276, 277, 278, 279, 280, 281, 282, 283, 284, 285] (by decide +kernel) (by decide +kernel)
set_option maxRecDepth 20000 in
theorem gL_acts_X3_insert : GoodIn wsL_acts (wsV RL 54 RX3 yX3_insert wsX3_insert) := goodIn_app (goodIn_of _ (by decide +kernel)) ggL_acts_X3_insert
set_option maxRecDepth 20000 in
theorem ggL_acts_X3_point : GoodIn wsL_acts wsX3_point := goodIn_r _ [133, 15, 26, 29, 31, 30, 134, 102, 103, 19, 104, 44, 135, 98, 99, 100, 59, 60, 101, 136, 127, 128, 129, 137, 138, 139, 64, 140, 72, 141, 142, 143, 144, 145, 94, 95, 96, 97, 259, 260, 261, 262, 263, 264, 265, 266, 267, 268, 279, 280, 281, 282, 283, 284, 285] (by decide +kernel) (by decide +kernel)
set_option maxRecDepth 20000 in
theorem gL_acts_X3_point : GoodIn wsL_acts (wsV RL 19 RX3 yX3_point wsX3_point) := goodIn_app (goodIn_of _ (by decide +kernel)) ggL_acts_X3_point
set_option maxRecDepth 20000 in
theorem ggL_acts_X3_time : GoodIn wsL_acts wsX3_time := goodIn_r _ [149, 29, 259, 260, 261, 262, 263, 264] (by decide +kernel) (by decide +kernel)
set_option maxRecDepth 20000 in
theorem gL_acts_X3_time : GoodIn wsL_acts (wsV RL 23 RX3 yX3_time wsX3_time) := goodIn_app (goodIn_of _ (by decide +kernel)) ggL_acts_X3_time
set_option maxRecDepth 20000 in
theorem ggL_acts_X3_remove : GoodIn wsL_acts wsX3_remove := goodIn_r _ [153, 15, 26, 27, 28, 29, 31, 134, 102, 103, 19, 104, 44, 45, 46, 47, 48, 49, 50, 135, 98, 99, 100, 59, 60, 101, 154, 155, 156, 64, 157, 66, 158, 138, 139, 140, 72, 89, 90, 91, 92, 71, 67, 68, 69, 70, 159, 160, 161, 162, 21, 73, 74, 75, 13, 76, 77, 78, 79, 80, 81, 82, 83, 84, 85, 86, 87, 88, 93, 94, 95, 96, 97, 105, 106, 107, 108, 109, 110, 111, 112, 113, 114, 115, 116, 117, 118, 119, 120, 121, 122, 123, 124, 125, 126, 127, 128, 129, 259, 260, 261, 262, 263, 264, 265, 266, 267, 268, 269, 270, 271, 272, 273, 274, 275, 276, 277, 278, 279, 280, 281, 282, 283, 284, 285] (by decide +kernel) (by decide +kernel)
set_option maxRecDepth 20000 in
theorem gL_acts_X3_remove : GoodIn wsL_acts (wsV RL 59 RX3 yX3_remove wsX3_remove) := goodIn_app (goodIn_of _ (by decide +kernel)) ggL_acts_X3_remove
set_option maxRecDepth 20000 in
theorem ggL_acts_X3_valueAt : GoodIn wsL_acts wsX3_valueAt := goodIn_r _ [166, 26, 27, 167, 168, 169, 170, 13, 171, 29, 172, 173, 174, 175, 48, 176, 177, 178, 179, 180, 181, 182, 183, 184, 185, 186, 187, 19, 188, 44, 59, 60, 21, 189, 190, 191, 192, 50, 115, 117, 116, 118, 119, 193, 56, 57, 58, 194, 160, 161, 162, 101, 102, 103, 104, 134, 135, 98, 99, 100, 259, 260, 261, 262, 263, 264, 269, 270, 271, 272, 273, 274, 275, 276, 277, 278, 265, 266, 267, 268] (by decide +kernel) (by decide +kernel)
set_option maxRecDepth 20000 in
theorem gL_acts_X3_valueAt : GoodIn wsL_acts (wsV RL 26 RX3 yX3_valueAt wsX3_valueAt) := goodIn_app (goodIn_of _ (by decide +kernel)) ggL_acts_X3_valueAt
set_option maxRecDepth 20000 in
theorem ggL_acts_X3_setVelocity : GoodIn wsL_acts wsX3_setVelocity := goodIn_r _ [198, 15, 26, 27, 28, 29, 134, 102, 103, 19, 104, 44, 37, 38, 13, 39, 45, 46, 47, 48, 49, 50, 136, 127, 128, 129, 60, 101, 135, 98, 99, 100, 59, 51, 52, 53, 54, 55, 56, 57, 58, 21, 73, 74, 75, 76, 31, 77, 78, 79, 64, 80, 81, 82, 83, 84, 66, 85, 86, 87, 88, 89, 90, 91, 92, 71, 93, 94, 95, 96, 97, 105, 106, 107, 108, 109, 110, 67, 68, 69, 70, 72, 111, 112, 113, 114, 115, 116, 117, 118, 119, 120, 121, 122, 123, 124, 125, 126, 259, 260, 261, 262, 263, 264, 265, 266, 267, 268, 269, 270, 271, 272, 273, 274, 275, 276, 277, 278, 279, 280, 281, 282, 283, 284, 285] (by decide +kernel) (by decide +kernel)
set_option maxRecDepth 20000 in
theorem gL_acts_X3_setVelocity : GoodIn wsL_acts (wsV RL 64 RX3 yX3_setVelocity wsX3_setVelocity) := goodIn_app (goodIn_of _ (by decide +kernel)) ggL_acts_X3_setVelocity
set_option maxRecDepth 20000 in
theorem ggL_acts_X3_jump : GoodIn wsL_acts wsX3_jump := goodIn_r _ [202, 15, 26, 27, 28, 29, 134, 102, 103, 19, 104, 44, 32, 33, 13, 34, 35, 36, 45, 46, 47, 48, 49, 50, 135, 98, 99, 100, 59, 60, 101, 136, 127, 128, 129, 51, 52, 53, 54, 55, 56, 57, 58, 21, 73, 74, 75, 76, 31, 77, 78, 79, 64, 80, 81, 82, 83, 84, 66, 85, 86, 87, 88, 89, 90, 91, 92, 71, 93, 94, 95, 96, 97, 105, 106, 107, 108, 109, 110, 67, 68, 69, 70, 72, 111, 112, 113, 114, 115, 116, 117, 118, 119, 120, 121, 122, 123, 124, 125, 126, 259, 260, 261, 262, 263, 264, 265, 266, 267, 268, 269, 270, 271, 272, 273, 274, 275, 276, 277, 278, 279, 280, 281, 282, 283, 284, 285] (by decide +kernel) (by decide +kernel)
set_option maxRecDepth 20000 in
theorem gL_acts_X3_jump : GoodIn wsL_acts (wsV RL 71 RX3 yX3_jump wsX3_jump) := goodIn_app (goodIn_of _ (by decide +kernel)) ggL_acts_X3_jump
set_option maxRecDepth 20000 in
theorem ggL_acts_X3_calendar : GoodIn wsL_acts wsX3_calendar := goodIn_r _ [206, 26, 31, 29, 167, 207, 208, 209, 64, 210, 66, 211, 212, 213, 214, 215, 216, 85, 217, 218, 219, 220, 86, 87, 88, 89, 90, 91, 92, 71, 221, 222, 223, 19, 224, 225, 226, 145, 94, 95, 96, 97, 98, 99, 100, 59, 60, 101, 102, 103, 104, 44, 227, 127, 128, 129, 228, 229, 230, 231, 232, 259, 260, 261, 262, 263, 264, 279, 280, 281, 282, 283, 284, 285, 265, 266, 267, 268] (by decide +kernel) (by decide +kernel)
set_option maxRecDepth 20000 in
theorem gL_acts_X3_calendar : GoodIn wsL_acts (wsV RL 40 RX3 yX3_calendar wsX3_calendar) := goodIn_app (goodIn_of _ (by decide +kernel)) ggL_acts_X3_calendar
set_option maxRecDepth 20000 in
theorem ggL_acts_X3_count : GoodIn wsL_acts wsX3_count := goodIn_r _ [236, 31, 237, 26, 259, 260, 261, 262, 263, 264, 279, 280, 281, 282, 283, 284, 285] (by decide +kernel) (by decide +kernel)
set_option maxRecDepth 20000 in
theorem gL_acts_X3_count : GoodIn wsL_acts (wsV RL 74 RX3 yX3_count wsX3_count) := goodIn_app (goodIn_of _ (by decide +kernel)) ggL_acts_X3_count
set_option maxRecDepth 20000 in
theorem ggL_acts_X3_step : GoodIn wsL_acts wsX3_step := goodIn_r _ [241, 31, 29, 242, 167, 243, 244, 245, 64, 246, 212, 66, 247, 248, 249, 250, 213, 214, 215, 216, 85, 217, 218, 219, 220, 86, 87, 88, 89, 90, 91, 92, 71, 221, 222, 223, 19, 224, 225, 226, 145, 94, 95, 96, 97, 98, 99, 100, 59, 60, 101, 102, 103, 104, 44, 227, 127, 128, 129, 251, 252, 253, 13, 254, 237, 77, 78, 79, 80, 81, 82, 83, 84, 93, 105, 106, 107, 108, 109, 110, 67, 68, 69, 70, 72, 259, 260, 261, 262, 263, 264, 279, 280, 281, 282, 283, 284, 285, 265, 266, 267, 268] (by decide +kernel) (by decide +kernel)
set_option maxRecDepth 20000 in
theorem gL_acts_X3_step : GoodIn wsL_acts (wsV RL 77 RX3 yX3_step wsX3_step) := goodIn_app (goodIn_of _ (by decide +kernel)) ggL_acts_X3_step
set_option maxRecDepth 20000 in
theorem ggL_acts_X3_pass : GoodIn wsL_acts wsX3_pass := goodIn_r _ [258, 29, 242, 26, 31, 243, 244, 245, 64, 246, 212, 66, 247, 248, 249, 250, 213, 214, 215, 216, 85, 217, 218, 219, 220, 86, 87, 88, 89, 90, 91, 92, 71, 221, 222, 223, 19, 224, 225, 226, 145, 94, 95, 96, 97, 98, 99, 100, 59, 60, 101, 102, 103, 104, 44, 227, 127, 128, 129, 251, 252, 253, 13, 254, 237, 77, 78, 79, 80, 81, 82, 83, 84, 93, 105, 106, 107, 108, 109, 110, 67, 68, 69, 70, 72, 259, 260, 261, 262, 263, 264, 279, 280, 281, 282, 283, 284, 285, 265, 266, 267, 268] (by decide +kernel) (by decide +kernel)
set_option maxRecDepth 20000 in
theorem gL_acts_X3_pass : GoodIn wsL_acts (wsV RL 84 RX3 yX3_pass wsX3_pass) := goodIn_app (goodIn_of _ (by decide +kernel)) ggL_acts_X3_pass
theorem dL_acts_0 : decode cL_acts 0 = .ok (.iload_n 1, 1) := by decide +kernel
theorem dL_acts_1 : decode cL_acts 1 = .ok (.iconst 4, 1) := by decide +kernel
theorem dL_acts_2 : decode cL_acts 2 = .ok (.ishr, 1) := by decide +kernel
theorem dL_acts_3 : decode cL_acts 3 = .ok (.bipush 24, 2) := by decide +kernel
theorem dL_acts_5 : decode cL_acts 5 = .ok (.irem, 1) := by decide +kernel
theorem dL_acts_6 : decode cL_acts 6 = .ok (.istore_n 2, 1) := by decide +kernel
theorem dL_acts_7 : decode cL_acts 7 = .ok (.iload_n 1, 1) := by decide +kernel
theorem dL_acts_8 : decode cL_acts 8 = .ok (.bipush 6, 2) := by decide +kernel
theorem dL_acts_10 : decode cL_acts 10 = .ok (.ishr, 1) := by decide +kernel
theorem dL_acts_11 : decode cL_acts 11 = .ok (.ldc 52, 2) := by decide +kernel
theorem dL_acts_13 : decode cL_acts 13 = .ok (.irem, 1) := by decide +kernel
theorem dL_acts_14 : decode cL_acts 14 = .ok (.ldc 53, 2) := by decide +kernel
theorem dL_acts_16 : decode cL_acts 16 = .ok (.isub, 1) := by decide +kernel
theorem dL_acts_17 : decode cL_acts 17 = .ok (.istore_n 3, 1) := by decide +kernel
theorem dL_acts_18 : decode cL_acts 18 = .ok (.iload_n 1, 1) := by decide +kernel
theorem dL_acts_19 : decode cL_acts 19 = .ok (.bipush 8, 2) := by decide +kernel
theorem dL_acts_21 : decode cL_acts 21 = .ok (.ishr, 1) := by decide +kernel
theorem dL_acts_22 : decode cL_acts 22 = .ok (.sipush 2001, 3) := by decide +kernel
theorem dL_acts_25 : decode cL_acts 25 = .ok (.irem, 1) := by decide +kernel
theorem dL_acts_26 : decode cL_acts 26 = .ok (.sipush 1000, 3) := by decide +kernel
theorem dL_acts_29 : decode cL_acts 29 = .ok (.isub, 1) := by decide +kernel
theorem dL_acts_30 : decode cL_acts 30 = .ok (.istore 4, 2) := by decide +kernel
theorem dL_acts_32 : decode cL_acts 32 = .ok (.aload_n 0, 1) := by decide +kernel
theorem dL_acts_33 : decode cL_acts 33 = .ok (.invokevirtual 9, 3) := by decide +kernel
theorem dL_acts_36 : decode cL_acts 36 = .ok (.istore 5, 2) := by decide +kernel
theorem dL_acts_38 : decode cL_acts 38 = .ok (.iload_n 1, 1) := by decide +kernel
theorem dL_acts_39 : decode cL_acts 39 = .ok (.bipush 9, 2) := by decide +kernel
theorem dL_acts_41 : decode cL_acts 41 = .ok (.irem, 1) := by decide +kernel
theorem dL_acts_42 : decode cL_acts 42 = .ok (.tableswitch 454 0 7 #[46, 46, 46, 46, 142, 208, 305, 362], 46) := by decide +kernel
theorem dL_acts_88 : decode cL_acts 88 = .ok (.aload_n 0, 1) := by decide +kernel
theorem dL_acts_89 : decode cL_acts 89 = .ok (.iload_n 1, 1) := by decide +kernel
theorem dL_acts_90 : decode cL_acts 90 = .ok (.iconst 2, 1) := by decide +kernel
theorem dL_acts_91 : decode cL_acts 91 = .ok (.irem, 1) := by decide +kernel
theorem dL_acts_92 : decode cL_acts 92 = .ok (.ifCond .ne 7, 3) := by decide +kernel
theorem dL_acts_95 : decode cL_acts 95 = .ok (.iload_n 3, 1) := by decide +kernel
theorem dL_acts_96 : decode cL_acts 96 = .ok (.goto 8, 3) := by decide +kernel
theorem dL_acts_99 : decode cL_acts 99 = .ok (.iload_n 3, 1) := by decide +kernel
theorem dL_acts_100 : decode cL_acts 100 = .ok (.sipush 1000, 3) := by decide +kernel
theorem dL_acts_103 : decode cL_acts 103 = .ok (.idiv, 1) := by decide +kernel
theorem dL_acts_104 : decode cL_acts 104 = .ok (.iload_n 1, 1) := by decide +kernel
theorem dL_acts_105 : decode cL_acts 105 = .ok (.iconst 4, 1) := by decide +kernel
theorem dL_acts_106 : decode cL_acts 106 = .ok (.irem, 1) := by decide +kernel
theorem dL_acts_107 : decode cL_acts 107 = .ok (.iconst 2, 1) := by decide +kernel
theorem dL_acts_108 : decode cL_acts 108 = .ok (.if_icmp .ge 11, 3) := by decide +kernel
theorem dL_acts_111 : decode cL_acts 111 = .ok (.iload 4, 2) := by decide +kernel
theorem dL_acts_113 : decode cL_acts 113 = .ok (.bipush 50, 2) := by decide +kernel
theorem dL_acts_115 : decode cL_acts 115 = .ok (.idiv, 1) := by decide +kernel
theorem dL_acts_116 : decode cL_acts 116 = .ok (.goto 5, 3) := by decide +kernel
theorem dL_acts_119 : decode cL_acts 119 = .ok (.iload 4, 2) := by decide +kernel
theorem dL_acts_121 : decode cL_acts 121 = .ok (.invokevirtual 54, 3) := by decide +kernel
theorem dL_acts_124 : decode cL_acts 124 = .ok (.lstore 6, 2) := by decide +kernel
theorem dL_acts_126 : decode cL_acts 126 = .ok (.lload 6, 2) := by decide +kernel
theorem dL_acts_128 : decode cL_acts 128 = .ok (.ldc2_w 57, 3) := by decide +kernel
theorem dL_acts_131 : decode cL_acts 131 = .ok (.lcmp, 1) := by decide +kernel
theorem dL_acts_132 : decode cL_acts 132 = .ok (.ifCond .ne 18, 3) := by decide +kernel
theorem dL_acts_135 : decode cL_acts 135 = .ok (.iload 5, 2) := by decide +kernel
theorem dL_acts_137 : decode cL_acts 137 = .ok (.bipush 24, 2) := by decide +kernel
theorem dL_acts_139 : decode cL_acts 139 = .ok (.if_icmp .ne 7, 3) := by decide +kernel
theorem dL_acts_142 : decode cL_acts 142 = .ok (.iconst 1, 1) := by decide +kernel
theorem dL_acts_143 : decode cL_acts 143 = .ok (.goto 40, 3) := by decide +kernel
theorem dL_acts_146 : decode cL_acts 146 = .ok (.iconst 0, 1) := by decide +kernel
theorem dL_acts_147 : decode cL_acts 147 = .ok (.goto 36, 3) := by decide +kernel
theorem dL_acts_150 : decode cL_acts 150 = .ok (.aload_n 0, 1) := by decide +kernel
theorem dL_acts_151 : decode cL_acts 151 = .ok (.invokevirtual 9, 3) := by decide +kernel
theorem dL_acts_154 : decode cL_acts 154 = .ok (.iload 5, 2) := by decide +kernel
theorem dL_acts_156 : decode cL_acts 156 = .ok (.iconst 1, 1) := by decide +kernel
theorem dL_acts_157 : decode cL_acts 157 = .ok (.iadd, 1) := by decide +kernel
theorem dL_acts_158 : decode cL_acts 158 = .ok (.if_icmp .ne 24, 3) := by decide +kernel
theorem dL_acts_161 : decode cL_acts 161 = .ok (.aload_n 0, 1) := by decide +kernel
theorem dL_acts_162 : decode cL_acts 162 = .ok (.lload 6, 2) := by decide +kernel
theorem dL_acts_164 : decode cL_acts 164 = .ok (.l2i, 1) := by decide +kernel
theorem dL_acts_165 : decode cL_acts 165 = .ok (.iconst 3, 1) := by decide +kernel
theorem dL_acts_166 : decode cL_acts 166 = .ok (.invokevirtual 19, 3) := by decide +kernel
theorem dL_acts_169 : decode cL_acts 169 = .ok (.aload_n 0, 1) := by decide +kernel
theorem dL_acts_170 : decode cL_acts 170 = .ok (.invokevirtual 23, 3) := by decide +kernel
theorem dL_acts_173 : decode cL_acts 173 = .ok (.i2l, 1) := by decide +kernel
theorem dL_acts_174 : decode cL_acts 174 = .ok (.lcmp, 1) := by decide +kernel
theorem dL_acts_175 : decode cL_acts 175 = .ok (.ifCond .ne 7, 3) := by decide +kernel
theorem dL_acts_178 : decode cL_acts 178 = .ok (.iconst 1, 1) := by decide +kernel
theorem dL_acts_179 : decode cL_acts 179 = .ok (.goto 4, 3) := by decide +kernel
theorem dL_acts_182 : decode cL_acts 182 = .ok (.iconst 0, 1) := by decide +kernel
theorem dL_acts_183 : decode cL_acts 183 = .ok (.ireturn, 1) := by decide +kernel
theorem dL_acts_184 : decode cL_acts 184 = .ok (.aload_n 0, 1) := by decide +kernel
theorem dL_acts_185 : decode cL_acts 185 = .ok (.iload_n 2, 1) := by decide +kernel
theorem dL_acts_186 : decode cL_acts 186 = .ok (.invokevirtual 59, 3) := by decide +kernel
theorem dL_acts_189 : decode cL_acts 189 = .ok (.lstore 6, 2) := by decide +kernel
theorem dL_acts_191 : decode cL_acts 191 = .ok (.lload 6, 2) := by decide +kernel
theorem dL_acts_193 : decode cL_acts 193 = .ok (.ldc2_w 62, 3) := by decide +kernel
theorem dL_acts_196 : decode cL_acts 196 = .ok (.lcmp, 1) := by decide +kernel
theorem dL_acts_197 : decode cL_acts 197 = .ok (.ifCond .ne 20, 3) := by decide +kernel
theorem dL_acts_200 : decode cL_acts 200 = .ok (.aload_n 0, 1) := by decide +kernel
theorem dL_acts_201 : decode cL_acts 201 = .ok (.invokevirtual 9, 3) := by decide +kernel
theorem dL_acts_204 : decode cL_acts 204 = .ok (.iload 5, 2) := by decide +kernel
theorem dL_acts_206 : decode cL_acts 206 = .ok (.if_icmp .ne 7, 3) := by decide +kernel
theorem dL_acts_209 : decode cL_acts 209 = .ok (.iconst 1, 1) := by decide +kernel
theorem dL_acts_210 : decode cL_acts 210 = .ok (.goto 39, 3) := by decide +kernel
theorem dL_acts_213 : decode cL_acts 213 = .ok (.iconst 0, 1) := by decide +kernel
theorem dL_acts_214 : decode cL_acts 214 = .ok (.goto 35, 3) := by decide +kernel
theorem dL_acts_217 : decode cL_acts 217 = .ok (.aload_n 0, 1) := by decide +kernel
theorem dL_acts_218 : decode cL_acts 218 = .ok (.invokevirtual 9, 3) := by decide +kernel
theorem dL_acts_221 : decode cL_acts 221 = .ok (.iload 5, 2) := by decide +kernel
theorem dL_acts_223 : decode cL_acts 223 = .ok (.iconst 1, 1) := by decide +kernel
theorem dL_acts_224 : decode cL_acts 224 = .ok (.isub, 1) := by decide +kernel
theorem dL_acts_225 : decode cL_acts 225 = .ok (.if_icmp .ne 23, 3) := by decide +kernel
theorem dL_acts_228 : decode cL_acts 228 = .ok (.aload_n 0, 1) := by decide +kernel
theorem dL_acts_229 : decode cL_acts 229 = .ok (.iload_n 2, 1) := by decide +kernel
theorem dL_acts_230 : decode cL_acts 230 = .ok (.aload_n 0, 1) := by decide +kernel
theorem dL_acts_231 : decode cL_acts 231 = .ok (.invokevirtual 23, 3) := by decide +kernel
theorem dL_acts_234 : decode cL_acts 234 = .ok (.invokevirtual 26, 3) := by decide +kernel
theorem dL_acts_237 : decode cL_acts 237 = .ok (.ldc2_w 35, 3) := by decide +kernel
theorem dL_acts_240 : decode cL_acts 240 = .ok (.lcmp, 1) := by decide +kernel
theorem dL_acts_241 : decode cL_acts 241 = .ok (.ifCond .ne 7, 3) := by decide +kernel
theorem dL_acts_244 : decode cL_acts 244 = .ok (.iconst 1, 1) := by decide +kernel
theorem dL_acts_245 : decode cL_acts 245 = .ok (.goto 4, 3) := by decide +kernel
theorem dL_acts_248 : decode cL_acts 248 = .ok (.iconst 0, 1) := by decide +kernel
theorem dL_acts_249 : decode cL_acts 249 = .ok (.ireturn, 1) := by decide +kernel
theorem dL_acts_250 : decode cL_acts 250 = .ok (.aload_n 0, 1) := by decide +kernel
theorem dL_acts_251 : decode cL_acts 251 = .ok (.iload_n 2, 1) := by decide +kernel
theorem dL_acts_252 : decode cL_acts 252 = .ok (.iconst 0, 1) := by decide +kernel
theorem dL_acts_253 : decode cL_acts 253 = .ok (.invokevirtual 19, 3) := by decide +kernel
theorem dL_acts_256 : decode cL_acts 256 = .ok (.lstore 8, 2) := by decide +kernel
theorem dL_acts_258 : decode cL_acts 258 = .ok (.aload_n 0, 1) := by decide +kernel
theorem dL_acts_259 : decode cL_acts 259 = .ok (.iload_n 2, 1) := by decide +kernel
theorem dL_acts_260 : decode cL_acts 260 = .ok (.iload 4, 2) := by decide +kernel
theorem dL_acts_262 : decode cL_acts 262 = .ok (.bipush 9, 2) := by decide +kernel
theorem dL_acts_264 : decode cL_acts 264 = .ok (.idiv, 1) := by decide +kernel
theorem dL_acts_265 : decode cL_acts 265 = .ok (.invokevirtual 64, 3) := by decide +kernel
theorem dL_acts_268 : decode cL_acts 268 = .ok (.lstore 6, 2) := by decide +kernel
theorem dL_acts_270 : decode cL_acts 270 = .ok (.lload 8, 2) := by decide +kernel
theorem dL_acts_272 : decode cL_acts 272 = .ok (.ldc2_w 62, 3) := by decide +kernel
theorem dL_acts_275 : decode cL_acts 275 = .ok (.lcmp, 1) := by decide +kernel
theorem dL_acts_276 : decode cL_acts 276 = .ok (.ifCond .ne 19, 3) := by decide +kernel
theorem dL_acts_279 : decode cL_acts 279 = .ok (.lload 6, 2) := by decide +kernel
theorem dL_acts_281 : decode cL_acts 281 = .ok (.lload 8, 2) := by decide +kernel
theorem dL_acts_283 : decode cL_acts 283 = .ok (.lcmp, 1) := by decide +kernel
theorem dL_acts_284 : decode cL_acts 284 = .ok (.ifCond .ne 7, 3) := by decide +kernel
theorem dL_acts_287 : decode cL_acts 287 = .ok (.iconst 1, 1) := by decide +kernel
theorem dL_acts_288 : decode cL_acts 288 = .ok (.goto 58, 3) := by decide +kernel
theorem dL_acts_291 : decode cL_acts 291 = .ok (.iconst 0, 1) := by decide +kernel
theorem dL_acts_292 : decode cL_acts 292 = .ok (.goto 54, 3) := by decide +kernel
theorem dL_acts_295 : decode cL_acts 295 = .ok (.aload_n 0, 1) := by decide +kernel
theorem dL_acts_296 : decode cL_acts 296 = .ok (.iload_n 2, 1) := by decide +kernel
theorem dL_acts_297 : decode cL_acts 297 = .ok (.iconst 0, 1) := by decide +kernel
theorem dL_acts_298 : decode cL_acts 298 = .ok (.invokevirtual 19, 3) := by decide +kernel
theorem dL_acts_301 : decode cL_acts 301 = .ok (.lload 8, 2) := by decide +kernel
theorem dL_acts_303 : decode cL_acts 303 = .ok (.lcmp, 1) := by decide +kernel
theorem dL_acts_304 : decode cL_acts 304 = .ok (.ifCond .ne 41, 3) := by decide +kernel
theorem dL_acts_307 : decode cL_acts 307 = .ok (.aload_n 0, 1) := by decide +kernel
theorem dL_acts_308 : decode cL_acts 308 = .ok (.iload_n 2, 1) := by decide +kernel
theorem dL_acts_309 : decode cL_acts 309 = .ok (.iconst 1, 1) := by decide +kernel
theorem dL_acts_310 : decode cL_acts 310 = .ok (.invokevirtual 19, 3) := by decide +kernel
theorem dL_acts_313 : decode cL_acts 313 = .ok (.iload 4, 2) := by decide +kernel
theorem dL_acts_315 : decode cL_acts 315 = .ok (.bipush 9, 2) := by decide +kernel
theorem dL_acts_317 : decode cL_acts 317 = .ok (.idiv, 1) := by decide +kernel
theorem dL_acts_318 : decode cL_acts 318 = .ok (.i2l, 1) := by decide +kernel
theorem dL_acts_319 : decode cL_acts 319 = .ok (.lcmp, 1) := by decide +kernel
theorem dL_acts_320 : decode cL_acts 320 = .ok (.ifCond .ne 25, 3) := by decide +kernel
theorem dL_acts_323 : decode cL_acts 323 = .ok (.lload 6, 2) := by decide +kernel
theorem dL_acts_325 : decode cL_acts 325 = .ok (.ldc2_w 67, 3) := by decide +kernel
theorem dL_acts_328 : decode cL_acts 328 = .ok (.lcmp, 1) := by decide +kernel
theorem dL_acts_329 : decode cL_acts 329 = .ok (.ifCond .lt 16, 3) := by decide +kernel
theorem dL_acts_332 : decode cL_acts 332 = .ok (.lload 6, 2) := by decide +kernel
theorem dL_acts_334 : decode cL_acts 334 = .ok (.ldc2_w 69, 3) := by decide +kernel
theorem dL_acts_337 : decode cL_acts 337 = .ok (.lcmp, 1) := by decide +kernel
theorem dL_acts_338 : decode cL_acts 338 = .ok (.ifCond .gt 7, 3) := by decide +kernel
theorem dL_acts_341 : decode cL_acts 341 = .ok (.iconst 1, 1) := by decide +kernel
theorem dL_acts_342 : decode cL_acts 342 = .ok (.goto 4, 3) := by decide +kernel
theorem dL_acts_345 : decode cL_acts 345 = .ok (.iconst 0, 1) := by decide +kernel
theorem dL_acts_346 : decode cL_acts 346 = .ok (.ireturn, 1) := by decide +kernel
theorem dL_acts_347 : decode cL_acts 347 = .ok (.aload_n 0, 1) := by decide +kernel
theorem dL_acts_348 : decode cL_acts 348 = .ok (.iload_n 2, 1) := by decide +kernel
theorem dL_acts_349 : decode cL_acts 349 = .ok (.iconst 0, 1) := by decide +kernel
theorem dL_acts_350 : decode cL_acts 350 = .ok (.invokevirtual 19, 3) := by decide +kernel
theorem dL_acts_353 : decode cL_acts 353 = .ok (.lstore 8, 2) := by decide +kernel
theorem dL_acts_355 : decode cL_acts 355 = .ok (.aload_n 0, 1) := by decide +kernel
theorem dL_acts_356 : decode cL_acts 356 = .ok (.iload_n 2, 1) := by decide +kernel
theorem dL_acts_357 : decode cL_acts 357 = .ok (.iload_n 3, 1) := by decide +kernel
theorem dL_acts_358 : decode cL_acts 358 = .ok (.bipush 100, 2) := by decide +kernel
theorem dL_acts_360 : decode cL_acts 360 = .ok (.idiv, 1) := by decide +kernel
theorem dL_acts_361 : decode cL_acts 361 = .ok (.invokevirtual 71, 3) := by decide +kernel
theorem dL_acts_364 : decode cL_acts 364 = .ok (.lstore 6, 2) := by decide +kernel
theorem dL_acts_366 : decode cL_acts 366 = .ok (.lload 6, 2) := by decide +kernel
theorem dL_acts_368 : decode cL_acts 368 = .ok (.lload 8, 2) := by decide +kernel
theorem dL_acts_370 : decode cL_acts 370 = .ok (.lcmp, 1) := by decide +kernel
theorem dL_acts_371 : decode cL_acts 371 = .ok (.ifCond .ne 31, 3) := by decide +kernel
theorem dL_acts_374 : decode cL_acts 374 = .ok (.lload 8, 2) := by decide +kernel
theorem dL_acts_376 : decode cL_acts 376 = .ok (.ldc2_w 62, 3) := by decide +kernel
theorem dL_acts_379 : decode cL_acts 379 = .ok (.lcmp, 1) := by decide +kernel
theorem dL_acts_380 : decode cL_acts 380 = .ok (.ifCond .eq 18, 3) := by decide +kernel
theorem dL_acts_383 : decode cL_acts 383 = .ok (.aload_n 0, 1) := by decide +kernel
theorem dL_acts_384 : decode cL_acts 384 = .ok (.iload_n 2, 1) := by decide +kernel
theorem dL_acts_385 : decode cL_acts 385 = .ok (.iconst 0, 1) := by decide +kernel
theorem dL_acts_386 : decode cL_acts 386 = .ok (.invokevirtual 19, 3) := by decide +kernel
theorem dL_acts_389 : decode cL_acts 389 = .ok (.iload_n 3, 1) := by decide +kernel
theorem dL_acts_390 : decode cL_acts 390 = .ok (.bipush 100, 2) := by decide +kernel
theorem dL_acts_392 : decode cL_acts 392 = .ok (.idiv, 1) := by decide +kernel
theorem dL_acts_393 : decode cL_acts 393 = .ok (.i2l, 1) := by decide +kernel
theorem dL_acts_394 : decode cL_acts 394 = .ok (.lcmp, 1) := by decide +kernel
theorem dL_acts_395 : decode cL_acts 395 = .ok (.ifCond .ne 7, 3) := by decide +kernel
theorem dL_acts_398 : decode cL_acts 398 = .ok (.iconst 1, 1) := by decide +kernel
theorem dL_acts_399 : decode cL_acts 399 = .ok (.goto 4, 3) := by decide +kernel
theorem dL_acts_402 : decode cL_acts 402 = .ok (.iconst 0, 1) := by decide +kernel
theorem dL_acts_403 : decode cL_acts 403 = .ok (.ireturn, 1) := by decide +kernel
theorem dL_acts_404 : decode cL_acts 404 = .ok (.aload_n 0, 1) := by decide +kernel
theorem dL_acts_405 : decode cL_acts 405 = .ok (.iconst 0, 1) := by decide +kernel
theorem dL_acts_406 : decode cL_acts 406 = .ok (.iconst 0, 1) := by decide +kernel
theorem dL_acts_407 : decode cL_acts 407 = .ok (.invokevirtual 40, 3) := by decide +kernel
theorem dL_acts_410 : decode cL_acts 410 = .ok (.lstore 10, 2) := by decide +kernel
theorem dL_acts_412 : decode cL_acts 412 = .ok (.aload_n 0, 1) := by decide +kernel
theorem dL_acts_413 : decode cL_acts 413 = .ok (.iconst 1, 1) := by decide +kernel
theorem dL_acts_414 : decode cL_acts 414 = .ok (.invokevirtual 74, 3) := by decide +kernel
theorem dL_acts_417 : decode cL_acts 417 = .ok (.lstore 12, 2) := by decide +kernel
theorem dL_acts_419 : decode cL_acts 419 = .ok (.aload_n 0, 1) := by decide +kernel
theorem dL_acts_420 : decode cL_acts 420 = .ok (.invokevirtual 77, 3) := by decide +kernel
theorem dL_acts_423 : decode cL_acts 423 = .ok (.lstore 14, 2) := by decide +kernel
theorem dL_acts_425 : decode cL_acts 425 = .ok (.lload 10, 2) := by decide +kernel
theorem dL_acts_427 : decode cL_acts 427 = .ok (.lconst 0, 1) := by decide +kernel
theorem dL_acts_428 : decode cL_acts 428 = .ok (.lcmp, 1) := by decide +kernel
theorem dL_acts_429 : decode cL_acts 429 = .ok (.ifCond .lt 12, 3) := by decide +kernel
theorem dL_acts_432 : decode cL_acts 432 = .ok (.lload 10, 2) := by decide +kernel
theorem dL_acts_434 : decode cL_acts 434 = .ok (.ldc2_w 81, 3) := by decide +kernel
theorem dL_acts_437 : decode cL_acts 437 = .ok (.lcmp, 1) := by decide +kernel
theorem dL_acts_438 : decode cL_acts 438 = .ok (.ifCond .le 20, 3) := by decide +kernel
theorem dL_acts_441 : decode cL_acts 441 = .ok (.lload 14, 2) := by decide +kernel
theorem dL_acts_443 : decode cL_acts 443 = .ok (.ldc2_w 35, 3) := by decide +kernel
theorem dL_acts_446 : decode cL_acts 446 = .ok (.lcmp, 1) := by decide +kernel
theorem dL_acts_447 : decode cL_acts 447 = .ok (.ifCond .ne 7, 3) := by decide +kernel
theorem dL_acts_450 : decode cL_acts 450 = .ok (.iconst 1, 1) := by decide +kernel
theorem dL_acts_451 : decode cL_acts 451 = .ok (.goto 44, 3) := by decide +kernel
theorem dL_acts_454 : decode cL_acts 454 = .ok (.iconst 0, 1) := by decide +kernel
theorem dL_acts_455 : decode cL_acts 455 = .ok (.goto 40, 3) := by decide +kernel
theorem dL_acts_458 : decode cL_acts 458 = .ok (.lload 14, 2) := by decide +kernel
theorem dL_acts_460 : decode cL_acts 460 = .ok (.lload 10, 2) := by decide +kernel
theorem dL_acts_462 : decode cL_acts 462 = .ok (.lcmp, 1) := by decide +kernel
theorem dL_acts_463 : decode cL_acts 463 = .ok (.ifCond .ne 31, 3) := by decide +kernel
theorem dL_acts_466 : decode cL_acts 466 = .ok (.aload_n 0, 1) := by decide +kernel
theorem dL_acts_467 : decode cL_acts 467 = .ok (.invokevirtual 23, 3) := by decide +kernel
theorem dL_acts_470 : decode cL_acts 470 = .ok (.i2l, 1) := by decide +kernel
theorem dL_acts_471 : decode cL_acts 471 = .ok (.lload 10, 2) := by decide +kernel
theorem dL_acts_473 : decode cL_acts 473 = .ok (.lcmp, 1) := by decide +kernel
theorem dL_acts_474 : decode cL_acts 474 = .ok (.ifCond .ne 20, 3) := by decide +kernel
theorem dL_acts_477 : decode cL_acts 477 = .ok (.aload_n 0, 1) := by decide +kernel
theorem dL_acts_478 : decode cL_acts 478 = .ok (.iconst 1, 1) := by decide +kernel
theorem dL_acts_479 : decode cL_acts 479 = .ok (.invokevirtual 74, 3) := by decide +kernel
theorem dL_acts_482 : decode cL_acts 482 = .ok (.lload 12, 2) := by decide +kernel
theorem dL_acts_484 : decode cL_acts 484 = .ok (.lconst 1, 1) := by decide +kernel
theorem dL_acts_485 : decode cL_acts 485 = .ok (.ladd, 1) := by decide +kernel
theorem dL_acts_486 : decode cL_acts 486 = .ok (.lcmp, 1) := by decide +kernel
theorem dL_acts_487 : decode cL_acts 487 = .ok (.ifCond .ne 7, 3) := by decide +kernel
theorem dL_acts_490 : decode cL_acts 490 = .ok (.iconst 1, 1) := by decide +kernel
theorem dL_acts_491 : decode cL_acts 491 = .ok (.goto 4, 3) := by decide +kernel
theorem dL_acts_494 : decode cL_acts 494 = .ok (.iconst 0, 1) := by decide +kernel
theorem dL_acts_495 : decode cL_acts 495 = .ok (.ireturn, 1) := by decide +kernel
theorem dL_acts_496 : decode cL_acts 496 = .ok (.aload_n 0, 1) := by decide +kernel
theorem dL_acts_497 : decode cL_acts 497 = .ok (.invokevirtual 23, 3) := by decide +kernel
theorem dL_acts_500 : decode cL_acts 500 = .ok (.iload_n 1, 1) := by decide +kernel
theorem dL_acts_501 : decode cL_acts 501 = .ok (.bipush 9, 2) := by decide +kernel
theorem dL_acts_503 : decode cL_acts 503 = .ok (.ishr, 1) := by decide +kernel
theorem dL_acts_504 : decode cL_acts 504 = .ok (.sipush 200, 3) := by decide +kernel
theorem dL_acts_507 : decode cL_acts 507 = .ok (.irem, 1) := by decide +kernel
theorem dL_acts_508 : decode cL_acts 508 = .ok (.iadd, 1) := by decide +kernel
theorem dL_acts_509 : decode cL_acts 509 = .ok (.istore 16, 2) := by decide +kernel
theorem dL_acts_511 : decode cL_acts 511 = .ok (.aload_n 0, 1) := by decide +kernel
theorem dL_acts_512 : decode cL_acts 512 = .ok (.iconst 0, 1) := by decide +kernel
theorem dL_acts_513 : decode cL_acts 513 = .ok (.invokevirtual 74, 3) := by decide +kernel
theorem dL_acts_516 : decode cL_acts 516 = .ok (.lstore 17, 2) := by decide +kernel
theorem dL_acts_518 : decode cL_acts 518 = .ok (.aload_n 0, 1) := by decide +kernel
theorem dL_acts_519 : decode cL_acts 519 = .ok (.iconst 1, 1) := by decide +kernel
theorem dL_acts_520 : decode cL_acts 520 = .ok (.invokevirtual 74, 3) := by decide +kernel
theorem dL_acts_523 : decode cL_acts 523 = .ok (.lstore 12, 2) := by decide +kernel
theorem dL_acts_525 : decode cL_acts 525 = .ok (.iload 16, 2) := by decide +kernel
theorem dL_acts_527 : decode cL_acts 527 = .ok (.ldc 83, 2) := by decide +kernel
theorem dL_acts_529 : decode cL_acts 529 = .ok (.if_icmp .le 5, 3) := by decide +kernel
theorem dL_acts_532 : decode cL_acts 532 = .ok (.iconst 1, 1) := by decide +kernel
theorem dL_acts_533 : decode cL_acts 533 = .ok (.ireturn, 1) := by decide +kernel
theorem dL_acts_534 : decode cL_acts 534 = .ok (.aload_n 0, 1) := by decide +kernel
theorem dL_acts_535 : decode cL_acts 535 = .ok (.iload 16, 2) := by decide +kernel
theorem dL_acts_537 : decode cL_acts 537 = .ok (.invokevirtual 84, 3) := by decide +kernel
theorem dL_acts_540 : decode cL_acts 540 = .ok (.lstore 6, 2) := by decide +kernel
theorem dL_acts_542 : decode cL_acts 542 = .ok (.lload 6, 2) := by decide +kernel
theorem dL_acts_544 : decode cL_acts 544 = .ok (.lconst 0, 1) := by decide +kernel
theorem dL_acts_545 : decode cL_acts 545 = .ok (.lcmp, 1) := by decide +kernel
theorem dL_acts_546 : decode cL_acts 546 = .ok (.ifCond .lt 58, 3) := by decide +kernel
theorem dL_acts_549 : decode cL_acts 549 = .ok (.aload_n 0, 1) := by decide +kernel
theorem dL_acts_550 : decode cL_acts 550 = .ok (.invokevirtual 23, 3) := by decide +kernel
theorem dL_acts_553 : decode cL_acts 553 = .ok (.iload 16, 2) := by decide +kernel
theorem dL_acts_555 : decode cL_acts 555 = .ok (.if_icmp .ne 49, 3) := by decide +kernel
theorem dL_acts_558 : decode cL_acts 558 = .ok (.aload_n 0, 1) := by decide +kernel
theorem dL_acts_559 : decode cL_acts 559 = .ok (.iconst 1, 1) := by decide +kernel
theorem dL_acts_560 : decode cL_acts 560 = .ok (.invokevirtual 74, 3) := by decide +kernel
theorem dL_acts_563 : decode cL_acts 563 = .ok (.lload 12, 2) := by decide +kernel
theorem dL_acts_565 : decode cL_acts 565 = .ok (.lload 6, 2) := by decide +kernel
theorem dL_acts_567 : decode cL_acts 567 = .ok (.ladd, 1) := by decide +kernel
theorem dL_acts_568 : decode cL_acts 568 = .ok (.lcmp, 1) := by decide +kernel
theorem dL_acts_569 : decode cL_acts 569 = .ok (.ifCond .ne 35, 3) := by decide +kernel
theorem dL_acts_572 : decode cL_acts 572 = .ok (.aload_n 0, 1) := by decide +kernel
theorem dL_acts_573 : decode cL_acts 573 = .ok (.iconst 0, 1) := by decide +kernel
theorem dL_acts_574 : decode cL_acts 574 = .ok (.invokevirtual 74, 3) := by decide +kernel
theorem dL_acts_577 : decode cL_acts 577 = .ok (.lload 17, 2) := by decide +kernel
theorem dL_acts_579 : decode cL_acts 579 = .ok (.lload 6, 2) := by decide +kernel
theorem dL_acts_581 : decode cL_acts 581 = .ok (.ladd, 1) := by decide +kernel
theorem dL_acts_582 : decode cL_acts 582 = .ok (.lcmp, 1) := by decide +kernel
theorem dL_acts_583 : decode cL_acts 583 = .ok (.ifCond .lt 21, 3) := by decide +kernel
theorem dL_acts_586 : decode cL_acts 586 = .ok (.aload_n 0, 1) := by decide +kernel
theorem dL_acts_587 : decode cL_acts 587 = .ok (.iconst 2, 1) := by decide +kernel
theorem dL_acts_588 : decode cL_acts 588 = .ok (.invokevirtual 74, 3) := by decide +kernel
theorem dL_acts_591 : decode cL_acts 591 = .ok (.aload_n 0, 1) := by decide +kernel
theorem dL_acts_592 : decode cL_acts 592 = .ok (.iconst 0, 1) := by decide +kernel
theorem dL_acts_593 : decode cL_acts 593 = .ok (.invokevirtual 74, 3) := by decide +kernel
theorem dL_acts_596 : decode cL_acts 596 = .ok (.lcmp, 1) := by decide +kernel
theorem dL_acts_597 : decode cL_acts 597 = .ok (.ifCond .gt 7, 3) := by decide +kernel
theorem dL_acts_600 : decode cL_acts 600 = .ok (.iconst 1, 1) := by decide +kernel
theorem dL_acts_601 : decode cL_acts 601 = .ok (.goto 4, 3) := by decide +kernel
theorem dL_acts_604 : decode cL_acts 604 = .ok (.iconst 0, 1) := by decide +kernel
theorem dL_acts_605 : decode cL_acts 605 = .ok (.ireturn, 1) := by decide +kernel
set_option maxRecDepth 20000 in
theorem ggL_isForetold_X3_init : GoodIn wsL_isForetold wsX3_init := goodIn_r _ [10, 11, 12, 13, 14, 15, 16, 17, 18, 19, 20, 21, 22, 23, 24, 25, 26, 27, 28, 29, 30, 31, 32, 33, 34, 35, 36, 37, 38, 39, 40, 41, 42, 43, 44, 45, 46, 47, 48, 49, 50, 51, 52, 53, 54, 55, 56, 57, 58, 59, 60, 61, 62, 63, 64, 65, 66, 314, 315, 316, 317, 318, 319, 320, 308, 309, 310, 311, 312, 313, 321, 322, 323, 324, 325, 326, 327, 328, 329, 330, 331, 332, 333, 334] (by decide +kernel) (by decide +kernel)
set_option maxRecDepth 20000 in
theorem gL_isForetold_X3_init : GoodIn wsL_isForetold (wsX3_init) := ggL_isForetold_X3_init
set_option maxRecDepth 20000 in
theorem ggL_isForetold_X3_insert : GoodIn wsL_isForetold wsX3_insert := goodIn_r _ [70, 71, 18, 22, 72, 25, 24, 17, 73, 74, 3, 75, 76, 77, 78, 79, 80, 81, 82, 83, 33, 84, 46, 85, 86, 87, 21, 88, 63, 89, 90, 91, 92, 93, 94, 95, 96, 50, 48, 49, 97, 98, 99, 16, 100, 38, 101, 102, 103, 104, 35, 36, 105, 106, 107, 108, 109, 110, 111, 112, 113, 114, 115, 116, 34, 117, 118, 119, 120, 121, 122, 123, 124, 125, 126, 127, 128, 129, 130, 131, 132, 133, 134, 135, 136, 137, 138, 139, 39, 40, 140, 141, 142, 143, 58, 59, 60, 61, 62, 144, 145, 146, 147, 148, 149, 150, 151, 152, 153, 308, 309, 310, 311, 312, 313, 331, 332, 333, 334, 321, 322, 323, 324, 325, 326, 327, 328, 329, 330, 314, 315, 316, 317, 318, 319, 320] (by decide +kernel) (by decide +kernel)
set_option maxRecDepth 20000 in
theorem gL_isForetold_X3_insert : GoodIn wsL_isForetold (wsV RL 54 RX3 yX3_insert wsX3_insert) := goodIn_app (goodIn_of _ (by decide +kernel)) ggL_isForetold_X3_insert
set_option maxRecDepth 20000 in
theorem ggL_isForetold_X3_calendarSize : GoodIn wsL_isForetold wsX3_calendarSize := goodIn_r _ [157, 17, 25, 158, 159, 160, 16, 161, 38, 162, 163, 164, 165, 166, 34, 167, 168, 169, 170, 117, 118, 119, 120, 121, 122, 123, 35, 171, 172, 173, 33, 174, 175, 176, 177, 125, 126, 127, 128, 129, 130, 131, 48, 49, 132, 133, 134, 135, 46, 178, 151, 152, 153, 308, 309, 310, 311, 312, 313, 314, 315, 316, 317, 318, 319, 320, 331, 332, 333, 334] (by decide +kernel) (by decide +kernel)
set_option maxRecDepth 20000 in
theorem gL_isForetold_X3_calendarSize : GoodIn wsL_isForetold (wsV RL 43 RX3 yX3_calendarSize wsX3_calendarSize) := goodIn_app (goodIn_of _ (by decide +kernel)) ggL_isForetold_X3_calendarSize
set_option maxRecDepth 20000 in
theorem ggL_isForetold_X3_meeting : GoodIn wsL_isForetold wsX3_meeting := goodIn_r _ [182, 18, 71, 25, 183, 133, 134, 33, 135, 46, 184, 125, 126, 127, 128, 129, 130, 131, 48, 49, 132, 185, 172, 173, 174, 175, 176, 177, 178, 151, 152, 153, 186, 187, 3, 188, 189, 190, 308, 309, 310, 311, 312, 313, 331, 332, 333, 334] (by decide +kernel) (by decide +kernel)
set_option maxRecDepth 20000 in
theorem gL_isForetold_X3_meeting : GoodIn wsL_isForetold (wsV RL 37 RX3 yX3_meeting wsX3_meeting) := goodIn_app (goodIn_of _ (by decide +kernel)) ggL_isForetold_X3_meeting
set_option maxRecDepth 20000 in
theorem ggL_isForetold_X3_at : GoodIn wsL_isForetold wsX3_at := goodIn_r _ [194, 71, 17, 195, 121, 122, 16, 123, 38, 35, 196, 197, 3, 198, 190, 308, 309, 310, 311, 312, 313, 314, 315, 316, 317, 318, 319, 320] (by decide +kernel) (by decide +kernel)
set_option maxRecDepth 20000 in
theorem gL_isForetold_X3_at : GoodIn wsL_isForetold (wsV RL 15 RX3 yX3_at wsX3_at) := goodIn_app (goodIn_of _ (by decide +kernel)) ggL_isForetold_X3_at
set_option maxRecDepth 20000 in
theorem ggL_isForetold_X3_topChange : GoodIn wsL_isForetold wsX3_topChange := goodIn_r _ [202, 18, 203, 25, 204, 205, 206, 33, 207, 50, 208, 209, 210, 211, 175, 46, 212, 213, 214, 215, 216, 217, 218, 219, 177, 125, 126, 127, 128, 129, 130, 131, 48, 49, 132, 133, 134, 135, 220, 172, 173, 174, 176, 178, 151, 152, 153, 186, 187, 3, 188, 189, 190, 308, 309, 310, 311, 312, 313, 331, 332, 333, 334] (by decide +kernel) (by decide +kernel)
set_option maxRecDepth 20000 in
theorem gL_isForetold_X3_topChange : GoodIn wsL_isForetold (wsV RL 88 RX3 yX3_topChange wsX3_topChange) := goodIn_app (goodIn_of _ (by decide +kernel)) ggL_isForetold_X3_topChange
set_option maxRecDepth 20000 in
theorem ggL_isForetold_X3_failure : GoodIn wsL_isForetold wsX3_failure := goodIn_r _ [224, 17, 71, 25, 225, 168, 169, 16, 170, 38, 226, 164, 165, 166, 162, 34, 167, 117, 118, 119, 120, 121, 122, 123, 35, 171, 172, 173, 33, 174, 175, 176, 177, 125, 126, 127, 128, 129, 130, 131, 48, 49, 132, 133, 134, 135, 46, 178, 151, 152, 153, 186, 187, 3, 188, 189, 190, 308, 309, 310, 311, 312, 313, 314, 315, 316, 317, 318, 319, 320, 331, 332, 333, 334] (by decide +kernel) (by decide +kernel)
set_option maxRecDepth 20000 in
theorem gL_isForetold_X3_failure : GoodIn wsL_isForetold (wsV RL 32 RX3 yX3_failure wsX3_failure) := goodIn_app (goodIn_of _ (by decide +kernel)) ggL_isForetold_X3_failure
set_option maxRecDepth 20000 in
theorem ggL_isForetold_X3_pass : GoodIn wsL_isForetold wsX3_pass := goodIn_r _ [230, 25, 231, 71, 17, 232, 233, 234, 16, 235, 162, 38, 236, 213, 214, 215, 163, 164, 165, 166, 34, 167, 168, 169, 170, 117, 118, 119, 120, 121, 122, 123, 35, 171, 172, 173, 33, 174, 175, 176, 177, 125, 126, 127, 128, 129, 130, 131, 48, 49, 132, 133, 134, 135, 46, 178, 151, 152, 153, 237, 238, 239, 3, 240, 26, 109, 110, 111, 112, 113, 114, 115, 116, 124, 136, 137, 138, 139, 39, 40, 101, 102, 103, 104, 36, 308, 309, 310, 311, 312, 313, 314, 315, 316, 317, 318, 319, 320, 331, 332, 333, 334] (by decide +kernel) (by decide +kernel)
set_option maxRecDepth 20000 in
theorem gL_isForetold_X3_pass : GoodIn wsL_isForetold (wsV RL 84 RX3 yX3_pass wsX3_pass) := goodIn_app (goodIn_of _ (by decide +kernel)) ggL_isForetold_X3_pass
set_option maxRecDepth 20000 in
theorem ggL_isForetold_X3_point : GoodIn wsL_isForetold wsX3_point := goodIn_r _ [244, 18, 71, 25, 17, 24, 183, 133, 134, 33, 135, 46, 245, 129, 130, 131, 48, 49, 132, 246, 151, 152, 153, 247, 248, 249, 16, 250, 36, 251, 252, 253, 254, 177, 125, 126, 127, 128, 308, 309, 310, 311, 312, 313, 331, 332, 333, 334, 314, 315, 316, 317, 318, 319, 320] (by decide +kernel) (by decide +kernel)
set_option maxRecDepth 20000 in
theorem gL_isForetold_X3_point : GoodIn wsL_isForetold (wsV RL 19 RX3 yX3_point wsX3_point) := goodIn_app (goodIn_of _ (by decide +kernel)) ggL_isForetold_X3_point
set_option maxRecDepth 20000 in
theorem ggL_isForetold_X3_step : GoodIn wsL_isForetold wsX3_step := goodIn_r _ [258, 17, 25, 231, 190, 232, 233, 234, 16, 235, 162, 38, 236, 213, 214, 215, 163, 164, 165, 166, 34, 167, 168, 169, 170, 117, 118, 119, 120, 121, 122, 123, 35, 171, 172, 173, 33, 174, 175, 176, 177, 125, 126, 127, 128, 129, 130, 131, 48, 49, 132, 133, 134, 135, 46, 178, 151, 152, 153, 237, 238, 239, 3, 240, 26, 109, 110, 111, 112, 113, 114, 115, 116, 124, 136, 137, 138, 139, 39, 40, 101, 102, 103, 104, 36, 308, 309, 310, 311, 312, 313, 314, 315, 316, 317, 318, 319, 320, 331, 332, 333, 334] (by decide +kernel) (by decide +kernel)
set_option maxRecDepth 20000 in
theorem gL_isForetold_X3_step : GoodIn wsL_isForetold (wsV RL 77 RX3 yX3_step wsX3_step) := goodIn_app (goodIn_of _ (by decide +kernel)) ggL_isForetold_X3_step
set_option maxRecDepth 20000 in
theorem ggL_isForetold_X3_count : GoodIn wsL_isForetold wsX3_count := goodIn_r _ [262, 17, 26, 71, 308, 309, 310, 311, 312, 313, 314, 315, 316, 317, 318, 319, 320] (by decide +kernel) (by decide +kernel)
set_option maxRecDepth 20000 in
theorem gL_isForetold_X3_count : GoodIn wsL_isForetold (wsV RL 74 RX3 yX3_count wsX3_count) := goodIn_app (goodIn_of _ (by decide +kernel)) ggL_isForetold_X3_count
set_option maxRecDepth 20000 in
theorem ggL_isForetold_X3_topAt : GoodIn wsL_isForetold wsX3_topAt := goodIn_r _ [266, 22, 267, 268, 269, 3, 270, 25, 71, 203, 271, 272, 273, 21, 274, 65, 275, 276, 277, 278, 57, 56, 64, 279, 280, 281, 33, 282, 46, 48, 49, 50, 283, 284, 285, 286, 63, 58, 60, 59, 61, 62, 287, 94, 95, 96, 288, 289, 290, 291, 132, 133, 134, 135, 292, 217, 218, 219, 177, 125, 126, 127, 128, 129, 130, 131, 196, 197, 198, 190, 308, 309, 310, 311, 312, 313, 321, 322, 323, 324, 325, 326, 327, 328, 329, 330, 331, 332, 333, 334] (by decide +kernel) (by decide +kernel)
set_option maxRecDepth 20000 in
theorem gL_isForetold_X3_topAt : GoodIn wsL_isForetold (wsV RL 46 RX3 yX3_topAt wsX3_topAt) := goodIn_app (goodIn_of _ (by decide +kernel)) ggL_isForetold_X3_topAt
set_option maxRecDepth 20000 in
theorem ggL_isForetold_X3_topChanges : GoodIn wsL_isForetold wsX3_topChanges := goodIn_r _ [296, 22, 297, 213, 214, 215, 298, 299, 300, 3, 301, 25, 71, 267, 268, 269, 270, 203, 271, 272, 273, 21, 274, 65, 275, 276, 277, 278, 57, 56, 64, 279, 280, 281, 33, 282, 46, 48, 49, 50, 283, 284, 285, 286, 63, 58, 60, 59, 61, 62, 287, 94, 95, 96, 288, 289, 290, 291, 132, 133, 134, 135, 292, 217, 218, 219, 177, 125, 126, 127, 128, 129, 130, 131, 302, 303, 304, 305, 306, 208, 209, 210, 211, 175, 212, 216, 220, 172, 173, 174, 176, 178, 151, 152, 153, 307, 308, 309, 310, 311, 312, 313, 321, 322, 323, 324, 325, 326, 327, 328, 329, 330, 331, 332, 333, 334] (by decide +kernel) (by decide +kernel)
set_option maxRecDepth 20000 in
theorem gL_isForetold_X3_topChanges : GoodIn wsL_isForetold (wsV RL 93 RX3 yX3_topChanges wsX3_topChanges) := goodIn_app (goodIn_of _ (by decide +kernel)) ggL_isForetold_X3_topChanges
theorem dL_isForetold_0 : decode cL_isForetold 0 = .ok (.new 10, 3) := by decide +kernel
theorem dL_isForetold_3 : decode cL_isForetold 3 = .ok (.dup, 1) := by decide +kernel
theorem dL_isForetold_4 : decode cL_isForetold 4 = .ok (.invokespecial 87, 3) := by decide +kernel
theorem dL_isForetold_7 : decode cL_isForetold 7 = .ok (.astore 4, 2) := by decide +kernel
theorem dL_isForetold_9 : decode cL_isForetold 9 = .ok (.aload 4, 2) := by decide +kernel
theorem dL_isForetold_11 : decode cL_isForetold 11 = .ok (.iload_n 0, 1) := by decide +kernel
theorem dL_isForetold_12 : decode cL_isForetold 12 = .ok (.iload_n 2, 1) := by decide +kernel
theorem dL_isForetold_13 : decode cL_isForetold 13 = .ok (.invokevirtual 54, 3) := by decide +kernel
theorem dL_isForetold_16 : decode cL_isForetold 16 = .ok (.lconst 0, 1) := by decide +kernel
theorem dL_isForetold_17 : decode cL_isForetold 17 = .ok (.lcmp, 1) := by decide +kernel
theorem dL_isForetold_18 : decode cL_isForetold 18 = .ok (.ifCond .ne 28, 3) := by decide +kernel
theorem dL_isForetold_21 : decode cL_isForetold 21 = .ok (.aload 4, 2) := by decide +kernel
theorem dL_isForetold_23 : decode cL_isForetold 23 = .ok (.iload_n 1, 1) := by decide +kernel
theorem dL_isForetold_24 : decode cL_isForetold 24 = .ok (.iload_n 3, 1) := by decide +kernel
theorem dL_isForetold_25 : decode cL_isForetold 25 = .ok (.invokevirtual 54, 3) := by decide +kernel
theorem dL_isForetold_28 : decode cL_isForetold 28 = .ok (.lconst 1, 1) := by decide +kernel
theorem dL_isForetold_29 : decode cL_isForetold 29 = .ok (.lcmp, 1) := by decide +kernel
theorem dL_isForetold_30 : decode cL_isForetold 30 = .ok (.ifCond .ne 16, 3) := by decide +kernel
theorem dL_isForetold_33 : decode cL_isForetold 33 = .ok (.aload 4, 2) := by decide +kernel
theorem dL_isForetold_35 : decode cL_isForetold 35 = .ok (.invokevirtual 43, 3) := by decide +kernel
theorem dL_isForetold_38 : decode cL_isForetold 38 = .ok (.iconst 1, 1) := by decide +kernel
theorem dL_isForetold_39 : decode cL_isForetold 39 = .ok (.if_icmp .gt 7, 3) := by decide +kernel
theorem dL_isForetold_42 : decode cL_isForetold 42 = .ok (.iconst 1, 1) := by decide +kernel
theorem dL_isForetold_43 : decode cL_isForetold 43 = .ok (.goto 4, 3) := by decide +kernel
theorem dL_isForetold_46 : decode cL_isForetold 46 = .ok (.iconst 0, 1) := by decide +kernel
theorem dL_isForetold_47 : decode cL_isForetold 47 = .ok (.istore 5, 2) := by decide +kernel
theorem dL_isForetold_49 : decode cL_isForetold 49 = .ok (.aload 4, 2) := by decide +kernel
theorem dL_isForetold_51 : decode cL_isForetold 51 = .ok (.iconst 0, 1) := by decide +kernel
theorem dL_isForetold_52 : decode cL_isForetold 52 = .ok (.iconst 1, 1) := by decide +kernel
theorem dL_isForetold_53 : decode cL_isForetold 53 = .ok (.invokevirtual 37, 3) := by decide +kernel
theorem dL_isForetold_56 : decode cL_isForetold 56 = .ok (.lstore 6, 2) := by decide +kernel
theorem dL_isForetold_58 : decode cL_isForetold 58 = .ok (.iload_n 0, 1) := by decide +kernel
theorem dL_isForetold_59 : decode cL_isForetold 59 = .ok (.iload_n 1, 1) := by decide +kernel
theorem dL_isForetold_60 : decode cL_isForetold 60 = .ok (.if_icmp .gt 7, 3) := by decide +kernel
theorem dL_isForetold_63 : decode cL_isForetold 63 = .ok (.iconst 1, 1) := by decide +kernel
theorem dL_isForetold_64 : decode cL_isForetold 64 = .ok (.goto 4, 3) := by decide +kernel
theorem dL_isForetold_67 : decode cL_isForetold 67 = .ok (.iconst 0, 1) := by decide +kernel
theorem dL_isForetold_68 : decode cL_isForetold 68 = .ok (.istore 8, 2) := by decide +kernel
theorem dL_isForetold_70 : decode cL_isForetold 70 = .ok (.iload 5, 2) := by decide +kernel
theorem dL_isForetold_72 : decode cL_isForetold 72 = .ok (.ifCond .eq 50, 3) := by decide +kernel
theorem dL_isForetold_75 : decode cL_isForetold 75 = .ok (.aload 4, 2) := by decide +kernel
theorem dL_isForetold_77 : decode cL_isForetold 77 = .ok (.iconst 0, 1) := by decide +kernel
theorem dL_isForetold_78 : decode cL_isForetold 78 = .ok (.invokevirtual 15, 3) := by decide +kernel
theorem dL_isForetold_81 : decode cL_isForetold 81 = .ok (.iload 8, 2) := by decide +kernel
theorem dL_isForetold_83 : decode cL_isForetold 83 = .ok (.ifCond .eq 7, 3) := by decide +kernel
theorem dL_isForetold_86 : decode cL_isForetold 86 = .ok (.lconst 0, 1) := by decide +kernel
theorem dL_isForetold_87 : decode cL_isForetold 87 = .ok (.goto 4, 3) := by decide +kernel
theorem dL_isForetold_90 : decode cL_isForetold 90 = .ok (.lconst 1, 1) := by decide +kernel
theorem dL_isForetold_91 : decode cL_isForetold 91 = .ok (.lcmp, 1) := by decide +kernel
theorem dL_isForetold_92 : decode cL_isForetold 92 = .ok (.ifCond .ne 30, 3) := by decide +kernel
theorem dL_isForetold_95 : decode cL_isForetold 95 = .ok (.aload 4, 2) := by decide +kernel
theorem dL_isForetold_97 : decode cL_isForetold 97 = .ok (.invokevirtual 88, 3) := by decide +kernel
theorem dL_isForetold_100 : decode cL_isForetold 100 = .ok (.lload 6, 2) := by decide +kernel
theorem dL_isForetold_102 : decode cL_isForetold 102 = .ok (.lcmp, 1) := by decide +kernel
theorem dL_isForetold_103 : decode cL_isForetold 103 = .ok (.ifCond .ne 19, 3) := by decide +kernel
theorem dL_isForetold_106 : decode cL_isForetold 106 = .ok (.aload 4, 2) := by decide +kernel
theorem dL_isForetold_108 : decode cL_isForetold 108 = .ok (.iconst 1, 1) := by decide +kernel
theorem dL_isForetold_109 : decode cL_isForetold 109 = .ok (.invokevirtual 32, 3) := by decide +kernel
theorem dL_isForetold_112 : decode cL_isForetold 112 = .ok (.lload 6, 2) := by decide +kernel
theorem dL_isForetold_114 : decode cL_isForetold 114 = .ok (.lcmp, 1) := by decide +kernel
theorem dL_isForetold_115 : decode cL_isForetold 115 = .ok (.ifCond .ne 7, 3) := by decide +kernel
theorem dL_isForetold_118 : decode cL_isForetold 118 = .ok (.iconst 1, 1) := by decide +kernel
theorem dL_isForetold_119 : decode cL_isForetold 119 = .ok (.goto 4, 3) := by decide +kernel
theorem dL_isForetold_122 : decode cL_isForetold 122 = .ok (.iconst 0, 1) := by decide +kernel
theorem dL_isForetold_123 : decode cL_isForetold 123 = .ok (.istore 5, 2) := by decide +kernel
theorem dL_isForetold_125 : decode cL_isForetold 125 = .ok (.lload 6, 2) := by decide +kernel
theorem dL_isForetold_127 : decode cL_isForetold 127 = .ok (.lconst 0, 1) := by decide +kernel
theorem dL_isForetold_128 : decode cL_isForetold 128 = .ok (.lcmp, 1) := by decide +kernel
theorem dL_isForetold_129 : decode cL_isForetold 129 = .ok (.ifCond .le 241, 3) := by decide +kernel
theorem dL_isForetold_132 : decode cL_isForetold 132 = .ok (.lload 6, 2) := by decide +kernel
theorem dL_isForetold_134 : decode cL_isForetold 134 = .ok (.ldc2_w 81, 3) := by decide +kernel
theorem dL_isForetold_137 : decode cL_isForetold 137 = .ok (.lcmp, 1) := by decide +kernel
theorem dL_isForetold_138 : decode cL_isForetold 138 = .ok (.ifCond .gt 232, 3) := by decide +kernel
theorem dL_isForetold_141 : decode cL_isForetold 141 = .ok (.iload_n 0, 1) := by decide +kernel
theorem dL_isForetold_142 : decode cL_isForetold 142 = .ok (.i2l, 1) := by decide +kernel
theorem dL_isForetold_143 : decode cL_isForetold 143 = .ok (.lload 6, 2) := by decide +kernel
theorem dL_isForetold_145 : decode cL_isForetold 145 = .ok (.lconst 1, 1) := by decide +kernel
theorem dL_isForetold_146 : decode cL_isForetold 146 = .ok (.lsub, 1) := by decide +kernel
theorem dL_isForetold_147 : decode cL_isForetold 147 = .ok (.iload_n 2, 1) := by decide +kernel
theorem dL_isForetold_148 : decode cL_isForetold 148 = .ok (.i2l, 1) := by decide +kernel
theorem dL_isForetold_149 : decode cL_isForetold 149 = .ok (.lmul, 1) := by decide +kernel
theorem dL_isForetold_150 : decode cL_isForetold 150 = .ok (.ladd, 1) := by decide +kernel
theorem dL_isForetold_151 : decode cL_isForetold 151 = .ok (.lstore 9, 2) := by decide +kernel
theorem dL_isForetold_153 : decode cL_isForetold 153 = .ok (.iload_n 1, 1) := by decide +kernel
theorem dL_isForetold_154 : decode cL_isForetold 154 = .ok (.i2l, 1) := by decide +kernel
theorem dL_isForetold_155 : decode cL_isForetold 155 = .ok (.lload 6, 2) := by decide +kernel
theorem dL_isForetold_157 : decode cL_isForetold 157 = .ok (.lconst 1, 1) := by decide +kernel
theorem dL_isForetold_158 : decode cL_isForetold 158 = .ok (.lsub, 1) := by decide +kernel
theorem dL_isForetold_159 : decode cL_isForetold 159 = .ok (.iload_n 3, 1) := by decide +kernel
theorem dL_isForetold_160 : decode cL_isForetold 160 = .ok (.i2l, 1) := by decide +kernel
theorem dL_isForetold_161 : decode cL_isForetold 161 = .ok (.lmul, 1) := by decide +kernel
theorem dL_isForetold_162 : decode cL_isForetold 162 = .ok (.ladd, 1) := by decide +kernel
theorem dL_isForetold_163 : decode cL_isForetold 163 = .ok (.lstore 11, 2) := by decide +kernel
theorem dL_isForetold_165 : decode cL_isForetold 165 = .ok (.iload 5, 2) := by decide +kernel
theorem dL_isForetold_167 : decode cL_isForetold 167 = .ok (.ifCond .eq 197, 3) := by decide +kernel
theorem dL_isForetold_170 : decode cL_isForetold 170 = .ok (.aload 4, 2) := by decide +kernel
theorem dL_isForetold_172 : decode cL_isForetold 172 = .ok (.lload 6, 2) := by decide +kernel
theorem dL_isForetold_174 : decode cL_isForetold 174 = .ok (.l2i, 1) := by decide +kernel
theorem dL_isForetold_175 : decode cL_isForetold 175 = .ok (.iconst 1, 1) := by decide +kernel
theorem dL_isForetold_176 : decode cL_isForetold 176 = .ok (.isub, 1) := by decide +kernel
theorem dL_isForetold_177 : decode cL_isForetold 177 = .ok (.invokevirtual 84, 3) := by decide +kernel
theorem dL_isForetold_180 : decode cL_isForetold 180 = .ok (.lconst 0, 1) := by decide +kernel
theorem dL_isForetold_181 : decode cL_isForetold 181 = .ok (.lcmp, 1) := by decide +kernel
theorem dL_isForetold_182 : decode cL_isForetold 182 = .ok (.ifCond .ne 182, 3) := by decide +kernel
theorem dL_isForetold_185 : decode cL_isForetold 185 = .ok (.aload 4, 2) := by decide +kernel
theorem dL_isForetold_187 : decode cL_isForetold 187 = .ok (.iconst 0, 1) := by decide +kernel
theorem dL_isForetold_188 : decode cL_isForetold 188 = .ok (.invokevirtual 15, 3) := by decide +kernel
theorem dL_isForetold_191 : decode cL_isForetold 191 = .ok (.iload 8, 2) := by decide +kernel
theorem dL_isForetold_193 : decode cL_isForetold 193 = .ok (.ifCond .eq 7, 3) := by decide +kernel
theorem dL_isForetold_196 : decode cL_isForetold 196 = .ok (.lconst 0, 1) := by decide +kernel
theorem dL_isForetold_197 : decode cL_isForetold 197 = .ok (.goto 4, 3) := by decide +kernel
theorem dL_isForetold_200 : decode cL_isForetold 200 = .ok (.lconst 1, 1) := by decide +kernel
theorem dL_isForetold_201 : decode cL_isForetold 201 = .ok (.lcmp, 1) := by decide +kernel
theorem dL_isForetold_202 : decode cL_isForetold 202 = .ok (.ifCond .ne 162, 3) := by decide +kernel
theorem dL_isForetold_205 : decode cL_isForetold 205 = .ok (.aload 4, 2) := by decide +kernel
theorem dL_isForetold_207 : decode cL_isForetold 207 = .ok (.iconst 0, 1) := by decide +kernel
theorem dL_isForetold_208 : decode cL_isForetold 208 = .ok (.iconst 0, 1) := by decide +kernel
theorem dL_isForetold_209 : decode cL_isForetold 209 = .ok (.invokevirtual 19, 3) := by decide +kernel
theorem dL_isForetold_212 : decode cL_isForetold 212 = .ok (.lload 9, 2) := by decide +kernel
theorem dL_isForetold_214 : decode cL_isForetold 214 = .ok (.lcmp, 1) := by decide +kernel
theorem dL_isForetold_215 : decode cL_isForetold 215 = .ok (.ifCond .ne 149, 3) := by decide +kernel
theorem dL_isForetold_218 : decode cL_isForetold 218 = .ok (.aload 4, 2) := by decide +kernel
theorem dL_isForetold_220 : decode cL_isForetold 220 = .ok (.iconst 1, 1) := by decide +kernel
theorem dL_isForetold_221 : decode cL_isForetold 221 = .ok (.iconst 0, 1) := by decide +kernel
theorem dL_isForetold_222 : decode cL_isForetold 222 = .ok (.invokevirtual 19, 3) := by decide +kernel
theorem dL_isForetold_225 : decode cL_isForetold 225 = .ok (.lload 11, 2) := by decide +kernel
theorem dL_isForetold_227 : decode cL_isForetold 227 = .ok (.lcmp, 1) := by decide +kernel
theorem dL_isForetold_228 : decode cL_isForetold 228 = .ok (.ifCond .ne 136, 3) := by decide +kernel
theorem dL_isForetold_231 : decode cL_isForetold 231 = .ok (.aload 4, 2) := by decide +kernel
theorem dL_isForetold_233 : decode cL_isForetold 233 = .ok (.invokevirtual 77, 3) := by decide +kernel
theorem dL_isForetold_236 : decode cL_isForetold 236 = .ok (.lload 6, 2) := by decide +kernel
theorem dL_isForetold_238 : decode cL_isForetold 238 = .ok (.lcmp, 1) := by decide +kernel
theorem dL_isForetold_239 : decode cL_isForetold 239 = .ok (.ifCond .ne 125, 3) := by decide +kernel
theorem dL_isForetold_242 : decode cL_isForetold 242 = .ok (.aload 4, 2) := by decide +kernel
theorem dL_isForetold_244 : decode cL_isForetold 244 = .ok (.iconst 0, 1) := by decide +kernel
theorem dL_isForetold_245 : decode cL_isForetold 245 = .ok (.invokevirtual 15, 3) := by decide +kernel
theorem dL_isForetold_248 : decode cL_isForetold 248 = .ok (.iload 8, 2) := by decide +kernel
theorem dL_isForetold_250 : decode cL_isForetold 250 = .ok (.ifCond .eq 7, 3) := by decide +kernel
theorem dL_isForetold_253 : decode cL_isForetold 253 = .ok (.lconst 1, 1) := by decide +kernel
theorem dL_isForetold_254 : decode cL_isForetold 254 = .ok (.goto 4, 3) := by decide +kernel
theorem dL_isForetold_257 : decode cL_isForetold 257 = .ok (.lconst 0, 1) := by decide +kernel
theorem dL_isForetold_258 : decode cL_isForetold 258 = .ok (.lcmp, 1) := by decide +kernel
theorem dL_isForetold_259 : decode cL_isForetold 259 = .ok (.ifCond .ne 105, 3) := by decide +kernel
theorem dL_isForetold_262 : decode cL_isForetold 262 = .ok (.aload 4, 2) := by decide +kernel
theorem dL_isForetold_264 : decode cL_isForetold 264 = .ok (.iconst 0, 1) := by decide +kernel
theorem dL_isForetold_265 : decode cL_isForetold 265 = .ok (.invokevirtual 74, 3) := by decide +kernel
theorem dL_isForetold_268 : decode cL_isForetold 268 = .ok (.iload 8, 2) := by decide +kernel
theorem dL_isForetold_270 : decode cL_isForetold 270 = .ok (.ifCond .eq 7, 3) := by decide +kernel
theorem dL_isForetold_273 : decode cL_isForetold 273 = .ok (.lconst 1, 1) := by decide +kernel
theorem dL_isForetold_274 : decode cL_isForetold 274 = .ok (.goto 6, 3) := by decide +kernel
theorem dL_isForetold_277 : decode cL_isForetold 277 = .ok (.ldc2_w 91, 3) := by decide +kernel
theorem dL_isForetold_280 : decode cL_isForetold 280 = .ok (.lcmp, 1) := by decide +kernel
theorem dL_isForetold_281 : decode cL_isForetold 281 = .ok (.ifCond .ne 83, 3) := by decide +kernel
theorem dL_isForetold_284 : decode cL_isForetold 284 = .ok (.aload 4, 2) := by decide +kernel
theorem dL_isForetold_286 : decode cL_isForetold 286 = .ok (.lload 6, 2) := by decide +kernel
theorem dL_isForetold_288 : decode cL_isForetold 288 = .ok (.l2i, 1) := by decide +kernel
theorem dL_isForetold_289 : decode cL_isForetold 289 = .ok (.invokevirtual 46, 3) := by decide +kernel
theorem dL_isForetold_292 : decode cL_isForetold 292 = .ok (.iload 8, 2) := by decide +kernel
theorem dL_isForetold_294 : decode cL_isForetold 294 = .ok (.ifCond .eq 7, 3) := by decide +kernel
theorem dL_isForetold_297 : decode cL_isForetold 297 = .ok (.lconst 1, 1) := by decide +kernel
theorem dL_isForetold_298 : decode cL_isForetold 298 = .ok (.goto 4, 3) := by decide +kernel
theorem dL_isForetold_301 : decode cL_isForetold 301 = .ok (.lconst 0, 1) := by decide +kernel
theorem dL_isForetold_302 : decode cL_isForetold 302 = .ok (.lcmp, 1) := by decide +kernel
theorem dL_isForetold_303 : decode cL_isForetold 303 = .ok (.ifCond .ne 61, 3) := by decide +kernel
theorem dL_isForetold_306 : decode cL_isForetold 306 = .ok (.aload 4, 2) := by decide +kernel
theorem dL_isForetold_308 : decode cL_isForetold 308 = .ok (.lload 6, 2) := by decide +kernel
theorem dL_isForetold_310 : decode cL_isForetold 310 = .ok (.l2i, 1) := by decide +kernel
theorem dL_isForetold_311 : decode cL_isForetold 311 = .ok (.iconst 1, 1) := by decide +kernel
theorem dL_isForetold_312 : decode cL_isForetold 312 = .ok (.isub, 1) := by decide +kernel
theorem dL_isForetold_313 : decode cL_isForetold 313 = .ok (.invokevirtual 46, 3) := by decide +kernel
theorem dL_isForetold_316 : decode cL_isForetold 316 = .ok (.iload 8, 2) := by decide +kernel
theorem dL_isForetold_318 : decode cL_isForetold 318 = .ok (.ifCond .eq 7, 3) := by decide +kernel
theorem dL_isForetold_321 : decode cL_isForetold 321 = .ok (.lconst 0, 1) := by decide +kernel
theorem dL_isForetold_322 : decode cL_isForetold 322 = .ok (.goto 4, 3) := by decide +kernel
theorem dL_isForetold_325 : decode cL_isForetold 325 = .ok (.lconst 1, 1) := by decide +kernel
theorem dL_isForetold_326 : decode cL_isForetold 326 = .ok (.lcmp, 1) := by decide +kernel
theorem dL_isForetold_327 : decode cL_isForetold 327 = .ok (.ifCond .ne 37, 3) := by decide +kernel
theorem dL_isForetold_330 : decode cL_isForetold 330 = .ok (.aload 4, 2) := by decide +kernel
theorem dL_isForetold_332 : decode cL_isForetold 332 = .ok (.lload 6, 2) := by decide +kernel
theorem dL_isForetold_334 : decode cL_isForetold 334 = .ok (.l2i, 1) := by decide +kernel
theorem dL_isForetold_335 : decode cL_isForetold 335 = .ok (.lload 6, 2) := by decide +kernel
theorem dL_isForetold_337 : decode cL_isForetold 337 = .ok (.l2i, 1) := by decide +kernel
theorem dL_isForetold_338 : decode cL_isForetold 338 = .ok (.invokevirtual 93, 3) := by decide +kernel
theorem dL_isForetold_341 : decode cL_isForetold 341 = .ok (.lconst 1, 1) := by decide +kernel
theorem dL_isForetold_342 : decode cL_isForetold 342 = .ok (.lcmp, 1) := by decide +kernel
theorem dL_isForetold_343 : decode cL_isForetold 343 = .ok (.ifCond .ne 21, 3) := by decide +kernel
theorem dL_isForetold_346 : decode cL_isForetold 346 = .ok (.aload 4, 2) := by decide +kernel
theorem dL_isForetold_348 : decode cL_isForetold 348 = .ok (.iconst 0, 1) := by decide +kernel
theorem dL_isForetold_349 : decode cL_isForetold 349 = .ok (.iconst 1, 1) := by decide +kernel
theorem dL_isForetold_350 : decode cL_isForetold 350 = .ok (.invokevirtual 37, 3) := by decide +kernel
theorem dL_isForetold_353 : decode cL_isForetold 353 = .ok (.ldc2_w 35, 3) := by decide +kernel
theorem dL_isForetold_356 : decode cL_isForetold 356 = .ok (.lcmp, 1) := by decide +kernel
theorem dL_isForetold_357 : decode cL_isForetold 357 = .ok (.ifCond .ne 7, 3) := by decide +kernel
theorem dL_isForetold_360 : decode cL_isForetold 360 = .ok (.iconst 1, 1) := by decide +kernel
theorem dL_isForetold_361 : decode cL_isForetold 361 = .ok (.goto 4, 3) := by decide +kernel
theorem dL_isForetold_364 : decode cL_isForetold 364 = .ok (.iconst 0, 1) := by decide +kernel
theorem dL_isForetold_365 : decode cL_isForetold 365 = .ok (.istore 5, 2) := by decide +kernel
theorem dL_isForetold_367 : decode cL_isForetold 367 = .ok (.goto 45, 3) := by decide +kernel
theorem dL_isForetold_370 : decode cL_isForetold 370 = .ok (.iload 5, 2) := by decide +kernel
theorem dL_isForetold_372 : decode cL_isForetold 372 = .ok (.ifCond .eq 37, 3) := by decide +kernel
theorem dL_isForetold_375 : decode cL_isForetold 375 = .ok (.aload 4, 2) := by decide +kernel
theorem dL_isForetold_377 : decode cL_isForetold 377 = .ok (.ldc 83, 2) := by decide +kernel
theorem dL_isForetold_379 : decode cL_isForetold 379 = .ok (.invokevirtual 84, 3) := by decide +kernel
theorem dL_isForetold_382 : decode cL_isForetold 382 = .ok (.lconst 0, 1) := by decide +kernel
theorem dL_isForetold_383 : decode cL_isForetold 383 = .ok (.lcmp, 1) := by decide +kernel
theorem dL_isForetold_384 : decode cL_isForetold 384 = .ok (.ifCond .ne 25, 3) := by decide +kernel
theorem dL_isForetold_387 : decode cL_isForetold 387 = .ok (.lload 6, 2) := by decide +kernel
theorem dL_isForetold_389 : decode cL_isForetold 389 = .ok (.ldc2_w 35, 3) := by decide +kernel
theorem dL_isForetold_392 : decode cL_isForetold 392 = .ok (.lcmp, 1) := by decide +kernel
theorem dL_isForetold_393 : decode cL_isForetold 393 = .ok (.ifCond .eq 12, 3) := by decide +kernel
theorem dL_isForetold_396 : decode cL_isForetold 396 = .ok (.lload 6, 2) := by decide +kernel
theorem dL_isForetold_398 : decode cL_isForetold 398 = .ok (.ldc2_w 81, 3) := by decide +kernel
theorem dL_isForetold_401 : decode cL_isForetold 401 = .ok (.lcmp, 1) := by decide +kernel
theorem dL_isForetold_402 : decode cL_isForetold 402 = .ok (.ifCond .le 7, 3) := by decide +kernel
theorem dL_isForetold_405 : decode cL_isForetold 405 = .ok (.iconst 1, 1) := by decide +kernel
theorem dL_isForetold_406 : decode cL_isForetold 406 = .ok (.goto 4, 3) := by decide +kernel
theorem dL_isForetold_409 : decode cL_isForetold 409 = .ok (.iconst 0, 1) := by decide +kernel
theorem dL_isForetold_410 : decode cL_isForetold 410 = .ok (.istore 5, 2) := by decide +kernel
theorem dL_isForetold_412 : decode cL_isForetold 412 = .ok (.iload 5, 2) := by decide +kernel
theorem dL_isForetold_414 : decode cL_isForetold 414 = .ok (.ireturn, 1) := by decide +kernel
set_option maxRecDepth 20000 in
theorem ggL_law_X3_init : GoodIn wsL_law wsX3_init := goodIn_r _ [6, 7, 8, 9, 10, 11, 12, 13, 14, 15, 16, 17, 18, 19, 20, 21, 22, 23, 24, 25, 26, 27, 28, 29, 30, 31, 32, 33, 34, 35, 36, 37, 38, 39, 40, 41, 42, 43, 44, 45, 46, 47, 48, 49, 50, 51, 52, 53, 54, 55, 56, 57, 58, 59, 60, 61, 62, 402, 403, 404, 405, 406, 407, 408, 396, 397, 398, 399, 400, 401, 409, 410, 411, 412, 413, 414, 415, 416, 417, 418, 419, 420, 421, 422] (by decide +kernel) (by decide +kernel)
set_option maxRecDepth 20000 in
theorem gL_law_X3_init : GoodIn wsL_law (wsX3_init) := ggL_law_X3_init
set_option maxRecDepth 20000 in
theorem ggL_law_L_isHeap : GoodIn wsL_law wsL_isHeap := goodIn_r _ [66, 67, 68, 69, 70, 2, 71, 14, 72, 73, 74, 29, 75, 46, 76, 77, 78, 79, 80, 13, 81, 82, 83, 12, 84, 34, 31, 85, 86, 87, 88, 89, 90, 91, 92, 21, 20, 93, 94, 95, 96, 42, 97, 98, 99, 100, 44, 45, 101, 102, 103, 104, 105, 106, 107, 108, 109, 32, 110, 111, 112, 113, 114, 115, 116, 117, 118, 119, 120, 121, 122, 123, 124, 125, 126, 18, 127, 128, 129, 130, 131, 132, 133, 134, 17, 135, 61, 136, 137, 138, 139, 53, 52, 60, 140, 141, 142, 143, 144, 145, 146, 147, 59, 54, 56, 55, 57, 58, 148, 149, 150, 151, 152, 153, 154, 155, 156, 157, 158, 159, 160, 161, 162, 163, 164, 165, 166, 167, 168, 169, 170, 171, 172, 173, 174, 175, 176, 177, 30, 178, 179, 180, 181, 182, 183, 184, 185, 186, 187, 188, 189, 190, 191, 192, 193, 194, 195, 196, 197, 198, 199, 200, 201, 202, 203, 204, 205, 206, 207, 33, 208, 209, 210, 211, 212, 213, 214, 215, 216, 217, 218, 219, 220, 221, 222, 223, 224, 225, 226, 227, 228, 229, 230, 231, 232, 396, 397, 398, 399, 400, 401, 419, 420, 421, 422, 402, 403, 404, 405, 406, 407, 408, 409, 410, 411, 412, 413, 414, 415, 416, 417, 418] (by decide +kernel) (by decide +kernel)
set_option maxRecDepth 20000 in
theorem gL_law_L_isHeap : GoodIn wsL_law (va_wsS RL 96 yL_isHeap wsL_isHeap) := goodIn_app (goodIn_of _ (by decide +kernel)) ggL_law_L_isHeap
set_option maxRecDepth 20000 in
theorem ggL_law_L_cell : GoodIn wsL_law wsL_cell := goodIn_r _ [235, 236, 237] (by decide +kernel) (by decide +kernel)
set_option maxRecDepth 20000 in
theorem gL_law_L_cell : GoodIn wsL_law (va_wsS RL 102 yL_cell wsL_cell) := goodIn_app (goodIn_of _ (by decide +kernel)) ggL_law_L_cell
set_option maxRecDepth 20000 in
theorem gqL_acts_code : GoodIn wsL_law [.code yL_acts cL_acts 19 (some .boolean)] := goodIn_sub (List.forall_mem_cons.mpr ⟨List.mem_of_getElem? (i := 240) rfl, fun _ h => absurd h List.not_mem_nil⟩) (by decide +kernel)
set_option maxRecDepth 20000 in
theorem gq_wsL_acts_r1 : GoodIn wsL_law wsL_acts_r1 := goodIn_sub (List.forall_mem_cons.mpr ⟨List.mem_of_getElem? (i := 241) rfl, List.forall_mem_cons.mpr ⟨List.mem_of_getElem? (i := 242) rfl, List.forall_mem_cons.mpr ⟨List.mem_of_getElem? (i := 243) rfl, List.forall_mem_cons.mpr ⟨List.mem_of_getElem? (i := 244) rfl, List.forall_mem_cons.mpr ⟨List.mem_of_getElem? (i := 67) rfl, List.forall_mem_cons.mpr ⟨List.mem_of_getElem? (i := 245) rfl, List.forall_mem_cons.mpr ⟨List.mem_of_getElem? (i := 246) rfl, List.forall_mem_cons.mpr ⟨List.mem_of_getElem? (i := 247) rfl, List.forall_mem_cons.mpr ⟨List.mem_of_getElem? (i := 248) rfl, List.forall_mem_cons.mpr ⟨List.mem_of_getElem? (i := 68) rfl, List.forall_mem_cons.mpr ⟨List.mem_of_getElem? (i := 69) rfl, List.forall_mem_cons.mpr ⟨List.mem_of_getElem? (i := 70) rfl, List.forall_mem_cons.mpr ⟨List.mem_of_getElem? (i := 2) rfl, List.forall_mem_cons.mpr ⟨List.mem_of_getElem? (i := 71) rfl, List.forall_mem_cons.mpr ⟨List.mem_of_getElem? (i := 14) rfl, List.forall_mem_cons.mpr ⟨List.mem_of_getElem? (i := 72) rfl, List.forall_mem_cons.mpr ⟨List.mem_of_getElem? (i := 73) rfl, List.forall_mem_cons.mpr ⟨List.mem_of_getElem? (i := 74) rfl, List.forall_mem_cons.mpr ⟨List.mem_of_getElem? (i := 29) rfl, List.forall_mem_cons.mpr ⟨List.mem_of_getElem? (i := 75) rfl, List.forall_mem_cons.mpr ⟨List.mem_of_getElem? (i := 46) rfl, List.forall_mem_cons.mpr ⟨List.mem_of_getElem? (i := 249) rfl, List.forall_mem_cons.mpr ⟨List.mem_of_getElem? (i := 250) rfl, List.forall_mem_cons.mpr ⟨List.mem_of_getElem? (i := 251) rfl, fun _ h => absurd h List.not_mem_nil⟩⟩⟩⟩⟩⟩⟩⟩⟩⟩⟩⟩⟩⟩⟩⟩⟩⟩⟩⟩⟩⟩⟩⟩) (by decide +kernel)
set_option maxRecDepth 20000 in
theorem gq_wsL_acts_r2 : GoodIn wsL_law wsL_acts_r2 := goodIn_sub (List.forall_mem_cons.mpr ⟨List.mem_of_getElem? (i := 252) rfl, List.forall_mem_cons.mpr ⟨List.mem_of_getElem? (i := 80) rfl, List.forall_mem_cons.mpr ⟨List.mem_of_getElem? (i := 18) rfl, List.forall_mem_cons.mpr ⟨List.mem_of_getElem? (i := 253) rfl, List.forall_mem_cons.mpr ⟨List.mem_of_getElem? (i := 21) rfl, List.forall_mem_cons.mpr ⟨List.mem_of_getElem? (i := 20) rfl, List.forall_mem_cons.mpr ⟨List.mem_of_getElem? (i := 13) rfl, List.forall_mem_cons.mpr ⟨List.mem_of_getElem? (i := 254) rfl, List.forall_mem_cons.mpr ⟨List.mem_of_getElem? (i := 255) rfl, List.forall_mem_cons.mpr ⟨List.mem_of_getElem? (i := 256) rfl, List.forall_mem_cons.mpr ⟨List.mem_of_getElem? (i := 257) rfl, List.forall_mem_cons.mpr ⟨List.mem_of_getElem? (i := 258) rfl, List.forall_mem_cons.mpr ⟨List.mem_of_getElem? (i := 259) rfl, List.forall_mem_cons.mpr ⟨List.mem_of_getElem? (i := 260) rfl, List.forall_mem_cons.mpr ⟨List.mem_of_getElem? (i := 261) rfl, List.forall_mem_cons.mpr ⟨List.mem_of_getElem? (i := 262) rfl, List.forall_mem_cons.mpr ⟨List.mem_of_getElem? (i := 263) rfl, List.forall_mem_cons.mpr ⟨List.mem_of_getElem? (i := 264) rfl, List.forall_mem_cons.mpr ⟨List.mem_of_getElem? (i := 265) rfl, List.forall_mem_cons.mpr ⟨List.mem_of_getElem? (i := 42) rfl, List.forall_mem_cons.mpr ⟨List.mem_of_getElem? (i := 266) rfl, List.forall_mem_cons.mpr ⟨List.mem_of_getElem? (i := 267) rfl, List.forall_mem_cons.mpr ⟨List.mem_of_getElem? (i := 268) rfl, List.forall_mem_cons.mpr ⟨List.mem_of_getElem? (i := 17) rfl, fun _ h => absurd h List.not_mem_nil⟩⟩⟩⟩⟩⟩⟩⟩⟩⟩⟩⟩⟩⟩⟩⟩⟩⟩⟩⟩⟩⟩⟩⟩) (by decide +kernel)
set_option maxRecDepth 20000 in
theorem gq_wsL_acts_r3 : GoodIn wsL_law wsL_acts_r3 := goodIn_sub (List.forall_mem_cons.mpr ⟨List.mem_of_getElem? (i := 269) rfl, List.forall_mem_cons.mpr ⟨List.mem_of_getElem? (i := 59) rfl, List.forall_mem_cons.mpr ⟨List.mem_of_getElem? (i := 270) rfl, List.forall_mem_cons.mpr ⟨List.mem_of_getElem? (i := 271) rfl, List.forall_mem_cons.mpr ⟨List.mem_of_getElem? (i := 272) rfl, List.forall_mem_cons.mpr ⟨List.mem_of_getElem? (i := 273) rfl, List.forall_mem_cons.mpr ⟨List.mem_of_getElem? (i := 274) rfl, List.forall_mem_cons.mpr ⟨List.mem_of_getElem? (i := 149) rfl, List.forall_mem_cons.mpr ⟨List.mem_of_getElem? (i := 150) rfl, List.forall_mem_cons.mpr ⟨List.mem_of_getElem? (i := 151) rfl, List.forall_mem_cons.mpr ⟨List.mem_of_getElem? (i := 44) rfl, List.forall_mem_cons.mpr ⟨List.mem_of_getElem? (i := 45) rfl, List.forall_mem_cons.mpr ⟨List.mem_of_getElem? (i := 275) rfl, List.forall_mem_cons.mpr ⟨List.mem_of_getElem? (i := 276) rfl, List.forall_mem_cons.mpr ⟨List.mem_of_getElem? (i := 277) rfl, List.forall_mem_cons.mpr ⟨List.mem_of_getElem? (i := 12) rfl, List.forall_mem_cons.mpr ⟨List.mem_of_getElem? (i := 278) rfl, List.forall_mem_cons.mpr ⟨List.mem_of_getElem? (i := 34) rfl, List.forall_mem_cons.mpr ⟨List.mem_of_getElem? (i := 279) rfl, List.forall_mem_cons.mpr ⟨List.mem_of_getElem? (i := 280) rfl, List.forall_mem_cons.mpr ⟨List.mem_of_getElem? (i := 281) rfl, List.forall_mem_cons.mpr ⟨List.mem_of_getElem? (i := 282) rfl, List.forall_mem_cons.mpr ⟨List.mem_of_getElem? (i := 31) rfl, List.forall_mem_cons.mpr ⟨List.mem_of_getElem? (i := 32) rfl, fun _ h => absurd h List.not_mem_nil⟩⟩⟩⟩⟩⟩⟩⟩⟩⟩⟩⟩⟩⟩⟩⟩⟩⟩⟩⟩⟩⟩⟩⟩) (by decide +kernel)
set_option maxRecDepth 20000 in
theorem gq_wsL_acts_r4 : GoodIn wsL_law wsL_acts_r4 := goodIn_sub (List.forall_mem_cons.mpr ⟨List.mem_of_getElem? (i := 283) rfl, List.forall_mem_cons.mpr ⟨List.mem_of_getElem? (i := 284) rfl, List.forall_mem_cons.mpr ⟨List.mem_of_getElem? (i := 285) rfl, List.forall_mem_cons.mpr ⟨List.mem_of_getElem? (i := 286) rfl, List.forall_mem_cons.mpr ⟨List.mem_of_getElem? (i := 287) rfl, List.forall_mem_cons.mpr ⟨List.mem_of_getElem? (i := 288) rfl, List.forall_mem_cons.mpr ⟨List.mem_of_getElem? (i := 289) rfl, List.forall_mem_cons.mpr ⟨List.mem_of_getElem? (i := 290) rfl, List.forall_mem_cons.mpr ⟨List.mem_of_getElem? (i := 291) rfl, List.forall_mem_cons.mpr ⟨List.mem_of_getElem? (i := 292) rfl, List.forall_mem_cons.mpr ⟨List.mem_of_getElem? (i := 293) rfl, List.forall_mem_cons.mpr ⟨List.mem_of_getElem? (i := 294) rfl, List.forall_mem_cons.mpr ⟨List.mem_of_getElem? (i := 30) rfl, List.forall_mem_cons.mpr ⟨List.mem_of_getElem? (i := 179) rfl, List.forall_mem_cons.mpr ⟨List.mem_of_getElem? (i := 180) rfl, List.forall_mem_cons.mpr ⟨List.mem_of_getElem? (i := 181) rfl, List.forall_mem_cons.mpr ⟨List.mem_of_getElem? (i := 182) rfl, List.forall_mem_cons.mpr ⟨List.mem_of_getElem? (i := 82) rfl, List.forall_mem_cons.mpr ⟨List.mem_of_getElem? (i := 83) rfl, List.forall_mem_cons.mpr ⟨List.mem_of_getElem? (i := 84) rfl, List.forall_mem_cons.mpr ⟨List.mem_of_getElem? (i := 295) rfl, List.forall_mem_cons.mpr ⟨List.mem_of_getElem? (i := 115) rfl, List.forall_mem_cons.mpr ⟨List.mem_of_getElem? (i := 116) rfl, List.forall_mem_cons.mpr ⟨List.mem_of_getElem? (i := 117) rfl, fun _ h => absurd h List.not_mem_nil⟩⟩⟩⟩⟩⟩⟩⟩⟩⟩⟩⟩⟩⟩⟩⟩⟩⟩⟩⟩⟩⟩⟩⟩) (by decide +kernel)
set_option maxRecDepth 20000 in
theorem gq_wsL_acts_r5 : GoodIn wsL_law wsL_acts_r5 := goodIn_sub (List.forall_mem_cons.mpr ⟨List.mem_of_getElem? (i := 118) rfl, List.forall_mem_cons.mpr ⟨List.mem_of_getElem? (i := 98) rfl, List.forall_mem_cons.mpr ⟨List.mem_of_getElem? (i := 99) rfl, List.forall_mem_cons.mpr ⟨List.mem_of_getElem? (i := 100) rfl, List.forall_mem_cons.mpr ⟨List.mem_of_getElem? (i := 101) rfl, List.forall_mem_cons.mpr ⟨List.mem_of_getElem? (i := 94) rfl, List.forall_mem_cons.mpr ⟨List.mem_of_getElem? (i := 95) rfl, List.forall_mem_cons.mpr ⟨List.mem_of_getElem? (i := 96) rfl, List.forall_mem_cons.mpr ⟨List.mem_of_getElem? (i := 296) rfl, List.forall_mem_cons.mpr ⟨List.mem_of_getElem? (i := 297) rfl, List.forall_mem_cons.mpr ⟨List.mem_of_getElem? (i := 298) rfl, List.forall_mem_cons.mpr ⟨List.mem_of_getElem? (i := 299) rfl, List.forall_mem_cons.mpr ⟨List.mem_of_getElem? (i := 35) rfl, List.forall_mem_cons.mpr ⟨List.mem_of_getElem? (i := 36) rfl, List.forall_mem_cons.mpr ⟨List.mem_of_getElem? (i := 300) rfl, List.forall_mem_cons.mpr ⟨List.mem_of_getElem? (i := 301) rfl, List.forall_mem_cons.mpr ⟨List.mem_of_getElem? (i := 302) rfl, List.forall_mem_cons.mpr ⟨List.mem_of_getElem? (i := 303) rfl, List.forall_mem_cons.mpr ⟨List.mem_of_getElem? (i := 54) rfl, List.forall_mem_cons.mpr ⟨List.mem_of_getElem? (i := 55) rfl, List.forall_mem_cons.mpr ⟨List.mem_of_getElem? (i := 56) rfl, List.forall_mem_cons.mpr ⟨List.mem_of_getElem? (i := 57) rfl, List.forall_mem_cons.mpr ⟨List.mem_of_getElem? (i := 58) rfl, List.forall_mem_cons.mpr ⟨List.mem_of_getElem? (i := 304) rfl, fun _ h => absurd h List.not_mem_nil⟩⟩⟩⟩⟩⟩⟩⟩⟩⟩⟩⟩⟩⟩⟩⟩⟩⟩⟩⟩⟩⟩⟩⟩) (by decide +kernel)
set_option maxRecDepth 20000 in
theorem gq_wsL_acts_r6 : GoodIn wsL_law wsL_acts_r6 := goodIn_sub (List.forall_mem_cons.mpr ⟨List.mem_of_getElem? (i := 305) rfl, List.forall_mem_cons.mpr ⟨List.mem_of_getElem? (i := 306) rfl, List.forall_mem_cons.mpr ⟨List.mem_of_getElem? (i := 307) rfl, List.forall_mem_cons.mpr ⟨List.mem_of_getElem? (i := 308) rfl, List.forall_mem_cons.mpr ⟨List.mem_of_getElem? (i := 309) rfl, List.forall_mem_cons.mpr ⟨List.mem_of_getElem? (i := 310) rfl, List.forall_mem_cons.mpr ⟨List.mem_of_getElem? (i := 103) rfl, List.forall_mem_cons.mpr ⟨List.mem_of_getElem? (i := 104) rfl, List.forall_mem_cons.mpr ⟨List.mem_of_getElem? (i := 105) rfl, List.forall_mem_cons.mpr ⟨List.mem_of_getElem? (i := 89) rfl, List.forall_mem_cons.mpr ⟨List.mem_of_getElem? (i := 90) rfl, List.forall_mem_cons.mpr ⟨List.mem_of_getElem? (i := 91) rfl, List.forall_mem_cons.mpr ⟨List.mem_of_getElem? (i := 92) rfl, List.forall_mem_cons.mpr ⟨List.mem_of_getElem? (i := 93) rfl, List.forall_mem_cons.mpr ⟨List.mem_of_getElem? (i := 97) rfl, List.forall_mem_cons.mpr ⟨List.mem_of_getElem? (i := 102) rfl, List.forall_mem_cons.mpr ⟨List.mem_of_getElem? (i := 106) rfl, List.forall_mem_cons.mpr ⟨List.mem_of_getElem? (i := 107) rfl, List.forall_mem_cons.mpr ⟨List.mem_of_getElem? (i := 108) rfl, List.forall_mem_cons.mpr ⟨List.mem_of_getElem? (i := 109) rfl, List.forall_mem_cons.mpr ⟨List.mem_of_getElem? (i := 110) rfl, List.forall_mem_cons.mpr ⟨List.mem_of_getElem? (i := 111) rfl, List.forall_mem_cons.mpr ⟨List.mem_of_getElem? (i := 112) rfl, List.forall_mem_cons.mpr ⟨List.mem_of_getElem? (i := 113) rfl, fun _ h => absurd h List.not_mem_nil⟩⟩⟩⟩⟩⟩⟩⟩⟩⟩⟩⟩⟩⟩⟩⟩⟩⟩⟩⟩⟩⟩⟩⟩) (by decide +kernel)
set_option maxRecDepth 20000 in
theorem gq_wsL_acts_r7 : GoodIn wsL_law wsL_acts_r7 := goodIn_sub (List.forall_mem_cons.mpr ⟨List.mem_of_getElem? (i := 114) rfl, List.forall_mem_cons.mpr ⟨List.mem_of_getElem? (i := 119) rfl, List.forall_mem_cons.mpr ⟨List.mem_of_getElem? (i := 120) rfl, List.forall_mem_cons.mpr ⟨List.mem_of_getElem? (i := 121) rfl, List.forall_mem_cons.mpr ⟨List.mem_of_getElem? (i := 122) rfl, List.forall_mem_cons.mpr ⟨List.mem_of_getElem? (i := 311) rfl, List.forall_mem_cons.mpr ⟨List.mem_of_getElem? (i := 312) rfl, List.forall_mem_cons.mpr ⟨List.mem_of_getElem? (i := 313) rfl, List.forall_mem_cons.mpr ⟨List.mem_of_getElem? (i := 314) rfl, List.forall_mem_cons.mpr ⟨List.mem_of_getElem? (i := 315) rfl, List.forall_mem_cons.mpr ⟨List.mem_of_getElem? (i := 316) rfl, List.forall_mem_cons.mpr ⟨List.mem_of_getElem? (i := 317) rfl, List.forall_mem_cons.mpr ⟨List.mem_of_getElem? (i := 318) rfl, List.forall_mem_cons.mpr ⟨List.mem_of_getElem? (i := 319) rfl, List.forall_mem_cons.mpr ⟨List.mem_of_getElem? (i := 320) rfl, List.forall_mem_cons.mpr ⟨List.mem_of_getElem? (i := 153) rfl, List.forall_mem_cons.mpr ⟨List.mem_of_getElem? (i := 154) rfl, List.forall_mem_cons.mpr ⟨List.mem_of_getElem? (i := 155) rfl, List.forall_mem_cons.mpr ⟨List.mem_of_getElem? (i := 123) rfl, List.forall_mem_cons.mpr ⟨List.mem_of_getElem? (i := 124) rfl, List.forall_mem_cons.mpr ⟨List.mem_of_getElem? (i := 125) rfl, List.forall_mem_cons.mpr ⟨List.mem_of_getElem? (i := 126) rfl, List.forall_mem_cons.mpr ⟨List.mem_of_getElem? (i := 88) rfl, List.forall_mem_cons.mpr ⟨List.mem_of_getElem? (i := 127) rfl, fun _ h => absurd h List.not_mem_nil⟩⟩⟩⟩⟩⟩⟩⟩⟩⟩⟩⟩⟩⟩⟩⟩⟩⟩⟩⟩⟩⟩⟩⟩) (by decide +kernel)
set_option maxRecDepth 20000 in
theorem gq_wsL_acts_r8 : GoodIn wsL_law wsL_acts_r8 := goodIn_sub (List.forall_mem_cons.mpr ⟨List.mem_of_getElem? (i := 128) rfl, List.forall_mem_cons.mpr ⟨List.mem_of_getElem? (i := 129) rfl, List.forall_mem_cons.mpr ⟨List.mem_of_getElem? (i := 130) rfl, List.forall_mem_cons.mpr ⟨List.mem_of_getElem? (i := 131) rfl, List.forall_mem_cons.mpr ⟨List.mem_of_getElem? (i := 132) rfl, List.forall_mem_cons.mpr ⟨List.mem_of_getElem? (i := 133) rfl, List.forall_mem_cons.mpr ⟨List.mem_of_getElem? (i := 134) rfl, List.forall_mem_cons.mpr ⟨List.mem_of_getElem? (i := 135) rfl, List.forall_mem_cons.mpr ⟨List.mem_of_getElem? (i := 61) rfl, List.forall_mem_cons.mpr ⟨List.mem_of_getElem? (i := 136) rfl, List.forall_mem_cons.mpr ⟨List.mem_of_getElem? (i := 137) rfl, List.forall_mem_cons.mpr ⟨List.mem_of_getElem? (i := 138) rfl, List.forall_mem_cons.mpr ⟨List.mem_of_getElem? (i := 139) rfl, List.forall_mem_cons.mpr ⟨List.mem_of_getElem? (i := 53) rfl, List.forall_mem_cons.mpr ⟨List.mem_of_getElem? (i := 52) rfl, List.forall_mem_cons.mpr ⟨List.mem_of_getElem? (i := 60) rfl, List.forall_mem_cons.mpr ⟨List.mem_of_getElem? (i := 140) rfl, List.forall_mem_cons.mpr ⟨List.mem_of_getElem? (i := 141) rfl, List.forall_mem_cons.mpr ⟨List.mem_of_getElem? (i := 142) rfl, List.forall_mem_cons.mpr ⟨List.mem_of_getElem? (i := 143) rfl, List.forall_mem_cons.mpr ⟨List.mem_of_getElem? (i := 144) rfl, List.forall_mem_cons.mpr ⟨List.mem_of_getElem? (i := 145) rfl, List.forall_mem_cons.mpr ⟨List.mem_of_getElem? (i := 146) rfl, List.forall_mem_cons.mpr ⟨List.mem_of_getElem? (i := 147) rfl, fun _ h => absurd h List.not_mem_nil⟩⟩⟩⟩⟩⟩⟩⟩⟩⟩⟩⟩⟩⟩⟩⟩⟩⟩⟩⟩⟩⟩⟩⟩) (by decide +kernel)
set_option maxRecDepth 20000 in
theorem gq_wsL_acts_r9 : GoodIn wsL_law wsL_acts_r9 := goodIn_sub (List.forall_mem_cons.mpr ⟨List.mem_of_getElem? (i := 148) rfl, List.forall_mem_cons.mpr ⟨List.mem_of_getElem? (i := 152) rfl, List.forall_mem_cons.mpr ⟨List.mem_of_getElem? (i := 321) rfl, List.forall_mem_cons.mpr ⟨List.mem_of_getElem? (i := 322) rfl, List.forall_mem_cons.mpr ⟨List.mem_of_getElem? (i := 323) rfl, List.forall_mem_cons.mpr ⟨List.mem_of_getElem? (i := 324) rfl, List.forall_mem_cons.mpr ⟨List.mem_of_getElem? (i := 325) rfl, List.forall_mem_cons.mpr ⟨List.mem_of_getElem? (i := 326) rfl, List.forall_mem_cons.mpr ⟨List.mem_of_getElem? (i := 327) rfl, List.forall_mem_cons.mpr ⟨List.mem_of_getElem? (i := 328) rfl, List.forall_mem_cons.mpr ⟨List.mem_of_getElem? (i := 200) rfl, List.forall_mem_cons.mpr ⟨List.mem_of_getElem? (i := 201) rfl, List.forall_mem_cons.mpr ⟨List.mem_of_getElem? (i := 202) rfl, List.forall_mem_cons.mpr ⟨List.mem_of_getElem? (i := 203) rfl, List.forall_mem_cons.mpr ⟨List.mem_of_getElem? (i := 204) rfl, List.forall_mem_cons.mpr ⟨List.mem_of_getElem? (i := 205) rfl, List.forall_mem_cons.mpr ⟨List.mem_of_getElem? (i := 206) rfl, List.forall_mem_cons.mpr ⟨List.mem_of_getElem? (i := 207) rfl, List.forall_mem_cons.mpr ⟨List.mem_of_getElem? (i := 33) rfl, List.forall_mem_cons.mpr ⟨List.mem_of_getElem? (i := 177) rfl, List.forall_mem_cons.mpr ⟨List.mem_of_getElem? (i := 208) rfl, List.forall_mem_cons.mpr ⟨List.mem_of_getElem? (i := 174) rfl, List.forall_mem_cons.mpr ⟨List.mem_of_getElem? (i := 175) rfl, List.forall_mem_cons.mpr ⟨List.mem_of_getElem? (i := 176) rfl, fun _ h => absurd h List.not_mem_nil⟩⟩⟩⟩⟩⟩⟩⟩⟩⟩⟩⟩⟩⟩⟩⟩⟩⟩⟩⟩⟩⟩⟩⟩) (by decide +kernel)
set_option maxRecDepth 20000 in
theorem gq_wsL_acts_r10 : GoodIn wsL_law wsL_acts_r10 := goodIn_sub (List.forall_mem_cons.mpr ⟨List.mem_of_getElem? (i := 178) rfl, List.forall_mem_cons.mpr ⟨List.mem_of_getElem? (i := 170) rfl, List.forall_mem_cons.mpr ⟨List.mem_of_getElem? (i := 171) rfl, List.forall_mem_cons.mpr ⟨List.mem_of_getElem? (i := 172) rfl, List.forall_mem_cons.mpr ⟨List.mem_of_getElem? (i := 183) rfl, List.forall_mem_cons.mpr ⟨List.mem_of_getElem? (i := 184) rfl, List.forall_mem_cons.mpr ⟨List.mem_of_getElem? (i := 185) rfl, List.forall_mem_cons.mpr ⟨List.mem_of_getElem? (i := 186) rfl, List.forall_mem_cons.mpr ⟨List.mem_of_getElem? (i := 187) rfl, List.forall_mem_cons.mpr ⟨List.mem_of_getElem? (i := 188) rfl, List.forall_mem_cons.mpr ⟨List.mem_of_getElem? (i := 189) rfl, List.forall_mem_cons.mpr ⟨List.mem_of_getElem? (i := 209) rfl, List.forall_mem_cons.mpr ⟨List.mem_of_getElem? (i := 210) rfl, List.forall_mem_cons.mpr ⟨List.mem_of_getElem? (i := 211) rfl, List.forall_mem_cons.mpr ⟨List.mem_of_getElem? (i := 212) rfl, List.forall_mem_cons.mpr ⟨List.mem_of_getElem? (i := 173) rfl, List.forall_mem_cons.mpr ⟨List.mem_of_getElem? (i := 329) rfl, List.forall_mem_cons.mpr ⟨List.mem_of_getElem? (i := 330) rfl, List.forall_mem_cons.mpr ⟨List.mem_of_getElem? (i := 331) rfl, List.forall_mem_cons.mpr ⟨List.mem_of_getElem? (i := 332) rfl, List.forall_mem_cons.mpr ⟨List.mem_of_getElem? (i := 22) rfl, List.forall_mem_cons.mpr ⟨List.mem_of_getElem? (i := 333) rfl, List.forall_mem_cons.mpr ⟨List.mem_of_getElem? (i := 334) rfl, List.forall_mem_cons.mpr ⟨List.mem_of_getElem? (i := 335) rfl, fun _ h => absurd h List.not_mem_nil⟩⟩⟩⟩⟩⟩⟩⟩⟩⟩⟩⟩⟩⟩⟩⟩⟩⟩⟩⟩⟩⟩⟩⟩) (by decide +kernel)
set_option maxRecDepth 20000 in
theorem gq_wsL_acts_r11 : GoodIn wsL_law wsL_acts_r11 := goodIn_sub (List.forall_mem_cons.mpr ⟨List.mem_of_getElem? (i := 336) rfl, List.forall_mem_cons.mpr ⟨List.mem_of_getElem? (i := 337) rfl, List.forall_mem_cons.mpr ⟨List.mem_of_getElem? (i := 338) rfl, List.forall_mem_cons.mpr ⟨List.mem_of_getElem? (i := 339) rfl, List.forall_mem_cons.mpr ⟨List.mem_of_getElem? (i := 340) rfl, List.forall_mem_cons.mpr ⟨List.mem_of_getElem? (i := 341) rfl, List.forall_mem_cons.mpr ⟨List.mem_of_getElem? (i := 342) rfl, List.forall_mem_cons.mpr ⟨List.mem_of_getElem? (i := 343) rfl, List.forall_mem_cons.mpr ⟨List.mem_of_getElem? (i := 344) rfl, List.forall_mem_cons.mpr ⟨List.mem_of_getElem? (i := 345) rfl, List.forall_mem_cons.mpr ⟨List.mem_of_getElem? (i := 346) rfl, List.forall_mem_cons.mpr ⟨List.mem_of_getElem? (i := 347) rfl, List.forall_mem_cons.mpr ⟨List.mem_of_getElem? (i := 348) rfl, List.forall_mem_cons.mpr ⟨List.mem_of_getElem? (i := 349) rfl, List.forall_mem_cons.mpr ⟨List.mem_of_getElem? (i := 350) rfl, List.forall_mem_cons.mpr ⟨List.mem_of_getElem? (i := 351) rfl, List.forall_mem_cons.mpr ⟨List.mem_of_getElem? (i := 352) rfl, List.forall_mem_cons.mpr ⟨List.mem_of_getElem? (i := 353) rfl, fun _ h => absurd h List.not_mem_nil⟩⟩⟩⟩⟩⟩⟩⟩⟩⟩⟩⟩⟩⟩⟩⟩⟩⟩) (by decide +kernel)
set_option maxRecDepth 20000 in
theorem gq_X3 : GoodIn wsL_law wsX30 := goodIn_sub inlX3 (by decide +kernel)
set_option maxRecDepth 20000 in
theorem gq_X2 : GoodIn wsL_law wsX20 := goodIn_sub inlX2 (by decide +kernel)
set_option maxRecDepth 20000 in
theorem gq_X1 : GoodIn wsL_law wsX10 := goodIn_sub inlX1 (by decide +kernel)
set_option maxRecDepth 20000 in
theorem gq_X0 : GoodIn wsL_law wsX00 := goodIn_sub inlX0 (by decide +kernel)
theorem ggL_law_L_acts : GoodIn wsL_law wsL_acts := fun w h => (List.mem_cons.mp h).elim (fun e => by rw [e]; exact gqL_acts_code _ List.mem_cons_self) (fun h => (goodIn_app (goodIn_app (goodIn_app (goodIn_app (goodIn_app gq_wsL_acts_r1 (goodIn_app gq_wsL_acts_r2 (goodIn_app gq_wsL_acts_r3 (goodIn_app gq_wsL_acts_r4 (goodIn_app gq_wsL_acts_r5 (goodIn_app gq_wsL_acts_r6 (goodIn_app gq_wsL_acts_r7 (goodIn_app gq_wsL_acts_r8 (goodIn_app gq_wsL_acts_r9 (goodIn_app gq_wsL_acts_r10 gq_wsL_acts_r11)))))))))) gq_X3) gq_X2) gq_X1) gq_X0) w h)
set_option maxRecDepth 20000 in
theorem gL_law_L_acts : GoodIn wsL_law (va_wsS RL 106 yL_acts wsL_acts) := goodIn_app (goodIn_of _ (by decide +kernel)) ggL_law_L_acts
set_option maxRecDepth 20000 in
theorem ggL_law_X3_time : GoodIn wsL_law wsX3_time := goodIn_r _ [122, 21, 396, 397, 398, 399, 400, 401] (by decide +kernel) (by decide +kernel)
set_option maxRecDepth 20000 in
theorem gL_law_X3_time : GoodIn wsL_law (wsV RL 23 RX3 yX3_time wsX3_time) := goodIn_app (goodIn_of _ (by decide +kernel)) ggL_law_X3_time
set_option maxRecDepth 20000 in
theorem ggL_law_X3_forget : GoodIn wsL_law wsX3_forget := goodIn_r _ [357, 18, 14, 21, 358, 359, 360, 17, 361, 59, 362, 363, 364, 365, 52, 60, 61, 140, 141, 142, 29, 143, 42, 44, 45, 46, 396, 397, 398, 399, 400, 401, 409, 410, 411, 412, 413, 414, 415, 416, 417, 418, 419, 420, 421, 422] (by decide +kernel) (by decide +kernel)
set_option maxRecDepth 20000 in
theorem gL_law_X3_forget : GoodIn wsL_law (wsV RL 110 RX3 yX3_forget wsX3_forget) := goodIn_app (goodIn_of _ (by decide +kernel)) ggL_law_X3_forget
set_option maxRecDepth 20000 in
theorem ggL_law_X3_topAt : GoodIn wsL_law wsX3_topAt := goodIn_r _ [224, 18, 127, 128, 129, 2, 130, 21, 80, 131, 132, 133, 134, 17, 135, 61, 136, 137, 138, 139, 53, 52, 60, 140, 141, 142, 29, 143, 42, 44, 45, 46, 144, 145, 146, 147, 59, 54, 56, 55, 57, 58, 148, 149, 150, 151, 152, 153, 154, 155, 101, 94, 95, 96, 225, 226, 227, 228, 114, 115, 116, 117, 118, 98, 99, 100, 85, 86, 87, 88, 396, 397, 398, 399, 400, 401, 409, 410, 411, 412, 413, 414, 415, 416, 417, 418, 419, 420, 421, 422] (by decide +kernel) (by decide +kernel)
set_option maxRecDepth 20000 in
theorem gL_law_X3_topAt : GoodIn wsL_law (wsV RL 46 RX3 yX3_topAt wsX3_topAt) := goodIn_app (goodIn_of _ (by decide +kernel)) ggL_law_X3_topAt
set_option maxRecDepth 20000 in
theorem ggL_law_X3_sizeAt : GoodIn wsL_law wsX3_sizeAt := goodIn_r _ [232, 18, 127, 128, 129, 2, 130, 21, 80, 131, 132, 133, 134, 17, 135, 61, 136, 137, 138, 139, 53, 52, 60, 140, 141, 142, 29, 143, 42, 44, 45, 46, 144, 145, 146, 147, 59, 54, 56, 55, 57, 58, 148, 149, 150, 151, 152, 153, 154, 155, 101, 94, 95, 96, 72, 73, 74, 75, 396, 397, 398, 399, 400, 401, 409, 410, 411, 412, 413, 414, 415, 416, 417, 418, 419, 420, 421, 422] (by decide +kernel) (by decide +kernel)
set_option maxRecDepth 20000 in
theorem gL_law_X3_sizeAt : GoodIn wsL_law (wsV RL 49 RX3 yX3_sizeAt wsX3_sizeAt) := goodIn_app (goodIn_of _ (by decide +kernel)) ggL_law_X3_sizeAt
set_option maxRecDepth 20000 in
theorem ggL_law_X3_size : GoodIn wsL_law wsX3_size := goodIn_r _ [71, 14, 72, 73, 74, 29, 75, 46, 396, 397, 398, 399, 400, 401, 419, 420, 421, 422] (by decide +kernel) (by decide +kernel)
set_option maxRecDepth 20000 in
theorem gL_law_X3_size : GoodIn wsL_law (wsV RL 9 RX3 yX3_size wsX3_size) := goodIn_app (goodIn_of _ (by decide +kernel)) ggL_law_X3_size
set_option maxRecDepth 20000 in
theorem gqL_isForetold_code : GoodIn wsL_law [.code yL_isForetold cL_isForetold 13 (some .boolean)] := goodIn_sub (List.forall_mem_cons.mpr ⟨List.mem_of_getElem? (i := 368) rfl, fun _ h => absurd h List.not_mem_nil⟩) (by decide +kernel)
set_option maxRecDepth 20000 in
theorem gq_wsL_isForetold_r1 : GoodIn wsL_law wsL_isForetold_r1 := goodIn_sub (List.forall_mem_cons.mpr ⟨List.mem_of_getElem? (i := 0) rfl, List.forall_mem_cons.mpr ⟨List.mem_of_getElem? (i := 1) rfl, List.forall_mem_cons.mpr ⟨List.mem_of_getElem? (i := 2) rfl, List.forall_mem_cons.mpr ⟨List.mem_of_getElem? (i := 247) rfl, List.forall_mem_cons.mpr ⟨List.mem_of_getElem? (i := 369) rfl, List.forall_mem_cons.mpr ⟨List.mem_of_getElem? (i := 67) rfl, List.forall_mem_cons.mpr ⟨List.mem_of_getElem? (i := 248) rfl, List.forall_mem_cons.mpr ⟨List.mem_of_getElem? (i := 4) rfl, List.forall_mem_cons.mpr ⟨List.mem_of_getElem? (i := 5) rfl, List.forall_mem_cons.mpr ⟨List.mem_of_getElem? (i := 6) rfl, List.forall_mem_cons.mpr ⟨List.mem_of_getElem? (i := 7) rfl, List.forall_mem_cons.mpr ⟨List.mem_of_getElem? (i := 8) rfl, List.forall_mem_cons.mpr ⟨List.mem_of_getElem? (i := 9) rfl, List.forall_mem_cons.mpr ⟨List.mem_of_getElem? (i := 10) rfl, List.forall_mem_cons.mpr ⟨List.mem_of_getElem? (i := 11) rfl, List.forall_mem_cons.mpr ⟨List.mem_of_getElem? (i := 12) rfl, List.forall_mem_cons.mpr ⟨List.mem_of_getElem? (i := 13) rfl, List.forall_mem_cons.mpr ⟨List.mem_of_getElem? (i := 14) rfl, List.forall_mem_cons.mpr ⟨List.mem_of_getElem? (i := 15) rfl, List.forall_mem_cons.mpr ⟨List.mem_of_getElem? (i := 16) rfl, List.forall_mem_cons.mpr ⟨List.mem_of_getElem? (i := 17) rfl, List.forall_mem_cons.mpr ⟨List.mem_of_getElem? (i := 18) rfl, List.forall_mem_cons.mpr ⟨List.mem_of_getElem? (i := 19) rfl, List.forall_mem_cons.mpr ⟨List.mem_of_getElem? (i := 20) rfl, fun _ h => absurd h List.not_mem_nil⟩⟩⟩⟩⟩⟩⟩⟩⟩⟩⟩⟩⟩⟩⟩⟩⟩⟩⟩⟩⟩⟩⟩⟩) (by decide +kernel)
set_option maxRecDepth 20000 in
theorem gq_wsL_isForetold_r2 : GoodIn wsL_law wsL_isForetold_r2 := goodIn_sub (List.forall_mem_cons.mpr ⟨List.mem_of_getElem? (i := 21) rfl, List.forall_mem_cons.mpr ⟨List.mem_of_getElem? (i := 22) rfl, List.forall_mem_cons.mpr ⟨List.mem_of_getElem? (i := 23) rfl, List.forall_mem_cons.mpr ⟨List.mem_of_getElem? (i := 24) rfl, List.forall_mem_cons.mpr ⟨List.mem_of_getElem? (i := 25) rfl, List.forall_mem_cons.mpr ⟨List.mem_of_getElem? (i := 26) rfl, List.forall_mem_cons.mpr ⟨List.mem_of_getElem? (i := 27) rfl, List.forall_mem_cons.mpr ⟨List.mem_of_getElem? (i := 28) rfl, List.forall_mem_cons.mpr ⟨List.mem_of_getElem? (i := 29) rfl, List.forall_mem_cons.mpr ⟨List.mem_of_getElem? (i := 30) rfl, List.forall_mem_cons.mpr ⟨List.mem_of_getElem? (i := 31) rfl, List.forall_mem_cons.mpr ⟨List.mem_of_getElem? (i := 32) rfl, List.forall_mem_cons.mpr ⟨List.mem_of_getElem? (i := 33) rfl, List.forall_mem_cons.mpr ⟨List.mem_of_getElem? (i := 34) rfl, List.forall_mem_cons.mpr ⟨List.mem_of_getElem? (i := 35) rfl, List.forall_mem_cons.mpr ⟨List.mem_of_getElem? (i := 36) rfl, List.forall_mem_cons.mpr ⟨List.mem_of_getElem? (i := 37) rfl, List.forall_mem_cons.mpr ⟨List.mem_of_getElem? (i := 38) rfl, List.forall_mem_cons.mpr ⟨List.mem_of_getElem? (i := 39) rfl, List.forall_mem_cons.mpr ⟨List.mem_of_getElem? (i := 40) rfl, List.forall_mem_cons.mpr ⟨List.mem_of_getElem? (i := 41) rfl, List.forall_mem_cons.mpr ⟨List.mem_of_getElem? (i := 42) rfl, List.forall_mem_cons.mpr ⟨List.mem_of_getElem? (i := 43) rfl, List.forall_mem_cons.mpr ⟨List.mem_of_getElem? (i := 44) rfl, fun _ h => absurd h List.not_mem_nil⟩⟩⟩⟩⟩⟩⟩⟩⟩⟩⟩⟩⟩⟩⟩⟩⟩⟩⟩⟩⟩⟩⟩⟩) (by decide +kernel)
set_option maxRecDepth 20000 in
theorem gq_wsL_isForetold_r3 : GoodIn wsL_law wsL_isForetold_r3 := goodIn_sub (List.forall_mem_cons.mpr ⟨List.mem_of_getElem? (i := 45) rfl, List.forall_mem_cons.mpr ⟨List.mem_of_getElem? (i := 46) rfl, List.forall_mem_cons.mpr ⟨List.mem_of_getElem? (i := 47) rfl, List.forall_mem_cons.mpr ⟨List.mem_of_getElem? (i := 48) rfl, List.forall_mem_cons.mpr ⟨List.mem_of_getElem? (i := 49) rfl, List.forall_mem_cons.mpr ⟨List.mem_of_getElem? (i := 50) rfl, List.forall_mem_cons.mpr ⟨List.mem_of_getElem? (i := 51) rfl, List.forall_mem_cons.mpr ⟨List.mem_of_getElem? (i := 52) rfl, List.forall_mem_cons.mpr ⟨List.mem_of_getElem? (i := 53) rfl, List.forall_mem_cons.mpr ⟨List.mem_of_getElem? (i := 54) rfl, List.forall_mem_cons.mpr ⟨List.mem_of_getElem? (i := 55) rfl, List.forall_mem_cons.mpr ⟨List.mem_of_getElem? (i := 56) rfl, List.forall_mem_cons.mpr ⟨List.mem_of_getElem? (i := 57) rfl, List.forall_mem_cons.mpr ⟨List.mem_of_getElem? (i := 58) rfl, List.forall_mem_cons.mpr ⟨List.mem_of_getElem? (i := 59) rfl, List.forall_mem_cons.mpr ⟨List.mem_of_getElem? (i := 60) rfl, List.forall_mem_cons.mpr ⟨List.mem_of_getElem? (i := 61) rfl, List.forall_mem_cons.mpr ⟨List.mem_of_getElem? (i := 62) rfl, List.forall_mem_cons.mpr ⟨List.mem_of_getElem? (i := 249) rfl, List.forall_mem_cons.mpr ⟨List.mem_of_getElem? (i := 250) rfl, List.forall_mem_cons.mpr ⟨List.mem_of_getElem? (i := 251) rfl, List.forall_mem_cons.mpr ⟨List.mem_of_getElem? (i := 252) rfl, List.forall_mem_cons.mpr ⟨List.mem_of_getElem? (i := 80) rfl, List.forall_mem_cons.mpr ⟨List.mem_of_getElem? (i := 253) rfl, fun _ h => absurd h List.not_mem_nil⟩⟩⟩⟩⟩⟩⟩⟩⟩⟩⟩⟩⟩⟩⟩⟩⟩⟩⟩⟩⟩⟩⟩⟩) (by decide +kernel)
set_option maxRecDepth 20000 in
theorem gq_wsL_isForetold_r4 : GoodIn wsL_law wsL_isForetold_r4 := goodIn_sub (List.forall_mem_cons.mpr ⟨List.mem_of_getElem? (i := 254) rfl, List.forall_mem_cons.mpr ⟨List.mem_of_getElem? (i := 255) rfl, List.forall_mem_cons.mpr ⟨List.mem_of_getElem? (i := 256) rfl, List.forall_mem_cons.mpr ⟨List.mem_of_getElem? (i := 257) rfl, List.forall_mem_cons.mpr ⟨List.mem_of_getElem? (i := 258) rfl, List.forall_mem_cons.mpr ⟨List.mem_of_getElem? (i := 259) rfl, List.forall_mem_cons.mpr ⟨List.mem_of_getElem? (i := 260) rfl, List.forall_mem_cons.mpr ⟨List.mem_of_getElem? (i := 261) rfl, List.forall_mem_cons.mpr ⟨List.mem_of_getElem? (i := 262) rfl, List.forall_mem_cons.mpr ⟨List.mem_of_getElem? (i := 263) rfl, List.forall_mem_cons.mpr ⟨List.mem_of_getElem? (i := 264) rfl, List.forall_mem_cons.mpr ⟨List.mem_of_getElem? (i := 265) rfl, List.forall_mem_cons.mpr ⟨List.mem_of_getElem? (i := 266) rfl, List.forall_mem_cons.mpr ⟨List.mem_of_getElem? (i := 267) rfl, List.forall_mem_cons.mpr ⟨List.mem_of_getElem? (i := 268) rfl, List.forall_mem_cons.mpr ⟨List.mem_of_getElem? (i := 269) rfl, List.forall_mem_cons.mpr ⟨List.mem_of_getElem? (i := 270) rfl, List.forall_mem_cons.mpr ⟨List.mem_of_getElem? (i := 271) rfl, List.forall_mem_cons.mpr ⟨List.mem_of_getElem? (i := 272) rfl, List.forall_mem_cons.mpr ⟨List.mem_of_getElem? (i := 273) rfl, List.forall_mem_cons.mpr ⟨List.mem_of_getElem? (i := 274) rfl, List.forall_mem_cons.mpr ⟨List.mem_of_getElem? (i := 149) rfl, List.forall_mem_cons.mpr ⟨List.mem_of_getElem? (i := 150) rfl, List.forall_mem_cons.mpr ⟨List.mem_of_getElem? (i := 151) rfl, fun _ h => absurd h List.not_mem_nil⟩⟩⟩⟩⟩⟩⟩⟩⟩⟩⟩⟩⟩⟩⟩⟩⟩⟩⟩⟩⟩⟩⟩⟩) (by decide +kernel)
set_option maxRecDepth 20000 in
theorem gq_wsL_isForetold_r5 : GoodIn wsL_law wsL_isForetold_r5 := goodIn_sub (List.forall_mem_cons.mpr ⟨List.mem_of_getElem? (i := 275) rfl, List.forall_mem_cons.mpr ⟨List.mem_of_getElem? (i := 276) rfl, List.forall_mem_cons.mpr ⟨List.mem_of_getElem? (i := 277) rfl, List.forall_mem_cons.mpr ⟨List.mem_of_getElem? (i := 278) rfl, List.forall_mem_cons.mpr ⟨List.mem_of_getElem? (i := 279) rfl, List.forall_mem_cons.mpr ⟨List.mem_of_getElem? (i := 280) rfl, List.forall_mem_cons.mpr ⟨List.mem_of_getElem? (i := 281) rfl, List.forall_mem_cons.mpr ⟨List.mem_of_getElem? (i := 282) rfl, List.forall_mem_cons.mpr ⟨List.mem_of_getElem? (i := 283) rfl, List.forall_mem_cons.mpr ⟨List.mem_of_getElem? (i := 284) rfl, List.forall_mem_cons.mpr ⟨List.mem_of_getElem? (i := 285) rfl, List.forall_mem_cons.mpr ⟨List.mem_of_getElem? (i := 286) rfl, List.forall_mem_cons.mpr ⟨List.mem_of_getElem? (i := 287) rfl, List.forall_mem_cons.mpr ⟨List.mem_of_getElem? (i := 288) rfl, List.forall_mem_cons.mpr ⟨List.mem_of_getElem? (i := 289) rfl, List.forall_mem_cons.mpr ⟨List.mem_of_getElem? (i := 290) rfl, List.forall_mem_cons.mpr ⟨List.mem_of_getElem? (i := 291) rfl, List.forall_mem_cons.mpr ⟨List.mem_of_getElem? (i := 292) rfl, List.forall_mem_cons.mpr ⟨List.mem_of_getElem? (i := 293) rfl, List.forall_mem_cons.mpr ⟨List.mem_of_getElem? (i := 294) rfl, List.forall_mem_cons.mpr ⟨List.mem_of_getElem? (i := 179) rfl, List.forall_mem_cons.mpr ⟨List.mem_of_getElem? (i := 180) rfl, List.forall_mem_cons.mpr ⟨List.mem_of_getElem? (i := 181) rfl, List.forall_mem_cons.mpr ⟨List.mem_of_getElem? (i := 182) rfl, fun _ h => absurd h List.not_mem_nil⟩⟩⟩⟩⟩⟩⟩⟩⟩⟩⟩⟩⟩⟩⟩⟩⟩⟩⟩⟩⟩⟩⟩⟩) (by decide +kernel)
set_option maxRecDepth 20000 in
theorem gq_wsL_isForetold_r6 : GoodIn wsL_law wsL_isForetold_r6 := goodIn_sub (List.forall_mem_cons.mpr ⟨List.mem_of_getElem? (i := 82) rfl, List.forall_mem_cons.mpr ⟨List.mem_of_getElem? (i := 83) rfl, List.forall_mem_cons.mpr ⟨List.mem_of_getElem? (i := 84) rfl, List.forall_mem_cons.mpr ⟨List.mem_of_getElem? (i := 295) rfl, List.forall_mem_cons.mpr ⟨List.mem_of_getElem? (i := 115) rfl, List.forall_mem_cons.mpr ⟨List.mem_of_getElem? (i := 116) rfl, List.forall_mem_cons.mpr ⟨List.mem_of_getElem? (i := 117) rfl, List.forall_mem_cons.mpr ⟨List.mem_of_getElem? (i := 118) rfl, List.forall_mem_cons.mpr ⟨List.mem_of_getElem? (i := 98) rfl, List.forall_mem_cons.mpr ⟨List.mem_of_getElem? (i := 99) rfl, List.forall_mem_cons.mpr ⟨List.mem_of_getElem? (i := 100) rfl, List.forall_mem_cons.mpr ⟨List.mem_of_getElem? (i := 101) rfl, List.forall_mem_cons.mpr ⟨List.mem_of_getElem? (i := 94) rfl, List.forall_mem_cons.mpr ⟨List.mem_of_getElem? (i := 95) rfl, List.forall_mem_cons.mpr ⟨List.mem_of_getElem? (i := 96) rfl, List.forall_mem_cons.mpr ⟨List.mem_of_getElem? (i := 296) rfl, List.forall_mem_cons.mpr ⟨List.mem_of_getElem? (i := 297) rfl, List.forall_mem_cons.mpr ⟨List.mem_of_getElem? (i := 298) rfl, List.forall_mem_cons.mpr ⟨List.mem_of_getElem? (i := 299) rfl, List.forall_mem_cons.mpr ⟨List.mem_of_getElem? (i := 300) rfl, List.forall_mem_cons.mpr ⟨List.mem_of_getElem? (i := 301) rfl, List.forall_mem_cons.mpr ⟨List.mem_of_getElem? (i := 302) rfl, List.forall_mem_cons.mpr ⟨List.mem_of_getElem? (i := 303) rfl, List.forall_mem_cons.mpr ⟨List.mem_of_getElem? (i := 304) rfl, fun _ h => absurd h List.not_mem_nil⟩⟩⟩⟩⟩⟩⟩⟩⟩⟩⟩⟩⟩⟩⟩⟩⟩⟩⟩⟩⟩⟩⟩⟩) (by decide +kernel)
set_option maxRecDepth 20000 in
theorem gq_wsL_isForetold_r7 : GoodIn wsL_law wsL_isForetold_r7 := goodIn_sub (List.forall_mem_cons.mpr ⟨List.mem_of_getElem? (i := 305) rfl, List.forall_mem_cons.mpr ⟨List.mem_of_getElem? (i := 306) rfl, List.forall_mem_cons.mpr ⟨List.mem_of_getElem? (i := 307) rfl, List.forall_mem_cons.mpr ⟨List.mem_of_getElem? (i := 308) rfl, List.forall_mem_cons.mpr ⟨List.mem_of_getElem? (i := 309) rfl, List.forall_mem_cons.mpr ⟨List.mem_of_getElem? (i := 310) rfl, List.forall_mem_cons.mpr ⟨List.mem_of_getElem? (i := 103) rfl, List.forall_mem_cons.mpr ⟨List.mem_of_getElem? (i := 104) rfl, List.forall_mem_cons.mpr ⟨List.mem_of_getElem? (i := 105) rfl, List.forall_mem_cons.mpr ⟨List.mem_of_getElem? (i := 213) rfl, List.forall_mem_cons.mpr ⟨List.mem_of_getElem? (i := 214) rfl, List.forall_mem_cons.mpr ⟨List.mem_of_getElem? (i := 215) rfl, List.forall_mem_cons.mpr ⟨List.mem_of_getElem? (i := 216) rfl, List.forall_mem_cons.mpr ⟨List.mem_of_getElem? (i := 217) rfl, List.forall_mem_cons.mpr ⟨List.mem_of_getElem? (i := 218) rfl, List.forall_mem_cons.mpr ⟨List.mem_of_getElem? (i := 219) rfl, List.forall_mem_cons.mpr ⟨List.mem_of_getElem? (i := 220) rfl, List.forall_mem_cons.mpr ⟨List.mem_of_getElem? (i := 177) rfl, List.forall_mem_cons.mpr ⟨List.mem_of_getElem? (i := 208) rfl, List.forall_mem_cons.mpr ⟨List.mem_of_getElem? (i := 174) rfl, List.forall_mem_cons.mpr ⟨List.mem_of_getElem? (i := 175) rfl, List.forall_mem_cons.mpr ⟨List.mem_of_getElem? (i := 176) rfl, List.forall_mem_cons.mpr ⟨List.mem_of_getElem? (i := 178) rfl, List.forall_mem_cons.mpr ⟨List.mem_of_getElem? (i := 170) rfl, fun _ h => absurd h List.not_mem_nil⟩⟩⟩⟩⟩⟩⟩⟩⟩⟩⟩⟩⟩⟩⟩⟩⟩⟩⟩⟩⟩⟩⟩⟩) (by decide +kernel)
set_option maxRecDepth 20000 in
theorem gq_wsL_isForetold_r8 : GoodIn wsL_law wsL_isForetold_r8 := goodIn_sub (List.forall_mem_cons.mpr ⟨List.mem_of_getElem? (i := 171) rfl, List.forall_mem_cons.mpr ⟨List.mem_of_getElem? (i := 172) rfl, List.forall_mem_cons.mpr ⟨List.mem_of_getElem? (i := 183) rfl, List.forall_mem_cons.mpr ⟨List.mem_of_getElem? (i := 184) rfl, List.forall_mem_cons.mpr ⟨List.mem_of_getElem? (i := 185) rfl, List.forall_mem_cons.mpr ⟨List.mem_of_getElem? (i := 186) rfl, List.forall_mem_cons.mpr ⟨List.mem_of_getElem? (i := 187) rfl, List.forall_mem_cons.mpr ⟨List.mem_of_getElem? (i := 188) rfl, List.forall_mem_cons.mpr ⟨List.mem_of_getElem? (i := 114) rfl, List.forall_mem_cons.mpr ⟨List.mem_of_getElem? (i := 189) rfl, List.forall_mem_cons.mpr ⟨List.mem_of_getElem? (i := 194) rfl, List.forall_mem_cons.mpr ⟨List.mem_of_getElem? (i := 195) rfl, List.forall_mem_cons.mpr ⟨List.mem_of_getElem? (i := 196) rfl, List.forall_mem_cons.mpr ⟨List.mem_of_getElem? (i := 197) rfl, List.forall_mem_cons.mpr ⟨List.mem_of_getElem? (i := 93) rfl, List.forall_mem_cons.mpr ⟨List.mem_of_getElem? (i := 198) rfl, List.forall_mem_cons.mpr ⟨List.mem_of_getElem? (i := 199) rfl, List.forall_mem_cons.mpr ⟨List.mem_of_getElem? (i := 190) rfl, List.forall_mem_cons.mpr ⟨List.mem_of_getElem? (i := 191) rfl, List.forall_mem_cons.mpr ⟨List.mem_of_getElem? (i := 192) rfl, List.forall_mem_cons.mpr ⟨List.mem_of_getElem? (i := 193) rfl, List.forall_mem_cons.mpr ⟨List.mem_of_getElem? (i := 88) rfl, List.forall_mem_cons.mpr ⟨List.mem_of_getElem? (i := 76) rfl, List.forall_mem_cons.mpr ⟨List.mem_of_getElem? (i := 77) rfl, fun _ h => absurd h List.not_mem_nil⟩⟩⟩⟩⟩⟩⟩⟩⟩⟩⟩⟩⟩⟩⟩⟩⟩⟩⟩⟩⟩⟩⟩⟩) (by decide +kernel)
set_option maxRecDepth 20000 in
theorem gq_wsL_isForetold_r9 : GoodIn wsL_law wsL_isForetold_r9 := goodIn_sub (List.forall_mem_cons.mpr ⟨List.mem_of_getElem? (i := 78) rfl, List.forall_mem_cons.mpr ⟨List.mem_of_getElem? (i := 79) rfl, List.forall_mem_cons.mpr ⟨List.mem_of_getElem? (i := 81) rfl, List.forall_mem_cons.mpr ⟨List.mem_of_getElem? (i := 85) rfl, List.forall_mem_cons.mpr ⟨List.mem_of_getElem? (i := 86) rfl, List.forall_mem_cons.mpr ⟨List.mem_of_getElem? (i := 87) rfl, List.forall_mem_cons.mpr ⟨List.mem_of_getElem? (i := 370) rfl, List.forall_mem_cons.mpr ⟨List.mem_of_getElem? (i := 371) rfl, List.forall_mem_cons.mpr ⟨List.mem_of_getElem? (i := 372) rfl, List.forall_mem_cons.mpr ⟨List.mem_of_getElem? (i := 373) rfl, List.forall_mem_cons.mpr ⟨List.mem_of_getElem? (i := 131) rfl, List.forall_mem_cons.mpr ⟨List.mem_of_getElem? (i := 72) rfl, List.forall_mem_cons.mpr ⟨List.mem_of_getElem? (i := 73) rfl, List.forall_mem_cons.mpr ⟨List.mem_of_getElem? (i := 74) rfl, List.forall_mem_cons.mpr ⟨List.mem_of_getElem? (i := 75) rfl, List.forall_mem_cons.mpr ⟨List.mem_of_getElem? (i := 374) rfl, List.forall_mem_cons.mpr ⟨List.mem_of_getElem? (i := 375) rfl, List.forall_mem_cons.mpr ⟨List.mem_of_getElem? (i := 376) rfl, List.forall_mem_cons.mpr ⟨List.mem_of_getElem? (i := 377) rfl, List.forall_mem_cons.mpr ⟨List.mem_of_getElem? (i := 378) rfl, List.forall_mem_cons.mpr ⟨List.mem_of_getElem? (i := 343) rfl, List.forall_mem_cons.mpr ⟨List.mem_of_getElem? (i := 344) rfl, List.forall_mem_cons.mpr ⟨List.mem_of_getElem? (i := 345) rfl, List.forall_mem_cons.mpr ⟨List.mem_of_getElem? (i := 379) rfl, fun _ h => absurd h List.not_mem_nil⟩⟩⟩⟩⟩⟩⟩⟩⟩⟩⟩⟩⟩⟩⟩⟩⟩⟩⟩⟩⟩⟩⟩⟩) (by decide +kernel)
set_option maxRecDepth 20000 in
theorem gq_wsL_isForetold_r10 : GoodIn wsL_law wsL_isForetold_r10 := goodIn_sub (List.forall_mem_cons.mpr ⟨List.mem_of_getElem? (i := 226) rfl, List.forall_mem_cons.mpr ⟨List.mem_of_getElem? (i := 227) rfl, List.forall_mem_cons.mpr ⟨List.mem_of_getElem? (i := 228) rfl, List.forall_mem_cons.mpr ⟨List.mem_of_getElem? (i := 380) rfl, List.forall_mem_cons.mpr ⟨List.mem_of_getElem? (i := 165) rfl, List.forall_mem_cons.mpr ⟨List.mem_of_getElem? (i := 166) rfl, List.forall_mem_cons.mpr ⟨List.mem_of_getElem? (i := 167) rfl, List.forall_mem_cons.mpr ⟨List.mem_of_getElem? (i := 168) rfl, List.forall_mem_cons.mpr ⟨List.mem_of_getElem? (i := 169) rfl, List.forall_mem_cons.mpr ⟨List.mem_of_getElem? (i := 173) rfl, List.forall_mem_cons.mpr ⟨List.mem_of_getElem? (i := 350) rfl, List.forall_mem_cons.mpr ⟨List.mem_of_getElem? (i := 351) rfl, List.forall_mem_cons.mpr ⟨List.mem_of_getElem? (i := 352) rfl, List.forall_mem_cons.mpr ⟨List.mem_of_getElem? (i := 353) rfl, List.forall_mem_cons.mpr ⟨List.mem_of_getElem? (i := 337) rfl, List.forall_mem_cons.mpr ⟨List.mem_of_getElem? (i := 338) rfl, List.forall_mem_cons.mpr ⟨List.mem_of_getElem? (i := 339) rfl, List.forall_mem_cons.mpr ⟨List.mem_of_getElem? (i := 340) rfl, List.forall_mem_cons.mpr ⟨List.mem_of_getElem? (i := 341) rfl, List.forall_mem_cons.mpr ⟨List.mem_of_getElem? (i := 342) rfl, List.forall_mem_cons.mpr ⟨List.mem_of_getElem? (i := 346) rfl, List.forall_mem_cons.mpr ⟨List.mem_of_getElem? (i := 347) rfl, List.forall_mem_cons.mpr ⟨List.mem_of_getElem? (i := 348) rfl, List.forall_mem_cons.mpr ⟨List.mem_of_getElem? (i := 349) rfl, fun _ h => absurd h List.not_mem_nil⟩⟩⟩⟩⟩⟩⟩⟩⟩⟩⟩⟩⟩⟩⟩⟩⟩⟩⟩⟩⟩⟩⟩⟩) (by decide +kernel)
set_option maxRecDepth 20000 in
theorem gq_wsL_isForetold_r11 : GoodIn wsL_law wsL_isForetold_r11 := goodIn_sub (List.forall_mem_cons.mpr ⟨List.mem_of_getElem? (i := 89) rfl, List.forall_mem_cons.mpr ⟨List.mem_of_getElem? (i := 90) rfl, List.forall_mem_cons.mpr ⟨List.mem_of_getElem? (i := 91) rfl, List.forall_mem_cons.mpr ⟨List.mem_of_getElem? (i := 92) rfl, List.forall_mem_cons.mpr ⟨List.mem_of_getElem? (i := 97) rfl, List.forall_mem_cons.mpr ⟨List.mem_of_getElem? (i := 102) rfl, List.forall_mem_cons.mpr ⟨List.mem_of_getElem? (i := 106) rfl, List.forall_mem_cons.mpr ⟨List.mem_of_getElem? (i := 107) rfl, List.forall_mem_cons.mpr ⟨List.mem_of_getElem? (i := 108) rfl, List.forall_mem_cons.mpr ⟨List.mem_of_getElem? (i := 109) rfl, List.forall_mem_cons.mpr ⟨List.mem_of_getElem? (i := 110) rfl, List.forall_mem_cons.mpr ⟨List.mem_of_getElem? (i := 111) rfl, List.forall_mem_cons.mpr ⟨List.mem_of_getElem? (i := 112) rfl, List.forall_mem_cons.mpr ⟨List.mem_of_getElem? (i := 113) rfl, List.forall_mem_cons.mpr ⟨List.mem_of_getElem? (i := 333) rfl, List.forall_mem_cons.mpr ⟨List.mem_of_getElem? (i := 334) rfl, List.forall_mem_cons.mpr ⟨List.mem_of_getElem? (i := 335) rfl, List.forall_mem_cons.mpr ⟨List.mem_of_getElem? (i := 336) rfl, List.forall_mem_cons.mpr ⟨List.mem_of_getElem? (i := 329) rfl, List.forall_mem_cons.mpr ⟨List.mem_of_getElem? (i := 330) rfl, List.forall_mem_cons.mpr ⟨List.mem_of_getElem? (i := 331) rfl, List.forall_mem_cons.mpr ⟨List.mem_of_getElem? (i := 332) rfl, List.forall_mem_cons.mpr ⟨List.mem_of_getElem? (i := 221) rfl, List.forall_mem_cons.mpr ⟨List.mem_of_getElem? (i := 222) rfl, fun _ h => absurd h List.not_mem_nil⟩⟩⟩⟩⟩⟩⟩⟩⟩⟩⟩⟩⟩⟩⟩⟩⟩⟩⟩⟩⟩⟩⟩⟩) (by decide +kernel)
set_option maxRecDepth 20000 in
theorem gq_wsL_isForetold_r12 : GoodIn wsL_law wsL_isForetold_r12 := goodIn_sub (List.forall_mem_cons.mpr ⟨List.mem_of_getElem? (i := 223) rfl, List.forall_mem_cons.mpr ⟨List.mem_of_getElem? (i := 224) rfl, List.forall_mem_cons.mpr ⟨List.mem_of_getElem? (i := 127) rfl, List.forall_mem_cons.mpr ⟨List.mem_of_getElem? (i := 128) rfl, List.forall_mem_cons.mpr ⟨List.mem_of_getElem? (i := 129) rfl, List.forall_mem_cons.mpr ⟨List.mem_of_getElem? (i := 130) rfl, List.forall_mem_cons.mpr ⟨List.mem_of_getElem? (i := 132) rfl, List.forall_mem_cons.mpr ⟨List.mem_of_getElem? (i := 133) rfl, List.forall_mem_cons.mpr ⟨List.mem_of_getElem? (i := 134) rfl, List.forall_mem_cons.mpr ⟨List.mem_of_getElem? (i := 135) rfl, List.forall_mem_cons.mpr ⟨List.mem_of_getElem? (i := 136) rfl, List.forall_mem_cons.mpr ⟨List.mem_of_getElem? (i := 137) rfl, List.forall_mem_cons.mpr ⟨List.mem_of_getElem? (i := 138) rfl, List.forall_mem_cons.mpr ⟨List.mem_of_getElem? (i := 139) rfl, List.forall_mem_cons.mpr ⟨List.mem_of_getElem? (i := 140) rfl, List.forall_mem_cons.mpr ⟨List.mem_of_getElem? (i := 141) rfl, List.forall_mem_cons.mpr ⟨List.mem_of_getElem? (i := 142) rfl, List.forall_mem_cons.mpr ⟨List.mem_of_getElem? (i := 143) rfl, List.forall_mem_cons.mpr ⟨List.mem_of_getElem? (i := 144) rfl, List.forall_mem_cons.mpr ⟨List.mem_of_getElem? (i := 145) rfl, List.forall_mem_cons.mpr ⟨List.mem_of_getElem? (i := 146) rfl, List.forall_mem_cons.mpr ⟨List.mem_of_getElem? (i := 147) rfl, List.forall_mem_cons.mpr ⟨List.mem_of_getElem? (i := 148) rfl, List.forall_mem_cons.mpr ⟨List.mem_of_getElem? (i := 152) rfl, fun _ h => absurd h List.not_mem_nil⟩⟩⟩⟩⟩⟩⟩⟩⟩⟩⟩⟩⟩⟩⟩⟩⟩⟩⟩⟩⟩⟩⟩⟩) (by decide +kernel)
set_option maxRecDepth 20000 in
theorem gq_wsL_isForetold_r13 : GoodIn wsL_law wsL_isForetold_r13 := goodIn_sub (List.forall_mem_cons.mpr ⟨List.mem_of_getElem? (i := 153) rfl, List.forall_mem_cons.mpr ⟨List.mem_of_getElem? (i := 154) rfl, List.forall_mem_cons.mpr ⟨List.mem_of_getElem? (i := 155) rfl, List.forall_mem_cons.mpr ⟨List.mem_of_getElem? (i := 225) rfl, List.forall_mem_cons.mpr ⟨List.mem_of_getElem? (i := 381) rfl, List.forall_mem_cons.mpr ⟨List.mem_of_getElem? (i := 382) rfl, List.forall_mem_cons.mpr ⟨List.mem_of_getElem? (i := 383) rfl, List.forall_mem_cons.mpr ⟨List.mem_of_getElem? (i := 384) rfl, List.forall_mem_cons.mpr ⟨List.mem_of_getElem? (i := 385) rfl, List.forall_mem_cons.mpr ⟨List.mem_of_getElem? (i := 386) rfl, List.forall_mem_cons.mpr ⟨List.mem_of_getElem? (i := 387) rfl, List.forall_mem_cons.mpr ⟨List.mem_of_getElem? (i := 388) rfl, List.forall_mem_cons.mpr ⟨List.mem_of_getElem? (i := 389) rfl, List.forall_mem_cons.mpr ⟨List.mem_of_getElem? (i := 390) rfl, List.forall_mem_cons.mpr ⟨List.mem_of_getElem? (i := 391) rfl, List.forall_mem_cons.mpr ⟨List.mem_of_getElem? (i := 392) rfl, List.forall_mem_cons.mpr ⟨List.mem_of_getElem? (i := 393) rfl, List.forall_mem_cons.mpr ⟨List.mem_of_getElem? (i := 394) rfl, List.forall_mem_cons.mpr ⟨List.mem_of_getElem? (i := 395) rfl, fun _ h => absurd h List.not_mem_nil⟩⟩⟩⟩⟩⟩⟩⟩⟩⟩⟩⟩⟩⟩⟩⟩⟩⟩⟩) (by decide +kernel)
theorem ggL_law_L_isForetold : GoodIn wsL_law wsL_isForetold := fun w h => (List.mem_cons.mp h).elim (fun e => by rw [e]; exact gqL_isForetold_code _ List.mem_cons_self) (fun h => (goodIn_app (goodIn_app (goodIn_app (goodIn_app (goodIn_app gq_wsL_isForetold_r1 (goodIn_app gq_wsL_isForetold_r2 (goodIn_app gq_wsL_isForetold_r3 (goodIn_app gq_wsL_isForetold_r4 (goodIn_app gq_wsL_isForetold_r5 (goodIn_app gq_wsL_isForetold_r6 (goodIn_app gq_wsL_isForetold_r7 (goodIn_app gq_wsL_isForetold_r8 (goodIn_app gq_wsL_isForetold_r9 (goodIn_app gq_wsL_isForetold_r10 (goodIn_app gq_wsL_isForetold_r11 (goodIn_app gq_wsL_isForetold_r12 gq_wsL_isForetold_r13)))))))))))) gq_X3) gq_X0) gq_X1) gq_X2) w h)
set_option maxRecDepth 20000 in
theorem gL_law_L_isForetold : GoodIn wsL_law (va_wsS RL 115 yL_isForetold wsL_isForetold) := goodIn_app (goodIn_of _ (by decide +kernel)) ggL_law_L_isForetold
theorem dL_law_0 : decode cL_law 0 = .ok (.new 10, 3) := by decide +kernel
theorem dL_law_3 : decode cL_law 3 = .ok (.dup, 1) := by decide +kernel
theorem dL_law_4 : decode cL_law 4 = .ok (.invokespecial 87, 3) := by decide +kernel
theorem dL_law_7 : decode cL_law 7 = .ok (.astore_n 1, 1) := by decide +kernel
theorem dL_law_8 : decode cL_law 8 = .ok (.aload_n 1, 1) := by decide +kernel
theorem dL_law_9 : decode cL_law 9 = .ok (.invokestatic 96, 3) := by decide +kernel
theorem dL_law_12 : decode cL_law 12 = .ok (.istore_n 2, 1) := by decide +kernel
theorem dL_law_13 : decode cL_law 13 = .ok (.iconst 0, 1) := by decide +kernel
theorem dL_law_14 : decode cL_law 14 = .ok (.istore_n 3, 1) := by decide +kernel
theorem dL_law_15 : decode cL_law 15 = .ok (.iload_n 3, 1) := by decide +kernel
theorem dL_law_16 : decode cL_law 16 = .ok (.bipush 48, 2) := by decide +kernel
theorem dL_law_18 : decode cL_law 18 = .ok (.if_icmp .ge 102, 3) := by decide +kernel
theorem dL_law_21 : decode cL_law 21 = .ok (.iload_n 2, 1) := by decide +kernel
theorem dL_law_22 : decode cL_law 22 = .ok (.ifCond .eq 98, 3) := by decide +kernel
theorem dL_law_25 : decode cL_law 25 = .ok (.aload_n 1, 1) := by decide +kernel
theorem dL_law_26 : decode cL_law 26 = .ok (.aload_n 0, 1) := by decide +kernel
theorem dL_law_27 : decode cL_law 27 = .ok (.iload_n 3, 1) := by decide +kernel
theorem dL_law_28 : decode cL_law 28 = .ok (.invokestatic 102, 3) := by decide +kernel
theorem dL_law_31 : decode cL_law 31 = .ok (.invokestatic 106, 3) := by decide +kernel
theorem dL_law_34 : decode cL_law 34 = .ok (.ifCond .eq 14, 3) := by decide +kernel
theorem dL_law_37 : decode cL_law 37 = .ok (.aload_n 1, 1) := by decide +kernel
theorem dL_law_38 : decode cL_law 38 = .ok (.invokestatic 96, 3) := by decide +kernel
theorem dL_law_41 : decode cL_law 41 = .ok (.ifCond .eq 7, 3) := by decide +kernel
theorem dL_law_44 : decode cL_law 44 = .ok (.iconst 1, 1) := by decide +kernel
theorem dL_law_45 : decode cL_law 45 = .ok (.goto 4, 3) := by decide +kernel
theorem dL_law_48 : decode cL_law 48 = .ok (.iconst 0, 1) := by decide +kernel
theorem dL_law_49 : decode cL_law 49 = .ok (.istore_n 2, 1) := by decide +kernel
theorem dL_law_50 : decode cL_law 50 = .ok (.iload_n 3, 1) := by decide +kernel
theorem dL_law_51 : decode cL_law 51 = .ok (.bipush 30, 2) := by decide +kernel
theorem dL_law_53 : decode cL_law 53 = .ok (.if_icmp .ne 61, 3) := by decide +kernel
theorem dL_law_56 : decode cL_law 56 = .ok (.aload_n 1, 1) := by decide +kernel
theorem dL_law_57 : decode cL_law 57 = .ok (.invokevirtual 23, 3) := by decide +kernel
theorem dL_law_60 : decode cL_law 60 = .ok (.istore 4, 2) := by decide +kernel
theorem dL_law_62 : decode cL_law 62 = .ok (.iload_n 2, 1) := by decide +kernel
theorem dL_law_63 : decode cL_law 63 = .ok (.ifCond .eq 49, 3) := by decide +kernel
theorem dL_law_66 : decode cL_law 66 = .ok (.aload_n 1, 1) := by decide +kernel
theorem dL_law_67 : decode cL_law 67 = .ok (.invokevirtual 110, 3) := by decide +kernel
theorem dL_law_70 : decode cL_law 70 = .ok (.ifCond .lt 42, 3) := by decide +kernel
theorem dL_law_73 : decode cL_law 73 = .ok (.iload 4, 2) := by decide +kernel
theorem dL_law_75 : decode cL_law 75 = .ok (.ifCond .eq 18, 3) := by decide +kernel
theorem dL_law_78 : decode cL_law 78 = .ok (.aload_n 1, 1) := by decide +kernel
theorem dL_law_79 : decode cL_law 79 = .ok (.iload 4, 2) := by decide +kernel
theorem dL_law_81 : decode cL_law 81 = .ok (.iconst 1, 1) := by decide +kernel
theorem dL_law_82 : decode cL_law 82 = .ok (.isub, 1) := by decide +kernel
theorem dL_law_83 : decode cL_law 83 = .ok (.invokevirtual 46, 3) := by decide +kernel
theorem dL_law_86 : decode cL_law 86 = .ok (.ldc2_w 113, 3) := by decide +kernel
theorem dL_law_89 : decode cL_law 89 = .ok (.lcmp, 1) := by decide +kernel
theorem dL_law_90 : decode cL_law 90 = .ok (.ifCond .ne 22, 3) := by decide +kernel
theorem dL_law_93 : decode cL_law 93 = .ok (.aload_n 1, 1) := by decide +kernel
theorem dL_law_94 : decode cL_law 94 = .ok (.iload 4, 2) := by decide +kernel
theorem dL_law_96 : decode cL_law 96 = .ok (.invokevirtual 49, 3) := by decide +kernel
theorem dL_law_99 : decode cL_law 99 = .ok (.aload_n 1, 1) := by decide +kernel
theorem dL_law_100 : decode cL_law 100 = .ok (.invokevirtual 9, 3) := by decide +kernel
theorem dL_law_103 : decode cL_law 103 = .ok (.i2l, 1) := by decide +kernel
theorem dL_law_104 : decode cL_law 104 = .ok (.lcmp, 1) := by decide +kernel
theorem dL_law_105 : decode cL_law 105 = .ok (.ifCond .ne 7, 3) := by decide +kernel
theorem dL_law_108 : decode cL_law 108 = .ok (.iconst 1, 1) := by decide +kernel
theorem dL_law_109 : decode cL_law 109 = .ok (.goto 4, 3) := by decide +kernel
theorem dL_law_112 : decode cL_law 112 = .ok (.iconst 0, 1) := by decide +kernel
theorem dL_law_113 : decode cL_law 113 = .ok (.istore_n 2, 1) := by decide +kernel
theorem dL_law_114 : decode cL_law 114 = .ok (.iinc 3 1, 3) := by decide +kernel
theorem dL_law_117 : decode cL_law 117 = .ok (.goto (-102), 3) := by decide +kernel
theorem dL_law_120 : decode cL_law 120 = .ok (.iconst 0, 1) := by decide +kernel
theorem dL_law_121 : decode cL_law 121 = .ok (.istore_n 3, 1) := by decide +kernel
theorem dL_law_122 : decode cL_law 122 = .ok (.iload_n 3, 1) := by decide +kernel
theorem dL_law_123 : decode cL_law 123 = .ok (.bipush 6, 2) := by decide +kernel
theorem dL_law_125 : decode cL_law 125 = .ok (.if_icmp .ge 71, 3) := by decide +kernel
theorem dL_law_128 : decode cL_law 128 = .ok (.iload_n 2, 1) := by decide +kernel
theorem dL_law_129 : decode cL_law 129 = .ok (.ifCond .eq 67, 3) := by decide +kernel
theorem dL_law_132 : decode cL_law 132 = .ok (.aload_n 0, 1) := by decide +kernel
theorem dL_law_133 : decode cL_law 133 = .ok (.bipush 48, 2) := by decide +kernel
theorem dL_law_135 : decode cL_law 135 = .ok (.iload_n 3, 1) := by decide +kernel
theorem dL_law_136 : decode cL_law 136 = .ok (.iadd, 1) := by decide +kernel
theorem dL_law_137 : decode cL_law 137 = .ok (.invokestatic 102, 3) := by decide +kernel
theorem dL_law_140 : decode cL_law 140 = .ok (.istore 4, 2) := by decide +kernel
theorem dL_law_142 : decode cL_law 142 = .ok (.iload 4, 2) := by decide +kernel
theorem dL_law_144 : decode cL_law 144 = .ok (.sipush 2001, 3) := by decide +kernel
theorem dL_law_147 : decode cL_law 147 = .ok (.irem, 1) := by decide +kernel
theorem dL_law_148 : decode cL_law 148 = .ok (.sipush 1000, 3) := by decide +kernel
theorem dL_law_151 : decode cL_law 151 = .ok (.isub, 1) := by decide +kernel
theorem dL_law_152 : decode cL_law 152 = .ok (.iload 4, 2) := by decide +kernel
theorem dL_law_154 : decode cL_law 154 = .ok (.iconst 5, 1) := by decide +kernel
theorem dL_law_155 : decode cL_law 155 = .ok (.ishr, 1) := by decide +kernel
theorem dL_law_156 : decode cL_law 156 = .ok (.sipush 2001, 3) := by decide +kernel
theorem dL_law_159 : decode cL_law 159 = .ok (.irem, 1) := by decide +kernel
theorem dL_law_160 : decode cL_law 160 = .ok (.sipush 1000, 3) := by decide +kernel
theorem dL_law_163 : decode cL_law 163 = .ok (.isub, 1) := by decide +kernel
theorem dL_law_164 : decode cL_law 164 = .ok (.iload 4, 2) := by decide +kernel
theorem dL_law_166 : decode cL_law 166 = .ok (.bipush 9, 2) := by decide +kernel
theorem dL_law_168 : decode cL_law 168 = .ok (.ishr, 1) := by decide +kernel
theorem dL_law_169 : decode cL_law 169 = .ok (.bipush 41, 2) := by decide +kernel
theorem dL_law_171 : decode cL_law 171 = .ok (.irem, 1) := by decide +kernel
theorem dL_law_172 : decode cL_law 172 = .ok (.bipush 20, 2) := by decide +kernel
theorem dL_law_174 : decode cL_law 174 = .ok (.isub, 1) := by decide +kernel
theorem dL_law_175 : decode cL_law 175 = .ok (.iload 4, 2) := by decide +kernel
theorem dL_law_177 : decode cL_law 177 = .ok (.bipush 14, 2) := by decide +kernel
theorem dL_law_179 : decode cL_law 179 = .ok (.ishr, 1) := by decide +kernel
theorem dL_law_180 : decode cL_law 180 = .ok (.bipush 41, 2) := by decide +kernel
theorem dL_law_182 : decode cL_law 182 = .ok (.irem, 1) := by decide +kernel
theorem dL_law_183 : decode cL_law 183 = .ok (.bipush 20, 2) := by decide +kernel
theorem dL_law_185 : decode cL_law 185 = .ok (.isub, 1) := by decide +kernel
theorem dL_law_186 : decode cL_law 186 = .ok (.invokestatic 115, 3) := by decide +kernel
theorem dL_law_189 : decode cL_law 189 = .ok (.istore_n 2, 1) := by decide +kernel
theorem dL_law_190 : decode cL_law 190 = .ok (.iinc 3 1, 3) := by decide +kernel
theorem dL_law_193 : decode cL_law 193 = .ok (.goto (-71), 3) := by decide +kernel
theorem dL_law_196 : decode cL_law 196 = .ok (.iload_n 2, 1) := by decide +kernel
theorem dL_law_197 : decode cL_law 197 = .ok (.ireturn, 1) := by decide +kernel
abbrev vwCl : List vw_C := [(RX0, TX0, 7), (RX1, TX1, 10), (RX2, TX2, 4), (RX3, TX3, 6)]
