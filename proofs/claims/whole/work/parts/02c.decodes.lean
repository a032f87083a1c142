theorem inlX0 : ∀ w ∈ wsX00, w ∈ wsL_law := fun _ h => List.mem_append_left _ (List.mem_append_left _ (List.mem_append_left _ (List.mem_append_right _ h)))
theorem inX0 : ∀ w ∈ wsX00, w ∈ lw_tbl := fun w h => wsL_law_in w (inlX0 w h)
theorem inlX1 : ∀ w ∈ wsX10, w ∈ wsL_law := fun _ h => List.mem_append_left _ (List.mem_append_left _ (List.mem_append_right _ h))
theorem inX1 : ∀ w ∈ wsX10, w ∈ lw_tbl := fun w h => wsL_law_in w (inlX1 w h)
theorem inlX2 : ∀ w ∈ wsX20, w ∈ wsL_law := fun _ h => List.mem_append_left _ (List.mem_append_right _ h)
theorem inX2 : ∀ w ∈ wsX20, w ∈ lw_tbl := fun w h => wsL_law_in w (inlX2 w h)
theorem inlX3 : ∀ w ∈ wsX30, w ∈ wsL_law := fun _ h => List.mem_append_left _ (List.mem_append_left _ (List.mem_append_left _ (List.mem_append_left _ (List.mem_append_left _ (List.mem_append_right _ h)))))
theorem inX3 : ∀ w ∈ wsX30, w ∈ lw_tbl := fun w h => wsL_law_in w (inlX3 w h)
theorem inlX4 : ∀ w ∈ wsX40, w ∈ wsL_law := fun _ h => List.mem_append_left _ (List.mem_append_left _ (List.mem_append_left _ (List.mem_append_left _ (List.mem_append_right _ h))))
theorem inX4 : ∀ w ∈ wsX40, w ∈ lw_tbl := fun w h => wsL_law_in w (inlX4 w h)
theorem inJ9 : ∀ w ∈ wsJ90, w ∈ lw_tbl := by decide +kernel
set_option maxRecDepth 20000 in
theorem ggX0_init_X2_init : GoodIn wsX0_init wsX2_init := goodIn_r _ [17, 18, 2, 3, 19, 20, 21, 22, 8, 23, 24, 25, 26, 27, 28] (by decide +kernel) (by decide +kernel)
set_option maxRecDepth 20000 in
theorem gX0_init_X2_init : GoodIn wsX0_init (wsX2_init) := ggX0_init_X2_init
theorem dX0_init_0 : decode cX0_init 0 = .ok (.aload_n 0, 1) := by decide +kernel
theorem dX0_init_1 : decode cX0_init 1 = .ok (.invokespecial 3, 3) := by decide +kernel
theorem dX0_init_4 : decode cX0_init 4 = .ok (.aload_n 0, 1) := by decide +kernel
theorem dX0_init_5 : decode cX0_init 5 = .ok (.new 9, 3) := by decide +kernel
theorem dX0_init_8 : decode cX0_init 8 = .ok (.dup, 1) := by decide +kernel
theorem dX0_init_9 : decode cX0_init 9 = .ok (.invokespecial 11, 3) := by decide +kernel
theorem dX0_init_12 : decode cX0_init 12 = .ok (.putfield 12, 3) := by decide +kernel
theorem dX0_init_15 : decode cX0_init 15 = .ok (.aload_n 0, 1) := by decide +kernel
theorem dX0_init_16 : decode cX0_init 16 = .ok (.bipush 24, 2) := by decide +kernel
theorem dX0_init_18 : decode cX0_init 18 = .ok (.newarray .int, 2) := by decide +kernel
theorem dX0_init_20 : decode cX0_init 20 = .ok (.putfield 18, 3) := by decide +kernel
theorem dX0_init_23 : decode cX0_init 23 = .ok (.aload_n 0, 1) := by decide +kernel
theorem dX0_init_24 : decode cX0_init 24 = .ok (.bipush 24, 2) := by decide +kernel
theorem dX0_init_26 : decode cX0_init 26 = .ok (.newarray .int, 2) := by decide +kernel
theorem dX0_init_28 : decode cX0_init 28 = .ok (.putfield 22, 3) := by decide +kernel
theorem dX0_init_31 : decode cX0_init 31 = .ok (.aload_n 0, 1) := by decide +kernel
theorem dX0_init_32 : decode cX0_init 32 = .ok (.bipush 24, 2) := by decide +kernel
theorem dX0_init_34 : decode cX0_init 34 = .ok (.newarray .int, 2) := by decide +kernel
theorem dX0_init_36 : decode cX0_init 36 = .ok (.putfield 25, 3) := by decide +kernel
theorem dX0_init_39 : decode cX0_init 39 = .ok (.aload_n 0, 1) := by decide +kernel
theorem dX0_init_40 : decode cX0_init 40 = .ok (.iconst 0, 1) := by decide +kernel
theorem dX0_init_41 : decode cX0_init 41 = .ok (.putfield 28, 3) := by decide +kernel
theorem dX0_init_44 : decode cX0_init 44 = .ok (.aload_n 0, 1) := by decide +kernel
theorem dX0_init_45 : decode cX0_init 45 = .ok (.lconst 0, 1) := by decide +kernel
theorem dX0_init_46 : decode cX0_init 46 = .ok (.putfield 32, 3) := by decide +kernel
theorem dX0_init_49 : decode cX0_init 49 = .ok (.aload_n 0, 1) := by decide +kernel
theorem dX0_init_50 : decode cX0_init 50 = .ok (.lconst 0, 1) := by decide +kernel
theorem dX0_init_51 : decode cX0_init 51 = .ok (.putfield 36, 3) := by decide +kernel
theorem dX0_init_54 : decode cX0_init 54 = .ok (.return_, 1) := by decide +kernel
theorem dX0_pointIn_0 : decode cX0_pointIn 0 = .ok (.iload_n 1, 1) := by decide +kernel
theorem dX0_pointIn_1 : decode cX0_pointIn 1 = .ok (.ifCond .lt 17, 3) := by decide +kernel
theorem dX0_pointIn_4 : decode cX0_pointIn 4 = .ok (.iload_n 1, 1) := by decide +kernel
theorem dX0_pointIn_5 : decode cX0_pointIn 5 = .ok (.aload_n 0, 1) := by decide +kernel
theorem dX0_pointIn_6 : decode cX0_pointIn 6 = .ok (.getfield 28, 3) := by decide +kernel
theorem dX0_pointIn_9 : decode cX0_pointIn 9 = .ok (.if_icmp .ge 9, 3) := by decide +kernel
theorem dX0_pointIn_12 : decode cX0_pointIn 12 = .ok (.iload_n 1, 1) := by decide +kernel
theorem dX0_pointIn_13 : decode cX0_pointIn 13 = .ok (.bipush 24, 2) := by decide +kernel
theorem dX0_pointIn_15 : decode cX0_pointIn 15 = .ok (.if_icmp .lt 5, 3) := by decide +kernel
theorem dX0_pointIn_18 : decode cX0_pointIn 18 = .ok (.iconst (-1), 1) := by decide +kernel
theorem dX0_pointIn_19 : decode cX0_pointIn 19 = .ok (.ireturn, 1) := by decide +kernel
theorem dX0_pointIn_20 : decode cX0_pointIn 20 = .ok (.aload_n 0, 1) := by decide +kernel
theorem dX0_pointIn_21 : decode cX0_pointIn 21 = .ok (.getfield 18, 3) := by decide +kernel
theorem dX0_pointIn_24 : decode cX0_pointIn 24 = .ok (.iload_n 1, 1) := by decide +kernel
theorem dX0_pointIn_25 : decode cX0_pointIn 25 = .ok (.iaload, 1) := by decide +kernel
theorem dX0_pointIn_26 : decode cX0_pointIn 26 = .ok (.ireturn, 1) := by decide +kernel
theorem dX0_placeOf_0 : decode cX0_placeOf 0 = .ok (.iload_n 1, 1) := by decide +kernel
theorem dX0_placeOf_1 : decode cX0_placeOf 1 = .ok (.ifCond .lt 9, 3) := by decide +kernel
theorem dX0_placeOf_4 : decode cX0_placeOf 4 = .ok (.iload_n 1, 1) := by decide +kernel
theorem dX0_placeOf_5 : decode cX0_placeOf 5 = .ok (.bipush 24, 2) := by decide +kernel
theorem dX0_placeOf_7 : decode cX0_placeOf 7 = .ok (.if_icmp .lt 5, 3) := by decide +kernel
theorem dX0_placeOf_10 : decode cX0_placeOf 10 = .ok (.iconst (-1), 1) := by decide +kernel
theorem dX0_placeOf_11 : decode cX0_placeOf 11 = .ok (.ireturn, 1) := by decide +kernel
theorem dX0_placeOf_12 : decode cX0_placeOf 12 = .ok (.aload_n 0, 1) := by decide +kernel
theorem dX0_placeOf_13 : decode cX0_placeOf 13 = .ok (.getfield 22, 3) := by decide +kernel
theorem dX0_placeOf_16 : decode cX0_placeOf 16 = .ok (.iload_n 1, 1) := by decide +kernel
theorem dX0_placeOf_17 : decode cX0_placeOf 17 = .ok (.iaload, 1) := by decide +kernel
theorem dX0_placeOf_18 : decode cX0_placeOf 18 = .ok (.ireturn, 1) := by decide +kernel
theorem dX0_hasCertificate_0 : decode cX0_hasCertificate 0 = .ok (.iload_n 1, 1) := by decide +kernel
theorem dX0_hasCertificate_1 : decode cX0_hasCertificate 1 = .ok (.iconst 1, 1) := by decide +kernel
theorem dX0_hasCertificate_2 : decode cX0_hasCertificate 2 = .ok (.if_icmp .lt 15, 3) := by decide +kernel
theorem dX0_hasCertificate_5 : decode cX0_hasCertificate 5 = .ok (.iload_n 1, 1) := by decide +kernel
theorem dX0_hasCertificate_6 : decode cX0_hasCertificate 6 = .ok (.aload_n 0, 1) := by decide +kernel
theorem dX0_hasCertificate_7 : decode cX0_hasCertificate 7 = .ok (.getfield 28, 3) := by decide +kernel
theorem dX0_hasCertificate_10 : decode cX0_hasCertificate 10 = .ok (.if_icmp .ge 7, 3) := by decide +kernel
theorem dX0_hasCertificate_13 : decode cX0_hasCertificate 13 = .ok (.iconst 1, 1) := by decide +kernel
theorem dX0_hasCertificate_14 : decode cX0_hasCertificate 14 = .ok (.goto 4, 3) := by decide +kernel
theorem dX0_hasCertificate_17 : decode cX0_hasCertificate 17 = .ok (.iconst 0, 1) := by decide +kernel
theorem dX0_hasCertificate_18 : decode cX0_hasCertificate 18 = .ok (.ireturn, 1) := by decide +kernel
set_option maxRecDepth 20000 in
theorem ggX0_append_X0_put : GoodIn wsX0_append wsX0_put := goodIn_r _ [6, 7, 8, 9, 10, 11, 12, 13, 14, 15] (by decide +kernel) (by decide +kernel)
set_option maxRecDepth 20000 in
theorem gX0_append_X0_put : GoodIn wsX0_append (wsV RX0 39 RX0 yX0_put wsX0_put) := goodIn_app (goodIn_of _ (by decide +kernel)) ggX0_append_X0_put
theorem dX0_append_0 : decode cX0_append 0 = .ok (.aload_n 0, 1) := by decide +kernel
theorem dX0_append_1 : decode cX0_append 1 = .ok (.getfield 28, 3) := by decide +kernel
theorem dX0_append_4 : decode cX0_append 4 = .ok (.bipush 24, 2) := by decide +kernel
theorem dX0_append_6 : decode cX0_append 6 = .ok (.if_icmp .ge 22, 3) := by decide +kernel
theorem dX0_append_9 : decode cX0_append 9 = .ok (.aload_n 0, 1) := by decide +kernel
theorem dX0_append_10 : decode cX0_append 10 = .ok (.aload_n 0, 1) := by decide +kernel
theorem dX0_append_11 : decode cX0_append 11 = .ok (.getfield 28, 3) := by decide +kernel
theorem dX0_append_14 : decode cX0_append 14 = .ok (.iload_n 1, 1) := by decide +kernel
theorem dX0_append_15 : decode cX0_append 15 = .ok (.invokevirtual 39, 3) := by decide +kernel
theorem dX0_append_18 : decode cX0_append 18 = .ok (.aload_n 0, 1) := by decide +kernel
theorem dX0_append_19 : decode cX0_append 19 = .ok (.dup, 1) := by decide +kernel
theorem dX0_append_20 : decode cX0_append 20 = .ok (.getfield 28, 3) := by decide +kernel
theorem dX0_append_23 : decode cX0_append 23 = .ok (.iconst 1, 1) := by decide +kernel
theorem dX0_append_24 : decode cX0_append 24 = .ok (.iadd, 1) := by decide +kernel
theorem dX0_append_25 : decode cX0_append 25 = .ok (.putfield 28, 3) := by decide +kernel
theorem dX0_append_28 : decode cX0_append 28 = .ok (.return_, 1) := by decide +kernel
set_option maxRecDepth 20000 in
theorem ggX0_takeOut_X0_placeOf : GoodIn wsX0_takeOut wsX0_placeOf := goodIn_r _ [6, 7, 17, 18, 19, 20, 21, 22, 23] (by decide +kernel) (by decide +kernel)
set_option maxRecDepth 20000 in
theorem gX0_takeOut_X0_placeOf : GoodIn wsX0_takeOut (wsV RX0 43 RX0 yX0_placeOf wsX0_placeOf) := goodIn_app (goodIn_of _ (by decide +kernel)) ggX0_takeOut_X0_placeOf
set_option maxRecDepth 20000 in
theorem ggX0_takeOut_X0_pointIn : GoodIn wsX0_takeOut wsX0_pointIn := goodIn_r _ [11, 1, 12, 17, 18, 19, 20, 21, 22, 23] (by decide +kernel) (by decide +kernel)
set_option maxRecDepth 20000 in
theorem gX0_takeOut_X0_pointIn : GoodIn wsX0_takeOut (wsV RX0 47 RX0 yX0_pointIn wsX0_pointIn) := goodIn_app (goodIn_of _ (by decide +kernel)) ggX0_takeOut_X0_pointIn
set_option maxRecDepth 20000 in
theorem ggX0_takeOut_X0_put : GoodIn wsX0_takeOut wsX0_put := goodIn_r _ [16, 12, 7, 17, 18, 19, 20, 21, 22, 23] (by decide +kernel) (by decide +kernel)
set_option maxRecDepth 20000 in
theorem gX0_takeOut_X0_put : GoodIn wsX0_takeOut (wsV RX0 39 RX0 yX0_put wsX0_put) := goodIn_app (goodIn_of _ (by decide +kernel)) ggX0_takeOut_X0_put
theorem dX0_takeOut_0 : decode cX0_takeOut 0 = .ok (.aload_n 0, 1) := by decide +kernel
theorem dX0_takeOut_1 : decode cX0_takeOut 1 = .ok (.iload_n 1, 1) := by decide +kernel
theorem dX0_takeOut_2 : decode cX0_takeOut 2 = .ok (.invokevirtual 43, 3) := by decide +kernel
theorem dX0_takeOut_5 : decode cX0_takeOut 5 = .ok (.istore_n 2, 1) := by decide +kernel
theorem dX0_takeOut_6 : decode cX0_takeOut 6 = .ok (.aload_n 0, 1) := by decide +kernel
theorem dX0_takeOut_7 : decode cX0_takeOut 7 = .ok (.getfield 28, 3) := by decide +kernel
theorem dX0_takeOut_10 : decode cX0_takeOut 10 = .ok (.iconst 1, 1) := by decide +kernel
theorem dX0_takeOut_11 : decode cX0_takeOut 11 = .ok (.isub, 1) := by decide +kernel
theorem dX0_takeOut_12 : decode cX0_takeOut 12 = .ok (.istore_n 3, 1) := by decide +kernel
theorem dX0_takeOut_13 : decode cX0_takeOut 13 = .ok (.iload_n 2, 1) := by decide +kernel
theorem dX0_takeOut_14 : decode cX0_takeOut 14 = .ok (.ifCond .lt 23, 3) := by decide +kernel
theorem dX0_takeOut_17 : decode cX0_takeOut 17 = .ok (.iload_n 2, 1) := by decide +kernel
theorem dX0_takeOut_18 : decode cX0_takeOut 18 = .ok (.iload_n 3, 1) := by decide +kernel
theorem dX0_takeOut_19 : decode cX0_takeOut 19 = .ok (.if_icmp .gt 18, 3) := by decide +kernel
theorem dX0_takeOut_22 : decode cX0_takeOut 22 = .ok (.aload_n 0, 1) := by decide +kernel
theorem dX0_takeOut_23 : decode cX0_takeOut 23 = .ok (.iload_n 2, 1) := by decide +kernel
theorem dX0_takeOut_24 : decode cX0_takeOut 24 = .ok (.aload_n 0, 1) := by decide +kernel
theorem dX0_takeOut_25 : decode cX0_takeOut 25 = .ok (.iload_n 3, 1) := by decide +kernel
theorem dX0_takeOut_26 : decode cX0_takeOut 26 = .ok (.invokevirtual 47, 3) := by decide +kernel
theorem dX0_takeOut_29 : decode cX0_takeOut 29 = .ok (.invokevirtual 39, 3) := by decide +kernel
theorem dX0_takeOut_32 : decode cX0_takeOut 32 = .ok (.aload_n 0, 1) := by decide +kernel
theorem dX0_takeOut_33 : decode cX0_takeOut 33 = .ok (.iload_n 3, 1) := by decide +kernel
theorem dX0_takeOut_34 : decode cX0_takeOut 34 = .ok (.putfield 28, 3) := by decide +kernel
theorem dX0_takeOut_37 : decode cX0_takeOut 37 = .ok (.return_, 1) := by decide +kernel
theorem dX0_put_0 : decode cX0_put 0 = .ok (.iload_n 1, 1) := by decide +kernel
theorem dX0_put_1 : decode cX0_put 1 = .ok (.ifCond .lt 33, 3) := by decide +kernel
theorem dX0_put_4 : decode cX0_put 4 = .ok (.iload_n 1, 1) := by decide +kernel
theorem dX0_put_5 : decode cX0_put 5 = .ok (.bipush 24, 2) := by decide +kernel
theorem dX0_put_7 : decode cX0_put 7 = .ok (.if_icmp .ge 27, 3) := by decide +kernel
theorem dX0_put_10 : decode cX0_put 10 = .ok (.iload_n 2, 1) := by decide +kernel
theorem dX0_put_11 : decode cX0_put 11 = .ok (.ifCond .lt 23, 3) := by decide +kernel
theorem dX0_put_14 : decode cX0_put 14 = .ok (.iload_n 2, 1) := by decide +kernel
theorem dX0_put_15 : decode cX0_put 15 = .ok (.bipush 24, 2) := by decide +kernel
theorem dX0_put_17 : decode cX0_put 17 = .ok (.if_icmp .ge 17, 3) := by decide +kernel
theorem dX0_put_20 : decode cX0_put 20 = .ok (.aload_n 0, 1) := by decide +kernel
theorem dX0_put_21 : decode cX0_put 21 = .ok (.getfield 18, 3) := by decide +kernel
theorem dX0_put_24 : decode cX0_put 24 = .ok (.iload_n 1, 1) := by decide +kernel
theorem dX0_put_25 : decode cX0_put 25 = .ok (.iload_n 2, 1) := by decide +kernel
theorem dX0_put_26 : decode cX0_put 26 = .ok (.iastore, 1) := by decide +kernel
theorem dX0_put_27 : decode cX0_put 27 = .ok (.aload_n 0, 1) := by decide +kernel
theorem dX0_put_28 : decode cX0_put 28 = .ok (.getfield 22, 3) := by decide +kernel
theorem dX0_put_31 : decode cX0_put 31 = .ok (.iload_n 2, 1) := by decide +kernel
theorem dX0_put_32 : decode cX0_put 32 = .ok (.iload_n 1, 1) := by decide +kernel
theorem dX0_put_33 : decode cX0_put 33 = .ok (.iastore, 1) := by decide +kernel
theorem dX0_put_34 : decode cX0_put 34 = .ok (.return_, 1) := by decide +kernel
set_option maxRecDepth 20000 in
theorem ggX0_failureOf_X0_hasCertificate : GoodIn wsX0_failureOf wsX0_hasCertificate := goodIn_r _ [7, 8, 43, 44, 45, 46, 47, 48, 49] (by decide +kernel) (by decide +kernel)
set_option maxRecDepth 20000 in
theorem gX0_failureOf_X0_hasCertificate : GoodIn wsX0_failureOf (wsV RX0 50 RX0 yX0_hasCertificate wsX0_hasCertificate) := goodIn_app (goodIn_of _ (by decide +kernel)) ggX0_failureOf_X0_hasCertificate
set_option maxRecDepth 20000 in
theorem ggX0_failureOf_X0_parentOf : GoodIn wsX0_failureOf wsX0_parentOf := goodIn_r _ [11] (by decide +kernel) (by decide +kernel)
set_option maxRecDepth 20000 in
theorem gX0_failureOf_X0_parentOf : GoodIn wsX0_failureOf (va_wsS RX0 55 yX0_parentOf wsX0_parentOf) := goodIn_app (goodIn_of _ (by decide +kernel)) ggX0_failureOf_X0_parentOf
set_option maxRecDepth 20000 in
theorem ggX0_failureOf_X0_pointIn : GoodIn wsX0_failureOf wsX0_pointIn := goodIn_r _ [15, 8, 16, 43, 44, 45, 46, 47, 48, 49] (by decide +kernel) (by decide +kernel)
set_option maxRecDepth 20000 in
theorem gX0_failureOf_X0_pointIn : GoodIn wsX0_failureOf (wsV RX0 47 RX0 yX0_pointIn wsX0_pointIn) := goodIn_app (goodIn_of _ (by decide +kernel)) ggX0_failureOf_X0_pointIn
set_option maxRecDepth 20000 in
theorem ggX0_failureOf_X2_endOfOrder : GoodIn wsX0_failureOf wsX2_endOfOrder := goodIn_r _ [21, 22, 23, 24, 25, 26, 20, 27, 28, 29, 30, 31, 32, 33, 34, 35, 36, 37, 38, 39, 40, 41, 42, 50, 51, 52, 53] (by decide +kernel) (by decide +kernel)
set_option maxRecDepth 20000 in
theorem gX0_failureOf_X2_endOfOrder : GoodIn wsX0_failureOf (wsV RX0 58 RX2 yX2_endOfOrder wsX2_endOfOrder) := goodIn_app (goodIn_of _ (by decide +kernel)) ggX0_failureOf_X2_endOfOrder
theorem dX0_failureOf_0 : decode cX0_failureOf 0 = .ok (.aload_n 0, 1) := by decide +kernel
theorem dX0_failureOf_1 : decode cX0_failureOf 1 = .ok (.iload_n 1, 1) := by decide +kernel
theorem dX0_failureOf_2 : decode cX0_failureOf 2 = .ok (.invokevirtual 50, 3) := by decide +kernel
theorem dX0_failureOf_5 : decode cX0_failureOf 5 = .ok (.ifCond .ne 6, 3) := by decide +kernel
theorem dX0_failureOf_8 : decode cX0_failureOf 8 = .ok (.ldc 54, 2) := by decide +kernel
theorem dX0_failureOf_10 : decode cX0_failureOf 10 = .ok (.ireturn, 1) := by decide +kernel
theorem dX0_failureOf_11 : decode cX0_failureOf 11 = .ok (.aload_n 0, 1) := by decide +kernel
theorem dX0_failureOf_12 : decode cX0_failureOf 12 = .ok (.getfield 12, 3) := by decide +kernel
theorem dX0_failureOf_15 : decode cX0_failureOf 15 = .ok (.aload_n 0, 1) := by decide +kernel
theorem dX0_failureOf_16 : decode cX0_failureOf 16 = .ok (.iload_n 1, 1) := by decide +kernel
theorem dX0_failureOf_17 : decode cX0_failureOf 17 = .ok (.invokestatic 55, 3) := by decide +kernel
theorem dX0_failureOf_20 : decode cX0_failureOf 20 = .ok (.invokevirtual 47, 3) := by decide +kernel
theorem dX0_failureOf_23 : decode cX0_failureOf 23 = .ok (.aload_n 0, 1) := by decide +kernel
theorem dX0_failureOf_24 : decode cX0_failureOf 24 = .ok (.iload_n 1, 1) := by decide +kernel
theorem dX0_failureOf_25 : decode cX0_failureOf 25 = .ok (.invokevirtual 47, 3) := by decide +kernel
theorem dX0_failureOf_28 : decode cX0_failureOf 28 = .ok (.iload_n 2, 1) := by decide +kernel
theorem dX0_failureOf_29 : decode cX0_failureOf 29 = .ok (.invokevirtual 58, 3) := by decide +kernel
theorem dX0_failureOf_32 : decode cX0_failureOf 32 = .ok (.ireturn, 1) := by decide +kernel
set_option maxRecDepth 20000 in
theorem ggX0_nextFailure_X0_failureOf : GoodIn wsX0_nextFailure wsX0_failureOf := goodIn_r _ [11, 1, 12, 13, 14, 15, 10, 16, 2, 17, 18, 19, 20, 21, 22, 23, 24, 25, 26, 27, 28, 29, 30, 31, 32, 33, 34, 35, 36, 37, 38, 39, 40, 41, 42, 43, 44, 45, 46, 47, 48, 49, 50, 51, 52, 53, 54, 55, 56, 57, 58, 59, 60, 61] (by decide +kernel) (by decide +kernel)
set_option maxRecDepth 20000 in
theorem gX0_nextFailure_X0_failureOf : GoodIn wsX0_nextFailure (wsV RX0 62 RX0 yX0_failureOf wsX0_failureOf) := goodIn_app (goodIn_of _ (by decide +kernel)) ggX0_nextFailure_X0_failureOf
theorem dX0_nextFailure_0 : decode cX0_nextFailure 0 = .ok (.ldc 54, 2) := by decide +kernel
theorem dX0_nextFailure_2 : decode cX0_nextFailure 2 = .ok (.istore_n 2, 1) := by decide +kernel
theorem dX0_nextFailure_3 : decode cX0_nextFailure 3 = .ok (.iconst 1, 1) := by decide +kernel
theorem dX0_nextFailure_4 : decode cX0_nextFailure 4 = .ok (.istore_n 3, 1) := by decide +kernel
theorem dX0_nextFailure_5 : decode cX0_nextFailure 5 = .ok (.iload_n 3, 1) := by decide +kernel
theorem dX0_nextFailure_6 : decode cX0_nextFailure 6 = .ok (.aload_n 0, 1) := by decide +kernel
theorem dX0_nextFailure_7 : decode cX0_nextFailure 7 = .ok (.getfield 28, 3) := by decide +kernel
theorem dX0_nextFailure_10 : decode cX0_nextFailure 10 = .ok (.if_icmp .ge 20, 3) := by decide +kernel
theorem dX0_nextFailure_13 : decode cX0_nextFailure 13 = .ok (.iload_n 2, 1) := by decide +kernel
theorem dX0_nextFailure_14 : decode cX0_nextFailure 14 = .ok (.aload_n 0, 1) := by decide +kernel
theorem dX0_nextFailure_15 : decode cX0_nextFailure 15 = .ok (.iload_n 3, 1) := by decide +kernel
theorem dX0_nextFailure_16 : decode cX0_nextFailure 16 = .ok (.iload_n 1, 1) := by decide +kernel
theorem dX0_nextFailure_17 : decode cX0_nextFailure 17 = .ok (.invokevirtual 62, 3) := by decide +kernel
theorem dX0_nextFailure_20 : decode cX0_nextFailure 20 = .ok (.invokestatic 66, 3) := by decide +kernel
theorem dX0_nextFailure_23 : decode cX0_nextFailure 23 = .ok (.istore_n 2, 1) := by decide +kernel
theorem dX0_nextFailure_24 : decode cX0_nextFailure 24 = .ok (.iinc 3 1, 3) := by decide +kernel
theorem dX0_nextFailure_27 : decode cX0_nextFailure 27 = .ok (.goto (-22), 3) := by decide +kernel
theorem dX0_nextFailure_30 : decode cX0_nextFailure 30 = .ok (.iload_n 2, 1) := by decide +kernel
theorem dX0_nextFailure_31 : decode cX0_nextFailure 31 = .ok (.ireturn, 1) := by decide +kernel
set_option maxRecDepth 20000 in
theorem ggX0_settle_X0_firstBroken : GoodIn wsX0_settle wsX0_firstBroken := goodIn_r _ [5, 6, 7, 8, 9, 4, 10, 11, 12, 13, 14, 15, 16, 17, 18, 19, 20, 21, 22, 23, 24, 25, 26, 27, 28, 29, 30, 31, 43, 44, 45, 46, 47, 48, 49, 50, 51, 52, 53] (by decide +kernel) (by decide +kernel)
set_option maxRecDepth 20000 in
theorem gX0_settle_X0_firstBroken : GoodIn wsX0_settle (wsV RX0 71 RX0 yX0_firstBroken wsX0_firstBroken) := goodIn_app (goodIn_of _ (by decide +kernel)) ggX0_settle_X0_firstBroken
set_option maxRecDepth 20000 in
theorem ggX0_settle_X0_exchange : GoodIn wsX0_settle wsX0_exchange := goodIn_r _ [35, 36, 37, 8, 9, 4, 10, 11, 12, 13, 14, 6, 15, 38, 39, 40, 41, 42, 43, 44, 45, 46, 47, 48, 49] (by decide +kernel) (by decide +kernel)
set_option maxRecDepth 20000 in
theorem gX0_settle_X0_exchange : GoodIn wsX0_settle (wsV RX0 74 RX0 yX0_exchange wsX0_exchange) := goodIn_app (goodIn_of _ (by decide +kernel)) ggX0_settle_X0_exchange
theorem dX0_settle_0 : decode cX0_settle 0 = .ok (.iconst 0, 1) := by decide +kernel
theorem dX0_settle_1 : decode cX0_settle 1 = .ok (.istore_n 2, 1) := by decide +kernel
theorem dX0_settle_2 : decode cX0_settle 2 = .ok (.iload_n 2, 1) := by decide +kernel
theorem dX0_settle_3 : decode cX0_settle 3 = .ok (.sipush 276, 3) := by decide +kernel
theorem dX0_settle_6 : decode cX0_settle 6 = .ok (.if_icmp .ge 25, 3) := by decide +kernel
theorem dX0_settle_9 : decode cX0_settle 9 = .ok (.aload_n 0, 1) := by decide +kernel
theorem dX0_settle_10 : decode cX0_settle 10 = .ok (.iload_n 1, 1) := by decide +kernel
theorem dX0_settle_11 : decode cX0_settle 11 = .ok (.invokevirtual 71, 3) := by decide +kernel
theorem dX0_settle_14 : decode cX0_settle 14 = .ok (.istore_n 3, 1) := by decide +kernel
theorem dX0_settle_15 : decode cX0_settle 15 = .ok (.iload_n 3, 1) := by decide +kernel
theorem dX0_settle_16 : decode cX0_settle 16 = .ok (.ifCond .ne 4, 3) := by decide +kernel
theorem dX0_settle_19 : decode cX0_settle 19 = .ok (.return_, 1) := by decide +kernel
theorem dX0_settle_20 : decode cX0_settle 20 = .ok (.aload_n 0, 1) := by decide +kernel
theorem dX0_settle_21 : decode cX0_settle 21 = .ok (.iload_n 3, 1) := by decide +kernel
theorem dX0_settle_22 : decode cX0_settle 22 = .ok (.invokevirtual 74, 3) := by decide +kernel
theorem dX0_settle_25 : decode cX0_settle 25 = .ok (.iinc 2 1, 3) := by decide +kernel
theorem dX0_settle_28 : decode cX0_settle 28 = .ok (.goto (-26), 3) := by decide +kernel
theorem dX0_settle_31 : decode cX0_settle 31 = .ok (.return_, 1) := by decide +kernel
set_option maxRecDepth 20000 in
theorem ggX0_firstBroken_X0_parentOf : GoodIn wsX0_firstBroken wsX0_parentOf := goodIn_r _ [6] (by decide +kernel) (by decide +kernel)
set_option maxRecDepth 20000 in
theorem gX0_firstBroken_X0_parentOf : GoodIn wsX0_firstBroken (va_wsS RX0 55 yX0_parentOf wsX0_parentOf) := goodIn_app (goodIn_of _ (by decide +kernel)) ggX0_firstBroken_X0_parentOf
set_option maxRecDepth 20000 in
theorem ggX0_firstBroken_X0_pointIn : GoodIn wsX0_firstBroken wsX0_pointIn := goodIn_r _ [10, 1, 11, 28, 29, 30, 31, 32, 33, 34] (by decide +kernel) (by decide +kernel)
set_option maxRecDepth 20000 in
theorem gX0_firstBroken_X0_pointIn : GoodIn wsX0_firstBroken (wsV RX0 47 RX0 yX0_pointIn wsX0_pointIn) := goodIn_app (goodIn_of _ (by decide +kernel)) ggX0_firstBroken_X0_pointIn
set_option maxRecDepth 20000 in
theorem ggX0_firstBroken_X2_isBefore : GoodIn wsX0_firstBroken wsX2_isBefore := goodIn_r _ [16, 17, 18, 19, 15, 20, 21, 22, 23, 24, 25, 26, 27, 35, 36, 37, 38] (by decide +kernel) (by decide +kernel)
set_option maxRecDepth 20000 in
theorem gX0_firstBroken_X2_isBefore : GoodIn wsX0_firstBroken (wsV RX0 78 RX2 yX2_isBefore wsX2_isBefore) := goodIn_app (goodIn_of _ (by decide +kernel)) ggX0_firstBroken_X2_isBefore
theorem dX0_firstBroken_0 : decode cX0_firstBroken 0 = .ok (.iconst 1, 1) := by decide +kernel
theorem dX0_firstBroken_1 : decode cX0_firstBroken 1 = .ok (.istore_n 2, 1) := by decide +kernel
theorem dX0_firstBroken_2 : decode cX0_firstBroken 2 = .ok (.iload_n 2, 1) := by decide +kernel
theorem dX0_firstBroken_3 : decode cX0_firstBroken 3 = .ok (.aload_n 0, 1) := by decide +kernel
theorem dX0_firstBroken_4 : decode cX0_firstBroken 4 = .ok (.getfield 28, 3) := by decide +kernel
theorem dX0_firstBroken_7 : decode cX0_firstBroken 7 = .ok (.if_icmp .ge 35, 3) := by decide +kernel
theorem dX0_firstBroken_10 : decode cX0_firstBroken 10 = .ok (.aload_n 0, 1) := by decide +kernel
theorem dX0_firstBroken_11 : decode cX0_firstBroken 11 = .ok (.getfield 12, 3) := by decide +kernel
theorem dX0_firstBroken_14 : decode cX0_firstBroken 14 = .ok (.aload_n 0, 1) := by decide +kernel
theorem dX0_firstBroken_15 : decode cX0_firstBroken 15 = .ok (.iload_n 2, 1) := by decide +kernel
theorem dX0_firstBroken_16 : decode cX0_firstBroken 16 = .ok (.invokestatic 55, 3) := by decide +kernel
theorem dX0_firstBroken_19 : decode cX0_firstBroken 19 = .ok (.invokevirtual 47, 3) := by decide +kernel
theorem dX0_firstBroken_22 : decode cX0_firstBroken 22 = .ok (.aload_n 0, 1) := by decide +kernel
theorem dX0_firstBroken_23 : decode cX0_firstBroken 23 = .ok (.iload_n 2, 1) := by decide +kernel
theorem dX0_firstBroken_24 : decode cX0_firstBroken 24 = .ok (.invokevirtual 47, 3) := by decide +kernel
theorem dX0_firstBroken_27 : decode cX0_firstBroken 27 = .ok (.iload_n 1, 1) := by decide +kernel
theorem dX0_firstBroken_28 : decode cX0_firstBroken 28 = .ok (.invokevirtual 78, 3) := by decide +kernel
theorem dX0_firstBroken_31 : decode cX0_firstBroken 31 = .ok (.ifCond .ne 5, 3) := by decide +kernel
theorem dX0_firstBroken_34 : decode cX0_firstBroken 34 = .ok (.iload_n 2, 1) := by decide +kernel
theorem dX0_firstBroken_35 : decode cX0_firstBroken 35 = .ok (.ireturn, 1) := by decide +kernel
theorem dX0_firstBroken_36 : decode cX0_firstBroken 36 = .ok (.iinc 2 1, 3) := by decide +kernel
theorem dX0_firstBroken_39 : decode cX0_firstBroken 39 = .ok (.goto (-37), 3) := by decide +kernel
theorem dX0_firstBroken_42 : decode cX0_firstBroken 42 = .ok (.iconst 0, 1) := by decide +kernel
theorem dX0_firstBroken_43 : decode cX0_firstBroken 43 = .ok (.ireturn, 1) := by decide +kernel
set_option maxRecDepth 20000 in
theorem ggX0_exchange_X0_parentOf : GoodIn wsX0_exchange wsX0_parentOf := goodIn_r _ [6] (by decide +kernel) (by decide +kernel)
set_option maxRecDepth 20000 in
theorem gX0_exchange_X0_parentOf : GoodIn wsX0_exchange (va_wsS RX0 55 yX0_parentOf wsX0_parentOf) := goodIn_app (goodIn_of _ (by decide +kernel)) ggX0_exchange_X0_parentOf
set_option maxRecDepth 20000 in
theorem ggX0_exchange_X0_pointIn : GoodIn wsX0_exchange wsX0_pointIn := goodIn_r _ [10, 11, 12, 18, 19, 20, 21, 22, 23, 24] (by decide +kernel) (by decide +kernel)
set_option maxRecDepth 20000 in
theorem gX0_exchange_X0_pointIn : GoodIn wsX0_exchange (wsV RX0 47 RX0 yX0_pointIn wsX0_pointIn) := goodIn_app (goodIn_of _ (by decide +kernel)) ggX0_exchange_X0_pointIn
set_option maxRecDepth 20000 in
theorem ggX0_exchange_X0_put : GoodIn wsX0_exchange wsX0_put := goodIn_r _ [16, 12, 17, 18, 19, 20, 21, 22, 23, 24] (by decide +kernel) (by decide +kernel)
set_option maxRecDepth 20000 in
theorem gX0_exchange_X0_put : GoodIn wsX0_exchange (wsV RX0 39 RX0 yX0_put wsX0_put) := goodIn_app (goodIn_of _ (by decide +kernel)) ggX0_exchange_X0_put
theorem dX0_exchange_0 : decode cX0_exchange 0 = .ok (.iload_n 1, 1) := by decide +kernel
theorem dX0_exchange_1 : decode cX0_exchange 1 = .ok (.invokestatic 55, 3) := by decide +kernel
theorem dX0_exchange_4 : decode cX0_exchange 4 = .ok (.istore_n 2, 1) := by decide +kernel
theorem dX0_exchange_5 : decode cX0_exchange 5 = .ok (.aload_n 0, 1) := by decide +kernel
theorem dX0_exchange_6 : decode cX0_exchange 6 = .ok (.iload_n 2, 1) := by decide +kernel
theorem dX0_exchange_7 : decode cX0_exchange 7 = .ok (.invokevirtual 47, 3) := by decide +kernel
theorem dX0_exchange_10 : decode cX0_exchange 10 = .ok (.istore_n 3, 1) := by decide +kernel
theorem dX0_exchange_11 : decode cX0_exchange 11 = .ok (.aload_n 0, 1) := by decide +kernel
theorem dX0_exchange_12 : decode cX0_exchange 12 = .ok (.iload_n 2, 1) := by decide +kernel
theorem dX0_exchange_13 : decode cX0_exchange 13 = .ok (.aload_n 0, 1) := by decide +kernel
theorem dX0_exchange_14 : decode cX0_exchange 14 = .ok (.iload_n 1, 1) := by decide +kernel
theorem dX0_exchange_15 : decode cX0_exchange 15 = .ok (.invokevirtual 47, 3) := by decide +kernel
theorem dX0_exchange_18 : decode cX0_exchange 18 = .ok (.invokevirtual 39, 3) := by decide +kernel
theorem dX0_exchange_21 : decode cX0_exchange 21 = .ok (.aload_n 0, 1) := by decide +kernel
theorem dX0_exchange_22 : decode cX0_exchange 22 = .ok (.iload_n 1, 1) := by decide +kernel
theorem dX0_exchange_23 : decode cX0_exchange 23 = .ok (.iload_n 3, 1) := by decide +kernel
theorem dX0_exchange_24 : decode cX0_exchange 24 = .ok (.invokevirtual 39, 3) := by decide +kernel
theorem dX0_exchange_27 : decode cX0_exchange 27 = .ok (.aload_n 0, 1) := by decide +kernel
theorem dX0_exchange_28 : decode cX0_exchange 28 = .ok (.dup, 1) := by decide +kernel
theorem dX0_exchange_29 : decode cX0_exchange 29 = .ok (.getfield 32, 3) := by decide +kernel
theorem dX0_exchange_32 : decode cX0_exchange 32 = .ok (.lconst 1, 1) := by decide +kernel
theorem dX0_exchange_33 : decode cX0_exchange 33 = .ok (.ladd, 1) := by decide +kernel
theorem dX0_exchange_34 : decode cX0_exchange 34 = .ok (.putfield 32, 3) := by decide +kernel
theorem dX0_exchange_37 : decode cX0_exchange 37 = .ok (.iload_n 2, 1) := by decide +kernel
theorem dX0_exchange_38 : decode cX0_exchange 38 = .ok (.ifCond .ne 13, 3) := by decide +kernel
theorem dX0_exchange_41 : decode cX0_exchange 41 = .ok (.aload_n 0, 1) := by decide +kernel
theorem dX0_exchange_42 : decode cX0_exchange 42 = .ok (.dup, 1) := by decide +kernel
theorem dX0_exchange_43 : decode cX0_exchange 43 = .ok (.getfield 36, 3) := by decide +kernel
theorem dX0_exchange_46 : decode cX0_exchange 46 = .ok (.lconst 1, 1) := by decide +kernel
theorem dX0_exchange_47 : decode cX0_exchange 47 = .ok (.ladd, 1) := by decide +kernel
theorem dX0_exchange_48 : decode cX0_exchange 48 = .ok (.putfield 36, 3) := by decide +kernel
theorem dX0_exchange_51 : decode cX0_exchange 51 = .ok (.return_, 1) := by decide +kernel
theorem dX0_parentOf_0 : decode cX0_parentOf 0 = .ok (.iload_n 0, 1) := by decide +kernel
theorem dX0_parentOf_1 : decode cX0_parentOf 1 = .ok (.iconst 1, 1) := by decide +kernel
theorem dX0_parentOf_2 : decode cX0_parentOf 2 = .ok (.isub, 1) := by decide +kernel
theorem dX0_parentOf_3 : decode cX0_parentOf 3 = .ok (.iconst 2, 1) := by decide +kernel
theorem dX0_parentOf_4 : decode cX0_parentOf 4 = .ok (.idiv, 1) := by decide +kernel
theorem dX0_parentOf_5 : decode cX0_parentOf 5 = .ok (.ireturn, 1) := by decide +kernel
set_option maxRecDepth 20000 in
theorem ggX0_calendarLength_X0_failureOf : GoodIn wsX0_calendarLength wsX0_failureOf := goodIn_r _ [7, 2, 8, 9, 10, 11, 6, 12, 1, 13, 14, 15, 16, 17, 18, 19, 20, 21, 22, 23, 24, 25, 26, 27, 28, 29, 30, 31, 32, 33, 34, 35, 36, 37, 38, 39, 40, 41, 42, 43, 44, 45, 46, 47, 48, 49, 50, 51, 52, 53, 54, 55, 56, 57] (by decide +kernel) (by decide +kernel)
set_option maxRecDepth 20000 in
theorem gX0_calendarLength_X0_failureOf : GoodIn wsX0_calendarLength (wsV RX0 62 RX0 yX0_failureOf wsX0_failureOf) := goodIn_app (goodIn_of _ (by decide +kernel)) ggX0_calendarLength_X0_failureOf
theorem dX0_calendarLength_0 : decode cX0_calendarLength 0 = .ok (.iconst 0, 1) := by decide +kernel
theorem dX0_calendarLength_1 : decode cX0_calendarLength 1 = .ok (.istore_n 2, 1) := by decide +kernel
theorem dX0_calendarLength_2 : decode cX0_calendarLength 2 = .ok (.iconst 1, 1) := by decide +kernel
theorem dX0_calendarLength_3 : decode cX0_calendarLength 3 = .ok (.istore_n 3, 1) := by decide +kernel
theorem dX0_calendarLength_4 : decode cX0_calendarLength 4 = .ok (.iload_n 3, 1) := by decide +kernel
theorem dX0_calendarLength_5 : decode cX0_calendarLength 5 = .ok (.aload_n 0, 1) := by decide +kernel
theorem dX0_calendarLength_6 : decode cX0_calendarLength 6 = .ok (.getfield 28, 3) := by decide +kernel
theorem dX0_calendarLength_9 : decode cX0_calendarLength 9 = .ok (.if_icmp .ge 23, 3) := by decide +kernel
theorem dX0_calendarLength_12 : decode cX0_calendarLength 12 = .ok (.aload_n 0, 1) := by decide +kernel
theorem dX0_calendarLength_13 : decode cX0_calendarLength 13 = .ok (.iload_n 3, 1) := by decide +kernel
theorem dX0_calendarLength_14 : decode cX0_calendarLength 14 = .ok (.iload_n 1, 1) := by decide +kernel
theorem dX0_calendarLength_15 : decode cX0_calendarLength 15 = .ok (.invokevirtual 62, 3) := by decide +kernel
theorem dX0_calendarLength_18 : decode cX0_calendarLength 18 = .ok (.ldc 54, 2) := by decide +kernel
theorem dX0_calendarLength_20 : decode cX0_calendarLength 20 = .ok (.if_icmp .eq 6, 3) := by decide +kernel
theorem dX0_calendarLength_23 : decode cX0_calendarLength 23 = .ok (.iinc 2 1, 3) := by decide +kernel
theorem dX0_calendarLength_26 : decode cX0_calendarLength 26 = .ok (.iinc 3 1, 3) := by decide +kernel
theorem dX0_calendarLength_29 : decode cX0_calendarLength 29 = .ok (.goto (-25), 3) := by decide +kernel
theorem dX0_calendarLength_32 : decode cX0_calendarLength 32 = .ok (.iload_n 2, 1) := by decide +kernel
theorem dX0_calendarLength_33 : decode cX0_calendarLength 33 = .ok (.ireturn, 1) := by decide +kernel
set_option maxRecDepth 20000 in
theorem ggX0_calendarEntry_X0_failureOf : GoodIn wsX0_calendarEntry wsX0_failureOf := goodIn_r _ [8, 3, 9, 10, 11, 12, 7, 13, 1, 14, 15, 16, 17, 18, 19, 20, 21, 22, 23, 24, 25, 26, 27, 28, 29, 30, 31, 32, 33, 34, 35, 36, 37, 38, 39, 40, 41, 42, 43, 44, 45, 46, 47, 52, 53, 54, 55, 56, 57, 58, 59, 60, 61, 62] (by decide +kernel) (by decide +kernel)
set_option maxRecDepth 20000 in
theorem gX0_calendarEntry_X0_failureOf : GoodIn wsX0_calendarEntry (wsV RX0 62 RX0 yX0_failureOf wsX0_failureOf) := goodIn_app (goodIn_of _ (by decide +kernel)) ggX0_calendarEntry_X0_failureOf
set_option maxRecDepth 20000 in
theorem ggX0_calendarEntry_X0_earlierThan : GoodIn wsX0_calendarEntry wsX0_earlierThan := goodIn_r _ [51, 1, 2, 52, 53, 54, 55, 56, 57, 58] (by decide +kernel) (by decide +kernel)
set_option maxRecDepth 20000 in
theorem gX0_calendarEntry_X0_earlierThan : GoodIn wsX0_calendarEntry (wsV RX0 82 RX0 yX0_earlierThan wsX0_earlierThan) := goodIn_app (goodIn_of _ (by decide +kernel)) ggX0_calendarEntry_X0_earlierThan
theorem dX0_calendarEntry_0 : decode cX0_calendarEntry 0 = .ok (.iconst 1, 1) := by decide +kernel
theorem dX0_calendarEntry_1 : decode cX0_calendarEntry 1 = .ok (.istore_n 3, 1) := by decide +kernel
theorem dX0_calendarEntry_2 : decode cX0_calendarEntry 2 = .ok (.iload_n 3, 1) := by decide +kernel
theorem dX0_calendarEntry_3 : decode cX0_calendarEntry 3 = .ok (.aload_n 0, 1) := by decide +kernel
theorem dX0_calendarEntry_4 : decode cX0_calendarEntry 4 = .ok (.getfield 28, 3) := by decide +kernel
theorem dX0_calendarEntry_7 : decode cX0_calendarEntry 7 = .ok (.if_icmp .ge 27, 3) := by decide +kernel
theorem dX0_calendarEntry_10 : decode cX0_calendarEntry 10 = .ok (.iload_n 3, 1) := by decide +kernel
theorem dX0_calendarEntry_11 : decode cX0_calendarEntry 11 = .ok (.bipush 24, 2) := by decide +kernel
theorem dX0_calendarEntry_13 : decode cX0_calendarEntry 13 = .ok (.if_icmp .ge 21, 3) := by decide +kernel
theorem dX0_calendarEntry_16 : decode cX0_calendarEntry 16 = .ok (.aload_n 0, 1) := by decide +kernel
theorem dX0_calendarEntry_17 : decode cX0_calendarEntry 17 = .ok (.getfield 25, 3) := by decide +kernel
theorem dX0_calendarEntry_20 : decode cX0_calendarEntry 20 = .ok (.iload_n 3, 1) := by decide +kernel
theorem dX0_calendarEntry_21 : decode cX0_calendarEntry 21 = .ok (.aload_n 0, 1) := by decide +kernel
theorem dX0_calendarEntry_22 : decode cX0_calendarEntry 22 = .ok (.iload_n 3, 1) := by decide +kernel
theorem dX0_calendarEntry_23 : decode cX0_calendarEntry 23 = .ok (.iload_n 2, 1) := by decide +kernel
theorem dX0_calendarEntry_24 : decode cX0_calendarEntry 24 = .ok (.invokevirtual 62, 3) := by decide +kernel
theorem dX0_calendarEntry_27 : decode cX0_calendarEntry 27 = .ok (.iastore, 1) := by decide +kernel
theorem dX0_calendarEntry_28 : decode cX0_calendarEntry 28 = .ok (.iinc 3 1, 3) := by decide +kernel
theorem dX0_calendarEntry_31 : decode cX0_calendarEntry 31 = .ok (.goto (-29), 3) := by decide +kernel
theorem dX0_calendarEntry_34 : decode cX0_calendarEntry 34 = .ok (.iconst 1, 1) := by decide +kernel
theorem dX0_calendarEntry_35 : decode cX0_calendarEntry 35 = .ok (.istore_n 3, 1) := by decide +kernel
theorem dX0_calendarEntry_36 : decode cX0_calendarEntry 36 = .ok (.iload_n 3, 1) := by decide +kernel
theorem dX0_calendarEntry_37 : decode cX0_calendarEntry 37 = .ok (.aload_n 0, 1) := by decide +kernel
theorem dX0_calendarEntry_38 : decode cX0_calendarEntry 38 = .ok (.getfield 28, 3) := by decide +kernel
theorem dX0_calendarEntry_41 : decode cX0_calendarEntry 41 = .ok (.if_icmp .ge 43, 3) := by decide +kernel
theorem dX0_calendarEntry_44 : decode cX0_calendarEntry 44 = .ok (.iload_n 3, 1) := by decide +kernel
theorem dX0_calendarEntry_45 : decode cX0_calendarEntry 45 = .ok (.bipush 24, 2) := by decide +kernel
theorem dX0_calendarEntry_47 : decode cX0_calendarEntry 47 = .ok (.if_icmp .ge 37, 3) := by decide +kernel
theorem dX0_calendarEntry_50 : decode cX0_calendarEntry 50 = .ok (.aload_n 0, 1) := by decide +kernel
theorem dX0_calendarEntry_51 : decode cX0_calendarEntry 51 = .ok (.getfield 25, 3) := by decide +kernel
theorem dX0_calendarEntry_54 : decode cX0_calendarEntry 54 = .ok (.iload_n 3, 1) := by decide +kernel
theorem dX0_calendarEntry_55 : decode cX0_calendarEntry 55 = .ok (.iaload, 1) := by decide +kernel
theorem dX0_calendarEntry_56 : decode cX0_calendarEntry 56 = .ok (.ldc 54, 2) := by decide +kernel
theorem dX0_calendarEntry_58 : decode cX0_calendarEntry 58 = .ok (.if_icmp .eq 20, 3) := by decide +kernel
theorem dX0_calendarEntry_61 : decode cX0_calendarEntry 61 = .ok (.aload_n 0, 1) := by decide +kernel
theorem dX0_calendarEntry_62 : decode cX0_calendarEntry 62 = .ok (.iload_n 3, 1) := by decide +kernel
theorem dX0_calendarEntry_63 : decode cX0_calendarEntry 63 = .ok (.aload_n 0, 1) := by decide +kernel
theorem dX0_calendarEntry_64 : decode cX0_calendarEntry 64 = .ok (.getfield 25, 3) := by decide +kernel
theorem dX0_calendarEntry_67 : decode cX0_calendarEntry 67 = .ok (.iload_n 3, 1) := by decide +kernel
theorem dX0_calendarEntry_68 : decode cX0_calendarEntry 68 = .ok (.iaload, 1) := by decide +kernel
theorem dX0_calendarEntry_69 : decode cX0_calendarEntry 69 = .ok (.invokevirtual 82, 3) := by decide +kernel
theorem dX0_calendarEntry_72 : decode cX0_calendarEntry 72 = .ok (.iload_n 1, 1) := by decide +kernel
theorem dX0_calendarEntry_73 : decode cX0_calendarEntry 73 = .ok (.if_icmp .ne 5, 3) := by decide +kernel
theorem dX0_calendarEntry_76 : decode cX0_calendarEntry 76 = .ok (.iload_n 3, 1) := by decide +kernel
theorem dX0_calendarEntry_77 : decode cX0_calendarEntry 77 = .ok (.ireturn, 1) := by decide +kernel
theorem dX0_calendarEntry_78 : decode cX0_calendarEntry 78 = .ok (.iinc 3 1, 3) := by decide +kernel
theorem dX0_calendarEntry_81 : decode cX0_calendarEntry 81 = .ok (.goto (-45), 3) := by decide +kernel
theorem dX0_calendarEntry_84 : decode cX0_calendarEntry 84 = .ok (.iconst 0, 1) := by decide +kernel
theorem dX0_calendarEntry_85 : decode cX0_calendarEntry 85 = .ok (.ireturn, 1) := by decide +kernel
theorem dX0_earlierThan_0 : decode cX0_earlierThan 0 = .ok (.iconst 0, 1) := by decide +kernel
theorem dX0_earlierThan_1 : decode cX0_earlierThan 1 = .ok (.istore_n 3, 1) := by decide +kernel
theorem dX0_earlierThan_2 : decode cX0_earlierThan 2 = .ok (.iconst 1, 1) := by decide +kernel
theorem dX0_earlierThan_3 : decode cX0_earlierThan 3 = .ok (.istore 4, 2) := by decide +kernel
theorem dX0_earlierThan_5 : decode cX0_earlierThan 5 = .ok (.iload 4, 2) := by decide +kernel
theorem dX0_earlierThan_7 : decode cX0_earlierThan 7 = .ok (.aload_n 0, 1) := by decide +kernel
theorem dX0_earlierThan_8 : decode cX0_earlierThan 8 = .ok (.getfield 28, 3) := by decide +kernel
theorem dX0_earlierThan_11 : decode cX0_earlierThan 11 = .ok (.if_icmp .ge 47, 3) := by decide +kernel
theorem dX0_earlierThan_14 : decode cX0_earlierThan 14 = .ok (.iload 4, 2) := by decide +kernel
theorem dX0_earlierThan_16 : decode cX0_earlierThan 16 = .ok (.bipush 24, 2) := by decide +kernel
theorem dX0_earlierThan_18 : decode cX0_earlierThan 18 = .ok (.if_icmp .ge 40, 3) := by decide +kernel
theorem dX0_earlierThan_21 : decode cX0_earlierThan 21 = .ok (.aload_n 0, 1) := by decide +kernel
theorem dX0_earlierThan_22 : decode cX0_earlierThan 22 = .ok (.getfield 25, 3) := by decide +kernel
theorem dX0_earlierThan_25 : decode cX0_earlierThan 25 = .ok (.iload 4, 2) := by decide +kernel
theorem dX0_earlierThan_27 : decode cX0_earlierThan 27 = .ok (.iaload, 1) := by decide +kernel
theorem dX0_earlierThan_28 : decode cX0_earlierThan 28 = .ok (.iload_n 2, 1) := by decide +kernel
theorem dX0_earlierThan_29 : decode cX0_earlierThan 29 = .ok (.if_icmp .lt 20, 3) := by decide +kernel
theorem dX0_earlierThan_32 : decode cX0_earlierThan 32 = .ok (.aload_n 0, 1) := by decide +kernel
theorem dX0_earlierThan_33 : decode cX0_earlierThan 33 = .ok (.getfield 25, 3) := by decide +kernel
theorem dX0_earlierThan_36 : decode cX0_earlierThan 36 = .ok (.iload 4, 2) := by decide +kernel
theorem dX0_earlierThan_38 : decode cX0_earlierThan 38 = .ok (.iaload, 1) := by decide +kernel
theorem dX0_earlierThan_39 : decode cX0_earlierThan 39 = .ok (.iload_n 2, 1) := by decide +kernel
theorem dX0_earlierThan_40 : decode cX0_earlierThan 40 = .ok (.if_icmp .ne 12, 3) := by decide +kernel
theorem dX0_earlierThan_43 : decode cX0_earlierThan 43 = .ok (.iload 4, 2) := by decide +kernel
theorem dX0_earlierThan_45 : decode cX0_earlierThan 45 = .ok (.iload_n 1, 1) := by decide +kernel
theorem dX0_earlierThan_46 : decode cX0_earlierThan 46 = .ok (.if_icmp .ge 6, 3) := by decide +kernel
theorem dX0_earlierThan_49 : decode cX0_earlierThan 49 = .ok (.iinc 3 1, 3) := by decide +kernel
theorem dX0_earlierThan_52 : decode cX0_earlierThan 52 = .ok (.iinc 4 1, 3) := by decide +kernel
theorem dX0_earlierThan_55 : decode cX0_earlierThan 55 = .ok (.goto (-50), 3) := by decide +kernel
theorem dX0_earlierThan_58 : decode cX0_earlierThan 58 = .ok (.iload_n 3, 1) := by decide +kernel
theorem dX0_earlierThan_59 : decode cX0_earlierThan 59 = .ok (.ireturn, 1) := by decide +kernel
set_option maxRecDepth 20000 in
theorem ggX1_init_X2_init : GoodIn wsX1_init wsX2_init := goodIn_r _ [22, 23, 2, 3, 12, 24, 14, 25, 9, 26, 27, 28, 29, 30, 31] (by decide +kernel) (by decide +kernel)
set_option maxRecDepth 20000 in
theorem gX1_init_X2_init : GoodIn wsX1_init (wsX2_init) := ggX1_init_X2_init
theorem dX1_init_0 : decode cX1_init 0 = .ok (.aload_n 0, 1) := by decide +kernel
theorem dX1_init_1 : decode cX1_init 1 = .ok (.invokespecial 3, 3) := by decide +kernel
theorem dX1_init_4 : decode cX1_init 4 = .ok (.aload_n 0, 1) := by decide +kernel
theorem dX1_init_5 : decode cX1_init 5 = .ok (.new 9, 3) := by decide +kernel
theorem dX1_init_8 : decode cX1_init 8 = .ok (.dup, 1) := by decide +kernel
theorem dX1_init_9 : decode cX1_init 9 = .ok (.invokespecial 11, 3) := by decide +kernel
theorem dX1_init_12 : decode cX1_init 12 = .ok (.putfield 12, 3) := by decide +kernel
theorem dX1_init_15 : decode cX1_init 15 = .ok (.aload_n 0, 1) := by decide +kernel
theorem dX1_init_16 : decode cX1_init 16 = .ok (.new 9, 3) := by decide +kernel
theorem dX1_init_19 : decode cX1_init 19 = .ok (.dup, 1) := by decide +kernel
theorem dX1_init_20 : decode cX1_init 20 = .ok (.invokespecial 11, 3) := by decide +kernel
theorem dX1_init_23 : decode cX1_init 23 = .ok (.putfield 18, 3) := by decide +kernel
theorem dX1_init_26 : decode cX1_init 26 = .ok (.aload_n 0, 1) := by decide +kernel
theorem dX1_init_27 : decode cX1_init 27 = .ok (.sipush 200, 3) := by decide +kernel
theorem dX1_init_30 : decode cX1_init 30 = .ok (.newarray .int, 2) := by decide +kernel
theorem dX1_init_32 : decode cX1_init 32 = .ok (.putfield 21, 3) := by decide +kernel
theorem dX1_init_35 : decode cX1_init 35 = .ok (.aload_n 0, 1) := by decide +kernel
theorem dX1_init_36 : decode cX1_init 36 = .ok (.sipush 200, 3) := by decide +kernel
theorem dX1_init_39 : decode cX1_init 39 = .ok (.newarray .int, 2) := by decide +kernel
theorem dX1_init_41 : decode cX1_init 41 = .ok (.putfield 25, 3) := by decide +kernel
theorem dX1_init_44 : decode cX1_init 44 = .ok (.aload_n 0, 1) := by decide +kernel
theorem dX1_init_45 : decode cX1_init 45 = .ok (.sipush 200, 3) := by decide +kernel
theorem dX1_init_48 : decode cX1_init 48 = .ok (.newarray .boolean, 2) := by decide +kernel
theorem dX1_init_50 : decode cX1_init 50 = .ok (.putfield 28, 3) := by decide +kernel
theorem dX1_init_53 : decode cX1_init 53 = .ok (.aload_n 0, 1) := by decide +kernel
theorem dX1_init_54 : decode cX1_init 54 = .ok (.sipush 200, 3) := by decide +kernel
theorem dX1_init_57 : decode cX1_init 57 = .ok (.newarray .long, 2) := by decide +kernel
theorem dX1_init_59 : decode cX1_init 59 = .ok (.putfield 32, 3) := by decide +kernel
theorem dX1_init_62 : decode cX1_init 62 = .ok (.aload_n 0, 1) := by decide +kernel
theorem dX1_init_63 : decode cX1_init 63 = .ok (.sipush 200, 3) := by decide +kernel
theorem dX1_init_66 : decode cX1_init 66 = .ok (.newarray .int, 2) := by decide +kernel
theorem dX1_init_68 : decode cX1_init 68 = .ok (.putfield 36, 3) := by decide +kernel
theorem dX1_init_71 : decode cX1_init 71 = .ok (.aload_n 0, 1) := by decide +kernel
theorem dX1_init_72 : decode cX1_init 72 = .ok (.iconst 0, 1) := by decide +kernel
theorem dX1_init_73 : decode cX1_init 73 = .ok (.putfield 39, 3) := by decide +kernel
theorem dX1_init_76 : decode cX1_init 76 = .ok (.aload_n 0, 1) := by decide +kernel
theorem dX1_init_77 : decode cX1_init 77 = .ok (.iconst 0, 1) := by decide +kernel
theorem dX1_init_78 : decode cX1_init 78 = .ok (.putfield 43, 3) := by decide +kernel
theorem dX1_init_81 : decode cX1_init 81 = .ok (.aload_n 0, 1) := by decide +kernel
theorem dX1_init_82 : decode cX1_init 82 = .ok (.iconst 0, 1) := by decide +kernel
theorem dX1_init_83 : decode cX1_init 83 = .ok (.putfield 46, 3) := by decide +kernel
theorem dX1_init_86 : decode cX1_init 86 = .ok (.return_, 1) := by decide +kernel
theorem dX1_operations_0 : decode cX1_operations 0 = .ok (.aload_n 0, 1) := by decide +kernel
theorem dX1_operations_1 : decode cX1_operations 1 = .ok (.getfield 39, 3) := by decide +kernel
theorem dX1_operations_4 : decode cX1_operations 4 = .ok (.ireturn, 1) := by decide +kernel
theorem dX1_isFull_0 : decode cX1_isFull 0 = .ok (.aload_n 0, 1) := by decide +kernel
theorem dX1_isFull_1 : decode cX1_isFull 1 = .ok (.getfield 39, 3) := by decide +kernel
theorem dX1_isFull_4 : decode cX1_isFull 4 = .ok (.sipush 200, 3) := by decide +kernel
theorem dX1_isFull_7 : decode cX1_isFull 7 = .ok (.if_icmp .lt 7, 3) := by decide +kernel
theorem dX1_isFull_10 : decode cX1_isFull 10 = .ok (.iconst 1, 1) := by decide +kernel
theorem dX1_isFull_11 : decode cX1_isFull 11 = .ok (.goto 4, 3) := by decide +kernel
theorem dX1_isFull_14 : decode cX1_isFull 14 = .ok (.iconst 0, 1) := by decide +kernel
theorem dX1_isFull_15 : decode cX1_isFull 15 = .ok (.ireturn, 1) := by decide +kernel
theorem dX1_knows_0 : decode cX1_knows 0 = .ok (.iload_n 1, 1) := by decide +kernel
theorem dX1_knows_1 : decode cX1_knows 1 = .ok (.aload_n 0, 1) := by decide +kernel
theorem dX1_knows_2 : decode cX1_knows 2 = .ok (.getfield 46, 3) := by decide +kernel
theorem dX1_knows_5 : decode cX1_knows 5 = .ok (.if_icmp .lt 7, 3) := by decide +kernel
theorem dX1_knows_8 : decode cX1_knows 8 = .ok (.iconst 1, 1) := by decide +kernel
theorem dX1_knows_9 : decode cX1_knows 9 = .ok (.goto 4, 3) := by decide +kernel
theorem dX1_knows_12 : decode cX1_knows 12 = .ok (.iconst 0, 1) := by decide +kernel
theorem dX1_knows_13 : decode cX1_knows 13 = .ok (.ireturn, 1) := by decide +kernel
set_option maxRecDepth 20000 in
theorem ggX1_record_X1_isFull : GoodIn wsX1_record wsX1_isFull := goodIn_r _ [11, 2, 29, 30, 31, 32, 33, 34, 35, 36, 37, 38] (by decide +kernel) (by decide +kernel)
set_option maxRecDepth 20000 in
theorem gX1_record_X1_isFull : GoodIn wsX1_record (wsV RX1 49 RX1 yX1_isFull wsX1_isFull) := goodIn_app (goodIn_of _ (by decide +kernel)) ggX1_record_X1_isFull
set_option maxRecDepth 20000 in
theorem ggX1_record_X2_has : GoodIn wsX1_record wsX2_has := goodIn_r _ [16, 17, 39, 40, 41, 42] (by decide +kernel) (by decide +kernel)
set_option maxRecDepth 20000 in
theorem gX1_record_X2_has : GoodIn wsX1_record (wsV RX1 53 RX2 yX2_has wsX2_has) := goodIn_app (goodIn_of _ (by decide +kernel)) ggX1_record_X2_has
set_option maxRecDepth 20000 in
theorem ggX1_record_X2_heightOf : GoodIn wsX1_record wsX2_heightOf := goodIn_r _ [21, 22, 23, 13, 14, 15, 16, 17, 39, 40, 41, 42] (by decide +kernel) (by decide +kernel)
set_option maxRecDepth 20000 in
theorem gX1_record_X2_heightOf : GoodIn wsX1_record (wsV RX1 57 RX2 yX2_heightOf wsX2_heightOf) := goodIn_app (goodIn_of _ (by decide +kernel)) ggX1_record_X2_heightOf
set_option maxRecDepth 20000 in
theorem ggX1_record_X2_velocityOf : GoodIn wsX1_record wsX2_velocityOf := goodIn_r _ [27, 28, 23, 13, 14, 15, 16, 17, 39, 40, 41, 42] (by decide +kernel) (by decide +kernel)
set_option maxRecDepth 20000 in
theorem gX1_record_X2_velocityOf : GoodIn wsX1_record (wsV RX1 61 RX2 yX2_velocityOf wsX2_velocityOf) := goodIn_app (goodIn_of _ (by decide +kernel)) ggX1_record_X2_velocityOf
theorem dX1_record_0 : decode cX1_record 0 = .ok (.aload_n 0, 1) := by decide +kernel
theorem dX1_record_1 : decode cX1_record 1 = .ok (.invokevirtual 49, 3) := by decide +kernel
theorem dX1_record_4 : decode cX1_record 4 = .ok (.ifCond .eq 4, 3) := by decide +kernel
theorem dX1_record_7 : decode cX1_record 7 = .ok (.return_, 1) := by decide +kernel
theorem dX1_record_8 : decode cX1_record 8 = .ok (.aload_n 0, 1) := by decide +kernel
theorem dX1_record_9 : decode cX1_record 9 = .ok (.getfield 21, 3) := by decide +kernel
theorem dX1_record_12 : decode cX1_record 12 = .ok (.aload_n 0, 1) := by decide +kernel
theorem dX1_record_13 : decode cX1_record 13 = .ok (.getfield 39, 3) := by decide +kernel
theorem dX1_record_16 : decode cX1_record 16 = .ok (.iload_n 3, 1) := by decide +kernel
theorem dX1_record_17 : decode cX1_record 17 = .ok (.iastore, 1) := by decide +kernel
theorem dX1_record_18 : decode cX1_record 18 = .ok (.aload_n 0, 1) := by decide +kernel
theorem dX1_record_19 : decode cX1_record 19 = .ok (.getfield 25, 3) := by decide +kernel
theorem dX1_record_22 : decode cX1_record 22 = .ok (.aload_n 0, 1) := by decide +kernel
theorem dX1_record_23 : decode cX1_record 23 = .ok (.getfield 39, 3) := by decide +kernel
theorem dX1_record_26 : decode cX1_record 26 = .ok (.iload_n 2, 1) := by decide +kernel
theorem dX1_record_27 : decode cX1_record 27 = .ok (.iastore, 1) := by decide +kernel
theorem dX1_record_28 : decode cX1_record 28 = .ok (.aload_n 0, 1) := by decide +kernel
theorem dX1_record_29 : decode cX1_record 29 = .ok (.getfield 28, 3) := by decide +kernel
theorem dX1_record_32 : decode cX1_record 32 = .ok (.aload_n 0, 1) := by decide +kernel
theorem dX1_record_33 : decode cX1_record 33 = .ok (.getfield 39, 3) := by decide +kernel
theorem dX1_record_36 : decode cX1_record 36 = .ok (.aload_n 1, 1) := by decide +kernel
theorem dX1_record_37 : decode cX1_record 37 = .ok (.iload_n 2, 1) := by decide +kernel
theorem dX1_record_38 : decode cX1_record 38 = .ok (.invokevirtual 53, 3) := by decide +kernel
theorem dX1_record_41 : decode cX1_record 41 = .ok (.bastore, 1) := by decide +kernel
theorem dX1_record_42 : decode cX1_record 42 = .ok (.aload_n 0, 1) := by decide +kernel
theorem dX1_record_43 : decode cX1_record 43 = .ok (.getfield 32, 3) := by decide +kernel
theorem dX1_record_46 : decode cX1_record 46 = .ok (.aload_n 0, 1) := by decide +kernel
theorem dX1_record_47 : decode cX1_record 47 = .ok (.getfield 39, 3) := by decide +kernel
theorem dX1_record_50 : decode cX1_record 50 = .ok (.aload_n 1, 1) := by decide +kernel
theorem dX1_record_51 : decode cX1_record 51 = .ok (.iload_n 2, 1) := by decide +kernel
theorem dX1_record_52 : decode cX1_record 52 = .ok (.invokevirtual 57, 3) := by decide +kernel
theorem dX1_record_55 : decode cX1_record 55 = .ok (.lastore, 1) := by decide +kernel
theorem dX1_record_56 : decode cX1_record 56 = .ok (.aload_n 0, 1) := by decide +kernel
theorem dX1_record_57 : decode cX1_record 57 = .ok (.getfield 36, 3) := by decide +kernel
theorem dX1_record_60 : decode cX1_record 60 = .ok (.aload_n 0, 1) := by decide +kernel
theorem dX1_record_61 : decode cX1_record 61 = .ok (.getfield 39, 3) := by decide +kernel
theorem dX1_record_64 : decode cX1_record 64 = .ok (.aload_n 1, 1) := by decide +kernel
theorem dX1_record_65 : decode cX1_record 65 = .ok (.iload_n 2, 1) := by decide +kernel
theorem dX1_record_66 : decode cX1_record 66 = .ok (.invokevirtual 61, 3) := by decide +kernel
theorem dX1_record_69 : decode cX1_record 69 = .ok (.iastore, 1) := by decide +kernel
theorem dX1_record_70 : decode cX1_record 70 = .ok (.aload_n 0, 1) := by decide +kernel
theorem dX1_record_71 : decode cX1_record 71 = .ok (.dup, 1) := by decide +kernel
theorem dX1_record_72 : decode cX1_record 72 = .ok (.getfield 39, 3) := by decide +kernel
theorem dX1_record_75 : decode cX1_record 75 = .ok (.iconst 1, 1) := by decide +kernel
theorem dX1_record_76 : decode cX1_record 76 = .ok (.iadd, 1) := by decide +kernel
theorem dX1_record_77 : decode cX1_record 77 = .ok (.putfield 39, 3) := by decide +kernel
theorem dX1_record_80 : decode cX1_record 80 = .ok (.return_, 1) := by decide +kernel
set_option maxRecDepth 20000 in
theorem ggX1_restart_X2_copyFrom : GoodIn wsX1_restart wsX2_copyFrom := goodIn_r _ [9, 10, 11, 12, 13, 24, 25, 26, 27] (by decide +kernel) (by decide +kernel)
set_option maxRecDepth 20000 in
theorem gX1_restart_X2_copyFrom : GoodIn wsX1_restart (wsV RX1 65 RX2 yX2_copyFrom wsX2_copyFrom) := goodIn_app (goodIn_of _ (by decide +kernel)) ggX1_restart_X2_copyFrom
theorem dX1_restart_0 : decode cX1_restart 0 = .ok (.aload_n 0, 1) := by decide +kernel
theorem dX1_restart_1 : decode cX1_restart 1 = .ok (.getfield 12, 3) := by decide +kernel
theorem dX1_restart_4 : decode cX1_restart 4 = .ok (.aload_n 1, 1) := by decide +kernel
theorem dX1_restart_5 : decode cX1_restart 5 = .ok (.invokevirtual 65, 3) := by decide +kernel
theorem dX1_restart_8 : decode cX1_restart 8 = .ok (.aload_n 0, 1) := by decide +kernel
theorem dX1_restart_9 : decode cX1_restart 9 = .ok (.iconst 0, 1) := by decide +kernel
theorem dX1_restart_10 : decode cX1_restart 10 = .ok (.putfield 39, 3) := by decide +kernel
theorem dX1_restart_13 : decode cX1_restart 13 = .ok (.aload_n 0, 1) := by decide +kernel
theorem dX1_restart_14 : decode cX1_restart 14 = .ok (.iconst 0, 1) := by decide +kernel
theorem dX1_restart_15 : decode cX1_restart 15 = .ok (.putfield 43, 3) := by decide +kernel
theorem dX1_restart_18 : decode cX1_restart 18 = .ok (.aload_n 0, 1) := by decide +kernel
theorem dX1_restart_19 : decode cX1_restart 19 = .ok (.iload_n 2, 1) := by decide +kernel
theorem dX1_restart_20 : decode cX1_restart 20 = .ok (.putfield 46, 3) := by decide +kernel
theorem dX1_restart_23 : decode cX1_restart 23 = .ok (.return_, 1) := by decide +kernel
set_option maxRecDepth 20000 in
theorem ggX1_stateAt_X2_copyFrom : GoodIn wsX1_stateAt wsX2_copyFrom := goodIn_r _ [8, 9, 10, 11, 12, 46, 47, 48, 49] (by decide +kernel) (by decide +kernel)
set_option maxRecDepth 20000 in
theorem gX1_stateAt_X2_copyFrom : GoodIn wsX1_stateAt (wsV RX1 65 RX2 yX2_copyFrom wsX2_copyFrom) := goodIn_app (goodIn_of _ (by decide +kernel)) ggX1_stateAt_X2_copyFrom
set_option maxRecDepth 20000 in
theorem ggX1_stateAt_X1_advance : GoodIn wsX1_stateAt wsX1_advance := goodIn_r _ [17, 3, 18, 19, 20, 1, 21, 22, 23, 24, 25, 26, 7, 27, 9, 12, 10, 11, 28, 29, 30, 31, 32, 33, 34, 35, 36, 37, 38, 39, 40, 41, 42, 43, 44, 45, 46, 47, 48, 49] (by decide +kernel) (by decide +kernel)
set_option maxRecDepth 20000 in
theorem gX1_stateAt_X1_advance : GoodIn wsX1_stateAt (wsV RX1 69 RX1 yX1_advance wsX1_advance) := goodIn_app (goodIn_of _ (by decide +kernel)) ggX1_stateAt_X1_advance
theorem dX1_stateAt_0 : decode cX1_stateAt 0 = .ok (.aload_n 0, 1) := by decide +kernel
theorem dX1_stateAt_1 : decode cX1_stateAt 1 = .ok (.getfield 18, 3) := by decide +kernel
theorem dX1_stateAt_4 : decode cX1_stateAt 4 = .ok (.aload_n 0, 1) := by decide +kernel
theorem dX1_stateAt_5 : decode cX1_stateAt 5 = .ok (.getfield 12, 3) := by decide +kernel
theorem dX1_stateAt_8 : decode cX1_stateAt 8 = .ok (.invokevirtual 65, 3) := by decide +kernel
theorem dX1_stateAt_11 : decode cX1_stateAt 11 = .ok (.aload_n 0, 1) := by decide +kernel
theorem dX1_stateAt_12 : decode cX1_stateAt 12 = .ok (.iconst 0, 1) := by decide +kernel
theorem dX1_stateAt_13 : decode cX1_stateAt 13 = .ok (.putfield 43, 3) := by decide +kernel
theorem dX1_stateAt_16 : decode cX1_stateAt 16 = .ok (.aload_n 0, 1) := by decide +kernel
theorem dX1_stateAt_17 : decode cX1_stateAt 17 = .ok (.iload_n 1, 1) := by decide +kernel
theorem dX1_stateAt_18 : decode cX1_stateAt 18 = .ok (.invokevirtual 69, 3) := by decide +kernel
theorem dX1_stateAt_21 : decode cX1_stateAt 21 = .ok (.aload_n 0, 1) := by decide +kernel
theorem dX1_stateAt_22 : decode cX1_stateAt 22 = .ok (.getfield 18, 3) := by decide +kernel
theorem dX1_stateAt_25 : decode cX1_stateAt 25 = .ok (.areturn, 1) := by decide +kernel
set_option maxRecDepth 20000 in
theorem ggX1_advance_X2_setLine : GoodIn wsX1_advance wsX2_setLine := goodIn_r _ [13, 14, 15, 16, 17, 36, 37, 38, 39] (by decide +kernel) (by decide +kernel)
set_option maxRecDepth 20000 in
theorem gX1_advance_X2_setLine : GoodIn wsX1_advance (wsV RX1 73 RX2 yX2_setLine wsX2_setLine) := goodIn_app (goodIn_of _ (by decide +kernel)) ggX1_advance_X2_setLine
set_option maxRecDepth 20000 in
theorem ggX1_advance_X2_drop : GoodIn wsX1_advance wsX2_drop := goodIn_r _ [21, 14, 15, 22, 23, 24, 12, 25, 36, 37, 38, 39] (by decide +kernel) (by decide +kernel)
set_option maxRecDepth 20000 in
theorem gX1_advance_X2_drop : GoodIn wsX1_advance (wsV RX1 77 RX2 yX2_drop wsX2_drop) := goodIn_app (goodIn_of _ (by decide +kernel)) ggX1_advance_X2_drop
theorem dX1_advance_0 : decode cX1_advance 0 = .ok (.aload_n 0, 1) := by decide +kernel
theorem dX1_advance_1 : decode cX1_advance 1 = .ok (.getfield 43, 3) := by decide +kernel
theorem dX1_advance_4 : decode cX1_advance 4 = .ok (.istore_n 2, 1) := by decide +kernel
theorem dX1_advance_5 : decode cX1_advance 5 = .ok (.iload_n 2, 1) := by decide +kernel
theorem dX1_advance_6 : decode cX1_advance 6 = .ok (.aload_n 0, 1) := by decide +kernel
theorem dX1_advance_7 : decode cX1_advance 7 = .ok (.getfield 39, 3) := by decide +kernel
theorem dX1_advance_10 : decode cX1_advance 10 = .ok (.if_icmp .ge 83, 3) := by decide +kernel
theorem dX1_advance_13 : decode cX1_advance 13 = .ok (.iload_n 2, 1) := by decide +kernel
theorem dX1_advance_14 : decode cX1_advance 14 = .ok (.sipush 200, 3) := by decide +kernel
theorem dX1_advance_17 : decode cX1_advance 17 = .ok (.if_icmp .ge 76, 3) := by decide +kernel
theorem dX1_advance_20 : decode cX1_advance 20 = .ok (.aload_n 0, 1) := by decide +kernel
theorem dX1_advance_21 : decode cX1_advance 21 = .ok (.getfield 21, 3) := by decide +kernel
theorem dX1_advance_24 : decode cX1_advance 24 = .ok (.iload_n 2, 1) := by decide +kernel
theorem dX1_advance_25 : decode cX1_advance 25 = .ok (.iaload, 1) := by decide +kernel
theorem dX1_advance_26 : decode cX1_advance 26 = .ok (.iload_n 1, 1) := by decide +kernel
theorem dX1_advance_27 : decode cX1_advance 27 = .ok (.if_icmp .gt 66, 3) := by decide +kernel
theorem dX1_advance_30 : decode cX1_advance 30 = .ok (.aload_n 0, 1) := by decide +kernel
theorem dX1_advance_31 : decode cX1_advance 31 = .ok (.getfield 28, 3) := by decide +kernel
theorem dX1_advance_34 : decode cX1_advance 34 = .ok (.iload_n 2, 1) := by decide +kernel
theorem dX1_advance_35 : decode cX1_advance 35 = .ok (.baload, 1) := by decide +kernel
theorem dX1_advance_36 : decode cX1_advance 36 = .ok (.ifCond .eq 31, 3) := by decide +kernel
theorem dX1_advance_39 : decode cX1_advance 39 = .ok (.aload_n 0, 1) := by decide +kernel
theorem dX1_advance_40 : decode cX1_advance 40 = .ok (.getfield 18, 3) := by decide +kernel
theorem dX1_advance_43 : decode cX1_advance 43 = .ok (.aload_n 0, 1) := by decide +kernel
theorem dX1_advance_44 : decode cX1_advance 44 = .ok (.getfield 25, 3) := by decide +kernel
theorem dX1_advance_47 : decode cX1_advance 47 = .ok (.iload_n 2, 1) := by decide +kernel
theorem dX1_advance_48 : decode cX1_advance 48 = .ok (.iaload, 1) := by decide +kernel
theorem dX1_advance_49 : decode cX1_advance 49 = .ok (.aload_n 0, 1) := by decide +kernel
theorem dX1_advance_50 : decode cX1_advance 50 = .ok (.getfield 32, 3) := by decide +kernel
theorem dX1_advance_53 : decode cX1_advance 53 = .ok (.iload_n 2, 1) := by decide +kernel
theorem dX1_advance_54 : decode cX1_advance 54 = .ok (.laload, 1) := by decide +kernel
theorem dX1_advance_55 : decode cX1_advance 55 = .ok (.aload_n 0, 1) := by decide +kernel
theorem dX1_advance_56 : decode cX1_advance 56 = .ok (.getfield 36, 3) := by decide +kernel
theorem dX1_advance_59 : decode cX1_advance 59 = .ok (.iload_n 2, 1) := by decide +kernel
theorem dX1_advance_60 : decode cX1_advance 60 = .ok (.iaload, 1) := by decide +kernel
theorem dX1_advance_61 : decode cX1_advance 61 = .ok (.invokevirtual 73, 3) := by decide +kernel
theorem dX1_advance_64 : decode cX1_advance 64 = .ok (.goto 16, 3) := by decide +kernel
theorem dX1_advance_67 : decode cX1_advance 67 = .ok (.aload_n 0, 1) := by decide +kernel
theorem dX1_advance_68 : decode cX1_advance 68 = .ok (.getfield 18, 3) := by decide +kernel
theorem dX1_advance_71 : decode cX1_advance 71 = .ok (.aload_n 0, 1) := by decide +kernel
theorem dX1_advance_72 : decode cX1_advance 72 = .ok (.getfield 25, 3) := by decide +kernel
theorem dX1_advance_75 : decode cX1_advance 75 = .ok (.iload_n 2, 1) := by decide +kernel
theorem dX1_advance_76 : decode cX1_advance 76 = .ok (.iaload, 1) := by decide +kernel
theorem dX1_advance_77 : decode cX1_advance 77 = .ok (.invokevirtual 77, 3) := by decide +kernel
theorem dX1_advance_80 : decode cX1_advance 80 = .ok (.aload_n 0, 1) := by decide +kernel
theorem dX1_advance_81 : decode cX1_advance 81 = .ok (.iload_n 2, 1) := by decide +kernel
theorem dX1_advance_82 : decode cX1_advance 82 = .ok (.iconst 1, 1) := by decide +kernel
theorem dX1_advance_83 : decode cX1_advance 83 = .ok (.iadd, 1) := by decide +kernel
theorem dX1_advance_84 : decode cX1_advance 84 = .ok (.putfield 43, 3) := by decide +kernel
theorem dX1_advance_87 : decode cX1_advance 87 = .ok (.iinc 2 1, 3) := by decide +kernel
theorem dX1_advance_90 : decode cX1_advance 90 = .ok (.goto (-85), 3) := by decide +kernel
theorem dX1_advance_93 : decode cX1_advance 93 = .ok (.return_, 1) := by decide +kernel
theorem dX1_nextOperation_0 : decode cX1_nextOperation 0 = .ok (.aload_n 0, 1) := by decide +kernel
theorem dX1_nextOperation_1 : decode cX1_nextOperation 1 = .ok (.getfield 43, 3) := by decide +kernel
theorem dX1_nextOperation_4 : decode cX1_nextOperation 4 = .ok (.aload_n 0, 1) := by decide +kernel
theorem dX1_nextOperation_5 : decode cX1_nextOperation 5 = .ok (.getfield 39, 3) := by decide +kernel
theorem dX1_nextOperation_8 : decode cX1_nextOperation 8 = .ok (.if_icmp .ge 25, 3) := by decide +kernel
theorem dX1_nextOperation_11 : decode cX1_nextOperation 11 = .ok (.aload_n 0, 1) := by decide +kernel
theorem dX1_nextOperation_12 : decode cX1_nextOperation 12 = .ok (.getfield 43, 3) := by decide +kernel
theorem dX1_nextOperation_15 : decode cX1_nextOperation 15 = .ok (.sipush 200, 3) := by decide +kernel
theorem dX1_nextOperation_18 : decode cX1_nextOperation 18 = .ok (.if_icmp .ge 15, 3) := by decide +kernel
theorem dX1_nextOperation_21 : decode cX1_nextOperation 21 = .ok (.aload_n 0, 1) := by decide +kernel
theorem dX1_nextOperation_22 : decode cX1_nextOperation 22 = .ok (.getfield 21, 3) := by decide +kernel
theorem dX1_nextOperation_25 : decode cX1_nextOperation 25 = .ok (.aload_n 0, 1) := by decide +kernel
theorem dX1_nextOperation_26 : decode cX1_nextOperation 26 = .ok (.getfield 43, 3) := by decide +kernel
theorem dX1_nextOperation_29 : decode cX1_nextOperation 29 = .ok (.iaload, 1) := by decide +kernel
theorem dX1_nextOperation_30 : decode cX1_nextOperation 30 = .ok (.goto 5, 3) := by decide +kernel
theorem dX1_nextOperation_33 : decode cX1_nextOperation 33 = .ok (.ldc 80, 2) := by decide +kernel
theorem dX1_nextOperation_35 : decode cX1_nextOperation 35 = .ok (.ireturn, 1) := by decide +kernel
theorem dX2_init_0 : decode cX2_init 0 = .ok (.aload_n 0, 1) := by decide +kernel
theorem dX2_init_1 : decode cX2_init 1 = .ok (.invokespecial 3, 3) := by decide +kernel
theorem dX2_init_4 : decode cX2_init 4 = .ok (.aload_n 0, 1) := by decide +kernel
theorem dX2_init_5 : decode cX2_init 5 = .ok (.bipush 24, 2) := by decide +kernel
theorem dX2_init_7 : decode cX2_init 7 = .ok (.newarray .boolean, 2) := by decide +kernel
theorem dX2_init_9 : decode cX2_init 9 = .ok (.putfield 9, 3) := by decide +kernel
theorem dX2_init_12 : decode cX2_init 12 = .ok (.aload_n 0, 1) := by decide +kernel
theorem dX2_init_13 : decode cX2_init 13 = .ok (.bipush 24, 2) := by decide +kernel
theorem dX2_init_15 : decode cX2_init 15 = .ok (.newarray .long, 2) := by decide +kernel
theorem dX2_init_17 : decode cX2_init 17 = .ok (.putfield 15, 3) := by decide +kernel
theorem dX2_init_20 : decode cX2_init 20 = .ok (.aload_n 0, 1) := by decide +kernel
theorem dX2_init_21 : decode cX2_init 21 = .ok (.bipush 24, 2) := by decide +kernel
theorem dX2_init_23 : decode cX2_init 23 = .ok (.newarray .int, 2) := by decide +kernel
theorem dX2_init_25 : decode cX2_init 25 = .ok (.putfield 19, 3) := by decide +kernel
theorem dX2_init_28 : decode cX2_init 28 = .ok (.aload_n 0, 1) := by decide +kernel
theorem dX2_init_29 : decode cX2_init 29 = .ok (.iconst 0, 1) := by decide +kernel
theorem dX2_init_30 : decode cX2_init 30 = .ok (.putfield 23, 3) := by decide +kernel
theorem dX2_init_33 : decode cX2_init 33 = .ok (.return_, 1) := by decide +kernel
theorem dX2_number_0 : decode cX2_number 0 = .ok (.aload_n 0, 1) := by decide +kernel
theorem dX2_number_1 : decode cX2_number 1 = .ok (.getfield 23, 3) := by decide +kernel
theorem dX2_number_4 : decode cX2_number 4 = .ok (.ireturn, 1) := by decide +kernel
theorem dX2_has_0 : decode cX2_has 0 = .ok (.iload_n 1, 1) := by decide +kernel
theorem dX2_has_1 : decode cX2_has 1 = .ok (.ifCond .lt 22, 3) := by decide +kernel
theorem dX2_has_4 : decode cX2_has 4 = .ok (.iload_n 1, 1) := by decide +kernel
theorem dX2_has_5 : decode cX2_has 5 = .ok (.bipush 24, 2) := by decide +kernel
theorem dX2_has_7 : decode cX2_has 7 = .ok (.if_icmp .ge 16, 3) := by decide +kernel
theorem dX2_has_10 : decode cX2_has 10 = .ok (.aload_n 0, 1) := by decide +kernel
theorem dX2_has_11 : decode cX2_has 11 = .ok (.getfield 9, 3) := by decide +kernel
theorem dX2_has_14 : decode cX2_has 14 = .ok (.iload_n 1, 1) := by decide +kernel
theorem dX2_has_15 : decode cX2_has 15 = .ok (.baload, 1) := by decide +kernel
theorem dX2_has_16 : decode cX2_has 16 = .ok (.ifCond .eq 7, 3) := by decide +kernel
theorem dX2_has_19 : decode cX2_has 19 = .ok (.iconst 1, 1) := by decide +kernel
theorem dX2_has_20 : decode cX2_has 20 = .ok (.goto 4, 3) := by decide +kernel
theorem dX2_has_23 : decode cX2_has 23 = .ok (.iconst 0, 1) := by decide +kernel
theorem dX2_has_24 : decode cX2_has 24 = .ok (.ireturn, 1) := by decide +kernel
theorem dX2_lowestFree_0 : decode cX2_lowestFree 0 = .ok (.iconst 0, 1) := by decide +kernel
theorem dX2_lowestFree_1 : decode cX2_lowestFree 1 = .ok (.istore_n 1, 1) := by decide +kernel
theorem dX2_lowestFree_2 : decode cX2_lowestFree 2 = .ok (.iload_n 1, 1) := by decide +kernel
theorem dX2_lowestFree_3 : decode cX2_lowestFree 3 = .ok (.bipush 24, 2) := by decide +kernel
theorem dX2_lowestFree_5 : decode cX2_lowestFree 5 = .ok (.if_icmp .ge 20, 3) := by decide +kernel
theorem dX2_lowestFree_8 : decode cX2_lowestFree 8 = .ok (.aload_n 0, 1) := by decide +kernel
theorem dX2_lowestFree_9 : decode cX2_lowestFree 9 = .ok (.getfield 9, 3) := by decide +kernel
theorem dX2_lowestFree_12 : decode cX2_lowestFree 12 = .ok (.iload_n 1, 1) := by decide +kernel
theorem dX2_lowestFree_13 : decode cX2_lowestFree 13 = .ok (.baload, 1) := by decide +kernel
theorem dX2_lowestFree_14 : decode cX2_lowestFree 14 = .ok (.ifCond .ne 5, 3) := by decide +kernel
theorem dX2_lowestFree_17 : decode cX2_lowestFree 17 = .ok (.iload_n 1, 1) := by decide +kernel
theorem dX2_lowestFree_18 : decode cX2_lowestFree 18 = .ok (.ireturn, 1) := by decide +kernel
theorem dX2_lowestFree_19 : decode cX2_lowestFree 19 = .ok (.iinc 1 1, 3) := by decide +kernel
theorem dX2_lowestFree_22 : decode cX2_lowestFree 22 = .ok (.goto (-20), 3) := by decide +kernel
theorem dX2_lowestFree_25 : decode cX2_lowestFree 25 = .ok (.iconst (-1), 1) := by decide +kernel
theorem dX2_lowestFree_26 : decode cX2_lowestFree 26 = .ok (.ireturn, 1) := by decide +kernel
set_option maxRecDepth 20000 in
theorem ggX2_heightOf_X2_has : GoodIn wsX2_heightOf wsX2_has := goodIn_r _ [6, 7, 8, 9, 10, 11] (by decide +kernel) (by decide +kernel)
set_option maxRecDepth 20000 in
theorem gX2_heightOf_X2_has : GoodIn wsX2_heightOf (wsV RX2 27 RX2 yX2_has wsX2_has) := goodIn_app (goodIn_of _ (by decide +kernel)) ggX2_heightOf_X2_has
theorem dX2_heightOf_0 : decode cX2_heightOf 0 = .ok (.aload_n 0, 1) := by decide +kernel
theorem dX2_heightOf_1 : decode cX2_heightOf 1 = .ok (.iload_n 1, 1) := by decide +kernel
theorem dX2_heightOf_2 : decode cX2_heightOf 2 = .ok (.invokevirtual 27, 3) := by decide +kernel
theorem dX2_heightOf_5 : decode cX2_heightOf 5 = .ok (.ifCond .eq 12, 3) := by decide +kernel
theorem dX2_heightOf_8 : decode cX2_heightOf 8 = .ok (.aload_n 0, 1) := by decide +kernel
theorem dX2_heightOf_9 : decode cX2_heightOf 9 = .ok (.getfield 15, 3) := by decide +kernel
theorem dX2_heightOf_12 : decode cX2_heightOf 12 = .ok (.iload_n 1, 1) := by decide +kernel
theorem dX2_heightOf_13 : decode cX2_heightOf 13 = .ok (.laload, 1) := by decide +kernel
theorem dX2_heightOf_14 : decode cX2_heightOf 14 = .ok (.goto 4, 3) := by decide +kernel
theorem dX2_heightOf_17 : decode cX2_heightOf 17 = .ok (.lconst 0, 1) := by decide +kernel
theorem dX2_heightOf_18 : decode cX2_heightOf 18 = .ok (.lreturn, 1) := by decide +kernel
set_option maxRecDepth 20000 in
theorem ggX2_velocityOf_X2_has : GoodIn wsX2_velocityOf wsX2_has := goodIn_r _ [6, 7, 8, 9, 10, 11] (by decide +kernel) (by decide +kernel)
set_option maxRecDepth 20000 in
theorem gX2_velocityOf_X2_has : GoodIn wsX2_velocityOf (wsV RX2 27 RX2 yX2_has wsX2_has) := goodIn_app (goodIn_of _ (by decide +kernel)) ggX2_velocityOf_X2_has
theorem dX2_velocityOf_0 : decode cX2_velocityOf 0 = .ok (.aload_n 0, 1) := by decide +kernel
theorem dX2_velocityOf_1 : decode cX2_velocityOf 1 = .ok (.iload_n 1, 1) := by decide +kernel
theorem dX2_velocityOf_2 : decode cX2_velocityOf 2 = .ok (.invokevirtual 27, 3) := by decide +kernel
theorem dX2_velocityOf_5 : decode cX2_velocityOf 5 = .ok (.ifCond .eq 12, 3) := by decide +kernel
theorem dX2_velocityOf_8 : decode cX2_velocityOf 8 = .ok (.aload_n 0, 1) := by decide +kernel
theorem dX2_velocityOf_9 : decode cX2_velocityOf 9 = .ok (.getfield 19, 3) := by decide +kernel
theorem dX2_velocityOf_12 : decode cX2_velocityOf 12 = .ok (.iload_n 1, 1) := by decide +kernel
theorem dX2_velocityOf_13 : decode cX2_velocityOf 13 = .ok (.iaload, 1) := by decide +kernel
theorem dX2_velocityOf_14 : decode cX2_velocityOf 14 = .ok (.goto 4, 3) := by decide +kernel
theorem dX2_velocityOf_17 : decode cX2_velocityOf 17 = .ok (.iconst 0, 1) := by decide +kernel
theorem dX2_velocityOf_18 : decode cX2_velocityOf 18 = .ok (.ireturn, 1) := by decide +kernel
set_option maxRecDepth 20000 in
theorem ggX2_valueOf_X2_has : GoodIn wsX2_valueOf wsX2_has := goodIn_r _ [7, 8, 9, 10, 11, 12] (by decide +kernel) (by decide +kernel)
set_option maxRecDepth 20000 in
theorem gX2_valueOf_X2_has : GoodIn wsX2_valueOf (wsV RX2 27 RX2 yX2_has wsX2_has) := goodIn_app (goodIn_of _ (by decide +kernel)) ggX2_valueOf_X2_has
theorem dX2_valueOf_0 : decode cX2_valueOf 0 = .ok (.aload_n 0, 1) := by decide +kernel
theorem dX2_valueOf_1 : decode cX2_valueOf 1 = .ok (.iload_n 1, 1) := by decide +kernel
theorem dX2_valueOf_2 : decode cX2_valueOf 2 = .ok (.invokevirtual 27, 3) := by decide +kernel
theorem dX2_valueOf_5 : decode cX2_valueOf 5 = .ok (.ifCond .eq 23, 3) := by decide +kernel
theorem dX2_valueOf_8 : decode cX2_valueOf 8 = .ok (.aload_n 0, 1) := by decide +kernel
theorem dX2_valueOf_9 : decode cX2_valueOf 9 = .ok (.getfield 15, 3) := by decide +kernel
theorem dX2_valueOf_12 : decode cX2_valueOf 12 = .ok (.iload_n 1, 1) := by decide +kernel
theorem dX2_valueOf_13 : decode cX2_valueOf 13 = .ok (.laload, 1) := by decide +kernel
theorem dX2_valueOf_14 : decode cX2_valueOf 14 = .ok (.aload_n 0, 1) := by decide +kernel
theorem dX2_valueOf_15 : decode cX2_valueOf 15 = .ok (.getfield 19, 3) := by decide +kernel
theorem dX2_valueOf_18 : decode cX2_valueOf 18 = .ok (.iload_n 1, 1) := by decide +kernel
theorem dX2_valueOf_19 : decode cX2_valueOf 19 = .ok (.iaload, 1) := by decide +kernel
theorem dX2_valueOf_20 : decode cX2_valueOf 20 = .ok (.i2l, 1) := by decide +kernel
theorem dX2_valueOf_21 : decode cX2_valueOf 21 = .ok (.iload_n 2, 1) := by decide +kernel
theorem dX2_valueOf_22 : decode cX2_valueOf 22 = .ok (.i2l, 1) := by decide +kernel
theorem dX2_valueOf_23 : decode cX2_valueOf 23 = .ok (.lmul, 1) := by decide +kernel
theorem dX2_valueOf_24 : decode cX2_valueOf 24 = .ok (.ladd, 1) := by decide +kernel
theorem dX2_valueOf_25 : decode cX2_valueOf 25 = .ok (.goto 4, 3) := by decide +kernel
theorem dX2_valueOf_28 : decode cX2_valueOf 28 = .ok (.lconst 0, 1) := by decide +kernel
theorem dX2_valueOf_29 : decode cX2_valueOf 29 = .ok (.lreturn, 1) := by decide +kernel
set_option maxRecDepth 20000 in
theorem ggX2_start_X2_setLine : GoodIn wsX2_start wsX2_setLine := goodIn_r _ [5, 6, 7, 8, 9, 10, 11, 12, 13] (by decide +kernel) (by decide +kernel)
set_option maxRecDepth 20000 in
theorem gX2_start_X2_setLine : GoodIn wsX2_start (wsV RX2 31 RX2 yX2_setLine wsX2_setLine) := goodIn_app (goodIn_of _ (by decide +kernel)) ggX2_start_X2_setLine
theorem dX2_start_0 : decode cX2_start 0 = .ok (.aload_n 0, 1) := by decide +kernel
theorem dX2_start_1 : decode cX2_start 1 = .ok (.iload_n 1, 1) := by decide +kernel
theorem dX2_start_2 : decode cX2_start 2 = .ok (.lload_n 2, 1) := by decide +kernel
theorem dX2_start_3 : decode cX2_start 3 = .ok (.iload 4, 2) := by decide +kernel
theorem dX2_start_5 : decode cX2_start 5 = .ok (.i2l, 1) := by decide +kernel
theorem dX2_start_6 : decode cX2_start 6 = .ok (.iload 5, 2) := by decide +kernel
theorem dX2_start_8 : decode cX2_start 8 = .ok (.i2l, 1) := by decide +kernel
theorem dX2_start_9 : decode cX2_start 9 = .ok (.lmul, 1) := by decide +kernel
theorem dX2_start_10 : decode cX2_start 10 = .ok (.lsub, 1) := by decide +kernel
theorem dX2_start_11 : decode cX2_start 11 = .ok (.iload 4, 2) := by decide +kernel
theorem dX2_start_13 : decode cX2_start 13 = .ok (.invokevirtual 31, 3) := by decide +kernel
theorem dX2_start_16 : decode cX2_start 16 = .ok (.return_, 1) := by decide +kernel
theorem dX2_setLine_0 : decode cX2_setLine 0 = .ok (.iload_n 1, 1) := by decide +kernel
theorem dX2_setLine_1 : decode cX2_setLine 1 = .ok (.ifCond .lt 9, 3) := by decide +kernel
theorem dX2_setLine_4 : decode cX2_setLine 4 = .ok (.iload_n 1, 1) := by decide +kernel
theorem dX2_setLine_5 : decode cX2_setLine 5 = .ok (.bipush 24, 2) := by decide +kernel
theorem dX2_setLine_7 : decode cX2_setLine 7 = .ok (.if_icmp .lt 4, 3) := by decide +kernel
theorem dX2_setLine_10 : decode cX2_setLine 10 = .ok (.return_, 1) := by decide +kernel
theorem dX2_setLine_11 : decode cX2_setLine 11 = .ok (.aload_n 0, 1) := by decide +kernel
theorem dX2_setLine_12 : decode cX2_setLine 12 = .ok (.getfield 9, 3) := by decide +kernel
theorem dX2_setLine_15 : decode cX2_setLine 15 = .ok (.iload_n 1, 1) := by decide +kernel
theorem dX2_setLine_16 : decode cX2_setLine 16 = .ok (.baload, 1) := by decide +kernel
theorem dX2_setLine_17 : decode cX2_setLine 17 = .ok (.ifCond .ne 20, 3) := by decide +kernel
theorem dX2_setLine_20 : decode cX2_setLine 20 = .ok (.aload_n 0, 1) := by decide +kernel
theorem dX2_setLine_21 : decode cX2_setLine 21 = .ok (.getfield 9, 3) := by decide +kernel
theorem dX2_setLine_24 : decode cX2_setLine 24 = .ok (.iload_n 1, 1) := by decide +kernel
theorem dX2_setLine_25 : decode cX2_setLine 25 = .ok (.iconst 1, 1) := by decide +kernel
theorem dX2_setLine_26 : decode cX2_setLine 26 = .ok (.bastore, 1) := by decide +kernel
theorem dX2_setLine_27 : decode cX2_setLine 27 = .ok (.aload_n 0, 1) := by decide +kernel
theorem dX2_setLine_28 : decode cX2_setLine 28 = .ok (.dup, 1) := by decide +kernel
theorem dX2_setLine_29 : decode cX2_setLine 29 = .ok (.getfield 23, 3) := by decide +kernel
theorem dX2_setLine_32 : decode cX2_setLine 32 = .ok (.iconst 1, 1) := by decide +kernel
theorem dX2_setLine_33 : decode cX2_setLine 33 = .ok (.iadd, 1) := by decide +kernel
theorem dX2_setLine_34 : decode cX2_setLine 34 = .ok (.putfield 23, 3) := by decide +kernel
theorem dX2_setLine_37 : decode cX2_setLine 37 = .ok (.aload_n 0, 1) := by decide +kernel
theorem dX2_setLine_38 : decode cX2_setLine 38 = .ok (.getfield 15, 3) := by decide +kernel
theorem dX2_setLine_41 : decode cX2_setLine 41 = .ok (.iload_n 1, 1) := by decide +kernel
theorem dX2_setLine_42 : decode cX2_setLine 42 = .ok (.lload_n 2, 1) := by decide +kernel
theorem dX2_setLine_43 : decode cX2_setLine 43 = .ok (.lastore, 1) := by decide +kernel
theorem dX2_setLine_44 : decode cX2_setLine 44 = .ok (.aload_n 0, 1) := by decide +kernel
theorem dX2_setLine_45 : decode cX2_setLine 45 = .ok (.getfield 19, 3) := by decide +kernel
theorem dX2_setLine_48 : decode cX2_setLine 48 = .ok (.iload_n 1, 1) := by decide +kernel
theorem dX2_setLine_49 : decode cX2_setLine 49 = .ok (.iload 4, 2) := by decide +kernel
theorem dX2_setLine_51 : decode cX2_setLine 51 = .ok (.iastore, 1) := by decide +kernel
theorem dX2_setLine_52 : decode cX2_setLine 52 = .ok (.return_, 1) := by decide +kernel
set_option maxRecDepth 20000 in
theorem ggX2_drop_X2_has : GoodIn wsX2_drop wsX2_has := goodIn_r _ [7, 1, 8, 9, 10, 11] (by decide +kernel) (by decide +kernel)
set_option maxRecDepth 20000 in
theorem gX2_drop_X2_has : GoodIn wsX2_drop (wsV RX2 27 RX2 yX2_has wsX2_has) := goodIn_app (goodIn_of _ (by decide +kernel)) ggX2_drop_X2_has
theorem dX2_drop_0 : decode cX2_drop 0 = .ok (.aload_n 0, 1) := by decide +kernel
theorem dX2_drop_1 : decode cX2_drop 1 = .ok (.iload_n 1, 1) := by decide +kernel
theorem dX2_drop_2 : decode cX2_drop 2 = .ok (.invokevirtual 27, 3) := by decide +kernel
theorem dX2_drop_5 : decode cX2_drop 5 = .ok (.ifCond .eq 20, 3) := by decide +kernel
theorem dX2_drop_8 : decode cX2_drop 8 = .ok (.aload_n 0, 1) := by decide +kernel
theorem dX2_drop_9 : decode cX2_drop 9 = .ok (.getfield 9, 3) := by decide +kernel
theorem dX2_drop_12 : decode cX2_drop 12 = .ok (.iload_n 1, 1) := by decide +kernel
theorem dX2_drop_13 : decode cX2_drop 13 = .ok (.iconst 0, 1) := by decide +kernel
theorem dX2_drop_14 : decode cX2_drop 14 = .ok (.bastore, 1) := by decide +kernel
theorem dX2_drop_15 : decode cX2_drop 15 = .ok (.aload_n 0, 1) := by decide +kernel
theorem dX2_drop_16 : decode cX2_drop 16 = .ok (.dup, 1) := by decide +kernel
theorem dX2_drop_17 : decode cX2_drop 17 = .ok (.getfield 23, 3) := by decide +kernel
theorem dX2_drop_20 : decode cX2_drop 20 = .ok (.iconst 1, 1) := by decide +kernel
theorem dX2_drop_21 : decode cX2_drop 21 = .ok (.isub, 1) := by decide +kernel
theorem dX2_drop_22 : decode cX2_drop 22 = .ok (.putfield 23, 3) := by decide +kernel
theorem dX2_drop_25 : decode cX2_drop 25 = .ok (.return_, 1) := by decide +kernel
theorem dX2_copyFrom_0 : decode cX2_copyFrom 0 = .ok (.iconst 0, 1) := by decide +kernel
theorem dX2_copyFrom_1 : decode cX2_copyFrom 1 = .ok (.istore_n 2, 1) := by decide +kernel
theorem dX2_copyFrom_2 : decode cX2_copyFrom 2 = .ok (.iload_n 2, 1) := by decide +kernel
theorem dX2_copyFrom_3 : decode cX2_copyFrom 3 = .ok (.bipush 24, 2) := by decide +kernel
theorem dX2_copyFrom_5 : decode cX2_copyFrom 5 = .ok (.if_icmp .ge 45, 3) := by decide +kernel
theorem dX2_copyFrom_8 : decode cX2_copyFrom 8 = .ok (.aload_n 0, 1) := by decide +kernel
theorem dX2_copyFrom_9 : decode cX2_copyFrom 9 = .ok (.getfield 9, 3) := by decide +kernel
theorem dX2_copyFrom_12 : decode cX2_copyFrom 12 = .ok (.iload_n 2, 1) := by decide +kernel
theorem dX2_copyFrom_13 : decode cX2_copyFrom 13 = .ok (.aload_n 1, 1) := by decide +kernel
theorem dX2_copyFrom_14 : decode cX2_copyFrom 14 = .ok (.getfield 9, 3) := by decide +kernel
theorem dX2_copyFrom_17 : decode cX2_copyFrom 17 = .ok (.iload_n 2, 1) := by decide +kernel
theorem dX2_copyFrom_18 : decode cX2_copyFrom 18 = .ok (.baload, 1) := by decide +kernel
theorem dX2_copyFrom_19 : decode cX2_copyFrom 19 = .ok (.bastore, 1) := by decide +kernel
theorem dX2_copyFrom_20 : decode cX2_copyFrom 20 = .ok (.aload_n 0, 1) := by decide +kernel
theorem dX2_copyFrom_21 : decode cX2_copyFrom 21 = .ok (.getfield 15, 3) := by decide +kernel
theorem dX2_copyFrom_24 : decode cX2_copyFrom 24 = .ok (.iload_n 2, 1) := by decide +kernel
theorem dX2_copyFrom_25 : decode cX2_copyFrom 25 = .ok (.aload_n 1, 1) := by decide +kernel
theorem dX2_copyFrom_26 : decode cX2_copyFrom 26 = .ok (.getfield 15, 3) := by decide +kernel
theorem dX2_copyFrom_29 : decode cX2_copyFrom 29 = .ok (.iload_n 2, 1) := by decide +kernel
theorem dX2_copyFrom_30 : decode cX2_copyFrom 30 = .ok (.laload, 1) := by decide +kernel
theorem dX2_copyFrom_31 : decode cX2_copyFrom 31 = .ok (.lastore, 1) := by decide +kernel
theorem dX2_copyFrom_32 : decode cX2_copyFrom 32 = .ok (.aload_n 0, 1) := by decide +kernel
theorem dX2_copyFrom_33 : decode cX2_copyFrom 33 = .ok (.getfield 19, 3) := by decide +kernel
theorem dX2_copyFrom_36 : decode cX2_copyFrom 36 = .ok (.iload_n 2, 1) := by decide +kernel
theorem dX2_copyFrom_37 : decode cX2_copyFrom 37 = .ok (.aload_n 1, 1) := by decide +kernel
theorem dX2_copyFrom_38 : decode cX2_copyFrom 38 = .ok (.getfield 19, 3) := by decide +kernel
theorem dX2_copyFrom_41 : decode cX2_copyFrom 41 = .ok (.iload_n 2, 1) := by decide +kernel
theorem dX2_copyFrom_42 : decode cX2_copyFrom 42 = .ok (.iaload, 1) := by decide +kernel
theorem dX2_copyFrom_43 : decode cX2_copyFrom 43 = .ok (.iastore, 1) := by decide +kernel
theorem dX2_copyFrom_44 : decode cX2_copyFrom 44 = .ok (.iinc 2 1, 3) := by decide +kernel
theorem dX2_copyFrom_47 : decode cX2_copyFrom 47 = .ok (.goto (-45), 3) := by decide +kernel
theorem dX2_copyFrom_50 : decode cX2_copyFrom 50 = .ok (.aload_n 0, 1) := by decide +kernel
theorem dX2_copyFrom_51 : decode cX2_copyFrom 51 = .ok (.aload_n 1, 1) := by decide +kernel
theorem dX2_copyFrom_52 : decode cX2_copyFrom 52 = .ok (.getfield 23, 3) := by decide +kernel
theorem dX2_copyFrom_55 : decode cX2_copyFrom 55 = .ok (.putfield 23, 3) := by decide +kernel
theorem dX2_copyFrom_58 : decode cX2_copyFrom 58 = .ok (.return_, 1) := by decide +kernel
set_option maxRecDepth 20000 in
theorem ggX2_isBefore_X2_valueOf : GoodIn wsX2_isBefore wsX2_valueOf := goodIn_r _ [5, 6, 7, 8, 9, 10, 4, 11, 12, 13, 14, 15, 16] (by decide +kernel) (by decide +kernel)
set_option maxRecDepth 20000 in
theorem gX2_isBefore_X2_valueOf : GoodIn wsX2_isBefore (wsV RX2 35 RX2 yX2_valueOf wsX2_valueOf) := goodIn_app (goodIn_of _ (by decide +kernel)) ggX2_isBefore_X2_valueOf
theorem dX2_isBefore_0 : decode cX2_isBefore 0 = .ok (.aload_n 0, 1) := by decide +kernel
theorem dX2_isBefore_1 : decode cX2_isBefore 1 = .ok (.iload_n 1, 1) := by decide +kernel
theorem dX2_isBefore_2 : decode cX2_isBefore 2 = .ok (.iload_n 3, 1) := by decide +kernel
theorem dX2_isBefore_3 : decode cX2_isBefore 3 = .ok (.invokevirtual 35, 3) := by decide +kernel
theorem dX2_isBefore_6 : decode cX2_isBefore 6 = .ok (.lstore 4, 2) := by decide +kernel
theorem dX2_isBefore_8 : decode cX2_isBefore 8 = .ok (.aload_n 0, 1) := by decide +kernel
theorem dX2_isBefore_9 : decode cX2_isBefore 9 = .ok (.iload_n 2, 1) := by decide +kernel
theorem dX2_isBefore_10 : decode cX2_isBefore 10 = .ok (.iload_n 3, 1) := by decide +kernel
theorem dX2_isBefore_11 : decode cX2_isBefore 11 = .ok (.invokevirtual 35, 3) := by decide +kernel
theorem dX2_isBefore_14 : decode cX2_isBefore 14 = .ok (.lstore 6, 2) := by decide +kernel
theorem dX2_isBefore_16 : decode cX2_isBefore 16 = .ok (.lload 4, 2) := by decide +kernel
theorem dX2_isBefore_18 : decode cX2_isBefore 18 = .ok (.lload 6, 2) := by decide +kernel
theorem dX2_isBefore_20 : decode cX2_isBefore 20 = .ok (.lcmp, 1) := by decide +kernel
theorem dX2_isBefore_21 : decode cX2_isBefore 21 = .ok (.ifCond .lt 16, 3) := by decide +kernel
theorem dX2_isBefore_24 : decode cX2_isBefore 24 = .ok (.lload 4, 2) := by decide +kernel
theorem dX2_isBefore_26 : decode cX2_isBefore 26 = .ok (.lload 6, 2) := by decide +kernel
theorem dX2_isBefore_28 : decode cX2_isBefore 28 = .ok (.lcmp, 1) := by decide +kernel
theorem dX2_isBefore_29 : decode cX2_isBefore 29 = .ok (.ifCond .ne 12, 3) := by decide +kernel
theorem dX2_isBefore_32 : decode cX2_isBefore 32 = .ok (.iload_n 1, 1) := by decide +kernel
theorem dX2_isBefore_33 : decode cX2_isBefore 33 = .ok (.iload_n 2, 1) := by decide +kernel
theorem dX2_isBefore_34 : decode cX2_isBefore 34 = .ok (.if_icmp .ge 7, 3) := by decide +kernel
theorem dX2_isBefore_37 : decode cX2_isBefore 37 = .ok (.iconst 1, 1) := by decide +kernel
theorem dX2_isBefore_38 : decode cX2_isBefore 38 = .ok (.goto 4, 3) := by decide +kernel
theorem dX2_isBefore_41 : decode cX2_isBefore 41 = .ok (.iconst 0, 1) := by decide +kernel
theorem dX2_isBefore_42 : decode cX2_isBefore 42 = .ok (.ireturn, 1) := by decide +kernel
set_option maxRecDepth 20000 in
theorem ggX2_endOfOrder_X2_isBefore : GoodIn wsX2_endOfOrder wsX2_isBefore := goodIn_r _ [7, 8, 9, 10, 6, 11, 12, 13, 14, 15, 16, 17, 18, 23, 24, 25, 26] (by decide +kernel) (by decide +kernel)
set_option maxRecDepth 20000 in
theorem gX2_endOfOrder_X2_isBefore : GoodIn wsX2_endOfOrder (wsV RX2 39 RX2 yX2_isBefore wsX2_isBefore) := goodIn_app (goodIn_of _ (by decide +kernel)) ggX2_endOfOrder_X2_isBefore
set_option maxRecDepth 20000 in
theorem ggX2_endOfOrder_X2_velocityOf : GoodIn wsX2_endOfOrder wsX2_velocityOf := goodIn_r _ [22, 13, 14, 15, 16, 6, 17, 18, 23, 24, 25, 26] (by decide +kernel) (by decide +kernel)
set_option maxRecDepth 20000 in
theorem gX2_endOfOrder_X2_velocityOf : GoodIn wsX2_endOfOrder (wsV RX2 43 RX2 yX2_velocityOf wsX2_velocityOf) := goodIn_app (goodIn_of _ (by decide +kernel)) ggX2_endOfOrder_X2_velocityOf
set_option maxRecDepth 20000 in
theorem ggX2_endOfOrder_X2_valueOf : GoodIn wsX2_endOfOrder wsX2_valueOf := goodIn_r _ [11, 12, 13, 14, 15, 16, 6, 17, 18, 23, 24, 25, 26] (by decide +kernel) (by decide +kernel)
set_option maxRecDepth 20000 in
theorem gX2_endOfOrder_X2_valueOf : GoodIn wsX2_endOfOrder (wsV RX2 35 RX2 yX2_valueOf wsX2_valueOf) := goodIn_app (goodIn_of _ (by decide +kernel)) ggX2_endOfOrder_X2_valueOf
theorem dX2_endOfOrder_0 : decode cX2_endOfOrder 0 = .ok (.aload_n 0, 1) := by decide +kernel
theorem dX2_endOfOrder_1 : decode cX2_endOfOrder 1 = .ok (.iload_n 1, 1) := by decide +kernel
theorem dX2_endOfOrder_2 : decode cX2_endOfOrder 2 = .ok (.iload_n 2, 1) := by decide +kernel
theorem dX2_endOfOrder_3 : decode cX2_endOfOrder 3 = .ok (.iload_n 3, 1) := by decide +kernel
theorem dX2_endOfOrder_4 : decode cX2_endOfOrder 4 = .ok (.invokevirtual 39, 3) := by decide +kernel
theorem dX2_endOfOrder_7 : decode cX2_endOfOrder 7 = .ok (.ifCond .ne 5, 3) := by decide +kernel
theorem dX2_endOfOrder_10 : decode cX2_endOfOrder 10 = .ok (.iload_n 3, 1) := by decide +kernel
theorem dX2_endOfOrder_11 : decode cX2_endOfOrder 11 = .ok (.ireturn, 1) := by decide +kernel
theorem dX2_endOfOrder_12 : decode cX2_endOfOrder 12 = .ok (.aload_n 0, 1) := by decide +kernel
theorem dX2_endOfOrder_13 : decode cX2_endOfOrder 13 = .ok (.iload_n 1, 1) := by decide +kernel
theorem dX2_endOfOrder_14 : decode cX2_endOfOrder 14 = .ok (.invokevirtual 43, 3) := by decide +kernel
theorem dX2_endOfOrder_17 : decode cX2_endOfOrder 17 = .ok (.i2l, 1) := by decide +kernel
theorem dX2_endOfOrder_18 : decode cX2_endOfOrder 18 = .ok (.aload_n 0, 1) := by decide +kernel
theorem dX2_endOfOrder_19 : decode cX2_endOfOrder 19 = .ok (.iload_n 2, 1) := by decide +kernel
theorem dX2_endOfOrder_20 : decode cX2_endOfOrder 20 = .ok (.invokevirtual 43, 3) := by decide +kernel
theorem dX2_endOfOrder_23 : decode cX2_endOfOrder 23 = .ok (.i2l, 1) := by decide +kernel
theorem dX2_endOfOrder_24 : decode cX2_endOfOrder 24 = .ok (.lsub, 1) := by decide +kernel
theorem dX2_endOfOrder_25 : decode cX2_endOfOrder 25 = .ok (.lstore 4, 2) := by decide +kernel
theorem dX2_endOfOrder_27 : decode cX2_endOfOrder 27 = .ok (.lload 4, 2) := by decide +kernel
theorem dX2_endOfOrder_29 : decode cX2_endOfOrder 29 = .ok (.lconst 0, 1) := by decide +kernel
theorem dX2_endOfOrder_30 : decode cX2_endOfOrder 30 = .ok (.lcmp, 1) := by decide +kernel
theorem dX2_endOfOrder_31 : decode cX2_endOfOrder 31 = .ok (.ifCond .gt 6, 3) := by decide +kernel
theorem dX2_endOfOrder_34 : decode cX2_endOfOrder 34 = .ok (.ldc 47, 2) := by decide +kernel
theorem dX2_endOfOrder_36 : decode cX2_endOfOrder 36 = .ok (.ireturn, 1) := by decide +kernel
theorem dX2_endOfOrder_37 : decode cX2_endOfOrder 37 = .ok (.aload_n 0, 1) := by decide +kernel
theorem dX2_endOfOrder_38 : decode cX2_endOfOrder 38 = .ok (.iload_n 2, 1) := by decide +kernel
theorem dX2_endOfOrder_39 : decode cX2_endOfOrder 39 = .ok (.iload_n 3, 1) := by decide +kernel
theorem dX2_endOfOrder_40 : decode cX2_endOfOrder 40 = .ok (.invokevirtual 35, 3) := by decide +kernel
theorem dX2_endOfOrder_43 : decode cX2_endOfOrder 43 = .ok (.aload_n 0, 1) := by decide +kernel
theorem dX2_endOfOrder_44 : decode cX2_endOfOrder 44 = .ok (.iload_n 1, 1) := by decide +kernel
theorem dX2_endOfOrder_45 : decode cX2_endOfOrder 45 = .ok (.iload_n 3, 1) := by decide +kernel
theorem dX2_endOfOrder_46 : decode cX2_endOfOrder 46 = .ok (.invokevirtual 35, 3) := by decide +kernel
theorem dX2_endOfOrder_49 : decode cX2_endOfOrder 49 = .ok (.lsub, 1) := by decide +kernel
theorem dX2_endOfOrder_50 : decode cX2_endOfOrder 50 = .ok (.iload_n 1, 1) := by decide +kernel
theorem dX2_endOfOrder_51 : decode cX2_endOfOrder 51 = .ok (.iload_n 2, 1) := by decide +kernel
theorem dX2_endOfOrder_52 : decode cX2_endOfOrder 52 = .ok (.if_icmp .ge 7, 3) := by decide +kernel
theorem dX2_endOfOrder_55 : decode cX2_endOfOrder 55 = .ok (.iconst 1, 1) := by decide +kernel
theorem dX2_endOfOrder_56 : decode cX2_endOfOrder 56 = .ok (.goto 4, 3) := by decide +kernel
theorem dX2_endOfOrder_59 : decode cX2_endOfOrder 59 = .ok (.iconst 0, 1) := by decide +kernel
theorem dX2_endOfOrder_60 : decode cX2_endOfOrder 60 = .ok (.i2l, 1) := by decide +kernel
theorem dX2_endOfOrder_61 : decode cX2_endOfOrder 61 = .ok (.ladd, 1) := by decide +kernel
theorem dX2_endOfOrder_62 : decode cX2_endOfOrder 62 = .ok (.lstore 6, 2) := by decide +kernel
theorem dX2_endOfOrder_64 : decode cX2_endOfOrder 64 = .ok (.iload_n 3, 1) := by decide +kernel
theorem dX2_endOfOrder_65 : decode cX2_endOfOrder 65 = .ok (.i2l, 1) := by decide +kernel
theorem dX2_endOfOrder_66 : decode cX2_endOfOrder 66 = .ok (.lload 6, 2) := by decide +kernel
theorem dX2_endOfOrder_68 : decode cX2_endOfOrder 68 = .ok (.lload 4, 2) := by decide +kernel
theorem dX2_endOfOrder_70 : decode cX2_endOfOrder 70 = .ok (.ladd, 1) := by decide +kernel
theorem dX2_endOfOrder_71 : decode cX2_endOfOrder 71 = .ok (.lconst 1, 1) := by decide +kernel
theorem dX2_endOfOrder_72 : decode cX2_endOfOrder 72 = .ok (.lsub, 1) := by decide +kernel
theorem dX2_endOfOrder_73 : decode cX2_endOfOrder 73 = .ok (.lload 4, 2) := by decide +kernel
theorem dX2_endOfOrder_75 : decode cX2_endOfOrder 75 = .ok (.ldiv, 1) := by decide +kernel
theorem dX2_endOfOrder_76 : decode cX2_endOfOrder 76 = .ok (.ladd, 1) := by decide +kernel
theorem dX2_endOfOrder_77 : decode cX2_endOfOrder 77 = .ok (.lstore 8, 2) := by decide +kernel
theorem dX2_endOfOrder_79 : decode cX2_endOfOrder 79 = .ok (.lload 8, 2) := by decide +kernel
theorem dX2_endOfOrder_81 : decode cX2_endOfOrder 81 = .ok (.ldc2_w 48, 3) := by decide +kernel
theorem dX2_endOfOrder_84 : decode cX2_endOfOrder 84 = .ok (.lcmp, 1) := by decide +kernel
theorem dX2_endOfOrder_85 : decode cX2_endOfOrder 85 = .ok (.ifCond .le 8, 3) := by decide +kernel
theorem dX2_endOfOrder_88 : decode cX2_endOfOrder 88 = .ok (.ldc 47, 2) := by decide +kernel
theorem dX2_endOfOrder_90 : decode cX2_endOfOrder 90 = .ok (.goto 6, 3) := by decide +kernel
theorem dX2_endOfOrder_93 : decode cX2_endOfOrder 93 = .ok (.lload 8, 2) := by decide +kernel
theorem dX2_endOfOrder_95 : decode cX2_endOfOrder 95 = .ok (.l2i, 1) := by decide +kernel
theorem dX2_endOfOrder_96 : decode cX2_endOfOrder 96 = .ok (.ireturn, 1) := by decide +kernel
set_option maxRecDepth 20000 in
theorem ggX2_firstAt_X2_isBefore : GoodIn wsX2_firstAt wsX2_isBefore := goodIn_r _ [6, 7, 8, 9, 5, 10, 11, 12, 13, 14, 15, 16, 1, 17, 18, 19, 20] (by decide +kernel) (by decide +kernel)
set_option maxRecDepth 20000 in
theorem gX2_firstAt_X2_isBefore : GoodIn wsX2_firstAt (wsV RX2 39 RX2 yX2_isBefore wsX2_isBefore) := goodIn_app (goodIn_of _ (by decide +kernel)) ggX2_firstAt_X2_isBefore
theorem dX2_firstAt_0 : decode cX2_firstAt 0 = .ok (.iconst (-1), 1) := by decide +kernel
theorem dX2_firstAt_1 : decode cX2_firstAt 1 = .ok (.istore_n 2, 1) := by decide +kernel
theorem dX2_firstAt_2 : decode cX2_firstAt 2 = .ok (.iconst 0, 1) := by decide +kernel
theorem dX2_firstAt_3 : decode cX2_firstAt 3 = .ok (.istore_n 3, 1) := by decide +kernel
theorem dX2_firstAt_4 : decode cX2_firstAt 4 = .ok (.iload_n 3, 1) := by decide +kernel
theorem dX2_firstAt_5 : decode cX2_firstAt 5 = .ok (.bipush 24, 2) := by decide +kernel
theorem dX2_firstAt_7 : decode cX2_firstAt 7 = .ok (.if_icmp .ge 35, 3) := by decide +kernel
theorem dX2_firstAt_10 : decode cX2_firstAt 10 = .ok (.aload_n 0, 1) := by decide +kernel
theorem dX2_firstAt_11 : decode cX2_firstAt 11 = .ok (.getfield 9, 3) := by decide +kernel
theorem dX2_firstAt_14 : decode cX2_firstAt 14 = .ok (.iload_n 3, 1) := by decide +kernel
theorem dX2_firstAt_15 : decode cX2_firstAt 15 = .ok (.baload, 1) := by decide +kernel
theorem dX2_firstAt_16 : decode cX2_firstAt 16 = .ok (.ifCond .eq 20, 3) := by decide +kernel
theorem dX2_firstAt_19 : decode cX2_firstAt 19 = .ok (.iload_n 2, 1) := by decide +kernel
theorem dX2_firstAt_20 : decode cX2_firstAt 20 = .ok (.iconst (-1), 1) := by decide +kernel
theorem dX2_firstAt_21 : decode cX2_firstAt 21 = .ok (.if_icmp .eq 13, 3) := by decide +kernel
theorem dX2_firstAt_24 : decode cX2_firstAt 24 = .ok (.aload_n 0, 1) := by decide +kernel
theorem dX2_firstAt_25 : decode cX2_firstAt 25 = .ok (.iload_n 3, 1) := by decide +kernel
theorem dX2_firstAt_26 : decode cX2_firstAt 26 = .ok (.iload_n 2, 1) := by decide +kernel
theorem dX2_firstAt_27 : decode cX2_firstAt 27 = .ok (.iload_n 1, 1) := by decide +kernel
theorem dX2_firstAt_28 : decode cX2_firstAt 28 = .ok (.invokevirtual 39, 3) := by decide +kernel
theorem dX2_firstAt_31 : decode cX2_firstAt 31 = .ok (.ifCond .eq 5, 3) := by decide +kernel
theorem dX2_firstAt_34 : decode cX2_firstAt 34 = .ok (.iload_n 3, 1) := by decide +kernel
theorem dX2_firstAt_35 : decode cX2_firstAt 35 = .ok (.istore_n 2, 1) := by decide +kernel
theorem dX2_firstAt_36 : decode cX2_firstAt 36 = .ok (.iinc 3 1, 3) := by decide +kernel
theorem dX2_firstAt_39 : decode cX2_firstAt 39 = .ok (.goto (-35), 3) := by decide +kernel
theorem dX2_firstAt_42 : decode cX2_firstAt 42 = .ok (.iload_n 2, 1) := by decide +kernel
theorem dX2_firstAt_43 : decode cX2_firstAt 43 = .ok (.ireturn, 1) := by decide +kernel
set_option maxRecDepth 20000 in
theorem ggX2_nextFirst_X2_firstAt : GoodIn wsX2_nextFirst wsX2_firstAt := goodIn_r _ [11, 2, 12, 13, 14, 10, 15, 16, 17, 18, 19, 20, 21, 22, 23, 24, 25, 35, 36, 37, 38] (by decide +kernel) (by decide +kernel)
set_option maxRecDepth 20000 in
theorem gX2_nextFirst_X2_firstAt : GoodIn wsX2_nextFirst (wsV RX2 50 RX2 yX2_firstAt wsX2_firstAt) := goodIn_app (goodIn_of _ (by decide +kernel)) ggX2_nextFirst_X2_firstAt
set_option maxRecDepth 20000 in
theorem ggX2_nextFirst_X2_endOfOrder : GoodIn wsX2_nextFirst wsX2_endOfOrder := goodIn_r _ [29, 1, 30, 12, 13, 14, 10, 15, 16, 17, 18, 19, 20, 21, 22, 23, 24, 25, 2, 31, 32, 33, 34, 35, 36, 37, 38] (by decide +kernel) (by decide +kernel)
set_option maxRecDepth 20000 in
theorem gX2_nextFirst_X2_endOfOrder : GoodIn wsX2_nextFirst (wsV RX2 53 RX2 yX2_endOfOrder wsX2_endOfOrder) := goodIn_app (goodIn_of _ (by decide +kernel)) ggX2_nextFirst_X2_endOfOrder
theorem dX2_nextFirst_0 : decode cX2_nextFirst 0 = .ok (.aload_n 0, 1) := by decide +kernel
theorem dX2_nextFirst_1 : decode cX2_nextFirst 1 = .ok (.iload_n 1, 1) := by decide +kernel
theorem dX2_nextFirst_2 : decode cX2_nextFirst 2 = .ok (.invokevirtual 50, 3) := by decide +kernel
theorem dX2_nextFirst_5 : decode cX2_nextFirst 5 = .ok (.istore_n 2, 1) := by decide +kernel
theorem dX2_nextFirst_6 : decode cX2_nextFirst 6 = .ok (.ldc 47, 2) := by decide +kernel
theorem dX2_nextFirst_8 : decode cX2_nextFirst 8 = .ok (.istore_n 3, 1) := by decide +kernel
theorem dX2_nextFirst_9 : decode cX2_nextFirst 9 = .ok (.iconst 0, 1) := by decide +kernel
theorem dX2_nextFirst_10 : decode cX2_nextFirst 10 = .ok (.istore 4, 2) := by decide +kernel
theorem dX2_nextFirst_12 : decode cX2_nextFirst 12 = .ok (.iload 4, 2) := by decide +kernel
theorem dX2_nextFirst_14 : decode cX2_nextFirst 14 = .ok (.bipush 24, 2) := by decide +kernel
theorem dX2_nextFirst_16 : decode cX2_nextFirst 16 = .ok (.if_icmp .ge 38, 3) := by decide +kernel
theorem dX2_nextFirst_19 : decode cX2_nextFirst 19 = .ok (.aload_n 0, 1) := by decide +kernel
theorem dX2_nextFirst_20 : decode cX2_nextFirst 20 = .ok (.getfield 9, 3) := by decide +kernel
theorem dX2_nextFirst_23 : decode cX2_nextFirst 23 = .ok (.iload 4, 2) := by decide +kernel
theorem dX2_nextFirst_25 : decode cX2_nextFirst 25 = .ok (.baload, 1) := by decide +kernel
theorem dX2_nextFirst_26 : decode cX2_nextFirst 26 = .ok (.ifCond .eq 22, 3) := by decide +kernel
theorem dX2_nextFirst_29 : decode cX2_nextFirst 29 = .ok (.iload 4, 2) := by decide +kernel
theorem dX2_nextFirst_31 : decode cX2_nextFirst 31 = .ok (.iload_n 2, 1) := by decide +kernel
theorem dX2_nextFirst_32 : decode cX2_nextFirst 32 = .ok (.if_icmp .eq 16, 3) := by decide +kernel
theorem dX2_nextFirst_35 : decode cX2_nextFirst 35 = .ok (.iload_n 3, 1) := by decide +kernel
theorem dX2_nextFirst_36 : decode cX2_nextFirst 36 = .ok (.aload_n 0, 1) := by decide +kernel
theorem dX2_nextFirst_37 : decode cX2_nextFirst 37 = .ok (.iload_n 2, 1) := by decide +kernel
theorem dX2_nextFirst_38 : decode cX2_nextFirst 38 = .ok (.iload 4, 2) := by decide +kernel
theorem dX2_nextFirst_40 : decode cX2_nextFirst 40 = .ok (.iload_n 1, 1) := by decide +kernel
theorem dX2_nextFirst_41 : decode cX2_nextFirst 41 = .ok (.invokevirtual 53, 3) := by decide +kernel
theorem dX2_nextFirst_44 : decode cX2_nextFirst 44 = .ok (.invokestatic 57, 3) := by decide +kernel
theorem dX2_nextFirst_47 : decode cX2_nextFirst 47 = .ok (.istore_n 3, 1) := by decide +kernel
theorem dX2_nextFirst_48 : decode cX2_nextFirst 48 = .ok (.iinc 4 1, 3) := by decide +kernel
theorem dX2_nextFirst_51 : decode cX2_nextFirst 51 = .ok (.goto (-39), 3) := by decide +kernel
theorem dX2_nextFirst_54 : decode cX2_nextFirst 54 = .ok (.iload_n 3, 1) := by decide +kernel
theorem dX2_nextFirst_55 : decode cX2_nextFirst 55 = .ok (.ireturn, 1) := by decide +kernel
set_option maxRecDepth 20000 in
theorem ggX2_rankOf_X2_isBefore : GoodIn wsX2_rankOf wsX2_isBefore := goodIn_r _ [6, 7, 8, 9, 5, 10, 11, 12, 13, 14, 15, 16, 1, 17, 18, 19, 20] (by decide +kernel) (by decide +kernel)
set_option maxRecDepth 20000 in
theorem gX2_rankOf_X2_isBefore : GoodIn wsX2_rankOf (wsV RX2 39 RX2 yX2_isBefore wsX2_isBefore) := goodIn_app (goodIn_of _ (by decide +kernel)) ggX2_rankOf_X2_isBefore
theorem dX2_rankOf_0 : decode cX2_rankOf 0 = .ok (.iconst 0, 1) := by decide +kernel
theorem dX2_rankOf_1 : decode cX2_rankOf 1 = .ok (.istore_n 3, 1) := by decide +kernel
theorem dX2_rankOf_2 : decode cX2_rankOf 2 = .ok (.iconst 0, 1) := by decide +kernel
theorem dX2_rankOf_3 : decode cX2_rankOf 3 = .ok (.istore 4, 2) := by decide +kernel
theorem dX2_rankOf_5 : decode cX2_rankOf 5 = .ok (.iload 4, 2) := by decide +kernel
theorem dX2_rankOf_7 : decode cX2_rankOf 7 = .ok (.bipush 24, 2) := by decide +kernel
theorem dX2_rankOf_9 : decode cX2_rankOf 9 = .ok (.if_icmp .ge 33, 3) := by decide +kernel
theorem dX2_rankOf_12 : decode cX2_rankOf 12 = .ok (.aload_n 0, 1) := by decide +kernel
theorem dX2_rankOf_13 : decode cX2_rankOf 13 = .ok (.getfield 9, 3) := by decide +kernel
theorem dX2_rankOf_16 : decode cX2_rankOf 16 = .ok (.iload 4, 2) := by decide +kernel
theorem dX2_rankOf_18 : decode cX2_rankOf 18 = .ok (.baload, 1) := by decide +kernel
theorem dX2_rankOf_19 : decode cX2_rankOf 19 = .ok (.ifCond .eq 17, 3) := by decide +kernel
theorem dX2_rankOf_22 : decode cX2_rankOf 22 = .ok (.aload_n 0, 1) := by decide +kernel
theorem dX2_rankOf_23 : decode cX2_rankOf 23 = .ok (.iload 4, 2) := by decide +kernel
theorem dX2_rankOf_25 : decode cX2_rankOf 25 = .ok (.iload_n 1, 1) := by decide +kernel
theorem dX2_rankOf_26 : decode cX2_rankOf 26 = .ok (.iload_n 2, 1) := by decide +kernel
theorem dX2_rankOf_27 : decode cX2_rankOf 27 = .ok (.invokevirtual 39, 3) := by decide +kernel
theorem dX2_rankOf_30 : decode cX2_rankOf 30 = .ok (.ifCond .eq 6, 3) := by decide +kernel
theorem dX2_rankOf_33 : decode cX2_rankOf 33 = .ok (.iinc 3 1, 3) := by decide +kernel
theorem dX2_rankOf_36 : decode cX2_rankOf 36 = .ok (.iinc 4 1, 3) := by decide +kernel
theorem dX2_rankOf_39 : decode cX2_rankOf 39 = .ok (.goto (-34), 3) := by decide +kernel
theorem dX2_rankOf_42 : decode cX2_rankOf 42 = .ok (.iload_n 3, 1) := by decide +kernel
theorem dX2_rankOf_43 : decode cX2_rankOf 43 = .ok (.ireturn, 1) := by decide +kernel
set_option maxRecDepth 20000 in
theorem ggX2_pointOfRank_X2_rankOf : GoodIn wsX2_pointOfRank wsX2_rankOf := goodIn_r _ [6, 1, 7, 8, 9, 5, 10, 11, 12, 13, 14, 15, 16, 17, 18, 19, 20, 21, 22, 23, 24] (by decide +kernel) (by decide +kernel)
set_option maxRecDepth 20000 in
theorem gX2_pointOfRank_X2_rankOf : GoodIn wsX2_pointOfRank (wsV RX2 63 RX2 yX2_rankOf wsX2_rankOf) := goodIn_app (goodIn_of _ (by decide +kernel)) ggX2_pointOfRank_X2_rankOf
theorem dX2_pointOfRank_0 : decode cX2_pointOfRank 0 = .ok (.iconst 0, 1) := by decide +kernel
theorem dX2_pointOfRank_1 : decode cX2_pointOfRank 1 = .ok (.istore_n 3, 1) := by decide +kernel
theorem dX2_pointOfRank_2 : decode cX2_pointOfRank 2 = .ok (.iload_n 3, 1) := by decide +kernel
theorem dX2_pointOfRank_3 : decode cX2_pointOfRank 3 = .ok (.bipush 24, 2) := by decide +kernel
theorem dX2_pointOfRank_5 : decode cX2_pointOfRank 5 = .ok (.if_icmp .ge 30, 3) := by decide +kernel
theorem dX2_pointOfRank_8 : decode cX2_pointOfRank 8 = .ok (.aload_n 0, 1) := by decide +kernel
theorem dX2_pointOfRank_9 : decode cX2_pointOfRank 9 = .ok (.getfield 9, 3) := by decide +kernel
theorem dX2_pointOfRank_12 : decode cX2_pointOfRank 12 = .ok (.iload_n 3, 1) := by decide +kernel
theorem dX2_pointOfRank_13 : decode cX2_pointOfRank 13 = .ok (.baload, 1) := by decide +kernel
theorem dX2_pointOfRank_14 : decode cX2_pointOfRank 14 = .ok (.ifCond .eq 15, 3) := by decide +kernel
theorem dX2_pointOfRank_17 : decode cX2_pointOfRank 17 = .ok (.aload_n 0, 1) := by decide +kernel
theorem dX2_pointOfRank_18 : decode cX2_pointOfRank 18 = .ok (.iload_n 3, 1) := by decide +kernel
theorem dX2_pointOfRank_19 : decode cX2_pointOfRank 19 = .ok (.iload_n 2, 1) := by decide +kernel
theorem dX2_pointOfRank_20 : decode cX2_pointOfRank 20 = .ok (.invokevirtual 63, 3) := by decide +kernel
theorem dX2_pointOfRank_23 : decode cX2_pointOfRank 23 = .ok (.iload_n 1, 1) := by decide +kernel
theorem dX2_pointOfRank_24 : decode cX2_pointOfRank 24 = .ok (.if_icmp .ne 5, 3) := by decide +kernel
theorem dX2_pointOfRank_27 : decode cX2_pointOfRank 27 = .ok (.iload_n 3, 1) := by decide +kernel
theorem dX2_pointOfRank_28 : decode cX2_pointOfRank 28 = .ok (.ireturn, 1) := by decide +kernel
theorem dX2_pointOfRank_29 : decode cX2_pointOfRank 29 = .ok (.iinc 3 1, 3) := by decide +kernel
theorem dX2_pointOfRank_32 : decode cX2_pointOfRank 32 = .ok (.goto (-30), 3) := by decide +kernel
theorem dX2_pointOfRank_35 : decode cX2_pointOfRank 35 = .ok (.iconst (-1), 1) := by decide +kernel
theorem dX2_pointOfRank_36 : decode cX2_pointOfRank 36 = .ok (.ireturn, 1) := by decide +kernel
set_option maxRecDepth 20000 in
theorem ggX2_leastAt_X2_firstAt : GoodIn wsX2_leastAt wsX2_firstAt := goodIn_r _ [6, 7, 8, 9, 10, 5, 11, 12, 13, 14, 15, 16, 17, 18, 19, 20, 21, 22, 23, 24, 25] (by decide +kernel) (by decide +kernel)
set_option maxRecDepth 20000 in
theorem gX2_leastAt_X2_firstAt : GoodIn wsX2_leastAt (wsV RX2 50 RX2 yX2_firstAt wsX2_firstAt) := goodIn_app (goodIn_of _ (by decide +kernel)) ggX2_leastAt_X2_firstAt
set_option maxRecDepth 20000 in
theorem ggX2_leastAt_X2_valueOf : GoodIn wsX2_leastAt wsX2_valueOf := goodIn_r _ [15, 16, 17, 18, 19, 20, 5, 21, 7, 22, 23, 24, 25] (by decide +kernel) (by decide +kernel)
set_option maxRecDepth 20000 in
theorem gX2_leastAt_X2_valueOf : GoodIn wsX2_leastAt (wsV RX2 35 RX2 yX2_valueOf wsX2_valueOf) := goodIn_app (goodIn_of _ (by decide +kernel)) ggX2_leastAt_X2_valueOf
theorem dX2_leastAt_0 : decode cX2_leastAt 0 = .ok (.aload_n 0, 1) := by decide +kernel
theorem dX2_leastAt_1 : decode cX2_leastAt 1 = .ok (.iload_n 1, 1) := by decide +kernel
theorem dX2_leastAt_2 : decode cX2_leastAt 2 = .ok (.invokevirtual 50, 3) := by decide +kernel
theorem dX2_leastAt_5 : decode cX2_leastAt 5 = .ok (.istore_n 2, 1) := by decide +kernel
theorem dX2_leastAt_6 : decode cX2_leastAt 6 = .ok (.iload_n 2, 1) := by decide +kernel
theorem dX2_leastAt_7 : decode cX2_leastAt 7 = .ok (.iconst (-1), 1) := by decide +kernel
theorem dX2_leastAt_8 : decode cX2_leastAt 8 = .ok (.if_icmp .ne 9, 3) := by decide +kernel
theorem dX2_leastAt_11 : decode cX2_leastAt 11 = .ok (.ldc2_w 66, 3) := by decide +kernel
theorem dX2_leastAt_14 : decode cX2_leastAt 14 = .ok (.goto 9, 3) := by decide +kernel
theorem dX2_leastAt_17 : decode cX2_leastAt 17 = .ok (.aload_n 0, 1) := by decide +kernel
theorem dX2_leastAt_18 : decode cX2_leastAt 18 = .ok (.iload_n 2, 1) := by decide +kernel
theorem dX2_leastAt_19 : decode cX2_leastAt 19 = .ok (.iload_n 1, 1) := by decide +kernel
theorem dX2_leastAt_20 : decode cX2_leastAt 20 = .ok (.invokevirtual 35, 3) := by decide +kernel
theorem dX2_leastAt_23 : decode cX2_leastAt 23 = .ok (.lreturn, 1) := by decide +kernel
set_option maxRecDepth 20000 in
theorem ggX3_init_X0_init : GoodIn wsX3_init wsX0_init := goodIn_r _ [19, 20, 2, 3, 21, 22, 23, 24, 13, 25, 26, 27, 28, 29, 30, 31, 32, 33, 34, 35, 36, 37, 38, 39, 40, 80, 81, 82, 83, 57, 58, 59, 60, 61, 62, 63] (by decide +kernel) (by decide +kernel)
set_option maxRecDepth 20000 in
theorem gX3_init_X0_init : GoodIn wsX3_init (wsX0_init) := ggX3_init_X0_init
set_option maxRecDepth 20000 in
theorem ggX3_init_X1_init : GoodIn wsX3_init wsX1_init := goodIn_r _ [43, 44, 2, 3, 45, 22, 23, 46, 47, 13, 48, 49, 35, 50, 37, 51, 52, 53, 54, 55, 56, 32, 33, 34, 36, 38, 39, 40, 80, 81, 82, 83, 70, 71, 72, 73, 74, 75, 76, 77, 78, 79] (by decide +kernel) (by decide +kernel)
set_option maxRecDepth 20000 in
theorem gX3_init_X1_init : GoodIn wsX3_init (wsX1_init) := ggX3_init_X1_init
theorem dX3_init_0 : decode cX3_init 0 = .ok (.aload_n 0, 1) := by decide +kernel
theorem dX3_init_1 : decode cX3_init 1 = .ok (.invokespecial 3, 3) := by decide +kernel
theorem dX3_init_4 : decode cX3_init 4 = .ok (.aload_n 0, 1) := by decide +kernel
theorem dX3_init_5 : decode cX3_init 5 = .ok (.new 9, 3) := by decide +kernel
theorem dX3_init_8 : decode cX3_init 8 = .ok (.dup, 1) := by decide +kernel
theorem dX3_init_9 : decode cX3_init 9 = .ok (.invokespecial 11, 3) := by decide +kernel
theorem dX3_init_12 : decode cX3_init 12 = .ok (.putfield 12, 3) := by decide +kernel
theorem dX3_init_15 : decode cX3_init 15 = .ok (.aload_n 0, 1) := by decide +kernel
theorem dX3_init_16 : decode cX3_init 16 = .ok (.aload_n 0, 1) := by decide +kernel
theorem dX3_init_17 : decode cX3_init 17 = .ok (.getfield 12, 3) := by decide +kernel
theorem dX3_init_20 : decode cX3_init 20 = .ok (.getfield 16, 3) := by decide +kernel
theorem dX3_init_23 : decode cX3_init 23 = .ok (.putfield 20, 3) := by decide +kernel
theorem dX3_init_26 : decode cX3_init 26 = .ok (.aload_n 0, 1) := by decide +kernel
theorem dX3_init_27 : decode cX3_init 27 = .ok (.new 21, 3) := by decide +kernel
theorem dX3_init_30 : decode cX3_init 30 = .ok (.dup, 1) := by decide +kernel
theorem dX3_init_31 : decode cX3_init 31 = .ok (.invokespecial 23, 3) := by decide +kernel
theorem dX3_init_34 : decode cX3_init 34 = .ok (.putfield 24, 3) := by decide +kernel
theorem dX3_init_37 : decode cX3_init 37 = .ok (.aload_n 0, 1) := by decide +kernel
theorem dX3_init_38 : decode cX3_init 38 = .ok (.bipush 24, 2) := by decide +kernel
theorem dX3_init_40 : decode cX3_init 40 = .ok (.newarray .int, 2) := by decide +kernel
theorem dX3_init_42 : decode cX3_init 42 = .ok (.putfield 28, 3) := by decide +kernel
theorem dX3_init_45 : decode cX3_init 45 = .ok (.aload_n 0, 1) := by decide +kernel
theorem dX3_init_46 : decode cX3_init 46 = .ok (.iconst 0, 1) := by decide +kernel
theorem dX3_init_47 : decode cX3_init 47 = .ok (.putfield 32, 3) := by decide +kernel
theorem dX3_init_50 : decode cX3_init 50 = .ok (.aload_n 0, 1) := by decide +kernel
theorem dX3_init_51 : decode cX3_init 51 = .ok (.lconst 0, 1) := by decide +kernel
theorem dX3_init_52 : decode cX3_init 52 = .ok (.putfield 36, 3) := by decide +kernel
theorem dX3_init_55 : decode cX3_init 55 = .ok (.return_, 1) := by decide +kernel
set_option maxRecDepth 20000 in
theorem ggX3_insert_X3_isValue : GoodIn wsX3_insert wsX3_isValue := goodIn_r _ [11, 12, 13] (by decide +kernel) (by decide +kernel)
set_option maxRecDepth 20000 in
theorem gX3_insert_X3_isValue : GoodIn wsX3_insert (va_wsS RX3 40 yX3_isValue wsX3_isValue) := goodIn_app (goodIn_of _ (by decide +kernel)) ggX3_insert_X3_isValue
set_option maxRecDepth 20000 in
theorem ggX3_insert_X3_isVelocity : GoodIn wsX3_insert wsX3_isVelocity := goodIn_r _ [16] (by decide +kernel) (by decide +kernel)
set_option maxRecDepth 20000 in
theorem gX3_insert_X3_isVelocity : GoodIn wsX3_insert (va_wsS RX3 44 yX3_isVelocity wsX3_isVelocity) := goodIn_app (goodIn_of _ (by decide +kernel)) ggX3_insert_X3_isVelocity
set_option maxRecDepth 20000 in
theorem ggX3_insert_X2_lowestFree : GoodIn wsX3_insert wsX2_lowestFree := goodIn_r _ [21, 22, 115, 116, 117, 118] (by decide +kernel) (by decide +kernel)
set_option maxRecDepth 20000 in
theorem gX3_insert_X2_lowestFree : GoodIn wsX3_insert (wsV RX3 49 RX2 yX2_lowestFree wsX2_lowestFree) := goodIn_app (goodIn_of _ (by decide +kernel)) ggX3_insert_X2_lowestFree
set_option maxRecDepth 20000 in
theorem ggX3_insert_X1_isFull : GoodIn wsX3_insert wsX1_isFull := goodIn_r _ [27, 28, 119, 120, 121, 122, 123, 124, 125, 126, 127, 128] (by decide +kernel) (by decide +kernel)
set_option maxRecDepth 20000 in
theorem gX3_insert_X1_isFull : GoodIn wsX3_insert (wsV RX3 55 RX1 yX1_isFull wsX1_isFull) := goodIn_app (goodIn_of _ (by decide +kernel)) ggX3_insert_X1_isFull
set_option maxRecDepth 20000 in
theorem ggX3_insert_X2_start : GoodIn wsX3_insert wsX2_start := goodIn_r _ [32, 33, 34, 35, 20, 36, 22, 37, 38, 39, 115, 116, 117, 118] (by decide +kernel) (by decide +kernel)
set_option maxRecDepth 20000 in
theorem gX3_insert_X2_start : GoodIn wsX3_insert (wsV RX3 61 RX2 yX2_start wsX2_start) := goodIn_app (goodIn_of _ (by decide +kernel)) ggX3_insert_X2_start
set_option maxRecDepth 20000 in
theorem ggX3_insert_X0_append : GoodIn wsX3_insert wsX0_append := goodIn_r _ [44, 45, 46, 47, 48, 43, 49, 50, 51, 129, 130, 131, 132, 133, 134, 135] (by decide +kernel) (by decide +kernel)
set_option maxRecDepth 20000 in
theorem gX3_insert_X0_append : GoodIn wsX3_insert (wsV RX3 65 RX0 yX0_append wsX0_append) := goodIn_app (goodIn_of _ (by decide +kernel)) ggX3_insert_X0_append
set_option maxRecDepth 20000 in
theorem ggX3_insert_X3_finishOperation : GoodIn wsX3_insert wsX3_finishOperation := goodIn_r _ [55, 7, 5, 3, 2, 56, 57, 58, 43, 59, 60, 61, 62, 63, 45, 64, 65, 66, 67, 68, 69, 70, 71, 50, 72, 73, 74, 20, 75, 76, 77, 78, 79, 38, 39, 80, 81, 82, 83, 22, 84, 85, 86, 87, 88, 89, 46, 47, 48, 49, 51, 90, 91, 92, 26, 93, 94, 28, 95, 96, 97, 98, 99, 24, 25, 27, 100, 101, 102, 103, 104, 105, 106, 107, 108, 109, 110, 111, 112, 113, 114, 129, 130, 131, 132, 133, 134, 135, 115, 116, 117, 118, 119, 120, 121, 122, 123, 124, 125, 126, 127, 128] (by decide +kernel) (by decide +kernel)
set_option maxRecDepth 20000 in
theorem gX3_insert_X3_finishOperation : GoodIn wsX3_insert (wsV RX3 69 RX3 yX3_finishOperation wsX3_finishOperation) := goodIn_app (goodIn_of _ (by decide +kernel)) ggX3_insert_X3_finishOperation
theorem dX3_insert_0 : decode cX3_insert 0 = .ok (.iload_n 1, 1) := by decide +kernel
theorem dX3_insert_1 : decode cX3_insert 1 = .ok (.invokestatic 40, 3) := by decide +kernel
theorem dX3_insert_4 : decode cX3_insert 4 = .ok (.ifCond .eq 10, 3) := by decide +kernel
theorem dX3_insert_7 : decode cX3_insert 7 = .ok (.iload_n 2, 1) := by decide +kernel
theorem dX3_insert_8 : decode cX3_insert 8 = .ok (.invokestatic 44, 3) := by decide +kernel
theorem dX3_insert_11 : decode cX3_insert 11 = .ok (.ifCond .ne 7, 3) := by decide +kernel
theorem dX3_insert_14 : decode cX3_insert 14 = .ok (.ldc2_w 47, 3) := by decide +kernel
theorem dX3_insert_17 : decode cX3_insert 17 = .ok (.lreturn, 1) := by decide +kernel
theorem dX3_insert_18 : decode cX3_insert 18 = .ok (.aload_n 0, 1) := by decide +kernel
theorem dX3_insert_19 : decode cX3_insert 19 = .ok (.getfield 20, 3) := by decide +kernel
theorem dX3_insert_22 : decode cX3_insert 22 = .ok (.invokevirtual 49, 3) := by decide +kernel
theorem dX3_insert_25 : decode cX3_insert 25 = .ok (.istore_n 3, 1) := by decide +kernel
theorem dX3_insert_26 : decode cX3_insert 26 = .ok (.iload_n 3, 1) := by decide +kernel
theorem dX3_insert_27 : decode cX3_insert 27 = .ok (.iconst (-1), 1) := by decide +kernel
theorem dX3_insert_28 : decode cX3_insert 28 = .ok (.if_icmp .eq 13, 3) := by decide +kernel
theorem dX3_insert_31 : decode cX3_insert 31 = .ok (.aload_n 0, 1) := by decide +kernel
theorem dX3_insert_32 : decode cX3_insert 32 = .ok (.getfield 24, 3) := by decide +kernel
theorem dX3_insert_35 : decode cX3_insert 35 = .ok (.invokevirtual 55, 3) := by decide +kernel
theorem dX3_insert_38 : decode cX3_insert 38 = .ok (.ifCond .eq 7, 3) := by decide +kernel
theorem dX3_insert_41 : decode cX3_insert 41 = .ok (.ldc2_w 59, 3) := by decide +kernel
theorem dX3_insert_44 : decode cX3_insert 44 = .ok (.lreturn, 1) := by decide +kernel
theorem dX3_insert_45 : decode cX3_insert 45 = .ok (.aload_n 0, 1) := by decide +kernel
theorem dX3_insert_46 : decode cX3_insert 46 = .ok (.getfield 20, 3) := by decide +kernel
theorem dX3_insert_49 : decode cX3_insert 49 = .ok (.iload_n 3, 1) := by decide +kernel
theorem dX3_insert_50 : decode cX3_insert 50 = .ok (.iload_n 1, 1) := by decide +kernel
theorem dX3_insert_51 : decode cX3_insert 51 = .ok (.i2l, 1) := by decide +kernel
theorem dX3_insert_52 : decode cX3_insert 52 = .ok (.iload_n 2, 1) := by decide +kernel
theorem dX3_insert_53 : decode cX3_insert 53 = .ok (.aload_n 0, 1) := by decide +kernel
theorem dX3_insert_54 : decode cX3_insert 54 = .ok (.getfield 32, 3) := by decide +kernel
theorem dX3_insert_57 : decode cX3_insert 57 = .ok (.invokevirtual 61, 3) := by decide +kernel
theorem dX3_insert_60 : decode cX3_insert 60 = .ok (.aload_n 0, 1) := by decide +kernel
theorem dX3_insert_61 : decode cX3_insert 61 = .ok (.getfield 28, 3) := by decide +kernel
theorem dX3_insert_64 : decode cX3_insert 64 = .ok (.iload_n 3, 1) := by decide +kernel
theorem dX3_insert_65 : decode cX3_insert 65 = .ok (.aload_n 0, 1) := by decide +kernel
theorem dX3_insert_66 : decode cX3_insert 66 = .ok (.getfield 32, 3) := by decide +kernel
theorem dX3_insert_69 : decode cX3_insert 69 = .ok (.iastore, 1) := by decide +kernel
theorem dX3_insert_70 : decode cX3_insert 70 = .ok (.aload_n 0, 1) := by decide +kernel
theorem dX3_insert_71 : decode cX3_insert 71 = .ok (.getfield 12, 3) := by decide +kernel
theorem dX3_insert_74 : decode cX3_insert 74 = .ok (.iload_n 3, 1) := by decide +kernel
theorem dX3_insert_75 : decode cX3_insert 75 = .ok (.invokevirtual 65, 3) := by decide +kernel
theorem dX3_insert_78 : decode cX3_insert 78 = .ok (.aload_n 0, 1) := by decide +kernel
theorem dX3_insert_79 : decode cX3_insert 79 = .ok (.iload_n 3, 1) := by decide +kernel
theorem dX3_insert_80 : decode cX3_insert 80 = .ok (.invokevirtual 69, 3) := by decide +kernel
theorem dX3_insert_83 : decode cX3_insert 83 = .ok (.iload_n 3, 1) := by decide +kernel
theorem dX3_insert_84 : decode cX3_insert 84 = .ok (.i2l, 1) := by decide +kernel
theorem dX3_insert_85 : decode cX3_insert 85 = .ok (.lreturn, 1) := by decide +kernel
set_option maxRecDepth 20000 in
theorem ggX3_remove_X2_has : GoodIn wsX3_remove wsX2_has := goodIn_r _ [11, 12, 104, 105, 106, 107] (by decide +kernel) (by decide +kernel)
set_option maxRecDepth 20000 in
theorem gX3_remove_X2_has : GoodIn wsX3_remove (wsV RX3 72 RX2 yX2_has wsX2_has) := goodIn_app (goodIn_of _ (by decide +kernel)) ggX3_remove_X2_has
set_option maxRecDepth 20000 in
theorem ggX3_remove_X1_isFull : GoodIn wsX3_remove wsX1_isFull := goodIn_r _ [17, 18, 108, 109, 110, 111, 112, 113, 114, 115, 116, 117] (by decide +kernel) (by decide +kernel)
set_option maxRecDepth 20000 in
theorem gX3_remove_X1_isFull : GoodIn wsX3_remove (wsV RX3 55 RX1 yX1_isFull wsX1_isFull) := goodIn_app (goodIn_of _ (by decide +kernel)) ggX3_remove_X1_isFull
set_option maxRecDepth 20000 in
theorem ggX3_remove_X2_valueOf : GoodIn wsX3_remove wsX2_valueOf := goodIn_r _ [22, 23, 24, 25, 8, 9, 10, 11, 12, 104, 105, 106, 107] (by decide +kernel) (by decide +kernel)
set_option maxRecDepth 20000 in
theorem gX3_remove_X2_valueOf : GoodIn wsX3_remove (wsV RX3 75 RX2 yX2_valueOf wsX2_valueOf) := goodIn_app (goodIn_of _ (by decide +kernel)) ggX3_remove_X2_valueOf
set_option maxRecDepth 20000 in
theorem ggX3_remove_X0_takeOut : GoodIn wsX3_remove wsX0_takeOut := goodIn_r _ [30, 31, 32, 33, 34, 29, 35, 36, 37, 38, 39, 40, 41, 42, 43, 44, 45, 118, 119, 120, 121, 122, 123, 124] (by decide +kernel) (by decide +kernel)
set_option maxRecDepth 20000 in
theorem gX3_remove_X0_takeOut : GoodIn wsX3_remove (wsV RX3 79 RX0 yX0_takeOut wsX0_takeOut) := goodIn_app (goodIn_of _ (by decide +kernel)) ggX3_remove_X0_takeOut
set_option maxRecDepth 20000 in
theorem ggX3_remove_X2_drop : GoodIn wsX3_remove wsX2_drop := goodIn_r _ [49, 12, 50, 25, 8, 9, 10, 11, 104, 105, 106, 107] (by decide +kernel) (by decide +kernel)
set_option maxRecDepth 20000 in
theorem gX3_remove_X2_drop : GoodIn wsX3_remove (wsV RX3 82 RX2 yX2_drop wsX2_drop) := goodIn_app (goodIn_of _ (by decide +kernel)) ggX3_remove_X2_drop
set_option maxRecDepth 20000 in
theorem ggX3_remove_X3_finishOperation : GoodIn wsX3_remove wsX3_finishOperation := goodIn_r _ [55, 6, 5, 3, 1, 56, 57, 58, 29, 59, 60, 61, 62, 63, 31, 64, 65, 66, 67, 37, 38, 39, 40, 41, 68, 69, 70, 10, 71, 72, 20, 21, 22, 23, 24, 25, 8, 9, 11, 12, 73, 74, 75, 76, 77, 78, 42, 43, 44, 45, 36, 79, 80, 81, 16, 82, 83, 18, 84, 85, 86, 87, 88, 14, 15, 17, 89, 90, 91, 92, 93, 94, 95, 96, 97, 98, 99, 100, 101, 102, 103, 118, 119, 120, 121, 122, 123, 124, 104, 105, 106, 107, 108, 109, 110, 111, 112, 113, 114, 115, 116, 117] (by decide +kernel) (by decide +kernel)
set_option maxRecDepth 20000 in
theorem gX3_remove_X3_finishOperation : GoodIn wsX3_remove (wsV RX3 69 RX3 yX3_finishOperation wsX3_finishOperation) := goodIn_app (goodIn_of _ (by decide +kernel)) ggX3_remove_X3_finishOperation
theorem dX3_remove_0 : decode cX3_remove 0 = .ok (.aload_n 0, 1) := by decide +kernel
theorem dX3_remove_1 : decode cX3_remove 1 = .ok (.getfield 20, 3) := by decide +kernel
theorem dX3_remove_4 : decode cX3_remove 4 = .ok (.iload_n 1, 1) := by decide +kernel
theorem dX3_remove_5 : decode cX3_remove 5 = .ok (.invokevirtual 72, 3) := by decide +kernel
theorem dX3_remove_8 : decode cX3_remove 8 = .ok (.ifCond .ne 7, 3) := by decide +kernel
theorem dX3_remove_11 : decode cX3_remove 11 = .ok (.ldc2_w 47, 3) := by decide +kernel
theorem dX3_remove_14 : decode cX3_remove 14 = .ok (.lreturn, 1) := by decide +kernel
theorem dX3_remove_15 : decode cX3_remove 15 = .ok (.aload_n 0, 1) := by decide +kernel
theorem dX3_remove_16 : decode cX3_remove 16 = .ok (.getfield 24, 3) := by decide +kernel
theorem dX3_remove_19 : decode cX3_remove 19 = .ok (.invokevirtual 55, 3) := by decide +kernel
theorem dX3_remove_22 : decode cX3_remove 22 = .ok (.ifCond .eq 7, 3) := by decide +kernel
theorem dX3_remove_25 : decode cX3_remove 25 = .ok (.ldc2_w 59, 3) := by decide +kernel
theorem dX3_remove_28 : decode cX3_remove 28 = .ok (.lreturn, 1) := by decide +kernel
theorem dX3_remove_29 : decode cX3_remove 29 = .ok (.aload_n 0, 1) := by decide +kernel
theorem dX3_remove_30 : decode cX3_remove 30 = .ok (.getfield 20, 3) := by decide +kernel
theorem dX3_remove_33 : decode cX3_remove 33 = .ok (.iload_n 1, 1) := by decide +kernel
theorem dX3_remove_34 : decode cX3_remove 34 = .ok (.aload_n 0, 1) := by decide +kernel
theorem dX3_remove_35 : decode cX3_remove 35 = .ok (.getfield 32, 3) := by decide +kernel
theorem dX3_remove_38 : decode cX3_remove 38 = .ok (.invokevirtual 75, 3) := by decide +kernel
theorem dX3_remove_41 : decode cX3_remove 41 = .ok (.lstore_n 2, 1) := by decide +kernel
theorem dX3_remove_42 : decode cX3_remove 42 = .ok (.aload_n 0, 1) := by decide +kernel
theorem dX3_remove_43 : decode cX3_remove 43 = .ok (.getfield 12, 3) := by decide +kernel
theorem dX3_remove_46 : decode cX3_remove 46 = .ok (.iload_n 1, 1) := by decide +kernel
theorem dX3_remove_47 : decode cX3_remove 47 = .ok (.invokevirtual 79, 3) := by decide +kernel
theorem dX3_remove_50 : decode cX3_remove 50 = .ok (.aload_n 0, 1) := by decide +kernel
theorem dX3_remove_51 : decode cX3_remove 51 = .ok (.getfield 20, 3) := by decide +kernel
theorem dX3_remove_54 : decode cX3_remove 54 = .ok (.iload_n 1, 1) := by decide +kernel
theorem dX3_remove_55 : decode cX3_remove 55 = .ok (.invokevirtual 82, 3) := by decide +kernel
theorem dX3_remove_58 : decode cX3_remove 58 = .ok (.aload_n 0, 1) := by decide +kernel
theorem dX3_remove_59 : decode cX3_remove 59 = .ok (.iload_n 1, 1) := by decide +kernel
theorem dX3_remove_60 : decode cX3_remove 60 = .ok (.invokevirtual 69, 3) := by decide +kernel
theorem dX3_remove_63 : decode cX3_remove 63 = .ok (.lload_n 2, 1) := by decide +kernel
theorem dX3_remove_64 : decode cX3_remove 64 = .ok (.lreturn, 1) := by decide +kernel
set_option maxRecDepth 20000 in
theorem ggX3_setVelocity_X2_has : GoodIn wsX3_setVelocity wsX2_has := goodIn_r _ [10, 11, 104, 105, 106, 107] (by decide +kernel) (by decide +kernel)
set_option maxRecDepth 20000 in
theorem gX3_setVelocity_X2_has : GoodIn wsX3_setVelocity (wsV RX3 72 RX2 yX2_has wsX2_has) := goodIn_app (goodIn_of _ (by decide +kernel)) ggX3_setVelocity_X2_has
set_option maxRecDepth 20000 in
theorem ggX3_setVelocity_X3_isVelocity : GoodIn wsX3_setVelocity wsX3_isVelocity := goodIn_r _ [15] (by decide +kernel) (by decide +kernel)
set_option maxRecDepth 20000 in
theorem gX3_setVelocity_X3_isVelocity : GoodIn wsX3_setVelocity (va_wsS RX3 44 yX3_isVelocity wsX3_isVelocity) := goodIn_app (goodIn_of _ (by decide +kernel)) ggX3_setVelocity_X3_isVelocity
set_option maxRecDepth 20000 in
theorem ggX3_setVelocity_X1_isFull : GoodIn wsX3_setVelocity wsX1_isFull := goodIn_r _ [20, 21, 108, 109, 110, 111, 112, 113, 114, 115, 116, 117] (by decide +kernel) (by decide +kernel)
set_option maxRecDepth 20000 in
theorem gX3_setVelocity_X1_isFull : GoodIn wsX3_setVelocity (wsV RX3 55 RX1 yX1_isFull wsX1_isFull) := goodIn_app (goodIn_of _ (by decide +kernel)) ggX3_setVelocity_X1_isFull
set_option maxRecDepth 20000 in
theorem ggX3_setVelocity_X2_velocityOf : GoodIn wsX3_setVelocity wsX2_velocityOf := goodIn_r _ [25, 26, 27, 7, 8, 9, 10, 11, 104, 105, 106, 107] (by decide +kernel) (by decide +kernel)
set_option maxRecDepth 20000 in
theorem gX3_setVelocity_X2_velocityOf : GoodIn wsX3_setVelocity (wsV RX3 85 RX2 yX2_velocityOf wsX2_velocityOf) := goodIn_app (goodIn_of _ (by decide +kernel)) ggX3_setVelocity_X2_velocityOf
set_option maxRecDepth 20000 in
theorem ggX3_setVelocity_X2_valueOf : GoodIn wsX3_setVelocity wsX2_valueOf := goodIn_r _ [31, 32, 26, 27, 7, 8, 9, 10, 11, 104, 105, 106, 107] (by decide +kernel) (by decide +kernel)
set_option maxRecDepth 20000 in
theorem gX3_setVelocity_X2_valueOf : GoodIn wsX3_setVelocity (wsV RX3 75 RX2 yX2_valueOf wsX2_valueOf) := goodIn_app (goodIn_of _ (by decide +kernel)) ggX3_setVelocity_X2_valueOf
set_option maxRecDepth 20000 in
theorem ggX3_setVelocity_X2_start : GoodIn wsX3_setVelocity wsX2_start := goodIn_r _ [36, 37, 38, 39, 9, 40, 11, 41, 32, 26, 104, 105, 106, 107] (by decide +kernel) (by decide +kernel)
set_option maxRecDepth 20000 in
theorem gX3_setVelocity_X2_start : GoodIn wsX3_setVelocity (wsV RX3 61 RX2 yX2_start wsX2_start) := goodIn_app (goodIn_of _ (by decide +kernel)) ggX3_setVelocity_X2_start
set_option maxRecDepth 20000 in
theorem ggX3_setVelocity_X3_finishOperation : GoodIn wsX3_setVelocity wsX3_finishOperation := goodIn_r _ [45, 46, 5, 3, 1, 47, 48, 49, 50, 51, 52, 53, 54, 55, 56, 57, 58, 59, 60, 61, 62, 63, 64, 65, 66, 67, 68, 9, 69, 70, 29, 30, 31, 32, 26, 27, 7, 8, 10, 11, 71, 72, 73, 74, 75, 76, 77, 78, 79, 80, 81, 82, 83, 84, 19, 85, 86, 21, 87, 88, 89, 90, 91, 17, 18, 20, 92, 93, 94, 95, 96, 97, 23, 24, 25, 98, 99, 100, 101, 102, 103, 118, 119, 120, 121, 122, 123, 124, 104, 105, 106, 107, 108, 109, 110, 111, 112, 113, 114, 115, 116, 117] (by decide +kernel) (by decide +kernel)
set_option maxRecDepth 20000 in
theorem gX3_setVelocity_X3_finishOperation : GoodIn wsX3_setVelocity (wsV RX3 69 RX3 yX3_finishOperation wsX3_finishOperation) := goodIn_app (goodIn_of _ (by decide +kernel)) ggX3_setVelocity_X3_finishOperation
theorem dX3_setVelocity_0 : decode cX3_setVelocity 0 = .ok (.aload_n 0, 1) := by decide +kernel
theorem dX3_setVelocity_1 : decode cX3_setVelocity 1 = .ok (.getfield 20, 3) := by decide +kernel
theorem dX3_setVelocity_4 : decode cX3_setVelocity 4 = .ok (.iload_n 1, 1) := by decide +kernel
theorem dX3_setVelocity_5 : decode cX3_setVelocity 5 = .ok (.invokevirtual 72, 3) := by decide +kernel
theorem dX3_setVelocity_8 : decode cX3_setVelocity 8 = .ok (.ifCond .eq 10, 3) := by decide +kernel
theorem dX3_setVelocity_11 : decode cX3_setVelocity 11 = .ok (.iload_n 2, 1) := by decide +kernel
theorem dX3_setVelocity_12 : decode cX3_setVelocity 12 = .ok (.invokestatic 44, 3) := by decide +kernel
theorem dX3_setVelocity_15 : decode cX3_setVelocity 15 = .ok (.ifCond .ne 7, 3) := by decide +kernel
theorem dX3_setVelocity_18 : decode cX3_setVelocity 18 = .ok (.ldc2_w 47, 3) := by decide +kernel
theorem dX3_setVelocity_21 : decode cX3_setVelocity 21 = .ok (.lreturn, 1) := by decide +kernel
theorem dX3_setVelocity_22 : decode cX3_setVelocity 22 = .ok (.aload_n 0, 1) := by decide +kernel
theorem dX3_setVelocity_23 : decode cX3_setVelocity 23 = .ok (.getfield 24, 3) := by decide +kernel
theorem dX3_setVelocity_26 : decode cX3_setVelocity 26 = .ok (.invokevirtual 55, 3) := by decide +kernel
theorem dX3_setVelocity_29 : decode cX3_setVelocity 29 = .ok (.ifCond .eq 7, 3) := by decide +kernel
theorem dX3_setVelocity_32 : decode cX3_setVelocity 32 = .ok (.ldc2_w 59, 3) := by decide +kernel
theorem dX3_setVelocity_35 : decode cX3_setVelocity 35 = .ok (.lreturn, 1) := by decide +kernel
theorem dX3_setVelocity_36 : decode cX3_setVelocity 36 = .ok (.aload_n 0, 1) := by decide +kernel
theorem dX3_setVelocity_37 : decode cX3_setVelocity 37 = .ok (.getfield 20, 3) := by decide +kernel
theorem dX3_setVelocity_40 : decode cX3_setVelocity 40 = .ok (.iload_n 1, 1) := by decide +kernel
theorem dX3_setVelocity_41 : decode cX3_setVelocity 41 = .ok (.invokevirtual 85, 3) := by decide +kernel
theorem dX3_setVelocity_44 : decode cX3_setVelocity 44 = .ok (.i2l, 1) := by decide +kernel
theorem dX3_setVelocity_45 : decode cX3_setVelocity 45 = .ok (.lstore_n 3, 1) := by decide +kernel
theorem dX3_setVelocity_46 : decode cX3_setVelocity 46 = .ok (.aload_n 0, 1) := by decide +kernel
theorem dX3_setVelocity_47 : decode cX3_setVelocity 47 = .ok (.getfield 20, 3) := by decide +kernel
theorem dX3_setVelocity_50 : decode cX3_setVelocity 50 = .ok (.iload_n 1, 1) := by decide +kernel
theorem dX3_setVelocity_51 : decode cX3_setVelocity 51 = .ok (.aload_n 0, 1) := by decide +kernel
theorem dX3_setVelocity_52 : decode cX3_setVelocity 52 = .ok (.getfield 20, 3) := by decide +kernel
theorem dX3_setVelocity_55 : decode cX3_setVelocity 55 = .ok (.iload_n 1, 1) := by decide +kernel
theorem dX3_setVelocity_56 : decode cX3_setVelocity 56 = .ok (.aload_n 0, 1) := by decide +kernel
theorem dX3_setVelocity_57 : decode cX3_setVelocity 57 = .ok (.getfield 32, 3) := by decide +kernel
theorem dX3_setVelocity_60 : decode cX3_setVelocity 60 = .ok (.invokevirtual 75, 3) := by decide +kernel
theorem dX3_setVelocity_63 : decode cX3_setVelocity 63 = .ok (.iload_n 2, 1) := by decide +kernel
theorem dX3_setVelocity_64 : decode cX3_setVelocity 64 = .ok (.aload_n 0, 1) := by decide +kernel
theorem dX3_setVelocity_65 : decode cX3_setVelocity 65 = .ok (.getfield 32, 3) := by decide +kernel
theorem dX3_setVelocity_68 : decode cX3_setVelocity 68 = .ok (.invokevirtual 61, 3) := by decide +kernel
theorem dX3_setVelocity_71 : decode cX3_setVelocity 71 = .ok (.aload_n 0, 1) := by decide +kernel
theorem dX3_setVelocity_72 : decode cX3_setVelocity 72 = .ok (.iload_n 1, 1) := by decide +kernel
theorem dX3_setVelocity_73 : decode cX3_setVelocity 73 = .ok (.invokevirtual 69, 3) := by decide +kernel
theorem dX3_setVelocity_76 : decode cX3_setVelocity 76 = .ok (.lload_n 3, 1) := by decide +kernel
theorem dX3_setVelocity_77 : decode cX3_setVelocity 77 = .ok (.lreturn, 1) := by decide +kernel
set_option maxRecDepth 20000 in
theorem ggX3_jump_X2_has : GoodIn wsX3_jump wsX2_has := goodIn_r _ [10, 11, 106, 107, 108, 109] (by decide +kernel) (by decide +kernel)
set_option maxRecDepth 20000 in
theorem gX3_jump_X2_has : GoodIn wsX3_jump (wsV RX3 72 RX2 yX2_has wsX2_has) := goodIn_app (goodIn_of _ (by decide +kernel)) ggX3_jump_X2_has
set_option maxRecDepth 20000 in
theorem ggX3_jump_X3_isValue : GoodIn wsX3_jump wsX3_isValue := goodIn_r _ [15, 16, 17] (by decide +kernel) (by decide +kernel)
set_option maxRecDepth 20000 in
theorem gX3_jump_X3_isValue : GoodIn wsX3_jump (va_wsS RX3 40 yX3_isValue wsX3_isValue) := goodIn_app (goodIn_of _ (by decide +kernel)) ggX3_jump_X3_isValue
set_option maxRecDepth 20000 in
theorem ggX3_jump_X1_isFull : GoodIn wsX3_jump wsX1_isFull := goodIn_r _ [22, 23, 110, 111, 112, 113, 114, 115, 116, 117, 118, 119] (by decide +kernel) (by decide +kernel)
set_option maxRecDepth 20000 in
theorem gX3_jump_X1_isFull : GoodIn wsX3_jump (wsV RX3 55 RX1 yX1_isFull wsX1_isFull) := goodIn_app (goodIn_of _ (by decide +kernel)) ggX3_jump_X1_isFull
set_option maxRecDepth 20000 in
theorem ggX3_jump_X2_valueOf : GoodIn wsX3_jump wsX2_valueOf := goodIn_r _ [27, 28, 29, 30, 7, 8, 9, 10, 11, 106, 107, 108, 109] (by decide +kernel) (by decide +kernel)
set_option maxRecDepth 20000 in
theorem gX3_jump_X2_valueOf : GoodIn wsX3_jump (wsV RX3 75 RX2 yX2_valueOf wsX2_valueOf) := goodIn_app (goodIn_of _ (by decide +kernel)) ggX3_jump_X2_valueOf
set_option maxRecDepth 20000 in
theorem ggX3_jump_X2_velocityOf : GoodIn wsX3_jump wsX2_velocityOf := goodIn_r _ [34, 29, 30, 7, 8, 9, 10, 11, 106, 107, 108, 109] (by decide +kernel) (by decide +kernel)
set_option maxRecDepth 20000 in
theorem gX3_jump_X2_velocityOf : GoodIn wsX3_jump (wsV RX3 85 RX2 yX2_velocityOf wsX2_velocityOf) := goodIn_app (goodIn_of _ (by decide +kernel)) ggX3_jump_X2_velocityOf
set_option maxRecDepth 20000 in
theorem ggX3_jump_X2_start : GoodIn wsX3_jump wsX2_start := goodIn_r _ [38, 39, 40, 41, 9, 42, 11, 43, 28, 29, 106, 107, 108, 109] (by decide +kernel) (by decide +kernel)
set_option maxRecDepth 20000 in
theorem gX3_jump_X2_start : GoodIn wsX3_jump (wsV RX3 61 RX2 yX2_start wsX2_start) := goodIn_app (goodIn_of _ (by decide +kernel)) ggX3_jump_X2_start
set_option maxRecDepth 20000 in
theorem ggX3_jump_X3_finishOperation : GoodIn wsX3_jump wsX3_finishOperation := goodIn_r _ [47, 48, 5, 3, 1, 49, 50, 51, 52, 53, 54, 55, 56, 57, 58, 59, 60, 61, 62, 63, 64, 65, 66, 67, 68, 69, 70, 9, 71, 72, 25, 26, 27, 28, 29, 30, 7, 8, 10, 11, 73, 74, 75, 76, 77, 78, 79, 80, 81, 82, 83, 84, 85, 86, 21, 87, 88, 23, 89, 90, 91, 92, 93, 19, 20, 22, 94, 95, 96, 97, 98, 99, 32, 33, 34, 100, 101, 102, 103, 104, 105, 120, 121, 122, 123, 124, 125, 126, 106, 107, 108, 109, 110, 111, 112, 113, 114, 115, 116, 117, 118, 119] (by decide +kernel) (by decide +kernel)
set_option maxRecDepth 20000 in
theorem gX3_jump_X3_finishOperation : GoodIn wsX3_jump (wsV RX3 69 RX3 yX3_finishOperation wsX3_finishOperation) := goodIn_app (goodIn_of _ (by decide +kernel)) ggX3_jump_X3_finishOperation
theorem dX3_jump_0 : decode cX3_jump 0 = .ok (.aload_n 0, 1) := by decide +kernel
theorem dX3_jump_1 : decode cX3_jump 1 = .ok (.getfield 20, 3) := by decide +kernel
theorem dX3_jump_4 : decode cX3_jump 4 = .ok (.iload_n 1, 1) := by decide +kernel
theorem dX3_jump_5 : decode cX3_jump 5 = .ok (.invokevirtual 72, 3) := by decide +kernel
theorem dX3_jump_8 : decode cX3_jump 8 = .ok (.ifCond .eq 10, 3) := by decide +kernel
theorem dX3_jump_11 : decode cX3_jump 11 = .ok (.iload_n 2, 1) := by decide +kernel
theorem dX3_jump_12 : decode cX3_jump 12 = .ok (.invokestatic 40, 3) := by decide +kernel
theorem dX3_jump_15 : decode cX3_jump 15 = .ok (.ifCond .ne 7, 3) := by decide +kernel
theorem dX3_jump_18 : decode cX3_jump 18 = .ok (.ldc2_w 47, 3) := by decide +kernel
theorem dX3_jump_21 : decode cX3_jump 21 = .ok (.lreturn, 1) := by decide +kernel
theorem dX3_jump_22 : decode cX3_jump 22 = .ok (.aload_n 0, 1) := by decide +kernel
theorem dX3_jump_23 : decode cX3_jump 23 = .ok (.getfield 24, 3) := by decide +kernel
theorem dX3_jump_26 : decode cX3_jump 26 = .ok (.invokevirtual 55, 3) := by decide +kernel
theorem dX3_jump_29 : decode cX3_jump 29 = .ok (.ifCond .eq 7, 3) := by decide +kernel
theorem dX3_jump_32 : decode cX3_jump 32 = .ok (.ldc2_w 59, 3) := by decide +kernel
theorem dX3_jump_35 : decode cX3_jump 35 = .ok (.lreturn, 1) := by decide +kernel
theorem dX3_jump_36 : decode cX3_jump 36 = .ok (.aload_n 0, 1) := by decide +kernel
theorem dX3_jump_37 : decode cX3_jump 37 = .ok (.getfield 20, 3) := by decide +kernel
theorem dX3_jump_40 : decode cX3_jump 40 = .ok (.iload_n 1, 1) := by decide +kernel
theorem dX3_jump_41 : decode cX3_jump 41 = .ok (.aload_n 0, 1) := by decide +kernel
theorem dX3_jump_42 : decode cX3_jump 42 = .ok (.getfield 32, 3) := by decide +kernel
theorem dX3_jump_45 : decode cX3_jump 45 = .ok (.invokevirtual 75, 3) := by decide +kernel
theorem dX3_jump_48 : decode cX3_jump 48 = .ok (.lstore_n 3, 1) := by decide +kernel
theorem dX3_jump_49 : decode cX3_jump 49 = .ok (.aload_n 0, 1) := by decide +kernel
theorem dX3_jump_50 : decode cX3_jump 50 = .ok (.getfield 20, 3) := by decide +kernel
theorem dX3_jump_53 : decode cX3_jump 53 = .ok (.iload_n 1, 1) := by decide +kernel
theorem dX3_jump_54 : decode cX3_jump 54 = .ok (.iload_n 2, 1) := by decide +kernel
theorem dX3_jump_55 : decode cX3_jump 55 = .ok (.i2l, 1) := by decide +kernel
theorem dX3_jump_56 : decode cX3_jump 56 = .ok (.aload_n 0, 1) := by decide +kernel
theorem dX3_jump_57 : decode cX3_jump 57 = .ok (.getfield 20, 3) := by decide +kernel
theorem dX3_jump_60 : decode cX3_jump 60 = .ok (.iload_n 1, 1) := by decide +kernel
theorem dX3_jump_61 : decode cX3_jump 61 = .ok (.invokevirtual 85, 3) := by decide +kernel
theorem dX3_jump_64 : decode cX3_jump 64 = .ok (.aload_n 0, 1) := by decide +kernel
theorem dX3_jump_65 : decode cX3_jump 65 = .ok (.getfield 32, 3) := by decide +kernel
theorem dX3_jump_68 : decode cX3_jump 68 = .ok (.invokevirtual 61, 3) := by decide +kernel
theorem dX3_jump_71 : decode cX3_jump 71 = .ok (.aload_n 0, 1) := by decide +kernel
theorem dX3_jump_72 : decode cX3_jump 72 = .ok (.iload_n 1, 1) := by decide +kernel
theorem dX3_jump_73 : decode cX3_jump 73 = .ok (.invokevirtual 69, 3) := by decide +kernel
theorem dX3_jump_76 : decode cX3_jump 76 = .ok (.lload_n 3, 1) := by decide +kernel
theorem dX3_jump_77 : decode cX3_jump 77 = .ok (.lreturn, 1) := by decide +kernel
set_option maxRecDepth 20000 in
theorem ggX3_size_X2_number : GoodIn wsX3_size wsX2_number := goodIn_r _ [6, 7, 14, 15, 16, 17] (by decide +kernel) (by decide +kernel)
set_option maxRecDepth 20000 in
theorem gX3_size_X2_number : GoodIn wsX3_size (wsV RX3 89 RX2 yX2_number wsX2_number) := goodIn_app (goodIn_of _ (by decide +kernel)) ggX3_size_X2_number
theorem dX3_size_0 : decode cX3_size 0 = .ok (.aload_n 0, 1) := by decide +kernel
theorem dX3_size_1 : decode cX3_size 1 = .ok (.getfield 20, 3) := by decide +kernel
theorem dX3_size_4 : decode cX3_size 4 = .ok (.invokevirtual 89, 3) := by decide +kernel
theorem dX3_size_7 : decode cX3_size 7 = .ok (.ireturn, 1) := by decide +kernel
set_option maxRecDepth 20000 in
theorem ggX3_point_X2_has : GoodIn wsX3_point wsX2_has := goodIn_r _ [10, 11, 44, 45, 46, 47] (by decide +kernel) (by decide +kernel)
set_option maxRecDepth 20000 in
theorem gX3_point_X2_has : GoodIn wsX3_point (wsV RX3 72 RX2 yX2_has wsX2_has) := goodIn_app (goodIn_of _ (by decide +kernel)) ggX3_point_X2_has
set_option maxRecDepth 20000 in
theorem ggX3_point_X2_valueOf : GoodIn wsX3_point wsX2_valueOf := goodIn_r _ [15, 16, 17, 18, 7, 8, 9, 10, 11, 44, 45, 46, 47] (by decide +kernel) (by decide +kernel)
set_option maxRecDepth 20000 in
theorem gX3_point_X2_valueOf : GoodIn wsX3_point (wsV RX3 75 RX2 yX2_valueOf wsX2_valueOf) := goodIn_app (goodIn_of _ (by decide +kernel)) ggX3_point_X2_valueOf
set_option maxRecDepth 20000 in
theorem ggX3_point_X2_velocityOf : GoodIn wsX3_point wsX2_velocityOf := goodIn_r _ [22, 17, 18, 7, 8, 9, 10, 11, 44, 45, 46, 47] (by decide +kernel) (by decide +kernel)
set_option maxRecDepth 20000 in
theorem gX3_point_X2_velocityOf : GoodIn wsX3_point (wsV RX3 85 RX2 yX2_velocityOf wsX2_velocityOf) := goodIn_app (goodIn_of _ (by decide +kernel)) ggX3_point_X2_velocityOf
set_option maxRecDepth 20000 in
theorem ggX3_point_X0_placeOf : GoodIn wsX3_point wsX0_placeOf := goodIn_r _ [27, 28, 48, 49, 50, 51, 52, 53, 54] (by decide +kernel) (by decide +kernel)
set_option maxRecDepth 20000 in
theorem gX3_point_X0_placeOf : GoodIn wsX3_point (wsV RX3 92 RX0 yX0_placeOf wsX0_placeOf) := goodIn_app (goodIn_of _ (by decide +kernel)) ggX3_point_X0_placeOf
set_option maxRecDepth 20000 in
theorem ggX3_point_X2_rankOf : GoodIn wsX3_point wsX2_rankOf := goodIn_r _ [32, 11, 33, 34, 35, 9, 36, 37, 13, 14, 15, 16, 17, 18, 7, 8, 10, 44, 45, 46, 47] (by decide +kernel) (by decide +kernel)
set_option maxRecDepth 20000 in
theorem gX3_point_X2_rankOf : GoodIn wsX3_point (wsV RX3 95 RX2 yX2_rankOf wsX2_rankOf) := goodIn_app (goodIn_of _ (by decide +kernel)) ggX3_point_X2_rankOf
theorem dX3_point_0 : decode cX3_point 0 = .ok (.aload_n 0, 1) := by decide +kernel
theorem dX3_point_1 : decode cX3_point 1 = .ok (.getfield 20, 3) := by decide +kernel
theorem dX3_point_4 : decode cX3_point 4 = .ok (.iload_n 1, 1) := by decide +kernel
theorem dX3_point_5 : decode cX3_point 5 = .ok (.invokevirtual 72, 3) := by decide +kernel
theorem dX3_point_8 : decode cX3_point 8 = .ok (.ifCond .ne 7, 3) := by decide +kernel
theorem dX3_point_11 : decode cX3_point 11 = .ok (.ldc2_w 47, 3) := by decide +kernel
theorem dX3_point_14 : decode cX3_point 14 = .ok (.lreturn, 1) := by decide +kernel
theorem dX3_point_15 : decode cX3_point 15 = .ok (.iload_n 2, 1) := by decide +kernel
theorem dX3_point_16 : decode cX3_point 16 = .ok (.tableswitch 91 0 4 #[36, 49, 59, 69, 77], 36) := by decide +kernel
theorem dX3_point_52 : decode cX3_point 52 = .ok (.aload_n 0, 1) := by decide +kernel
theorem dX3_point_53 : decode cX3_point 53 = .ok (.getfield 20, 3) := by decide +kernel
theorem dX3_point_56 : decode cX3_point 56 = .ok (.iload_n 1, 1) := by decide +kernel
theorem dX3_point_57 : decode cX3_point 57 = .ok (.aload_n 0, 1) := by decide +kernel
theorem dX3_point_58 : decode cX3_point 58 = .ok (.getfield 32, 3) := by decide +kernel
theorem dX3_point_61 : decode cX3_point 61 = .ok (.invokevirtual 75, 3) := by decide +kernel
theorem dX3_point_64 : decode cX3_point 64 = .ok (.lreturn, 1) := by decide +kernel
theorem dX3_point_65 : decode cX3_point 65 = .ok (.aload_n 0, 1) := by decide +kernel
theorem dX3_point_66 : decode cX3_point 66 = .ok (.getfield 20, 3) := by decide +kernel
theorem dX3_point_69 : decode cX3_point 69 = .ok (.iload_n 1, 1) := by decide +kernel
theorem dX3_point_70 : decode cX3_point 70 = .ok (.invokevirtual 85, 3) := by decide +kernel
theorem dX3_point_73 : decode cX3_point 73 = .ok (.i2l, 1) := by decide +kernel
theorem dX3_point_74 : decode cX3_point 74 = .ok (.lreturn, 1) := by decide +kernel
theorem dX3_point_75 : decode cX3_point 75 = .ok (.aload_n 0, 1) := by decide +kernel
theorem dX3_point_76 : decode cX3_point 76 = .ok (.getfield 12, 3) := by decide +kernel
theorem dX3_point_79 : decode cX3_point 79 = .ok (.iload_n 1, 1) := by decide +kernel
theorem dX3_point_80 : decode cX3_point 80 = .ok (.invokevirtual 92, 3) := by decide +kernel
theorem dX3_point_83 : decode cX3_point 83 = .ok (.i2l, 1) := by decide +kernel
theorem dX3_point_84 : decode cX3_point 84 = .ok (.lreturn, 1) := by decide +kernel
theorem dX3_point_85 : decode cX3_point 85 = .ok (.aload_n 0, 1) := by decide +kernel
theorem dX3_point_86 : decode cX3_point 86 = .ok (.getfield 28, 3) := by decide +kernel
theorem dX3_point_89 : decode cX3_point 89 = .ok (.iload_n 1, 1) := by decide +kernel
theorem dX3_point_90 : decode cX3_point 90 = .ok (.iaload, 1) := by decide +kernel
theorem dX3_point_91 : decode cX3_point 91 = .ok (.i2l, 1) := by decide +kernel
theorem dX3_point_92 : decode cX3_point 92 = .ok (.lreturn, 1) := by decide +kernel
theorem dX3_point_93 : decode cX3_point 93 = .ok (.aload_n 0, 1) := by decide +kernel
theorem dX3_point_94 : decode cX3_point 94 = .ok (.getfield 20, 3) := by decide +kernel
theorem dX3_point_97 : decode cX3_point 97 = .ok (.iload_n 1, 1) := by decide +kernel
theorem dX3_point_98 : decode cX3_point 98 = .ok (.aload_n 0, 1) := by decide +kernel
theorem dX3_point_99 : decode cX3_point 99 = .ok (.getfield 32, 3) := by decide +kernel
theorem dX3_point_102 : decode cX3_point 102 = .ok (.invokevirtual 95, 3) := by decide +kernel
theorem dX3_point_105 : decode cX3_point 105 = .ok (.i2l, 1) := by decide +kernel
theorem dX3_point_106 : decode cX3_point 106 = .ok (.lreturn, 1) := by decide +kernel
theorem dX3_point_107 : decode cX3_point 107 = .ok (.ldc2_w 47, 3) := by decide +kernel
theorem dX3_point_110 : decode cX3_point 110 = .ok (.lreturn, 1) := by decide +kernel
set_option maxRecDepth 20000 in
theorem ggX3_at_X0_pointIn : GoodIn wsX3_at wsX0_pointIn := goodIn_r _ [7, 8, 9, 21, 22, 23, 24, 25, 26, 27] (by decide +kernel) (by decide +kernel)
set_option maxRecDepth 20000 in
theorem gX3_at_X0_pointIn : GoodIn wsX3_at (wsV RX3 99 RX0 yX0_pointIn wsX0_pointIn) := goodIn_app (goodIn_of _ (by decide +kernel)) ggX3_at_X0_pointIn
set_option maxRecDepth 20000 in
theorem ggX3_at_X3_pointOrNotFound : GoodIn wsX3_at wsX3_pointOrNotFound := goodIn_r _ [13, 14] (by decide +kernel) (by decide +kernel)
set_option maxRecDepth 20000 in
theorem gX3_at_X3_pointOrNotFound : GoodIn wsX3_at (va_wsS RX3 102 yX3_pointOrNotFound wsX3_pointOrNotFound) := goodIn_app (goodIn_of _ (by decide +kernel)) ggX3_at_X3_pointOrNotFound
theorem dX3_at_0 : decode cX3_at 0 = .ok (.iload_n 1, 1) := by decide +kernel
theorem dX3_at_1 : decode cX3_at 1 = .ok (.ifCond .ge 7, 3) := by decide +kernel
theorem dX3_at_4 : decode cX3_at 4 = .ok (.ldc2_w 47, 3) := by decide +kernel
theorem dX3_at_7 : decode cX3_at 7 = .ok (.lreturn, 1) := by decide +kernel
theorem dX3_at_8 : decode cX3_at 8 = .ok (.aload_n 0, 1) := by decide +kernel
theorem dX3_at_9 : decode cX3_at 9 = .ok (.getfield 12, 3) := by decide +kernel
theorem dX3_at_12 : decode cX3_at 12 = .ok (.iload_n 1, 1) := by decide +kernel
theorem dX3_at_13 : decode cX3_at 13 = .ok (.invokevirtual 99, 3) := by decide +kernel
theorem dX3_at_16 : decode cX3_at 16 = .ok (.invokestatic 102, 3) := by decide +kernel
theorem dX3_at_19 : decode cX3_at 19 = .ok (.lreturn, 1) := by decide +kernel
set_option maxRecDepth 20000 in
theorem ggX3_pass_X0_nextFailure : GoodIn wsX3_pass wsX0_nextFailure := goodIn_r _ [9, 10, 11, 12, 13, 14, 15, 16, 17, 18, 8, 19, 20, 21, 22, 23, 24, 25, 26, 27, 28, 29, 30, 31, 32, 33, 34, 35, 36, 37, 38, 39, 40, 41, 42, 43, 44, 45, 46, 47, 48, 49, 50, 51, 52, 53, 54, 55, 56, 57, 58, 91, 92, 93, 94, 95, 96, 97, 98, 99, 100, 101] (by decide +kernel) (by decide +kernel)
set_option maxRecDepth 20000 in
theorem gX3_pass_X0_nextFailure : GoodIn wsX3_pass (wsV RX3 107 RX0 yX0_nextFailure wsX0_nextFailure) := goodIn_app (goodIn_of _ (by decide +kernel)) ggX3_pass_X0_nextFailure
set_option maxRecDepth 20000 in
theorem ggX3_pass_X3_stopAt : GoodIn wsX3_pass wsX3_stopAt := goodIn_r _ [63, 1, 64, 4, 65, 66, 67, 8, 68, 69, 70, 71, 72, 11, 20, 25, 26, 27, 28, 29, 30, 31, 32, 73, 41, 42, 36, 43, 44, 45, 46, 47, 48, 49, 50, 51, 52, 53, 54, 74, 75, 76, 77, 78, 79, 80, 81, 82, 83, 84, 85, 86, 87, 88, 89, 90, 91, 92, 93, 94, 95, 96, 97, 98, 99, 100, 101] (by decide +kernel) (by decide +kernel)
set_option maxRecDepth 20000 in
theorem gX3_pass_X3_stopAt : GoodIn wsX3_pass (wsV RX3 110 RX3 yX3_stopAt wsX3_stopAt) := goodIn_app (goodIn_of _ (by decide +kernel)) ggX3_pass_X3_stopAt
theorem dX3_pass_0 : decode cX3_pass 0 = .ok (.iload_n 1, 1) := by decide +kernel
theorem dX3_pass_1 : decode cX3_pass 1 = .ok (.aload_n 0, 1) := by decide +kernel
theorem dX3_pass_2 : decode cX3_pass 2 = .ok (.getfield 32, 3) := by decide +kernel
theorem dX3_pass_5 : decode cX3_pass 5 = .ok (.if_icmp .lt 9, 3) := by decide +kernel
theorem dX3_pass_8 : decode cX3_pass 8 = .ok (.iload_n 1, 1) := by decide +kernel
theorem dX3_pass_9 : decode cX3_pass 9 = .ok (.ldc 106, 2) := by decide +kernel
theorem dX3_pass_11 : decode cX3_pass 11 = .ok (.if_icmp .le 7, 3) := by decide +kernel
theorem dX3_pass_14 : decode cX3_pass 14 = .ok (.ldc2_w 47, 3) := by decide +kernel
theorem dX3_pass_17 : decode cX3_pass 17 = .ok (.lreturn, 1) := by decide +kernel
theorem dX3_pass_18 : decode cX3_pass 18 = .ok (.lconst 0, 1) := by decide +kernel
theorem dX3_pass_19 : decode cX3_pass 19 = .ok (.lstore_n 2, 1) := by decide +kernel
theorem dX3_pass_20 : decode cX3_pass 20 = .ok (.iconst 0, 1) := by decide +kernel
theorem dX3_pass_21 : decode cX3_pass 21 = .ok (.istore 4, 2) := by decide +kernel
theorem dX3_pass_23 : decode cX3_pass 23 = .ok (.iload 4, 2) := by decide +kernel
theorem dX3_pass_25 : decode cX3_pass 25 = .ok (.sipush 276, 3) := by decide +kernel
theorem dX3_pass_28 : decode cX3_pass 28 = .ok (.if_icmp .ge 41, 3) := by decide +kernel
theorem dX3_pass_31 : decode cX3_pass 31 = .ok (.aload_n 0, 1) := by decide +kernel
theorem dX3_pass_32 : decode cX3_pass 32 = .ok (.getfield 12, 3) := by decide +kernel
theorem dX3_pass_35 : decode cX3_pass 35 = .ok (.aload_n 0, 1) := by decide +kernel
theorem dX3_pass_36 : decode cX3_pass 36 = .ok (.getfield 32, 3) := by decide +kernel
theorem dX3_pass_39 : decode cX3_pass 39 = .ok (.invokevirtual 107, 3) := by decide +kernel
theorem dX3_pass_42 : decode cX3_pass 42 = .ok (.istore 5, 2) := by decide +kernel
theorem dX3_pass_44 : decode cX3_pass 44 = .ok (.iload 5, 2) := by decide +kernel
theorem dX3_pass_46 : decode cX3_pass 46 = .ok (.iload_n 1, 1) := by decide +kernel
theorem dX3_pass_47 : decode cX3_pass 47 = .ok (.if_icmp .le 6, 3) := by decide +kernel
theorem dX3_pass_50 : decode cX3_pass 50 = .ok (.goto 19, 3) := by decide +kernel
theorem dX3_pass_53 : decode cX3_pass 53 = .ok (.aload_n 0, 1) := by decide +kernel
theorem dX3_pass_54 : decode cX3_pass 54 = .ok (.iload 5, 2) := by decide +kernel
theorem dX3_pass_56 : decode cX3_pass 56 = .ok (.invokevirtual 110, 3) := by decide +kernel
theorem dX3_pass_59 : decode cX3_pass 59 = .ok (.lload_n 2, 1) := by decide +kernel
theorem dX3_pass_60 : decode cX3_pass 60 = .ok (.lconst 1, 1) := by decide +kernel
theorem dX3_pass_61 : decode cX3_pass 61 = .ok (.ladd, 1) := by decide +kernel
theorem dX3_pass_62 : decode cX3_pass 62 = .ok (.lstore_n 2, 1) := by decide +kernel
theorem dX3_pass_63 : decode cX3_pass 63 = .ok (.iinc 4 1, 3) := by decide +kernel
theorem dX3_pass_66 : decode cX3_pass 66 = .ok (.goto (-43), 3) := by decide +kernel
theorem dX3_pass_69 : decode cX3_pass 69 = .ok (.aload_n 0, 1) := by decide +kernel
theorem dX3_pass_70 : decode cX3_pass 70 = .ok (.iload_n 1, 1) := by decide +kernel
theorem dX3_pass_71 : decode cX3_pass 71 = .ok (.putfield 32, 3) := by decide +kernel
theorem dX3_pass_74 : decode cX3_pass 74 = .ok (.lload_n 2, 1) := by decide +kernel
theorem dX3_pass_75 : decode cX3_pass 75 = .ok (.lreturn, 1) := by decide +kernel
set_option maxRecDepth 20000 in
theorem ggX3_step_X0_nextFailure : GoodIn wsX3_step wsX0_nextFailure := goodIn_r _ [9, 10, 11, 12, 13, 14, 15, 16, 17, 18, 8, 19, 20, 21, 22, 23, 24, 25, 26, 27, 28, 29, 30, 31, 32, 33, 34, 35, 36, 37, 38, 39, 40, 41, 42, 43, 44, 45, 46, 47, 48, 49, 50, 51, 52, 53, 54, 55, 56, 57, 58, 91, 92, 93, 94, 95, 96, 97, 98, 99, 100, 101] (by decide +kernel) (by decide +kernel)
set_option maxRecDepth 20000 in
theorem gX3_step_X0_nextFailure : GoodIn wsX3_step (wsV RX3 107 RX0 yX0_nextFailure wsX0_nextFailure) := goodIn_app (goodIn_of _ (by decide +kernel)) ggX3_step_X0_nextFailure
set_option maxRecDepth 20000 in
theorem ggX3_step_X3_stopAt : GoodIn wsX3_step wsX3_stopAt := goodIn_r _ [63, 2, 64, 1, 65, 66, 67, 8, 68, 69, 70, 71, 72, 11, 20, 25, 26, 27, 28, 29, 30, 31, 32, 73, 41, 42, 36, 43, 44, 45, 46, 47, 48, 49, 50, 51, 52, 53, 54, 74, 75, 76, 77, 78, 79, 80, 81, 82, 83, 84, 85, 86, 87, 88, 89, 90, 91, 92, 93, 94, 95, 96, 97, 98, 99, 100, 101] (by decide +kernel) (by decide +kernel)
set_option maxRecDepth 20000 in
theorem gX3_step_X3_stopAt : GoodIn wsX3_step (wsV RX3 110 RX3 yX3_stopAt wsX3_stopAt) := goodIn_app (goodIn_of _ (by decide +kernel)) ggX3_step_X3_stopAt
theorem dX3_step_0 : decode cX3_step 0 = .ok (.aload_n 0, 1) := by decide +kernel
theorem dX3_step_1 : decode cX3_step 1 = .ok (.getfield 12, 3) := by decide +kernel
theorem dX3_step_4 : decode cX3_step 4 = .ok (.aload_n 0, 1) := by decide +kernel
theorem dX3_step_5 : decode cX3_step 5 = .ok (.getfield 32, 3) := by decide +kernel
theorem dX3_step_8 : decode cX3_step 8 = .ok (.invokevirtual 107, 3) := by decide +kernel
theorem dX3_step_11 : decode cX3_step 11 = .ok (.istore_n 1, 1) := by decide +kernel
theorem dX3_step_12 : decode cX3_step 12 = .ok (.iload_n 1, 1) := by decide +kernel
theorem dX3_step_13 : decode cX3_step 13 = .ok (.ldc 106, 2) := by decide +kernel
theorem dX3_step_15 : decode cX3_step 15 = .ok (.if_icmp .le 7, 3) := by decide +kernel
theorem dX3_step_18 : decode cX3_step 18 = .ok (.ldc2_w 113, 3) := by decide +kernel
theorem dX3_step_21 : decode cX3_step 21 = .ok (.lreturn, 1) := by decide +kernel
theorem dX3_step_22 : decode cX3_step 22 = .ok (.aload_n 0, 1) := by decide +kernel
theorem dX3_step_23 : decode cX3_step 23 = .ok (.iload_n 1, 1) := by decide +kernel
theorem dX3_step_24 : decode cX3_step 24 = .ok (.invokevirtual 110, 3) := by decide +kernel
theorem dX3_step_27 : decode cX3_step 27 = .ok (.iload_n 1, 1) := by decide +kernel
theorem dX3_step_28 : decode cX3_step 28 = .ok (.i2l, 1) := by decide +kernel
theorem dX3_step_29 : decode cX3_step 29 = .ok (.lreturn, 1) := by decide +kernel
theorem dX3_time_0 : decode cX3_time 0 = .ok (.aload_n 0, 1) := by decide +kernel
theorem dX3_time_1 : decode cX3_time 1 = .ok (.getfield 32, 3) := by decide +kernel
theorem dX3_time_4 : decode cX3_time 4 = .ok (.ireturn, 1) := by decide +kernel
theorem dX3_count_0 : decode cX3_count 0 = .ok (.iload_n 1, 1) := by decide +kernel
theorem dX3_count_1 : decode cX3_count 1 = .ok (.tableswitch 48 0 2 #[27, 35, 40], 27) := by decide +kernel
theorem dX3_count_28 : decode cX3_count 28 = .ok (.aload_n 0, 1) := by decide +kernel
theorem dX3_count_29 : decode cX3_count 29 = .ok (.getfield 12, 3) := by decide +kernel
theorem dX3_count_32 : decode cX3_count 32 = .ok (.getfield 115, 3) := by decide +kernel
theorem dX3_count_35 : decode cX3_count 35 = .ok (.lreturn, 1) := by decide +kernel
theorem dX3_count_36 : decode cX3_count 36 = .ok (.aload_n 0, 1) := by decide +kernel
theorem dX3_count_37 : decode cX3_count 37 = .ok (.getfield 36, 3) := by decide +kernel
theorem dX3_count_40 : decode cX3_count 40 = .ok (.lreturn, 1) := by decide +kernel
theorem dX3_count_41 : decode cX3_count 41 = .ok (.aload_n 0, 1) := by decide +kernel
theorem dX3_count_42 : decode cX3_count 42 = .ok (.getfield 12, 3) := by decide +kernel
theorem dX3_count_45 : decode cX3_count 45 = .ok (.getfield 118, 3) := by decide +kernel
theorem dX3_count_48 : decode cX3_count 48 = .ok (.lreturn, 1) := by decide +kernel
theorem dX3_count_49 : decode cX3_count 49 = .ok (.ldc2_w 47, 3) := by decide +kernel
theorem dX3_count_52 : decode cX3_count 52 = .ok (.lreturn, 1) := by decide +kernel
set_option maxRecDepth 20000 in
theorem ggX3_failure_X0_hasCertificate : GoodIn wsX3_failure wsX0_hasCertificate := goodIn_r _ [8, 9, 63, 64, 65, 66, 67, 68, 69] (by decide +kernel) (by decide +kernel)
set_option maxRecDepth 20000 in
theorem gX3_failure_X0_hasCertificate : GoodIn wsX3_failure (wsV RX3 121 RX0 yX0_hasCertificate wsX0_hasCertificate) := goodIn_app (goodIn_of _ (by decide +kernel)) ggX3_failure_X0_hasCertificate
set_option maxRecDepth 20000 in
theorem ggX3_failure_X0_failureOf : GoodIn wsX3_failure wsX0_failureOf := goodIn_r _ [13, 14, 15, 16, 5, 6, 7, 8, 9, 17, 18, 19, 20, 21, 22, 23, 24, 25, 26, 27, 28, 29, 30, 31, 32, 33, 34, 35, 36, 37, 38, 39, 40, 41, 42, 43, 44, 45, 46, 47, 48, 49, 50, 63, 64, 65, 66, 67, 68, 69, 70, 71, 72, 73] (by decide +kernel) (by decide +kernel)
set_option maxRecDepth 20000 in
theorem gX3_failure_X0_failureOf : GoodIn wsX3_failure (wsV RX3 124 RX0 yX0_failureOf wsX0_failureOf) := goodIn_app (goodIn_of _ (by decide +kernel)) ggX3_failure_X0_failureOf
set_option maxRecDepth 20000 in
theorem ggX3_failure_X3_timeOrNotFound : GoodIn wsX3_failure wsX3_timeOrNotFound := goodIn_r _ [54, 55, 56] (by decide +kernel) (by decide +kernel)
set_option maxRecDepth 20000 in
theorem gX3_failure_X3_timeOrNotFound : GoodIn wsX3_failure (va_wsS RX3 127 yX3_timeOrNotFound wsX3_timeOrNotFound) := goodIn_app (goodIn_of _ (by decide +kernel)) ggX3_failure_X3_timeOrNotFound
theorem dX3_failure_0 : decode cX3_failure 0 = .ok (.aload_n 0, 1) := by decide +kernel
theorem dX3_failure_1 : decode cX3_failure 1 = .ok (.getfield 12, 3) := by decide +kernel
theorem dX3_failure_4 : decode cX3_failure 4 = .ok (.iload_n 1, 1) := by decide +kernel
theorem dX3_failure_5 : decode cX3_failure 5 = .ok (.invokevirtual 121, 3) := by decide +kernel
theorem dX3_failure_8 : decode cX3_failure 8 = .ok (.ifCond .ne 7, 3) := by decide +kernel
theorem dX3_failure_11 : decode cX3_failure 11 = .ok (.ldc2_w 47, 3) := by decide +kernel
theorem dX3_failure_14 : decode cX3_failure 14 = .ok (.lreturn, 1) := by decide +kernel
theorem dX3_failure_15 : decode cX3_failure 15 = .ok (.aload_n 0, 1) := by decide +kernel
theorem dX3_failure_16 : decode cX3_failure 16 = .ok (.getfield 12, 3) := by decide +kernel
theorem dX3_failure_19 : decode cX3_failure 19 = .ok (.iload_n 1, 1) := by decide +kernel
theorem dX3_failure_20 : decode cX3_failure 20 = .ok (.aload_n 0, 1) := by decide +kernel
theorem dX3_failure_21 : decode cX3_failure 21 = .ok (.getfield 32, 3) := by decide +kernel
theorem dX3_failure_24 : decode cX3_failure 24 = .ok (.invokevirtual 124, 3) := by decide +kernel
theorem dX3_failure_27 : decode cX3_failure 27 = .ok (.invokestatic 127, 3) := by decide +kernel
theorem dX3_failure_30 : decode cX3_failure 30 = .ok (.lreturn, 1) := by decide +kernel
set_option maxRecDepth 20000 in
theorem ggX3_calendar_X0_calendarEntry : GoodIn wsX3_calendar wsX0_calendarEntry := goodIn_r _ [9, 10, 11, 12, 13, 14, 15, 8, 16, 17, 18, 19, 20, 21, 22, 23, 24, 25, 26, 27, 28, 29, 30, 31, 32, 33, 34, 35, 36, 37, 38, 39, 40, 41, 42, 43, 44, 45, 46, 47, 48, 49, 50, 51, 52, 53, 54, 55, 56, 57, 58, 59, 67, 68, 69, 70, 71, 72, 73, 74, 75, 76, 77] (by decide +kernel) (by decide +kernel)
set_option maxRecDepth 20000 in
theorem gX3_calendar_X0_calendarEntry : GoodIn wsX3_calendar (wsV RX3 130 RX0 yX0_calendarEntry wsX0_calendarEntry) := goodIn_app (goodIn_of _ (by decide +kernel)) ggX3_calendar_X0_calendarEntry
set_option maxRecDepth 20000 in
theorem ggX3_calendar_X0_failureOf : GoodIn wsX3_calendar wsX0_failureOf := goodIn_r _ [16, 12, 17, 18, 19, 20, 8, 21, 10, 22, 23, 24, 25, 26, 27, 28, 29, 30, 31, 32, 33, 34, 35, 36, 37, 38, 39, 40, 41, 42, 43, 44, 45, 46, 47, 48, 49, 50, 51, 52, 53, 54, 55, 67, 68, 69, 70, 71, 72, 73, 74, 75, 76, 77] (by decide +kernel) (by decide +kernel)
set_option maxRecDepth 20000 in
theorem gX3_calendar_X0_failureOf : GoodIn wsX3_calendar (wsV RX3 124 RX0 yX0_failureOf wsX0_failureOf) := goodIn_app (goodIn_of _ (by decide +kernel)) ggX3_calendar_X0_failureOf
theorem dX3_calendar_0 : decode cX3_calendar 0 = .ok (.iload_n 1, 1) := by decide +kernel
theorem dX3_calendar_1 : decode cX3_calendar 1 = .ok (.ifCond .lt 12, 3) := by decide +kernel
theorem dX3_calendar_4 : decode cX3_calendar 4 = .ok (.iload_n 2, 1) := by decide +kernel
theorem dX3_calendar_5 : decode cX3_calendar 5 = .ok (.ifCond .lt 8, 3) := by decide +kernel
theorem dX3_calendar_8 : decode cX3_calendar 8 = .ok (.iload_n 2, 1) := by decide +kernel
theorem dX3_calendar_9 : decode cX3_calendar 9 = .ok (.iconst 1, 1) := by decide +kernel
theorem dX3_calendar_10 : decode cX3_calendar 10 = .ok (.if_icmp .le 7, 3) := by decide +kernel
theorem dX3_calendar_13 : decode cX3_calendar 13 = .ok (.ldc2_w 47, 3) := by decide +kernel
theorem dX3_calendar_16 : decode cX3_calendar 16 = .ok (.lreturn, 1) := by decide +kernel
theorem dX3_calendar_17 : decode cX3_calendar 17 = .ok (.aload_n 0, 1) := by decide +kernel
theorem dX3_calendar_18 : decode cX3_calendar 18 = .ok (.getfield 12, 3) := by decide +kernel
theorem dX3_calendar_21 : decode cX3_calendar 21 = .ok (.iload_n 1, 1) := by decide +kernel
theorem dX3_calendar_22 : decode cX3_calendar 22 = .ok (.aload_n 0, 1) := by decide +kernel
theorem dX3_calendar_23 : decode cX3_calendar 23 = .ok (.getfield 32, 3) := by decide +kernel
theorem dX3_calendar_26 : decode cX3_calendar 26 = .ok (.invokevirtual 130, 3) := by decide +kernel
theorem dX3_calendar_29 : decode cX3_calendar 29 = .ok (.istore_n 3, 1) := by decide +kernel
theorem dX3_calendar_30 : decode cX3_calendar 30 = .ok (.iload_n 3, 1) := by decide +kernel
theorem dX3_calendar_31 : decode cX3_calendar 31 = .ok (.ifCond .ne 7, 3) := by decide +kernel
theorem dX3_calendar_34 : decode cX3_calendar 34 = .ok (.ldc2_w 113, 3) := by decide +kernel
theorem dX3_calendar_37 : decode cX3_calendar 37 = .ok (.lreturn, 1) := by decide +kernel
theorem dX3_calendar_38 : decode cX3_calendar 38 = .ok (.iload_n 2, 1) := by decide +kernel
theorem dX3_calendar_39 : decode cX3_calendar 39 = .ok (.ifCond .ne 19, 3) := by decide +kernel
theorem dX3_calendar_42 : decode cX3_calendar 42 = .ok (.aload_n 0, 1) := by decide +kernel
theorem dX3_calendar_43 : decode cX3_calendar 43 = .ok (.getfield 12, 3) := by decide +kernel
theorem dX3_calendar_46 : decode cX3_calendar 46 = .ok (.iload_n 3, 1) := by decide +kernel
theorem dX3_calendar_47 : decode cX3_calendar 47 = .ok (.aload_n 0, 1) := by decide +kernel
theorem dX3_calendar_48 : decode cX3_calendar 48 = .ok (.getfield 32, 3) := by decide +kernel
theorem dX3_calendar_51 : decode cX3_calendar 51 = .ok (.invokevirtual 124, 3) := by decide +kernel
theorem dX3_calendar_54 : decode cX3_calendar 54 = .ok (.i2l, 1) := by decide +kernel
theorem dX3_calendar_55 : decode cX3_calendar 55 = .ok (.goto 5, 3) := by decide +kernel
theorem dX3_calendar_58 : decode cX3_calendar 58 = .ok (.iload_n 3, 1) := by decide +kernel
theorem dX3_calendar_59 : decode cX3_calendar 59 = .ok (.i2l, 1) := by decide +kernel
theorem dX3_calendar_60 : decode cX3_calendar 60 = .ok (.lreturn, 1) := by decide +kernel
set_option maxRecDepth 20000 in
theorem ggX3_calendarSize_X0_calendarLength : GoodIn wsX3_calendarSize wsX0_calendarLength := goodIn_r _ [7, 8, 9, 10, 11, 12, 6, 13, 14, 15, 16, 17, 18, 19, 20, 21, 22, 23, 24, 25, 26, 27, 28, 29, 30, 31, 32, 33, 34, 35, 36, 37, 38, 39, 40, 41, 42, 43, 44, 45, 46, 47, 48, 49, 50, 51, 52, 59, 60, 61, 62, 63, 64, 65, 66, 67, 68, 69] (by decide +kernel) (by decide +kernel)
set_option maxRecDepth 20000 in
theorem gX3_calendarSize_X0_calendarLength : GoodIn wsX3_calendarSize (wsV RX3 133 RX0 yX0_calendarLength wsX0_calendarLength) := goodIn_app (goodIn_of _ (by decide +kernel)) ggX3_calendarSize_X0_calendarLength
theorem dX3_calendarSize_0 : decode cX3_calendarSize 0 = .ok (.aload_n 0, 1) := by decide +kernel
theorem dX3_calendarSize_1 : decode cX3_calendarSize 1 = .ok (.getfield 12, 3) := by decide +kernel
theorem dX3_calendarSize_4 : decode cX3_calendarSize 4 = .ok (.aload_n 0, 1) := by decide +kernel
theorem dX3_calendarSize_5 : decode cX3_calendarSize 5 = .ok (.getfield 32, 3) := by decide +kernel
theorem dX3_calendarSize_8 : decode cX3_calendarSize 8 = .ok (.invokevirtual 133, 3) := by decide +kernel
theorem dX3_calendarSize_11 : decode cX3_calendarSize 11 = .ok (.ireturn, 1) := by decide +kernel
set_option maxRecDepth 20000 in
theorem ggX3_topChange_X2_number : GoodIn wsX3_topChange wsX2_number := goodIn_r _ [8, 9, 59, 60, 61, 62] (by decide +kernel) (by decide +kernel)
set_option maxRecDepth 20000 in
theorem gX3_topChange_X2_number : GoodIn wsX3_topChange (wsV RX3 89 RX2 yX2_number wsX2_number) := goodIn_app (goodIn_of _ (by decide +kernel)) ggX3_topChange_X2_number
set_option maxRecDepth 20000 in
theorem ggX3_topChange_X2_nextFirst : GoodIn wsX3_topChange wsX2_nextFirst := goodIn_r _ [13, 14, 15, 16, 17, 18, 19, 20, 21, 22, 7, 23, 24, 25, 26, 27, 28, 29, 30, 31, 32, 33, 34, 35, 36, 37, 38, 39, 40, 41, 42, 43, 44, 45, 46, 59, 60, 61, 62] (by decide +kernel) (by decide +kernel)
set_option maxRecDepth 20000 in
theorem gX3_topChange_X2_nextFirst : GoodIn wsX3_topChange (wsV RX3 138 RX2 yX2_nextFirst wsX2_nextFirst) := goodIn_app (goodIn_of _ (by decide +kernel)) ggX3_topChange_X2_nextFirst
set_option maxRecDepth 20000 in
theorem ggX3_topChange_X3_timeOrNotFound : GoodIn wsX3_topChange wsX3_timeOrNotFound := goodIn_r _ [50, 51, 52] (by decide +kernel) (by decide +kernel)
set_option maxRecDepth 20000 in
theorem gX3_topChange_X3_timeOrNotFound : GoodIn wsX3_topChange (va_wsS RX3 127 yX3_timeOrNotFound wsX3_timeOrNotFound) := goodIn_app (goodIn_of _ (by decide +kernel)) ggX3_topChange_X3_timeOrNotFound
theorem dX3_topChange_0 : decode cX3_topChange 0 = .ok (.aload_n 0, 1) := by decide +kernel
theorem dX3_topChange_1 : decode cX3_topChange 1 = .ok (.getfield 20, 3) := by decide +kernel
theorem dX3_topChange_4 : decode cX3_topChange 4 = .ok (.invokevirtual 89, 3) := by decide +kernel
theorem dX3_topChange_7 : decode cX3_topChange 7 = .ok (.ifCond .ne 7, 3) := by decide +kernel
theorem dX3_topChange_10 : decode cX3_topChange 10 = .ok (.ldc2_w 136, 3) := by decide +kernel
theorem dX3_topChange_13 : decode cX3_topChange 13 = .ok (.lreturn, 1) := by decide +kernel
theorem dX3_topChange_14 : decode cX3_topChange 14 = .ok (.aload_n 0, 1) := by decide +kernel
theorem dX3_topChange_15 : decode cX3_topChange 15 = .ok (.getfield 20, 3) := by decide +kernel
theorem dX3_topChange_18 : decode cX3_topChange 18 = .ok (.aload_n 0, 1) := by decide +kernel
theorem dX3_topChange_19 : decode cX3_topChange 19 = .ok (.getfield 32, 3) := by decide +kernel
theorem dX3_topChange_22 : decode cX3_topChange 22 = .ok (.invokevirtual 138, 3) := by decide +kernel
theorem dX3_topChange_25 : decode cX3_topChange 25 = .ok (.invokestatic 127, 3) := by decide +kernel
theorem dX3_topChange_28 : decode cX3_topChange 28 = .ok (.lreturn, 1) := by decide +kernel
set_option maxRecDepth 20000 in
theorem ggX3_meeting_X2_has : GoodIn wsX3_meeting wsX2_has := goodIn_r _ [8, 9, 44, 45, 46, 47] (by decide +kernel) (by decide +kernel)
set_option maxRecDepth 20000 in
theorem gX3_meeting_X2_has : GoodIn wsX3_meeting (wsV RX3 72 RX2 yX2_has wsX2_has) := goodIn_app (goodIn_of _ (by decide +kernel)) ggX3_meeting_X2_has
set_option maxRecDepth 20000 in
theorem ggX3_meeting_X2_isBefore : GoodIn wsX3_meeting wsX2_isBefore := goodIn_r _ [13, 14, 15, 16, 7, 17, 18, 19, 20, 5, 6, 8, 9, 44, 45, 46, 47] (by decide +kernel) (by decide +kernel)
set_option maxRecDepth 20000 in
theorem gX3_meeting_X2_isBefore : GoodIn wsX3_meeting (wsV RX3 141 RX2 yX2_isBefore wsX2_isBefore) := goodIn_app (goodIn_of _ (by decide +kernel)) ggX3_meeting_X2_isBefore
set_option maxRecDepth 20000 in
theorem ggX3_meeting_X2_endOfOrder : GoodIn wsX3_meeting wsX2_endOfOrder := goodIn_r _ [24, 25, 26, 27, 11, 12, 7, 13, 14, 15, 16, 17, 18, 19, 20, 5, 6, 8, 9, 28, 29, 30, 31, 44, 45, 46, 47] (by decide +kernel) (by decide +kernel)
set_option maxRecDepth 20000 in
theorem gX3_meeting_X2_endOfOrder : GoodIn wsX3_meeting (wsV RX3 145 RX2 yX2_endOfOrder wsX2_endOfOrder) := goodIn_app (goodIn_of _ (by decide +kernel)) ggX3_meeting_X2_endOfOrder
set_option maxRecDepth 20000 in
theorem ggX3_meeting_X3_timeOrNotFound : GoodIn wsX3_meeting wsX3_timeOrNotFound := goodIn_r _ [35, 36, 37] (by decide +kernel) (by decide +kernel)
set_option maxRecDepth 20000 in
theorem gX3_meeting_X3_timeOrNotFound : GoodIn wsX3_meeting (va_wsS RX3 127 yX3_timeOrNotFound wsX3_timeOrNotFound) := goodIn_app (goodIn_of _ (by decide +kernel)) ggX3_meeting_X3_timeOrNotFound
theorem dX3_meeting_0 : decode cX3_meeting 0 = .ok (.aload_n 0, 1) := by decide +kernel
theorem dX3_meeting_1 : decode cX3_meeting 1 = .ok (.getfield 20, 3) := by decide +kernel
theorem dX3_meeting_4 : decode cX3_meeting 4 = .ok (.iload_n 1, 1) := by decide +kernel
theorem dX3_meeting_5 : decode cX3_meeting 5 = .ok (.invokevirtual 72, 3) := by decide +kernel
theorem dX3_meeting_8 : decode cX3_meeting 8 = .ok (.ifCond .eq 19, 3) := by decide +kernel
theorem dX3_meeting_11 : decode cX3_meeting 11 = .ok (.aload_n 0, 1) := by decide +kernel
theorem dX3_meeting_12 : decode cX3_meeting 12 = .ok (.getfield 20, 3) := by decide +kernel
theorem dX3_meeting_15 : decode cX3_meeting 15 = .ok (.iload_n 2, 1) := by decide +kernel
theorem dX3_meeting_16 : decode cX3_meeting 16 = .ok (.invokevirtual 72, 3) := by decide +kernel
theorem dX3_meeting_19 : decode cX3_meeting 19 = .ok (.ifCond .eq 8, 3) := by decide +kernel
theorem dX3_meeting_22 : decode cX3_meeting 22 = .ok (.iload_n 1, 1) := by decide +kernel
theorem dX3_meeting_23 : decode cX3_meeting 23 = .ok (.iload_n 2, 1) := by decide +kernel
theorem dX3_meeting_24 : decode cX3_meeting 24 = .ok (.if_icmp .ne 7, 3) := by decide +kernel
theorem dX3_meeting_27 : decode cX3_meeting 27 = .ok (.ldc2_w 47, 3) := by decide +kernel
theorem dX3_meeting_30 : decode cX3_meeting 30 = .ok (.lreturn, 1) := by decide +kernel
theorem dX3_meeting_31 : decode cX3_meeting 31 = .ok (.aload_n 0, 1) := by decide +kernel
theorem dX3_meeting_32 : decode cX3_meeting 32 = .ok (.getfield 20, 3) := by decide +kernel
theorem dX3_meeting_35 : decode cX3_meeting 35 = .ok (.iload_n 1, 1) := by decide +kernel
theorem dX3_meeting_36 : decode cX3_meeting 36 = .ok (.iload_n 2, 1) := by decide +kernel
theorem dX3_meeting_37 : decode cX3_meeting 37 = .ok (.aload_n 0, 1) := by decide +kernel
theorem dX3_meeting_38 : decode cX3_meeting 38 = .ok (.getfield 32, 3) := by decide +kernel
theorem dX3_meeting_41 : decode cX3_meeting 41 = .ok (.invokevirtual 141, 3) := by decide +kernel
theorem dX3_meeting_44 : decode cX3_meeting 44 = .ok (.ifCond .eq 20, 3) := by decide +kernel
theorem dX3_meeting_47 : decode cX3_meeting 47 = .ok (.aload_n 0, 1) := by decide +kernel
theorem dX3_meeting_48 : decode cX3_meeting 48 = .ok (.getfield 20, 3) := by decide +kernel
theorem dX3_meeting_51 : decode cX3_meeting 51 = .ok (.iload_n 1, 1) := by decide +kernel
theorem dX3_meeting_52 : decode cX3_meeting 52 = .ok (.iload_n 2, 1) := by decide +kernel
theorem dX3_meeting_53 : decode cX3_meeting 53 = .ok (.aload_n 0, 1) := by decide +kernel
theorem dX3_meeting_54 : decode cX3_meeting 54 = .ok (.getfield 32, 3) := by decide +kernel
theorem dX3_meeting_57 : decode cX3_meeting 57 = .ok (.invokevirtual 145, 3) := by decide +kernel
theorem dX3_meeting_60 : decode cX3_meeting 60 = .ok (.invokestatic 127, 3) := by decide +kernel
theorem dX3_meeting_63 : decode cX3_meeting 63 = .ok (.lreturn, 1) := by decide +kernel
theorem dX3_meeting_64 : decode cX3_meeting 64 = .ok (.aload_n 0, 1) := by decide +kernel
theorem dX3_meeting_65 : decode cX3_meeting 65 = .ok (.getfield 20, 3) := by decide +kernel
theorem dX3_meeting_68 : decode cX3_meeting 68 = .ok (.iload_n 2, 1) := by decide +kernel
theorem dX3_meeting_69 : decode cX3_meeting 69 = .ok (.iload_n 1, 1) := by decide +kernel
theorem dX3_meeting_70 : decode cX3_meeting 70 = .ok (.aload_n 0, 1) := by decide +kernel
theorem dX3_meeting_71 : decode cX3_meeting 71 = .ok (.getfield 32, 3) := by decide +kernel
theorem dX3_meeting_74 : decode cX3_meeting 74 = .ok (.invokevirtual 145, 3) := by decide +kernel
theorem dX3_meeting_77 : decode cX3_meeting 77 = .ok (.invokestatic 127, 3) := by decide +kernel
theorem dX3_meeting_80 : decode cX3_meeting 80 = .ok (.lreturn, 1) := by decide +kernel
set_option maxRecDepth 20000 in
theorem ggX3_topAt_X3_momentError : GoodIn wsX3_topAt wsX3_momentError := goodIn_r _ [6, 7, 8, 1, 9, 10, 11, 12, 13, 14, 15, 70, 71, 72, 73, 74, 75, 76, 77, 78, 79, 80, 81, 82, 83, 84, 85] (by decide +kernel) (by decide +kernel)
set_option maxRecDepth 20000 in
theorem gX3_topAt_X3_momentError : GoodIn wsX3_topAt (wsV RX3 149 RX3 yX3_momentError wsX3_momentError) := goodIn_app (goodIn_of _ (by decide +kernel)) ggX3_topAt_X3_momentError
set_option maxRecDepth 20000 in
theorem ggX3_topAt_X1_stateAt : GoodIn wsX3_topAt wsX1_stateAt := goodIn_r _ [19, 20, 21, 22, 23, 24, 25, 26, 27, 28, 29, 30, 31, 32, 33, 34, 13, 35, 36, 37, 38, 39, 40, 41, 42, 43, 44, 45, 46, 47, 48, 49, 50, 51, 52, 53, 76, 77, 78, 79, 80, 81, 82, 83, 84, 85, 86, 87, 88, 89] (by decide +kernel) (by decide +kernel)
set_option maxRecDepth 20000 in
theorem gX3_topAt_X1_stateAt : GoodIn wsX3_topAt (wsV RX3 152 RX1 yX1_stateAt wsX1_stateAt) := goodIn_app (goodIn_of _ (by decide +kernel)) ggX3_topAt_X1_stateAt
set_option maxRecDepth 20000 in
theorem ggX3_topAt_X2_firstAt : GoodIn wsX3_topAt wsX2_firstAt := goodIn_r _ [57, 28, 58, 59, 60, 26, 61, 62, 63, 64, 65, 29, 30, 50, 51, 52, 53, 86, 87, 88, 89] (by decide +kernel) (by decide +kernel)
set_option maxRecDepth 20000 in
theorem gX3_topAt_X2_firstAt : GoodIn wsX3_topAt (wsV RX3 156 RX2 yX2_firstAt wsX2_firstAt) := goodIn_app (goodIn_of _ (by decide +kernel)) ggX3_topAt_X2_firstAt
set_option maxRecDepth 20000 in
theorem ggX3_topAt_X3_pointOrNotFound : GoodIn wsX3_topAt wsX3_pointOrNotFound := goodIn_r _ [68, 69] (by decide +kernel) (by decide +kernel)
set_option maxRecDepth 20000 in
theorem gX3_topAt_X3_pointOrNotFound : GoodIn wsX3_topAt (va_wsS RX3 102 yX3_pointOrNotFound wsX3_pointOrNotFound) := goodIn_app (goodIn_of _ (by decide +kernel)) ggX3_topAt_X3_pointOrNotFound
theorem dX3_topAt_0 : decode cX3_topAt 0 = .ok (.aload_n 0, 1) := by decide +kernel
theorem dX3_topAt_1 : decode cX3_topAt 1 = .ok (.iload_n 1, 1) := by decide +kernel
theorem dX3_topAt_2 : decode cX3_topAt 2 = .ok (.invokevirtual 149, 3) := by decide +kernel
theorem dX3_topAt_5 : decode cX3_topAt 5 = .ok (.lstore_n 2, 1) := by decide +kernel
theorem dX3_topAt_6 : decode cX3_topAt 6 = .ok (.lload_n 2, 1) := by decide +kernel
theorem dX3_topAt_7 : decode cX3_topAt 7 = .ok (.lconst 0, 1) := by decide +kernel
theorem dX3_topAt_8 : decode cX3_topAt 8 = .ok (.lcmp, 1) := by decide +kernel
theorem dX3_topAt_9 : decode cX3_topAt 9 = .ok (.ifCond .eq 5, 3) := by decide +kernel
theorem dX3_topAt_12 : decode cX3_topAt 12 = .ok (.lload_n 2, 1) := by decide +kernel
theorem dX3_topAt_13 : decode cX3_topAt 13 = .ok (.lreturn, 1) := by decide +kernel
theorem dX3_topAt_14 : decode cX3_topAt 14 = .ok (.aload_n 0, 1) := by decide +kernel
theorem dX3_topAt_15 : decode cX3_topAt 15 = .ok (.getfield 24, 3) := by decide +kernel
theorem dX3_topAt_18 : decode cX3_topAt 18 = .ok (.iload_n 1, 1) := by decide +kernel
theorem dX3_topAt_19 : decode cX3_topAt 19 = .ok (.invokevirtual 152, 3) := by decide +kernel
theorem dX3_topAt_22 : decode cX3_topAt 22 = .ok (.iload_n 1, 1) := by decide +kernel
theorem dX3_topAt_23 : decode cX3_topAt 23 = .ok (.invokevirtual 156, 3) := by decide +kernel
theorem dX3_topAt_26 : decode cX3_topAt 26 = .ok (.invokestatic 102, 3) := by decide +kernel
theorem dX3_topAt_29 : decode cX3_topAt 29 = .ok (.lreturn, 1) := by decide +kernel
set_option maxRecDepth 20000 in
theorem ggX3_valueAt_X3_momentError : GoodIn wsX3_valueAt wsX3_momentError := goodIn_r _ [8, 9, 1, 2, 10, 11, 12, 13, 14, 15, 16, 60, 61, 62, 63, 64, 65, 66, 67, 68, 69, 70, 71, 72, 73, 74, 75] (by decide +kernel) (by decide +kernel)
set_option maxRecDepth 20000 in
theorem gX3_valueAt_X3_momentError : GoodIn wsX3_valueAt (wsV RX3 149 RX3 yX3_momentError wsX3_momentError) := goodIn_app (goodIn_of _ (by decide +kernel)) ggX3_valueAt_X3_momentError
set_option maxRecDepth 20000 in
theorem ggX3_valueAt_X1_stateAt : GoodIn wsX3_valueAt wsX1_stateAt := goodIn_r _ [20, 21, 22, 23, 24, 25, 26, 27, 28, 29, 30, 31, 32, 33, 34, 35, 14, 36, 37, 38, 39, 40, 41, 42, 43, 44, 45, 46, 47, 48, 49, 50, 51, 52, 53, 54, 66, 67, 68, 69, 70, 71, 72, 73, 74, 75, 76, 77, 78, 79] (by decide +kernel) (by decide +kernel)
set_option maxRecDepth 20000 in
theorem gX3_valueAt_X1_stateAt : GoodIn wsX3_valueAt (wsV RX3 152 RX1 yX1_stateAt wsX1_stateAt) := goodIn_app (goodIn_of _ (by decide +kernel)) ggX3_valueAt_X1_stateAt
set_option maxRecDepth 20000 in
theorem ggX3_valueAt_X2_has : GoodIn wsX3_valueAt wsX2_has := goodIn_r _ [54, 29, 76, 77, 78, 79] (by decide +kernel) (by decide +kernel)
set_option maxRecDepth 20000 in
theorem gX3_valueAt_X2_has : GoodIn wsX3_valueAt (wsV RX3 72 RX2 yX2_has wsX2_has) := goodIn_app (goodIn_of _ (by decide +kernel)) ggX3_valueAt_X2_has
set_option maxRecDepth 20000 in
theorem ggX3_valueAt_X2_valueOf : GoodIn wsX3_valueAt wsX2_valueOf := goodIn_r _ [59, 30, 31, 51, 52, 53, 27, 54, 29, 76, 77, 78, 79] (by decide +kernel) (by decide +kernel)
set_option maxRecDepth 20000 in
theorem gX3_valueAt_X2_valueOf : GoodIn wsX3_valueAt (wsV RX3 75 RX2 yX2_valueOf wsX2_valueOf) := goodIn_app (goodIn_of _ (by decide +kernel)) ggX3_valueAt_X2_valueOf
theorem dX3_valueAt_0 : decode cX3_valueAt 0 = .ok (.iload_n 1, 1) := by decide +kernel
theorem dX3_valueAt_1 : decode cX3_valueAt 1 = .ok (.ifCond .lt 9, 3) := by decide +kernel
theorem dX3_valueAt_4 : decode cX3_valueAt 4 = .ok (.iload_n 1, 1) := by decide +kernel
theorem dX3_valueAt_5 : decode cX3_valueAt 5 = .ok (.bipush 24, 2) := by decide +kernel
theorem dX3_valueAt_7 : decode cX3_valueAt 7 = .ok (.if_icmp .lt 7, 3) := by decide +kernel
theorem dX3_valueAt_10 : decode cX3_valueAt 10 = .ok (.ldc2_w 47, 3) := by decide +kernel
theorem dX3_valueAt_13 : decode cX3_valueAt 13 = .ok (.lreturn, 1) := by decide +kernel
theorem dX3_valueAt_14 : decode cX3_valueAt 14 = .ok (.aload_n 0, 1) := by decide +kernel
theorem dX3_valueAt_15 : decode cX3_valueAt 15 = .ok (.iload_n 2, 1) := by decide +kernel
theorem dX3_valueAt_16 : decode cX3_valueAt 16 = .ok (.invokevirtual 149, 3) := by decide +kernel
theorem dX3_valueAt_19 : decode cX3_valueAt 19 = .ok (.lstore_n 3, 1) := by decide +kernel
theorem dX3_valueAt_20 : decode cX3_valueAt 20 = .ok (.lload_n 3, 1) := by decide +kernel
theorem dX3_valueAt_21 : decode cX3_valueAt 21 = .ok (.lconst 0, 1) := by decide +kernel
theorem dX3_valueAt_22 : decode cX3_valueAt 22 = .ok (.lcmp, 1) := by decide +kernel
theorem dX3_valueAt_23 : decode cX3_valueAt 23 = .ok (.ifCond .eq 5, 3) := by decide +kernel
theorem dX3_valueAt_26 : decode cX3_valueAt 26 = .ok (.lload_n 3, 1) := by decide +kernel
theorem dX3_valueAt_27 : decode cX3_valueAt 27 = .ok (.lreturn, 1) := by decide +kernel
theorem dX3_valueAt_28 : decode cX3_valueAt 28 = .ok (.aload_n 0, 1) := by decide +kernel
theorem dX3_valueAt_29 : decode cX3_valueAt 29 = .ok (.getfield 24, 3) := by decide +kernel
theorem dX3_valueAt_32 : decode cX3_valueAt 32 = .ok (.iload_n 2, 1) := by decide +kernel
theorem dX3_valueAt_33 : decode cX3_valueAt 33 = .ok (.invokevirtual 152, 3) := by decide +kernel
theorem dX3_valueAt_36 : decode cX3_valueAt 36 = .ok (.astore 5, 2) := by decide +kernel
theorem dX3_valueAt_38 : decode cX3_valueAt 38 = .ok (.aload 5, 2) := by decide +kernel
theorem dX3_valueAt_40 : decode cX3_valueAt 40 = .ok (.iload_n 1, 1) := by decide +kernel
theorem dX3_valueAt_41 : decode cX3_valueAt 41 = .ok (.invokevirtual 72, 3) := by decide +kernel
theorem dX3_valueAt_44 : decode cX3_valueAt 44 = .ok (.ifCond .eq 13, 3) := by decide +kernel
theorem dX3_valueAt_47 : decode cX3_valueAt 47 = .ok (.aload 5, 2) := by decide +kernel
theorem dX3_valueAt_49 : decode cX3_valueAt 49 = .ok (.iload_n 1, 1) := by decide +kernel
theorem dX3_valueAt_50 : decode cX3_valueAt 50 = .ok (.iload_n 2, 1) := by decide +kernel
theorem dX3_valueAt_51 : decode cX3_valueAt 51 = .ok (.invokevirtual 75, 3) := by decide +kernel
theorem dX3_valueAt_54 : decode cX3_valueAt 54 = .ok (.goto 6, 3) := by decide +kernel
theorem dX3_valueAt_57 : decode cX3_valueAt 57 = .ok (.ldc2_w 113, 3) := by decide +kernel
theorem dX3_valueAt_60 : decode cX3_valueAt 60 = .ok (.lreturn, 1) := by decide +kernel
set_option maxRecDepth 20000 in
theorem ggX3_orderAt_X3_momentError : GoodIn wsX3_orderAt wsX3_momentError := goodIn_r _ [7, 8, 1, 2, 9, 10, 11, 12, 13, 14, 15, 74, 75, 76, 77, 78, 79, 80, 81, 82, 83, 84, 85, 86, 87, 88, 89] (by decide +kernel) (by decide +kernel)
set_option maxRecDepth 20000 in
theorem gX3_orderAt_X3_momentError : GoodIn wsX3_orderAt (wsV RX3 149 RX3 yX3_momentError wsX3_momentError) := goodIn_app (goodIn_of _ (by decide +kernel)) ggX3_orderAt_X3_momentError
set_option maxRecDepth 20000 in
theorem ggX3_orderAt_X1_stateAt : GoodIn wsX3_orderAt wsX1_stateAt := goodIn_r _ [19, 20, 21, 22, 23, 24, 25, 26, 27, 28, 29, 30, 31, 32, 33, 34, 13, 35, 36, 37, 38, 39, 40, 41, 42, 43, 44, 45, 46, 47, 48, 49, 50, 51, 52, 53, 80, 81, 82, 83, 84, 85, 86, 87, 88, 89, 90, 91, 92, 93] (by decide +kernel) (by decide +kernel)
set_option maxRecDepth 20000 in
theorem gX3_orderAt_X1_stateAt : GoodIn wsX3_orderAt (wsV RX3 152 RX1 yX1_stateAt wsX1_stateAt) := goodIn_app (goodIn_of _ (by decide +kernel)) ggX3_orderAt_X1_stateAt
set_option maxRecDepth 20000 in
theorem ggX3_orderAt_X2_pointOfRank : GoodIn wsX3_orderAt wsX2_pointOfRank := goodIn_r _ [57, 28, 58, 59, 60, 26, 61, 62, 63, 64, 65, 66, 67, 68, 69, 29, 30, 50, 51, 52, 53, 90, 91, 92, 93] (by decide +kernel) (by decide +kernel)
set_option maxRecDepth 20000 in
theorem gX3_orderAt_X2_pointOfRank : GoodIn wsX3_orderAt (wsV RX3 159 RX2 yX2_pointOfRank wsX2_pointOfRank) := goodIn_app (goodIn_of _ (by decide +kernel)) ggX3_orderAt_X2_pointOfRank
set_option maxRecDepth 20000 in
theorem ggX3_orderAt_X3_pointOrNotFound : GoodIn wsX3_orderAt wsX3_pointOrNotFound := goodIn_r _ [72, 73] (by decide +kernel) (by decide +kernel)
set_option maxRecDepth 20000 in
theorem gX3_orderAt_X3_pointOrNotFound : GoodIn wsX3_orderAt (va_wsS RX3 102 yX3_pointOrNotFound wsX3_pointOrNotFound) := goodIn_app (goodIn_of _ (by decide +kernel)) ggX3_orderAt_X3_pointOrNotFound
theorem dX3_orderAt_0 : decode cX3_orderAt 0 = .ok (.iload_n 1, 1) := by decide +kernel
theorem dX3_orderAt_1 : decode cX3_orderAt 1 = .ok (.ifCond .ge 7, 3) := by decide +kernel
theorem dX3_orderAt_4 : decode cX3_orderAt 4 = .ok (.ldc2_w 47, 3) := by decide +kernel
theorem dX3_orderAt_7 : decode cX3_orderAt 7 = .ok (.lreturn, 1) := by decide +kernel
theorem dX3_orderAt_8 : decode cX3_orderAt 8 = .ok (.aload_n 0, 1) := by decide +kernel
theorem dX3_orderAt_9 : decode cX3_orderAt 9 = .ok (.iload_n 2, 1) := by decide +kernel
theorem dX3_orderAt_10 : decode cX3_orderAt 10 = .ok (.invokevirtual 149, 3) := by decide +kernel
theorem dX3_orderAt_13 : decode cX3_orderAt 13 = .ok (.lstore_n 3, 1) := by decide +kernel
theorem dX3_orderAt_14 : decode cX3_orderAt 14 = .ok (.lload_n 3, 1) := by decide +kernel
theorem dX3_orderAt_15 : decode cX3_orderAt 15 = .ok (.lconst 0, 1) := by decide +kernel
theorem dX3_orderAt_16 : decode cX3_orderAt 16 = .ok (.lcmp, 1) := by decide +kernel
theorem dX3_orderAt_17 : decode cX3_orderAt 17 = .ok (.ifCond .eq 5, 3) := by decide +kernel
theorem dX3_orderAt_20 : decode cX3_orderAt 20 = .ok (.lload_n 3, 1) := by decide +kernel
theorem dX3_orderAt_21 : decode cX3_orderAt 21 = .ok (.lreturn, 1) := by decide +kernel
theorem dX3_orderAt_22 : decode cX3_orderAt 22 = .ok (.aload_n 0, 1) := by decide +kernel
theorem dX3_orderAt_23 : decode cX3_orderAt 23 = .ok (.getfield 24, 3) := by decide +kernel
theorem dX3_orderAt_26 : decode cX3_orderAt 26 = .ok (.iload_n 2, 1) := by decide +kernel
theorem dX3_orderAt_27 : decode cX3_orderAt 27 = .ok (.invokevirtual 152, 3) := by decide +kernel
theorem dX3_orderAt_30 : decode cX3_orderAt 30 = .ok (.iload_n 1, 1) := by decide +kernel
theorem dX3_orderAt_31 : decode cX3_orderAt 31 = .ok (.iload_n 2, 1) := by decide +kernel
theorem dX3_orderAt_32 : decode cX3_orderAt 32 = .ok (.invokevirtual 159, 3) := by decide +kernel
theorem dX3_orderAt_35 : decode cX3_orderAt 35 = .ok (.invokestatic 102, 3) := by decide +kernel
theorem dX3_orderAt_38 : decode cX3_orderAt 38 = .ok (.lreturn, 1) := by decide +kernel
set_option maxRecDepth 20000 in
theorem ggX3_sizeAt_X3_momentError : GoodIn wsX3_sizeAt wsX3_momentError := goodIn_r _ [6, 7, 8, 1, 9, 10, 11, 12, 13, 14, 15, 58, 59, 60, 61, 62, 63, 64, 65, 66, 67, 68, 69, 70, 71, 72, 73] (by decide +kernel) (by decide +kernel)
set_option maxRecDepth 20000 in
theorem gX3_sizeAt_X3_momentError : GoodIn wsX3_sizeAt (wsV RX3 149 RX3 yX3_momentError wsX3_momentError) := goodIn_app (goodIn_of _ (by decide +kernel)) ggX3_sizeAt_X3_momentError
set_option maxRecDepth 20000 in
theorem ggX3_sizeAt_X1_stateAt : GoodIn wsX3_sizeAt wsX1_stateAt := goodIn_r _ [19, 20, 21, 22, 23, 24, 25, 26, 27, 28, 29, 30, 31, 32, 33, 34, 13, 35, 36, 37, 38, 39, 40, 41, 42, 43, 44, 45, 46, 47, 48, 49, 50, 51, 52, 53, 64, 65, 66, 67, 68, 69, 70, 71, 72, 73, 74, 75, 76, 77] (by decide +kernel) (by decide +kernel)
set_option maxRecDepth 20000 in
theorem gX3_sizeAt_X1_stateAt : GoodIn wsX3_sizeAt (wsV RX3 152 RX1 yX1_stateAt wsX1_stateAt) := goodIn_app (goodIn_of _ (by decide +kernel)) ggX3_sizeAt_X1_stateAt
set_option maxRecDepth 20000 in
theorem ggX3_sizeAt_X2_number : GoodIn wsX3_sizeAt wsX2_number := goodIn_r _ [57, 31, 74, 75, 76, 77] (by decide +kernel) (by decide +kernel)
set_option maxRecDepth 20000 in
theorem gX3_sizeAt_X2_number : GoodIn wsX3_sizeAt (wsV RX3 89 RX2 yX2_number wsX2_number) := goodIn_app (goodIn_of _ (by decide +kernel)) ggX3_sizeAt_X2_number
theorem dX3_sizeAt_0 : decode cX3_sizeAt 0 = .ok (.aload_n 0, 1) := by decide +kernel
theorem dX3_sizeAt_1 : decode cX3_sizeAt 1 = .ok (.iload_n 1, 1) := by decide +kernel
theorem dX3_sizeAt_2 : decode cX3_sizeAt 2 = .ok (.invokevirtual 149, 3) := by decide +kernel
theorem dX3_sizeAt_5 : decode cX3_sizeAt 5 = .ok (.lstore_n 2, 1) := by decide +kernel
theorem dX3_sizeAt_6 : decode cX3_sizeAt 6 = .ok (.lload_n 2, 1) := by decide +kernel
theorem dX3_sizeAt_7 : decode cX3_sizeAt 7 = .ok (.lconst 0, 1) := by decide +kernel
theorem dX3_sizeAt_8 : decode cX3_sizeAt 8 = .ok (.lcmp, 1) := by decide +kernel
theorem dX3_sizeAt_9 : decode cX3_sizeAt 9 = .ok (.ifCond .eq 5, 3) := by decide +kernel
theorem dX3_sizeAt_12 : decode cX3_sizeAt 12 = .ok (.lload_n 2, 1) := by decide +kernel
theorem dX3_sizeAt_13 : decode cX3_sizeAt 13 = .ok (.lreturn, 1) := by decide +kernel
theorem dX3_sizeAt_14 : decode cX3_sizeAt 14 = .ok (.aload_n 0, 1) := by decide +kernel
theorem dX3_sizeAt_15 : decode cX3_sizeAt 15 = .ok (.getfield 24, 3) := by decide +kernel
theorem dX3_sizeAt_18 : decode cX3_sizeAt 18 = .ok (.iload_n 1, 1) := by decide +kernel
theorem dX3_sizeAt_19 : decode cX3_sizeAt 19 = .ok (.invokevirtual 152, 3) := by decide +kernel
theorem dX3_sizeAt_22 : decode cX3_sizeAt 22 = .ok (.invokevirtual 89, 3) := by decide +kernel
theorem dX3_sizeAt_25 : decode cX3_sizeAt 25 = .ok (.i2l, 1) := by decide +kernel
theorem dX3_sizeAt_26 : decode cX3_sizeAt 26 = .ok (.lreturn, 1) := by decide +kernel
set_option maxRecDepth 20000 in
theorem ggX3_topChanges_X3_spanError : GoodIn wsX3_topChanges wsX3_spanError := goodIn_r _ [10, 11, 12, 13, 14, 15, 9, 16, 1, 17, 18, 19, 20, 21, 22, 23, 96, 97, 98, 99, 100, 101, 102, 103, 104, 105, 106, 107, 108, 109, 110, 111] (by decide +kernel) (by decide +kernel)
set_option maxRecDepth 20000 in
theorem gX3_topChanges_X3_spanError : GoodIn wsX3_topChanges (wsV RX3 162 RX3 yX3_spanError wsX3_spanError) := goodIn_app (goodIn_of _ (by decide +kernel)) ggX3_topChanges_X3_spanError
set_option maxRecDepth 20000 in
theorem ggX3_topChanges_X1_stateAt : GoodIn wsX3_topChanges wsX1_stateAt := goodIn_r _ [27, 28, 29, 30, 31, 32, 33, 34, 35, 36, 37, 38, 39, 40, 41, 42, 21, 43, 44, 45, 46, 47, 48, 49, 50, 51, 52, 53, 54, 55, 56, 57, 58, 59, 60, 61, 102, 103, 104, 105, 106, 107, 108, 109, 110, 111, 112, 113, 114, 115] (by decide +kernel) (by decide +kernel)
set_option maxRecDepth 20000 in
theorem gX3_topChanges_X1_stateAt : GoodIn wsX3_topChanges (wsV RX3 152 RX1 yX1_stateAt wsX1_stateAt) := goodIn_app (goodIn_of _ (by decide +kernel)) ggX3_topChanges_X1_stateAt
set_option maxRecDepth 20000 in
theorem ggX3_topChanges_X2_firstAt : GoodIn wsX3_topChanges wsX2_firstAt := goodIn_r _ [65, 36, 66, 67, 68, 34, 69, 70, 71, 72, 73, 37, 38, 58, 59, 60, 61, 112, 113, 114, 115] (by decide +kernel) (by decide +kernel)
set_option maxRecDepth 20000 in
theorem gX3_topChanges_X2_firstAt : GoodIn wsX3_topChanges (wsV RX3 156 RX2 yX2_firstAt wsX2_firstAt) := goodIn_app (goodIn_of _ (by decide +kernel)) ggX3_topChanges_X2_firstAt
set_option maxRecDepth 20000 in
theorem ggX3_topChanges_X1_nextOperation : GoodIn wsX3_topChanges wsX1_nextOperation := goodIn_r _ [77, 30, 44, 45, 78, 102, 103, 104, 105, 106, 107, 108, 109, 110, 111] (by decide +kernel) (by decide +kernel)
set_option maxRecDepth 20000 in
theorem gX3_topChanges_X1_nextOperation : GoodIn wsX3_topChanges (wsV RX3 166 RX1 yX1_nextOperation wsX1_nextOperation) := goodIn_app (goodIn_of _ (by decide +kernel)) ggX3_topChanges_X1_nextOperation
set_option maxRecDepth 20000 in
theorem ggX3_topChanges_X2_nextFirst : GoodIn wsX3_topChanges wsX2_nextFirst := goodIn_r _ [82, 83, 36, 84, 3, 4, 5, 85, 63, 64, 34, 65, 66, 67, 68, 69, 70, 71, 72, 73, 37, 38, 58, 59, 60, 61, 86, 87, 88, 89, 90, 91, 92, 93, 94, 112, 113, 114, 115] (by decide +kernel) (by decide +kernel)
set_option maxRecDepth 20000 in
theorem gX3_topChanges_X2_nextFirst : GoodIn wsX3_topChanges (wsV RX3 138 RX2 yX2_nextFirst wsX2_nextFirst) := goodIn_app (goodIn_of _ (by decide +kernel)) ggX3_topChanges_X2_nextFirst
set_option maxRecDepth 20000 in
theorem ggX3_topChanges_X1_advance : GoodIn wsX3_topChanges wsX1_advance := goodIn_r _ [43, 30, 44, 45, 46, 28, 47, 48, 49, 50, 51, 52, 34, 53, 36, 39, 37, 38, 54, 55, 56, 57, 58, 59, 60, 61, 102, 103, 104, 105, 106, 107, 108, 109, 110, 111, 112, 113, 114, 115] (by decide +kernel) (by decide +kernel)
set_option maxRecDepth 20000 in
theorem gX3_topChanges_X1_advance : GoodIn wsX3_topChanges (wsV RX3 174 RX1 yX1_advance wsX1_advance) := goodIn_app (goodIn_of _ (by decide +kernel)) ggX3_topChanges_X1_advance
theorem dX3_topChanges_0 : decode cX3_topChanges 0 = .ok (.aload_n 0, 1) := by decide +kernel
theorem dX3_topChanges_1 : decode cX3_topChanges 1 = .ok (.iload_n 1, 1) := by decide +kernel
theorem dX3_topChanges_2 : decode cX3_topChanges 2 = .ok (.iload_n 2, 1) := by decide +kernel
theorem dX3_topChanges_3 : decode cX3_topChanges 3 = .ok (.iconst 1, 1) := by decide +kernel
theorem dX3_topChanges_4 : decode cX3_topChanges 4 = .ok (.invokevirtual 162, 3) := by decide +kernel
theorem dX3_topChanges_7 : decode cX3_topChanges 7 = .ok (.lstore_n 3, 1) := by decide +kernel
theorem dX3_topChanges_8 : decode cX3_topChanges 8 = .ok (.lload_n 3, 1) := by decide +kernel
theorem dX3_topChanges_9 : decode cX3_topChanges 9 = .ok (.lconst 0, 1) := by decide +kernel
theorem dX3_topChanges_10 : decode cX3_topChanges 10 = .ok (.lcmp, 1) := by decide +kernel
theorem dX3_topChanges_11 : decode cX3_topChanges 11 = .ok (.ifCond .eq 5, 3) := by decide +kernel
theorem dX3_topChanges_14 : decode cX3_topChanges 14 = .ok (.lload_n 3, 1) := by decide +kernel
theorem dX3_topChanges_15 : decode cX3_topChanges 15 = .ok (.lreturn, 1) := by decide +kernel
theorem dX3_topChanges_16 : decode cX3_topChanges 16 = .ok (.aload_n 0, 1) := by decide +kernel
theorem dX3_topChanges_17 : decode cX3_topChanges 17 = .ok (.getfield 24, 3) := by decide +kernel
theorem dX3_topChanges_20 : decode cX3_topChanges 20 = .ok (.iload_n 1, 1) := by decide +kernel
theorem dX3_topChanges_21 : decode cX3_topChanges 21 = .ok (.iconst 1, 1) := by decide +kernel
theorem dX3_topChanges_22 : decode cX3_topChanges 22 = .ok (.isub, 1) := by decide +kernel
theorem dX3_topChanges_23 : decode cX3_topChanges 23 = .ok (.invokevirtual 152, 3) := by decide +kernel
theorem dX3_topChanges_26 : decode cX3_topChanges 26 = .ok (.astore 5, 2) := by decide +kernel
theorem dX3_topChanges_28 : decode cX3_topChanges 28 = .ok (.aload 5, 2) := by decide +kernel
theorem dX3_topChanges_30 : decode cX3_topChanges 30 = .ok (.iload_n 1, 1) := by decide +kernel
theorem dX3_topChanges_31 : decode cX3_topChanges 31 = .ok (.iconst 1, 1) := by decide +kernel
theorem dX3_topChanges_32 : decode cX3_topChanges 32 = .ok (.isub, 1) := by decide +kernel
theorem dX3_topChanges_33 : decode cX3_topChanges 33 = .ok (.invokevirtual 156, 3) := by decide +kernel
theorem dX3_topChanges_36 : decode cX3_topChanges 36 = .ok (.istore 6, 2) := by decide +kernel
theorem dX3_topChanges_38 : decode cX3_topChanges 38 = .ok (.aload_n 0, 1) := by decide +kernel
theorem dX3_topChanges_39 : decode cX3_topChanges 39 = .ok (.getfield 24, 3) := by decide +kernel
theorem dX3_topChanges_42 : decode cX3_topChanges 42 = .ok (.invokevirtual 166, 3) := by decide +kernel
theorem dX3_topChanges_45 : decode cX3_topChanges 45 = .ok (.aload 5, 2) := by decide +kernel
theorem dX3_topChanges_47 : decode cX3_topChanges 47 = .ok (.iload_n 1, 1) := by decide +kernel
theorem dX3_topChanges_48 : decode cX3_topChanges 48 = .ok (.iconst 1, 1) := by decide +kernel
theorem dX3_topChanges_49 : decode cX3_topChanges 49 = .ok (.isub, 1) := by decide +kernel
theorem dX3_topChanges_50 : decode cX3_topChanges 50 = .ok (.invokevirtual 138, 3) := by decide +kernel
theorem dX3_topChanges_53 : decode cX3_topChanges 53 = .ok (.invokestatic 169, 3) := by decide +kernel
theorem dX3_topChanges_56 : decode cX3_topChanges 56 = .ok (.istore 7, 2) := by decide +kernel
theorem dX3_topChanges_58 : decode cX3_topChanges 58 = .ok (.lconst 0, 1) := by decide +kernel
theorem dX3_topChanges_59 : decode cX3_topChanges 59 = .ok (.lstore 8, 2) := by decide +kernel
theorem dX3_topChanges_61 : decode cX3_topChanges 61 = .ok (.iload_n 1, 1) := by decide +kernel
theorem dX3_topChanges_62 : decode cX3_topChanges 62 = .ok (.istore 10, 2) := by decide +kernel
theorem dX3_topChanges_64 : decode cX3_topChanges 64 = .ok (.iload 10, 2) := by decide +kernel
theorem dX3_topChanges_66 : decode cX3_topChanges 66 = .ok (.iload_n 2, 1) := by decide +kernel
theorem dX3_topChanges_67 : decode cX3_topChanges 67 = .ok (.if_icmp .gt 70, 3) := by decide +kernel
theorem dX3_topChanges_70 : decode cX3_topChanges 70 = .ok (.iload 10, 2) := by decide +kernel
theorem dX3_topChanges_72 : decode cX3_topChanges 72 = .ok (.iload 7, 2) := by decide +kernel
theorem dX3_topChanges_74 : decode cX3_topChanges 74 = .ok (.if_icmp .lt 57, 3) := by decide +kernel
theorem dX3_topChanges_77 : decode cX3_topChanges 77 = .ok (.aload_n 0, 1) := by decide +kernel
theorem dX3_topChanges_78 : decode cX3_topChanges 78 = .ok (.getfield 24, 3) := by decide +kernel
theorem dX3_topChanges_81 : decode cX3_topChanges 81 = .ok (.iload 10, 2) := by decide +kernel
theorem dX3_topChanges_83 : decode cX3_topChanges 83 = .ok (.invokevirtual 174, 3) := by decide +kernel
theorem dX3_topChanges_86 : decode cX3_topChanges 86 = .ok (.aload 5, 2) := by decide +kernel
theorem dX3_topChanges_88 : decode cX3_topChanges 88 = .ok (.iload 10, 2) := by decide +kernel
theorem dX3_topChanges_90 : decode cX3_topChanges 90 = .ok (.invokevirtual 156, 3) := by decide +kernel
theorem dX3_topChanges_93 : decode cX3_topChanges 93 = .ok (.istore 11, 2) := by decide +kernel
theorem dX3_topChanges_95 : decode cX3_topChanges 95 = .ok (.iload 11, 2) := by decide +kernel
theorem dX3_topChanges_97 : decode cX3_topChanges 97 = .ok (.iload 6, 2) := by decide +kernel
theorem dX3_topChanges_99 : decode cX3_topChanges 99 = .ok (.if_icmp .eq 9, 3) := by decide +kernel
theorem dX3_topChanges_102 : decode cX3_topChanges 102 = .ok (.lload 8, 2) := by decide +kernel
theorem dX3_topChanges_104 : decode cX3_topChanges 104 = .ok (.lconst 1, 1) := by decide +kernel
theorem dX3_topChanges_105 : decode cX3_topChanges 105 = .ok (.ladd, 1) := by decide +kernel
theorem dX3_topChanges_106 : decode cX3_topChanges 106 = .ok (.lstore 8, 2) := by decide +kernel
theorem dX3_topChanges_108 : decode cX3_topChanges 108 = .ok (.iload 11, 2) := by decide +kernel
theorem dX3_topChanges_110 : decode cX3_topChanges 110 = .ok (.istore 6, 2) := by decide +kernel
theorem dX3_topChanges_112 : decode cX3_topChanges 112 = .ok (.aload_n 0, 1) := by decide +kernel
theorem dX3_topChanges_113 : decode cX3_topChanges 113 = .ok (.getfield 24, 3) := by decide +kernel
theorem dX3_topChanges_116 : decode cX3_topChanges 116 = .ok (.invokevirtual 166, 3) := by decide +kernel
theorem dX3_topChanges_119 : decode cX3_topChanges 119 = .ok (.aload 5, 2) := by decide +kernel
theorem dX3_topChanges_121 : decode cX3_topChanges 121 = .ok (.iload 10, 2) := by decide +kernel
theorem dX3_topChanges_123 : decode cX3_topChanges 123 = .ok (.invokevirtual 138, 3) := by decide +kernel
theorem dX3_topChanges_126 : decode cX3_topChanges 126 = .ok (.invokestatic 169, 3) := by decide +kernel
theorem dX3_topChanges_129 : decode cX3_topChanges 129 = .ok (.istore 7, 2) := by decide +kernel
theorem dX3_topChanges_131 : decode cX3_topChanges 131 = .ok (.iinc 10 1, 3) := by decide +kernel
theorem dX3_topChanges_134 : decode cX3_topChanges 134 = .ok (.goto (-70), 3) := by decide +kernel
theorem dX3_topChanges_137 : decode cX3_topChanges 137 = .ok (.lload 8, 2) := by decide +kernel
theorem dX3_topChanges_139 : decode cX3_topChanges 139 = .ok (.lreturn, 1) := by decide +kernel
set_option maxRecDepth 20000 in
theorem ggX3_leastBetween_X3_spanError : GoodIn wsX3_leastBetween wsX3_spanError := goodIn_r _ [15, 16, 17, 18, 19, 20, 14, 21, 1, 22, 23, 24, 25, 26, 27, 28, 90, 91, 92, 93, 94, 95, 96, 97, 98, 99, 100, 101, 102, 103, 104, 105] (by decide +kernel) (by decide +kernel)
set_option maxRecDepth 20000 in
theorem gX3_leastBetween_X3_spanError : GoodIn wsX3_leastBetween (wsV RX3 162 RX3 yX3_spanError wsX3_spanError) := goodIn_app (goodIn_of _ (by decide +kernel)) ggX3_leastBetween_X3_spanError
set_option maxRecDepth 20000 in
theorem ggX3_leastBetween_X1_stateAt : GoodIn wsX3_leastBetween wsX1_stateAt := goodIn_r _ [32, 33, 34, 35, 36, 37, 38, 39, 40, 41, 42, 43, 44, 45, 46, 47, 26, 48, 49, 50, 51, 52, 53, 54, 55, 56, 57, 58, 59, 60, 61, 62, 63, 64, 65, 66, 96, 97, 98, 99, 100, 101, 102, 103, 104, 105, 106, 107, 108, 109] (by decide +kernel) (by decide +kernel)
set_option maxRecDepth 20000 in
theorem gX3_leastBetween_X1_stateAt : GoodIn wsX3_leastBetween (wsV RX3 152 RX1 yX1_stateAt wsX1_stateAt) := goodIn_app (goodIn_of _ (by decide +kernel)) ggX3_leastBetween_X1_stateAt
set_option maxRecDepth 20000 in
theorem ggX3_leastBetween_X1_advance : GoodIn wsX3_leastBetween wsX1_advance := goodIn_r _ [48, 35, 49, 50, 51, 33, 52, 53, 54, 55, 56, 57, 39, 58, 41, 44, 42, 43, 59, 60, 61, 62, 63, 64, 65, 66, 96, 97, 98, 99, 100, 101, 102, 103, 104, 105, 106, 107, 108, 109] (by decide +kernel) (by decide +kernel)
set_option maxRecDepth 20000 in
theorem gX3_leastBetween_X1_advance : GoodIn wsX3_leastBetween (wsV RX3 174 RX1 yX1_advance wsX1_advance) := goodIn_app (goodIn_of _ (by decide +kernel)) ggX3_leastBetween_X1_advance
set_option maxRecDepth 20000 in
theorem ggX3_leastBetween_X1_nextOperation : GoodIn wsX3_leastBetween wsX1_nextOperation := goodIn_r _ [71, 35, 49, 50, 72, 96, 97, 98, 99, 100, 101, 102, 103, 104, 105] (by decide +kernel) (by decide +kernel)
set_option maxRecDepth 20000 in
theorem gX3_leastBetween_X1_nextOperation : GoodIn wsX3_leastBetween (wsV RX3 166 RX1 yX1_nextOperation wsX1_nextOperation) := goodIn_app (goodIn_of _ (by decide +kernel)) ggX3_leastBetween_X1_nextOperation
set_option maxRecDepth 20000 in
theorem ggX3_leastBetween_X2_leastAt : GoodIn wsX3_leastBetween wsX2_leastAt := goodIn_r _ [76, 77, 78, 79, 80, 39, 81, 41, 82, 83, 84, 85, 86, 87, 88, 89, 42, 43, 63, 64, 65, 66, 106, 107, 108, 109] (by decide +kernel) (by decide +kernel)
set_option maxRecDepth 20000 in
theorem gX3_leastBetween_X2_leastAt : GoodIn wsX3_leastBetween (wsV RX3 179 RX2 yX2_leastAt wsX2_leastAt) := goodIn_app (goodIn_of _ (by decide +kernel)) ggX3_leastBetween_X2_leastAt
theorem dX3_leastBetween_0 : decode cX3_leastBetween 0 = .ok (.aload_n 0, 1) := by decide +kernel
theorem dX3_leastBetween_1 : decode cX3_leastBetween 1 = .ok (.iload_n 1, 1) := by decide +kernel
theorem dX3_leastBetween_2 : decode cX3_leastBetween 2 = .ok (.iload_n 2, 1) := by decide +kernel
theorem dX3_leastBetween_3 : decode cX3_leastBetween 3 = .ok (.iconst 0, 1) := by decide +kernel
theorem dX3_leastBetween_4 : decode cX3_leastBetween 4 = .ok (.invokevirtual 162, 3) := by decide +kernel
theorem dX3_leastBetween_7 : decode cX3_leastBetween 7 = .ok (.lstore_n 3, 1) := by decide +kernel
theorem dX3_leastBetween_8 : decode cX3_leastBetween 8 = .ok (.lload_n 3, 1) := by decide +kernel
theorem dX3_leastBetween_9 : decode cX3_leastBetween 9 = .ok (.lconst 0, 1) := by decide +kernel
theorem dX3_leastBetween_10 : decode cX3_leastBetween 10 = .ok (.lcmp, 1) := by decide +kernel
theorem dX3_leastBetween_11 : decode cX3_leastBetween 11 = .ok (.ifCond .eq 5, 3) := by decide +kernel
theorem dX3_leastBetween_14 : decode cX3_leastBetween 14 = .ok (.lload_n 3, 1) := by decide +kernel
theorem dX3_leastBetween_15 : decode cX3_leastBetween 15 = .ok (.lreturn, 1) := by decide +kernel
theorem dX3_leastBetween_16 : decode cX3_leastBetween 16 = .ok (.aload_n 0, 1) := by decide +kernel
theorem dX3_leastBetween_17 : decode cX3_leastBetween 17 = .ok (.getfield 24, 3) := by decide +kernel
theorem dX3_leastBetween_20 : decode cX3_leastBetween 20 = .ok (.iload_n 1, 1) := by decide +kernel
theorem dX3_leastBetween_21 : decode cX3_leastBetween 21 = .ok (.invokevirtual 152, 3) := by decide +kernel
theorem dX3_leastBetween_24 : decode cX3_leastBetween 24 = .ok (.astore 5, 2) := by decide +kernel
theorem dX3_leastBetween_26 : decode cX3_leastBetween 26 = .ok (.ldc2_w 177, 3) := by decide +kernel
theorem dX3_leastBetween_29 : decode cX3_leastBetween 29 = .ok (.lstore 6, 2) := by decide +kernel
theorem dX3_leastBetween_31 : decode cX3_leastBetween 31 = .ok (.iload_n 1, 1) := by decide +kernel
theorem dX3_leastBetween_32 : decode cX3_leastBetween 32 = .ok (.iconst 1, 1) := by decide +kernel
theorem dX3_leastBetween_33 : decode cX3_leastBetween 33 = .ok (.isub, 1) := by decide +kernel
theorem dX3_leastBetween_34 : decode cX3_leastBetween 34 = .ok (.istore 8, 2) := by decide +kernel
theorem dX3_leastBetween_36 : decode cX3_leastBetween 36 = .ok (.iload_n 1, 1) := by decide +kernel
theorem dX3_leastBetween_37 : decode cX3_leastBetween 37 = .ok (.istore 9, 2) := by decide +kernel
theorem dX3_leastBetween_39 : decode cX3_leastBetween 39 = .ok (.iload 9, 2) := by decide +kernel
theorem dX3_leastBetween_41 : decode cX3_leastBetween 41 = .ok (.iload_n 2, 1) := by decide +kernel
theorem dX3_leastBetween_42 : decode cX3_leastBetween 42 = .ok (.if_icmp .gt 64, 3) := by decide +kernel
theorem dX3_leastBetween_45 : decode cX3_leastBetween 45 = .ok (.iload 9, 2) := by decide +kernel
theorem dX3_leastBetween_47 : decode cX3_leastBetween 47 = .ok (.iload 8, 2) := by decide +kernel
theorem dX3_leastBetween_49 : decode cX3_leastBetween 49 = .ok (.if_icmp .le 51, 3) := by decide +kernel
theorem dX3_leastBetween_52 : decode cX3_leastBetween 52 = .ok (.aload_n 0, 1) := by decide +kernel
theorem dX3_leastBetween_53 : decode cX3_leastBetween 53 = .ok (.getfield 24, 3) := by decide +kernel
theorem dX3_leastBetween_56 : decode cX3_leastBetween 56 = .ok (.iload 9, 2) := by decide +kernel
theorem dX3_leastBetween_58 : decode cX3_leastBetween 58 = .ok (.invokevirtual 174, 3) := by decide +kernel
theorem dX3_leastBetween_61 : decode cX3_leastBetween 61 = .ok (.iload_n 2, 1) := by decide +kernel
theorem dX3_leastBetween_62 : decode cX3_leastBetween 62 = .ok (.aload_n 0, 1) := by decide +kernel
theorem dX3_leastBetween_63 : decode cX3_leastBetween 63 = .ok (.getfield 24, 3) := by decide +kernel
theorem dX3_leastBetween_66 : decode cX3_leastBetween 66 = .ok (.invokevirtual 166, 3) := by decide +kernel
theorem dX3_leastBetween_69 : decode cX3_leastBetween 69 = .ok (.iconst 1, 1) := by decide +kernel
theorem dX3_leastBetween_70 : decode cX3_leastBetween 70 = .ok (.isub, 1) := by decide +kernel
theorem dX3_leastBetween_71 : decode cX3_leastBetween 71 = .ok (.invokestatic 169, 3) := by decide +kernel
theorem dX3_leastBetween_74 : decode cX3_leastBetween 74 = .ok (.istore 8, 2) := by decide +kernel
theorem dX3_leastBetween_76 : decode cX3_leastBetween 76 = .ok (.lload 6, 2) := by decide +kernel
theorem dX3_leastBetween_78 : decode cX3_leastBetween 78 = .ok (.aload 5, 2) := by decide +kernel
theorem dX3_leastBetween_80 : decode cX3_leastBetween 80 = .ok (.iload 9, 2) := by decide +kernel
theorem dX3_leastBetween_82 : decode cX3_leastBetween 82 = .ok (.invokevirtual 179, 3) := by decide +kernel
theorem dX3_leastBetween_85 : decode cX3_leastBetween 85 = .ok (.aload 5, 2) := by decide +kernel
theorem dX3_leastBetween_87 : decode cX3_leastBetween 87 = .ok (.iload 8, 2) := by decide +kernel
theorem dX3_leastBetween_89 : decode cX3_leastBetween 89 = .ok (.invokevirtual 179, 3) := by decide +kernel
theorem dX3_leastBetween_92 : decode cX3_leastBetween 92 = .ok (.invokestatic 182, 3) := by decide +kernel
theorem dX3_leastBetween_95 : decode cX3_leastBetween 95 = .ok (.invokestatic 182, 3) := by decide +kernel
theorem dX3_leastBetween_98 : decode cX3_leastBetween 98 = .ok (.lstore 6, 2) := by decide +kernel
theorem dX3_leastBetween_100 : decode cX3_leastBetween 100 = .ok (.iinc 9 1, 3) := by decide +kernel
theorem dX3_leastBetween_103 : decode cX3_leastBetween 103 = .ok (.goto (-64), 3) := by decide +kernel
theorem dX3_leastBetween_106 : decode cX3_leastBetween 106 = .ok (.lload 6, 2) := by decide +kernel
theorem dX3_leastBetween_108 : decode cX3_leastBetween 108 = .ok (.ldc2_w 177, 3) := by decide +kernel
theorem dX3_leastBetween_111 : decode cX3_leastBetween 111 = .ok (.lcmp, 1) := by decide +kernel
theorem dX3_leastBetween_112 : decode cX3_leastBetween 112 = .ok (.ifCond .ne 9, 3) := by decide +kernel
theorem dX3_leastBetween_115 : decode cX3_leastBetween 115 = .ok (.ldc2_w 113, 3) := by decide +kernel
theorem dX3_leastBetween_118 : decode cX3_leastBetween 118 = .ok (.goto 5, 3) := by decide +kernel
theorem dX3_leastBetween_121 : decode cX3_leastBetween 121 = .ok (.lload 6, 2) := by decide +kernel
theorem dX3_leastBetween_123 : decode cX3_leastBetween 123 = .ok (.lreturn, 1) := by decide +kernel
set_option maxRecDepth 20000 in
theorem ggX3_forget_X1_operations : GoodIn wsX3_forget wsX1_operations := goodIn_r _ [8, 9, 32, 33, 34, 35, 36, 37, 38, 39, 40, 41] (by decide +kernel) (by decide +kernel)
set_option maxRecDepth 20000 in
theorem gX3_forget_X1_operations : GoodIn wsX3_forget (wsV RX3 185 RX1 yX1_operations wsX1_operations) := goodIn_app (goodIn_of _ (by decide +kernel)) ggX3_forget_X1_operations
set_option maxRecDepth 20000 in
theorem ggX3_forget_X1_restart : GoodIn wsX3_forget wsX1_restart := goodIn_r _ [13, 14, 9, 15, 16, 17, 18, 19, 20, 21, 22, 23, 24, 25, 32, 33, 34, 35, 36, 37, 38, 39, 40, 41, 42, 43, 44, 45] (by decide +kernel) (by decide +kernel)
set_option maxRecDepth 20000 in
theorem gX3_forget_X1_restart : GoodIn wsX3_forget (wsV RX3 188 RX1 yX1_restart wsX1_restart) := goodIn_app (goodIn_of _ (by decide +kernel)) ggX3_forget_X1_restart
theorem dX3_forget_0 : decode cX3_forget 0 = .ok (.aload_n 0, 1) := by decide +kernel
theorem dX3_forget_1 : decode cX3_forget 1 = .ok (.getfield 24, 3) := by decide +kernel
theorem dX3_forget_4 : decode cX3_forget 4 = .ok (.invokevirtual 185, 3) := by decide +kernel
theorem dX3_forget_7 : decode cX3_forget 7 = .ok (.istore_n 1, 1) := by decide +kernel
theorem dX3_forget_8 : decode cX3_forget 8 = .ok (.aload_n 0, 1) := by decide +kernel
theorem dX3_forget_9 : decode cX3_forget 9 = .ok (.getfield 24, 3) := by decide +kernel
theorem dX3_forget_12 : decode cX3_forget 12 = .ok (.aload_n 0, 1) := by decide +kernel
theorem dX3_forget_13 : decode cX3_forget 13 = .ok (.getfield 20, 3) := by decide +kernel
theorem dX3_forget_16 : decode cX3_forget 16 = .ok (.aload_n 0, 1) := by decide +kernel
theorem dX3_forget_17 : decode cX3_forget 17 = .ok (.getfield 32, 3) := by decide +kernel
theorem dX3_forget_20 : decode cX3_forget 20 = .ok (.invokevirtual 188, 3) := by decide +kernel
theorem dX3_forget_23 : decode cX3_forget 23 = .ok (.iload_n 1, 1) := by decide +kernel
theorem dX3_forget_24 : decode cX3_forget 24 = .ok (.ireturn, 1) := by decide +kernel
theorem dX3_isValue_0 : decode cX3_isValue 0 = .ok (.iload_n 0, 1) := by decide +kernel
theorem dX3_isValue_1 : decode cX3_isValue 1 = .ok (.ldc 192, 2) := by decide +kernel
theorem dX3_isValue_3 : decode cX3_isValue 3 = .ok (.if_icmp .lt 13, 3) := by decide +kernel
theorem dX3_isValue_6 : decode cX3_isValue 6 = .ok (.iload_n 0, 1) := by decide +kernel
theorem dX3_isValue_7 : decode cX3_isValue 7 = .ok (.ldc 193, 2) := by decide +kernel
theorem dX3_isValue_9 : decode cX3_isValue 9 = .ok (.if_icmp .gt 7, 3) := by decide +kernel
theorem dX3_isValue_12 : decode cX3_isValue 12 = .ok (.iconst 1, 1) := by decide +kernel
theorem dX3_isValue_13 : decode cX3_isValue 13 = .ok (.goto 4, 3) := by decide +kernel
theorem dX3_isValue_16 : decode cX3_isValue 16 = .ok (.iconst 0, 1) := by decide +kernel
theorem dX3_isValue_17 : decode cX3_isValue 17 = .ok (.ireturn, 1) := by decide +kernel
theorem dX3_isVelocity_0 : decode cX3_isVelocity 0 = .ok (.iload_n 0, 1) := by decide +kernel
theorem dX3_isVelocity_1 : decode cX3_isVelocity 1 = .ok (.sipush (-1000), 3) := by decide +kernel
theorem dX3_isVelocity_4 : decode cX3_isVelocity 4 = .ok (.if_icmp .lt 14, 3) := by decide +kernel
theorem dX3_isVelocity_7 : decode cX3_isVelocity 7 = .ok (.iload_n 0, 1) := by decide +kernel
theorem dX3_isVelocity_8 : decode cX3_isVelocity 8 = .ok (.sipush 1000, 3) := by decide +kernel
theorem dX3_isVelocity_11 : decode cX3_isVelocity 11 = .ok (.if_icmp .gt 7, 3) := by decide +kernel
theorem dX3_isVelocity_14 : decode cX3_isVelocity 14 = .ok (.iconst 1, 1) := by decide +kernel
theorem dX3_isVelocity_15 : decode cX3_isVelocity 15 = .ok (.goto 4, 3) := by decide +kernel
theorem dX3_isVelocity_18 : decode cX3_isVelocity 18 = .ok (.iconst 0, 1) := by decide +kernel
theorem dX3_isVelocity_19 : decode cX3_isVelocity 19 = .ok (.ireturn, 1) := by decide +kernel
theorem dX3_timeOrNotFound_0 : decode cX3_timeOrNotFound 0 = .ok (.iload_n 0, 1) := by decide +kernel
theorem dX3_timeOrNotFound_1 : decode cX3_timeOrNotFound 1 = .ok (.ldc 194, 2) := by decide +kernel
theorem dX3_timeOrNotFound_3 : decode cX3_timeOrNotFound 3 = .ok (.if_icmp .ne 9, 3) := by decide +kernel
theorem dX3_timeOrNotFound_6 : decode cX3_timeOrNotFound 6 = .ok (.ldc2_w 113, 3) := by decide +kernel
theorem dX3_timeOrNotFound_9 : decode cX3_timeOrNotFound 9 = .ok (.goto 5, 3) := by decide +kernel
theorem dX3_timeOrNotFound_12 : decode cX3_timeOrNotFound 12 = .ok (.iload_n 0, 1) := by decide +kernel
theorem dX3_timeOrNotFound_13 : decode cX3_timeOrNotFound 13 = .ok (.i2l, 1) := by decide +kernel
theorem dX3_timeOrNotFound_14 : decode cX3_timeOrNotFound 14 = .ok (.lreturn, 1) := by decide +kernel
theorem dX3_pointOrNotFound_0 : decode cX3_pointOrNotFound 0 = .ok (.iload_n 0, 1) := by decide +kernel
theorem dX3_pointOrNotFound_1 : decode cX3_pointOrNotFound 1 = .ok (.iconst (-1), 1) := by decide +kernel
theorem dX3_pointOrNotFound_2 : decode cX3_pointOrNotFound 2 = .ok (.if_icmp .ne 9, 3) := by decide +kernel
theorem dX3_pointOrNotFound_5 : decode cX3_pointOrNotFound 5 = .ok (.ldc2_w 113, 3) := by decide +kernel
theorem dX3_pointOrNotFound_8 : decode cX3_pointOrNotFound 8 = .ok (.goto 5, 3) := by decide +kernel
theorem dX3_pointOrNotFound_11 : decode cX3_pointOrNotFound 11 = .ok (.iload_n 0, 1) := by decide +kernel
theorem dX3_pointOrNotFound_12 : decode cX3_pointOrNotFound 12 = .ok (.i2l, 1) := by decide +kernel
theorem dX3_pointOrNotFound_13 : decode cX3_pointOrNotFound 13 = .ok (.lreturn, 1) := by decide +kernel
set_option maxRecDepth 20000 in
theorem ggX3_finishOperation_X0_settle : GoodIn wsX3_finishOperation wsX0_settle := goodIn_r _ [9, 10, 11, 12, 8, 13, 14, 15, 16, 17, 18, 19, 20, 21, 22, 23, 24, 25, 26, 27, 28, 29, 30, 31, 32, 33, 34, 35, 36, 37, 38, 39, 40, 41, 42, 43, 44, 45, 46, 47, 48, 49, 50, 81, 82, 83, 84, 85, 86, 87, 88, 89, 90, 91] (by decide +kernel) (by decide +kernel)
set_option maxRecDepth 20000 in
theorem gX3_finishOperation_X0_settle : GoodIn wsX3_finishOperation (wsV RX3 195 RX0 yX0_settle wsX0_settle) := goodIn_app (goodIn_of _ (by decide +kernel)) ggX3_finishOperation_X0_settle
set_option maxRecDepth 20000 in
theorem ggX3_finishOperation_X1_record : GoodIn wsX3_finishOperation wsX1_record := goodIn_r _ [55, 56, 57, 58, 59, 60, 61, 62, 63, 64, 54, 65, 66, 36, 37, 27, 38, 39, 67, 68, 69, 70, 33, 35, 71, 72, 73, 74, 34, 92, 93, 94, 95, 96, 97, 98, 99, 100, 101, 88, 89, 90, 91] (by decide +kernel) (by decide +kernel)
set_option maxRecDepth 20000 in
theorem gX3_finishOperation_X1_record : GoodIn wsX3_finishOperation (wsV RX3 198 RX1 yX1_record wsX1_record) := goodIn_app (goodIn_of _ (by decide +kernel)) ggX3_finishOperation_X1_record
theorem dX3_finishOperation_0 : decode cX3_finishOperation 0 = .ok (.aload_n 0, 1) := by decide +kernel
theorem dX3_finishOperation_1 : decode cX3_finishOperation 1 = .ok (.getfield 12, 3) := by decide +kernel
theorem dX3_finishOperation_4 : decode cX3_finishOperation 4 = .ok (.aload_n 0, 1) := by decide +kernel
theorem dX3_finishOperation_5 : decode cX3_finishOperation 5 = .ok (.getfield 32, 3) := by decide +kernel
theorem dX3_finishOperation_8 : decode cX3_finishOperation 8 = .ok (.invokevirtual 195, 3) := by decide +kernel
theorem dX3_finishOperation_11 : decode cX3_finishOperation 11 = .ok (.aload_n 0, 1) := by decide +kernel
theorem dX3_finishOperation_12 : decode cX3_finishOperation 12 = .ok (.getfield 24, 3) := by decide +kernel
theorem dX3_finishOperation_15 : decode cX3_finishOperation 15 = .ok (.aload_n 0, 1) := by decide +kernel
theorem dX3_finishOperation_16 : decode cX3_finishOperation 16 = .ok (.getfield 20, 3) := by decide +kernel
theorem dX3_finishOperation_19 : decode cX3_finishOperation 19 = .ok (.iload_n 1, 1) := by decide +kernel
theorem dX3_finishOperation_20 : decode cX3_finishOperation 20 = .ok (.aload_n 0, 1) := by decide +kernel
theorem dX3_finishOperation_21 : decode cX3_finishOperation 21 = .ok (.getfield 32, 3) := by decide +kernel
theorem dX3_finishOperation_24 : decode cX3_finishOperation 24 = .ok (.invokevirtual 198, 3) := by decide +kernel
theorem dX3_finishOperation_27 : decode cX3_finishOperation 27 = .ok (.return_, 1) := by decide +kernel
set_option maxRecDepth 20000 in
theorem ggX3_stopAt_X0_settle : GoodIn wsX3_stopAt wsX0_settle := goodIn_r _ [8, 9, 10, 11, 7, 12, 13, 14, 15, 16, 17, 18, 19, 20, 21, 22, 23, 24, 25, 26, 27, 28, 29, 30, 31, 32, 33, 34, 35, 36, 37, 38, 39, 40, 41, 42, 43, 44, 45, 46, 47, 48, 49, 56, 57, 58, 59, 60, 61, 62, 63, 64, 65, 66] (by decide +kernel) (by decide +kernel)
set_option maxRecDepth 20000 in
theorem gX3_stopAt_X0_settle : GoodIn wsX3_stopAt (wsV RX3 195 RX0 yX0_settle wsX0_settle) := goodIn_app (goodIn_of _ (by decide +kernel)) ggX3_stopAt_X0_settle
theorem dX3_stopAt_0 : decode cX3_stopAt 0 = .ok (.aload_n 0, 1) := by decide +kernel
theorem dX3_stopAt_1 : decode cX3_stopAt 1 = .ok (.iload_n 1, 1) := by decide +kernel
theorem dX3_stopAt_2 : decode cX3_stopAt 2 = .ok (.putfield 32, 3) := by decide +kernel
theorem dX3_stopAt_5 : decode cX3_stopAt 5 = .ok (.aload_n 0, 1) := by decide +kernel
theorem dX3_stopAt_6 : decode cX3_stopAt 6 = .ok (.dup, 1) := by decide +kernel
theorem dX3_stopAt_7 : decode cX3_stopAt 7 = .ok (.getfield 36, 3) := by decide +kernel
theorem dX3_stopAt_10 : decode cX3_stopAt 10 = .ok (.lconst 1, 1) := by decide +kernel
theorem dX3_stopAt_11 : decode cX3_stopAt 11 = .ok (.ladd, 1) := by decide +kernel
theorem dX3_stopAt_12 : decode cX3_stopAt 12 = .ok (.putfield 36, 3) := by decide +kernel
theorem dX3_stopAt_15 : decode cX3_stopAt 15 = .ok (.aload_n 0, 1) := by decide +kernel
theorem dX3_stopAt_16 : decode cX3_stopAt 16 = .ok (.getfield 12, 3) := by decide +kernel
theorem dX3_stopAt_19 : decode cX3_stopAt 19 = .ok (.aload_n 0, 1) := by decide +kernel
theorem dX3_stopAt_20 : decode cX3_stopAt 20 = .ok (.getfield 32, 3) := by decide +kernel
theorem dX3_stopAt_23 : decode cX3_stopAt 23 = .ok (.invokevirtual 195, 3) := by decide +kernel
theorem dX3_stopAt_26 : decode cX3_stopAt 26 = .ok (.return_, 1) := by decide +kernel
set_option maxRecDepth 20000 in
theorem ggX3_momentError_X1_knows : GoodIn wsX3_momentError wsX1_knows := goodIn_r _ [9, 10, 17, 18, 19, 20, 21, 22, 23, 24, 25, 26] (by decide +kernel) (by decide +kernel)
set_option maxRecDepth 20000 in
theorem gX3_momentError_X1_knows : GoodIn wsX3_momentError (wsV RX3 202 RX1 yX1_knows wsX1_knows) := goodIn_app (goodIn_of _ (by decide +kernel)) ggX3_momentError_X1_knows
theorem dX3_momentError_0 : decode cX3_momentError 0 = .ok (.iload_n 1, 1) := by decide +kernel
theorem dX3_momentError_1 : decode cX3_momentError 1 = .ok (.ifCond .lt 11, 3) := by decide +kernel
theorem dX3_momentError_4 : decode cX3_momentError 4 = .ok (.iload_n 1, 1) := by decide +kernel
theorem dX3_momentError_5 : decode cX3_momentError 5 = .ok (.aload_n 0, 1) := by decide +kernel
theorem dX3_momentError_6 : decode cX3_momentError 6 = .ok (.getfield 32, 3) := by decide +kernel
theorem dX3_momentError_9 : decode cX3_momentError 9 = .ok (.if_icmp .le 7, 3) := by decide +kernel
theorem dX3_momentError_12 : decode cX3_momentError 12 = .ok (.ldc2_w 47, 3) := by decide +kernel
theorem dX3_momentError_15 : decode cX3_momentError 15 = .ok (.lreturn, 1) := by decide +kernel
theorem dX3_momentError_16 : decode cX3_momentError 16 = .ok (.aload_n 0, 1) := by decide +kernel
theorem dX3_momentError_17 : decode cX3_momentError 17 = .ok (.getfield 24, 3) := by decide +kernel
theorem dX3_momentError_20 : decode cX3_momentError 20 = .ok (.iload_n 1, 1) := by decide +kernel
theorem dX3_momentError_21 : decode cX3_momentError 21 = .ok (.invokevirtual 202, 3) := by decide +kernel
theorem dX3_momentError_24 : decode cX3_momentError 24 = .ok (.ifCond .eq 7, 3) := by decide +kernel
theorem dX3_momentError_27 : decode cX3_momentError 27 = .ok (.lconst 0, 1) := by decide +kernel
theorem dX3_momentError_28 : decode cX3_momentError 28 = .ok (.goto 6, 3) := by decide +kernel
theorem dX3_momentError_31 : decode cX3_momentError 31 = .ok (.ldc2_w 136, 3) := by decide +kernel
theorem dX3_momentError_34 : decode cX3_momentError 34 = .ok (.lreturn, 1) := by decide +kernel
set_option maxRecDepth 20000 in
theorem ggX3_spanError_X3_momentError : GoodIn wsX3_spanError wsX3_momentError := goodIn_r _ [7, 1, 2, 8, 9, 10, 11, 12, 13, 14, 15, 16, 17, 18, 19, 20, 21, 22, 23, 24, 25, 26, 27, 28, 29, 30, 31] (by decide +kernel) (by decide +kernel)
set_option maxRecDepth 20000 in
theorem gX3_spanError_X3_momentError : GoodIn wsX3_spanError (wsV RX3 149 RX3 yX3_momentError wsX3_momentError) := goodIn_app (goodIn_of _ (by decide +kernel)) ggX3_spanError_X3_momentError
theorem dX3_spanError_0 : decode cX3_spanError 0 = .ok (.iload_n 1, 1) := by decide +kernel
theorem dX3_spanError_1 : decode cX3_spanError 1 = .ok (.iload_n 3, 1) := by decide +kernel
theorem dX3_spanError_2 : decode cX3_spanError 2 = .ok (.if_icmp .lt 33, 3) := by decide +kernel
theorem dX3_spanError_5 : decode cX3_spanError 5 = .ok (.iload_n 1, 1) := by decide +kernel
theorem dX3_spanError_6 : decode cX3_spanError 6 = .ok (.aload_n 0, 1) := by decide +kernel
theorem dX3_spanError_7 : decode cX3_spanError 7 = .ok (.getfield 32, 3) := by decide +kernel
theorem dX3_spanError_10 : decode cX3_spanError 10 = .ok (.if_icmp .gt 25, 3) := by decide +kernel
theorem dX3_spanError_13 : decode cX3_spanError 13 = .ok (.iload_n 2, 1) := by decide +kernel
theorem dX3_spanError_14 : decode cX3_spanError 14 = .ok (.iload_n 1, 1) := by decide +kernel
theorem dX3_spanError_15 : decode cX3_spanError 15 = .ok (.if_icmp .lt 20, 3) := by decide +kernel
theorem dX3_spanError_18 : decode cX3_spanError 18 = .ok (.iload_n 2, 1) := by decide +kernel
theorem dX3_spanError_19 : decode cX3_spanError 19 = .ok (.aload_n 0, 1) := by decide +kernel
theorem dX3_spanError_20 : decode cX3_spanError 20 = .ok (.getfield 32, 3) := by decide +kernel
theorem dX3_spanError_23 : decode cX3_spanError 23 = .ok (.if_icmp .gt 12, 3) := by decide +kernel
theorem dX3_spanError_26 : decode cX3_spanError 26 = .ok (.iload_n 2, 1) := by decide +kernel
theorem dX3_spanError_27 : decode cX3_spanError 27 = .ok (.iload_n 1, 1) := by decide +kernel
theorem dX3_spanError_28 : decode cX3_spanError 28 = .ok (.isub, 1) := by decide +kernel
theorem dX3_spanError_29 : decode cX3_spanError 29 = .ok (.sipush 500, 3) := by decide +kernel
theorem dX3_spanError_32 : decode cX3_spanError 32 = .ok (.if_icmp .le 7, 3) := by decide +kernel
theorem dX3_spanError_35 : decode cX3_spanError 35 = .ok (.ldc2_w 47, 3) := by decide +kernel
theorem dX3_spanError_38 : decode cX3_spanError 38 = .ok (.lreturn, 1) := by decide +kernel
theorem dX3_spanError_39 : decode cX3_spanError 39 = .ok (.aload_n 0, 1) := by decide +kernel
theorem dX3_spanError_40 : decode cX3_spanError 40 = .ok (.iload_n 1, 1) := by decide +kernel
theorem dX3_spanError_41 : decode cX3_spanError 41 = .ok (.iload_n 3, 1) := by decide +kernel
theorem dX3_spanError_42 : decode cX3_spanError 42 = .ok (.isub, 1) := by decide +kernel
theorem dX3_spanError_43 : decode cX3_spanError 43 = .ok (.invokevirtual 149, 3) := by decide +kernel
theorem dX3_spanError_46 : decode cX3_spanError 46 = .ok (.lreturn, 1) := by decide +kernel
theorem dX4_init_0 : decode cX4_init 0 = .ok (.aload_n 0, 1) := by decide +kernel
theorem dX4_init_1 : decode cX4_init 1 = .ok (.invokespecial 1, 3) := by decide +kernel
theorem dX4_init_4 : decode cX4_init 4 = .ok (.aload_n 0, 1) := by decide +kernel
theorem dX4_init_5 : decode cX4_init 5 = .ok (.bipush 24, 2) := by decide +kernel
theorem dX4_init_7 : decode cX4_init 7 = .ok (.newarray .int, 2) := by decide +kernel
theorem dX4_init_9 : decode cX4_init 9 = .ok (.putfield 7, 3) := by decide +kernel
theorem dX4_init_12 : decode cX4_init 12 = .ok (.aload_n 0, 1) := by decide +kernel
theorem dX4_init_13 : decode cX4_init 13 = .ok (.bipush 24, 2) := by decide +kernel
theorem dX4_init_15 : decode cX4_init 15 = .ok (.newarray .boolean, 2) := by decide +kernel
theorem dX4_init_17 : decode cX4_init 17 = .ok (.putfield 13, 3) := by decide +kernel
theorem dX4_init_20 : decode cX4_init 20 = .ok (.aload_n 0, 1) := by decide +kernel
theorem dX4_init_21 : decode cX4_init 21 = .ok (.bipush 24, 2) := by decide +kernel
theorem dX4_init_23 : decode cX4_init 23 = .ok (.newarray .long, 2) := by decide +kernel
theorem dX4_init_25 : decode cX4_init 25 = .ok (.putfield 17, 3) := by decide +kernel
theorem dX4_init_28 : decode cX4_init 28 = .ok (.aload_n 0, 1) := by decide +kernel
theorem dX4_init_29 : decode cX4_init 29 = .ok (.bipush 24, 2) := by decide +kernel
theorem dX4_init_31 : decode cX4_init 31 = .ok (.newarray .int, 2) := by decide +kernel
theorem dX4_init_33 : decode cX4_init 33 = .ok (.putfield 21, 3) := by decide +kernel
theorem dX4_init_36 : decode cX4_init 36 = .ok (.aload_n 0, 1) := by decide +kernel
theorem dX4_init_37 : decode cX4_init 37 = .ok (.bipush 24, 2) := by decide +kernel
theorem dX4_init_39 : decode cX4_init 39 = .ok (.newarray .int, 2) := by decide +kernel
theorem dX4_init_41 : decode cX4_init 41 = .ok (.putfield 24, 3) := by decide +kernel
theorem dX4_init_44 : decode cX4_init 44 = .ok (.aload_n 0, 1) := by decide +kernel
theorem dX4_init_45 : decode cX4_init 45 = .ok (.bipush 24, 2) := by decide +kernel
theorem dX4_init_47 : decode cX4_init 47 = .ok (.newarray .int, 2) := by decide +kernel
theorem dX4_init_49 : decode cX4_init 49 = .ok (.putfield 27, 3) := by decide +kernel
theorem dX4_init_52 : decode cX4_init 52 = .ok (.aload_n 0, 1) := by decide +kernel
theorem dX4_init_53 : decode cX4_init 53 = .ok (.sipush 224, 3) := by decide +kernel
theorem dX4_init_56 : decode cX4_init 56 = .ok (.newarray .int, 2) := by decide +kernel
theorem dX4_init_58 : decode cX4_init 58 = .ok (.putfield 30, 3) := by decide +kernel
theorem dX4_init_61 : decode cX4_init 61 = .ok (.aload_n 0, 1) := by decide +kernel
theorem dX4_init_62 : decode cX4_init 62 = .ok (.sipush 224, 3) := by decide +kernel
theorem dX4_init_65 : decode cX4_init 65 = .ok (.newarray .int, 2) := by decide +kernel
theorem dX4_init_67 : decode cX4_init 67 = .ok (.putfield 33, 3) := by decide +kernel
theorem dX4_init_70 : decode cX4_init 70 = .ok (.aload_n 0, 1) := by decide +kernel
theorem dX4_init_71 : decode cX4_init 71 = .ok (.sipush 224, 3) := by decide +kernel
theorem dX4_init_74 : decode cX4_init 74 = .ok (.newarray .boolean, 2) := by decide +kernel
theorem dX4_init_76 : decode cX4_init 76 = .ok (.putfield 36, 3) := by decide +kernel
theorem dX4_init_79 : decode cX4_init 79 = .ok (.aload_n 0, 1) := by decide +kernel
theorem dX4_init_80 : decode cX4_init 80 = .ok (.sipush 224, 3) := by decide +kernel
theorem dX4_init_83 : decode cX4_init 83 = .ok (.newarray .long, 2) := by decide +kernel
theorem dX4_init_85 : decode cX4_init 85 = .ok (.putfield 39, 3) := by decide +kernel
theorem dX4_init_88 : decode cX4_init 88 = .ok (.aload_n 0, 1) := by decide +kernel
theorem dX4_init_89 : decode cX4_init 89 = .ok (.sipush 224, 3) := by decide +kernel
theorem dX4_init_92 : decode cX4_init 92 = .ok (.newarray .int, 2) := by decide +kernel
theorem dX4_init_94 : decode cX4_init 94 = .ok (.putfield 42, 3) := by decide +kernel
theorem dX4_init_97 : decode cX4_init 97 = .ok (.aload_n 0, 1) := by decide +kernel
theorem dX4_init_98 : decode cX4_init 98 = .ok (.bipush 24, 2) := by decide +kernel
theorem dX4_init_100 : decode cX4_init 100 = .ok (.newarray .int, 2) := by decide +kernel
theorem dX4_init_102 : decode cX4_init 102 = .ok (.putfield 45, 3) := by decide +kernel
theorem dX4_init_105 : decode cX4_init 105 = .ok (.aload_n 0, 1) := by decide +kernel
theorem dX4_init_106 : decode cX4_init 106 = .ok (.bipush 24, 2) := by decide +kernel
theorem dX4_init_108 : decode cX4_init 108 = .ok (.newarray .long, 2) := by decide +kernel
theorem dX4_init_110 : decode cX4_init 110 = .ok (.putfield 48, 3) := by decide +kernel
theorem dX4_init_113 : decode cX4_init 113 = .ok (.aload_n 0, 1) := by decide +kernel
theorem dX4_init_114 : decode cX4_init 114 = .ok (.bipush 24, 2) := by decide +kernel
theorem dX4_init_116 : decode cX4_init 116 = .ok (.newarray .int, 2) := by decide +kernel
theorem dX4_init_118 : decode cX4_init 118 = .ok (.putfield 51, 3) := by decide +kernel
theorem dX4_init_121 : decode cX4_init 121 = .ok (.return_, 1) := by decide +kernel
theorem dX4_in_0 : decode cX4_in 0 = .ok (.lload_n 0, 1) := by decide +kernel
theorem dX4_in_1 : decode cX4_in 1 = .ok (.lload_n 2, 1) := by decide +kernel
theorem dX4_in_2 : decode cX4_in 2 = .ok (.lcmp, 1) := by decide +kernel
theorem dX4_in_3 : decode cX4_in 3 = .ok (.ifCond .lt 14, 3) := by decide +kernel
theorem dX4_in_6 : decode cX4_in 6 = .ok (.lload_n 0, 1) := by decide +kernel
theorem dX4_in_7 : decode cX4_in 7 = .ok (.lload 4, 2) := by decide +kernel
theorem dX4_in_9 : decode cX4_in 9 = .ok (.lcmp, 1) := by decide +kernel
theorem dX4_in_10 : decode cX4_in 10 = .ok (.ifCond .gt 7, 3) := by decide +kernel
theorem dX4_in_13 : decode cX4_in 13 = .ok (.iconst 1, 1) := by decide +kernel
theorem dX4_in_14 : decode cX4_in 14 = .ok (.goto 4, 3) := by decide +kernel
theorem dX4_in_17 : decode cX4_in 17 = .ok (.iconst 0, 1) := by decide +kernel
theorem dX4_in_18 : decode cX4_in 18 = .ok (.ireturn, 1) := by decide +kernel
set_option maxRecDepth 20000 in
theorem ggX4_isPoint_X4_in : GoodIn wsX4_isPoint wsX4_in := goodIn_r _ [6] (by decide +kernel) (by decide +kernel)
set_option maxRecDepth 20000 in
theorem gX4_isPoint_X4_in : GoodIn wsX4_isPoint (va_wsS RX4 56 yX4_in wsX4_in) := goodIn_app (goodIn_of _ (by decide +kernel)) ggX4_isPoint_X4_in
theorem dX4_isPoint_0 : decode cX4_isPoint 0 = .ok (.iload_n 1, 1) := by decide +kernel
theorem dX4_isPoint_1 : decode cX4_isPoint 1 = .ok (.i2l, 1) := by decide +kernel
theorem dX4_isPoint_2 : decode cX4_isPoint 2 = .ok (.lconst 0, 1) := by decide +kernel
theorem dX4_isPoint_3 : decode cX4_isPoint 3 = .ok (.ldc2_w 54, 3) := by decide +kernel
theorem dX4_isPoint_6 : decode cX4_isPoint 6 = .ok (.invokestatic 56, 3) := by decide +kernel
theorem dX4_isPoint_9 : decode cX4_isPoint 9 = .ok (.ifCond .eq 16, 3) := by decide +kernel
theorem dX4_isPoint_12 : decode cX4_isPoint 12 = .ok (.aload_n 0, 1) := by decide +kernel
theorem dX4_isPoint_13 : decode cX4_isPoint 13 = .ok (.getfield 13, 3) := by decide +kernel
theorem dX4_isPoint_16 : decode cX4_isPoint 16 = .ok (.iload_n 1, 1) := by decide +kernel
theorem dX4_isPoint_17 : decode cX4_isPoint 17 = .ok (.baload, 1) := by decide +kernel
theorem dX4_isPoint_18 : decode cX4_isPoint 18 = .ok (.ifCond .eq 7, 3) := by decide +kernel
theorem dX4_isPoint_21 : decode cX4_isPoint 21 = .ok (.iconst 1, 1) := by decide +kernel
theorem dX4_isPoint_22 : decode cX4_isPoint 22 = .ok (.goto 4, 3) := by decide +kernel
theorem dX4_isPoint_25 : decode cX4_isPoint 25 = .ok (.iconst 0, 1) := by decide +kernel
theorem dX4_isPoint_26 : decode cX4_isPoint 26 = .ok (.ireturn, 1) := by decide +kernel
theorem dX4_valueOf_0 : decode cX4_valueOf 0 = .ok (.aload_n 0, 1) := by decide +kernel
theorem dX4_valueOf_1 : decode cX4_valueOf 1 = .ok (.getfield 17, 3) := by decide +kernel
theorem dX4_valueOf_4 : decode cX4_valueOf 4 = .ok (.iload_n 1, 1) := by decide +kernel
theorem dX4_valueOf_5 : decode cX4_valueOf 5 = .ok (.laload, 1) := by decide +kernel
theorem dX4_valueOf_6 : decode cX4_valueOf 6 = .ok (.aload_n 0, 1) := by decide +kernel
theorem dX4_valueOf_7 : decode cX4_valueOf 7 = .ok (.getfield 24, 3) := by decide +kernel
theorem dX4_valueOf_10 : decode cX4_valueOf 10 = .ok (.iload_n 1, 1) := by decide +kernel
theorem dX4_valueOf_11 : decode cX4_valueOf 11 = .ok (.iaload, 1) := by decide +kernel
theorem dX4_valueOf_12 : decode cX4_valueOf 12 = .ok (.i2l, 1) := by decide +kernel
theorem dX4_valueOf_13 : decode cX4_valueOf 13 = .ok (.iload_n 2, 1) := by decide +kernel
theorem dX4_valueOf_14 : decode cX4_valueOf 14 = .ok (.aload_n 0, 1) := by decide +kernel
theorem dX4_valueOf_15 : decode cX4_valueOf 15 = .ok (.getfield 21, 3) := by decide +kernel
theorem dX4_valueOf_18 : decode cX4_valueOf 18 = .ok (.iload_n 1, 1) := by decide +kernel
theorem dX4_valueOf_19 : decode cX4_valueOf 19 = .ok (.iaload, 1) := by decide +kernel
theorem dX4_valueOf_20 : decode cX4_valueOf 20 = .ok (.isub, 1) := by decide +kernel
theorem dX4_valueOf_21 : decode cX4_valueOf 21 = .ok (.i2l, 1) := by decide +kernel
theorem dX4_valueOf_22 : decode cX4_valueOf 22 = .ok (.lmul, 1) := by decide +kernel
theorem dX4_valueOf_23 : decode cX4_valueOf 23 = .ok (.ladd, 1) := by decide +kernel
theorem dX4_valueOf_24 : decode cX4_valueOf 24 = .ok (.lreturn, 1) := by decide +kernel
set_option maxRecDepth 20000 in
theorem ggX4_isBefore_X4_valueOf : GoodIn wsX4_isBefore wsX4_valueOf := goodIn_r _ [6, 7, 8, 9, 10, 11, 12, 13, 14, 15, 16, 17, 18, 19, 20, 21, 22, 23, 24, 25, 26, 27, 28, 29, 30, 31, 32] (by decide +kernel) (by decide +kernel)
set_option maxRecDepth 20000 in
theorem gX4_isBefore_X4_valueOf : GoodIn wsX4_isBefore (wsV RX4 64 RX4 yX4_valueOf wsX4_valueOf) := goodIn_app (goodIn_of _ (by decide +kernel)) ggX4_isBefore_X4_valueOf
theorem dX4_isBefore_0 : decode cX4_isBefore 0 = .ok (.aload_n 0, 1) := by decide +kernel
theorem dX4_isBefore_1 : decode cX4_isBefore 1 = .ok (.iload_n 1, 1) := by decide +kernel
theorem dX4_isBefore_2 : decode cX4_isBefore 2 = .ok (.aload_n 0, 1) := by decide +kernel
theorem dX4_isBefore_3 : decode cX4_isBefore 3 = .ok (.getfield 60, 3) := by decide +kernel
theorem dX4_isBefore_6 : decode cX4_isBefore 6 = .ok (.invokevirtual 64, 3) := by decide +kernel
theorem dX4_isBefore_9 : decode cX4_isBefore 9 = .ok (.aload_n 0, 1) := by decide +kernel
theorem dX4_isBefore_10 : decode cX4_isBefore 10 = .ok (.iload_n 2, 1) := by decide +kernel
theorem dX4_isBefore_11 : decode cX4_isBefore 11 = .ok (.aload_n 0, 1) := by decide +kernel
theorem dX4_isBefore_12 : decode cX4_isBefore 12 = .ok (.getfield 60, 3) := by decide +kernel
theorem dX4_isBefore_15 : decode cX4_isBefore 15 = .ok (.invokevirtual 64, 3) := by decide +kernel
theorem dX4_isBefore_18 : decode cX4_isBefore 18 = .ok (.lsub, 1) := by decide +kernel
theorem dX4_isBefore_19 : decode cX4_isBefore 19 = .ok (.lstore_n 3, 1) := by decide +kernel
theorem dX4_isBefore_20 : decode cX4_isBefore 20 = .ok (.lload_n 3, 1) := by decide +kernel
theorem dX4_isBefore_21 : decode cX4_isBefore 21 = .ok (.lconst 0, 1) := by decide +kernel
theorem dX4_isBefore_22 : decode cX4_isBefore 22 = .ok (.lcmp, 1) := by decide +kernel
theorem dX4_isBefore_23 : decode cX4_isBefore 23 = .ok (.ifCond .lt 14, 3) := by decide +kernel
theorem dX4_isBefore_26 : decode cX4_isBefore 26 = .ok (.lload_n 3, 1) := by decide +kernel
theorem dX4_isBefore_27 : decode cX4_isBefore 27 = .ok (.lconst 0, 1) := by decide +kernel
theorem dX4_isBefore_28 : decode cX4_isBefore 28 = .ok (.lcmp, 1) := by decide +kernel
theorem dX4_isBefore_29 : decode cX4_isBefore 29 = .ok (.ifCond .ne 12, 3) := by decide +kernel
theorem dX4_isBefore_32 : decode cX4_isBefore 32 = .ok (.iload_n 1, 1) := by decide +kernel
theorem dX4_isBefore_33 : decode cX4_isBefore 33 = .ok (.iload_n 2, 1) := by decide +kernel
theorem dX4_isBefore_34 : decode cX4_isBefore 34 = .ok (.if_icmp .ge 7, 3) := by decide +kernel
theorem dX4_isBefore_37 : decode cX4_isBefore 37 = .ok (.iconst 1, 1) := by decide +kernel
theorem dX4_isBefore_38 : decode cX4_isBefore 38 = .ok (.goto 4, 3) := by decide +kernel
theorem dX4_isBefore_41 : decode cX4_isBefore 41 = .ok (.iconst 0, 1) := by decide +kernel
theorem dX4_isBefore_42 : decode cX4_isBefore 42 = .ok (.ireturn, 1) := by decide +kernel
set_option maxRecDepth 20000 in
theorem ggX4_crossing_X4_valueOf : GoodIn wsX4_crossing wsX4_valueOf := goodIn_r _ [8, 9, 1, 10, 11, 12, 13, 14, 15, 16, 17, 18, 19, 20, 21, 22, 23, 24, 25, 26, 27, 28, 29, 30, 31, 32, 33] (by decide +kernel) (by decide +kernel)
set_option maxRecDepth 20000 in
theorem gX4_crossing_X4_valueOf : GoodIn wsX4_crossing (wsV RX4 64 RX4 yX4_valueOf wsX4_valueOf) := goodIn_app (goodIn_of _ (by decide +kernel)) ggX4_crossing_X4_valueOf
theorem dX4_crossing_0 : decode cX4_crossing 0 = .ok (.aload_n 0, 1) := by decide +kernel
theorem dX4_crossing_1 : decode cX4_crossing 1 = .ok (.getfield 24, 3) := by decide +kernel
theorem dX4_crossing_4 : decode cX4_crossing 4 = .ok (.iload_n 1, 1) := by decide +kernel
theorem dX4_crossing_5 : decode cX4_crossing 5 = .ok (.iaload, 1) := by decide +kernel
theorem dX4_crossing_6 : decode cX4_crossing 6 = .ok (.aload_n 0, 1) := by decide +kernel
theorem dX4_crossing_7 : decode cX4_crossing 7 = .ok (.getfield 24, 3) := by decide +kernel
theorem dX4_crossing_10 : decode cX4_crossing 10 = .ok (.iload_n 2, 1) := by decide +kernel
theorem dX4_crossing_11 : decode cX4_crossing 11 = .ok (.iaload, 1) := by decide +kernel
theorem dX4_crossing_12 : decode cX4_crossing 12 = .ok (.isub, 1) := by decide +kernel
theorem dX4_crossing_13 : decode cX4_crossing 13 = .ok (.i2l, 1) := by decide +kernel
theorem dX4_crossing_14 : decode cX4_crossing 14 = .ok (.lstore_n 3, 1) := by decide +kernel
theorem dX4_crossing_15 : decode cX4_crossing 15 = .ok (.lload_n 3, 1) := by decide +kernel
theorem dX4_crossing_16 : decode cX4_crossing 16 = .ok (.lconst 0, 1) := by decide +kernel
theorem dX4_crossing_17 : decode cX4_crossing 17 = .ok (.lcmp, 1) := by decide +kernel
theorem dX4_crossing_18 : decode cX4_crossing 18 = .ok (.ifCond .gt 5, 3) := by decide +kernel
theorem dX4_crossing_21 : decode cX4_crossing 21 = .ok (.iconst (-1), 1) := by decide +kernel
theorem dX4_crossing_22 : decode cX4_crossing 22 = .ok (.ireturn, 1) := by decide +kernel
theorem dX4_crossing_23 : decode cX4_crossing 23 = .ok (.aload_n 0, 1) := by decide +kernel
theorem dX4_crossing_24 : decode cX4_crossing 24 = .ok (.iload_n 2, 1) := by decide +kernel
theorem dX4_crossing_25 : decode cX4_crossing 25 = .ok (.aload_n 0, 1) := by decide +kernel
theorem dX4_crossing_26 : decode cX4_crossing 26 = .ok (.getfield 60, 3) := by decide +kernel
theorem dX4_crossing_29 : decode cX4_crossing 29 = .ok (.invokevirtual 64, 3) := by decide +kernel
theorem dX4_crossing_32 : decode cX4_crossing 32 = .ok (.aload_n 0, 1) := by decide +kernel
theorem dX4_crossing_33 : decode cX4_crossing 33 = .ok (.iload_n 1, 1) := by decide +kernel
theorem dX4_crossing_34 : decode cX4_crossing 34 = .ok (.aload_n 0, 1) := by decide +kernel
theorem dX4_crossing_35 : decode cX4_crossing 35 = .ok (.getfield 60, 3) := by decide +kernel
theorem dX4_crossing_38 : decode cX4_crossing 38 = .ok (.invokevirtual 64, 3) := by decide +kernel
theorem dX4_crossing_41 : decode cX4_crossing 41 = .ok (.lsub, 1) := by decide +kernel
theorem dX4_crossing_42 : decode cX4_crossing 42 = .ok (.iload_n 1, 1) := by decide +kernel
theorem dX4_crossing_43 : decode cX4_crossing 43 = .ok (.iload_n 2, 1) := by decide +kernel
theorem dX4_crossing_44 : decode cX4_crossing 44 = .ok (.if_icmp .le 7, 3) := by decide +kernel
theorem dX4_crossing_47 : decode cX4_crossing 47 = .ok (.lconst 0, 1) := by decide +kernel
theorem dX4_crossing_48 : decode cX4_crossing 48 = .ok (.goto 4, 3) := by decide +kernel
theorem dX4_crossing_51 : decode cX4_crossing 51 = .ok (.lconst 1, 1) := by decide +kernel
theorem dX4_crossing_52 : decode cX4_crossing 52 = .ok (.ladd, 1) := by decide +kernel
theorem dX4_crossing_53 : decode cX4_crossing 53 = .ok (.lstore 5, 2) := by decide +kernel
theorem dX4_crossing_55 : decode cX4_crossing 55 = .ok (.aload_n 0, 1) := by decide +kernel
theorem dX4_crossing_56 : decode cX4_crossing 56 = .ok (.getfield 60, 3) := by decide +kernel
theorem dX4_crossing_59 : decode cX4_crossing 59 = .ok (.i2l, 1) := by decide +kernel
theorem dX4_crossing_60 : decode cX4_crossing 60 = .ok (.lload 5, 2) := by decide +kernel
theorem dX4_crossing_62 : decode cX4_crossing 62 = .ok (.lload_n 3, 1) := by decide +kernel
theorem dX4_crossing_63 : decode cX4_crossing 63 = .ok (.ladd, 1) := by decide +kernel
theorem dX4_crossing_64 : decode cX4_crossing 64 = .ok (.lconst 1, 1) := by decide +kernel
theorem dX4_crossing_65 : decode cX4_crossing 65 = .ok (.lsub, 1) := by decide +kernel
theorem dX4_crossing_66 : decode cX4_crossing 66 = .ok (.lload_n 3, 1) := by decide +kernel
theorem dX4_crossing_67 : decode cX4_crossing 67 = .ok (.ldiv, 1) := by decide +kernel
theorem dX4_crossing_68 : decode cX4_crossing 68 = .ok (.ladd, 1) := by decide +kernel
theorem dX4_crossing_69 : decode cX4_crossing 69 = .ok (.lstore 7, 2) := by decide +kernel
theorem dX4_crossing_71 : decode cX4_crossing 71 = .ok (.lload 7, 2) := by decide +kernel
theorem dX4_crossing_73 : decode cX4_crossing 73 = .ok (.ldc2_w 68, 3) := by decide +kernel
theorem dX4_crossing_76 : decode cX4_crossing 76 = .ok (.lcmp, 1) := by decide +kernel
theorem dX4_crossing_77 : decode cX4_crossing 77 = .ok (.ifCond .le 7, 3) := by decide +kernel
theorem dX4_crossing_80 : decode cX4_crossing 80 = .ok (.iconst (-1), 1) := by decide +kernel
theorem dX4_crossing_81 : decode cX4_crossing 81 = .ok (.goto 6, 3) := by decide +kernel
theorem dX4_crossing_84 : decode cX4_crossing 84 = .ok (.lload 7, 2) := by decide +kernel
theorem dX4_crossing_86 : decode cX4_crossing 86 = .ok (.l2i, 1) := by decide +kernel
theorem dX4_crossing_87 : decode cX4_crossing 87 = .ok (.ireturn, 1) := by decide +kernel
set_option maxRecDepth 20000 in
theorem ggX4_failureOf_X4_isBefore : GoodIn wsX4_failureOf wsX4_isBefore := goodIn_r _ [7, 2, 8, 9, 10, 6, 11, 12, 13, 14, 20, 21, 22, 23, 24, 25, 26, 27, 28, 29, 30, 31, 32, 33, 34, 35, 36, 37, 38, 39, 40, 41, 42] (by decide +kernel) (by decide +kernel)
set_option maxRecDepth 20000 in
theorem gX4_failureOf_X4_isBefore : GoodIn wsX4_failureOf (wsV RX4 70 RX4 yX4_isBefore wsX4_isBefore) := goodIn_app (goodIn_of _ (by decide +kernel)) ggX4_failureOf_X4_isBefore
set_option maxRecDepth 20000 in
theorem ggX4_failureOf_X4_crossing : GoodIn wsX4_failureOf wsX4_crossing := goodIn_r _ [18, 13, 2, 19, 8, 9, 10, 6, 11, 12, 14, 20, 21, 22, 23, 24, 25, 26, 27, 28, 29, 30, 31, 32, 33, 34, 35, 36, 37, 38, 39, 40, 41, 42] (by decide +kernel) (by decide +kernel)
set_option maxRecDepth 20000 in
theorem gX4_failureOf_X4_crossing : GoodIn wsX4_failureOf (wsV RX4 74 RX4 yX4_crossing wsX4_crossing) := goodIn_app (goodIn_of _ (by decide +kernel)) ggX4_failureOf_X4_crossing
theorem dX4_failureOf_0 : decode cX4_failureOf 0 = .ok (.aload_n 0, 1) := by decide +kernel
theorem dX4_failureOf_1 : decode cX4_failureOf 1 = .ok (.getfield 7, 3) := by decide +kernel
theorem dX4_failureOf_4 : decode cX4_failureOf 4 = .ok (.iload_n 1, 1) := by decide +kernel
theorem dX4_failureOf_5 : decode cX4_failureOf 5 = .ok (.iconst 1, 1) := by decide +kernel
theorem dX4_failureOf_6 : decode cX4_failureOf 6 = .ok (.isub, 1) := by decide +kernel
theorem dX4_failureOf_7 : decode cX4_failureOf 7 = .ok (.iconst 2, 1) := by decide +kernel
theorem dX4_failureOf_8 : decode cX4_failureOf 8 = .ok (.idiv, 1) := by decide +kernel
theorem dX4_failureOf_9 : decode cX4_failureOf 9 = .ok (.iaload, 1) := by decide +kernel
theorem dX4_failureOf_10 : decode cX4_failureOf 10 = .ok (.istore_n 2, 1) := by decide +kernel
theorem dX4_failureOf_11 : decode cX4_failureOf 11 = .ok (.aload_n 0, 1) := by decide +kernel
theorem dX4_failureOf_12 : decode cX4_failureOf 12 = .ok (.getfield 7, 3) := by decide +kernel
theorem dX4_failureOf_15 : decode cX4_failureOf 15 = .ok (.iload_n 1, 1) := by decide +kernel
theorem dX4_failureOf_16 : decode cX4_failureOf 16 = .ok (.iaload, 1) := by decide +kernel
theorem dX4_failureOf_17 : decode cX4_failureOf 17 = .ok (.istore_n 3, 1) := by decide +kernel
theorem dX4_failureOf_18 : decode cX4_failureOf 18 = .ok (.aload_n 0, 1) := by decide +kernel
theorem dX4_failureOf_19 : decode cX4_failureOf 19 = .ok (.iload_n 2, 1) := by decide +kernel
theorem dX4_failureOf_20 : decode cX4_failureOf 20 = .ok (.iload_n 3, 1) := by decide +kernel
theorem dX4_failureOf_21 : decode cX4_failureOf 21 = .ok (.invokevirtual 70, 3) := by decide +kernel
theorem dX4_failureOf_24 : decode cX4_failureOf 24 = .ok (.ifCond .eq 12, 3) := by decide +kernel
theorem dX4_failureOf_27 : decode cX4_failureOf 27 = .ok (.aload_n 0, 1) := by decide +kernel
theorem dX4_failureOf_28 : decode cX4_failureOf 28 = .ok (.iload_n 2, 1) := by decide +kernel
theorem dX4_failureOf_29 : decode cX4_failureOf 29 = .ok (.iload_n 3, 1) := by decide +kernel
theorem dX4_failureOf_30 : decode cX4_failureOf 30 = .ok (.invokevirtual 74, 3) := by decide +kernel
theorem dX4_failureOf_33 : decode cX4_failureOf 33 = .ok (.goto 7, 3) := by decide +kernel
theorem dX4_failureOf_36 : decode cX4_failureOf 36 = .ok (.aload_n 0, 1) := by decide +kernel
theorem dX4_failureOf_37 : decode cX4_failureOf 37 = .ok (.getfield 60, 3) := by decide +kernel
theorem dX4_failureOf_40 : decode cX4_failureOf 40 = .ok (.ireturn, 1) := by decide +kernel
set_option maxRecDepth 20000 in
theorem ggX4_settles_X4_isBefore : GoodIn wsX4_settles wsX4_isBefore := goodIn_r _ [9, 10, 11, 12, 13, 8, 14, 15, 16, 17, 18, 19, 20, 21, 22, 23, 24, 25, 26, 27, 28, 29, 30, 31, 32, 33, 34, 35, 36, 37, 38, 39, 40] (by decide +kernel) (by decide +kernel)
set_option maxRecDepth 20000 in
theorem gX4_settles_X4_isBefore : GoodIn wsX4_settles (wsV RX4 70 RX4 yX4_isBefore wsX4_isBefore) := goodIn_app (goodIn_of _ (by decide +kernel)) ggX4_settles_X4_isBefore
theorem dX4_settles_0 : decode cX4_settles 0 = .ok (.iconst 1, 1) := by decide +kernel
theorem dX4_settles_1 : decode cX4_settles 1 = .ok (.istore_n 1, 1) := by decide +kernel
theorem dX4_settles_2 : decode cX4_settles 2 = .ok (.iload_n 1, 1) := by decide +kernel
theorem dX4_settles_3 : decode cX4_settles 3 = .ok (.ifCond .eq 125, 3) := by decide +kernel
theorem dX4_settles_6 : decode cX4_settles 6 = .ok (.iconst 1, 1) := by decide +kernel
theorem dX4_settles_7 : decode cX4_settles 7 = .ok (.istore_n 2, 1) := by decide +kernel
theorem dX4_settles_8 : decode cX4_settles 8 = .ok (.iload_n 2, 1) := by decide +kernel
theorem dX4_settles_9 : decode cX4_settles 9 = .ok (.aload_n 0, 1) := by decide +kernel
theorem dX4_settles_10 : decode cX4_settles 10 = .ok (.getfield 78, 3) := by decide +kernel
theorem dX4_settles_13 : decode cX4_settles 13 = .ok (.if_icmp .ge 32, 3) := by decide +kernel
theorem dX4_settles_16 : decode cX4_settles 16 = .ok (.aload_n 0, 1) := by decide +kernel
theorem dX4_settles_17 : decode cX4_settles 17 = .ok (.aload_n 0, 1) := by decide +kernel
theorem dX4_settles_18 : decode cX4_settles 18 = .ok (.getfield 7, 3) := by decide +kernel
theorem dX4_settles_21 : decode cX4_settles 21 = .ok (.iload_n 2, 1) := by decide +kernel
theorem dX4_settles_22 : decode cX4_settles 22 = .ok (.iconst 1, 1) := by decide +kernel
theorem dX4_settles_23 : decode cX4_settles 23 = .ok (.isub, 1) := by decide +kernel
theorem dX4_settles_24 : decode cX4_settles 24 = .ok (.iconst 2, 1) := by decide +kernel
theorem dX4_settles_25 : decode cX4_settles 25 = .ok (.idiv, 1) := by decide +kernel
theorem dX4_settles_26 : decode cX4_settles 26 = .ok (.iaload, 1) := by decide +kernel
theorem dX4_settles_27 : decode cX4_settles 27 = .ok (.aload_n 0, 1) := by decide +kernel
theorem dX4_settles_28 : decode cX4_settles 28 = .ok (.getfield 7, 3) := by decide +kernel
theorem dX4_settles_31 : decode cX4_settles 31 = .ok (.iload_n 2, 1) := by decide +kernel
theorem dX4_settles_32 : decode cX4_settles 32 = .ok (.iaload, 1) := by decide +kernel
theorem dX4_settles_33 : decode cX4_settles 33 = .ok (.invokevirtual 70, 3) := by decide +kernel
theorem dX4_settles_36 : decode cX4_settles 36 = .ok (.ifCond .eq 9, 3) := by decide +kernel
theorem dX4_settles_39 : decode cX4_settles 39 = .ok (.iinc 2 1, 3) := by decide +kernel
theorem dX4_settles_42 : decode cX4_settles 42 = .ok (.goto (-34), 3) := by decide +kernel
theorem dX4_settles_45 : decode cX4_settles 45 = .ok (.iload_n 2, 1) := by decide +kernel
theorem dX4_settles_46 : decode cX4_settles 46 = .ok (.aload_n 0, 1) := by decide +kernel
theorem dX4_settles_47 : decode cX4_settles 47 = .ok (.getfield 78, 3) := by decide +kernel
theorem dX4_settles_50 : decode cX4_settles 50 = .ok (.if_icmp .ge 7, 3) := by decide +kernel
theorem dX4_settles_53 : decode cX4_settles 53 = .ok (.iconst 1, 1) := by decide +kernel
theorem dX4_settles_54 : decode cX4_settles 54 = .ok (.goto 4, 3) := by decide +kernel
theorem dX4_settles_57 : decode cX4_settles 57 = .ok (.iconst 0, 1) := by decide +kernel
theorem dX4_settles_58 : decode cX4_settles 58 = .ok (.istore_n 1, 1) := by decide +kernel
theorem dX4_settles_59 : decode cX4_settles 59 = .ok (.iload_n 1, 1) := by decide +kernel
theorem dX4_settles_60 : decode cX4_settles 60 = .ok (.ifCond .eq 65, 3) := by decide +kernel
theorem dX4_settles_63 : decode cX4_settles 63 = .ok (.iload_n 2, 1) := by decide +kernel
theorem dX4_settles_64 : decode cX4_settles 64 = .ok (.iconst 1, 1) := by decide +kernel
theorem dX4_settles_65 : decode cX4_settles 65 = .ok (.isub, 1) := by decide +kernel
theorem dX4_settles_66 : decode cX4_settles 66 = .ok (.iconst 2, 1) := by decide +kernel
theorem dX4_settles_67 : decode cX4_settles 67 = .ok (.idiv, 1) := by decide +kernel
theorem dX4_settles_68 : decode cX4_settles 68 = .ok (.istore_n 3, 1) := by decide +kernel
theorem dX4_settles_69 : decode cX4_settles 69 = .ok (.aload_n 0, 1) := by decide +kernel
theorem dX4_settles_70 : decode cX4_settles 70 = .ok (.getfield 7, 3) := by decide +kernel
theorem dX4_settles_73 : decode cX4_settles 73 = .ok (.iload_n 3, 1) := by decide +kernel
theorem dX4_settles_74 : decode cX4_settles 74 = .ok (.iaload, 1) := by decide +kernel
theorem dX4_settles_75 : decode cX4_settles 75 = .ok (.istore 4, 2) := by decide +kernel
theorem dX4_settles_77 : decode cX4_settles 77 = .ok (.aload_n 0, 1) := by decide +kernel
theorem dX4_settles_78 : decode cX4_settles 78 = .ok (.getfield 7, 3) := by decide +kernel
theorem dX4_settles_81 : decode cX4_settles 81 = .ok (.iload_n 3, 1) := by decide +kernel
theorem dX4_settles_82 : decode cX4_settles 82 = .ok (.aload_n 0, 1) := by decide +kernel
theorem dX4_settles_83 : decode cX4_settles 83 = .ok (.getfield 7, 3) := by decide +kernel
theorem dX4_settles_86 : decode cX4_settles 86 = .ok (.iload_n 2, 1) := by decide +kernel
theorem dX4_settles_87 : decode cX4_settles 87 = .ok (.iaload, 1) := by decide +kernel
theorem dX4_settles_88 : decode cX4_settles 88 = .ok (.iastore, 1) := by decide +kernel
theorem dX4_settles_89 : decode cX4_settles 89 = .ok (.aload_n 0, 1) := by decide +kernel
theorem dX4_settles_90 : decode cX4_settles 90 = .ok (.getfield 7, 3) := by decide +kernel
theorem dX4_settles_93 : decode cX4_settles 93 = .ok (.iload_n 2, 1) := by decide +kernel
theorem dX4_settles_94 : decode cX4_settles 94 = .ok (.iload 4, 2) := by decide +kernel
theorem dX4_settles_96 : decode cX4_settles 96 = .ok (.iastore, 1) := by decide +kernel
theorem dX4_settles_97 : decode cX4_settles 97 = .ok (.aload_n 0, 1) := by decide +kernel
theorem dX4_settles_98 : decode cX4_settles 98 = .ok (.dup, 1) := by decide +kernel
theorem dX4_settles_99 : decode cX4_settles 99 = .ok (.getfield 81, 3) := by decide +kernel
theorem dX4_settles_102 : decode cX4_settles 102 = .ok (.lconst 1, 1) := by decide +kernel
theorem dX4_settles_103 : decode cX4_settles 103 = .ok (.ladd, 1) := by decide +kernel
theorem dX4_settles_104 : decode cX4_settles 104 = .ok (.putfield 81, 3) := by decide +kernel
theorem dX4_settles_107 : decode cX4_settles 107 = .ok (.aload_n 0, 1) := by decide +kernel
theorem dX4_settles_108 : decode cX4_settles 108 = .ok (.dup, 1) := by decide +kernel
theorem dX4_settles_109 : decode cX4_settles 109 = .ok (.getfield 85, 3) := by decide +kernel
theorem dX4_settles_112 : decode cX4_settles 112 = .ok (.iload_n 3, 1) := by decide +kernel
theorem dX4_settles_113 : decode cX4_settles 113 = .ok (.ifCond .ne 7, 3) := by decide +kernel
theorem dX4_settles_116 : decode cX4_settles 116 = .ok (.lconst 1, 1) := by decide +kernel
theorem dX4_settles_117 : decode cX4_settles 117 = .ok (.goto 4, 3) := by decide +kernel
theorem dX4_settles_120 : decode cX4_settles 120 = .ok (.lconst 0, 1) := by decide +kernel
theorem dX4_settles_121 : decode cX4_settles 121 = .ok (.ladd, 1) := by decide +kernel
theorem dX4_settles_122 : decode cX4_settles 122 = .ok (.putfield 85, 3) := by decide +kernel
theorem dX4_settles_125 : decode cX4_settles 125 = .ok (.goto (-123), 3) := by decide +kernel
theorem dX4_settles_128 : decode cX4_settles 128 = .ok (.return_, 1) := by decide +kernel
set_option maxRecDepth 20000 in
theorem ggX4_keeps_X4_valueOf : GoodIn wsX4_keeps wsX4_valueOf := goodIn_r _ [14, 15, 9, 16, 17, 18, 19, 20, 21, 22, 23, 24, 25, 26, 27, 28, 29, 30, 31, 32, 33, 34, 35, 36, 37, 38, 39] (by decide +kernel) (by decide +kernel)
set_option maxRecDepth 20000 in
theorem gX4_keeps_X4_valueOf : GoodIn wsX4_keeps (wsV RX4 64 RX4 yX4_valueOf wsX4_valueOf) := goodIn_app (goodIn_of _ (by decide +kernel)) ggX4_keeps_X4_valueOf
theorem dX4_keeps_0 : decode cX4_keeps 0 = .ok (.aload_n 0, 1) := by decide +kernel
theorem dX4_keeps_1 : decode cX4_keeps 1 = .ok (.getfield 30, 3) := by decide +kernel
theorem dX4_keeps_4 : decode cX4_keeps 4 = .ok (.aload_n 0, 1) := by decide +kernel
theorem dX4_keeps_5 : decode cX4_keeps 5 = .ok (.getfield 88, 3) := by decide +kernel
theorem dX4_keeps_8 : decode cX4_keeps 8 = .ok (.aload_n 0, 1) := by decide +kernel
theorem dX4_keeps_9 : decode cX4_keeps 9 = .ok (.getfield 60, 3) := by decide +kernel
theorem dX4_keeps_12 : decode cX4_keeps 12 = .ok (.iastore, 1) := by decide +kernel
theorem dX4_keeps_13 : decode cX4_keeps 13 = .ok (.aload_n 0, 1) := by decide +kernel
theorem dX4_keeps_14 : decode cX4_keeps 14 = .ok (.getfield 33, 3) := by decide +kernel
theorem dX4_keeps_17 : decode cX4_keeps 17 = .ok (.aload_n 0, 1) := by decide +kernel
theorem dX4_keeps_18 : decode cX4_keeps 18 = .ok (.getfield 88, 3) := by decide +kernel
theorem dX4_keeps_21 : decode cX4_keeps 21 = .ok (.iload_n 1, 1) := by decide +kernel
theorem dX4_keeps_22 : decode cX4_keeps 22 = .ok (.iastore, 1) := by decide +kernel
theorem dX4_keeps_23 : decode cX4_keeps 23 = .ok (.aload_n 0, 1) := by decide +kernel
theorem dX4_keeps_24 : decode cX4_keeps 24 = .ok (.getfield 36, 3) := by decide +kernel
theorem dX4_keeps_27 : decode cX4_keeps 27 = .ok (.aload_n 0, 1) := by decide +kernel
theorem dX4_keeps_28 : decode cX4_keeps 28 = .ok (.getfield 88, 3) := by decide +kernel
theorem dX4_keeps_31 : decode cX4_keeps 31 = .ok (.aload_n 0, 1) := by decide +kernel
theorem dX4_keeps_32 : decode cX4_keeps 32 = .ok (.getfield 13, 3) := by decide +kernel
theorem dX4_keeps_35 : decode cX4_keeps 35 = .ok (.iload_n 1, 1) := by decide +kernel
theorem dX4_keeps_36 : decode cX4_keeps 36 = .ok (.baload, 1) := by decide +kernel
theorem dX4_keeps_37 : decode cX4_keeps 37 = .ok (.bastore, 1) := by decide +kernel
theorem dX4_keeps_38 : decode cX4_keeps 38 = .ok (.aload_n 0, 1) := by decide +kernel
theorem dX4_keeps_39 : decode cX4_keeps 39 = .ok (.getfield 39, 3) := by decide +kernel
theorem dX4_keeps_42 : decode cX4_keeps 42 = .ok (.aload_n 0, 1) := by decide +kernel
theorem dX4_keeps_43 : decode cX4_keeps 43 = .ok (.getfield 88, 3) := by decide +kernel
theorem dX4_keeps_46 : decode cX4_keeps 46 = .ok (.aload_n 0, 1) := by decide +kernel
theorem dX4_keeps_47 : decode cX4_keeps 47 = .ok (.getfield 13, 3) := by decide +kernel
theorem dX4_keeps_50 : decode cX4_keeps 50 = .ok (.iload_n 1, 1) := by decide +kernel
theorem dX4_keeps_51 : decode cX4_keeps 51 = .ok (.baload, 1) := by decide +kernel
theorem dX4_keeps_52 : decode cX4_keeps 52 = .ok (.ifCond .eq 15, 3) := by decide +kernel
theorem dX4_keeps_55 : decode cX4_keeps 55 = .ok (.aload_n 0, 1) := by decide +kernel
theorem dX4_keeps_56 : decode cX4_keeps 56 = .ok (.iload_n 1, 1) := by decide +kernel
theorem dX4_keeps_57 : decode cX4_keeps 57 = .ok (.aload_n 0, 1) := by decide +kernel
theorem dX4_keeps_58 : decode cX4_keeps 58 = .ok (.getfield 60, 3) := by decide +kernel
theorem dX4_keeps_61 : decode cX4_keeps 61 = .ok (.invokevirtual 64, 3) := by decide +kernel
theorem dX4_keeps_64 : decode cX4_keeps 64 = .ok (.goto 4, 3) := by decide +kernel
theorem dX4_keeps_67 : decode cX4_keeps 67 = .ok (.lconst 0, 1) := by decide +kernel
theorem dX4_keeps_68 : decode cX4_keeps 68 = .ok (.lastore, 1) := by decide +kernel
theorem dX4_keeps_69 : decode cX4_keeps 69 = .ok (.aload_n 0, 1) := by decide +kernel
theorem dX4_keeps_70 : decode cX4_keeps 70 = .ok (.getfield 42, 3) := by decide +kernel
theorem dX4_keeps_73 : decode cX4_keeps 73 = .ok (.aload_n 0, 1) := by decide +kernel
theorem dX4_keeps_74 : decode cX4_keeps 74 = .ok (.getfield 88, 3) := by decide +kernel
theorem dX4_keeps_77 : decode cX4_keeps 77 = .ok (.aload_n 0, 1) := by decide +kernel
theorem dX4_keeps_78 : decode cX4_keeps 78 = .ok (.getfield 24, 3) := by decide +kernel
theorem dX4_keeps_81 : decode cX4_keeps 81 = .ok (.iload_n 1, 1) := by decide +kernel
theorem dX4_keeps_82 : decode cX4_keeps 82 = .ok (.iaload, 1) := by decide +kernel
theorem dX4_keeps_83 : decode cX4_keeps 83 = .ok (.iastore, 1) := by decide +kernel
theorem dX4_keeps_84 : decode cX4_keeps 84 = .ok (.aload_n 0, 1) := by decide +kernel
theorem dX4_keeps_85 : decode cX4_keeps 85 = .ok (.dup, 1) := by decide +kernel
theorem dX4_keeps_86 : decode cX4_keeps 86 = .ok (.getfield 88, 3) := by decide +kernel
theorem dX4_keeps_89 : decode cX4_keeps 89 = .ok (.iconst 1, 1) := by decide +kernel
theorem dX4_keeps_90 : decode cX4_keeps 90 = .ok (.iadd, 1) := by decide +kernel
theorem dX4_keeps_91 : decode cX4_keeps 91 = .ok (.putfield 88, 3) := by decide +kernel
theorem dX4_keeps_94 : decode cX4_keeps 94 = .ok (.return_, 1) := by decide +kernel
set_option maxRecDepth 20000 in
theorem ggX4_does_X4_keeps : GoodIn wsX4_does wsX4_keeps := goodIn_r _ [6, 7, 8, 9, 10, 11, 12, 13, 14, 15, 16, 17, 18, 5, 19, 20, 21, 34, 35, 36, 37, 38, 39, 40, 41, 42, 43, 44, 45, 46, 47, 48, 49, 50, 51, 52, 53, 54, 55, 56] (by decide +kernel) (by decide +kernel)
set_option maxRecDepth 20000 in
theorem gX4_does_X4_keeps : GoodIn wsX4_does (wsV RX4 91 RX4 yX4_keeps wsX4_keeps) := goodIn_app (goodIn_of _ (by decide +kernel)) ggX4_does_X4_keeps
set_option maxRecDepth 20000 in
theorem ggX4_does_X4_settles : GoodIn wsX4_does wsX4_settles := goodIn_r _ [25, 26, 27, 28, 29, 30, 31, 32, 5, 33, 9, 16, 17, 18, 19, 20, 15, 21, 34, 35, 36, 37, 38, 39, 40, 41, 42, 43, 44, 45, 46, 47, 48, 49, 50, 51, 52, 53, 54, 55, 56] (by decide +kernel) (by decide +kernel)
set_option maxRecDepth 20000 in
theorem gX4_does_X4_settles : GoodIn wsX4_does (wsV RX4 98 RX4 yX4_settles wsX4_settles) := goodIn_app (goodIn_of _ (by decide +kernel)) ggX4_does_X4_settles
theorem dX4_does_0 : decode cX4_does 0 = .ok (.aload_n 0, 1) := by decide +kernel
theorem dX4_does_1 : decode cX4_does 1 = .ok (.iload_n 1, 1) := by decide +kernel
theorem dX4_does_2 : decode cX4_does 2 = .ok (.invokevirtual 91, 3) := by decide +kernel
theorem dX4_does_5 : decode cX4_does 5 = .ok (.aload_n 0, 1) := by decide +kernel
theorem dX4_does_6 : decode cX4_does 6 = .ok (.dup, 1) := by decide +kernel
theorem dX4_does_7 : decode cX4_does 7 = .ok (.getfield 95, 3) := by decide +kernel
theorem dX4_does_10 : decode cX4_does 10 = .ok (.iconst 1, 1) := by decide +kernel
theorem dX4_does_11 : decode cX4_does 11 = .ok (.iadd, 1) := by decide +kernel
theorem dX4_does_12 : decode cX4_does 12 = .ok (.putfield 95, 3) := by decide +kernel
theorem dX4_does_15 : decode cX4_does 15 = .ok (.aload_n 0, 1) := by decide +kernel
theorem dX4_does_16 : decode cX4_does 16 = .ok (.invokevirtual 98, 3) := by decide +kernel
theorem dX4_does_19 : decode cX4_does 19 = .ok (.return_, 1) := by decide +kernel
set_option maxRecDepth 20000 in
theorem ggX4_insert_X4_in : GoodIn wsX4_insert wsX4_in := goodIn_r _ [19] (by decide +kernel) (by decide +kernel)
set_option maxRecDepth 20000 in
theorem gX4_insert_X4_in : GoodIn wsX4_insert (va_wsS RX4 56 yX4_in wsX4_in) := goodIn_app (goodIn_of _ (by decide +kernel)) ggX4_insert_X4_in
set_option maxRecDepth 20000 in
theorem ggX4_insert_X4_does : GoodIn wsX4_insert wsX4_does := goodIn_r _ [23, 7, 24, 25, 26, 18, 27, 28, 29, 12, 30, 31, 9, 32, 33, 13, 34, 35, 36, 37, 10, 11, 38, 39, 40, 41, 6, 15, 42, 43, 44, 45, 46, 47, 48, 49, 50, 51, 52, 53, 54, 55, 56, 57, 58, 59, 60, 61, 62, 63, 64, 65, 66, 67, 68, 69, 70] (by decide +kernel) (by decide +kernel)
set_option maxRecDepth 20000 in
theorem gX4_insert_X4_does : GoodIn wsX4_insert (wsV RX4 111 RX4 yX4_does wsX4_does) := goodIn_app (goodIn_of _ (by decide +kernel)) ggX4_insert_X4_does
theorem dX4_insert_0 : decode cX4_insert 0 = .ok (.iload_n 1, 1) := by decide +kernel
theorem dX4_insert_1 : decode cX4_insert 1 = .ok (.i2l, 1) := by decide +kernel
theorem dX4_insert_2 : decode cX4_insert 2 = .ok (.ldc2_w 101, 3) := by decide +kernel
theorem dX4_insert_5 : decode cX4_insert 5 = .ok (.ldc2_w 68, 3) := by decide +kernel
theorem dX4_insert_8 : decode cX4_insert 8 = .ok (.invokestatic 56, 3) := by decide +kernel
theorem dX4_insert_11 : decode cX4_insert 11 = .ok (.ifCond .eq 17, 3) := by decide +kernel
theorem dX4_insert_14 : decode cX4_insert 14 = .ok (.iload_n 2, 1) := by decide +kernel
theorem dX4_insert_15 : decode cX4_insert 15 = .ok (.i2l, 1) := by decide +kernel
theorem dX4_insert_16 : decode cX4_insert 16 = .ok (.ldc2_w 103, 3) := by decide +kernel
theorem dX4_insert_19 : decode cX4_insert 19 = .ok (.ldc2_w 105, 3) := by decide +kernel
theorem dX4_insert_22 : decode cX4_insert 22 = .ok (.invokestatic 56, 3) := by decide +kernel
theorem dX4_insert_25 : decode cX4_insert 25 = .ok (.ifCond .ne 7, 3) := by decide +kernel
theorem dX4_insert_28 : decode cX4_insert 28 = .ok (.ldc2_w 107, 3) := by decide +kernel
theorem dX4_insert_31 : decode cX4_insert 31 = .ok (.lreturn, 1) := by decide +kernel
theorem dX4_insert_32 : decode cX4_insert 32 = .ok (.aload_n 0, 1) := by decide +kernel
theorem dX4_insert_33 : decode cX4_insert 33 = .ok (.getfield 78, 3) := by decide +kernel
theorem dX4_insert_36 : decode cX4_insert 36 = .ok (.bipush 24, 2) := by decide +kernel
theorem dX4_insert_38 : decode cX4_insert 38 = .ok (.if_icmp .eq 13, 3) := by decide +kernel
theorem dX4_insert_41 : decode cX4_insert 41 = .ok (.aload_n 0, 1) := by decide +kernel
theorem dX4_insert_42 : decode cX4_insert 42 = .ok (.getfield 95, 3) := by decide +kernel
theorem dX4_insert_45 : decode cX4_insert 45 = .ok (.sipush 200, 3) := by decide +kernel
theorem dX4_insert_48 : decode cX4_insert 48 = .ok (.if_icmp .ne 7, 3) := by decide +kernel
theorem dX4_insert_51 : decode cX4_insert 51 = .ok (.ldc2_w 109, 3) := by decide +kernel
theorem dX4_insert_54 : decode cX4_insert 54 = .ok (.lreturn, 1) := by decide +kernel
theorem dX4_insert_55 : decode cX4_insert 55 = .ok (.iconst 0, 1) := by decide +kernel
theorem dX4_insert_56 : decode cX4_insert 56 = .ok (.istore_n 3, 1) := by decide +kernel
theorem dX4_insert_57 : decode cX4_insert 57 = .ok (.aload_n 0, 1) := by decide +kernel
theorem dX4_insert_58 : decode cX4_insert 58 = .ok (.getfield 13, 3) := by decide +kernel
theorem dX4_insert_61 : decode cX4_insert 61 = .ok (.iload_n 3, 1) := by decide +kernel
theorem dX4_insert_62 : decode cX4_insert 62 = .ok (.baload, 1) := by decide +kernel
theorem dX4_insert_63 : decode cX4_insert 63 = .ok (.ifCond .eq 9, 3) := by decide +kernel
theorem dX4_insert_66 : decode cX4_insert 66 = .ok (.iinc 3 1, 3) := by decide +kernel
theorem dX4_insert_69 : decode cX4_insert 69 = .ok (.goto (-12), 3) := by decide +kernel
theorem dX4_insert_72 : decode cX4_insert 72 = .ok (.aload_n 0, 1) := by decide +kernel
theorem dX4_insert_73 : decode cX4_insert 73 = .ok (.getfield 13, 3) := by decide +kernel
theorem dX4_insert_76 : decode cX4_insert 76 = .ok (.iload_n 3, 1) := by decide +kernel
theorem dX4_insert_77 : decode cX4_insert 77 = .ok (.iconst 1, 1) := by decide +kernel
theorem dX4_insert_78 : decode cX4_insert 78 = .ok (.bastore, 1) := by decide +kernel
theorem dX4_insert_79 : decode cX4_insert 79 = .ok (.aload_n 0, 1) := by decide +kernel
theorem dX4_insert_80 : decode cX4_insert 80 = .ok (.getfield 17, 3) := by decide +kernel
theorem dX4_insert_83 : decode cX4_insert 83 = .ok (.iload_n 3, 1) := by decide +kernel
theorem dX4_insert_84 : decode cX4_insert 84 = .ok (.iload_n 1, 1) := by decide +kernel
theorem dX4_insert_85 : decode cX4_insert 85 = .ok (.i2l, 1) := by decide +kernel
theorem dX4_insert_86 : decode cX4_insert 86 = .ok (.lastore, 1) := by decide +kernel
theorem dX4_insert_87 : decode cX4_insert 87 = .ok (.aload_n 0, 1) := by decide +kernel
theorem dX4_insert_88 : decode cX4_insert 88 = .ok (.getfield 21, 3) := by decide +kernel
theorem dX4_insert_91 : decode cX4_insert 91 = .ok (.iload_n 3, 1) := by decide +kernel
theorem dX4_insert_92 : decode cX4_insert 92 = .ok (.aload_n 0, 1) := by decide +kernel
theorem dX4_insert_93 : decode cX4_insert 93 = .ok (.getfield 60, 3) := by decide +kernel
theorem dX4_insert_96 : decode cX4_insert 96 = .ok (.iastore, 1) := by decide +kernel
theorem dX4_insert_97 : decode cX4_insert 97 = .ok (.aload_n 0, 1) := by decide +kernel
theorem dX4_insert_98 : decode cX4_insert 98 = .ok (.getfield 24, 3) := by decide +kernel
theorem dX4_insert_101 : decode cX4_insert 101 = .ok (.iload_n 3, 1) := by decide +kernel
theorem dX4_insert_102 : decode cX4_insert 102 = .ok (.iload_n 2, 1) := by decide +kernel
theorem dX4_insert_103 : decode cX4_insert 103 = .ok (.iastore, 1) := by decide +kernel
theorem dX4_insert_104 : decode cX4_insert 104 = .ok (.aload_n 0, 1) := by decide +kernel
theorem dX4_insert_105 : decode cX4_insert 105 = .ok (.getfield 27, 3) := by decide +kernel
theorem dX4_insert_108 : decode cX4_insert 108 = .ok (.iload_n 3, 1) := by decide +kernel
theorem dX4_insert_109 : decode cX4_insert 109 = .ok (.aload_n 0, 1) := by decide +kernel
theorem dX4_insert_110 : decode cX4_insert 110 = .ok (.getfield 60, 3) := by decide +kernel
theorem dX4_insert_113 : decode cX4_insert 113 = .ok (.iastore, 1) := by decide +kernel
theorem dX4_insert_114 : decode cX4_insert 114 = .ok (.aload_n 0, 1) := by decide +kernel
theorem dX4_insert_115 : decode cX4_insert 115 = .ok (.getfield 7, 3) := by decide +kernel
theorem dX4_insert_118 : decode cX4_insert 118 = .ok (.aload_n 0, 1) := by decide +kernel
theorem dX4_insert_119 : decode cX4_insert 119 = .ok (.getfield 78, 3) := by decide +kernel
theorem dX4_insert_122 : decode cX4_insert 122 = .ok (.iload_n 3, 1) := by decide +kernel
theorem dX4_insert_123 : decode cX4_insert 123 = .ok (.iastore, 1) := by decide +kernel
theorem dX4_insert_124 : decode cX4_insert 124 = .ok (.aload_n 0, 1) := by decide +kernel
theorem dX4_insert_125 : decode cX4_insert 125 = .ok (.dup, 1) := by decide +kernel
theorem dX4_insert_126 : decode cX4_insert 126 = .ok (.getfield 78, 3) := by decide +kernel
theorem dX4_insert_129 : decode cX4_insert 129 = .ok (.iconst 1, 1) := by decide +kernel
theorem dX4_insert_130 : decode cX4_insert 130 = .ok (.iadd, 1) := by decide +kernel
theorem dX4_insert_131 : decode cX4_insert 131 = .ok (.putfield 78, 3) := by decide +kernel
theorem dX4_insert_134 : decode cX4_insert 134 = .ok (.aload_n 0, 1) := by decide +kernel
theorem dX4_insert_135 : decode cX4_insert 135 = .ok (.iload_n 3, 1) := by decide +kernel
theorem dX4_insert_136 : decode cX4_insert 136 = .ok (.invokevirtual 111, 3) := by decide +kernel
theorem dX4_insert_139 : decode cX4_insert 139 = .ok (.iload_n 3, 1) := by decide +kernel
theorem dX4_insert_140 : decode cX4_insert 140 = .ok (.i2l, 1) := by decide +kernel
theorem dX4_insert_141 : decode cX4_insert 141 = .ok (.lreturn, 1) := by decide +kernel
theorem dX4_placeOf_0 : decode cX4_placeOf 0 = .ok (.iconst 0, 1) := by decide +kernel
theorem dX4_placeOf_1 : decode cX4_placeOf 1 = .ok (.istore_n 2, 1) := by decide +kernel
theorem dX4_placeOf_2 : decode cX4_placeOf 2 = .ok (.aload_n 0, 1) := by decide +kernel
theorem dX4_placeOf_3 : decode cX4_placeOf 3 = .ok (.getfield 7, 3) := by decide +kernel
theorem dX4_placeOf_6 : decode cX4_placeOf 6 = .ok (.iload_n 2, 1) := by decide +kernel
theorem dX4_placeOf_7 : decode cX4_placeOf 7 = .ok (.iaload, 1) := by decide +kernel
theorem dX4_placeOf_8 : decode cX4_placeOf 8 = .ok (.iload_n 1, 1) := by decide +kernel
theorem dX4_placeOf_9 : decode cX4_placeOf 9 = .ok (.if_icmp .eq 9, 3) := by decide +kernel
theorem dX4_placeOf_12 : decode cX4_placeOf 12 = .ok (.iinc 2 1, 3) := by decide +kernel
theorem dX4_placeOf_15 : decode cX4_placeOf 15 = .ok (.goto (-13), 3) := by decide +kernel
theorem dX4_placeOf_18 : decode cX4_placeOf 18 = .ok (.iload_n 2, 1) := by decide +kernel
theorem dX4_placeOf_19 : decode cX4_placeOf 19 = .ok (.ireturn, 1) := by decide +kernel
set_option maxRecDepth 20000 in
theorem ggX4_inWay_X4_isPoint : GoodIn wsX4_inWay wsX4_isPoint := goodIn_r _ [8, 9, 10, 11, 12, 7, 13, 14, 15, 16, 17, 18, 19, 20, 21, 22, 23, 24, 25, 26, 27, 28, 29, 30, 31, 32, 33, 34, 35, 36] (by decide +kernel) (by decide +kernel)
set_option maxRecDepth 20000 in
theorem gX4_inWay_X4_isPoint : GoodIn wsX4_inWay (wsV RX4 114 RX4 yX4_isPoint wsX4_isPoint) := goodIn_app (goodIn_of _ (by decide +kernel)) ggX4_inWay_X4_isPoint
theorem dX4_inWay_0 : decode cX4_inWay 0 = .ok (.aload_n 0, 1) := by decide +kernel
theorem dX4_inWay_1 : decode cX4_inWay 1 = .ok (.iload_n 1, 1) := by decide +kernel
theorem dX4_inWay_2 : decode cX4_inWay 2 = .ok (.invokevirtual 114, 3) := by decide +kernel
theorem dX4_inWay_5 : decode cX4_inWay 5 = .ok (.ifCond .eq 7, 3) := by decide +kernel
theorem dX4_inWay_8 : decode cX4_inWay 8 = .ok (.iload_n 2, 1) := by decide +kernel
theorem dX4_inWay_9 : decode cX4_inWay 9 = .ok (.ifCond .ne 9, 3) := by decide +kernel
theorem dX4_inWay_12 : decode cX4_inWay 12 = .ok (.ldc2_w 107, 3) := by decide +kernel
theorem dX4_inWay_15 : decode cX4_inWay 15 = .ok (.goto 20, 3) := by decide +kernel
theorem dX4_inWay_18 : decode cX4_inWay 18 = .ok (.aload_n 0, 1) := by decide +kernel
theorem dX4_inWay_19 : decode cX4_inWay 19 = .ok (.getfield 95, 3) := by decide +kernel
theorem dX4_inWay_22 : decode cX4_inWay 22 = .ok (.sipush 200, 3) := by decide +kernel
theorem dX4_inWay_25 : decode cX4_inWay 25 = .ok (.if_icmp .ne 9, 3) := by decide +kernel
theorem dX4_inWay_28 : decode cX4_inWay 28 = .ok (.ldc2_w 109, 3) := by decide +kernel
theorem dX4_inWay_31 : decode cX4_inWay 31 = .ok (.goto 4, 3) := by decide +kernel
theorem dX4_inWay_34 : decode cX4_inWay 34 = .ok (.lconst 0, 1) := by decide +kernel
theorem dX4_inWay_35 : decode cX4_inWay 35 = .ok (.lreturn, 1) := by decide +kernel
set_option maxRecDepth 20000 in
theorem ggX4_remove_X4_inWay : GoodIn wsX4_remove wsX4_inWay := goodIn_r _ [9, 10, 11, 12, 13, 14, 15, 8, 16, 17, 4, 18, 19, 20, 56, 57, 58, 59, 60, 61, 62, 63, 64, 65, 66, 67, 68, 69, 70, 71, 72, 73, 74, 75, 76, 77, 78] (by decide +kernel) (by decide +kernel)
set_option maxRecDepth 20000 in
theorem gX4_remove_X4_inWay : GoodIn wsX4_remove (wsV RX4 118 RX4 yX4_inWay wsX4_inWay) := goodIn_app (goodIn_of _ (by decide +kernel)) ggX4_remove_X4_inWay
set_option maxRecDepth 20000 in
theorem ggX4_remove_X4_valueOf : GoodIn wsX4_remove wsX4_valueOf := goodIn_r _ [24, 25, 26, 27, 56, 57, 58, 59, 60, 61, 62, 63, 64, 65, 66, 67, 68, 69, 70, 71, 72, 73, 74, 75, 76, 77, 78] (by decide +kernel) (by decide +kernel)
set_option maxRecDepth 20000 in
theorem gX4_remove_X4_valueOf : GoodIn wsX4_remove (wsV RX4 64 RX4 yX4_valueOf wsX4_valueOf) := goodIn_app (goodIn_of _ (by decide +kernel)) ggX4_remove_X4_valueOf
set_option maxRecDepth 20000 in
theorem ggX4_remove_X4_placeOf : GoodIn wsX4_remove wsX4_placeOf := goodIn_r _ [31, 3, 56, 57, 58, 59, 60, 61, 62, 63, 64, 65, 66, 67, 68, 69, 70, 71, 72, 73, 74, 75, 76, 77, 78] (by decide +kernel) (by decide +kernel)
set_option maxRecDepth 20000 in
theorem gX4_remove_X4_placeOf : GoodIn wsX4_remove (wsV RX4 122 RX4 yX4_placeOf wsX4_placeOf) := goodIn_app (goodIn_of _ (by decide +kernel)) ggX4_remove_X4_placeOf
set_option maxRecDepth 20000 in
theorem ggX4_remove_X4_does : GoodIn wsX4_remove wsX4_does := goodIn_r _ [35, 11, 36, 37, 38, 8, 39, 40, 41, 1, 42, 43, 4, 44, 45, 26, 21, 22, 23, 24, 25, 27, 46, 47, 48, 49, 2, 3, 50, 51, 52, 53, 54, 55, 56, 57, 58, 59, 60, 61, 62, 63, 64, 65, 66, 67, 68, 69, 70, 71, 72, 73, 74, 75, 76, 77, 78] (by decide +kernel) (by decide +kernel)
set_option maxRecDepth 20000 in
theorem gX4_remove_X4_does : GoodIn wsX4_remove (wsV RX4 111 RX4 yX4_does wsX4_does) := goodIn_app (goodIn_of _ (by decide +kernel)) ggX4_remove_X4_does
theorem dX4_remove_0 : decode cX4_remove 0 = .ok (.aload_n 0, 1) := by decide +kernel
theorem dX4_remove_1 : decode cX4_remove 1 = .ok (.iload_n 1, 1) := by decide +kernel
theorem dX4_remove_2 : decode cX4_remove 2 = .ok (.iconst 1, 1) := by decide +kernel
theorem dX4_remove_3 : decode cX4_remove 3 = .ok (.invokevirtual 118, 3) := by decide +kernel
theorem dX4_remove_6 : decode cX4_remove 6 = .ok (.lstore_n 2, 1) := by decide +kernel
theorem dX4_remove_7 : decode cX4_remove 7 = .ok (.lload_n 2, 1) := by decide +kernel
theorem dX4_remove_8 : decode cX4_remove 8 = .ok (.lconst 0, 1) := by decide +kernel
theorem dX4_remove_9 : decode cX4_remove 9 = .ok (.lcmp, 1) := by decide +kernel
theorem dX4_remove_10 : decode cX4_remove 10 = .ok (.ifCond .ge 5, 3) := by decide +kernel
theorem dX4_remove_13 : decode cX4_remove 13 = .ok (.lload_n 2, 1) := by decide +kernel
theorem dX4_remove_14 : decode cX4_remove 14 = .ok (.lreturn, 1) := by decide +kernel
theorem dX4_remove_15 : decode cX4_remove 15 = .ok (.aload_n 0, 1) := by decide +kernel
theorem dX4_remove_16 : decode cX4_remove 16 = .ok (.iload_n 1, 1) := by decide +kernel
theorem dX4_remove_17 : decode cX4_remove 17 = .ok (.aload_n 0, 1) := by decide +kernel
theorem dX4_remove_18 : decode cX4_remove 18 = .ok (.getfield 60, 3) := by decide +kernel
theorem dX4_remove_21 : decode cX4_remove 21 = .ok (.invokevirtual 64, 3) := by decide +kernel
theorem dX4_remove_24 : decode cX4_remove 24 = .ok (.lstore 4, 2) := by decide +kernel
theorem dX4_remove_26 : decode cX4_remove 26 = .ok (.aload_n 0, 1) := by decide +kernel
theorem dX4_remove_27 : decode cX4_remove 27 = .ok (.iload_n 1, 1) := by decide +kernel
theorem dX4_remove_28 : decode cX4_remove 28 = .ok (.invokevirtual 122, 3) := by decide +kernel
theorem dX4_remove_31 : decode cX4_remove 31 = .ok (.istore 6, 2) := by decide +kernel
theorem dX4_remove_33 : decode cX4_remove 33 = .ok (.aload_n 0, 1) := by decide +kernel
theorem dX4_remove_34 : decode cX4_remove 34 = .ok (.dup, 1) := by decide +kernel
theorem dX4_remove_35 : decode cX4_remove 35 = .ok (.getfield 78, 3) := by decide +kernel
theorem dX4_remove_38 : decode cX4_remove 38 = .ok (.iconst 1, 1) := by decide +kernel
theorem dX4_remove_39 : decode cX4_remove 39 = .ok (.isub, 1) := by decide +kernel
theorem dX4_remove_40 : decode cX4_remove 40 = .ok (.putfield 78, 3) := by decide +kernel
theorem dX4_remove_43 : decode cX4_remove 43 = .ok (.aload_n 0, 1) := by decide +kernel
theorem dX4_remove_44 : decode cX4_remove 44 = .ok (.getfield 7, 3) := by decide +kernel
theorem dX4_remove_47 : decode cX4_remove 47 = .ok (.iload 6, 2) := by decide +kernel
theorem dX4_remove_49 : decode cX4_remove 49 = .ok (.aload_n 0, 1) := by decide +kernel
theorem dX4_remove_50 : decode cX4_remove 50 = .ok (.getfield 7, 3) := by decide +kernel
theorem dX4_remove_53 : decode cX4_remove 53 = .ok (.aload_n 0, 1) := by decide +kernel
theorem dX4_remove_54 : decode cX4_remove 54 = .ok (.getfield 78, 3) := by decide +kernel
theorem dX4_remove_57 : decode cX4_remove 57 = .ok (.iaload, 1) := by decide +kernel
theorem dX4_remove_58 : decode cX4_remove 58 = .ok (.iastore, 1) := by decide +kernel
theorem dX4_remove_59 : decode cX4_remove 59 = .ok (.aload_n 0, 1) := by decide +kernel
theorem dX4_remove_60 : decode cX4_remove 60 = .ok (.getfield 13, 3) := by decide +kernel
theorem dX4_remove_63 : decode cX4_remove 63 = .ok (.iload_n 1, 1) := by decide +kernel
theorem dX4_remove_64 : decode cX4_remove 64 = .ok (.iconst 0, 1) := by decide +kernel
theorem dX4_remove_65 : decode cX4_remove 65 = .ok (.bastore, 1) := by decide +kernel
theorem dX4_remove_66 : decode cX4_remove 66 = .ok (.aload_n 0, 1) := by decide +kernel
theorem dX4_remove_67 : decode cX4_remove 67 = .ok (.iload_n 1, 1) := by decide +kernel
theorem dX4_remove_68 : decode cX4_remove 68 = .ok (.invokevirtual 111, 3) := by decide +kernel
theorem dX4_remove_71 : decode cX4_remove 71 = .ok (.lload 4, 2) := by decide +kernel
theorem dX4_remove_73 : decode cX4_remove 73 = .ok (.lreturn, 1) := by decide +kernel
set_option maxRecDepth 20000 in
theorem ggX4_setVelocity_X4_in : GoodIn wsX4_setVelocity wsX4_in := goodIn_r _ [10] (by decide +kernel) (by decide +kernel)
set_option maxRecDepth 20000 in
theorem gX4_setVelocity_X4_in : GoodIn wsX4_setVelocity (va_wsS RX4 56 yX4_in wsX4_in) := goodIn_app (goodIn_of _ (by decide +kernel)) ggX4_setVelocity_X4_in
set_option maxRecDepth 20000 in
theorem ggX4_setVelocity_X4_inWay : GoodIn wsX4_setVelocity wsX4_inWay := goodIn_r _ [14, 15, 16, 17, 18, 19, 20, 9, 21, 22, 23, 7, 8, 10, 54, 55, 56, 57, 58, 59, 60, 61, 62, 63, 64, 65, 66, 67, 68, 69, 70, 71, 72, 73, 74, 75, 76] (by decide +kernel) (by decide +kernel)
set_option maxRecDepth 20000 in
theorem gX4_setVelocity_X4_inWay : GoodIn wsX4_setVelocity (wsV RX4 118 RX4 yX4_inWay wsX4_inWay) := goodIn_app (goodIn_of _ (by decide +kernel)) ggX4_setVelocity_X4_inWay
set_option maxRecDepth 20000 in
theorem ggX4_setVelocity_X4_valueOf : GoodIn wsX4_setVelocity wsX4_valueOf := goodIn_r _ [27, 4, 3, 6, 54, 55, 56, 57, 58, 59, 60, 61, 62, 63, 64, 65, 66, 67, 68, 69, 70, 71, 72, 73, 74, 75, 76] (by decide +kernel) (by decide +kernel)
set_option maxRecDepth 20000 in
theorem gX4_setVelocity_X4_valueOf : GoodIn wsX4_setVelocity (wsV RX4 64 RX4 yX4_valueOf wsX4_valueOf) := goodIn_app (goodIn_of _ (by decide +kernel)) ggX4_setVelocity_X4_valueOf
set_option maxRecDepth 20000 in
theorem ggX4_setVelocity_X4_does : GoodIn wsX4_setVelocity wsX4_does := goodIn_r _ [31, 16, 32, 33, 34, 9, 35, 36, 37, 5, 38, 39, 23, 40, 41, 3, 24, 25, 26, 27, 4, 6, 42, 43, 44, 45, 46, 47, 48, 49, 50, 51, 52, 53, 54, 55, 56, 57, 58, 59, 60, 61, 62, 63, 64, 65, 66, 67, 68, 69, 70, 71, 72, 73, 74, 75, 76] (by decide +kernel) (by decide +kernel)
set_option maxRecDepth 20000 in
theorem gX4_setVelocity_X4_does : GoodIn wsX4_setVelocity (wsV RX4 111 RX4 yX4_does wsX4_does) := goodIn_app (goodIn_of _ (by decide +kernel)) ggX4_setVelocity_X4_does
theorem dX4_setVelocity_0 : decode cX4_setVelocity 0 = .ok (.aload_n 0, 1) := by decide +kernel
theorem dX4_setVelocity_1 : decode cX4_setVelocity 1 = .ok (.iload_n 1, 1) := by decide +kernel
theorem dX4_setVelocity_2 : decode cX4_setVelocity 2 = .ok (.iload_n 2, 1) := by decide +kernel
theorem dX4_setVelocity_3 : decode cX4_setVelocity 3 = .ok (.i2l, 1) := by decide +kernel
theorem dX4_setVelocity_4 : decode cX4_setVelocity 4 = .ok (.ldc2_w 103, 3) := by decide +kernel
theorem dX4_setVelocity_7 : decode cX4_setVelocity 7 = .ok (.ldc2_w 105, 3) := by decide +kernel
theorem dX4_setVelocity_10 : decode cX4_setVelocity 10 = .ok (.invokestatic 56, 3) := by decide +kernel
theorem dX4_setVelocity_13 : decode cX4_setVelocity 13 = .ok (.invokevirtual 118, 3) := by decide +kernel
theorem dX4_setVelocity_16 : decode cX4_setVelocity 16 = .ok (.lstore_n 3, 1) := by decide +kernel
theorem dX4_setVelocity_17 : decode cX4_setVelocity 17 = .ok (.lload_n 3, 1) := by decide +kernel
theorem dX4_setVelocity_18 : decode cX4_setVelocity 18 = .ok (.lconst 0, 1) := by decide +kernel
theorem dX4_setVelocity_19 : decode cX4_setVelocity 19 = .ok (.lcmp, 1) := by decide +kernel
theorem dX4_setVelocity_20 : decode cX4_setVelocity 20 = .ok (.ifCond .ge 5, 3) := by decide +kernel
theorem dX4_setVelocity_23 : decode cX4_setVelocity 23 = .ok (.lload_n 3, 1) := by decide +kernel
theorem dX4_setVelocity_24 : decode cX4_setVelocity 24 = .ok (.lreturn, 1) := by decide +kernel
theorem dX4_setVelocity_25 : decode cX4_setVelocity 25 = .ok (.aload_n 0, 1) := by decide +kernel
theorem dX4_setVelocity_26 : decode cX4_setVelocity 26 = .ok (.getfield 24, 3) := by decide +kernel
theorem dX4_setVelocity_29 : decode cX4_setVelocity 29 = .ok (.iload_n 1, 1) := by decide +kernel
theorem dX4_setVelocity_30 : decode cX4_setVelocity 30 = .ok (.iaload, 1) := by decide +kernel
theorem dX4_setVelocity_31 : decode cX4_setVelocity 31 = .ok (.istore 5, 2) := by decide +kernel
theorem dX4_setVelocity_33 : decode cX4_setVelocity 33 = .ok (.aload_n 0, 1) := by decide +kernel
theorem dX4_setVelocity_34 : decode cX4_setVelocity 34 = .ok (.getfield 17, 3) := by decide +kernel
theorem dX4_setVelocity_37 : decode cX4_setVelocity 37 = .ok (.iload_n 1, 1) := by decide +kernel
theorem dX4_setVelocity_38 : decode cX4_setVelocity 38 = .ok (.aload_n 0, 1) := by decide +kernel
theorem dX4_setVelocity_39 : decode cX4_setVelocity 39 = .ok (.iload_n 1, 1) := by decide +kernel
theorem dX4_setVelocity_40 : decode cX4_setVelocity 40 = .ok (.aload_n 0, 1) := by decide +kernel
theorem dX4_setVelocity_41 : decode cX4_setVelocity 41 = .ok (.getfield 60, 3) := by decide +kernel
theorem dX4_setVelocity_44 : decode cX4_setVelocity 44 = .ok (.invokevirtual 64, 3) := by decide +kernel
theorem dX4_setVelocity_47 : decode cX4_setVelocity 47 = .ok (.lastore, 1) := by decide +kernel
theorem dX4_setVelocity_48 : decode cX4_setVelocity 48 = .ok (.aload_n 0, 1) := by decide +kernel
theorem dX4_setVelocity_49 : decode cX4_setVelocity 49 = .ok (.getfield 21, 3) := by decide +kernel
theorem dX4_setVelocity_52 : decode cX4_setVelocity 52 = .ok (.iload_n 1, 1) := by decide +kernel
theorem dX4_setVelocity_53 : decode cX4_setVelocity 53 = .ok (.aload_n 0, 1) := by decide +kernel
theorem dX4_setVelocity_54 : decode cX4_setVelocity 54 = .ok (.getfield 60, 3) := by decide +kernel
theorem dX4_setVelocity_57 : decode cX4_setVelocity 57 = .ok (.iastore, 1) := by decide +kernel
theorem dX4_setVelocity_58 : decode cX4_setVelocity 58 = .ok (.aload_n 0, 1) := by decide +kernel
theorem dX4_setVelocity_59 : decode cX4_setVelocity 59 = .ok (.getfield 24, 3) := by decide +kernel
theorem dX4_setVelocity_62 : decode cX4_setVelocity 62 = .ok (.iload_n 1, 1) := by decide +kernel
theorem dX4_setVelocity_63 : decode cX4_setVelocity 63 = .ok (.iload_n 2, 1) := by decide +kernel
theorem dX4_setVelocity_64 : decode cX4_setVelocity 64 = .ok (.iastore, 1) := by decide +kernel
theorem dX4_setVelocity_65 : decode cX4_setVelocity 65 = .ok (.aload_n 0, 1) := by decide +kernel
theorem dX4_setVelocity_66 : decode cX4_setVelocity 66 = .ok (.iload_n 1, 1) := by decide +kernel
theorem dX4_setVelocity_67 : decode cX4_setVelocity 67 = .ok (.invokevirtual 111, 3) := by decide +kernel
theorem dX4_setVelocity_70 : decode cX4_setVelocity 70 = .ok (.iload 5, 2) := by decide +kernel
theorem dX4_setVelocity_72 : decode cX4_setVelocity 72 = .ok (.i2l, 1) := by decide +kernel
theorem dX4_setVelocity_73 : decode cX4_setVelocity 73 = .ok (.lreturn, 1) := by decide +kernel
set_option maxRecDepth 20000 in
theorem ggX4_jump_X4_in : GoodIn wsX4_jump wsX4_in := goodIn_r _ [9] (by decide +kernel) (by decide +kernel)
set_option maxRecDepth 20000 in
theorem gX4_jump_X4_in : GoodIn wsX4_jump (va_wsS RX4 56 yX4_in wsX4_in) := goodIn_app (goodIn_of _ (by decide +kernel)) ggX4_jump_X4_in
set_option maxRecDepth 20000 in
theorem ggX4_jump_X4_inWay : GoodIn wsX4_jump wsX4_inWay := goodIn_r _ [13, 14, 15, 16, 17, 18, 19, 8, 20, 21, 22, 6, 7, 9, 54, 55, 56, 57, 58, 59, 60, 61, 62, 63, 64, 65, 66, 67, 68, 69, 70, 71, 72, 73, 74, 75, 76] (by decide +kernel) (by decide +kernel)
set_option maxRecDepth 20000 in
theorem gX4_jump_X4_inWay : GoodIn wsX4_jump (wsV RX4 118 RX4 yX4_inWay wsX4_inWay) := goodIn_app (goodIn_of _ (by decide +kernel)) ggX4_jump_X4_inWay
set_option maxRecDepth 20000 in
theorem ggX4_jump_X4_valueOf : GoodIn wsX4_jump wsX4_valueOf := goodIn_r _ [26, 4, 27, 5, 54, 55, 56, 57, 58, 59, 60, 61, 62, 63, 64, 65, 66, 67, 68, 69, 70, 71, 72, 73, 74, 75, 76] (by decide +kernel) (by decide +kernel)
set_option maxRecDepth 20000 in
theorem gX4_jump_X4_valueOf : GoodIn wsX4_jump (wsV RX4 64 RX4 yX4_valueOf wsX4_valueOf) := goodIn_app (goodIn_of _ (by decide +kernel)) ggX4_jump_X4_valueOf
set_option maxRecDepth 20000 in
theorem ggX4_jump_X4_does : GoodIn wsX4_jump wsX4_does := goodIn_r _ [31, 15, 32, 33, 34, 8, 35, 36, 37, 3, 38, 39, 22, 40, 41, 27, 23, 24, 25, 26, 4, 5, 42, 43, 44, 45, 46, 47, 48, 49, 50, 51, 52, 53, 54, 55, 56, 57, 58, 59, 60, 61, 62, 63, 64, 65, 66, 67, 68, 69, 70, 71, 72, 73, 74, 75, 76] (by decide +kernel) (by decide +kernel)
set_option maxRecDepth 20000 in
theorem gX4_jump_X4_does : GoodIn wsX4_jump (wsV RX4 111 RX4 yX4_does wsX4_does) := goodIn_app (goodIn_of _ (by decide +kernel)) ggX4_jump_X4_does
theorem dX4_jump_0 : decode cX4_jump 0 = .ok (.aload_n 0, 1) := by decide +kernel
theorem dX4_jump_1 : decode cX4_jump 1 = .ok (.iload_n 1, 1) := by decide +kernel
theorem dX4_jump_2 : decode cX4_jump 2 = .ok (.iload_n 2, 1) := by decide +kernel
theorem dX4_jump_3 : decode cX4_jump 3 = .ok (.i2l, 1) := by decide +kernel
theorem dX4_jump_4 : decode cX4_jump 4 = .ok (.ldc2_w 101, 3) := by decide +kernel
theorem dX4_jump_7 : decode cX4_jump 7 = .ok (.ldc2_w 68, 3) := by decide +kernel
theorem dX4_jump_10 : decode cX4_jump 10 = .ok (.invokestatic 56, 3) := by decide +kernel
theorem dX4_jump_13 : decode cX4_jump 13 = .ok (.invokevirtual 118, 3) := by decide +kernel
theorem dX4_jump_16 : decode cX4_jump 16 = .ok (.lstore_n 3, 1) := by decide +kernel
theorem dX4_jump_17 : decode cX4_jump 17 = .ok (.lload_n 3, 1) := by decide +kernel
theorem dX4_jump_18 : decode cX4_jump 18 = .ok (.lconst 0, 1) := by decide +kernel
theorem dX4_jump_19 : decode cX4_jump 19 = .ok (.lcmp, 1) := by decide +kernel
theorem dX4_jump_20 : decode cX4_jump 20 = .ok (.ifCond .ge 5, 3) := by decide +kernel
theorem dX4_jump_23 : decode cX4_jump 23 = .ok (.lload_n 3, 1) := by decide +kernel
theorem dX4_jump_24 : decode cX4_jump 24 = .ok (.lreturn, 1) := by decide +kernel
theorem dX4_jump_25 : decode cX4_jump 25 = .ok (.aload_n 0, 1) := by decide +kernel
theorem dX4_jump_26 : decode cX4_jump 26 = .ok (.iload_n 1, 1) := by decide +kernel
theorem dX4_jump_27 : decode cX4_jump 27 = .ok (.aload_n 0, 1) := by decide +kernel
theorem dX4_jump_28 : decode cX4_jump 28 = .ok (.getfield 60, 3) := by decide +kernel
theorem dX4_jump_31 : decode cX4_jump 31 = .ok (.invokevirtual 64, 3) := by decide +kernel
theorem dX4_jump_34 : decode cX4_jump 34 = .ok (.lstore 5, 2) := by decide +kernel
theorem dX4_jump_36 : decode cX4_jump 36 = .ok (.aload_n 0, 1) := by decide +kernel
theorem dX4_jump_37 : decode cX4_jump 37 = .ok (.getfield 17, 3) := by decide +kernel
theorem dX4_jump_40 : decode cX4_jump 40 = .ok (.iload_n 1, 1) := by decide +kernel
theorem dX4_jump_41 : decode cX4_jump 41 = .ok (.iload_n 2, 1) := by decide +kernel
theorem dX4_jump_42 : decode cX4_jump 42 = .ok (.i2l, 1) := by decide +kernel
theorem dX4_jump_43 : decode cX4_jump 43 = .ok (.lastore, 1) := by decide +kernel
theorem dX4_jump_44 : decode cX4_jump 44 = .ok (.aload_n 0, 1) := by decide +kernel
theorem dX4_jump_45 : decode cX4_jump 45 = .ok (.getfield 21, 3) := by decide +kernel
theorem dX4_jump_48 : decode cX4_jump 48 = .ok (.iload_n 1, 1) := by decide +kernel
theorem dX4_jump_49 : decode cX4_jump 49 = .ok (.aload_n 0, 1) := by decide +kernel
theorem dX4_jump_50 : decode cX4_jump 50 = .ok (.getfield 60, 3) := by decide +kernel
theorem dX4_jump_53 : decode cX4_jump 53 = .ok (.iastore, 1) := by decide +kernel
theorem dX4_jump_54 : decode cX4_jump 54 = .ok (.aload_n 0, 1) := by decide +kernel
theorem dX4_jump_55 : decode cX4_jump 55 = .ok (.iload_n 1, 1) := by decide +kernel
theorem dX4_jump_56 : decode cX4_jump 56 = .ok (.invokevirtual 111, 3) := by decide +kernel
theorem dX4_jump_59 : decode cX4_jump 59 = .ok (.lload 5, 2) := by decide +kernel
theorem dX4_jump_61 : decode cX4_jump 61 = .ok (.lreturn, 1) := by decide +kernel
theorem dX4_size_0 : decode cX4_size 0 = .ok (.aload_n 0, 1) := by decide +kernel
theorem dX4_size_1 : decode cX4_size 1 = .ok (.getfield 78, 3) := by decide +kernel
theorem dX4_size_4 : decode cX4_size 4 = .ok (.ireturn, 1) := by decide +kernel
set_option maxRecDepth 20000 in
theorem ggX4_point_X4_isPoint : GoodIn wsX4_point wsX4_isPoint := goodIn_r _ [11, 12, 3, 13, 14, 10, 15, 31, 32, 33, 34, 35, 36, 37, 38, 39, 40, 41, 42, 43, 44, 45, 46, 47, 48, 49, 50, 51, 52, 53] (by decide +kernel) (by decide +kernel)
set_option maxRecDepth 20000 in
theorem gX4_point_X4_isPoint : GoodIn wsX4_point (wsV RX4 114 RX4 yX4_isPoint wsX4_isPoint) := goodIn_app (goodIn_of _ (by decide +kernel)) ggX4_point_X4_isPoint
set_option maxRecDepth 20000 in
theorem ggX4_point_X4_in : GoodIn wsX4_point wsX4_in := goodIn_r _ [15] (by decide +kernel) (by decide +kernel)
set_option maxRecDepth 20000 in
theorem gX4_point_X4_in : GoodIn wsX4_point (va_wsS RX4 56 yX4_in wsX4_in) := goodIn_app (goodIn_of _ (by decide +kernel)) ggX4_point_X4_in
set_option maxRecDepth 20000 in
theorem ggX4_point_X4_isBefore : GoodIn wsX4_point wsX4_isBefore := goodIn_r _ [19, 4, 20, 21, 22, 10, 23, 24, 5, 25, 31, 32, 33, 34, 35, 36, 37, 38, 39, 40, 41, 42, 43, 44, 45, 46, 47, 48, 49, 50, 51, 52, 53] (by decide +kernel) (by decide +kernel)
set_option maxRecDepth 20000 in
theorem gX4_point_X4_isBefore : GoodIn wsX4_point (wsV RX4 70 RX4 yX4_isBefore wsX4_isBefore) := goodIn_app (goodIn_of _ (by decide +kernel)) ggX4_point_X4_isBefore
set_option maxRecDepth 20000 in
theorem ggX4_point_X4_valueOf : GoodIn wsX4_point wsX4_valueOf := goodIn_r _ [23, 24, 5, 25, 31, 32, 33, 34, 35, 36, 37, 38, 39, 40, 41, 42, 43, 44, 45, 46, 47, 48, 49, 50, 51, 52, 53] (by decide +kernel) (by decide +kernel)
set_option maxRecDepth 20000 in
theorem gX4_point_X4_valueOf : GoodIn wsX4_point (wsV RX4 64 RX4 yX4_valueOf wsX4_valueOf) := goodIn_app (goodIn_of _ (by decide +kernel)) ggX4_point_X4_valueOf
set_option maxRecDepth 20000 in
theorem ggX4_point_X4_placeOf : GoodIn wsX4_point wsX4_placeOf := goodIn_r _ [29, 30, 31, 32, 33, 34, 35, 36, 37, 38, 39, 40, 41, 42, 43, 44, 45, 46, 47, 48, 49, 50, 51, 52, 53] (by decide +kernel) (by decide +kernel)
set_option maxRecDepth 20000 in
theorem gX4_point_X4_placeOf : GoodIn wsX4_point (wsV RX4 122 RX4 yX4_placeOf wsX4_placeOf) := goodIn_app (goodIn_of _ (by decide +kernel)) ggX4_point_X4_placeOf
theorem dX4_point_0 : decode cX4_point 0 = .ok (.aload_n 0, 1) := by decide +kernel
theorem dX4_point_1 : decode cX4_point 1 = .ok (.iload_n 1, 1) := by decide +kernel
theorem dX4_point_2 : decode cX4_point 2 = .ok (.invokevirtual 114, 3) := by decide +kernel
theorem dX4_point_5 : decode cX4_point 5 = .ok (.ifCond .eq 15, 3) := by decide +kernel
theorem dX4_point_8 : decode cX4_point 8 = .ok (.iload_n 2, 1) := by decide +kernel
theorem dX4_point_9 : decode cX4_point 9 = .ok (.i2l, 1) := by decide +kernel
theorem dX4_point_10 : decode cX4_point 10 = .ok (.lconst 0, 1) := by decide +kernel
theorem dX4_point_11 : decode cX4_point 11 = .ok (.ldc2_w 126, 3) := by decide +kernel
theorem dX4_point_14 : decode cX4_point 14 = .ok (.invokestatic 56, 3) := by decide +kernel
theorem dX4_point_17 : decode cX4_point 17 = .ok (.ifCond .ne 7, 3) := by decide +kernel
theorem dX4_point_20 : decode cX4_point 20 = .ok (.ldc2_w 107, 3) := by decide +kernel
theorem dX4_point_23 : decode cX4_point 23 = .ok (.lreturn, 1) := by decide +kernel
theorem dX4_point_24 : decode cX4_point 24 = .ok (.iconst 0, 1) := by decide +kernel
theorem dX4_point_25 : decode cX4_point 25 = .ok (.istore_n 3, 1) := by decide +kernel
theorem dX4_point_26 : decode cX4_point 26 = .ok (.iconst 0, 1) := by decide +kernel
theorem dX4_point_27 : decode cX4_point 27 = .ok (.istore 4, 2) := by decide +kernel
theorem dX4_point_29 : decode cX4_point 29 = .ok (.iload 4, 2) := by decide +kernel
theorem dX4_point_31 : decode cX4_point 31 = .ok (.bipush 24, 2) := by decide +kernel
theorem dX4_point_33 : decode cX4_point 33 = .ok (.if_icmp .ge 43, 3) := by decide +kernel
theorem dX4_point_36 : decode cX4_point 36 = .ok (.iload_n 3, 1) := by decide +kernel
theorem dX4_point_37 : decode cX4_point 37 = .ok (.aload_n 0, 1) := by decide +kernel
theorem dX4_point_38 : decode cX4_point 38 = .ok (.getfield 13, 3) := by decide +kernel
theorem dX4_point_41 : decode cX4_point 41 = .ok (.iload 4, 2) := by decide +kernel
theorem dX4_point_43 : decode cX4_point 43 = .ok (.baload, 1) := by decide +kernel
theorem dX4_point_44 : decode cX4_point 44 = .ok (.ifCond .eq 23, 3) := by decide +kernel
theorem dX4_point_47 : decode cX4_point 47 = .ok (.iload 4, 2) := by decide +kernel
theorem dX4_point_49 : decode cX4_point 49 = .ok (.iload_n 1, 1) := by decide +kernel
theorem dX4_point_50 : decode cX4_point 50 = .ok (.if_icmp .eq 17, 3) := by decide +kernel
theorem dX4_point_53 : decode cX4_point 53 = .ok (.aload_n 0, 1) := by decide +kernel
theorem dX4_point_54 : decode cX4_point 54 = .ok (.iload 4, 2) := by decide +kernel
theorem dX4_point_56 : decode cX4_point 56 = .ok (.iload_n 1, 1) := by decide +kernel
theorem dX4_point_57 : decode cX4_point 57 = .ok (.invokevirtual 70, 3) := by decide +kernel
theorem dX4_point_60 : decode cX4_point 60 = .ok (.ifCond .eq 7, 3) := by decide +kernel
theorem dX4_point_63 : decode cX4_point 63 = .ok (.iconst 1, 1) := by decide +kernel
theorem dX4_point_64 : decode cX4_point 64 = .ok (.goto 4, 3) := by decide +kernel
theorem dX4_point_67 : decode cX4_point 67 = .ok (.iconst 0, 1) := by decide +kernel
theorem dX4_point_68 : decode cX4_point 68 = .ok (.iadd, 1) := by decide +kernel
theorem dX4_point_69 : decode cX4_point 69 = .ok (.istore_n 3, 1) := by decide +kernel
theorem dX4_point_70 : decode cX4_point 70 = .ok (.iinc 4 1, 3) := by decide +kernel
theorem dX4_point_73 : decode cX4_point 73 = .ok (.goto (-44), 3) := by decide +kernel
theorem dX4_point_76 : decode cX4_point 76 = .ok (.iload_n 2, 1) := by decide +kernel
theorem dX4_point_77 : decode cX4_point 77 = .ok (.ifCond .ne 15, 3) := by decide +kernel
theorem dX4_point_80 : decode cX4_point 80 = .ok (.aload_n 0, 1) := by decide +kernel
theorem dX4_point_81 : decode cX4_point 81 = .ok (.iload_n 1, 1) := by decide +kernel
theorem dX4_point_82 : decode cX4_point 82 = .ok (.aload_n 0, 1) := by decide +kernel
theorem dX4_point_83 : decode cX4_point 83 = .ok (.getfield 60, 3) := by decide +kernel
theorem dX4_point_86 : decode cX4_point 86 = .ok (.invokevirtual 64, 3) := by decide +kernel
theorem dX4_point_89 : decode cX4_point 89 = .ok (.goto 49, 3) := by decide +kernel
theorem dX4_point_92 : decode cX4_point 92 = .ok (.iload_n 2, 1) := by decide +kernel
theorem dX4_point_93 : decode cX4_point 93 = .ok (.iconst 1, 1) := by decide +kernel
theorem dX4_point_94 : decode cX4_point 94 = .ok (.if_icmp .ne 13, 3) := by decide +kernel
theorem dX4_point_97 : decode cX4_point 97 = .ok (.aload_n 0, 1) := by decide +kernel
theorem dX4_point_98 : decode cX4_point 98 = .ok (.getfield 24, 3) := by decide +kernel
theorem dX4_point_101 : decode cX4_point 101 = .ok (.iload_n 1, 1) := by decide +kernel
theorem dX4_point_102 : decode cX4_point 102 = .ok (.iaload, 1) := by decide +kernel
theorem dX4_point_103 : decode cX4_point 103 = .ok (.i2l, 1) := by decide +kernel
theorem dX4_point_104 : decode cX4_point 104 = .ok (.goto 34, 3) := by decide +kernel
theorem dX4_point_107 : decode cX4_point 107 = .ok (.iload_n 2, 1) := by decide +kernel
theorem dX4_point_108 : decode cX4_point 108 = .ok (.iconst 2, 1) := by decide +kernel
theorem dX4_point_109 : decode cX4_point 109 = .ok (.if_icmp .ne 12, 3) := by decide +kernel
theorem dX4_point_112 : decode cX4_point 112 = .ok (.aload_n 0, 1) := by decide +kernel
theorem dX4_point_113 : decode cX4_point 113 = .ok (.iload_n 1, 1) := by decide +kernel
theorem dX4_point_114 : decode cX4_point 114 = .ok (.invokevirtual 122, 3) := by decide +kernel
theorem dX4_point_117 : decode cX4_point 117 = .ok (.i2l, 1) := by decide +kernel
theorem dX4_point_118 : decode cX4_point 118 = .ok (.goto 20, 3) := by decide +kernel
theorem dX4_point_121 : decode cX4_point 121 = .ok (.iload_n 2, 1) := by decide +kernel
theorem dX4_point_122 : decode cX4_point 122 = .ok (.iconst 3, 1) := by decide +kernel
theorem dX4_point_123 : decode cX4_point 123 = .ok (.if_icmp .ne 13, 3) := by decide +kernel
theorem dX4_point_126 : decode cX4_point 126 = .ok (.aload_n 0, 1) := by decide +kernel
theorem dX4_point_127 : decode cX4_point 127 = .ok (.getfield 27, 3) := by decide +kernel
theorem dX4_point_130 : decode cX4_point 130 = .ok (.iload_n 1, 1) := by decide +kernel
theorem dX4_point_131 : decode cX4_point 131 = .ok (.iaload, 1) := by decide +kernel
theorem dX4_point_132 : decode cX4_point 132 = .ok (.i2l, 1) := by decide +kernel
theorem dX4_point_133 : decode cX4_point 133 = .ok (.goto 5, 3) := by decide +kernel
theorem dX4_point_136 : decode cX4_point 136 = .ok (.iload_n 3, 1) := by decide +kernel
theorem dX4_point_137 : decode cX4_point 137 = .ok (.i2l, 1) := by decide +kernel
theorem dX4_point_138 : decode cX4_point 138 = .ok (.lreturn, 1) := by decide +kernel
theorem dX4_at_0 : decode cX4_at 0 = .ok (.iload_n 1, 1) := by decide +kernel
theorem dX4_at_1 : decode cX4_at 1 = .ok (.ifCond .ge 9, 3) := by decide +kernel
theorem dX4_at_4 : decode cX4_at 4 = .ok (.ldc2_w 107, 3) := by decide +kernel
theorem dX4_at_7 : decode cX4_at 7 = .ok (.goto 24, 3) := by decide +kernel
theorem dX4_at_10 : decode cX4_at 10 = .ok (.iload_n 1, 1) := by decide +kernel
theorem dX4_at_11 : decode cX4_at 11 = .ok (.aload_n 0, 1) := by decide +kernel
theorem dX4_at_12 : decode cX4_at 12 = .ok (.getfield 78, 3) := by decide +kernel
theorem dX4_at_15 : decode cX4_at 15 = .ok (.if_icmp .ge 13, 3) := by decide +kernel
theorem dX4_at_18 : decode cX4_at 18 = .ok (.aload_n 0, 1) := by decide +kernel
theorem dX4_at_19 : decode cX4_at 19 = .ok (.getfield 7, 3) := by decide +kernel
theorem dX4_at_22 : decode cX4_at 22 = .ok (.iload_n 1, 1) := by decide +kernel
theorem dX4_at_23 : decode cX4_at 23 = .ok (.iaload, 1) := by decide +kernel
theorem dX4_at_24 : decode cX4_at 24 = .ok (.i2l, 1) := by decide +kernel
theorem dX4_at_25 : decode cX4_at 25 = .ok (.goto 6, 3) := by decide +kernel
theorem dX4_at_28 : decode cX4_at 28 = .ok (.ldc2_w 128, 3) := by decide +kernel
theorem dX4_at_31 : decode cX4_at 31 = .ok (.lreturn, 1) := by decide +kernel
set_option maxRecDepth 20000 in
theorem ggX4_nextFailure_X4_failureOf : GoodIn wsX4_nextFailure wsX4_failureOf := goodIn_r _ [6, 7, 8, 9, 10, 11, 5, 12, 13, 14, 15, 16, 17, 18, 19, 20, 21, 22, 23, 24, 25, 26, 27, 28, 29, 30, 31, 32, 33, 34, 35, 36, 37, 38, 39, 40, 41, 42, 43, 44, 45, 46, 47] (by decide +kernel) (by decide +kernel)
set_option maxRecDepth 20000 in
theorem gX4_nextFailure_X4_failureOf : GoodIn wsX4_nextFailure (wsV RX4 130 RX4 yX4_failureOf wsX4_failureOf) := goodIn_app (goodIn_of _ (by decide +kernel)) ggX4_nextFailure_X4_failureOf
theorem dX4_nextFailure_0 : decode cX4_nextFailure 0 = .ok (.iconst (-1), 1) := by decide +kernel
theorem dX4_nextFailure_1 : decode cX4_nextFailure 1 = .ok (.istore_n 1, 1) := by decide +kernel
theorem dX4_nextFailure_2 : decode cX4_nextFailure 2 = .ok (.iconst 1, 1) := by decide +kernel
theorem dX4_nextFailure_3 : decode cX4_nextFailure 3 = .ok (.istore_n 2, 1) := by decide +kernel
theorem dX4_nextFailure_4 : decode cX4_nextFailure 4 = .ok (.iload_n 2, 1) := by decide +kernel
theorem dX4_nextFailure_5 : decode cX4_nextFailure 5 = .ok (.aload_n 0, 1) := by decide +kernel
theorem dX4_nextFailure_6 : decode cX4_nextFailure 6 = .ok (.getfield 78, 3) := by decide +kernel
theorem dX4_nextFailure_9 : decode cX4_nextFailure 9 = .ok (.if_icmp .ge 34, 3) := by decide +kernel
theorem dX4_nextFailure_12 : decode cX4_nextFailure 12 = .ok (.aload_n 0, 1) := by decide +kernel
theorem dX4_nextFailure_13 : decode cX4_nextFailure 13 = .ok (.iload_n 2, 1) := by decide +kernel
theorem dX4_nextFailure_14 : decode cX4_nextFailure 14 = .ok (.invokevirtual 130, 3) := by decide +kernel
theorem dX4_nextFailure_17 : decode cX4_nextFailure 17 = .ok (.istore_n 3, 1) := by decide +kernel
theorem dX4_nextFailure_18 : decode cX4_nextFailure 18 = .ok (.iload_n 3, 1) := by decide +kernel
theorem dX4_nextFailure_19 : decode cX4_nextFailure 19 = .ok (.ifCond .lt 16, 3) := by decide +kernel
theorem dX4_nextFailure_22 : decode cX4_nextFailure 22 = .ok (.iload_n 1, 1) := by decide +kernel
theorem dX4_nextFailure_23 : decode cX4_nextFailure 23 = .ok (.ifCond .lt 8, 3) := by decide +kernel
theorem dX4_nextFailure_26 : decode cX4_nextFailure 26 = .ok (.iload_n 3, 1) := by decide +kernel
theorem dX4_nextFailure_27 : decode cX4_nextFailure 27 = .ok (.iload_n 1, 1) := by decide +kernel
theorem dX4_nextFailure_28 : decode cX4_nextFailure 28 = .ok (.if_icmp .ge 7, 3) := by decide +kernel
theorem dX4_nextFailure_31 : decode cX4_nextFailure 31 = .ok (.iload_n 3, 1) := by decide +kernel
theorem dX4_nextFailure_32 : decode cX4_nextFailure 32 = .ok (.goto 4, 3) := by decide +kernel
theorem dX4_nextFailure_35 : decode cX4_nextFailure 35 = .ok (.iload_n 1, 1) := by decide +kernel
theorem dX4_nextFailure_36 : decode cX4_nextFailure 36 = .ok (.istore_n 1, 1) := by decide +kernel
theorem dX4_nextFailure_37 : decode cX4_nextFailure 37 = .ok (.iinc 2 1, 3) := by decide +kernel
theorem dX4_nextFailure_40 : decode cX4_nextFailure 40 = .ok (.goto (-36), 3) := by decide +kernel
theorem dX4_nextFailure_43 : decode cX4_nextFailure 43 = .ok (.iload_n 1, 1) := by decide +kernel
theorem dX4_nextFailure_44 : decode cX4_nextFailure 44 = .ok (.ireturn, 1) := by decide +kernel
set_option maxRecDepth 20000 in
theorem ggX4_stopsAt_X4_settles : GoodIn wsX4_stopsAt wsX4_settles := goodIn_r _ [7, 8, 9, 10, 11, 12, 13, 14, 6, 15, 1, 16, 17, 18, 19, 20, 21, 22, 23, 24, 25, 26, 27, 28, 29, 30, 31, 32, 33, 34, 35, 36, 37, 38, 39, 40, 41, 42, 43, 44, 45] (by decide +kernel) (by decide +kernel)
set_option maxRecDepth 20000 in
theorem gX4_stopsAt_X4_settles : GoodIn wsX4_stopsAt (wsV RX4 98 RX4 yX4_settles wsX4_settles) := goodIn_app (goodIn_of _ (by decide +kernel)) ggX4_stopsAt_X4_settles
theorem dX4_stopsAt_0 : decode cX4_stopsAt 0 = .ok (.aload_n 0, 1) := by decide +kernel
theorem dX4_stopsAt_1 : decode cX4_stopsAt 1 = .ok (.iload_n 1, 1) := by decide +kernel
theorem dX4_stopsAt_2 : decode cX4_stopsAt 2 = .ok (.putfield 60, 3) := by decide +kernel
theorem dX4_stopsAt_5 : decode cX4_stopsAt 5 = .ok (.aload_n 0, 1) := by decide +kernel
theorem dX4_stopsAt_6 : decode cX4_stopsAt 6 = .ok (.dup, 1) := by decide +kernel
theorem dX4_stopsAt_7 : decode cX4_stopsAt 7 = .ok (.getfield 133, 3) := by decide +kernel
theorem dX4_stopsAt_10 : decode cX4_stopsAt 10 = .ok (.lconst 1, 1) := by decide +kernel
theorem dX4_stopsAt_11 : decode cX4_stopsAt 11 = .ok (.ladd, 1) := by decide +kernel
theorem dX4_stopsAt_12 : decode cX4_stopsAt 12 = .ok (.putfield 133, 3) := by decide +kernel
theorem dX4_stopsAt_15 : decode cX4_stopsAt 15 = .ok (.aload_n 0, 1) := by decide +kernel
theorem dX4_stopsAt_16 : decode cX4_stopsAt 16 = .ok (.invokevirtual 98, 3) := by decide +kernel
theorem dX4_stopsAt_19 : decode cX4_stopsAt 19 = .ok (.return_, 1) := by decide +kernel
set_option maxRecDepth 20000 in
theorem ggX4_pass_X4_in : GoodIn wsX4_pass wsX4_in := goodIn_r _ [8] (by decide +kernel) (by decide +kernel)
set_option maxRecDepth 20000 in
theorem gX4_pass_X4_in : GoodIn wsX4_pass (va_wsS RX4 56 yX4_in wsX4_in) := goodIn_app (goodIn_of _ (by decide +kernel)) ggX4_pass_X4_in
set_option maxRecDepth 20000 in
theorem ggX4_pass_X4_nextFailure : GoodIn wsX4_pass wsX4_nextFailure := goodIn_r _ [12, 13, 14, 15, 16, 7, 17, 18, 1, 19, 20, 21, 22, 23, 24, 25, 26, 27, 28, 29, 30, 31, 32, 33, 34, 45, 46, 47, 48, 49, 50, 51, 52, 53, 54, 55, 56, 57, 58, 59, 60, 61, 62, 63, 64, 65, 66, 67] (by decide +kernel) (by decide +kernel)
set_option maxRecDepth 20000 in
theorem gX4_pass_X4_nextFailure : GoodIn wsX4_pass (wsV RX4 138 RX4 yX4_nextFailure wsX4_nextFailure) := goodIn_app (goodIn_of _ (by decide +kernel)) ggX4_pass_X4_nextFailure
set_option maxRecDepth 20000 in
theorem ggX4_pass_X4_stopsAt : GoodIn wsX4_pass wsX4_stopsAt := goodIn_r _ [38, 1, 4, 39, 40, 41, 7, 42, 13, 18, 43, 44, 19, 20, 21, 22, 23, 24, 25, 26, 27, 28, 29, 45, 46, 47, 48, 49, 50, 51, 52, 53, 54, 55, 56, 57, 58, 59, 60, 61, 62, 63, 64, 65, 66, 67] (by decide +kernel) (by decide +kernel)
set_option maxRecDepth 20000 in
theorem gX4_pass_X4_stopsAt : GoodIn wsX4_pass (wsV RX4 142 RX4 yX4_stopsAt wsX4_stopsAt) := goodIn_app (goodIn_of _ (by decide +kernel)) ggX4_pass_X4_stopsAt
theorem dX4_pass_0 : decode cX4_pass 0 = .ok (.iload_n 1, 1) := by decide +kernel
theorem dX4_pass_1 : decode cX4_pass 1 = .ok (.i2l, 1) := by decide +kernel
theorem dX4_pass_2 : decode cX4_pass 2 = .ok (.aload_n 0, 1) := by decide +kernel
theorem dX4_pass_3 : decode cX4_pass 3 = .ok (.getfield 60, 3) := by decide +kernel
theorem dX4_pass_6 : decode cX4_pass 6 = .ok (.i2l, 1) := by decide +kernel
theorem dX4_pass_7 : decode cX4_pass 7 = .ok (.ldc2_w 136, 3) := by decide +kernel
theorem dX4_pass_10 : decode cX4_pass 10 = .ok (.invokestatic 56, 3) := by decide +kernel
theorem dX4_pass_13 : decode cX4_pass 13 = .ok (.ifCond .ne 7, 3) := by decide +kernel
theorem dX4_pass_16 : decode cX4_pass 16 = .ok (.ldc2_w 107, 3) := by decide +kernel
theorem dX4_pass_19 : decode cX4_pass 19 = .ok (.lreturn, 1) := by decide +kernel
theorem dX4_pass_20 : decode cX4_pass 20 = .ok (.aload_n 0, 1) := by decide +kernel
theorem dX4_pass_21 : decode cX4_pass 21 = .ok (.getfield 133, 3) := by decide +kernel
theorem dX4_pass_24 : decode cX4_pass 24 = .ok (.lstore_n 2, 1) := by decide +kernel
theorem dX4_pass_25 : decode cX4_pass 25 = .ok (.aload_n 0, 1) := by decide +kernel
theorem dX4_pass_26 : decode cX4_pass 26 = .ok (.invokevirtual 138, 3) := by decide +kernel
theorem dX4_pass_29 : decode cX4_pass 29 = .ok (.istore 4, 2) := by decide +kernel
theorem dX4_pass_31 : decode cX4_pass 31 = .ok (.iload 4, 2) := by decide +kernel
theorem dX4_pass_33 : decode cX4_pass 33 = .ok (.ifCond .lt 24, 3) := by decide +kernel
theorem dX4_pass_36 : decode cX4_pass 36 = .ok (.iload 4, 2) := by decide +kernel
theorem dX4_pass_38 : decode cX4_pass 38 = .ok (.iload_n 1, 1) := by decide +kernel
theorem dX4_pass_39 : decode cX4_pass 39 = .ok (.if_icmp .gt 18, 3) := by decide +kernel
theorem dX4_pass_42 : decode cX4_pass 42 = .ok (.aload_n 0, 1) := by decide +kernel
theorem dX4_pass_43 : decode cX4_pass 43 = .ok (.iload 4, 2) := by decide +kernel
theorem dX4_pass_45 : decode cX4_pass 45 = .ok (.invokevirtual 142, 3) := by decide +kernel
theorem dX4_pass_48 : decode cX4_pass 48 = .ok (.aload_n 0, 1) := by decide +kernel
theorem dX4_pass_49 : decode cX4_pass 49 = .ok (.invokevirtual 138, 3) := by decide +kernel
theorem dX4_pass_52 : decode cX4_pass 52 = .ok (.istore 4, 2) := by decide +kernel
theorem dX4_pass_54 : decode cX4_pass 54 = .ok (.goto (-23), 3) := by decide +kernel
theorem dX4_pass_57 : decode cX4_pass 57 = .ok (.aload_n 0, 1) := by decide +kernel
theorem dX4_pass_58 : decode cX4_pass 58 = .ok (.iload_n 1, 1) := by decide +kernel
theorem dX4_pass_59 : decode cX4_pass 59 = .ok (.putfield 60, 3) := by decide +kernel
theorem dX4_pass_62 : decode cX4_pass 62 = .ok (.aload_n 0, 1) := by decide +kernel
theorem dX4_pass_63 : decode cX4_pass 63 = .ok (.getfield 133, 3) := by decide +kernel
theorem dX4_pass_66 : decode cX4_pass 66 = .ok (.lload_n 2, 1) := by decide +kernel
theorem dX4_pass_67 : decode cX4_pass 67 = .ok (.lsub, 1) := by decide +kernel
theorem dX4_pass_68 : decode cX4_pass 68 = .ok (.lreturn, 1) := by decide +kernel
set_option maxRecDepth 20000 in
theorem ggX4_step_X4_nextFailure : GoodIn wsX4_step wsX4_nextFailure := goodIn_r _ [7, 8, 9, 10, 11, 6, 12, 13, 14, 15, 16, 17, 18, 19, 20, 21, 22, 23, 24, 25, 26, 27, 28, 29, 30, 42, 43, 44, 45, 46, 47, 48, 49, 50, 51, 52, 53, 54, 55, 56, 57, 58, 59, 60, 61, 62, 63, 64] (by decide +kernel) (by decide +kernel)
set_option maxRecDepth 20000 in
theorem gX4_step_X4_nextFailure : GoodIn wsX4_step (wsV RX4 138 RX4 yX4_nextFailure wsX4_nextFailure) := goodIn_app (goodIn_of _ (by decide +kernel)) ggX4_step_X4_nextFailure
set_option maxRecDepth 20000 in
theorem ggX4_step_X4_stopsAt : GoodIn wsX4_step wsX4_stopsAt := goodIn_r _ [34, 14, 35, 36, 37, 38, 6, 39, 8, 13, 40, 41, 15, 16, 17, 18, 19, 20, 21, 22, 23, 24, 25, 42, 43, 44, 45, 46, 47, 48, 49, 50, 51, 52, 53, 54, 55, 56, 57, 58, 59, 60, 61, 62, 63, 64] (by decide +kernel) (by decide +kernel)
set_option maxRecDepth 20000 in
theorem gX4_step_X4_stopsAt : GoodIn wsX4_step (wsV RX4 142 RX4 yX4_stopsAt wsX4_stopsAt) := goodIn_app (goodIn_of _ (by decide +kernel)) ggX4_step_X4_stopsAt
theorem dX4_step_0 : decode cX4_step 0 = .ok (.aload_n 0, 1) := by decide +kernel
theorem dX4_step_1 : decode cX4_step 1 = .ok (.invokevirtual 138, 3) := by decide +kernel
theorem dX4_step_4 : decode cX4_step 4 = .ok (.istore_n 1, 1) := by decide +kernel
theorem dX4_step_5 : decode cX4_step 5 = .ok (.iload_n 1, 1) := by decide +kernel
theorem dX4_step_6 : decode cX4_step 6 = .ok (.ifCond .lt 9, 3) := by decide +kernel
theorem dX4_step_9 : decode cX4_step 9 = .ok (.iload_n 1, 1) := by decide +kernel
theorem dX4_step_10 : decode cX4_step 10 = .ok (.ldc 145, 2) := by decide +kernel
theorem dX4_step_12 : decode cX4_step 12 = .ok (.if_icmp .le 7, 3) := by decide +kernel
theorem dX4_step_15 : decode cX4_step 15 = .ok (.ldc2_w 128, 3) := by decide +kernel
theorem dX4_step_18 : decode cX4_step 18 = .ok (.lreturn, 1) := by decide +kernel
theorem dX4_step_19 : decode cX4_step 19 = .ok (.aload_n 0, 1) := by decide +kernel
theorem dX4_step_20 : decode cX4_step 20 = .ok (.iload_n 1, 1) := by decide +kernel
theorem dX4_step_21 : decode cX4_step 21 = .ok (.invokevirtual 142, 3) := by decide +kernel
theorem dX4_step_24 : decode cX4_step 24 = .ok (.iload_n 1, 1) := by decide +kernel
theorem dX4_step_25 : decode cX4_step 25 = .ok (.i2l, 1) := by decide +kernel
theorem dX4_step_26 : decode cX4_step 26 = .ok (.lreturn, 1) := by decide +kernel
theorem dX4_time_0 : decode cX4_time 0 = .ok (.aload_n 0, 1) := by decide +kernel
theorem dX4_time_1 : decode cX4_time 1 = .ok (.getfield 60, 3) := by decide +kernel
theorem dX4_time_4 : decode cX4_time 4 = .ok (.ireturn, 1) := by decide +kernel
theorem dX4_count_0 : decode cX4_count 0 = .ok (.iload_n 1, 1) := by decide +kernel
theorem dX4_count_1 : decode cX4_count 1 = .ok (.ifCond .ne 10, 3) := by decide +kernel
theorem dX4_count_4 : decode cX4_count 4 = .ok (.aload_n 0, 1) := by decide +kernel
theorem dX4_count_5 : decode cX4_count 5 = .ok (.getfield 81, 3) := by decide +kernel
theorem dX4_count_8 : decode cX4_count 8 = .ok (.goto 30, 3) := by decide +kernel
theorem dX4_count_11 : decode cX4_count 11 = .ok (.iload_n 1, 1) := by decide +kernel
theorem dX4_count_12 : decode cX4_count 12 = .ok (.iconst 1, 1) := by decide +kernel
theorem dX4_count_13 : decode cX4_count 13 = .ok (.if_icmp .ne 10, 3) := by decide +kernel
theorem dX4_count_16 : decode cX4_count 16 = .ok (.aload_n 0, 1) := by decide +kernel
theorem dX4_count_17 : decode cX4_count 17 = .ok (.getfield 133, 3) := by decide +kernel
theorem dX4_count_20 : decode cX4_count 20 = .ok (.goto 18, 3) := by decide +kernel
theorem dX4_count_23 : decode cX4_count 23 = .ok (.iload_n 1, 1) := by decide +kernel
theorem dX4_count_24 : decode cX4_count 24 = .ok (.iconst 2, 1) := by decide +kernel
theorem dX4_count_25 : decode cX4_count 25 = .ok (.if_icmp .ne 10, 3) := by decide +kernel
theorem dX4_count_28 : decode cX4_count 28 = .ok (.aload_n 0, 1) := by decide +kernel
theorem dX4_count_29 : decode cX4_count 29 = .ok (.getfield 85, 3) := by decide +kernel
theorem dX4_count_32 : decode cX4_count 32 = .ok (.goto 6, 3) := by decide +kernel
theorem dX4_count_35 : decode cX4_count 35 = .ok (.ldc2_w 107, 3) := by decide +kernel
theorem dX4_count_38 : decode cX4_count 38 = .ok (.lreturn, 1) := by decide +kernel
set_option maxRecDepth 20000 in
theorem ggX4_failure_X4_in : GoodIn wsX4_failure wsX4_in := goodIn_r _ [7] (by decide +kernel) (by decide +kernel)
set_option maxRecDepth 20000 in
theorem gX4_failure_X4_in : GoodIn wsX4_failure (va_wsS RX4 56 yX4_in wsX4_in) := goodIn_app (goodIn_of _ (by decide +kernel)) ggX4_failure_X4_in
set_option maxRecDepth 20000 in
theorem ggX4_failure_X4_failureOf : GoodIn wsX4_failure wsX4_failureOf := goodIn_r _ [11, 12, 13, 14, 15, 16, 6, 17, 18, 19, 20, 21, 22, 23, 24, 25, 26, 27, 28, 29, 30, 31, 32, 33, 34, 35, 36, 37, 38, 39, 40, 41, 42, 43, 44, 45, 46, 47, 48, 49, 50, 51, 52] (by decide +kernel) (by decide +kernel)
set_option maxRecDepth 20000 in
theorem gX4_failure_X4_failureOf : GoodIn wsX4_failure (wsV RX4 130 RX4 yX4_failureOf wsX4_failureOf) := goodIn_app (goodIn_of _ (by decide +kernel)) ggX4_failure_X4_failureOf
theorem dX4_failure_0 : decode cX4_failure 0 = .ok (.iload_n 1, 1) := by decide +kernel
theorem dX4_failure_1 : decode cX4_failure 1 = .ok (.i2l, 1) := by decide +kernel
theorem dX4_failure_2 : decode cX4_failure 2 = .ok (.lconst 1, 1) := by decide +kernel
theorem dX4_failure_3 : decode cX4_failure 3 = .ok (.aload_n 0, 1) := by decide +kernel
theorem dX4_failure_4 : decode cX4_failure 4 = .ok (.getfield 78, 3) := by decide +kernel
theorem dX4_failure_7 : decode cX4_failure 7 = .ok (.iconst 1, 1) := by decide +kernel
theorem dX4_failure_8 : decode cX4_failure 8 = .ok (.isub, 1) := by decide +kernel
theorem dX4_failure_9 : decode cX4_failure 9 = .ok (.i2l, 1) := by decide +kernel
theorem dX4_failure_10 : decode cX4_failure 10 = .ok (.invokestatic 56, 3) := by decide +kernel
theorem dX4_failure_13 : decode cX4_failure 13 = .ok (.ifCond .ne 7, 3) := by decide +kernel
theorem dX4_failure_16 : decode cX4_failure 16 = .ok (.ldc2_w 107, 3) := by decide +kernel
theorem dX4_failure_19 : decode cX4_failure 19 = .ok (.lreturn, 1) := by decide +kernel
theorem dX4_failure_20 : decode cX4_failure 20 = .ok (.aload_n 0, 1) := by decide +kernel
theorem dX4_failure_21 : decode cX4_failure 21 = .ok (.iload_n 1, 1) := by decide +kernel
theorem dX4_failure_22 : decode cX4_failure 22 = .ok (.invokevirtual 130, 3) := by decide +kernel
theorem dX4_failure_25 : decode cX4_failure 25 = .ok (.istore_n 2, 1) := by decide +kernel
theorem dX4_failure_26 : decode cX4_failure 26 = .ok (.iload_n 2, 1) := by decide +kernel
theorem dX4_failure_27 : decode cX4_failure 27 = .ok (.ifCond .ge 9, 3) := by decide +kernel
theorem dX4_failure_30 : decode cX4_failure 30 = .ok (.ldc2_w 128, 3) := by decide +kernel
theorem dX4_failure_33 : decode cX4_failure 33 = .ok (.goto 5, 3) := by decide +kernel
theorem dX4_failure_36 : decode cX4_failure 36 = .ok (.iload_n 2, 1) := by decide +kernel
theorem dX4_failure_37 : decode cX4_failure 37 = .ok (.i2l, 1) := by decide +kernel
theorem dX4_failure_38 : decode cX4_failure 38 = .ok (.lreturn, 1) := by decide +kernel
set_option maxRecDepth 20000 in
theorem ggX4_entries_X4_failureOf : GoodIn wsX4_entries wsX4_failureOf := goodIn_r _ [6, 7, 8, 9, 10, 11, 5, 12, 13, 14, 15, 16, 17, 18, 19, 20, 21, 22, 23, 24, 25, 26, 27, 28, 29, 30, 31, 32, 33, 34, 35, 36, 37, 38, 39, 40, 41, 42, 43, 44, 45, 46, 47] (by decide +kernel) (by decide +kernel)
set_option maxRecDepth 20000 in
theorem gX4_entries_X4_failureOf : GoodIn wsX4_entries (wsV RX4 130 RX4 yX4_failureOf wsX4_failureOf) := goodIn_app (goodIn_of _ (by decide +kernel)) ggX4_entries_X4_failureOf
theorem dX4_entries_0 : decode cX4_entries 0 = .ok (.iconst 0, 1) := by decide +kernel
theorem dX4_entries_1 : decode cX4_entries 1 = .ok (.istore_n 1, 1) := by decide +kernel
theorem dX4_entries_2 : decode cX4_entries 2 = .ok (.iconst 1, 1) := by decide +kernel
theorem dX4_entries_3 : decode cX4_entries 3 = .ok (.istore_n 2, 1) := by decide +kernel
theorem dX4_entries_4 : decode cX4_entries 4 = .ok (.iload_n 2, 1) := by decide +kernel
theorem dX4_entries_5 : decode cX4_entries 5 = .ok (.aload_n 0, 1) := by decide +kernel
theorem dX4_entries_6 : decode cX4_entries 6 = .ok (.getfield 78, 3) := by decide +kernel
theorem dX4_entries_9 : decode cX4_entries 9 = .ok (.if_icmp .ge 25, 3) := by decide +kernel
theorem dX4_entries_12 : decode cX4_entries 12 = .ok (.iload_n 1, 1) := by decide +kernel
theorem dX4_entries_13 : decode cX4_entries 13 = .ok (.aload_n 0, 1) := by decide +kernel
theorem dX4_entries_14 : decode cX4_entries 14 = .ok (.iload_n 2, 1) := by decide +kernel
theorem dX4_entries_15 : decode cX4_entries 15 = .ok (.invokevirtual 130, 3) := by decide +kernel
theorem dX4_entries_18 : decode cX4_entries 18 = .ok (.ifCond .lt 7, 3) := by decide +kernel
theorem dX4_entries_21 : decode cX4_entries 21 = .ok (.iconst 1, 1) := by decide +kernel
theorem dX4_entries_22 : decode cX4_entries 22 = .ok (.goto 4, 3) := by decide +kernel
theorem dX4_entries_25 : decode cX4_entries 25 = .ok (.iconst 0, 1) := by decide +kernel
theorem dX4_entries_26 : decode cX4_entries 26 = .ok (.iadd, 1) := by decide +kernel
theorem dX4_entries_27 : decode cX4_entries 27 = .ok (.istore_n 1, 1) := by decide +kernel
theorem dX4_entries_28 : decode cX4_entries 28 = .ok (.iinc 2 1, 3) := by decide +kernel
theorem dX4_entries_31 : decode cX4_entries 31 = .ok (.goto (-27), 3) := by decide +kernel
theorem dX4_entries_34 : decode cX4_entries 34 = .ok (.iload_n 1, 1) := by decide +kernel
theorem dX4_entries_35 : decode cX4_entries 35 = .ok (.ireturn, 1) := by decide +kernel
set_option maxRecDepth 20000 in
theorem ggX4_calendar_X4_in : GoodIn wsX4_calendar wsX4_in := goodIn_r _ [7] (by decide +kernel) (by decide +kernel)
set_option maxRecDepth 20000 in
theorem gX4_calendar_X4_in : GoodIn wsX4_calendar (va_wsS RX4 56 yX4_in wsX4_in) := goodIn_app (goodIn_of _ (by decide +kernel)) ggX4_calendar_X4_in
set_option maxRecDepth 20000 in
theorem ggX4_calendar_X4_failureOf : GoodIn wsX4_calendar wsX4_failureOf := goodIn_r _ [11, 12, 13, 14, 15, 16, 6, 17, 18, 19, 20, 21, 22, 23, 24, 25, 26, 27, 28, 29, 30, 31, 32, 33, 34, 35, 36, 37, 38, 39, 40, 41, 42, 43, 44, 45, 46, 47, 48, 49, 50, 51, 52] (by decide +kernel) (by decide +kernel)
set_option maxRecDepth 20000 in
theorem gX4_calendar_X4_failureOf : GoodIn wsX4_calendar (wsV RX4 130 RX4 yX4_failureOf wsX4_failureOf) := goodIn_app (goodIn_of _ (by decide +kernel)) ggX4_calendar_X4_failureOf
theorem dX4_calendar_0 : decode cX4_calendar 0 = .ok (.iload_n 1, 1) := by decide +kernel
theorem dX4_calendar_1 : decode cX4_calendar 1 = .ok (.ifCond .lt 13, 3) := by decide +kernel
theorem dX4_calendar_4 : decode cX4_calendar 4 = .ok (.iload_n 2, 1) := by decide +kernel
theorem dX4_calendar_5 : decode cX4_calendar 5 = .ok (.i2l, 1) := by decide +kernel
theorem dX4_calendar_6 : decode cX4_calendar 6 = .ok (.lconst 0, 1) := by decide +kernel
theorem dX4_calendar_7 : decode cX4_calendar 7 = .ok (.lconst 1, 1) := by decide +kernel
theorem dX4_calendar_8 : decode cX4_calendar 8 = .ok (.invokestatic 56, 3) := by decide +kernel
theorem dX4_calendar_11 : decode cX4_calendar 11 = .ok (.ifCond .ne 7, 3) := by decide +kernel
theorem dX4_calendar_14 : decode cX4_calendar 14 = .ok (.ldc2_w 107, 3) := by decide +kernel
theorem dX4_calendar_17 : decode cX4_calendar 17 = .ok (.lreturn, 1) := by decide +kernel
theorem dX4_calendar_18 : decode cX4_calendar 18 = .ok (.iconst 1, 1) := by decide +kernel
theorem dX4_calendar_19 : decode cX4_calendar 19 = .ok (.istore_n 3, 1) := by decide +kernel
theorem dX4_calendar_20 : decode cX4_calendar 20 = .ok (.iload_n 3, 1) := by decide +kernel
theorem dX4_calendar_21 : decode cX4_calendar 21 = .ok (.aload_n 0, 1) := by decide +kernel
theorem dX4_calendar_22 : decode cX4_calendar 22 = .ok (.getfield 78, 3) := by decide +kernel
theorem dX4_calendar_25 : decode cX4_calendar 25 = .ok (.if_icmp .ge 104, 3) := by decide +kernel
theorem dX4_calendar_28 : decode cX4_calendar 28 = .ok (.aload_n 0, 1) := by decide +kernel
theorem dX4_calendar_29 : decode cX4_calendar 29 = .ok (.iload_n 3, 1) := by decide +kernel
theorem dX4_calendar_30 : decode cX4_calendar 30 = .ok (.invokevirtual 130, 3) := by decide +kernel
theorem dX4_calendar_33 : decode cX4_calendar 33 = .ok (.istore 4, 2) := by decide +kernel
theorem dX4_calendar_35 : decode cX4_calendar 35 = .ok (.iconst 0, 1) := by decide +kernel
theorem dX4_calendar_36 : decode cX4_calendar 36 = .ok (.istore 5, 2) := by decide +kernel
theorem dX4_calendar_38 : decode cX4_calendar 38 = .ok (.iconst 1, 1) := by decide +kernel
theorem dX4_calendar_39 : decode cX4_calendar 39 = .ok (.istore 6, 2) := by decide +kernel
theorem dX4_calendar_41 : decode cX4_calendar 41 = .ok (.iload 6, 2) := by decide +kernel
theorem dX4_calendar_43 : decode cX4_calendar 43 = .ok (.aload_n 0, 1) := by decide +kernel
theorem dX4_calendar_44 : decode cX4_calendar 44 = .ok (.getfield 78, 3) := by decide +kernel
theorem dX4_calendar_47 : decode cX4_calendar 47 = .ok (.if_icmp .ge 52, 3) := by decide +kernel
theorem dX4_calendar_50 : decode cX4_calendar 50 = .ok (.aload_n 0, 1) := by decide +kernel
theorem dX4_calendar_51 : decode cX4_calendar 51 = .ok (.iload 6, 2) := by decide +kernel
theorem dX4_calendar_53 : decode cX4_calendar 53 = .ok (.invokevirtual 130, 3) := by decide +kernel
theorem dX4_calendar_56 : decode cX4_calendar 56 = .ok (.istore 7, 2) := by decide +kernel
theorem dX4_calendar_58 : decode cX4_calendar 58 = .ok (.iload 5, 2) := by decide +kernel
theorem dX4_calendar_60 : decode cX4_calendar 60 = .ok (.iload 7, 2) := by decide +kernel
theorem dX4_calendar_62 : decode cX4_calendar 62 = .ok (.ifCond .lt 27, 3) := by decide +kernel
theorem dX4_calendar_65 : decode cX4_calendar 65 = .ok (.iload 7, 2) := by decide +kernel
theorem dX4_calendar_67 : decode cX4_calendar 67 = .ok (.iload 4, 2) := by decide +kernel
theorem dX4_calendar_69 : decode cX4_calendar 69 = .ok (.if_icmp .lt 16, 3) := by decide +kernel
theorem dX4_calendar_72 : decode cX4_calendar 72 = .ok (.iload 7, 2) := by decide +kernel
theorem dX4_calendar_74 : decode cX4_calendar 74 = .ok (.iload 4, 2) := by decide +kernel
theorem dX4_calendar_76 : decode cX4_calendar 76 = .ok (.if_icmp .ne 13, 3) := by decide +kernel
theorem dX4_calendar_79 : decode cX4_calendar 79 = .ok (.iload 6, 2) := by decide +kernel
theorem dX4_calendar_81 : decode cX4_calendar 81 = .ok (.iload_n 3, 1) := by decide +kernel
theorem dX4_calendar_82 : decode cX4_calendar 82 = .ok (.if_icmp .ge 7, 3) := by decide +kernel
theorem dX4_calendar_85 : decode cX4_calendar 85 = .ok (.iconst 1, 1) := by decide +kernel
theorem dX4_calendar_86 : decode cX4_calendar 86 = .ok (.goto 4, 3) := by decide +kernel
theorem dX4_calendar_89 : decode cX4_calendar 89 = .ok (.iconst 0, 1) := by decide +kernel
theorem dX4_calendar_90 : decode cX4_calendar 90 = .ok (.iadd, 1) := by decide +kernel
theorem dX4_calendar_91 : decode cX4_calendar 91 = .ok (.istore 5, 2) := by decide +kernel
theorem dX4_calendar_93 : decode cX4_calendar 93 = .ok (.iinc 6 1, 3) := by decide +kernel
theorem dX4_calendar_96 : decode cX4_calendar 96 = .ok (.goto (-55), 3) := by decide +kernel
theorem dX4_calendar_99 : decode cX4_calendar 99 = .ok (.iload 4, 2) := by decide +kernel
theorem dX4_calendar_101 : decode cX4_calendar 101 = .ok (.ifCond .lt 22, 3) := by decide +kernel
theorem dX4_calendar_104 : decode cX4_calendar 104 = .ok (.iload 5, 2) := by decide +kernel
theorem dX4_calendar_106 : decode cX4_calendar 106 = .ok (.iload_n 1, 1) := by decide +kernel
theorem dX4_calendar_107 : decode cX4_calendar 107 = .ok (.if_icmp .ne 16, 3) := by decide +kernel
theorem dX4_calendar_110 : decode cX4_calendar 110 = .ok (.iload_n 2, 1) := by decide +kernel
theorem dX4_calendar_111 : decode cX4_calendar 111 = .ok (.ifCond .ne 9, 3) := by decide +kernel
theorem dX4_calendar_114 : decode cX4_calendar 114 = .ok (.iload 4, 2) := by decide +kernel
theorem dX4_calendar_116 : decode cX4_calendar 116 = .ok (.i2l, 1) := by decide +kernel
theorem dX4_calendar_117 : decode cX4_calendar 117 = .ok (.goto 5, 3) := by decide +kernel
theorem dX4_calendar_120 : decode cX4_calendar 120 = .ok (.iload_n 3, 1) := by decide +kernel
theorem dX4_calendar_121 : decode cX4_calendar 121 = .ok (.i2l, 1) := by decide +kernel
theorem dX4_calendar_122 : decode cX4_calendar 122 = .ok (.lreturn, 1) := by decide +kernel
theorem dX4_calendar_123 : decode cX4_calendar 123 = .ok (.iinc 3 1, 3) := by decide +kernel
theorem dX4_calendar_126 : decode cX4_calendar 126 = .ok (.goto (-106), 3) := by decide +kernel
theorem dX4_calendar_129 : decode cX4_calendar 129 = .ok (.ldc2_w 128, 3) := by decide +kernel
theorem dX4_calendar_132 : decode cX4_calendar 132 = .ok (.lreturn, 1) := by decide +kernel
set_option maxRecDepth 20000 in
theorem ggX4_calendarSize_X4_entries : GoodIn wsX4_calendarSize wsX4_entries := goodIn_r _ [5, 6, 7, 8, 9, 4, 10, 11, 12, 13, 14, 15, 16, 17, 18, 19, 20, 21, 22, 23, 24, 25, 26, 27, 28, 29, 30, 31, 32, 33, 34, 35, 36, 37, 38, 39, 40, 41, 42, 43, 44, 45, 46, 47, 48, 49, 50, 51] (by decide +kernel) (by decide +kernel)
set_option maxRecDepth 20000 in
theorem gX4_calendarSize_X4_entries : GoodIn wsX4_calendarSize (wsV RX4 146 RX4 yX4_entries wsX4_entries) := goodIn_app (goodIn_of _ (by decide +kernel)) ggX4_calendarSize_X4_entries
theorem dX4_calendarSize_0 : decode cX4_calendarSize 0 = .ok (.aload_n 0, 1) := by decide +kernel
theorem dX4_calendarSize_1 : decode cX4_calendarSize 1 = .ok (.invokevirtual 146, 3) := by decide +kernel
theorem dX4_calendarSize_4 : decode cX4_calendarSize 4 = .ok (.ireturn, 1) := by decide +kernel
set_option maxRecDepth 20000 in
theorem ggX4_topChange_X4_crossing : GoodIn wsX4_topChange wsX4_crossing := goodIn_r _ [10, 11, 12, 13, 14, 15, 16, 9, 17, 18, 19, 20, 21, 22, 23, 24, 25, 26, 27, 28, 29, 30, 31, 32, 33, 34, 35, 36, 37, 38, 39, 40, 41, 42] (by decide +kernel) (by decide +kernel)
set_option maxRecDepth 20000 in
theorem gX4_topChange_X4_crossing : GoodIn wsX4_topChange (wsV RX4 74 RX4 yX4_crossing wsX4_crossing) := goodIn_app (goodIn_of _ (by decide +kernel)) ggX4_topChange_X4_crossing
theorem dX4_topChange_0 : decode cX4_topChange 0 = .ok (.aload_n 0, 1) := by decide +kernel
theorem dX4_topChange_1 : decode cX4_topChange 1 = .ok (.getfield 78, 3) := by decide +kernel
theorem dX4_topChange_4 : decode cX4_topChange 4 = .ok (.ifCond .ne 7, 3) := by decide +kernel
theorem dX4_topChange_7 : decode cX4_topChange 7 = .ok (.ldc2_w 149, 3) := by decide +kernel
theorem dX4_topChange_10 : decode cX4_topChange 10 = .ok (.lreturn, 1) := by decide +kernel
theorem dX4_topChange_11 : decode cX4_topChange 11 = .ok (.iconst (-1), 1) := by decide +kernel
theorem dX4_topChange_12 : decode cX4_topChange 12 = .ok (.istore_n 1, 1) := by decide +kernel
theorem dX4_topChange_13 : decode cX4_topChange 13 = .ok (.iconst 0, 1) := by decide +kernel
theorem dX4_topChange_14 : decode cX4_topChange 14 = .ok (.istore_n 2, 1) := by decide +kernel
theorem dX4_topChange_15 : decode cX4_topChange 15 = .ok (.iload_n 2, 1) := by decide +kernel
theorem dX4_topChange_16 : decode cX4_topChange 16 = .ok (.bipush 24, 2) := by decide +kernel
theorem dX4_topChange_18 : decode cX4_topChange 18 = .ok (.if_icmp .ge 63, 3) := by decide +kernel
theorem dX4_topChange_21 : decode cX4_topChange 21 = .ok (.aload_n 0, 1) := by decide +kernel
theorem dX4_topChange_22 : decode cX4_topChange 22 = .ok (.getfield 13, 3) := by decide +kernel
theorem dX4_topChange_25 : decode cX4_topChange 25 = .ok (.iload_n 2, 1) := by decide +kernel
theorem dX4_topChange_26 : decode cX4_topChange 26 = .ok (.baload, 1) := by decide +kernel
theorem dX4_topChange_27 : decode cX4_topChange 27 = .ok (.ifCond .eq 27, 3) := by decide +kernel
theorem dX4_topChange_30 : decode cX4_topChange 30 = .ok (.iload_n 2, 1) := by decide +kernel
theorem dX4_topChange_31 : decode cX4_topChange 31 = .ok (.aload_n 0, 1) := by decide +kernel
theorem dX4_topChange_32 : decode cX4_topChange 32 = .ok (.getfield 7, 3) := by decide +kernel
theorem dX4_topChange_35 : decode cX4_topChange 35 = .ok (.iconst 0, 1) := by decide +kernel
theorem dX4_topChange_36 : decode cX4_topChange 36 = .ok (.iaload, 1) := by decide +kernel
theorem dX4_topChange_37 : decode cX4_topChange 37 = .ok (.if_icmp .eq 17, 3) := by decide +kernel
theorem dX4_topChange_40 : decode cX4_topChange 40 = .ok (.aload_n 0, 1) := by decide +kernel
theorem dX4_topChange_41 : decode cX4_topChange 41 = .ok (.aload_n 0, 1) := by decide +kernel
theorem dX4_topChange_42 : decode cX4_topChange 42 = .ok (.getfield 7, 3) := by decide +kernel
theorem dX4_topChange_45 : decode cX4_topChange 45 = .ok (.iconst 0, 1) := by decide +kernel
theorem dX4_topChange_46 : decode cX4_topChange 46 = .ok (.iaload, 1) := by decide +kernel
theorem dX4_topChange_47 : decode cX4_topChange 47 = .ok (.iload_n 2, 1) := by decide +kernel
theorem dX4_topChange_48 : decode cX4_topChange 48 = .ok (.invokevirtual 74, 3) := by decide +kernel
theorem dX4_topChange_51 : decode cX4_topChange 51 = .ok (.goto 4, 3) := by decide +kernel
theorem dX4_topChange_54 : decode cX4_topChange 54 = .ok (.iconst (-1), 1) := by decide +kernel
theorem dX4_topChange_55 : decode cX4_topChange 55 = .ok (.istore_n 3, 1) := by decide +kernel
theorem dX4_topChange_56 : decode cX4_topChange 56 = .ok (.iload_n 3, 1) := by decide +kernel
theorem dX4_topChange_57 : decode cX4_topChange 57 = .ok (.ifCond .lt 16, 3) := by decide +kernel
theorem dX4_topChange_60 : decode cX4_topChange 60 = .ok (.iload_n 1, 1) := by decide +kernel
theorem dX4_topChange_61 : decode cX4_topChange 61 = .ok (.ifCond .lt 8, 3) := by decide +kernel
theorem dX4_topChange_64 : decode cX4_topChange 64 = .ok (.iload_n 3, 1) := by decide +kernel
theorem dX4_topChange_65 : decode cX4_topChange 65 = .ok (.iload_n 1, 1) := by decide +kernel
theorem dX4_topChange_66 : decode cX4_topChange 66 = .ok (.if_icmp .ge 7, 3) := by decide +kernel
theorem dX4_topChange_69 : decode cX4_topChange 69 = .ok (.iload_n 3, 1) := by decide +kernel
theorem dX4_topChange_70 : decode cX4_topChange 70 = .ok (.goto 4, 3) := by decide +kernel
theorem dX4_topChange_73 : decode cX4_topChange 73 = .ok (.iload_n 1, 1) := by decide +kernel
theorem dX4_topChange_74 : decode cX4_topChange 74 = .ok (.istore_n 1, 1) := by decide +kernel
theorem dX4_topChange_75 : decode cX4_topChange 75 = .ok (.iinc 2 1, 3) := by decide +kernel
theorem dX4_topChange_78 : decode cX4_topChange 78 = .ok (.goto (-63), 3) := by decide +kernel
theorem dX4_topChange_81 : decode cX4_topChange 81 = .ok (.iload_n 1, 1) := by decide +kernel
theorem dX4_topChange_82 : decode cX4_topChange 82 = .ok (.ifCond .ge 9, 3) := by decide +kernel
theorem dX4_topChange_85 : decode cX4_topChange 85 = .ok (.ldc2_w 128, 3) := by decide +kernel
theorem dX4_topChange_88 : decode cX4_topChange 88 = .ok (.goto 5, 3) := by decide +kernel
theorem dX4_topChange_91 : decode cX4_topChange 91 = .ok (.iload_n 1, 1) := by decide +kernel
theorem dX4_topChange_92 : decode cX4_topChange 92 = .ok (.i2l, 1) := by decide +kernel
theorem dX4_topChange_93 : decode cX4_topChange 93 = .ok (.lreturn, 1) := by decide +kernel
set_option maxRecDepth 20000 in
theorem ggX4_meeting_X4_isPoint : GoodIn wsX4_meeting wsX4_isPoint := goodIn_r _ [7, 8, 9, 10, 11, 6, 12, 30, 31, 32, 33, 34, 35, 36, 37, 38, 39, 40, 41, 42, 43, 44, 45, 46, 47, 48, 49, 50, 51, 52] (by decide +kernel) (by decide +kernel)
set_option maxRecDepth 20000 in
theorem gX4_meeting_X4_isPoint : GoodIn wsX4_meeting (wsV RX4 114 RX4 yX4_isPoint wsX4_isPoint) := goodIn_app (goodIn_of _ (by decide +kernel)) ggX4_meeting_X4_isPoint
set_option maxRecDepth 20000 in
theorem ggX4_meeting_X4_isBefore : GoodIn wsX4_meeting wsX4_isBefore := goodIn_r _ [16, 17, 18, 19, 20, 6, 21, 22, 23, 24, 30, 31, 32, 33, 34, 35, 36, 37, 38, 39, 40, 41, 42, 43, 44, 45, 46, 47, 48, 49, 50, 51, 52] (by decide +kernel) (by decide +kernel)
set_option maxRecDepth 20000 in
theorem gX4_meeting_X4_isBefore : GoodIn wsX4_meeting (wsV RX4 70 RX4 yX4_isBefore wsX4_isBefore) := goodIn_app (goodIn_of _ (by decide +kernel)) ggX4_meeting_X4_isBefore
set_option maxRecDepth 20000 in
theorem ggX4_meeting_X4_crossing : GoodIn wsX4_meeting wsX4_crossing := goodIn_r _ [28, 23, 17, 29, 18, 19, 20, 6, 21, 22, 24, 30, 31, 32, 33, 34, 35, 36, 37, 38, 39, 40, 41, 42, 43, 44, 45, 46, 47, 48, 49, 50, 51, 52] (by decide +kernel) (by decide +kernel)
set_option maxRecDepth 20000 in
theorem gX4_meeting_X4_crossing : GoodIn wsX4_meeting (wsV RX4 74 RX4 yX4_crossing wsX4_crossing) := goodIn_app (goodIn_of _ (by decide +kernel)) ggX4_meeting_X4_crossing
theorem dX4_meeting_0 : decode cX4_meeting 0 = .ok (.aload_n 0, 1) := by decide +kernel
theorem dX4_meeting_1 : decode cX4_meeting 1 = .ok (.iload_n 1, 1) := by decide +kernel
theorem dX4_meeting_2 : decode cX4_meeting 2 = .ok (.invokevirtual 114, 3) := by decide +kernel
theorem dX4_meeting_5 : decode cX4_meeting 5 = .ok (.ifCond .eq 16, 3) := by decide +kernel
theorem dX4_meeting_8 : decode cX4_meeting 8 = .ok (.aload_n 0, 1) := by decide +kernel
theorem dX4_meeting_9 : decode cX4_meeting 9 = .ok (.iload_n 2, 1) := by decide +kernel
theorem dX4_meeting_10 : decode cX4_meeting 10 = .ok (.invokevirtual 114, 3) := by decide +kernel
theorem dX4_meeting_13 : decode cX4_meeting 13 = .ok (.ifCond .eq 8, 3) := by decide +kernel
theorem dX4_meeting_16 : decode cX4_meeting 16 = .ok (.iload_n 1, 1) := by decide +kernel
theorem dX4_meeting_17 : decode cX4_meeting 17 = .ok (.iload_n 2, 1) := by decide +kernel
theorem dX4_meeting_18 : decode cX4_meeting 18 = .ok (.if_icmp .ne 7, 3) := by decide +kernel
theorem dX4_meeting_21 : decode cX4_meeting 21 = .ok (.ldc2_w 107, 3) := by decide +kernel
theorem dX4_meeting_24 : decode cX4_meeting 24 = .ok (.lreturn, 1) := by decide +kernel
theorem dX4_meeting_25 : decode cX4_meeting 25 = .ok (.aload_n 0, 1) := by decide +kernel
theorem dX4_meeting_26 : decode cX4_meeting 26 = .ok (.iload_n 1, 1) := by decide +kernel
theorem dX4_meeting_27 : decode cX4_meeting 27 = .ok (.iload_n 2, 1) := by decide +kernel
theorem dX4_meeting_28 : decode cX4_meeting 28 = .ok (.invokevirtual 70, 3) := by decide +kernel
theorem dX4_meeting_31 : decode cX4_meeting 31 = .ok (.ifCond .eq 12, 3) := by decide +kernel
theorem dX4_meeting_34 : decode cX4_meeting 34 = .ok (.aload_n 0, 1) := by decide +kernel
theorem dX4_meeting_35 : decode cX4_meeting 35 = .ok (.iload_n 1, 1) := by decide +kernel
theorem dX4_meeting_36 : decode cX4_meeting 36 = .ok (.iload_n 2, 1) := by decide +kernel
theorem dX4_meeting_37 : decode cX4_meeting 37 = .ok (.invokevirtual 74, 3) := by decide +kernel
theorem dX4_meeting_40 : decode cX4_meeting 40 = .ok (.goto 9, 3) := by decide +kernel
theorem dX4_meeting_43 : decode cX4_meeting 43 = .ok (.aload_n 0, 1) := by decide +kernel
theorem dX4_meeting_44 : decode cX4_meeting 44 = .ok (.iload_n 2, 1) := by decide +kernel
theorem dX4_meeting_45 : decode cX4_meeting 45 = .ok (.iload_n 1, 1) := by decide +kernel
theorem dX4_meeting_46 : decode cX4_meeting 46 = .ok (.invokevirtual 74, 3) := by decide +kernel
theorem dX4_meeting_49 : decode cX4_meeting 49 = .ok (.istore_n 3, 1) := by decide +kernel
theorem dX4_meeting_50 : decode cX4_meeting 50 = .ok (.iload_n 3, 1) := by decide +kernel
theorem dX4_meeting_51 : decode cX4_meeting 51 = .ok (.ifCond .ge 9, 3) := by decide +kernel
theorem dX4_meeting_54 : decode cX4_meeting 54 = .ok (.ldc2_w 128, 3) := by decide +kernel
theorem dX4_meeting_57 : decode cX4_meeting 57 = .ok (.goto 5, 3) := by decide +kernel
theorem dX4_meeting_60 : decode cX4_meeting 60 = .ok (.iload_n 3, 1) := by decide +kernel
theorem dX4_meeting_61 : decode cX4_meeting 61 = .ok (.i2l, 1) := by decide +kernel
theorem dX4_meeting_62 : decode cX4_meeting 62 = .ok (.lreturn, 1) := by decide +kernel
theorem dX4_goesBack_0 : decode cX4_goesBack 0 = .ok (.iconst 0, 1) := by decide +kernel
theorem dX4_goesBack_1 : decode cX4_goesBack 1 = .ok (.istore_n 2, 1) := by decide +kernel
theorem dX4_goesBack_2 : decode cX4_goesBack 2 = .ok (.iload_n 2, 1) := by decide +kernel
theorem dX4_goesBack_3 : decode cX4_goesBack 3 = .ok (.bipush 24, 2) := by decide +kernel
theorem dX4_goesBack_5 : decode cX4_goesBack 5 = .ok (.if_icmp .ge 16, 3) := by decide +kernel
theorem dX4_goesBack_8 : decode cX4_goesBack 8 = .ok (.aload_n 0, 1) := by decide +kernel
theorem dX4_goesBack_9 : decode cX4_goesBack 9 = .ok (.getfield 45, 3) := by decide +kernel
theorem dX4_goesBack_12 : decode cX4_goesBack 12 = .ok (.iload_n 2, 1) := by decide +kernel
theorem dX4_goesBack_13 : decode cX4_goesBack 13 = .ok (.iconst (-1), 1) := by decide +kernel
theorem dX4_goesBack_14 : decode cX4_goesBack 14 = .ok (.iastore, 1) := by decide +kernel
theorem dX4_goesBack_15 : decode cX4_goesBack 15 = .ok (.iinc 2 1, 3) := by decide +kernel
theorem dX4_goesBack_18 : decode cX4_goesBack 18 = .ok (.goto (-16), 3) := by decide +kernel
theorem dX4_goesBack_21 : decode cX4_goesBack 21 = .ok (.iconst 0, 1) := by decide +kernel
theorem dX4_goesBack_22 : decode cX4_goesBack 22 = .ok (.istore_n 2, 1) := by decide +kernel
theorem dX4_goesBack_23 : decode cX4_goesBack 23 = .ok (.iload_n 2, 1) := by decide +kernel
theorem dX4_goesBack_24 : decode cX4_goesBack 24 = .ok (.aload_n 0, 1) := by decide +kernel
theorem dX4_goesBack_25 : decode cX4_goesBack 25 = .ok (.getfield 88, 3) := by decide +kernel
theorem dX4_goesBack_28 : decode cX4_goesBack 28 = .ok (.if_icmp .ge 44, 3) := by decide +kernel
theorem dX4_goesBack_31 : decode cX4_goesBack 31 = .ok (.aload_n 0, 1) := by decide +kernel
theorem dX4_goesBack_32 : decode cX4_goesBack 32 = .ok (.getfield 30, 3) := by decide +kernel
theorem dX4_goesBack_35 : decode cX4_goesBack 35 = .ok (.iload_n 2, 1) := by decide +kernel
theorem dX4_goesBack_36 : decode cX4_goesBack 36 = .ok (.iaload, 1) := by decide +kernel
theorem dX4_goesBack_37 : decode cX4_goesBack 37 = .ok (.iload_n 1, 1) := by decide +kernel
theorem dX4_goesBack_38 : decode cX4_goesBack 38 = .ok (.if_icmp .gt 28, 3) := by decide +kernel
theorem dX4_goesBack_41 : decode cX4_goesBack 41 = .ok (.aload_n 0, 1) := by decide +kernel
theorem dX4_goesBack_42 : decode cX4_goesBack 42 = .ok (.getfield 45, 3) := by decide +kernel
theorem dX4_goesBack_45 : decode cX4_goesBack 45 = .ok (.aload_n 0, 1) := by decide +kernel
theorem dX4_goesBack_46 : decode cX4_goesBack 46 = .ok (.getfield 33, 3) := by decide +kernel
theorem dX4_goesBack_49 : decode cX4_goesBack 49 = .ok (.iload_n 2, 1) := by decide +kernel
theorem dX4_goesBack_50 : decode cX4_goesBack 50 = .ok (.iaload, 1) := by decide +kernel
theorem dX4_goesBack_51 : decode cX4_goesBack 51 = .ok (.aload_n 0, 1) := by decide +kernel
theorem dX4_goesBack_52 : decode cX4_goesBack 52 = .ok (.getfield 36, 3) := by decide +kernel
theorem dX4_goesBack_55 : decode cX4_goesBack 55 = .ok (.iload_n 2, 1) := by decide +kernel
theorem dX4_goesBack_56 : decode cX4_goesBack 56 = .ok (.baload, 1) := by decide +kernel
theorem dX4_goesBack_57 : decode cX4_goesBack 57 = .ok (.ifCond .eq 7, 3) := by decide +kernel
theorem dX4_goesBack_60 : decode cX4_goesBack 60 = .ok (.iload_n 2, 1) := by decide +kernel
theorem dX4_goesBack_61 : decode cX4_goesBack 61 = .ok (.goto 4, 3) := by decide +kernel
theorem dX4_goesBack_64 : decode cX4_goesBack 64 = .ok (.iconst (-1), 1) := by decide +kernel
theorem dX4_goesBack_65 : decode cX4_goesBack 65 = .ok (.iastore, 1) := by decide +kernel
theorem dX4_goesBack_66 : decode cX4_goesBack 66 = .ok (.iinc 2 1, 3) := by decide +kernel
theorem dX4_goesBack_69 : decode cX4_goesBack 69 = .ok (.goto (-46), 3) := by decide +kernel
theorem dX4_goesBack_72 : decode cX4_goesBack 72 = .ok (.aload_n 0, 1) := by decide +kernel
theorem dX4_goesBack_73 : decode cX4_goesBack 73 = .ok (.iconst 0, 1) := by decide +kernel
theorem dX4_goesBack_74 : decode cX4_goesBack 74 = .ok (.putfield 151, 3) := by decide +kernel
theorem dX4_goesBack_77 : decode cX4_goesBack 77 = .ok (.iconst 0, 1) := by decide +kernel
theorem dX4_goesBack_78 : decode cX4_goesBack 78 = .ok (.istore_n 2, 1) := by decide +kernel
theorem dX4_goesBack_79 : decode cX4_goesBack 79 = .ok (.iload_n 2, 1) := by decide +kernel
theorem dX4_goesBack_80 : decode cX4_goesBack 80 = .ok (.bipush 24, 2) := by decide +kernel
theorem dX4_goesBack_82 : decode cX4_goesBack 82 = .ok (.if_icmp .ge 132, 3) := by decide +kernel
theorem dX4_goesBack_85 : decode cX4_goesBack 85 = .ok (.aload_n 0, 1) := by decide +kernel
theorem dX4_goesBack_86 : decode cX4_goesBack 86 = .ok (.getfield 45, 3) := by decide +kernel
theorem dX4_goesBack_89 : decode cX4_goesBack 89 = .ok (.iload_n 2, 1) := by decide +kernel
theorem dX4_goesBack_90 : decode cX4_goesBack 90 = .ok (.iaload, 1) := by decide +kernel
theorem dX4_goesBack_91 : decode cX4_goesBack 91 = .ok (.ifCond .lt 117, 3) := by decide +kernel
theorem dX4_goesBack_94 : decode cX4_goesBack 94 = .ok (.aload_n 0, 1) := by decide +kernel
theorem dX4_goesBack_95 : decode cX4_goesBack 95 = .ok (.getfield 48, 3) := by decide +kernel
theorem dX4_goesBack_98 : decode cX4_goesBack 98 = .ok (.iload_n 2, 1) := by decide +kernel
theorem dX4_goesBack_99 : decode cX4_goesBack 99 = .ok (.aload_n 0, 1) := by decide +kernel
theorem dX4_goesBack_100 : decode cX4_goesBack 100 = .ok (.getfield 39, 3) := by decide +kernel
theorem dX4_goesBack_103 : decode cX4_goesBack 103 = .ok (.aload_n 0, 1) := by decide +kernel
theorem dX4_goesBack_104 : decode cX4_goesBack 104 = .ok (.getfield 45, 3) := by decide +kernel
theorem dX4_goesBack_107 : decode cX4_goesBack 107 = .ok (.iload_n 2, 1) := by decide +kernel
theorem dX4_goesBack_108 : decode cX4_goesBack 108 = .ok (.iaload, 1) := by decide +kernel
theorem dX4_goesBack_109 : decode cX4_goesBack 109 = .ok (.laload, 1) := by decide +kernel
theorem dX4_goesBack_110 : decode cX4_goesBack 110 = .ok (.aload_n 0, 1) := by decide +kernel
theorem dX4_goesBack_111 : decode cX4_goesBack 111 = .ok (.getfield 42, 3) := by decide +kernel
theorem dX4_goesBack_114 : decode cX4_goesBack 114 = .ok (.aload_n 0, 1) := by decide +kernel
theorem dX4_goesBack_115 : decode cX4_goesBack 115 = .ok (.getfield 45, 3) := by decide +kernel
theorem dX4_goesBack_118 : decode cX4_goesBack 118 = .ok (.iload_n 2, 1) := by decide +kernel
theorem dX4_goesBack_119 : decode cX4_goesBack 119 = .ok (.iaload, 1) := by decide +kernel
theorem dX4_goesBack_120 : decode cX4_goesBack 120 = .ok (.iaload, 1) := by decide +kernel
theorem dX4_goesBack_121 : decode cX4_goesBack 121 = .ok (.i2l, 1) := by decide +kernel
theorem dX4_goesBack_122 : decode cX4_goesBack 122 = .ok (.iload_n 1, 1) := by decide +kernel
theorem dX4_goesBack_123 : decode cX4_goesBack 123 = .ok (.aload_n 0, 1) := by decide +kernel
theorem dX4_goesBack_124 : decode cX4_goesBack 124 = .ok (.getfield 30, 3) := by decide +kernel
theorem dX4_goesBack_127 : decode cX4_goesBack 127 = .ok (.aload_n 0, 1) := by decide +kernel
theorem dX4_goesBack_128 : decode cX4_goesBack 128 = .ok (.getfield 45, 3) := by decide +kernel
theorem dX4_goesBack_131 : decode cX4_goesBack 131 = .ok (.iload_n 2, 1) := by decide +kernel
theorem dX4_goesBack_132 : decode cX4_goesBack 132 = .ok (.iaload, 1) := by decide +kernel
theorem dX4_goesBack_133 : decode cX4_goesBack 133 = .ok (.iaload, 1) := by decide +kernel
theorem dX4_goesBack_134 : decode cX4_goesBack 134 = .ok (.isub, 1) := by decide +kernel
theorem dX4_goesBack_135 : decode cX4_goesBack 135 = .ok (.i2l, 1) := by decide +kernel
theorem dX4_goesBack_136 : decode cX4_goesBack 136 = .ok (.lmul, 1) := by decide +kernel
theorem dX4_goesBack_137 : decode cX4_goesBack 137 = .ok (.ladd, 1) := by decide +kernel
theorem dX4_goesBack_138 : decode cX4_goesBack 138 = .ok (.lastore, 1) := by decide +kernel
theorem dX4_goesBack_139 : decode cX4_goesBack 139 = .ok (.aload_n 0, 1) := by decide +kernel
theorem dX4_goesBack_140 : decode cX4_goesBack 140 = .ok (.getfield 151, 3) := by decide +kernel
theorem dX4_goesBack_143 : decode cX4_goesBack 143 = .ok (.istore_n 3, 1) := by decide +kernel
theorem dX4_goesBack_144 : decode cX4_goesBack 144 = .ok (.iload_n 3, 1) := by decide +kernel
theorem dX4_goesBack_145 : decode cX4_goesBack 145 = .ok (.ifCond .le 46, 3) := by decide +kernel
theorem dX4_goesBack_148 : decode cX4_goesBack 148 = .ok (.aload_n 0, 1) := by decide +kernel
theorem dX4_goesBack_149 : decode cX4_goesBack 149 = .ok (.getfield 48, 3) := by decide +kernel
theorem dX4_goesBack_152 : decode cX4_goesBack 152 = .ok (.aload_n 0, 1) := by decide +kernel
theorem dX4_goesBack_153 : decode cX4_goesBack 153 = .ok (.getfield 51, 3) := by decide +kernel
theorem dX4_goesBack_156 : decode cX4_goesBack 156 = .ok (.iload_n 3, 1) := by decide +kernel
theorem dX4_goesBack_157 : decode cX4_goesBack 157 = .ok (.iconst 1, 1) := by decide +kernel
theorem dX4_goesBack_158 : decode cX4_goesBack 158 = .ok (.isub, 1) := by decide +kernel
theorem dX4_goesBack_159 : decode cX4_goesBack 159 = .ok (.iaload, 1) := by decide +kernel
theorem dX4_goesBack_160 : decode cX4_goesBack 160 = .ok (.laload, 1) := by decide +kernel
theorem dX4_goesBack_161 : decode cX4_goesBack 161 = .ok (.aload_n 0, 1) := by decide +kernel
theorem dX4_goesBack_162 : decode cX4_goesBack 162 = .ok (.getfield 48, 3) := by decide +kernel
theorem dX4_goesBack_165 : decode cX4_goesBack 165 = .ok (.iload_n 2, 1) := by decide +kernel
theorem dX4_goesBack_166 : decode cX4_goesBack 166 = .ok (.laload, 1) := by decide +kernel
theorem dX4_goesBack_167 : decode cX4_goesBack 167 = .ok (.lcmp, 1) := by decide +kernel
theorem dX4_goesBack_168 : decode cX4_goesBack 168 = .ok (.ifCond .le 23, 3) := by decide +kernel
theorem dX4_goesBack_171 : decode cX4_goesBack 171 = .ok (.aload_n 0, 1) := by decide +kernel
theorem dX4_goesBack_172 : decode cX4_goesBack 172 = .ok (.getfield 51, 3) := by decide +kernel
theorem dX4_goesBack_175 : decode cX4_goesBack 175 = .ok (.iload_n 3, 1) := by decide +kernel
theorem dX4_goesBack_176 : decode cX4_goesBack 176 = .ok (.aload_n 0, 1) := by decide +kernel
theorem dX4_goesBack_177 : decode cX4_goesBack 177 = .ok (.getfield 51, 3) := by decide +kernel
theorem dX4_goesBack_180 : decode cX4_goesBack 180 = .ok (.iload_n 3, 1) := by decide +kernel
theorem dX4_goesBack_181 : decode cX4_goesBack 181 = .ok (.iconst 1, 1) := by decide +kernel
theorem dX4_goesBack_182 : decode cX4_goesBack 182 = .ok (.isub, 1) := by decide +kernel
theorem dX4_goesBack_183 : decode cX4_goesBack 183 = .ok (.iaload, 1) := by decide +kernel
theorem dX4_goesBack_184 : decode cX4_goesBack 184 = .ok (.iastore, 1) := by decide +kernel
theorem dX4_goesBack_185 : decode cX4_goesBack 185 = .ok (.iinc 3 (-1), 3) := by decide +kernel
theorem dX4_goesBack_188 : decode cX4_goesBack 188 = .ok (.goto (-44), 3) := by decide +kernel
theorem dX4_goesBack_191 : decode cX4_goesBack 191 = .ok (.aload_n 0, 1) := by decide +kernel
theorem dX4_goesBack_192 : decode cX4_goesBack 192 = .ok (.getfield 51, 3) := by decide +kernel
theorem dX4_goesBack_195 : decode cX4_goesBack 195 = .ok (.iload_n 3, 1) := by decide +kernel
theorem dX4_goesBack_196 : decode cX4_goesBack 196 = .ok (.iload_n 2, 1) := by decide +kernel
theorem dX4_goesBack_197 : decode cX4_goesBack 197 = .ok (.iastore, 1) := by decide +kernel
theorem dX4_goesBack_198 : decode cX4_goesBack 198 = .ok (.aload_n 0, 1) := by decide +kernel
theorem dX4_goesBack_199 : decode cX4_goesBack 199 = .ok (.dup, 1) := by decide +kernel
theorem dX4_goesBack_200 : decode cX4_goesBack 200 = .ok (.getfield 151, 3) := by decide +kernel
theorem dX4_goesBack_203 : decode cX4_goesBack 203 = .ok (.iconst 1, 1) := by decide +kernel
theorem dX4_goesBack_204 : decode cX4_goesBack 204 = .ok (.iadd, 1) := by decide +kernel
theorem dX4_goesBack_205 : decode cX4_goesBack 205 = .ok (.putfield 151, 3) := by decide +kernel
theorem dX4_goesBack_208 : decode cX4_goesBack 208 = .ok (.iinc 2 1, 3) := by decide +kernel
theorem dX4_goesBack_211 : decode cX4_goesBack 211 = .ok (.goto (-132), 3) := by decide +kernel
theorem dX4_goesBack_214 : decode cX4_goesBack 214 = .ok (.return_, 1) := by decide +kernel
set_option maxRecDepth 20000 in
theorem ggX4_noTime_X4_in : GoodIn wsX4_noTime wsX4_in := goodIn_r _ [8] (by decide +kernel) (by decide +kernel)
set_option maxRecDepth 20000 in
theorem gX4_noTime_X4_in : GoodIn wsX4_noTime (va_wsS RX4 56 yX4_in wsX4_in) := goodIn_app (goodIn_of _ (by decide +kernel)) ggX4_noTime_X4_in
theorem dX4_noTime_0 : decode cX4_noTime 0 = .ok (.iload_n 1, 1) := by decide +kernel
theorem dX4_noTime_1 : decode cX4_noTime 1 = .ok (.i2l, 1) := by decide +kernel
theorem dX4_noTime_2 : decode cX4_noTime 2 = .ok (.lconst 0, 1) := by decide +kernel
theorem dX4_noTime_3 : decode cX4_noTime 3 = .ok (.aload_n 0, 1) := by decide +kernel
theorem dX4_noTime_4 : decode cX4_noTime 4 = .ok (.getfield 60, 3) := by decide +kernel
theorem dX4_noTime_7 : decode cX4_noTime 7 = .ok (.i2l, 1) := by decide +kernel
theorem dX4_noTime_8 : decode cX4_noTime 8 = .ok (.invokestatic 56, 3) := by decide +kernel
theorem dX4_noTime_11 : decode cX4_noTime 11 = .ok (.ifCond .ne 9, 3) := by decide +kernel
theorem dX4_noTime_14 : decode cX4_noTime 14 = .ok (.ldc2_w 107, 3) := by decide +kernel
theorem dX4_noTime_17 : decode cX4_noTime 17 = .ok (.goto 18, 3) := by decide +kernel
theorem dX4_noTime_20 : decode cX4_noTime 20 = .ok (.iload_n 1, 1) := by decide +kernel
theorem dX4_noTime_21 : decode cX4_noTime 21 = .ok (.aload_n 0, 1) := by decide +kernel
theorem dX4_noTime_22 : decode cX4_noTime 22 = .ok (.getfield 154, 3) := by decide +kernel
theorem dX4_noTime_25 : decode cX4_noTime 25 = .ok (.if_icmp .ge 9, 3) := by decide +kernel
theorem dX4_noTime_28 : decode cX4_noTime 28 = .ok (.ldc2_w 149, 3) := by decide +kernel
theorem dX4_noTime_31 : decode cX4_noTime 31 = .ok (.goto 4, 3) := by decide +kernel
theorem dX4_noTime_34 : decode cX4_noTime 34 = .ok (.lconst 0, 1) := by decide +kernel
theorem dX4_noTime_35 : decode cX4_noTime 35 = .ok (.lreturn, 1) := by decide +kernel
set_option maxRecDepth 20000 in
theorem ggX4_topAt_X4_noTime : GoodIn wsX4_topAt wsX4_noTime := goodIn_r _ [8, 9, 10, 11, 12, 13, 14, 7, 15, 28, 29, 30, 31, 32, 33, 34, 35, 36, 37, 38, 39, 40, 41, 42, 43, 44, 45, 46, 47, 48, 49, 50] (by decide +kernel) (by decide +kernel)
set_option maxRecDepth 20000 in
theorem gX4_topAt_X4_noTime : GoodIn wsX4_topAt (wsV RX4 157 RX4 yX4_noTime wsX4_noTime) := goodIn_app (goodIn_of _ (by decide +kernel)) ggX4_topAt_X4_noTime
set_option maxRecDepth 20000 in
theorem ggX4_topAt_X4_goesBack : GoodIn wsX4_topAt wsX4_goesBack := goodIn_r _ [19, 20, 21, 22, 23, 24, 1, 25, 26, 27, 3, 28, 29, 30, 31, 32, 33, 34, 35, 36, 37, 38, 39, 40, 41, 42, 43, 44, 45, 46, 47, 48, 49, 50] (by decide +kernel) (by decide +kernel)
set_option maxRecDepth 20000 in
theorem gX4_topAt_X4_goesBack : GoodIn wsX4_topAt (wsV RX4 161 RX4 yX4_goesBack wsX4_goesBack) := goodIn_app (goodIn_of _ (by decide +kernel)) ggX4_topAt_X4_goesBack
theorem dX4_topAt_0 : decode cX4_topAt 0 = .ok (.aload_n 0, 1) := by decide +kernel
theorem dX4_topAt_1 : decode cX4_topAt 1 = .ok (.iload_n 1, 1) := by decide +kernel
theorem dX4_topAt_2 : decode cX4_topAt 2 = .ok (.invokevirtual 157, 3) := by decide +kernel
theorem dX4_topAt_5 : decode cX4_topAt 5 = .ok (.lconst 0, 1) := by decide +kernel
theorem dX4_topAt_6 : decode cX4_topAt 6 = .ok (.lcmp, 1) := by decide +kernel
theorem dX4_topAt_7 : decode cX4_topAt 7 = .ok (.ifCond .ge 9, 3) := by decide +kernel
theorem dX4_topAt_10 : decode cX4_topAt 10 = .ok (.aload_n 0, 1) := by decide +kernel
theorem dX4_topAt_11 : decode cX4_topAt 11 = .ok (.iload_n 1, 1) := by decide +kernel
theorem dX4_topAt_12 : decode cX4_topAt 12 = .ok (.invokevirtual 157, 3) := by decide +kernel
theorem dX4_topAt_15 : decode cX4_topAt 15 = .ok (.lreturn, 1) := by decide +kernel
theorem dX4_topAt_16 : decode cX4_topAt 16 = .ok (.aload_n 0, 1) := by decide +kernel
theorem dX4_topAt_17 : decode cX4_topAt 17 = .ok (.iload_n 1, 1) := by decide +kernel
theorem dX4_topAt_18 : decode cX4_topAt 18 = .ok (.invokevirtual 161, 3) := by decide +kernel
theorem dX4_topAt_21 : decode cX4_topAt 21 = .ok (.aload_n 0, 1) := by decide +kernel
theorem dX4_topAt_22 : decode cX4_topAt 22 = .ok (.getfield 151, 3) := by decide +kernel
theorem dX4_topAt_25 : decode cX4_topAt 25 = .ok (.ifCond .ne 9, 3) := by decide +kernel
theorem dX4_topAt_28 : decode cX4_topAt 28 = .ok (.ldc2_w 128, 3) := by decide +kernel
theorem dX4_topAt_31 : decode cX4_topAt 31 = .ok (.goto 10, 3) := by decide +kernel
theorem dX4_topAt_34 : decode cX4_topAt 34 = .ok (.aload_n 0, 1) := by decide +kernel
theorem dX4_topAt_35 : decode cX4_topAt 35 = .ok (.getfield 51, 3) := by decide +kernel
theorem dX4_topAt_38 : decode cX4_topAt 38 = .ok (.iconst 0, 1) := by decide +kernel
theorem dX4_topAt_39 : decode cX4_topAt 39 = .ok (.iaload, 1) := by decide +kernel
theorem dX4_topAt_40 : decode cX4_topAt 40 = .ok (.i2l, 1) := by decide +kernel
theorem dX4_topAt_41 : decode cX4_topAt 41 = .ok (.lreturn, 1) := by decide +kernel
set_option maxRecDepth 20000 in
theorem ggX4_valueAt_X4_in : GoodIn wsX4_valueAt wsX4_in := goodIn_r _ [9] (by decide +kernel) (by decide +kernel)
set_option maxRecDepth 20000 in
theorem gX4_valueAt_X4_in : GoodIn wsX4_valueAt (va_wsS RX4 56 yX4_in wsX4_in) := goodIn_app (goodIn_of _ (by decide +kernel)) ggX4_valueAt_X4_in
set_option maxRecDepth 20000 in
theorem ggX4_valueAt_X4_noTime : GoodIn wsX4_valueAt wsX4_noTime := goodIn_r _ [13, 14, 2, 15, 16, 6, 7, 8, 9, 29, 30, 31, 32, 33, 34, 35, 36, 37, 38, 39, 40, 41, 42, 43, 44, 45, 46, 47, 48, 49, 50, 51] (by decide +kernel) (by decide +kernel)
set_option maxRecDepth 20000 in
theorem gX4_valueAt_X4_noTime : GoodIn wsX4_valueAt (wsV RX4 157 RX4 yX4_noTime wsX4_noTime) := goodIn_app (goodIn_of _ (by decide +kernel)) ggX4_valueAt_X4_noTime
set_option maxRecDepth 20000 in
theorem ggX4_valueAt_X4_goesBack : GoodIn wsX4_valueAt wsX4_goesBack := goodIn_r _ [20, 3, 21, 22, 23, 24, 25, 5, 26, 27, 28, 29, 30, 31, 32, 33, 34, 35, 36, 37, 38, 39, 40, 41, 42, 43, 44, 45, 46, 47, 48, 49, 50, 51] (by decide +kernel) (by decide +kernel)
set_option maxRecDepth 20000 in
theorem gX4_valueAt_X4_goesBack : GoodIn wsX4_valueAt (wsV RX4 161 RX4 yX4_goesBack wsX4_goesBack) := goodIn_app (goodIn_of _ (by decide +kernel)) ggX4_valueAt_X4_goesBack
theorem dX4_valueAt_0 : decode cX4_valueAt 0 = .ok (.iload_n 1, 1) := by decide +kernel
theorem dX4_valueAt_1 : decode cX4_valueAt 1 = .ok (.i2l, 1) := by decide +kernel
theorem dX4_valueAt_2 : decode cX4_valueAt 2 = .ok (.lconst 0, 1) := by decide +kernel
theorem dX4_valueAt_3 : decode cX4_valueAt 3 = .ok (.ldc2_w 54, 3) := by decide +kernel
theorem dX4_valueAt_6 : decode cX4_valueAt 6 = .ok (.invokestatic 56, 3) := by decide +kernel
theorem dX4_valueAt_9 : decode cX4_valueAt 9 = .ok (.ifCond .eq 13, 3) := by decide +kernel
theorem dX4_valueAt_12 : decode cX4_valueAt 12 = .ok (.aload_n 0, 1) := by decide +kernel
theorem dX4_valueAt_13 : decode cX4_valueAt 13 = .ok (.iload_n 2, 1) := by decide +kernel
theorem dX4_valueAt_14 : decode cX4_valueAt 14 = .ok (.invokevirtual 157, 3) := by decide +kernel
theorem dX4_valueAt_17 : decode cX4_valueAt 17 = .ok (.lconst 0, 1) := by decide +kernel
theorem dX4_valueAt_18 : decode cX4_valueAt 18 = .ok (.lcmp, 1) := by decide +kernel
theorem dX4_valueAt_19 : decode cX4_valueAt 19 = .ok (.ifCond .ge 27, 3) := by decide +kernel
theorem dX4_valueAt_22 : decode cX4_valueAt 22 = .ok (.iload_n 1, 1) := by decide +kernel
theorem dX4_valueAt_23 : decode cX4_valueAt 23 = .ok (.i2l, 1) := by decide +kernel
theorem dX4_valueAt_24 : decode cX4_valueAt 24 = .ok (.lconst 0, 1) := by decide +kernel
theorem dX4_valueAt_25 : decode cX4_valueAt 25 = .ok (.ldc2_w 54, 3) := by decide +kernel
theorem dX4_valueAt_28 : decode cX4_valueAt 28 = .ok (.invokestatic 56, 3) := by decide +kernel
theorem dX4_valueAt_31 : decode cX4_valueAt 31 = .ok (.ifCond .ne 9, 3) := by decide +kernel
theorem dX4_valueAt_34 : decode cX4_valueAt 34 = .ok (.ldc2_w 107, 3) := by decide +kernel
theorem dX4_valueAt_37 : decode cX4_valueAt 37 = .ok (.goto 8, 3) := by decide +kernel
theorem dX4_valueAt_40 : decode cX4_valueAt 40 = .ok (.aload_n 0, 1) := by decide +kernel
theorem dX4_valueAt_41 : decode cX4_valueAt 41 = .ok (.iload_n 2, 1) := by decide +kernel
theorem dX4_valueAt_42 : decode cX4_valueAt 42 = .ok (.invokevirtual 157, 3) := by decide +kernel
theorem dX4_valueAt_45 : decode cX4_valueAt 45 = .ok (.lreturn, 1) := by decide +kernel
theorem dX4_valueAt_46 : decode cX4_valueAt 46 = .ok (.aload_n 0, 1) := by decide +kernel
theorem dX4_valueAt_47 : decode cX4_valueAt 47 = .ok (.iload_n 2, 1) := by decide +kernel
theorem dX4_valueAt_48 : decode cX4_valueAt 48 = .ok (.invokevirtual 161, 3) := by decide +kernel
theorem dX4_valueAt_51 : decode cX4_valueAt 51 = .ok (.aload_n 0, 1) := by decide +kernel
theorem dX4_valueAt_52 : decode cX4_valueAt 52 = .ok (.getfield 45, 3) := by decide +kernel
theorem dX4_valueAt_55 : decode cX4_valueAt 55 = .ok (.iload_n 1, 1) := by decide +kernel
theorem dX4_valueAt_56 : decode cX4_valueAt 56 = .ok (.iaload, 1) := by decide +kernel
theorem dX4_valueAt_57 : decode cX4_valueAt 57 = .ok (.ifCond .ge 9, 3) := by decide +kernel
theorem dX4_valueAt_60 : decode cX4_valueAt 60 = .ok (.ldc2_w 128, 3) := by decide +kernel
theorem dX4_valueAt_63 : decode cX4_valueAt 63 = .ok (.goto 9, 3) := by decide +kernel
theorem dX4_valueAt_66 : decode cX4_valueAt 66 = .ok (.aload_n 0, 1) := by decide +kernel
theorem dX4_valueAt_67 : decode cX4_valueAt 67 = .ok (.getfield 48, 3) := by decide +kernel
theorem dX4_valueAt_70 : decode cX4_valueAt 70 = .ok (.iload_n 1, 1) := by decide +kernel
theorem dX4_valueAt_71 : decode cX4_valueAt 71 = .ok (.laload, 1) := by decide +kernel
theorem dX4_valueAt_72 : decode cX4_valueAt 72 = .ok (.lreturn, 1) := by decide +kernel
set_option maxRecDepth 20000 in
theorem ggX4_orderAt_X4_noTime : GoodIn wsX4_orderAt wsX4_noTime := goodIn_r _ [9, 10, 1, 11, 12, 13, 14, 8, 15, 28, 29, 30, 31, 32, 33, 34, 35, 36, 37, 38, 39, 40, 41, 42, 43, 44, 45, 46, 47, 48, 49, 50] (by decide +kernel) (by decide +kernel)
set_option maxRecDepth 20000 in
theorem gX4_orderAt_X4_noTime : GoodIn wsX4_orderAt (wsV RX4 157 RX4 yX4_noTime wsX4_noTime) := goodIn_app (goodIn_of _ (by decide +kernel)) ggX4_orderAt_X4_noTime
set_option maxRecDepth 20000 in
theorem ggX4_orderAt_X4_goesBack : GoodIn wsX4_orderAt wsX4_goesBack := goodIn_r _ [19, 20, 21, 22, 23, 24, 2, 25, 26, 27, 3, 28, 29, 30, 31, 32, 33, 34, 35, 36, 37, 38, 39, 40, 41, 42, 43, 44, 45, 46, 47, 48, 49, 50] (by decide +kernel) (by decide +kernel)
set_option maxRecDepth 20000 in
theorem gX4_orderAt_X4_goesBack : GoodIn wsX4_orderAt (wsV RX4 161 RX4 yX4_goesBack wsX4_goesBack) := goodIn_app (goodIn_of _ (by decide +kernel)) ggX4_orderAt_X4_goesBack
theorem dX4_orderAt_0 : decode cX4_orderAt 0 = .ok (.iload_n 1, 1) := by decide +kernel
theorem dX4_orderAt_1 : decode cX4_orderAt 1 = .ok (.ifCond .lt 13, 3) := by decide +kernel
theorem dX4_orderAt_4 : decode cX4_orderAt 4 = .ok (.aload_n 0, 1) := by decide +kernel
theorem dX4_orderAt_5 : decode cX4_orderAt 5 = .ok (.iload_n 2, 1) := by decide +kernel
theorem dX4_orderAt_6 : decode cX4_orderAt 6 = .ok (.invokevirtual 157, 3) := by decide +kernel
theorem dX4_orderAt_9 : decode cX4_orderAt 9 = .ok (.lconst 0, 1) := by decide +kernel
theorem dX4_orderAt_10 : decode cX4_orderAt 10 = .ok (.lcmp, 1) := by decide +kernel
theorem dX4_orderAt_11 : decode cX4_orderAt 11 = .ok (.ifCond .ge 19, 3) := by decide +kernel
theorem dX4_orderAt_14 : decode cX4_orderAt 14 = .ok (.iload_n 1, 1) := by decide +kernel
theorem dX4_orderAt_15 : decode cX4_orderAt 15 = .ok (.ifCond .ge 9, 3) := by decide +kernel
theorem dX4_orderAt_18 : decode cX4_orderAt 18 = .ok (.ldc2_w 107, 3) := by decide +kernel
theorem dX4_orderAt_21 : decode cX4_orderAt 21 = .ok (.goto 8, 3) := by decide +kernel
theorem dX4_orderAt_24 : decode cX4_orderAt 24 = .ok (.aload_n 0, 1) := by decide +kernel
theorem dX4_orderAt_25 : decode cX4_orderAt 25 = .ok (.iload_n 2, 1) := by decide +kernel
theorem dX4_orderAt_26 : decode cX4_orderAt 26 = .ok (.invokevirtual 157, 3) := by decide +kernel
theorem dX4_orderAt_29 : decode cX4_orderAt 29 = .ok (.lreturn, 1) := by decide +kernel
theorem dX4_orderAt_30 : decode cX4_orderAt 30 = .ok (.aload_n 0, 1) := by decide +kernel
theorem dX4_orderAt_31 : decode cX4_orderAt 31 = .ok (.iload_n 2, 1) := by decide +kernel
theorem dX4_orderAt_32 : decode cX4_orderAt 32 = .ok (.invokevirtual 161, 3) := by decide +kernel
theorem dX4_orderAt_35 : decode cX4_orderAt 35 = .ok (.iload_n 1, 1) := by decide +kernel
theorem dX4_orderAt_36 : decode cX4_orderAt 36 = .ok (.aload_n 0, 1) := by decide +kernel
theorem dX4_orderAt_37 : decode cX4_orderAt 37 = .ok (.getfield 151, 3) := by decide +kernel
theorem dX4_orderAt_40 : decode cX4_orderAt 40 = .ok (.if_icmp .ge 13, 3) := by decide +kernel
theorem dX4_orderAt_43 : decode cX4_orderAt 43 = .ok (.aload_n 0, 1) := by decide +kernel
theorem dX4_orderAt_44 : decode cX4_orderAt 44 = .ok (.getfield 51, 3) := by decide +kernel
theorem dX4_orderAt_47 : decode cX4_orderAt 47 = .ok (.iload_n 1, 1) := by decide +kernel
theorem dX4_orderAt_48 : decode cX4_orderAt 48 = .ok (.iaload, 1) := by decide +kernel
theorem dX4_orderAt_49 : decode cX4_orderAt 49 = .ok (.i2l, 1) := by decide +kernel
theorem dX4_orderAt_50 : decode cX4_orderAt 50 = .ok (.goto 6, 3) := by decide +kernel
theorem dX4_orderAt_53 : decode cX4_orderAt 53 = .ok (.ldc2_w 128, 3) := by decide +kernel
theorem dX4_orderAt_56 : decode cX4_orderAt 56 = .ok (.lreturn, 1) := by decide +kernel
set_option maxRecDepth 20000 in
theorem ggX4_sizeAt_X4_noTime : GoodIn wsX4_sizeAt wsX4_noTime := goodIn_r _ [6, 7, 8, 9, 10, 11, 12, 5, 13, 27, 28, 29, 30, 31, 32, 33, 34, 35, 36, 37, 38, 39, 40, 41, 42, 43, 44, 45, 46, 47, 48, 49] (by decide +kernel) (by decide +kernel)
set_option maxRecDepth 20000 in
theorem gX4_sizeAt_X4_noTime : GoodIn wsX4_sizeAt (wsV RX4 157 RX4 yX4_noTime wsX4_noTime) := goodIn_app (goodIn_of _ (by decide +kernel)) ggX4_sizeAt_X4_noTime
set_option maxRecDepth 20000 in
theorem ggX4_sizeAt_X4_goesBack : GoodIn wsX4_sizeAt wsX4_goesBack := goodIn_r _ [17, 18, 19, 20, 21, 22, 1, 23, 24, 25, 26, 27, 28, 29, 30, 31, 32, 33, 34, 35, 36, 37, 38, 39, 40, 41, 42, 43, 44, 45, 46, 47, 48, 49] (by decide +kernel) (by decide +kernel)
set_option maxRecDepth 20000 in
theorem gX4_sizeAt_X4_goesBack : GoodIn wsX4_sizeAt (wsV RX4 161 RX4 yX4_goesBack wsX4_goesBack) := goodIn_app (goodIn_of _ (by decide +kernel)) ggX4_sizeAt_X4_goesBack
theorem dX4_sizeAt_0 : decode cX4_sizeAt 0 = .ok (.aload_n 0, 1) := by decide +kernel
theorem dX4_sizeAt_1 : decode cX4_sizeAt 1 = .ok (.iload_n 1, 1) := by decide +kernel
theorem dX4_sizeAt_2 : decode cX4_sizeAt 2 = .ok (.invokevirtual 157, 3) := by decide +kernel
theorem dX4_sizeAt_5 : decode cX4_sizeAt 5 = .ok (.lconst 0, 1) := by decide +kernel
theorem dX4_sizeAt_6 : decode cX4_sizeAt 6 = .ok (.lcmp, 1) := by decide +kernel
theorem dX4_sizeAt_7 : decode cX4_sizeAt 7 = .ok (.ifCond .ge 9, 3) := by decide +kernel
theorem dX4_sizeAt_10 : decode cX4_sizeAt 10 = .ok (.aload_n 0, 1) := by decide +kernel
theorem dX4_sizeAt_11 : decode cX4_sizeAt 11 = .ok (.iload_n 1, 1) := by decide +kernel
theorem dX4_sizeAt_12 : decode cX4_sizeAt 12 = .ok (.invokevirtual 157, 3) := by decide +kernel
theorem dX4_sizeAt_15 : decode cX4_sizeAt 15 = .ok (.lreturn, 1) := by decide +kernel
theorem dX4_sizeAt_16 : decode cX4_sizeAt 16 = .ok (.aload_n 0, 1) := by decide +kernel
theorem dX4_sizeAt_17 : decode cX4_sizeAt 17 = .ok (.iload_n 1, 1) := by decide +kernel
theorem dX4_sizeAt_18 : decode cX4_sizeAt 18 = .ok (.invokevirtual 161, 3) := by decide +kernel
theorem dX4_sizeAt_21 : decode cX4_sizeAt 21 = .ok (.aload_n 0, 1) := by decide +kernel
theorem dX4_sizeAt_22 : decode cX4_sizeAt 22 = .ok (.getfield 151, 3) := by decide +kernel
theorem dX4_sizeAt_25 : decode cX4_sizeAt 25 = .ok (.i2l, 1) := by decide +kernel
theorem dX4_sizeAt_26 : decode cX4_sizeAt 26 = .ok (.lreturn, 1) := by decide +kernel
set_option maxRecDepth 20000 in
theorem ggX4_topChanges_X4_in : GoodIn wsX4_topChanges wsX4_in := goodIn_r _ [10] (by decide +kernel) (by decide +kernel)
set_option maxRecDepth 20000 in
theorem gX4_topChanges_X4_in : GoodIn wsX4_topChanges (va_wsS RX4 56 yX4_in wsX4_in) := goodIn_app (goodIn_of _ (by decide +kernel)) ggX4_topChanges_X4_in
set_option maxRecDepth 20000 in
theorem ggX4_topChanges_X4_goesBack : GoodIn wsX4_topChanges wsX4_goesBack := goodIn_r _ [14, 15, 16, 17, 18, 19, 5, 20, 21, 22, 6, 23, 24, 25, 26, 27, 28, 29, 30, 31, 32, 33, 34, 35, 36, 37, 38, 39, 40, 41, 42, 43, 44, 45] (by decide +kernel) (by decide +kernel)
set_option maxRecDepth 20000 in
theorem gX4_topChanges_X4_goesBack : GoodIn wsX4_topChanges (wsV RX4 161 RX4 yX4_goesBack wsX4_goesBack) := goodIn_app (goodIn_of _ (by decide +kernel)) ggX4_topChanges_X4_goesBack
theorem dX4_topChanges_0 : decode cX4_topChanges 0 = .ok (.iload_n 1, 1) := by decide +kernel
theorem dX4_topChanges_1 : decode cX4_topChanges 1 = .ok (.i2l, 1) := by decide +kernel
theorem dX4_topChanges_2 : decode cX4_topChanges 2 = .ok (.lconst 1, 1) := by decide +kernel
theorem dX4_topChanges_3 : decode cX4_topChanges 3 = .ok (.aload_n 0, 1) := by decide +kernel
theorem dX4_topChanges_4 : decode cX4_topChanges 4 = .ok (.getfield 60, 3) := by decide +kernel
theorem dX4_topChanges_7 : decode cX4_topChanges 7 = .ok (.i2l, 1) := by decide +kernel
theorem dX4_topChanges_8 : decode cX4_topChanges 8 = .ok (.invokestatic 56, 3) := by decide +kernel
theorem dX4_topChanges_11 : decode cX4_topChanges 11 = .ok (.ifCond .eq 27, 3) := by decide +kernel
theorem dX4_topChanges_14 : decode cX4_topChanges 14 = .ok (.iload_n 2, 1) := by decide +kernel
theorem dX4_topChanges_15 : decode cX4_topChanges 15 = .ok (.i2l, 1) := by decide +kernel
theorem dX4_topChanges_16 : decode cX4_topChanges 16 = .ok (.iload_n 1, 1) := by decide +kernel
theorem dX4_topChanges_17 : decode cX4_topChanges 17 = .ok (.i2l, 1) := by decide +kernel
theorem dX4_topChanges_18 : decode cX4_topChanges 18 = .ok (.aload_n 0, 1) := by decide +kernel
theorem dX4_topChanges_19 : decode cX4_topChanges 19 = .ok (.getfield 60, 3) := by decide +kernel
theorem dX4_topChanges_22 : decode cX4_topChanges 22 = .ok (.i2l, 1) := by decide +kernel
theorem dX4_topChanges_23 : decode cX4_topChanges 23 = .ok (.invokestatic 56, 3) := by decide +kernel
theorem dX4_topChanges_26 : decode cX4_topChanges 26 = .ok (.ifCond .eq 12, 3) := by decide +kernel
theorem dX4_topChanges_29 : decode cX4_topChanges 29 = .ok (.iload_n 2, 1) := by decide +kernel
theorem dX4_topChanges_30 : decode cX4_topChanges 30 = .ok (.iload_n 1, 1) := by decide +kernel
theorem dX4_topChanges_31 : decode cX4_topChanges 31 = .ok (.isub, 1) := by decide +kernel
theorem dX4_topChanges_32 : decode cX4_topChanges 32 = .ok (.sipush 500, 3) := by decide +kernel
theorem dX4_topChanges_35 : decode cX4_topChanges 35 = .ok (.if_icmp .le 7, 3) := by decide +kernel
theorem dX4_topChanges_38 : decode cX4_topChanges 38 = .ok (.ldc2_w 107, 3) := by decide +kernel
theorem dX4_topChanges_41 : decode cX4_topChanges 41 = .ok (.lreturn, 1) := by decide +kernel
theorem dX4_topChanges_42 : decode cX4_topChanges 42 = .ok (.iload_n 1, 1) := by decide +kernel
theorem dX4_topChanges_43 : decode cX4_topChanges 43 = .ok (.iconst 1, 1) := by decide +kernel
theorem dX4_topChanges_44 : decode cX4_topChanges 44 = .ok (.isub, 1) := by decide +kernel
theorem dX4_topChanges_45 : decode cX4_topChanges 45 = .ok (.aload_n 0, 1) := by decide +kernel
theorem dX4_topChanges_46 : decode cX4_topChanges 46 = .ok (.getfield 154, 3) := by decide +kernel
theorem dX4_topChanges_49 : decode cX4_topChanges 49 = .ok (.if_icmp .ge 7, 3) := by decide +kernel
theorem dX4_topChanges_52 : decode cX4_topChanges 52 = .ok (.ldc2_w 149, 3) := by decide +kernel
theorem dX4_topChanges_55 : decode cX4_topChanges 55 = .ok (.lreturn, 1) := by decide +kernel
theorem dX4_topChanges_56 : decode cX4_topChanges 56 = .ok (.aload_n 0, 1) := by decide +kernel
theorem dX4_topChanges_57 : decode cX4_topChanges 57 = .ok (.iload_n 1, 1) := by decide +kernel
theorem dX4_topChanges_58 : decode cX4_topChanges 58 = .ok (.iconst 1, 1) := by decide +kernel
theorem dX4_topChanges_59 : decode cX4_topChanges 59 = .ok (.isub, 1) := by decide +kernel
theorem dX4_topChanges_60 : decode cX4_topChanges 60 = .ok (.invokevirtual 161, 3) := by decide +kernel
theorem dX4_topChanges_63 : decode cX4_topChanges 63 = .ok (.aload_n 0, 1) := by decide +kernel
theorem dX4_topChanges_64 : decode cX4_topChanges 64 = .ok (.getfield 151, 3) := by decide +kernel
theorem dX4_topChanges_67 : decode cX4_topChanges 67 = .ok (.ifCond .ne 7, 3) := by decide +kernel
theorem dX4_topChanges_70 : decode cX4_topChanges 70 = .ok (.iconst (-1), 1) := by decide +kernel
theorem dX4_topChanges_71 : decode cX4_topChanges 71 = .ok (.goto 9, 3) := by decide +kernel
theorem dX4_topChanges_74 : decode cX4_topChanges 74 = .ok (.aload_n 0, 1) := by decide +kernel
theorem dX4_topChanges_75 : decode cX4_topChanges 75 = .ok (.getfield 51, 3) := by decide +kernel
theorem dX4_topChanges_78 : decode cX4_topChanges 78 = .ok (.iconst 0, 1) := by decide +kernel
theorem dX4_topChanges_79 : decode cX4_topChanges 79 = .ok (.iaload, 1) := by decide +kernel
theorem dX4_topChanges_80 : decode cX4_topChanges 80 = .ok (.istore_n 3, 1) := by decide +kernel
theorem dX4_topChanges_81 : decode cX4_topChanges 81 = .ok (.iconst 0, 1) := by decide +kernel
theorem dX4_topChanges_82 : decode cX4_topChanges 82 = .ok (.istore 4, 2) := by decide +kernel
theorem dX4_topChanges_84 : decode cX4_topChanges 84 = .ok (.iload_n 1, 1) := by decide +kernel
theorem dX4_topChanges_85 : decode cX4_topChanges 85 = .ok (.istore 5, 2) := by decide +kernel
theorem dX4_topChanges_87 : decode cX4_topChanges 87 = .ok (.iload 5, 2) := by decide +kernel
theorem dX4_topChanges_89 : decode cX4_topChanges 89 = .ok (.iload_n 2, 1) := by decide +kernel
theorem dX4_topChanges_90 : decode cX4_topChanges 90 = .ok (.if_icmp .gt 53, 3) := by decide +kernel
theorem dX4_topChanges_93 : decode cX4_topChanges 93 = .ok (.aload_n 0, 1) := by decide +kernel
theorem dX4_topChanges_94 : decode cX4_topChanges 94 = .ok (.iload 5, 2) := by decide +kernel
theorem dX4_topChanges_96 : decode cX4_topChanges 96 = .ok (.invokevirtual 161, 3) := by decide +kernel
theorem dX4_topChanges_99 : decode cX4_topChanges 99 = .ok (.aload_n 0, 1) := by decide +kernel
theorem dX4_topChanges_100 : decode cX4_topChanges 100 = .ok (.getfield 151, 3) := by decide +kernel
theorem dX4_topChanges_103 : decode cX4_topChanges 103 = .ok (.ifCond .ne 7, 3) := by decide +kernel
theorem dX4_topChanges_106 : decode cX4_topChanges 106 = .ok (.iconst (-1), 1) := by decide +kernel
theorem dX4_topChanges_107 : decode cX4_topChanges 107 = .ok (.goto 9, 3) := by decide +kernel
theorem dX4_topChanges_110 : decode cX4_topChanges 110 = .ok (.aload_n 0, 1) := by decide +kernel
theorem dX4_topChanges_111 : decode cX4_topChanges 111 = .ok (.getfield 51, 3) := by decide +kernel
theorem dX4_topChanges_114 : decode cX4_topChanges 114 = .ok (.iconst 0, 1) := by decide +kernel
theorem dX4_topChanges_115 : decode cX4_topChanges 115 = .ok (.iaload, 1) := by decide +kernel
theorem dX4_topChanges_116 : decode cX4_topChanges 116 = .ok (.istore 6, 2) := by decide +kernel
theorem dX4_topChanges_118 : decode cX4_topChanges 118 = .ok (.iload 4, 2) := by decide +kernel
theorem dX4_topChanges_120 : decode cX4_topChanges 120 = .ok (.iload 6, 2) := by decide +kernel
theorem dX4_topChanges_122 : decode cX4_topChanges 122 = .ok (.iload_n 3, 1) := by decide +kernel
theorem dX4_topChanges_123 : decode cX4_topChanges 123 = .ok (.if_icmp .eq 7, 3) := by decide +kernel
theorem dX4_topChanges_126 : decode cX4_topChanges 126 = .ok (.iconst 1, 1) := by decide +kernel
theorem dX4_topChanges_127 : decode cX4_topChanges 127 = .ok (.goto 4, 3) := by decide +kernel
theorem dX4_topChanges_130 : decode cX4_topChanges 130 = .ok (.iconst 0, 1) := by decide +kernel
theorem dX4_topChanges_131 : decode cX4_topChanges 131 = .ok (.iadd, 1) := by decide +kernel
theorem dX4_topChanges_132 : decode cX4_topChanges 132 = .ok (.istore 4, 2) := by decide +kernel
theorem dX4_topChanges_134 : decode cX4_topChanges 134 = .ok (.iload 6, 2) := by decide +kernel
theorem dX4_topChanges_136 : decode cX4_topChanges 136 = .ok (.istore_n 3, 1) := by decide +kernel
theorem dX4_topChanges_137 : decode cX4_topChanges 137 = .ok (.iinc 5 1, 3) := by decide +kernel
theorem dX4_topChanges_140 : decode cX4_topChanges 140 = .ok (.goto (-53), 3) := by decide +kernel
theorem dX4_topChanges_143 : decode cX4_topChanges 143 = .ok (.iload 4, 2) := by decide +kernel
theorem dX4_topChanges_145 : decode cX4_topChanges 145 = .ok (.i2l, 1) := by decide +kernel
theorem dX4_topChanges_146 : decode cX4_topChanges 146 = .ok (.lreturn, 1) := by decide +kernel
set_option maxRecDepth 20000 in
theorem ggX4_leastBetween_X4_in : GoodIn wsX4_leastBetween wsX4_in := goodIn_r _ [12] (by decide +kernel) (by decide +kernel)
set_option maxRecDepth 20000 in
theorem gX4_leastBetween_X4_in : GoodIn wsX4_leastBetween (va_wsS RX4 56 yX4_in wsX4_in) := goodIn_app (goodIn_of _ (by decide +kernel)) ggX4_leastBetween_X4_in
set_option maxRecDepth 20000 in
theorem ggX4_leastBetween_X4_goesBack : GoodIn wsX4_leastBetween wsX4_goesBack := goodIn_r _ [16, 17, 18, 19, 20, 21, 5, 6, 22, 23, 7, 24, 25, 26, 27, 28, 29, 30, 31, 32, 33, 34, 35, 36, 37, 38, 39, 40, 41, 42, 43, 44, 45, 46] (by decide +kernel) (by decide +kernel)
set_option maxRecDepth 20000 in
theorem gX4_leastBetween_X4_goesBack : GoodIn wsX4_leastBetween (wsV RX4 161 RX4 yX4_goesBack wsX4_goesBack) := goodIn_app (goodIn_of _ (by decide +kernel)) ggX4_leastBetween_X4_goesBack
theorem dX4_leastBetween_0 : decode cX4_leastBetween 0 = .ok (.iload_n 1, 1) := by decide +kernel
theorem dX4_leastBetween_1 : decode cX4_leastBetween 1 = .ok (.i2l, 1) := by decide +kernel
theorem dX4_leastBetween_2 : decode cX4_leastBetween 2 = .ok (.lconst 0, 1) := by decide +kernel
theorem dX4_leastBetween_3 : decode cX4_leastBetween 3 = .ok (.aload_n 0, 1) := by decide +kernel
theorem dX4_leastBetween_4 : decode cX4_leastBetween 4 = .ok (.getfield 60, 3) := by decide +kernel
theorem dX4_leastBetween_7 : decode cX4_leastBetween 7 = .ok (.i2l, 1) := by decide +kernel
theorem dX4_leastBetween_8 : decode cX4_leastBetween 8 = .ok (.invokestatic 56, 3) := by decide +kernel
theorem dX4_leastBetween_11 : decode cX4_leastBetween 11 = .ok (.ifCond .eq 27, 3) := by decide +kernel
theorem dX4_leastBetween_14 : decode cX4_leastBetween 14 = .ok (.iload_n 2, 1) := by decide +kernel
theorem dX4_leastBetween_15 : decode cX4_leastBetween 15 = .ok (.i2l, 1) := by decide +kernel
theorem dX4_leastBetween_16 : decode cX4_leastBetween 16 = .ok (.iload_n 1, 1) := by decide +kernel
theorem dX4_leastBetween_17 : decode cX4_leastBetween 17 = .ok (.i2l, 1) := by decide +kernel
theorem dX4_leastBetween_18 : decode cX4_leastBetween 18 = .ok (.aload_n 0, 1) := by decide +kernel
theorem dX4_leastBetween_19 : decode cX4_leastBetween 19 = .ok (.getfield 60, 3) := by decide +kernel
theorem dX4_leastBetween_22 : decode cX4_leastBetween 22 = .ok (.i2l, 1) := by decide +kernel
theorem dX4_leastBetween_23 : decode cX4_leastBetween 23 = .ok (.invokestatic 56, 3) := by decide +kernel
theorem dX4_leastBetween_26 : decode cX4_leastBetween 26 = .ok (.ifCond .eq 12, 3) := by decide +kernel
theorem dX4_leastBetween_29 : decode cX4_leastBetween 29 = .ok (.iload_n 2, 1) := by decide +kernel
theorem dX4_leastBetween_30 : decode cX4_leastBetween 30 = .ok (.iload_n 1, 1) := by decide +kernel
theorem dX4_leastBetween_31 : decode cX4_leastBetween 31 = .ok (.isub, 1) := by decide +kernel
theorem dX4_leastBetween_32 : decode cX4_leastBetween 32 = .ok (.sipush 500, 3) := by decide +kernel
theorem dX4_leastBetween_35 : decode cX4_leastBetween 35 = .ok (.if_icmp .le 7, 3) := by decide +kernel
theorem dX4_leastBetween_38 : decode cX4_leastBetween 38 = .ok (.ldc2_w 107, 3) := by decide +kernel
theorem dX4_leastBetween_41 : decode cX4_leastBetween 41 = .ok (.lreturn, 1) := by decide +kernel
theorem dX4_leastBetween_42 : decode cX4_leastBetween 42 = .ok (.iload_n 1, 1) := by decide +kernel
theorem dX4_leastBetween_43 : decode cX4_leastBetween 43 = .ok (.aload_n 0, 1) := by decide +kernel
theorem dX4_leastBetween_44 : decode cX4_leastBetween 44 = .ok (.getfield 154, 3) := by decide +kernel
theorem dX4_leastBetween_47 : decode cX4_leastBetween 47 = .ok (.if_icmp .ge 7, 3) := by decide +kernel
theorem dX4_leastBetween_50 : decode cX4_leastBetween 50 = .ok (.ldc2_w 149, 3) := by decide +kernel
theorem dX4_leastBetween_53 : decode cX4_leastBetween 53 = .ok (.lreturn, 1) := by decide +kernel
theorem dX4_leastBetween_54 : decode cX4_leastBetween 54 = .ok (.iconst 0, 1) := by decide +kernel
theorem dX4_leastBetween_55 : decode cX4_leastBetween 55 = .ok (.istore_n 3, 1) := by decide +kernel
theorem dX4_leastBetween_56 : decode cX4_leastBetween 56 = .ok (.lconst 0, 1) := by decide +kernel
theorem dX4_leastBetween_57 : decode cX4_leastBetween 57 = .ok (.lstore 4, 2) := by decide +kernel
theorem dX4_leastBetween_59 : decode cX4_leastBetween 59 = .ok (.iload_n 1, 1) := by decide +kernel
theorem dX4_leastBetween_60 : decode cX4_leastBetween 60 = .ok (.istore 6, 2) := by decide +kernel
theorem dX4_leastBetween_62 : decode cX4_leastBetween 62 = .ok (.iload 6, 2) := by decide +kernel
theorem dX4_leastBetween_64 : decode cX4_leastBetween 64 = .ok (.iload_n 2, 1) := by decide +kernel
theorem dX4_leastBetween_65 : decode cX4_leastBetween 65 = .ok (.if_icmp .gt 58, 3) := by decide +kernel
theorem dX4_leastBetween_68 : decode cX4_leastBetween 68 = .ok (.aload_n 0, 1) := by decide +kernel
theorem dX4_leastBetween_69 : decode cX4_leastBetween 69 = .ok (.iload 6, 2) := by decide +kernel
theorem dX4_leastBetween_71 : decode cX4_leastBetween 71 = .ok (.invokevirtual 161, 3) := by decide +kernel
theorem dX4_leastBetween_74 : decode cX4_leastBetween 74 = .ok (.aload_n 0, 1) := by decide +kernel
theorem dX4_leastBetween_75 : decode cX4_leastBetween 75 = .ok (.getfield 151, 3) := by decide +kernel
theorem dX4_leastBetween_78 : decode cX4_leastBetween 78 = .ok (.ifCond .le 39, 3) := by decide +kernel
theorem dX4_leastBetween_81 : decode cX4_leastBetween 81 = .ok (.iload_n 3, 1) := by decide +kernel
theorem dX4_leastBetween_82 : decode cX4_leastBetween 82 = .ok (.ifCond .eq 20, 3) := by decide +kernel
theorem dX4_leastBetween_85 : decode cX4_leastBetween 85 = .ok (.aload_n 0, 1) := by decide +kernel
theorem dX4_leastBetween_86 : decode cX4_leastBetween 86 = .ok (.getfield 48, 3) := by decide +kernel
theorem dX4_leastBetween_89 : decode cX4_leastBetween 89 = .ok (.aload_n 0, 1) := by decide +kernel
theorem dX4_leastBetween_90 : decode cX4_leastBetween 90 = .ok (.getfield 51, 3) := by decide +kernel
theorem dX4_leastBetween_93 : decode cX4_leastBetween 93 = .ok (.iconst 0, 1) := by decide +kernel
theorem dX4_leastBetween_94 : decode cX4_leastBetween 94 = .ok (.iaload, 1) := by decide +kernel
theorem dX4_leastBetween_95 : decode cX4_leastBetween 95 = .ok (.laload, 1) := by decide +kernel
theorem dX4_leastBetween_96 : decode cX4_leastBetween 96 = .ok (.lload 4, 2) := by decide +kernel
theorem dX4_leastBetween_98 : decode cX4_leastBetween 98 = .ok (.lcmp, 1) := by decide +kernel
theorem dX4_leastBetween_99 : decode cX4_leastBetween 99 = .ok (.ifCond .ge 18, 3) := by decide +kernel
theorem dX4_leastBetween_102 : decode cX4_leastBetween 102 = .ok (.iconst 1, 1) := by decide +kernel
theorem dX4_leastBetween_103 : decode cX4_leastBetween 103 = .ok (.istore_n 3, 1) := by decide +kernel
theorem dX4_leastBetween_104 : decode cX4_leastBetween 104 = .ok (.aload_n 0, 1) := by decide +kernel
theorem dX4_leastBetween_105 : decode cX4_leastBetween 105 = .ok (.getfield 48, 3) := by decide +kernel
theorem dX4_leastBetween_108 : decode cX4_leastBetween 108 = .ok (.aload_n 0, 1) := by decide +kernel
theorem dX4_leastBetween_109 : decode cX4_leastBetween 109 = .ok (.getfield 51, 3) := by decide +kernel
theorem dX4_leastBetween_112 : decode cX4_leastBetween 112 = .ok (.iconst 0, 1) := by decide +kernel
theorem dX4_leastBetween_113 : decode cX4_leastBetween 113 = .ok (.iaload, 1) := by decide +kernel
theorem dX4_leastBetween_114 : decode cX4_leastBetween 114 = .ok (.laload, 1) := by decide +kernel
theorem dX4_leastBetween_115 : decode cX4_leastBetween 115 = .ok (.lstore 4, 2) := by decide +kernel
theorem dX4_leastBetween_117 : decode cX4_leastBetween 117 = .ok (.iinc 6 1, 3) := by decide +kernel
theorem dX4_leastBetween_120 : decode cX4_leastBetween 120 = .ok (.goto (-58), 3) := by decide +kernel
theorem dX4_leastBetween_123 : decode cX4_leastBetween 123 = .ok (.iload_n 3, 1) := by decide +kernel
theorem dX4_leastBetween_124 : decode cX4_leastBetween 124 = .ok (.ifCond .eq 8, 3) := by decide +kernel
theorem dX4_leastBetween_127 : decode cX4_leastBetween 127 = .ok (.lload 4, 2) := by decide +kernel
theorem dX4_leastBetween_129 : decode cX4_leastBetween 129 = .ok (.goto 6, 3) := by decide +kernel
theorem dX4_leastBetween_132 : decode cX4_leastBetween 132 = .ok (.ldc2_w 128, 3) := by decide +kernel
theorem dX4_leastBetween_135 : decode cX4_leastBetween 135 = .ok (.lreturn, 1) := by decide +kernel
set_option maxRecDepth 20000 in
theorem ggX4_forget_X4_keeps : GoodIn wsX4_forget wsX4_keeps := goodIn_r _ [10, 11, 2, 3, 12, 13, 5, 14, 15, 16, 17, 18, 19, 9, 20, 21, 22, 23, 24, 25, 26, 27, 28, 29, 30, 31, 32, 33, 34, 35, 36, 37, 38, 39, 40, 41, 42, 43, 44, 45] (by decide +kernel) (by decide +kernel)
set_option maxRecDepth 20000 in
theorem gX4_forget_X4_keeps : GoodIn wsX4_forget (wsV RX4 91 RX4 yX4_keeps wsX4_keeps) := goodIn_app (goodIn_of _ (by decide +kernel)) ggX4_forget_X4_keeps
theorem dX4_forget_0 : decode cX4_forget 0 = .ok (.aload_n 0, 1) := by decide +kernel
theorem dX4_forget_1 : decode cX4_forget 1 = .ok (.getfield 95, 3) := by decide +kernel
theorem dX4_forget_4 : decode cX4_forget 4 = .ok (.istore_n 1, 1) := by decide +kernel
theorem dX4_forget_5 : decode cX4_forget 5 = .ok (.aload_n 0, 1) := by decide +kernel
theorem dX4_forget_6 : decode cX4_forget 6 = .ok (.iconst 0, 1) := by decide +kernel
theorem dX4_forget_7 : decode cX4_forget 7 = .ok (.putfield 95, 3) := by decide +kernel
theorem dX4_forget_10 : decode cX4_forget 10 = .ok (.aload_n 0, 1) := by decide +kernel
theorem dX4_forget_11 : decode cX4_forget 11 = .ok (.iconst 0, 1) := by decide +kernel
theorem dX4_forget_12 : decode cX4_forget 12 = .ok (.putfield 88, 3) := by decide +kernel
theorem dX4_forget_15 : decode cX4_forget 15 = .ok (.aload_n 0, 1) := by decide +kernel
theorem dX4_forget_16 : decode cX4_forget 16 = .ok (.aload_n 0, 1) := by decide +kernel
theorem dX4_forget_17 : decode cX4_forget 17 = .ok (.getfield 60, 3) := by decide +kernel
theorem dX4_forget_20 : decode cX4_forget 20 = .ok (.putfield 154, 3) := by decide +kernel
theorem dX4_forget_23 : decode cX4_forget 23 = .ok (.iconst 0, 1) := by decide +kernel
theorem dX4_forget_24 : decode cX4_forget 24 = .ok (.istore_n 2, 1) := by decide +kernel
theorem dX4_forget_25 : decode cX4_forget 25 = .ok (.iload_n 2, 1) := by decide +kernel
theorem dX4_forget_26 : decode cX4_forget 26 = .ok (.bipush 24, 2) := by decide +kernel
theorem dX4_forget_28 : decode cX4_forget 28 = .ok (.if_icmp .ge 23, 3) := by decide +kernel
theorem dX4_forget_31 : decode cX4_forget 31 = .ok (.aload_n 0, 1) := by decide +kernel
theorem dX4_forget_32 : decode cX4_forget 32 = .ok (.getfield 13, 3) := by decide +kernel
theorem dX4_forget_35 : decode cX4_forget 35 = .ok (.iload_n 2, 1) := by decide +kernel
theorem dX4_forget_36 : decode cX4_forget 36 = .ok (.baload, 1) := by decide +kernel
theorem dX4_forget_37 : decode cX4_forget 37 = .ok (.ifCond .eq 8, 3) := by decide +kernel
theorem dX4_forget_40 : decode cX4_forget 40 = .ok (.aload_n 0, 1) := by decide +kernel
theorem dX4_forget_41 : decode cX4_forget 41 = .ok (.iload_n 2, 1) := by decide +kernel
theorem dX4_forget_42 : decode cX4_forget 42 = .ok (.invokevirtual 91, 3) := by decide +kernel
theorem dX4_forget_45 : decode cX4_forget 45 = .ok (.iinc 2 1, 3) := by decide +kernel
theorem dX4_forget_48 : decode cX4_forget 48 = .ok (.goto (-23), 3) := by decide +kernel
theorem dX4_forget_51 : decode cX4_forget 51 = .ok (.iload_n 1, 1) := by decide +kernel
theorem dX4_forget_52 : decode cX4_forget 52 = .ok (.ireturn, 1) := by decide +kernel
theorem dJ9_min_7cf53_0 : decode cJ9_min_7cf53 0 = .ok (.iload_n 0, 1) := by decide +kernel
theorem dJ9_min_7cf53_1 : decode cJ9_min_7cf53 1 = .ok (.iload_n 1, 1) := by decide +kernel
theorem dJ9_min_7cf53_2 : decode cJ9_min_7cf53 2 = .ok (.if_icmp .gt 7, 3) := by decide +kernel
theorem dJ9_min_7cf53_5 : decode cJ9_min_7cf53 5 = .ok (.iload_n 0, 1) := by decide +kernel
theorem dJ9_min_7cf53_6 : decode cJ9_min_7cf53 6 = .ok (.goto 4, 3) := by decide +kernel
theorem dJ9_min_7cf53_9 : decode cJ9_min_7cf53 9 = .ok (.iload_n 1, 1) := by decide +kernel
theorem dJ9_min_7cf53_10 : decode cJ9_min_7cf53 10 = .ok (.ireturn, 1) := by decide +kernel
theorem dJ9_min_f86c9_0 : decode cJ9_min_f86c9 0 = .ok (.lload_n 0, 1) := by decide +kernel
theorem dJ9_min_f86c9_1 : decode cJ9_min_f86c9 1 = .ok (.lload_n 2, 1) := by decide +kernel
theorem dJ9_min_f86c9_2 : decode cJ9_min_f86c9 2 = .ok (.lcmp, 1) := by decide +kernel
theorem dJ9_min_f86c9_3 : decode cJ9_min_f86c9 3 = .ok (.ifCond .gt 7, 3) := by decide +kernel
theorem dJ9_min_f86c9_6 : decode cJ9_min_f86c9 6 = .ok (.lload_n 0, 1) := by decide +kernel
theorem dJ9_min_f86c9_7 : decode cJ9_min_f86c9 7 = .ok (.goto 4, 3) := by decide +kernel
theorem dJ9_min_f86c9_10 : decode cJ9_min_f86c9 10 = .ok (.lload_n 2, 1) := by decide +kernel
theorem dJ9_min_f86c9_11 : decode cJ9_min_f86c9 11 = .ok (.lreturn, 1) := by decide +kernel
set_option maxRecDepth 20000 in
theorem ggL_law_X3_init : GoodIn wsL_law wsX3_init := goodIn_r _ [8, 9, 10, 11, 12, 13, 14, 15, 16, 17, 18, 19, 20, 21, 22, 23, 24, 25, 26, 27, 28, 29, 30, 31, 32, 33, 34, 35, 36, 37, 38, 39, 40, 41, 42, 43, 44, 45, 46, 47, 48, 49, 50, 51, 52, 53, 54, 55, 56, 57, 58, 59, 60, 61, 62, 63, 64, 609, 610, 611, 612, 613, 614, 615, 580, 581, 582, 583, 584, 585, 616, 617, 618, 619, 620, 621, 622, 623, 624, 625, 626, 627, 628, 629] (by decide +kernel) (by decide +kernel)
set_option maxRecDepth 20000 in
theorem gL_law_X3_init : GoodIn wsL_law (wsX3_init) := ggL_law_X3_init
set_option maxRecDepth 20000 in
theorem ggL_law_X4_init : GoodIn wsL_law wsX4_init := goodIn_r _ [67, 68, 10, 11, 21, 69, 43, 70, 45, 71, 72, 73, 74, 75, 76, 77, 78, 79, 80, 81, 82, 586, 587, 588, 589, 590, 591, 592, 593, 594, 595, 596, 597, 598, 599, 600, 601, 602, 603, 604, 605, 606, 607, 608] (by decide +kernel) (by decide +kernel)
set_option maxRecDepth 20000 in
theorem gL_law_X4_init : GoodIn wsL_law (wsX4_init) := ggL_law_X4_init
set_option maxRecDepth 20000 in
theorem ggL_law_X3_insert : GoodIn wsL_law wsX3_insert := goodIn_r _ [86, 87, 16, 20, 88, 23, 22, 15, 89, 90, 2, 91, 92, 93, 94, 95, 96, 97, 98, 99, 31, 100, 44, 101, 102, 103, 19, 104, 61, 105, 106, 107, 108, 109, 110, 111, 112, 48, 46, 47, 113, 114, 115, 14, 116, 36, 117, 118, 119, 120, 33, 34, 121, 122, 123, 124, 125, 126, 127, 128, 129, 130, 131, 132, 32, 133, 134, 135, 136, 137, 138, 139, 140, 141, 142, 143, 144, 145, 146, 147, 148, 149, 150, 151, 152, 153, 154, 155, 37, 38, 156, 157, 158, 159, 56, 57, 58, 59, 60, 160, 161, 162, 163, 164, 165, 166, 167, 168, 169, 580, 581, 582, 583, 584, 585, 626, 627, 628, 629, 616, 617, 618, 619, 620, 621, 622, 623, 624, 625, 609, 610, 611, 612, 613, 614, 615] (by decide +kernel) (by decide +kernel)
set_option maxRecDepth 20000 in
theorem gL_law_X3_insert : GoodIn wsL_law (wsV RL 13 RX3 yX3_insert wsX3_insert) := goodIn_app (goodIn_of _ (by decide +kernel)) ggL_law_X3_insert
set_option maxRecDepth 20000 in
theorem ggL_law_X4_insert : GoodIn wsL_law wsX4_insert := goodIn_r _ [173, 174, 175, 176, 177, 178, 179, 180, 181, 70, 71, 72, 182, 73, 74, 69, 183, 184, 5, 185, 186, 187, 188, 189, 190, 191, 192, 193, 75, 194, 76, 77, 78, 79, 195, 196, 197, 198, 199, 200, 201, 202, 203, 204, 205, 206, 207, 208, 586, 587, 588, 589, 590, 591, 592, 593, 594, 595, 596, 597, 598, 599, 600, 601, 602, 603, 604, 605, 606, 607, 608] (by decide +kernel) (by decide +kernel)
set_option maxRecDepth 20000 in
theorem gL_law_X4_insert : GoodIn wsL_law (wsV RL 17 RX4 yX4_insert wsX4_insert) := goodIn_app (goodIn_of _ (by decide +kernel)) ggL_law_X4_insert
set_option maxRecDepth 20000 in
theorem ggL_law_X3_remove : GoodIn wsL_law wsX3_remove := goodIn_r _ [212, 16, 87, 20, 88, 23, 15, 213, 149, 150, 31, 151, 44, 101, 102, 103, 19, 104, 61, 214, 145, 146, 147, 46, 47, 148, 215, 216, 217, 14, 218, 36, 219, 220, 221, 222, 34, 136, 137, 138, 139, 33, 117, 118, 119, 120, 223, 224, 225, 226, 48, 121, 122, 123, 2, 124, 125, 126, 127, 128, 129, 130, 131, 132, 32, 133, 134, 135, 140, 141, 142, 143, 144, 152, 153, 154, 155, 37, 38, 156, 157, 158, 159, 56, 57, 58, 59, 60, 160, 161, 162, 163, 164, 165, 166, 167, 168, 169, 580, 581, 582, 583, 584, 585, 626, 627, 628, 629, 616, 617, 618, 619, 620, 621, 622, 623, 624, 625, 609, 610, 611, 612, 613, 614, 615] (by decide +kernel) (by decide +kernel)
set_option maxRecDepth 20000 in
theorem gL_law_X3_remove : GoodIn wsL_law (wsV RL 18 RX3 yX3_remove wsX3_remove) := goodIn_app (goodIn_of _ (by decide +kernel)) ggL_law_X3_remove
set_option maxRecDepth 20000 in
theorem ggL_law_X4_remove : GoodIn wsL_law wsX4_remove := goodIn_r _ [230, 182, 179, 69, 70, 231, 232, 233, 5, 234, 178, 180, 181, 235, 236, 237, 238, 239, 183, 184, 185, 195, 196, 197, 198, 71, 73, 72, 240, 241, 242, 243, 186, 187, 188, 189, 190, 191, 192, 193, 75, 194, 76, 77, 78, 79, 199, 200, 201, 202, 203, 204, 205, 206, 207, 208, 586, 587, 588, 589, 590, 591, 592, 593, 594, 595, 596, 597, 598, 599, 600, 601, 602, 603, 604, 605, 606, 607, 608] (by decide +kernel) (by decide +kernel)
set_option maxRecDepth 20000 in
theorem gL_law_X4_remove : GoodIn wsL_law (wsV RL 22 RX4 yX4_remove wsX4_remove) := goodIn_app (goodIn_of _ (by decide +kernel)) ggL_law_X4_remove
set_option maxRecDepth 20000 in
theorem ggL_law_X3_setVelocity : GoodIn wsL_law wsX3_setVelocity := goodIn_r _ [247, 16, 87, 20, 88, 23, 213, 149, 150, 31, 151, 44, 94, 95, 2, 96, 101, 102, 103, 19, 104, 61, 248, 167, 168, 169, 47, 148, 214, 145, 146, 147, 46, 105, 106, 107, 108, 109, 110, 111, 112, 48, 121, 122, 123, 124, 15, 125, 126, 127, 14, 128, 129, 130, 131, 132, 36, 32, 133, 134, 135, 136, 137, 138, 139, 33, 140, 141, 142, 143, 144, 152, 153, 154, 155, 37, 38, 117, 118, 119, 120, 34, 156, 157, 158, 159, 56, 57, 58, 59, 60, 160, 161, 162, 163, 164, 165, 166, 580, 581, 582, 583, 584, 585, 626, 627, 628, 629, 616, 617, 618, 619, 620, 621, 622, 623, 624, 625, 609, 610, 611, 612, 613, 614, 615] (by decide +kernel) (by decide +kernel)
set_option maxRecDepth 20000 in
theorem gL_law_X3_setVelocity : GoodIn wsL_law (wsV RL 23 RX3 yX3_setVelocity wsX3_setVelocity) := goodIn_app (goodIn_of _ (by decide +kernel)) ggL_law_X3_setVelocity
set_option maxRecDepth 20000 in
theorem ggL_law_X4_setVelocity : GoodIn wsL_law wsX4_setVelocity := goodIn_r _ [252, 176, 177, 73, 71, 182, 72, 183, 184, 5, 185, 231, 232, 233, 234, 178, 180, 181, 235, 236, 237, 238, 239, 70, 195, 196, 197, 198, 186, 187, 188, 189, 190, 191, 192, 193, 75, 194, 76, 77, 78, 79, 199, 200, 201, 202, 179, 69, 203, 204, 205, 206, 207, 208, 586, 587, 588, 589, 590, 591, 592, 593, 594, 595, 596, 597, 598, 599, 600, 601, 602, 603, 604, 605, 606, 607, 608] (by decide +kernel) (by decide +kernel)
set_option maxRecDepth 20000 in
theorem gL_law_X4_setVelocity : GoodIn wsL_law (wsV RL 26 RX4 yX4_setVelocity wsX4_setVelocity) := goodIn_app (goodIn_of _ (by decide +kernel)) ggL_law_X4_setVelocity
set_option maxRecDepth 20000 in
theorem ggL_law_X3_jump : GoodIn wsL_law wsX3_jump := goodIn_r _ [256, 16, 87, 20, 88, 23, 213, 149, 150, 31, 151, 44, 89, 90, 2, 91, 92, 93, 101, 102, 103, 19, 104, 61, 214, 145, 146, 147, 46, 47, 148, 248, 167, 168, 169, 105, 106, 107, 108, 109, 110, 111, 112, 48, 121, 122, 123, 124, 15, 125, 126, 127, 14, 128, 129, 130, 131, 132, 36, 32, 133, 134, 135, 136, 137, 138, 139, 33, 140, 141, 142, 143, 144, 152, 153, 154, 155, 37, 38, 117, 118, 119, 120, 34, 156, 157, 158, 159, 56, 57, 58, 59, 60, 160, 161, 162, 163, 164, 165, 166, 580, 581, 582, 583, 584, 585, 626, 627, 628, 629, 616, 617, 618, 619, 620, 621, 622, 623, 624, 625, 609, 610, 611, 612, 613, 614, 615] (by decide +kernel) (by decide +kernel)
set_option maxRecDepth 20000 in
theorem gL_law_X3_jump : GoodIn wsL_law (wsV RL 27 RX3 yX3_jump wsX3_jump) := goodIn_app (goodIn_of _ (by decide +kernel)) ggL_law_X3_jump
set_option maxRecDepth 20000 in
theorem ggL_law_X4_jump : GoodIn wsL_law wsX4_jump := goodIn_r _ [260, 174, 175, 182, 71, 72, 183, 184, 5, 185, 231, 232, 233, 234, 178, 180, 181, 235, 236, 237, 238, 239, 70, 195, 196, 197, 198, 73, 186, 187, 188, 189, 190, 191, 192, 193, 75, 194, 76, 77, 78, 79, 199, 200, 201, 202, 179, 69, 203, 204, 205, 206, 207, 208, 586, 587, 588, 589, 590, 591, 592, 593, 594, 595, 596, 597, 598, 599, 600, 601, 602, 603, 604, 605, 606, 607, 608] (by decide +kernel) (by decide +kernel)
set_option maxRecDepth 20000 in
theorem gL_law_X4_jump : GoodIn wsL_law (wsV RL 30 RX4 yX4_jump wsX4_jump) := goodIn_app (goodIn_of _ (by decide +kernel)) ggL_law_X4_jump
set_option maxRecDepth 20000 in
theorem ggL_law_X3_size : GoodIn wsL_law wsX3_size := goodIn_r _ [264, 16, 265, 266, 267, 31, 268, 48, 580, 581, 582, 583, 584, 585, 626, 627, 628, 629] (by decide +kernel) (by decide +kernel)
set_option maxRecDepth 20000 in
theorem gL_law_X3_size : GoodIn wsL_law (wsV RL 31 RX3 yX3_size wsX3_size) := goodIn_app (goodIn_of _ (by decide +kernel)) ggL_law_X3_size
set_option maxRecDepth 20000 in
theorem ggL_law_X4_size : GoodIn wsL_law wsX4_size := goodIn_r _ [272, 179, 586, 587, 588, 589, 590, 591, 592, 593, 594, 595, 596, 597, 598, 599, 600, 601, 602, 603, 604, 605, 606, 607, 608] (by decide +kernel) (by decide +kernel)
set_option maxRecDepth 20000 in
theorem gL_law_X4_size : GoodIn wsL_law (wsV RL 35 RX4 yX4_size wsX4_size) := goodIn_app (goodIn_of _ (by decide +kernel)) ggL_law_X4_size
set_option maxRecDepth 20000 in
theorem ggL_law_X3_point : GoodIn wsL_law wsX3_point := goodIn_r _ [276, 16, 87, 23, 15, 22, 213, 149, 150, 31, 151, 44, 214, 145, 146, 147, 46, 47, 148, 248, 167, 168, 169, 277, 220, 221, 14, 222, 34, 278, 279, 280, 281, 282, 141, 142, 143, 144, 580, 581, 582, 583, 584, 585, 626, 627, 628, 629, 609, 610, 611, 612, 613, 614, 615] (by decide +kernel) (by decide +kernel)
set_option maxRecDepth 20000 in
theorem gL_law_X3_point : GoodIn wsL_law (wsV RL 36 RX3 yX3_point wsX3_point) := goodIn_app (goodIn_of _ (by decide +kernel)) ggL_law_X3_point
set_option maxRecDepth 20000 in
theorem ggL_law_X4_point : GoodIn wsL_law wsX4_point := goodIn_r _ [286, 287, 178, 70, 182, 73, 74, 235, 236, 237, 5, 238, 239, 183, 184, 185, 205, 206, 207, 208, 195, 196, 197, 198, 71, 72, 240, 241, 242, 243, 69, 586, 587, 588, 589, 590, 591, 592, 593, 594, 595, 596, 597, 598, 599, 600, 601, 602, 603, 604, 605, 606, 607, 608] (by decide +kernel) (by decide +kernel)
set_option maxRecDepth 20000 in
theorem gL_law_X4_point : GoodIn wsL_law (wsV RL 39 RX4 yX4_point wsX4_point) := goodIn_app (goodIn_of _ (by decide +kernel)) ggL_law_X4_point
set_option maxRecDepth 20000 in
theorem ggL_law_X3_at : GoodIn wsL_law wsX3_at := goodIn_r _ [291, 87, 15, 292, 137, 138, 14, 139, 36, 33, 293, 294, 2, 295, 296, 580, 581, 582, 583, 584, 585, 609, 610, 611, 612, 613, 614, 615] (by decide +kernel) (by decide +kernel)
set_option maxRecDepth 20000 in
theorem gL_law_X3_at : GoodIn wsL_law (wsV RL 40 RX3 yX3_at wsX3_at) := goodIn_app (goodIn_of _ (by decide +kernel)) ggL_law_X3_at
set_option maxRecDepth 20000 in
theorem ggL_law_X4_at : GoodIn wsL_law wsX4_at := goodIn_r _ [300, 178, 179, 69, 301, 586, 587, 588, 589, 590, 591, 592, 593, 594, 595, 596, 597, 598, 599, 600, 601, 602, 603, 604, 605, 606, 607, 608] (by decide +kernel) (by decide +kernel)
set_option maxRecDepth 20000 in
theorem gL_law_X4_at : GoodIn wsL_law (wsV RL 43 RX4 yX4_at wsX4_at) := goodIn_app (goodIn_of _ (by decide +kernel)) ggL_law_X4_at
set_option maxRecDepth 20000 in
theorem ggL_law_X3_pass : GoodIn wsL_law wsX3_pass := goodIn_r _ [305, 23, 306, 87, 15, 307, 308, 309, 14, 310, 311, 36, 312, 313, 314, 315, 316, 317, 318, 319, 32, 320, 321, 322, 323, 133, 134, 135, 136, 137, 138, 139, 33, 324, 325, 326, 31, 327, 328, 329, 282, 141, 142, 143, 144, 145, 146, 147, 46, 47, 148, 149, 150, 151, 44, 330, 167, 168, 169, 331, 332, 333, 2, 334, 24, 125, 126, 127, 128, 129, 130, 131, 132, 140, 152, 153, 154, 155, 37, 38, 117, 118, 119, 120, 34, 580, 581, 582, 583, 584, 585, 609, 610, 611, 612, 613, 614, 615, 626, 627, 628, 629] (by decide +kernel) (by decide +kernel)
set_option maxRecDepth 20000 in
theorem gL_law_X3_pass : GoodIn wsL_law (wsV RL 44 RX3 yX3_pass wsX3_pass) := goodIn_app (goodIn_of _ (by decide +kernel)) ggL_law_X3_pass
set_option maxRecDepth 20000 in
theorem ggL_law_X4_pass : GoodIn wsL_law wsX4_pass := goodIn_r _ [338, 182, 339, 178, 340, 183, 184, 5, 185, 341, 342, 343, 344, 179, 345, 346, 347, 348, 69, 205, 206, 207, 208, 195, 196, 197, 198, 71, 73, 72, 349, 350, 351, 352, 175, 353, 354, 355, 356, 199, 200, 201, 202, 203, 204, 586, 587, 588, 589, 590, 591, 592, 593, 594, 595, 596, 597, 598, 599, 600, 601, 602, 603, 604, 605, 606, 607, 608] (by decide +kernel) (by decide +kernel)
set_option maxRecDepth 20000 in
theorem gL_law_X4_pass : GoodIn wsL_law (wsV RL 47 RX4 yX4_pass wsX4_pass) := goodIn_app (goodIn_of _ (by decide +kernel)) ggL_law_X4_pass
set_option maxRecDepth 20000 in
theorem ggL_law_X3_step : GoodIn wsL_law wsX3_step := goodIn_r _ [360, 15, 23, 306, 296, 307, 308, 309, 14, 310, 311, 36, 312, 313, 314, 315, 316, 317, 318, 319, 32, 320, 321, 322, 323, 133, 134, 135, 136, 137, 138, 139, 33, 324, 325, 326, 31, 327, 328, 329, 282, 141, 142, 143, 144, 145, 146, 147, 46, 47, 148, 149, 150, 151, 44, 330, 167, 168, 169, 331, 332, 333, 2, 334, 24, 125, 126, 127, 128, 129, 130, 131, 132, 140, 152, 153, 154, 155, 37, 38, 117, 118, 119, 120, 34, 580, 581, 582, 583, 584, 585, 609, 610, 611, 612, 613, 614, 615, 626, 627, 628, 629] (by decide +kernel) (by decide +kernel)
set_option maxRecDepth 20000 in
theorem gL_law_X3_step : GoodIn wsL_law (wsV RL 48 RX3 yX3_step wsX3_step) := goodIn_app (goodIn_of _ (by decide +kernel)) ggL_law_X3_step
set_option maxRecDepth 20000 in
theorem ggL_law_X4_step : GoodIn wsL_law wsX4_step := goodIn_r _ [364, 365, 301, 341, 342, 343, 5, 344, 179, 345, 346, 347, 348, 69, 182, 205, 206, 207, 208, 195, 196, 197, 198, 71, 73, 72, 349, 350, 351, 352, 175, 353, 354, 355, 356, 340, 199, 200, 201, 202, 203, 204, 586, 587, 588, 589, 590, 591, 592, 593, 594, 595, 596, 597, 598, 599, 600, 601, 602, 603, 604, 605, 606, 607, 608] (by decide +kernel) (by decide +kernel)
set_option maxRecDepth 20000 in
theorem gL_law_X4_step : GoodIn wsL_law (wsV RL 52 RX4 yX4_step wsX4_step) := goodIn_app (goodIn_of _ (by decide +kernel)) ggL_law_X4_step
set_option maxRecDepth 20000 in
theorem ggL_law_X3_time : GoodIn wsL_law wsX3_time := goodIn_r _ [369, 23, 580, 581, 582, 583, 584, 585] (by decide +kernel) (by decide +kernel)
set_option maxRecDepth 20000 in
theorem gL_law_X3_time : GoodIn wsL_law (wsV RL 53 RX3 yX3_time wsX3_time) := goodIn_app (goodIn_of _ (by decide +kernel)) ggL_law_X3_time
set_option maxRecDepth 20000 in
theorem ggL_law_X4_time : GoodIn wsL_law wsX4_time := goodIn_r _ [373, 182, 586, 587, 588, 589, 590, 591, 592, 593, 594, 595, 596, 597, 598, 599, 600, 601, 602, 603, 604, 605, 606, 607, 608] (by decide +kernel) (by decide +kernel)
set_option maxRecDepth 20000 in
theorem gL_law_X4_time : GoodIn wsL_law (wsV RL 56 RX4 yX4_time wsX4_time) := goodIn_app (goodIn_of _ (by decide +kernel)) ggL_law_X4_time
set_option maxRecDepth 20000 in
theorem ggL_law_X3_count : GoodIn wsL_law wsX3_count := goodIn_r _ [377, 15, 24, 87, 580, 581, 582, 583, 584, 585, 609, 610, 611, 612, 613, 614, 615] (by decide +kernel) (by decide +kernel)
set_option maxRecDepth 20000 in
theorem gL_law_X3_count : GoodIn wsL_law (wsV RL 57 RX3 yX3_count wsX3_count) := goodIn_app (goodIn_of _ (by decide +kernel)) ggL_law_X3_count
set_option maxRecDepth 20000 in
theorem ggL_law_X4_count : GoodIn wsL_law wsX4_count := goodIn_r _ [381, 203, 340, 204, 178, 586, 587, 588, 589, 590, 591, 592, 593, 594, 595, 596, 597, 598, 599, 600, 601, 602, 603, 604, 605, 606, 607, 608] (by decide +kernel) (by decide +kernel)
set_option maxRecDepth 20000 in
theorem gL_law_X4_count : GoodIn wsL_law (wsV RL 60 RX4 yX4_count wsX4_count) := goodIn_app (goodIn_of _ (by decide +kernel)) ggL_law_X4_count
set_option maxRecDepth 20000 in
theorem ggL_law_X3_failure : GoodIn wsL_law wsX3_failure := goodIn_r _ [385, 15, 87, 23, 386, 321, 322, 14, 323, 36, 387, 317, 318, 319, 311, 32, 320, 133, 134, 135, 136, 137, 138, 139, 33, 324, 325, 326, 31, 327, 328, 329, 282, 141, 142, 143, 144, 145, 146, 147, 46, 47, 148, 149, 150, 151, 44, 330, 167, 168, 169, 388, 389, 2, 390, 391, 296, 580, 581, 582, 583, 584, 585, 609, 610, 611, 612, 613, 614, 615, 626, 627, 628, 629] (by decide +kernel) (by decide +kernel)
set_option maxRecDepth 20000 in
theorem gL_law_X3_failure : GoodIn wsL_law (wsV RL 61 RX3 yX3_failure wsX3_failure) := goodIn_app (goodIn_of _ (by decide +kernel)) ggL_law_X3_failure
set_option maxRecDepth 20000 in
theorem ggL_law_X4_failure : GoodIn wsL_law wsX4_failure := goodIn_r _ [395, 179, 178, 301, 183, 184, 5, 185, 345, 346, 347, 348, 69, 182, 205, 206, 207, 208, 195, 196, 197, 198, 71, 73, 72, 349, 350, 351, 352, 175, 586, 587, 588, 589, 590, 591, 592, 593, 594, 595, 596, 597, 598, 599, 600, 601, 602, 603, 604, 605, 606, 607, 608] (by decide +kernel) (by decide +kernel)
set_option maxRecDepth 20000 in
theorem gL_law_X4_failure : GoodIn wsL_law (wsV RL 64 RX4 yX4_failure wsX4_failure) := goodIn_app (goodIn_of _ (by decide +kernel)) ggL_law_X4_failure
set_option maxRecDepth 20000 in
theorem ggL_law_X3_calendar : GoodIn wsL_law wsX3_calendar := goodIn_r _ [399, 87, 15, 23, 296, 400, 401, 402, 14, 403, 36, 35, 311, 316, 317, 318, 319, 32, 320, 321, 322, 323, 133, 134, 135, 136, 137, 138, 139, 33, 324, 325, 326, 31, 327, 328, 329, 282, 141, 142, 143, 144, 145, 146, 147, 46, 47, 148, 149, 150, 151, 44, 330, 167, 168, 169, 404, 405, 406, 407, 387, 580, 581, 582, 583, 584, 585, 609, 610, 611, 612, 613, 614, 615, 626, 627, 628, 629] (by decide +kernel) (by decide +kernel)
set_option maxRecDepth 20000 in
theorem gL_law_X3_calendar : GoodIn wsL_law (wsV RL 65 RX3 yX3_calendar wsX3_calendar) := goodIn_app (goodIn_of _ (by decide +kernel)) ggL_law_X3_calendar
set_option maxRecDepth 20000 in
theorem ggL_law_X4_calendar : GoodIn wsL_law wsX4_calendar := goodIn_r _ [411, 178, 179, 301, 183, 184, 5, 185, 345, 346, 347, 348, 69, 182, 205, 206, 207, 208, 195, 196, 197, 198, 71, 73, 72, 349, 350, 351, 352, 175, 586, 587, 588, 589, 590, 591, 592, 593, 594, 595, 596, 597, 598, 599, 600, 601, 602, 603, 604, 605, 606, 607, 608] (by decide +kernel) (by decide +kernel)
set_option maxRecDepth 20000 in
theorem gL_law_X4_calendar : GoodIn wsL_law (wsV RL 68 RX4 yX4_calendar wsX4_calendar) := goodIn_app (goodIn_of _ (by decide +kernel)) ggL_law_X4_calendar
set_option maxRecDepth 20000 in
theorem ggL_law_X3_calendarSize : GoodIn wsL_law wsX3_calendarSize := goodIn_r _ [415, 15, 23, 416, 417, 418, 14, 419, 36, 311, 316, 317, 318, 319, 32, 320, 321, 322, 323, 133, 134, 135, 136, 137, 138, 139, 33, 324, 325, 326, 31, 327, 328, 329, 282, 141, 142, 143, 144, 145, 146, 147, 46, 47, 148, 149, 150, 151, 44, 330, 167, 168, 169, 580, 581, 582, 583, 584, 585, 609, 610, 611, 612, 613, 614, 615, 626, 627, 628, 629] (by decide +kernel) (by decide +kernel)
set_option maxRecDepth 20000 in
theorem gL_law_X3_calendarSize : GoodIn wsL_law (wsV RL 69 RX3 yX3_calendarSize wsX3_calendarSize) := goodIn_app (goodIn_of _ (by decide +kernel)) ggL_law_X3_calendarSize
set_option maxRecDepth 20000 in
theorem ggL_law_X4_calendarSize : GoodIn wsL_law wsX4_calendarSize := goodIn_r _ [423, 424, 425, 426, 5, 427, 179, 345, 346, 347, 348, 69, 182, 205, 206, 207, 208, 195, 196, 197, 198, 71, 73, 72, 349, 350, 351, 352, 175, 586, 587, 588, 589, 590, 591, 592, 593, 594, 595, 596, 597, 598, 599, 600, 601, 602, 603, 604, 605, 606, 607, 608] (by decide +kernel) (by decide +kernel)
set_option maxRecDepth 20000 in
theorem gL_law_X4_calendarSize : GoodIn wsL_law (wsV RL 72 RX4 yX4_calendarSize wsX4_calendarSize) := goodIn_app (goodIn_of _ (by decide +kernel)) ggL_law_X4_calendarSize
set_option maxRecDepth 20000 in
theorem ggL_law_X3_topChange : GoodIn wsL_law wsX3_topChange := goodIn_r _ [431, 16, 432, 23, 265, 266, 267, 31, 268, 48, 433, 434, 435, 436, 328, 44, 437, 313, 314, 315, 438, 439, 440, 441, 282, 141, 142, 143, 144, 145, 146, 147, 46, 47, 148, 149, 150, 151, 442, 325, 326, 327, 329, 330, 167, 168, 169, 388, 389, 2, 390, 391, 296, 580, 581, 582, 583, 584, 585, 626, 627, 628, 629] (by decide +kernel) (by decide +kernel)
set_option maxRecDepth 20000 in
theorem gL_law_X3_topChange : GoodIn wsL_law (wsV RL 73 RX3 yX3_topChange wsX3_topChange) := goodIn_app (goodIn_of _ (by decide +kernel)) ggL_law_X3_topChange
set_option maxRecDepth 20000 in
theorem ggL_law_X4_topChange : GoodIn wsL_law wsX4_topChange := goodIn_r _ [446, 179, 447, 70, 69, 301, 349, 350, 351, 5, 352, 73, 182, 175, 195, 196, 197, 198, 71, 72, 586, 587, 588, 589, 590, 591, 592, 593, 594, 595, 596, 597, 598, 599, 600, 601, 602, 603, 604, 605, 606, 607, 608] (by decide +kernel) (by decide +kernel)
set_option maxRecDepth 20000 in
theorem gL_law_X4_topChange : GoodIn wsL_law (wsV RL 76 RX4 yX4_topChange wsX4_topChange) := goodIn_app (goodIn_of _ (by decide +kernel)) ggL_law_X4_topChange
set_option maxRecDepth 20000 in
theorem ggL_law_X3_meeting : GoodIn wsL_law wsX3_meeting := goodIn_r _ [451, 16, 87, 23, 213, 149, 150, 31, 151, 44, 452, 141, 142, 143, 144, 145, 146, 147, 46, 47, 148, 453, 325, 326, 327, 328, 329, 282, 330, 167, 168, 169, 388, 389, 2, 390, 391, 296, 580, 581, 582, 583, 584, 585, 626, 627, 628, 629] (by decide +kernel) (by decide +kernel)
set_option maxRecDepth 20000 in
theorem gL_law_X3_meeting : GoodIn wsL_law (wsV RL 77 RX3 yX3_meeting wsX3_meeting) := goodIn_app (goodIn_of _ (by decide +kernel)) ggL_law_X3_meeting
set_option maxRecDepth 20000 in
theorem ggL_law_X4_meeting : GoodIn wsL_law wsX4_meeting := goodIn_r _ [457, 178, 301, 235, 236, 237, 5, 238, 239, 70, 183, 184, 185, 205, 206, 207, 208, 182, 195, 196, 197, 198, 71, 73, 72, 349, 350, 351, 352, 175, 586, 587, 588, 589, 590, 591, 592, 593, 594, 595, 596, 597, 598, 599, 600, 601, 602, 603, 604, 605, 606, 607, 608] (by decide +kernel) (by decide +kernel)
set_option maxRecDepth 20000 in
theorem gL_law_X4_meeting : GoodIn wsL_law (wsV RL 80 RX4 yX4_meeting wsX4_meeting) := goodIn_app (goodIn_of _ (by decide +kernel)) ggL_law_X4_meeting
set_option maxRecDepth 20000 in
theorem ggL_law_X3_topAt : GoodIn wsL_law wsX3_topAt := goodIn_r _ [461, 20, 462, 463, 464, 2, 465, 23, 87, 432, 466, 467, 468, 19, 469, 63, 470, 471, 472, 473, 55, 54, 62, 474, 475, 476, 31, 477, 44, 46, 47, 48, 478, 479, 480, 481, 61, 56, 58, 57, 59, 60, 482, 110, 111, 112, 483, 224, 225, 226, 148, 149, 150, 151, 484, 439, 440, 441, 282, 141, 142, 143, 144, 145, 146, 147, 293, 294, 295, 296, 580, 581, 582, 583, 584, 585, 616, 617, 618, 619, 620, 621, 622, 623, 624, 625, 626, 627, 628, 629] (by decide +kernel) (by decide +kernel)
set_option maxRecDepth 20000 in
theorem gL_law_X3_topAt : GoodIn wsL_law (wsV RL 81 RX3 yX3_topAt wsX3_topAt) := goodIn_app (goodIn_of _ (by decide +kernel)) ggL_law_X3_topAt
set_option maxRecDepth 20000 in
theorem ggL_law_X4_topAt : GoodIn wsL_law wsX4_topAt := goodIn_r _ [488, 489, 301, 82, 490, 491, 492, 5, 493, 182, 178, 494, 447, 183, 184, 185, 495, 496, 497, 498, 80, 194, 75, 76, 77, 81, 78, 79, 586, 587, 588, 589, 590, 591, 592, 593, 594, 595, 596, 597, 598, 599, 600, 601, 602, 603, 604, 605, 606, 607, 608] (by decide +kernel) (by decide +kernel)
set_option maxRecDepth 20000 in
theorem gL_law_X4_topAt : GoodIn wsL_law (wsV RL 84 RX4 yX4_topAt wsX4_topAt) := goodIn_app (goodIn_of _ (by decide +kernel)) ggL_law_X4_topAt
set_option maxRecDepth 20000 in
theorem ggL_law_X3_valueAt : GoodIn wsL_law wsX3_valueAt := goodIn_r _ [502, 87, 20, 296, 462, 463, 464, 2, 465, 23, 432, 466, 467, 468, 19, 469, 63, 470, 471, 472, 473, 55, 54, 62, 474, 475, 476, 31, 477, 44, 46, 47, 48, 478, 479, 480, 481, 61, 56, 58, 57, 59, 60, 482, 110, 111, 112, 483, 224, 225, 226, 148, 149, 150, 151, 213, 214, 145, 146, 147, 580, 581, 582, 583, 584, 585, 616, 617, 618, 619, 620, 621, 622, 623, 624, 625, 626, 627, 628, 629] (by decide +kernel) (by decide +kernel)
set_option maxRecDepth 20000 in
theorem gL_law_X3_valueAt : GoodIn wsL_law (wsV RL 85 RX3 yX3_valueAt wsX3_valueAt) := goodIn_app (goodIn_of _ (by decide +kernel)) ggL_law_X3_valueAt
set_option maxRecDepth 20000 in
theorem ggL_law_X4_valueAt : GoodIn wsL_law wsX4_valueAt := goodIn_r _ [506, 239, 178, 80, 301, 81, 183, 184, 5, 185, 490, 491, 492, 493, 182, 494, 447, 495, 496, 497, 498, 194, 75, 76, 77, 489, 78, 79, 82, 586, 587, 588, 589, 590, 591, 592, 593, 594, 595, 596, 597, 598, 599, 600, 601, 602, 603, 604, 605, 606, 607, 608] (by decide +kernel) (by decide +kernel)
set_option maxRecDepth 20000 in
theorem gL_law_X4_valueAt : GoodIn wsL_law (wsV RL 88 RX4 yX4_valueAt wsX4_valueAt) := goodIn_app (goodIn_of _ (by decide +kernel)) ggL_law_X4_valueAt
set_option maxRecDepth 20000 in
theorem ggL_law_X3_orderAt : GoodIn wsL_law wsX3_orderAt := goodIn_r _ [510, 87, 20, 462, 463, 464, 2, 465, 23, 432, 466, 467, 468, 19, 469, 63, 470, 471, 472, 473, 55, 54, 62, 474, 475, 476, 31, 477, 44, 46, 47, 48, 478, 479, 480, 481, 61, 56, 58, 57, 59, 60, 482, 110, 111, 112, 483, 224, 225, 226, 148, 149, 150, 151, 511, 512, 513, 514, 515, 279, 280, 281, 282, 141, 142, 143, 144, 145, 146, 147, 293, 294, 295, 296, 580, 581, 582, 583, 584, 585, 616, 617, 618, 619, 620, 621, 622, 623, 624, 625, 626, 627, 628, 629] (by decide +kernel) (by decide +kernel)
set_option maxRecDepth 20000 in
theorem gL_law_X3_orderAt : GoodIn wsL_law (wsV RL 89 RX3 yX3_orderAt wsX3_orderAt) := goodIn_app (goodIn_of _ (by decide +kernel)) ggL_law_X3_orderAt
set_option maxRecDepth 20000 in
theorem ggL_law_X4_orderAt : GoodIn wsL_law wsX4_orderAt := goodIn_r _ [519, 178, 489, 82, 301, 490, 491, 492, 5, 493, 182, 494, 447, 183, 184, 185, 495, 496, 497, 498, 80, 194, 75, 76, 77, 81, 78, 79, 586, 587, 588, 589, 590, 591, 592, 593, 594, 595, 596, 597, 598, 599, 600, 601, 602, 603, 604, 605, 606, 607, 608] (by decide +kernel) (by decide +kernel)
set_option maxRecDepth 20000 in
theorem gL_law_X4_orderAt : GoodIn wsL_law (wsV RL 92 RX4 yX4_orderAt wsX4_orderAt) := goodIn_app (goodIn_of _ (by decide +kernel)) ggL_law_X4_orderAt
set_option maxRecDepth 20000 in
theorem ggL_law_X3_sizeAt : GoodIn wsL_law wsX3_sizeAt := goodIn_r _ [523, 20, 462, 463, 464, 2, 465, 23, 87, 432, 466, 467, 468, 19, 469, 63, 470, 471, 472, 473, 55, 54, 62, 474, 475, 476, 31, 477, 44, 46, 47, 48, 478, 479, 480, 481, 61, 56, 58, 57, 59, 60, 482, 110, 111, 112, 483, 224, 225, 226, 148, 149, 150, 151, 265, 266, 267, 268, 580, 581, 582, 583, 584, 585, 616, 617, 618, 619, 620, 621, 622, 623, 624, 625, 626, 627, 628, 629] (by decide +kernel) (by decide +kernel)
set_option maxRecDepth 20000 in
theorem gL_law_X3_sizeAt : GoodIn wsL_law (wsV RL 93 RX3 yX3_sizeAt wsX3_sizeAt) := goodIn_app (goodIn_of _ (by decide +kernel)) ggL_law_X3_sizeAt
set_option maxRecDepth 20000 in
theorem ggL_law_X4_sizeAt : GoodIn wsL_law wsX4_sizeAt := goodIn_r _ [527, 489, 490, 491, 492, 5, 493, 182, 178, 494, 447, 183, 184, 185, 495, 496, 497, 498, 80, 194, 75, 76, 77, 81, 78, 79, 82, 586, 587, 588, 589, 590, 591, 592, 593, 594, 595, 596, 597, 598, 599, 600, 601, 602, 603, 604, 605, 606, 607, 608] (by decide +kernel) (by decide +kernel)
set_option maxRecDepth 20000 in
theorem gL_law_X4_sizeAt : GoodIn wsL_law (wsV RL 96 RX4 yX4_sizeAt wsX4_sizeAt) := goodIn_app (goodIn_of _ (by decide +kernel)) ggL_law_X4_sizeAt
set_option maxRecDepth 20000 in
theorem ggL_law_X3_topChanges : GoodIn wsL_law wsX3_topChanges := goodIn_r _ [531, 20, 532, 313, 314, 315, 533, 534, 535, 2, 536, 23, 87, 462, 463, 464, 465, 432, 466, 467, 468, 19, 469, 63, 470, 471, 472, 473, 55, 54, 62, 474, 475, 476, 31, 477, 44, 46, 47, 48, 478, 479, 480, 481, 61, 56, 58, 57, 59, 60, 482, 110, 111, 112, 483, 224, 225, 226, 148, 149, 150, 151, 484, 439, 440, 441, 282, 141, 142, 143, 144, 145, 146, 147, 537, 538, 539, 540, 541, 433, 434, 435, 436, 328, 437, 438, 442, 325, 326, 327, 329, 330, 167, 168, 169, 542, 580, 581, 582, 583, 584, 585, 616, 617, 618, 619, 620, 621, 622, 623, 624, 625, 626, 627, 628, 629] (by decide +kernel) (by decide +kernel)
set_option maxRecDepth 20000 in
theorem gL_law_X3_topChanges : GoodIn wsL_law (wsV RL 97 RX3 yX3_topChanges wsX3_topChanges) := goodIn_app (goodIn_of _ (by decide +kernel)) ggL_law_X3_topChanges
set_option maxRecDepth 20000 in
theorem ggL_law_X4_topChanges : GoodIn wsL_law wsX4_topChanges := goodIn_r _ [546, 182, 178, 494, 447, 489, 82, 183, 184, 5, 185, 495, 496, 497, 498, 80, 194, 75, 76, 77, 81, 78, 79, 586, 587, 588, 589, 590, 591, 592, 593, 594, 595, 596, 597, 598, 599, 600, 601, 602, 603, 604, 605, 606, 607, 608] (by decide +kernel) (by decide +kernel)
set_option maxRecDepth 20000 in
theorem gL_law_X4_topChanges : GoodIn wsL_law (wsV RL 100 RX4 yX4_topChanges wsX4_topChanges) := goodIn_app (goodIn_of _ (by decide +kernel)) ggL_law_X4_topChanges
set_option maxRecDepth 20000 in
theorem ggL_law_X3_leastBetween : GoodIn wsL_law wsX3_leastBetween := goodIn_r _ [550, 20, 551, 532, 313, 314, 315, 552, 553, 554, 296, 533, 534, 535, 2, 536, 23, 87, 462, 463, 464, 465, 432, 466, 467, 468, 19, 469, 63, 470, 471, 472, 473, 55, 54, 62, 474, 475, 476, 31, 477, 44, 46, 47, 48, 478, 479, 480, 481, 61, 56, 58, 57, 59, 60, 482, 110, 111, 112, 483, 224, 225, 226, 148, 149, 150, 151, 542, 537, 538, 539, 540, 541, 555, 556, 557, 558, 559, 438, 439, 440, 441, 282, 141, 142, 143, 144, 145, 146, 147, 580, 581, 582, 583, 584, 585, 616, 617, 618, 619, 620, 621, 622, 623, 624, 625, 626, 627, 628, 629] (by decide +kernel) (by decide +kernel)
set_option maxRecDepth 20000 in
theorem gL_law_X3_leastBetween : GoodIn wsL_law (wsV RL 101 RX3 yX3_leastBetween wsX3_leastBetween) := goodIn_app (goodIn_of _ (by decide +kernel)) ggL_law_X3_leastBetween
set_option maxRecDepth 20000 in
theorem ggL_law_X4_leastBetween : GoodIn wsL_law wsX4_leastBetween := goodIn_r _ [563, 182, 178, 494, 447, 489, 81, 82, 301, 183, 184, 5, 185, 495, 496, 497, 498, 80, 194, 75, 76, 77, 78, 79, 586, 587, 588, 589, 590, 591, 592, 593, 594, 595, 596, 597, 598, 599, 600, 601, 602, 603, 604, 605, 606, 607, 608] (by decide +kernel) (by decide +kernel)
set_option maxRecDepth 20000 in
theorem gL_law_X4_leastBetween : GoodIn wsL_law (wsV RL 104 RX4 yX4_leastBetween wsX4_leastBetween) := goodIn_app (goodIn_of _ (by decide +kernel)) ggL_law_X4_leastBetween
set_option maxRecDepth 20000 in
theorem ggL_law_X3_forget : GoodIn wsL_law wsX3_forget := goodIn_r _ [567, 20, 16, 23, 568, 569, 570, 19, 571, 61, 572, 573, 574, 575, 54, 62, 63, 474, 475, 476, 31, 477, 44, 46, 47, 48, 580, 581, 582, 583, 584, 585, 616, 617, 618, 619, 620, 621, 622, 623, 624, 625, 626, 627, 628, 629] (by decide +kernel) (by decide +kernel)
set_option maxRecDepth 20000 in
theorem gL_law_X3_forget : GoodIn wsL_law (wsV RL 105 RX3 yX3_forget wsX3_forget) := goodIn_app (goodIn_of _ (by decide +kernel)) ggL_law_X3_forget
set_option maxRecDepth 20000 in
theorem ggL_law_X4_forget : GoodIn wsL_law wsX4_forget := goodIn_r _ [579, 180, 194, 182, 494, 70, 190, 191, 192, 5, 193, 75, 76, 77, 78, 79, 73, 195, 196, 197, 198, 71, 72, 586, 587, 588, 589, 590, 591, 592, 593, 594, 595, 596, 597, 598, 599, 600, 601, 602, 603, 604, 605, 606, 607, 608] (by decide +kernel) (by decide +kernel)
set_option maxRecDepth 20000 in
theorem gL_law_X4_forget : GoodIn wsL_law (wsV RL 108 RX4 yX4_forget wsX4_forget) := goodIn_app (goodIn_of _ (by decide +kernel)) ggL_law_X4_forget
theorem dL_law_0 : decode cL_law 0 = .ok (.new 7, 3) := by decide +kernel
theorem dL_law_3 : decode cL_law 3 = .ok (.dup, 1) := by decide +kernel
theorem dL_law_4 : decode cL_law 4 = .ok (.invokespecial 9, 3) := by decide +kernel
theorem dL_law_7 : decode cL_law 7 = .ok (.astore_n 1, 1) := by decide +kernel
theorem dL_law_8 : decode cL_law 8 = .ok (.new 10, 3) := by decide +kernel
theorem dL_law_11 : decode cL_law 11 = .ok (.dup, 1) := by decide +kernel
theorem dL_law_12 : decode cL_law 12 = .ok (.invokespecial 12, 3) := by decide +kernel
theorem dL_law_15 : decode cL_law 15 = .ok (.astore_n 2, 1) := by decide +kernel
theorem dL_law_16 : decode cL_law 16 = .ok (.iconst 0, 1) := by decide +kernel
theorem dL_law_17 : decode cL_law 17 = .ok (.istore_n 3, 1) := by decide +kernel
theorem dL_law_18 : decode cL_law 18 = .ok (.iload_n 3, 1) := by decide +kernel
theorem dL_law_19 : decode cL_law 19 = .ok (.aload_n 0, 1) := by decide +kernel
theorem dL_law_20 : decode cL_law 20 = .ok (.arraylength, 1) := by decide +kernel
theorem dL_law_21 : decode cL_law 21 = .ok (.iconst 3, 1) := by decide +kernel
theorem dL_law_22 : decode cL_law 22 = .ok (.isub, 1) := by decide +kernel
theorem dL_law_23 : decode cL_law 23 = .ok (.if_icmp .gt 711, 3) := by decide +kernel
theorem dL_law_26 : decode cL_law 26 = .ok (.aload_n 0, 1) := by decide +kernel
theorem dL_law_27 : decode cL_law 27 = .ok (.iload_n 3, 1) := by decide +kernel
theorem dL_law_28 : decode cL_law 28 = .ok (.iaload, 1) := by decide +kernel
theorem dL_law_29 : decode cL_law 29 = .ok (.bipush 31, 2) := by decide +kernel
theorem dL_law_31 : decode cL_law 31 = .ok (.iand, 1) := by decide +kernel
theorem dL_law_32 : decode cL_law 32 = .ok (.tableswitch 696 0 22 #[108, 142, 166, 200, 234, 247, 281, 305, 329, 343, 356, 380, 404, 438, 451, 465, 499, 523, 557, 591, 615, 649, 683], 108) := by decide +kernel
theorem dL_law_140 : decode cL_law 140 = .ok (.aload_n 1, 1) := by decide +kernel
theorem dL_law_141 : decode cL_law 141 = .ok (.aload_n 0, 1) := by decide +kernel
theorem dL_law_142 : decode cL_law 142 = .ok (.iload_n 3, 1) := by decide +kernel
theorem dL_law_143 : decode cL_law 143 = .ok (.iconst 1, 1) := by decide +kernel
theorem dL_law_144 : decode cL_law 144 = .ok (.iadd, 1) := by decide +kernel
theorem dL_law_145 : decode cL_law 145 = .ok (.iaload, 1) := by decide +kernel
theorem dL_law_146 : decode cL_law 146 = .ok (.aload_n 0, 1) := by decide +kernel
theorem dL_law_147 : decode cL_law 147 = .ok (.iload_n 3, 1) := by decide +kernel
theorem dL_law_148 : decode cL_law 148 = .ok (.iconst 2, 1) := by decide +kernel
theorem dL_law_149 : decode cL_law 149 = .ok (.iadd, 1) := by decide +kernel
theorem dL_law_150 : decode cL_law 150 = .ok (.iaload, 1) := by decide +kernel
theorem dL_law_151 : decode cL_law 151 = .ok (.invokevirtual 13, 3) := by decide +kernel
theorem dL_law_154 : decode cL_law 154 = .ok (.aload_n 2, 1) := by decide +kernel
theorem dL_law_155 : decode cL_law 155 = .ok (.aload_n 0, 1) := by decide +kernel
theorem dL_law_156 : decode cL_law 156 = .ok (.iload_n 3, 1) := by decide +kernel
theorem dL_law_157 : decode cL_law 157 = .ok (.iconst 1, 1) := by decide +kernel
theorem dL_law_158 : decode cL_law 158 = .ok (.iadd, 1) := by decide +kernel
theorem dL_law_159 : decode cL_law 159 = .ok (.iaload, 1) := by decide +kernel
theorem dL_law_160 : decode cL_law 160 = .ok (.aload_n 0, 1) := by decide +kernel
theorem dL_law_161 : decode cL_law 161 = .ok (.iload_n 3, 1) := by decide +kernel
theorem dL_law_162 : decode cL_law 162 = .ok (.iconst 2, 1) := by decide +kernel
theorem dL_law_163 : decode cL_law 163 = .ok (.iadd, 1) := by decide +kernel
theorem dL_law_164 : decode cL_law 164 = .ok (.iaload, 1) := by decide +kernel
theorem dL_law_165 : decode cL_law 165 = .ok (.invokevirtual 17, 3) := by decide +kernel
theorem dL_law_168 : decode cL_law 168 = .ok (.lcmp, 1) := by decide +kernel
theorem dL_law_169 : decode cL_law 169 = .ok (.ifCond .eq 559, 3) := by decide +kernel
theorem dL_law_172 : decode cL_law 172 = .ok (.iconst 0, 1) := by decide +kernel
theorem dL_law_173 : decode cL_law 173 = .ok (.ireturn, 1) := by decide +kernel
theorem dL_law_174 : decode cL_law 174 = .ok (.aload_n 1, 1) := by decide +kernel
theorem dL_law_175 : decode cL_law 175 = .ok (.aload_n 0, 1) := by decide +kernel
theorem dL_law_176 : decode cL_law 176 = .ok (.iload_n 3, 1) := by decide +kernel
theorem dL_law_177 : decode cL_law 177 = .ok (.iconst 1, 1) := by decide +kernel
theorem dL_law_178 : decode cL_law 178 = .ok (.iadd, 1) := by decide +kernel
theorem dL_law_179 : decode cL_law 179 = .ok (.iaload, 1) := by decide +kernel
theorem dL_law_180 : decode cL_law 180 = .ok (.invokevirtual 18, 3) := by decide +kernel
theorem dL_law_183 : decode cL_law 183 = .ok (.aload_n 2, 1) := by decide +kernel
theorem dL_law_184 : decode cL_law 184 = .ok (.aload_n 0, 1) := by decide +kernel
theorem dL_law_185 : decode cL_law 185 = .ok (.iload_n 3, 1) := by decide +kernel
theorem dL_law_186 : decode cL_law 186 = .ok (.iconst 1, 1) := by decide +kernel
theorem dL_law_187 : decode cL_law 187 = .ok (.iadd, 1) := by decide +kernel
theorem dL_law_188 : decode cL_law 188 = .ok (.iaload, 1) := by decide +kernel
theorem dL_law_189 : decode cL_law 189 = .ok (.invokevirtual 22, 3) := by decide +kernel
theorem dL_law_192 : decode cL_law 192 = .ok (.lcmp, 1) := by decide +kernel
theorem dL_law_193 : decode cL_law 193 = .ok (.ifCond .eq 535, 3) := by decide +kernel
theorem dL_law_196 : decode cL_law 196 = .ok (.iconst 0, 1) := by decide +kernel
theorem dL_law_197 : decode cL_law 197 = .ok (.ireturn, 1) := by decide +kernel
theorem dL_law_198 : decode cL_law 198 = .ok (.aload_n 1, 1) := by decide +kernel
theorem dL_law_199 : decode cL_law 199 = .ok (.aload_n 0, 1) := by decide +kernel
theorem dL_law_200 : decode cL_law 200 = .ok (.iload_n 3, 1) := by decide +kernel
theorem dL_law_201 : decode cL_law 201 = .ok (.iconst 1, 1) := by decide +kernel
theorem dL_law_202 : decode cL_law 202 = .ok (.iadd, 1) := by decide +kernel
theorem dL_law_203 : decode cL_law 203 = .ok (.iaload, 1) := by decide +kernel
theorem dL_law_204 : decode cL_law 204 = .ok (.aload_n 0, 1) := by decide +kernel
theorem dL_law_205 : decode cL_law 205 = .ok (.iload_n 3, 1) := by decide +kernel
theorem dL_law_206 : decode cL_law 206 = .ok (.iconst 2, 1) := by decide +kernel
theorem dL_law_207 : decode cL_law 207 = .ok (.iadd, 1) := by decide +kernel
theorem dL_law_208 : decode cL_law 208 = .ok (.iaload, 1) := by decide +kernel
theorem dL_law_209 : decode cL_law 209 = .ok (.invokevirtual 23, 3) := by decide +kernel
theorem dL_law_212 : decode cL_law 212 = .ok (.aload_n 2, 1) := by decide +kernel
theorem dL_law_213 : decode cL_law 213 = .ok (.aload_n 0, 1) := by decide +kernel
theorem dL_law_214 : decode cL_law 214 = .ok (.iload_n 3, 1) := by decide +kernel
theorem dL_law_215 : decode cL_law 215 = .ok (.iconst 1, 1) := by decide +kernel
theorem dL_law_216 : decode cL_law 216 = .ok (.iadd, 1) := by decide +kernel
theorem dL_law_217 : decode cL_law 217 = .ok (.iaload, 1) := by decide +kernel
theorem dL_law_218 : decode cL_law 218 = .ok (.aload_n 0, 1) := by decide +kernel
theorem dL_law_219 : decode cL_law 219 = .ok (.iload_n 3, 1) := by decide +kernel
theorem dL_law_220 : decode cL_law 220 = .ok (.iconst 2, 1) := by decide +kernel
theorem dL_law_221 : decode cL_law 221 = .ok (.iadd, 1) := by decide +kernel
theorem dL_law_222 : decode cL_law 222 = .ok (.iaload, 1) := by decide +kernel
theorem dL_law_223 : decode cL_law 223 = .ok (.invokevirtual 26, 3) := by decide +kernel
theorem dL_law_226 : decode cL_law 226 = .ok (.lcmp, 1) := by decide +kernel
theorem dL_law_227 : decode cL_law 227 = .ok (.ifCond .eq 501, 3) := by decide +kernel
theorem dL_law_230 : decode cL_law 230 = .ok (.iconst 0, 1) := by decide +kernel
theorem dL_law_231 : decode cL_law 231 = .ok (.ireturn, 1) := by decide +kernel
theorem dL_law_232 : decode cL_law 232 = .ok (.aload_n 1, 1) := by decide +kernel
theorem dL_law_233 : decode cL_law 233 = .ok (.aload_n 0, 1) := by decide +kernel
theorem dL_law_234 : decode cL_law 234 = .ok (.iload_n 3, 1) := by decide +kernel
theorem dL_law_235 : decode cL_law 235 = .ok (.iconst 1, 1) := by decide +kernel
theorem dL_law_236 : decode cL_law 236 = .ok (.iadd, 1) := by decide +kernel
theorem dL_law_237 : decode cL_law 237 = .ok (.iaload, 1) := by decide +kernel
theorem dL_law_238 : decode cL_law 238 = .ok (.aload_n 0, 1) := by decide +kernel
theorem dL_law_239 : decode cL_law 239 = .ok (.iload_n 3, 1) := by decide +kernel
theorem dL_law_240 : decode cL_law 240 = .ok (.iconst 2, 1) := by decide +kernel
theorem dL_law_241 : decode cL_law 241 = .ok (.iadd, 1) := by decide +kernel
theorem dL_law_242 : decode cL_law 242 = .ok (.iaload, 1) := by decide +kernel
theorem dL_law_243 : decode cL_law 243 = .ok (.invokevirtual 27, 3) := by decide +kernel
theorem dL_law_246 : decode cL_law 246 = .ok (.aload_n 2, 1) := by decide +kernel
theorem dL_law_247 : decode cL_law 247 = .ok (.aload_n 0, 1) := by decide +kernel
theorem dL_law_248 : decode cL_law 248 = .ok (.iload_n 3, 1) := by decide +kernel
theorem dL_law_249 : decode cL_law 249 = .ok (.iconst 1, 1) := by decide +kernel
theorem dL_law_250 : decode cL_law 250 = .ok (.iadd, 1) := by decide +kernel
theorem dL_law_251 : decode cL_law 251 = .ok (.iaload, 1) := by decide +kernel
theorem dL_law_252 : decode cL_law 252 = .ok (.aload_n 0, 1) := by decide +kernel
theorem dL_law_253 : decode cL_law 253 = .ok (.iload_n 3, 1) := by decide +kernel
theorem dL_law_254 : decode cL_law 254 = .ok (.iconst 2, 1) := by decide +kernel
theorem dL_law_255 : decode cL_law 255 = .ok (.iadd, 1) := by decide +kernel
theorem dL_law_256 : decode cL_law 256 = .ok (.iaload, 1) := by decide +kernel
theorem dL_law_257 : decode cL_law 257 = .ok (.invokevirtual 30, 3) := by decide +kernel
theorem dL_law_260 : decode cL_law 260 = .ok (.lcmp, 1) := by decide +kernel
theorem dL_law_261 : decode cL_law 261 = .ok (.ifCond .eq 467, 3) := by decide +kernel
theorem dL_law_264 : decode cL_law 264 = .ok (.iconst 0, 1) := by decide +kernel
theorem dL_law_265 : decode cL_law 265 = .ok (.ireturn, 1) := by decide +kernel
theorem dL_law_266 : decode cL_law 266 = .ok (.aload_n 1, 1) := by decide +kernel
theorem dL_law_267 : decode cL_law 267 = .ok (.invokevirtual 31, 3) := by decide +kernel
theorem dL_law_270 : decode cL_law 270 = .ok (.aload_n 2, 1) := by decide +kernel
theorem dL_law_271 : decode cL_law 271 = .ok (.invokevirtual 35, 3) := by decide +kernel
theorem dL_law_274 : decode cL_law 274 = .ok (.if_icmp .eq 454, 3) := by decide +kernel
theorem dL_law_277 : decode cL_law 277 = .ok (.iconst 0, 1) := by decide +kernel
theorem dL_law_278 : decode cL_law 278 = .ok (.ireturn, 1) := by decide +kernel
theorem dL_law_279 : decode cL_law 279 = .ok (.aload_n 1, 1) := by decide +kernel
theorem dL_law_280 : decode cL_law 280 = .ok (.aload_n 0, 1) := by decide +kernel
theorem dL_law_281 : decode cL_law 281 = .ok (.iload_n 3, 1) := by decide +kernel
theorem dL_law_282 : decode cL_law 282 = .ok (.iconst 1, 1) := by decide +kernel
theorem dL_law_283 : decode cL_law 283 = .ok (.iadd, 1) := by decide +kernel
theorem dL_law_284 : decode cL_law 284 = .ok (.iaload, 1) := by decide +kernel
theorem dL_law_285 : decode cL_law 285 = .ok (.aload_n 0, 1) := by decide +kernel
theorem dL_law_286 : decode cL_law 286 = .ok (.iload_n 3, 1) := by decide +kernel
theorem dL_law_287 : decode cL_law 287 = .ok (.iconst 2, 1) := by decide +kernel
theorem dL_law_288 : decode cL_law 288 = .ok (.iadd, 1) := by decide +kernel
theorem dL_law_289 : decode cL_law 289 = .ok (.iaload, 1) := by decide +kernel
theorem dL_law_290 : decode cL_law 290 = .ok (.invokevirtual 36, 3) := by decide +kernel
theorem dL_law_293 : decode cL_law 293 = .ok (.aload_n 2, 1) := by decide +kernel
theorem dL_law_294 : decode cL_law 294 = .ok (.aload_n 0, 1) := by decide +kernel
theorem dL_law_295 : decode cL_law 295 = .ok (.iload_n 3, 1) := by decide +kernel
theorem dL_law_296 : decode cL_law 296 = .ok (.iconst 1, 1) := by decide +kernel
theorem dL_law_297 : decode cL_law 297 = .ok (.iadd, 1) := by decide +kernel
theorem dL_law_298 : decode cL_law 298 = .ok (.iaload, 1) := by decide +kernel
theorem dL_law_299 : decode cL_law 299 = .ok (.aload_n 0, 1) := by decide +kernel
theorem dL_law_300 : decode cL_law 300 = .ok (.iload_n 3, 1) := by decide +kernel
theorem dL_law_301 : decode cL_law 301 = .ok (.iconst 2, 1) := by decide +kernel
theorem dL_law_302 : decode cL_law 302 = .ok (.iadd, 1) := by decide +kernel
theorem dL_law_303 : decode cL_law 303 = .ok (.iaload, 1) := by decide +kernel
theorem dL_law_304 : decode cL_law 304 = .ok (.invokevirtual 39, 3) := by decide +kernel
theorem dL_law_307 : decode cL_law 307 = .ok (.lcmp, 1) := by decide +kernel
theorem dL_law_308 : decode cL_law 308 = .ok (.ifCond .eq 420, 3) := by decide +kernel
theorem dL_law_311 : decode cL_law 311 = .ok (.iconst 0, 1) := by decide +kernel
theorem dL_law_312 : decode cL_law 312 = .ok (.ireturn, 1) := by decide +kernel
theorem dL_law_313 : decode cL_law 313 = .ok (.aload_n 1, 1) := by decide +kernel
theorem dL_law_314 : decode cL_law 314 = .ok (.aload_n 0, 1) := by decide +kernel
theorem dL_law_315 : decode cL_law 315 = .ok (.iload_n 3, 1) := by decide +kernel
theorem dL_law_316 : decode cL_law 316 = .ok (.iconst 1, 1) := by decide +kernel
theorem dL_law_317 : decode cL_law 317 = .ok (.iadd, 1) := by decide +kernel
theorem dL_law_318 : decode cL_law 318 = .ok (.iaload, 1) := by decide +kernel
theorem dL_law_319 : decode cL_law 319 = .ok (.invokevirtual 40, 3) := by decide +kernel
theorem dL_law_322 : decode cL_law 322 = .ok (.aload_n 2, 1) := by decide +kernel
theorem dL_law_323 : decode cL_law 323 = .ok (.aload_n 0, 1) := by decide +kernel
theorem dL_law_324 : decode cL_law 324 = .ok (.iload_n 3, 1) := by decide +kernel
theorem dL_law_325 : decode cL_law 325 = .ok (.iconst 1, 1) := by decide +kernel
theorem dL_law_326 : decode cL_law 326 = .ok (.iadd, 1) := by decide +kernel
theorem dL_law_327 : decode cL_law 327 = .ok (.iaload, 1) := by decide +kernel
theorem dL_law_328 : decode cL_law 328 = .ok (.invokevirtual 43, 3) := by decide +kernel
theorem dL_law_331 : decode cL_law 331 = .ok (.lcmp, 1) := by decide +kernel
theorem dL_law_332 : decode cL_law 332 = .ok (.ifCond .eq 396, 3) := by decide +kernel
theorem dL_law_335 : decode cL_law 335 = .ok (.iconst 0, 1) := by decide +kernel
theorem dL_law_336 : decode cL_law 336 = .ok (.ireturn, 1) := by decide +kernel
theorem dL_law_337 : decode cL_law 337 = .ok (.aload_n 1, 1) := by decide +kernel
theorem dL_law_338 : decode cL_law 338 = .ok (.aload_n 0, 1) := by decide +kernel
theorem dL_law_339 : decode cL_law 339 = .ok (.iload_n 3, 1) := by decide +kernel
theorem dL_law_340 : decode cL_law 340 = .ok (.iconst 1, 1) := by decide +kernel
theorem dL_law_341 : decode cL_law 341 = .ok (.iadd, 1) := by decide +kernel
theorem dL_law_342 : decode cL_law 342 = .ok (.iaload, 1) := by decide +kernel
theorem dL_law_343 : decode cL_law 343 = .ok (.invokevirtual 44, 3) := by decide +kernel
theorem dL_law_346 : decode cL_law 346 = .ok (.aload_n 2, 1) := by decide +kernel
theorem dL_law_347 : decode cL_law 347 = .ok (.aload_n 0, 1) := by decide +kernel
theorem dL_law_348 : decode cL_law 348 = .ok (.iload_n 3, 1) := by decide +kernel
theorem dL_law_349 : decode cL_law 349 = .ok (.iconst 1, 1) := by decide +kernel
theorem dL_law_350 : decode cL_law 350 = .ok (.iadd, 1) := by decide +kernel
theorem dL_law_351 : decode cL_law 351 = .ok (.iaload, 1) := by decide +kernel
theorem dL_law_352 : decode cL_law 352 = .ok (.invokevirtual 47, 3) := by decide +kernel
theorem dL_law_355 : decode cL_law 355 = .ok (.lcmp, 1) := by decide +kernel
theorem dL_law_356 : decode cL_law 356 = .ok (.ifCond .eq 372, 3) := by decide +kernel
theorem dL_law_359 : decode cL_law 359 = .ok (.iconst 0, 1) := by decide +kernel
theorem dL_law_360 : decode cL_law 360 = .ok (.ireturn, 1) := by decide +kernel
theorem dL_law_361 : decode cL_law 361 = .ok (.aload_n 1, 1) := by decide +kernel
theorem dL_law_362 : decode cL_law 362 = .ok (.invokevirtual 48, 3) := by decide +kernel
theorem dL_law_365 : decode cL_law 365 = .ok (.aload_n 2, 1) := by decide +kernel
theorem dL_law_366 : decode cL_law 366 = .ok (.invokevirtual 52, 3) := by decide +kernel
theorem dL_law_369 : decode cL_law 369 = .ok (.lcmp, 1) := by decide +kernel
theorem dL_law_370 : decode cL_law 370 = .ok (.ifCond .eq 358, 3) := by decide +kernel
theorem dL_law_373 : decode cL_law 373 = .ok (.iconst 0, 1) := by decide +kernel
theorem dL_law_374 : decode cL_law 374 = .ok (.ireturn, 1) := by decide +kernel
theorem dL_law_375 : decode cL_law 375 = .ok (.aload_n 1, 1) := by decide +kernel
theorem dL_law_376 : decode cL_law 376 = .ok (.invokevirtual 53, 3) := by decide +kernel
theorem dL_law_379 : decode cL_law 379 = .ok (.aload_n 2, 1) := by decide +kernel
theorem dL_law_380 : decode cL_law 380 = .ok (.invokevirtual 56, 3) := by decide +kernel
theorem dL_law_383 : decode cL_law 383 = .ok (.if_icmp .eq 345, 3) := by decide +kernel
theorem dL_law_386 : decode cL_law 386 = .ok (.iconst 0, 1) := by decide +kernel
theorem dL_law_387 : decode cL_law 387 = .ok (.ireturn, 1) := by decide +kernel
theorem dL_law_388 : decode cL_law 388 = .ok (.aload_n 1, 1) := by decide +kernel
theorem dL_law_389 : decode cL_law 389 = .ok (.aload_n 0, 1) := by decide +kernel
theorem dL_law_390 : decode cL_law 390 = .ok (.iload_n 3, 1) := by decide +kernel
theorem dL_law_391 : decode cL_law 391 = .ok (.iconst 1, 1) := by decide +kernel
theorem dL_law_392 : decode cL_law 392 = .ok (.iadd, 1) := by decide +kernel
theorem dL_law_393 : decode cL_law 393 = .ok (.iaload, 1) := by decide +kernel
theorem dL_law_394 : decode cL_law 394 = .ok (.invokevirtual 57, 3) := by decide +kernel
theorem dL_law_397 : decode cL_law 397 = .ok (.aload_n 2, 1) := by decide +kernel
theorem dL_law_398 : decode cL_law 398 = .ok (.aload_n 0, 1) := by decide +kernel
theorem dL_law_399 : decode cL_law 399 = .ok (.iload_n 3, 1) := by decide +kernel
theorem dL_law_400 : decode cL_law 400 = .ok (.iconst 1, 1) := by decide +kernel
theorem dL_law_401 : decode cL_law 401 = .ok (.iadd, 1) := by decide +kernel
theorem dL_law_402 : decode cL_law 402 = .ok (.iaload, 1) := by decide +kernel
theorem dL_law_403 : decode cL_law 403 = .ok (.invokevirtual 60, 3) := by decide +kernel
theorem dL_law_406 : decode cL_law 406 = .ok (.lcmp, 1) := by decide +kernel
theorem dL_law_407 : decode cL_law 407 = .ok (.ifCond .eq 321, 3) := by decide +kernel
theorem dL_law_410 : decode cL_law 410 = .ok (.iconst 0, 1) := by decide +kernel
theorem dL_law_411 : decode cL_law 411 = .ok (.ireturn, 1) := by decide +kernel
theorem dL_law_412 : decode cL_law 412 = .ok (.aload_n 1, 1) := by decide +kernel
theorem dL_law_413 : decode cL_law 413 = .ok (.aload_n 0, 1) := by decide +kernel
theorem dL_law_414 : decode cL_law 414 = .ok (.iload_n 3, 1) := by decide +kernel
theorem dL_law_415 : decode cL_law 415 = .ok (.iconst 1, 1) := by decide +kernel
theorem dL_law_416 : decode cL_law 416 = .ok (.iadd, 1) := by decide +kernel
theorem dL_law_417 : decode cL_law 417 = .ok (.iaload, 1) := by decide +kernel
theorem dL_law_418 : decode cL_law 418 = .ok (.invokevirtual 61, 3) := by decide +kernel
theorem dL_law_421 : decode cL_law 421 = .ok (.aload_n 2, 1) := by decide +kernel
theorem dL_law_422 : decode cL_law 422 = .ok (.aload_n 0, 1) := by decide +kernel
theorem dL_law_423 : decode cL_law 423 = .ok (.iload_n 3, 1) := by decide +kernel
theorem dL_law_424 : decode cL_law 424 = .ok (.iconst 1, 1) := by decide +kernel
theorem dL_law_425 : decode cL_law 425 = .ok (.iadd, 1) := by decide +kernel
theorem dL_law_426 : decode cL_law 426 = .ok (.iaload, 1) := by decide +kernel
theorem dL_law_427 : decode cL_law 427 = .ok (.invokevirtual 64, 3) := by decide +kernel
theorem dL_law_430 : decode cL_law 430 = .ok (.lcmp, 1) := by decide +kernel
theorem dL_law_431 : decode cL_law 431 = .ok (.ifCond .eq 297, 3) := by decide +kernel
theorem dL_law_434 : decode cL_law 434 = .ok (.iconst 0, 1) := by decide +kernel
theorem dL_law_435 : decode cL_law 435 = .ok (.ireturn, 1) := by decide +kernel
theorem dL_law_436 : decode cL_law 436 = .ok (.aload_n 1, 1) := by decide +kernel
theorem dL_law_437 : decode cL_law 437 = .ok (.aload_n 0, 1) := by decide +kernel
theorem dL_law_438 : decode cL_law 438 = .ok (.iload_n 3, 1) := by decide +kernel
theorem dL_law_439 : decode cL_law 439 = .ok (.iconst 1, 1) := by decide +kernel
theorem dL_law_440 : decode cL_law 440 = .ok (.iadd, 1) := by decide +kernel
theorem dL_law_441 : decode cL_law 441 = .ok (.iaload, 1) := by decide +kernel
theorem dL_law_442 : decode cL_law 442 = .ok (.aload_n 0, 1) := by decide +kernel
theorem dL_law_443 : decode cL_law 443 = .ok (.iload_n 3, 1) := by decide +kernel
theorem dL_law_444 : decode cL_law 444 = .ok (.iconst 2, 1) := by decide +kernel
theorem dL_law_445 : decode cL_law 445 = .ok (.iadd, 1) := by decide +kernel
theorem dL_law_446 : decode cL_law 446 = .ok (.iaload, 1) := by decide +kernel
theorem dL_law_447 : decode cL_law 447 = .ok (.invokevirtual 65, 3) := by decide +kernel
theorem dL_law_450 : decode cL_law 450 = .ok (.aload_n 2, 1) := by decide +kernel
theorem dL_law_451 : decode cL_law 451 = .ok (.aload_n 0, 1) := by decide +kernel
theorem dL_law_452 : decode cL_law 452 = .ok (.iload_n 3, 1) := by decide +kernel
theorem dL_law_453 : decode cL_law 453 = .ok (.iconst 1, 1) := by decide +kernel
theorem dL_law_454 : decode cL_law 454 = .ok (.iadd, 1) := by decide +kernel
theorem dL_law_455 : decode cL_law 455 = .ok (.iaload, 1) := by decide +kernel
theorem dL_law_456 : decode cL_law 456 = .ok (.aload_n 0, 1) := by decide +kernel
theorem dL_law_457 : decode cL_law 457 = .ok (.iload_n 3, 1) := by decide +kernel
theorem dL_law_458 : decode cL_law 458 = .ok (.iconst 2, 1) := by decide +kernel
theorem dL_law_459 : decode cL_law 459 = .ok (.iadd, 1) := by decide +kernel
theorem dL_law_460 : decode cL_law 460 = .ok (.iaload, 1) := by decide +kernel
theorem dL_law_461 : decode cL_law 461 = .ok (.invokevirtual 68, 3) := by decide +kernel
theorem dL_law_464 : decode cL_law 464 = .ok (.lcmp, 1) := by decide +kernel
theorem dL_law_465 : decode cL_law 465 = .ok (.ifCond .eq 263, 3) := by decide +kernel
theorem dL_law_468 : decode cL_law 468 = .ok (.iconst 0, 1) := by decide +kernel
theorem dL_law_469 : decode cL_law 469 = .ok (.ireturn, 1) := by decide +kernel
theorem dL_law_470 : decode cL_law 470 = .ok (.aload_n 1, 1) := by decide +kernel
theorem dL_law_471 : decode cL_law 471 = .ok (.invokevirtual 69, 3) := by decide +kernel
theorem dL_law_474 : decode cL_law 474 = .ok (.aload_n 2, 1) := by decide +kernel
theorem dL_law_475 : decode cL_law 475 = .ok (.invokevirtual 72, 3) := by decide +kernel
theorem dL_law_478 : decode cL_law 478 = .ok (.if_icmp .eq 250, 3) := by decide +kernel
theorem dL_law_481 : decode cL_law 481 = .ok (.iconst 0, 1) := by decide +kernel
theorem dL_law_482 : decode cL_law 482 = .ok (.ireturn, 1) := by decide +kernel
theorem dL_law_483 : decode cL_law 483 = .ok (.aload_n 1, 1) := by decide +kernel
theorem dL_law_484 : decode cL_law 484 = .ok (.invokevirtual 73, 3) := by decide +kernel
theorem dL_law_487 : decode cL_law 487 = .ok (.aload_n 2, 1) := by decide +kernel
theorem dL_law_488 : decode cL_law 488 = .ok (.invokevirtual 76, 3) := by decide +kernel
theorem dL_law_491 : decode cL_law 491 = .ok (.lcmp, 1) := by decide +kernel
theorem dL_law_492 : decode cL_law 492 = .ok (.ifCond .eq 236, 3) := by decide +kernel
theorem dL_law_495 : decode cL_law 495 = .ok (.iconst 0, 1) := by decide +kernel
theorem dL_law_496 : decode cL_law 496 = .ok (.ireturn, 1) := by decide +kernel
theorem dL_law_497 : decode cL_law 497 = .ok (.aload_n 1, 1) := by decide +kernel
theorem dL_law_498 : decode cL_law 498 = .ok (.aload_n 0, 1) := by decide +kernel
theorem dL_law_499 : decode cL_law 499 = .ok (.iload_n 3, 1) := by decide +kernel
theorem dL_law_500 : decode cL_law 500 = .ok (.iconst 1, 1) := by decide +kernel
theorem dL_law_501 : decode cL_law 501 = .ok (.iadd, 1) := by decide +kernel
theorem dL_law_502 : decode cL_law 502 = .ok (.iaload, 1) := by decide +kernel
theorem dL_law_503 : decode cL_law 503 = .ok (.aload_n 0, 1) := by decide +kernel
theorem dL_law_504 : decode cL_law 504 = .ok (.iload_n 3, 1) := by decide +kernel
theorem dL_law_505 : decode cL_law 505 = .ok (.iconst 2, 1) := by decide +kernel
theorem dL_law_506 : decode cL_law 506 = .ok (.iadd, 1) := by decide +kernel
theorem dL_law_507 : decode cL_law 507 = .ok (.iaload, 1) := by decide +kernel
theorem dL_law_508 : decode cL_law 508 = .ok (.invokevirtual 77, 3) := by decide +kernel
theorem dL_law_511 : decode cL_law 511 = .ok (.aload_n 2, 1) := by decide +kernel
theorem dL_law_512 : decode cL_law 512 = .ok (.aload_n 0, 1) := by decide +kernel
theorem dL_law_513 : decode cL_law 513 = .ok (.iload_n 3, 1) := by decide +kernel
theorem dL_law_514 : decode cL_law 514 = .ok (.iconst 1, 1) := by decide +kernel
theorem dL_law_515 : decode cL_law 515 = .ok (.iadd, 1) := by decide +kernel
theorem dL_law_516 : decode cL_law 516 = .ok (.iaload, 1) := by decide +kernel
theorem dL_law_517 : decode cL_law 517 = .ok (.aload_n 0, 1) := by decide +kernel
theorem dL_law_518 : decode cL_law 518 = .ok (.iload_n 3, 1) := by decide +kernel
theorem dL_law_519 : decode cL_law 519 = .ok (.iconst 2, 1) := by decide +kernel
theorem dL_law_520 : decode cL_law 520 = .ok (.iadd, 1) := by decide +kernel
theorem dL_law_521 : decode cL_law 521 = .ok (.iaload, 1) := by decide +kernel
theorem dL_law_522 : decode cL_law 522 = .ok (.invokevirtual 80, 3) := by decide +kernel
theorem dL_law_525 : decode cL_law 525 = .ok (.lcmp, 1) := by decide +kernel
theorem dL_law_526 : decode cL_law 526 = .ok (.ifCond .eq 202, 3) := by decide +kernel
theorem dL_law_529 : decode cL_law 529 = .ok (.iconst 0, 1) := by decide +kernel
theorem dL_law_530 : decode cL_law 530 = .ok (.ireturn, 1) := by decide +kernel
theorem dL_law_531 : decode cL_law 531 = .ok (.aload_n 1, 1) := by decide +kernel
theorem dL_law_532 : decode cL_law 532 = .ok (.aload_n 0, 1) := by decide +kernel
theorem dL_law_533 : decode cL_law 533 = .ok (.iload_n 3, 1) := by decide +kernel
theorem dL_law_534 : decode cL_law 534 = .ok (.iconst 1, 1) := by decide +kernel
theorem dL_law_535 : decode cL_law 535 = .ok (.iadd, 1) := by decide +kernel
theorem dL_law_536 : decode cL_law 536 = .ok (.iaload, 1) := by decide +kernel
theorem dL_law_537 : decode cL_law 537 = .ok (.invokevirtual 81, 3) := by decide +kernel
theorem dL_law_540 : decode cL_law 540 = .ok (.aload_n 2, 1) := by decide +kernel
theorem dL_law_541 : decode cL_law 541 = .ok (.aload_n 0, 1) := by decide +kernel
theorem dL_law_542 : decode cL_law 542 = .ok (.iload_n 3, 1) := by decide +kernel
theorem dL_law_543 : decode cL_law 543 = .ok (.iconst 1, 1) := by decide +kernel
theorem dL_law_544 : decode cL_law 544 = .ok (.iadd, 1) := by decide +kernel
theorem dL_law_545 : decode cL_law 545 = .ok (.iaload, 1) := by decide +kernel
theorem dL_law_546 : decode cL_law 546 = .ok (.invokevirtual 84, 3) := by decide +kernel
theorem dL_law_549 : decode cL_law 549 = .ok (.lcmp, 1) := by decide +kernel
theorem dL_law_550 : decode cL_law 550 = .ok (.ifCond .eq 178, 3) := by decide +kernel
theorem dL_law_553 : decode cL_law 553 = .ok (.iconst 0, 1) := by decide +kernel
theorem dL_law_554 : decode cL_law 554 = .ok (.ireturn, 1) := by decide +kernel
theorem dL_law_555 : decode cL_law 555 = .ok (.aload_n 1, 1) := by decide +kernel
theorem dL_law_556 : decode cL_law 556 = .ok (.aload_n 0, 1) := by decide +kernel
theorem dL_law_557 : decode cL_law 557 = .ok (.iload_n 3, 1) := by decide +kernel
theorem dL_law_558 : decode cL_law 558 = .ok (.iconst 1, 1) := by decide +kernel
theorem dL_law_559 : decode cL_law 559 = .ok (.iadd, 1) := by decide +kernel
theorem dL_law_560 : decode cL_law 560 = .ok (.iaload, 1) := by decide +kernel
theorem dL_law_561 : decode cL_law 561 = .ok (.aload_n 0, 1) := by decide +kernel
theorem dL_law_562 : decode cL_law 562 = .ok (.iload_n 3, 1) := by decide +kernel
theorem dL_law_563 : decode cL_law 563 = .ok (.iconst 2, 1) := by decide +kernel
theorem dL_law_564 : decode cL_law 564 = .ok (.iadd, 1) := by decide +kernel
theorem dL_law_565 : decode cL_law 565 = .ok (.iaload, 1) := by decide +kernel
theorem dL_law_566 : decode cL_law 566 = .ok (.invokevirtual 85, 3) := by decide +kernel
theorem dL_law_569 : decode cL_law 569 = .ok (.aload_n 2, 1) := by decide +kernel
theorem dL_law_570 : decode cL_law 570 = .ok (.aload_n 0, 1) := by decide +kernel
theorem dL_law_571 : decode cL_law 571 = .ok (.iload_n 3, 1) := by decide +kernel
theorem dL_law_572 : decode cL_law 572 = .ok (.iconst 1, 1) := by decide +kernel
theorem dL_law_573 : decode cL_law 573 = .ok (.iadd, 1) := by decide +kernel
theorem dL_law_574 : decode cL_law 574 = .ok (.iaload, 1) := by decide +kernel
theorem dL_law_575 : decode cL_law 575 = .ok (.aload_n 0, 1) := by decide +kernel
theorem dL_law_576 : decode cL_law 576 = .ok (.iload_n 3, 1) := by decide +kernel
theorem dL_law_577 : decode cL_law 577 = .ok (.iconst 2, 1) := by decide +kernel
theorem dL_law_578 : decode cL_law 578 = .ok (.iadd, 1) := by decide +kernel
theorem dL_law_579 : decode cL_law 579 = .ok (.iaload, 1) := by decide +kernel
theorem dL_law_580 : decode cL_law 580 = .ok (.invokevirtual 88, 3) := by decide +kernel
theorem dL_law_583 : decode cL_law 583 = .ok (.lcmp, 1) := by decide +kernel
theorem dL_law_584 : decode cL_law 584 = .ok (.ifCond .eq 144, 3) := by decide +kernel
theorem dL_law_587 : decode cL_law 587 = .ok (.iconst 0, 1) := by decide +kernel
theorem dL_law_588 : decode cL_law 588 = .ok (.ireturn, 1) := by decide +kernel
theorem dL_law_589 : decode cL_law 589 = .ok (.aload_n 1, 1) := by decide +kernel
theorem dL_law_590 : decode cL_law 590 = .ok (.aload_n 0, 1) := by decide +kernel
theorem dL_law_591 : decode cL_law 591 = .ok (.iload_n 3, 1) := by decide +kernel
theorem dL_law_592 : decode cL_law 592 = .ok (.iconst 1, 1) := by decide +kernel
theorem dL_law_593 : decode cL_law 593 = .ok (.iadd, 1) := by decide +kernel
theorem dL_law_594 : decode cL_law 594 = .ok (.iaload, 1) := by decide +kernel
theorem dL_law_595 : decode cL_law 595 = .ok (.aload_n 0, 1) := by decide +kernel
theorem dL_law_596 : decode cL_law 596 = .ok (.iload_n 3, 1) := by decide +kernel
theorem dL_law_597 : decode cL_law 597 = .ok (.iconst 2, 1) := by decide +kernel
theorem dL_law_598 : decode cL_law 598 = .ok (.iadd, 1) := by decide +kernel
theorem dL_law_599 : decode cL_law 599 = .ok (.iaload, 1) := by decide +kernel
theorem dL_law_600 : decode cL_law 600 = .ok (.invokevirtual 89, 3) := by decide +kernel
theorem dL_law_603 : decode cL_law 603 = .ok (.aload_n 2, 1) := by decide +kernel
theorem dL_law_604 : decode cL_law 604 = .ok (.aload_n 0, 1) := by decide +kernel
theorem dL_law_605 : decode cL_law 605 = .ok (.iload_n 3, 1) := by decide +kernel
theorem dL_law_606 : decode cL_law 606 = .ok (.iconst 1, 1) := by decide +kernel
theorem dL_law_607 : decode cL_law 607 = .ok (.iadd, 1) := by decide +kernel
theorem dL_law_608 : decode cL_law 608 = .ok (.iaload, 1) := by decide +kernel
theorem dL_law_609 : decode cL_law 609 = .ok (.aload_n 0, 1) := by decide +kernel
theorem dL_law_610 : decode cL_law 610 = .ok (.iload_n 3, 1) := by decide +kernel
theorem dL_law_611 : decode cL_law 611 = .ok (.iconst 2, 1) := by decide +kernel
theorem dL_law_612 : decode cL_law 612 = .ok (.iadd, 1) := by decide +kernel
theorem dL_law_613 : decode cL_law 613 = .ok (.iaload, 1) := by decide +kernel
theorem dL_law_614 : decode cL_law 614 = .ok (.invokevirtual 92, 3) := by decide +kernel
theorem dL_law_617 : decode cL_law 617 = .ok (.lcmp, 1) := by decide +kernel
theorem dL_law_618 : decode cL_law 618 = .ok (.ifCond .eq 110, 3) := by decide +kernel
theorem dL_law_621 : decode cL_law 621 = .ok (.iconst 0, 1) := by decide +kernel
theorem dL_law_622 : decode cL_law 622 = .ok (.ireturn, 1) := by decide +kernel
theorem dL_law_623 : decode cL_law 623 = .ok (.aload_n 1, 1) := by decide +kernel
theorem dL_law_624 : decode cL_law 624 = .ok (.aload_n 0, 1) := by decide +kernel
theorem dL_law_625 : decode cL_law 625 = .ok (.iload_n 3, 1) := by decide +kernel
theorem dL_law_626 : decode cL_law 626 = .ok (.iconst 1, 1) := by decide +kernel
theorem dL_law_627 : decode cL_law 627 = .ok (.iadd, 1) := by decide +kernel
theorem dL_law_628 : decode cL_law 628 = .ok (.iaload, 1) := by decide +kernel
theorem dL_law_629 : decode cL_law 629 = .ok (.invokevirtual 93, 3) := by decide +kernel
theorem dL_law_632 : decode cL_law 632 = .ok (.aload_n 2, 1) := by decide +kernel
theorem dL_law_633 : decode cL_law 633 = .ok (.aload_n 0, 1) := by decide +kernel
theorem dL_law_634 : decode cL_law 634 = .ok (.iload_n 3, 1) := by decide +kernel
theorem dL_law_635 : decode cL_law 635 = .ok (.iconst 1, 1) := by decide +kernel
theorem dL_law_636 : decode cL_law 636 = .ok (.iadd, 1) := by decide +kernel
theorem dL_law_637 : decode cL_law 637 = .ok (.iaload, 1) := by decide +kernel
theorem dL_law_638 : decode cL_law 638 = .ok (.invokevirtual 96, 3) := by decide +kernel
theorem dL_law_641 : decode cL_law 641 = .ok (.lcmp, 1) := by decide +kernel
theorem dL_law_642 : decode cL_law 642 = .ok (.ifCond .eq 86, 3) := by decide +kernel
theorem dL_law_645 : decode cL_law 645 = .ok (.iconst 0, 1) := by decide +kernel
theorem dL_law_646 : decode cL_law 646 = .ok (.ireturn, 1) := by decide +kernel
theorem dL_law_647 : decode cL_law 647 = .ok (.aload_n 1, 1) := by decide +kernel
theorem dL_law_648 : decode cL_law 648 = .ok (.aload_n 0, 1) := by decide +kernel
theorem dL_law_649 : decode cL_law 649 = .ok (.iload_n 3, 1) := by decide +kernel
theorem dL_law_650 : decode cL_law 650 = .ok (.iconst 1, 1) := by decide +kernel
theorem dL_law_651 : decode cL_law 651 = .ok (.iadd, 1) := by decide +kernel
theorem dL_law_652 : decode cL_law 652 = .ok (.iaload, 1) := by decide +kernel
theorem dL_law_653 : decode cL_law 653 = .ok (.aload_n 0, 1) := by decide +kernel
theorem dL_law_654 : decode cL_law 654 = .ok (.iload_n 3, 1) := by decide +kernel
theorem dL_law_655 : decode cL_law 655 = .ok (.iconst 2, 1) := by decide +kernel
theorem dL_law_656 : decode cL_law 656 = .ok (.iadd, 1) := by decide +kernel
theorem dL_law_657 : decode cL_law 657 = .ok (.iaload, 1) := by decide +kernel
theorem dL_law_658 : decode cL_law 658 = .ok (.invokevirtual 97, 3) := by decide +kernel
theorem dL_law_661 : decode cL_law 661 = .ok (.aload_n 2, 1) := by decide +kernel
theorem dL_law_662 : decode cL_law 662 = .ok (.aload_n 0, 1) := by decide +kernel
theorem dL_law_663 : decode cL_law 663 = .ok (.iload_n 3, 1) := by decide +kernel
theorem dL_law_664 : decode cL_law 664 = .ok (.iconst 1, 1) := by decide +kernel
theorem dL_law_665 : decode cL_law 665 = .ok (.iadd, 1) := by decide +kernel
theorem dL_law_666 : decode cL_law 666 = .ok (.iaload, 1) := by decide +kernel
theorem dL_law_667 : decode cL_law 667 = .ok (.aload_n 0, 1) := by decide +kernel
theorem dL_law_668 : decode cL_law 668 = .ok (.iload_n 3, 1) := by decide +kernel
theorem dL_law_669 : decode cL_law 669 = .ok (.iconst 2, 1) := by decide +kernel
theorem dL_law_670 : decode cL_law 670 = .ok (.iadd, 1) := by decide +kernel
theorem dL_law_671 : decode cL_law 671 = .ok (.iaload, 1) := by decide +kernel
theorem dL_law_672 : decode cL_law 672 = .ok (.invokevirtual 100, 3) := by decide +kernel
theorem dL_law_675 : decode cL_law 675 = .ok (.lcmp, 1) := by decide +kernel
theorem dL_law_676 : decode cL_law 676 = .ok (.ifCond .eq 52, 3) := by decide +kernel
theorem dL_law_679 : decode cL_law 679 = .ok (.iconst 0, 1) := by decide +kernel
theorem dL_law_680 : decode cL_law 680 = .ok (.ireturn, 1) := by decide +kernel
theorem dL_law_681 : decode cL_law 681 = .ok (.aload_n 1, 1) := by decide +kernel
theorem dL_law_682 : decode cL_law 682 = .ok (.aload_n 0, 1) := by decide +kernel
theorem dL_law_683 : decode cL_law 683 = .ok (.iload_n 3, 1) := by decide +kernel
theorem dL_law_684 : decode cL_law 684 = .ok (.iconst 1, 1) := by decide +kernel
theorem dL_law_685 : decode cL_law 685 = .ok (.iadd, 1) := by decide +kernel
theorem dL_law_686 : decode cL_law 686 = .ok (.iaload, 1) := by decide +kernel
theorem dL_law_687 : decode cL_law 687 = .ok (.aload_n 0, 1) := by decide +kernel
theorem dL_law_688 : decode cL_law 688 = .ok (.iload_n 3, 1) := by decide +kernel
theorem dL_law_689 : decode cL_law 689 = .ok (.iconst 2, 1) := by decide +kernel
theorem dL_law_690 : decode cL_law 690 = .ok (.iadd, 1) := by decide +kernel
theorem dL_law_691 : decode cL_law 691 = .ok (.iaload, 1) := by decide +kernel
theorem dL_law_692 : decode cL_law 692 = .ok (.invokevirtual 101, 3) := by decide +kernel
theorem dL_law_695 : decode cL_law 695 = .ok (.aload_n 2, 1) := by decide +kernel
theorem dL_law_696 : decode cL_law 696 = .ok (.aload_n 0, 1) := by decide +kernel
theorem dL_law_697 : decode cL_law 697 = .ok (.iload_n 3, 1) := by decide +kernel
theorem dL_law_698 : decode cL_law 698 = .ok (.iconst 1, 1) := by decide +kernel
theorem dL_law_699 : decode cL_law 699 = .ok (.iadd, 1) := by decide +kernel
theorem dL_law_700 : decode cL_law 700 = .ok (.iaload, 1) := by decide +kernel
theorem dL_law_701 : decode cL_law 701 = .ok (.aload_n 0, 1) := by decide +kernel
theorem dL_law_702 : decode cL_law 702 = .ok (.iload_n 3, 1) := by decide +kernel
theorem dL_law_703 : decode cL_law 703 = .ok (.iconst 2, 1) := by decide +kernel
theorem dL_law_704 : decode cL_law 704 = .ok (.iadd, 1) := by decide +kernel
theorem dL_law_705 : decode cL_law 705 = .ok (.iaload, 1) := by decide +kernel
theorem dL_law_706 : decode cL_law 706 = .ok (.invokevirtual 104, 3) := by decide +kernel
theorem dL_law_709 : decode cL_law 709 = .ok (.lcmp, 1) := by decide +kernel
theorem dL_law_710 : decode cL_law 710 = .ok (.ifCond .eq 18, 3) := by decide +kernel
theorem dL_law_713 : decode cL_law 713 = .ok (.iconst 0, 1) := by decide +kernel
theorem dL_law_714 : decode cL_law 714 = .ok (.ireturn, 1) := by decide +kernel
theorem dL_law_715 : decode cL_law 715 = .ok (.aload_n 1, 1) := by decide +kernel
theorem dL_law_716 : decode cL_law 716 = .ok (.invokevirtual 105, 3) := by decide +kernel
theorem dL_law_719 : decode cL_law 719 = .ok (.aload_n 2, 1) := by decide +kernel
theorem dL_law_720 : decode cL_law 720 = .ok (.invokevirtual 108, 3) := by decide +kernel
theorem dL_law_723 : decode cL_law 723 = .ok (.if_icmp .eq 5, 3) := by decide +kernel
theorem dL_law_726 : decode cL_law 726 = .ok (.iconst 0, 1) := by decide +kernel
theorem dL_law_727 : decode cL_law 727 = .ok (.ireturn, 1) := by decide +kernel
theorem dL_law_728 : decode cL_law 728 = .ok (.iinc 3 3, 3) := by decide +kernel
theorem dL_law_731 : decode cL_law 731 = .ok (.goto (-713), 3) := by decide +kernel
theorem dL_law_734 : decode cL_law 734 = .ok (.iconst 1, 1) := by decide +kernel
theorem dL_law_735 : decode cL_law 735 = .ok (.ireturn, 1) := by decide +kernel
abbrev vwCl : List vw_C := [(RX0, TX0, 7), (RX1, TX1, 10), (RX2, TX2, 4), (RX3, TX3, 6), (RX4, TX4, 23)]
