theorem dX11_isKind_0 : decode cX11_isKind 0 = .ok (.iload_n 0, 1) := by decide +kernel
theorem dX11_isKind_1 : decode cX11_isKind 1 = .ok (.ifCond .lt 13, 3) := by decide +kernel
theorem dX11_isKind_4 : decode cX11_isKind 4 = .ok (.iload_n 0, 1) := by decide +kernel
theorem dX11_isKind_5 : decode cX11_isKind 5 = .ok (.bipush 8, 2) := by decide +kernel
theorem dX11_isKind_7 : decode cX11_isKind 7 = .ok (.if_icmp .ge 7, 3) := by decide +kernel
theorem dX11_isKind_10 : decode cX11_isKind 10 = .ok (.iconst 1, 1) := by decide +kernel
theorem dX11_isKind_11 : decode cX11_isKind 11 = .ok (.goto 4, 3) := by decide +kernel
theorem dX11_isKind_14 : decode cX11_isKind 14 = .ok (.iconst 0, 1) := by decide +kernel
theorem dX11_isKind_15 : decode cX11_isKind 15 = .ok (.ireturn, 1) := by decide +kernel
theorem dX11_isFigure_0 : decode cX11_isFigure 0 = .ok (.iload_n 0, 1) := by decide +kernel
theorem dX11_isFigure_1 : decode cX11_isFigure 1 = .ok (.ifCond .lt 13, 3) := by decide +kernel
theorem dX11_isFigure_4 : decode cX11_isFigure 4 = .ok (.iload_n 0, 1) := by decide +kernel
theorem dX11_isFigure_5 : decode cX11_isFigure 5 = .ok (.bipush 10, 2) := by decide +kernel
theorem dX11_isFigure_7 : decode cX11_isFigure 7 = .ok (.if_icmp .ge 7, 3) := by decide +kernel
theorem dX11_isFigure_10 : decode cX11_isFigure 10 = .ok (.iconst 1, 1) := by decide +kernel
theorem dX11_isFigure_11 : decode cX11_isFigure 11 = .ok (.goto 4, 3) := by decide +kernel
theorem dX11_isFigure_14 : decode cX11_isFigure 14 = .ok (.iconst 0, 1) := by decide +kernel
theorem dX11_isFigure_15 : decode cX11_isFigure 15 = .ok (.ireturn, 1) := by decide +kernel
theorem dJ6_bitCount_0f7a4_0 : decode cJ6_bitCount_0f7a4 0 = .ok (.iload_n 0, 1) := by decide +kernel
theorem dJ6_bitCount_0f7a4_1 : decode cJ6_bitCount_0f7a4 1 = .ok (.iload_n 0, 1) := by decide +kernel
theorem dJ6_bitCount_0f7a4_2 : decode cJ6_bitCount_0f7a4 2 = .ok (.iconst 1, 1) := by decide +kernel
theorem dJ6_bitCount_0f7a4_3 : decode cJ6_bitCount_0f7a4 3 = .ok (.iushr, 1) := by decide +kernel
theorem dJ6_bitCount_0f7a4_4 : decode cJ6_bitCount_0f7a4 4 = .ok (.ldc_w 265, 3) := by decide +kernel
theorem dJ6_bitCount_0f7a4_7 : decode cJ6_bitCount_0f7a4 7 = .ok (.iand, 1) := by decide +kernel
theorem dJ6_bitCount_0f7a4_8 : decode cJ6_bitCount_0f7a4 8 = .ok (.isub, 1) := by decide +kernel
theorem dJ6_bitCount_0f7a4_9 : decode cJ6_bitCount_0f7a4 9 = .ok (.istore_n 0, 1) := by decide +kernel
theorem dJ6_bitCount_0f7a4_10 : decode cJ6_bitCount_0f7a4 10 = .ok (.iload_n 0, 1) := by decide +kernel
theorem dJ6_bitCount_0f7a4_11 : decode cJ6_bitCount_0f7a4 11 = .ok (.ldc_w 266, 3) := by decide +kernel
theorem dJ6_bitCount_0f7a4_14 : decode cJ6_bitCount_0f7a4 14 = .ok (.iand, 1) := by decide +kernel
theorem dJ6_bitCount_0f7a4_15 : decode cJ6_bitCount_0f7a4 15 = .ok (.iload_n 0, 1) := by decide +kernel
theorem dJ6_bitCount_0f7a4_16 : decode cJ6_bitCount_0f7a4 16 = .ok (.iconst 2, 1) := by decide +kernel
theorem dJ6_bitCount_0f7a4_17 : decode cJ6_bitCount_0f7a4 17 = .ok (.iushr, 1) := by decide +kernel
theorem dJ6_bitCount_0f7a4_18 : decode cJ6_bitCount_0f7a4 18 = .ok (.ldc_w 266, 3) := by decide +kernel
theorem dJ6_bitCount_0f7a4_21 : decode cJ6_bitCount_0f7a4 21 = .ok (.iand, 1) := by decide +kernel
theorem dJ6_bitCount_0f7a4_22 : decode cJ6_bitCount_0f7a4 22 = .ok (.iadd, 1) := by decide +kernel
theorem dJ6_bitCount_0f7a4_23 : decode cJ6_bitCount_0f7a4 23 = .ok (.istore_n 0, 1) := by decide +kernel
theorem dJ6_bitCount_0f7a4_24 : decode cJ6_bitCount_0f7a4 24 = .ok (.iload_n 0, 1) := by decide +kernel
theorem dJ6_bitCount_0f7a4_25 : decode cJ6_bitCount_0f7a4 25 = .ok (.iload_n 0, 1) := by decide +kernel
theorem dJ6_bitCount_0f7a4_26 : decode cJ6_bitCount_0f7a4 26 = .ok (.iconst 4, 1) := by decide +kernel
theorem dJ6_bitCount_0f7a4_27 : decode cJ6_bitCount_0f7a4 27 = .ok (.iushr, 1) := by decide +kernel
theorem dJ6_bitCount_0f7a4_28 : decode cJ6_bitCount_0f7a4 28 = .ok (.iadd, 1) := by decide +kernel
theorem dJ6_bitCount_0f7a4_29 : decode cJ6_bitCount_0f7a4 29 = .ok (.ldc_w 267, 3) := by decide +kernel
theorem dJ6_bitCount_0f7a4_32 : decode cJ6_bitCount_0f7a4 32 = .ok (.iand, 1) := by decide +kernel
theorem dJ6_bitCount_0f7a4_33 : decode cJ6_bitCount_0f7a4 33 = .ok (.istore_n 0, 1) := by decide +kernel
theorem dJ6_bitCount_0f7a4_34 : decode cJ6_bitCount_0f7a4 34 = .ok (.iload_n 0, 1) := by decide +kernel
theorem dJ6_bitCount_0f7a4_35 : decode cJ6_bitCount_0f7a4 35 = .ok (.iload_n 0, 1) := by decide +kernel
theorem dJ6_bitCount_0f7a4_36 : decode cJ6_bitCount_0f7a4 36 = .ok (.bipush 8, 2) := by decide +kernel
theorem dJ6_bitCount_0f7a4_38 : decode cJ6_bitCount_0f7a4 38 = .ok (.iushr, 1) := by decide +kernel
theorem dJ6_bitCount_0f7a4_39 : decode cJ6_bitCount_0f7a4 39 = .ok (.iadd, 1) := by decide +kernel
theorem dJ6_bitCount_0f7a4_40 : decode cJ6_bitCount_0f7a4 40 = .ok (.istore_n 0, 1) := by decide +kernel
theorem dJ6_bitCount_0f7a4_41 : decode cJ6_bitCount_0f7a4 41 = .ok (.iload_n 0, 1) := by decide +kernel
theorem dJ6_bitCount_0f7a4_42 : decode cJ6_bitCount_0f7a4 42 = .ok (.iload_n 0, 1) := by decide +kernel
theorem dJ6_bitCount_0f7a4_43 : decode cJ6_bitCount_0f7a4 43 = .ok (.bipush 16, 2) := by decide +kernel
theorem dJ6_bitCount_0f7a4_45 : decode cJ6_bitCount_0f7a4 45 = .ok (.iushr, 1) := by decide +kernel
theorem dJ6_bitCount_0f7a4_46 : decode cJ6_bitCount_0f7a4 46 = .ok (.iadd, 1) := by decide +kernel
theorem dJ6_bitCount_0f7a4_47 : decode cJ6_bitCount_0f7a4 47 = .ok (.istore_n 0, 1) := by decide +kernel
theorem dJ6_bitCount_0f7a4_48 : decode cJ6_bitCount_0f7a4 48 = .ok (.iload_n 0, 1) := by decide +kernel
theorem dJ6_bitCount_0f7a4_49 : decode cJ6_bitCount_0f7a4 49 = .ok (.bipush 63, 2) := by decide +kernel
theorem dJ6_bitCount_0f7a4_51 : decode cJ6_bitCount_0f7a4 51 = .ok (.iand, 1) := by decide +kernel
theorem dJ6_bitCount_0f7a4_52 : decode cJ6_bitCount_0f7a4 52 = .ok (.ireturn, 1) := by decide +kernel
theorem dJ9_max_7cf53_0 : decode cJ9_max_7cf53 0 = .ok (.iload_n 0, 1) := by decide +kernel
theorem dJ9_max_7cf53_1 : decode cJ9_max_7cf53 1 = .ok (.iload_n 1, 1) := by decide +kernel
theorem dJ9_max_7cf53_2 : decode cJ9_max_7cf53 2 = .ok (.if_icmp .lt 7, 3) := by decide +kernel
theorem dJ9_max_7cf53_5 : decode cJ9_max_7cf53 5 = .ok (.iload_n 0, 1) := by decide +kernel
theorem dJ9_max_7cf53_6 : decode cJ9_max_7cf53 6 = .ok (.goto 4, 3) := by decide +kernel
theorem dJ9_max_7cf53_9 : decode cJ9_max_7cf53 9 = .ok (.iload_n 1, 1) := by decide +kernel
theorem dJ9_max_7cf53_10 : decode cJ9_max_7cf53 10 = .ok (.ireturn, 1) := by decide +kernel
theorem dJ9_min_7cf53_0 : decode cJ9_min_7cf53 0 = .ok (.iload_n 0, 1) := by decide +kernel
theorem dJ9_min_7cf53_1 : decode cJ9_min_7cf53 1 = .ok (.iload_n 1, 1) := by decide +kernel
theorem dJ9_min_7cf53_2 : decode cJ9_min_7cf53 2 = .ok (.if_icmp .gt 7, 3) := by decide +kernel
theorem dJ9_min_7cf53_5 : decode cJ9_min_7cf53 5 = .ok (.iload_n 0, 1) := by decide +kernel
theorem dJ9_min_7cf53_6 : decode cJ9_min_7cf53 6 = .ok (.goto 4, 3) := by decide +kernel
theorem dJ9_min_7cf53_9 : decode cJ9_min_7cf53 9 = .ok (.iload_n 1, 1) := by decide +kernel
theorem dJ9_min_7cf53_10 : decode cJ9_min_7cf53 10 = .ok (.ireturn, 1) := by decide +kernel
theorem dJ7_fill_d0a16_0 : decode cJ7_fill_d0a16 0 = .ok (.iconst 0, 1) := by decide +kernel
theorem dJ7_fill_d0a16_1 : decode cJ7_fill_d0a16 1 = .ok (.istore_n 3, 1) := by decide +kernel
theorem dJ7_fill_d0a16_2 : decode cJ7_fill_d0a16 2 = .ok (.aload_n 0, 1) := by decide +kernel
theorem dJ7_fill_d0a16_3 : decode cJ7_fill_d0a16 3 = .ok (.arraylength, 1) := by decide +kernel
theorem dJ7_fill_d0a16_4 : decode cJ7_fill_d0a16 4 = .ok (.istore 4, 2) := by decide +kernel
theorem dJ7_fill_d0a16_6 : decode cJ7_fill_d0a16 6 = .ok (.iload_n 3, 1) := by decide +kernel
theorem dJ7_fill_d0a16_7 : decode cJ7_fill_d0a16 7 = .ok (.iload 4, 2) := by decide +kernel
theorem dJ7_fill_d0a16_9 : decode cJ7_fill_d0a16 9 = .ok (.if_icmp .ge 13, 3) := by decide +kernel
theorem dJ7_fill_d0a16_12 : decode cJ7_fill_d0a16 12 = .ok (.aload_n 0, 1) := by decide +kernel
theorem dJ7_fill_d0a16_13 : decode cJ7_fill_d0a16 13 = .ok (.iload_n 3, 1) := by decide +kernel
theorem dJ7_fill_d0a16_14 : decode cJ7_fill_d0a16 14 = .ok (.lload_n 1, 1) := by decide +kernel
theorem dJ7_fill_d0a16_15 : decode cJ7_fill_d0a16 15 = .ok (.lastore, 1) := by decide +kernel
theorem dJ7_fill_d0a16_16 : decode cJ7_fill_d0a16 16 = .ok (.iinc 3 1, 3) := by decide +kernel
theorem dJ7_fill_d0a16_19 : decode cJ7_fill_d0a16 19 = .ok (.goto (-13), 3) := by decide +kernel
theorem dJ7_fill_d0a16_22 : decode cJ7_fill_d0a16 22 = .ok (.return_, 1) := by decide +kernel
theorem dJ7_fill_53178_0 : decode cJ7_fill_53178 0 = .ok (.iconst 0, 1) := by decide +kernel
theorem dJ7_fill_53178_1 : decode cJ7_fill_53178 1 = .ok (.istore_n 2, 1) := by decide +kernel
theorem dJ7_fill_53178_2 : decode cJ7_fill_53178 2 = .ok (.aload_n 0, 1) := by decide +kernel
theorem dJ7_fill_53178_3 : decode cJ7_fill_53178 3 = .ok (.arraylength, 1) := by decide +kernel
theorem dJ7_fill_53178_4 : decode cJ7_fill_53178 4 = .ok (.istore_n 3, 1) := by decide +kernel
theorem dJ7_fill_53178_5 : decode cJ7_fill_53178 5 = .ok (.iload_n 2, 1) := by decide +kernel
theorem dJ7_fill_53178_6 : decode cJ7_fill_53178 6 = .ok (.iload_n 3, 1) := by decide +kernel
theorem dJ7_fill_53178_7 : decode cJ7_fill_53178 7 = .ok (.if_icmp .ge 13, 3) := by decide +kernel
theorem dJ7_fill_53178_10 : decode cJ7_fill_53178 10 = .ok (.aload_n 0, 1) := by decide +kernel
theorem dJ7_fill_53178_11 : decode cJ7_fill_53178 11 = .ok (.iload_n 2, 1) := by decide +kernel
theorem dJ7_fill_53178_12 : decode cJ7_fill_53178 12 = .ok (.iload_n 1, 1) := by decide +kernel
theorem dJ7_fill_53178_13 : decode cJ7_fill_53178 13 = .ok (.iastore, 1) := by decide +kernel
theorem dJ7_fill_53178_14 : decode cJ7_fill_53178 14 = .ok (.iinc 2 1, 3) := by decide +kernel
theorem dJ7_fill_53178_17 : decode cJ7_fill_53178 17 = .ok (.goto (-12), 3) := by decide +kernel
theorem dJ7_fill_53178_20 : decode cJ7_fill_53178 20 = .ok (.return_, 1) := by decide +kernel
set_option maxRecDepth 20000 in
theorem ggX0_init_X10_init : GoodIn wsX0_init wsX10_init := goodIn_r _ [3, 4, 5, 6, 7, 8, 9, 10, 11, 12] (by decide +kernel) (by decide +kernel)
set_option maxRecDepth 20000 in
theorem gX0_init_X10_init_n1 : GoodIn wsX0_init (wsX10_init) := ggX0_init_X10_init
theorem dX0_init_0 : decode cX0_init 0 = .ok (.aload_n 0, 1) := by decide +kernel
theorem dX0_init_1 : decode cX0_init 1 = .ok (.invokespecial 1, 3) := by decide +kernel
theorem dX0_init_4 : decode cX0_init 4 = .ok (.return_, 1) := by decide +kernel
set_option maxRecDepth 20000 in
theorem ggX0_tellsAtMost_X10_tellsAtMost : GoodIn wsX0_tellsAtMost wsX10_tellsAtMost := goodIn_r _ [6, 7, 8, 9, 10, 11, 12] (by decide +kernel) (by decide +kernel)
set_option maxRecDepth 20000 in
theorem gX0_tellsAtMost_X10_tellsAtMost_s7 : GoodIn wsX0_tellsAtMost (va_wsSU RX0 7 yX10_tellsAtMost wsX10_tellsAtMost) := goodIn_app (goodIn_of _ (by decide +kernel)) ggX0_tellsAtMost_X10_tellsAtMost
theorem dX0_tellsAtMost_0 : decode cX0_tellsAtMost 0 = .ok (.aload_n 0, 1) := by decide +kernel
theorem dX0_tellsAtMost_1 : decode cX0_tellsAtMost 1 = .ok (.iload_n 1, 1) := by decide +kernel
theorem dX0_tellsAtMost_2 : decode cX0_tellsAtMost 2 = .ok (.iload_n 2, 1) := by decide +kernel
theorem dX0_tellsAtMost_3 : decode cX0_tellsAtMost 3 = .ok (.invokespecial 7, 3) := by decide +kernel
theorem dX0_tellsAtMost_6 : decode cX0_tellsAtMost 6 = .ok (.iload_n 1, 1) := by decide +kernel
theorem dX0_tellsAtMost_7 : decode cX0_tellsAtMost 7 = .ok (.iadd, 1) := by decide +kernel
theorem dX0_tellsAtMost_8 : decode cX0_tellsAtMost 8 = .ok (.ireturn, 1) := by decide +kernel
set_option maxRecDepth 20000 in
theorem ggX0_cards_X10_cards : GoodIn wsX0_cards wsX10_cards := goodIn_r _ [6, 7, 8, 9, 10, 11, 12, 13, 14, 15, 16, 17, 18] (by decide +kernel) (by decide +kernel)
set_option maxRecDepth 20000 in
theorem gX0_cards_X10_cards_s11 : GoodIn wsX0_cards (va_wsSU RX0 11 yX10_cards wsX10_cards) := goodIn_app (goodIn_of _ (by decide +kernel)) ggX0_cards_X10_cards
theorem dX0_cards_0 : decode cX0_cards 0 = .ok (.aload_n 0, 1) := by decide +kernel
theorem dX0_cards_1 : decode cX0_cards 1 = .ok (.iload_n 1, 1) := by decide +kernel
theorem dX0_cards_2 : decode cX0_cards 2 = .ok (.iload_n 2, 1) := by decide +kernel
theorem dX0_cards_3 : decode cX0_cards 3 = .ok (.invokespecial 11, 3) := by decide +kernel
theorem dX0_cards_6 : decode cX0_cards 6 = .ok (.bipush 11, 2) := by decide +kernel
theorem dX0_cards_8 : decode cX0_cards 8 = .ok (.iadd, 1) := by decide +kernel
theorem dX0_cards_9 : decode cX0_cards 9 = .ok (.ireturn, 1) := by decide +kernel
theorem dX0_price_0 : decode cX0_price 0 = .ok (.bipush 11, 2) := by decide +kernel
theorem dX0_price_2 : decode cX0_price 2 = .ok (.ireturn, 1) := by decide +kernel
theorem dX0_fail_0 : decode cX0_fail 0 = .ok (.iload_n 1, 1) := by decide +kernel
theorem dX0_fail_1 : decode cX0_fail 1 = .ok (.ifCond .eq 13, 3) := by decide +kernel
theorem dX0_fail_4 : decode cX0_fail 4 = .ok (.new 14, 3) := by decide +kernel
theorem dX0_fail_7 : decode cX0_fail 7 = .ok (.dup, 1) := by decide +kernel
theorem dX0_fail_8 : decode cX0_fail 8 = .ok (.ldc 16, 2) := by decide +kernel
theorem dX0_fail_10 : decode cX0_fail 10 = .ok (.invokespecial 18, 3) := by decide +kernel
theorem dX0_fail_13 : decode cX0_fail 13 = .ok (.athrow, 1) := by decide +kernel
theorem dX0_fail_14 : decode cX0_fail 14 = .ok (.return_, 1) := by decide +kernel
set_option maxRecDepth 20000 in
theorem ggX1_init_X3_init : GoodIn wsX1_init wsX3_init := goodIn_r _ [3, 4, 5, 6, 7, 8, 9, 10, 11, 12] (by decide +kernel) (by decide +kernel)
set_option maxRecDepth 20000 in
theorem gX1_init_X3_init_n1 : GoodIn wsX1_init (wsX3_init) := ggX1_init_X3_init
theorem dX1_init_0 : decode cX1_init 0 = .ok (.aload_n 0, 1) := by decide +kernel
theorem dX1_init_1 : decode cX1_init 1 = .ok (.invokespecial 1, 3) := by decide +kernel
theorem dX1_init_4 : decode cX1_init 4 = .ok (.return_, 1) := by decide +kernel
theorem dX1_hearsNothing_0 : decode cX1_hearsNothing 0 = .ok (.iconst 1, 1) := by decide +kernel
theorem dX1_hearsNothing_1 : decode cX1_hearsNothing 1 = .ok (.ireturn, 1) := by decide +kernel
set_option maxRecDepth 20000 in
theorem ggX2_init_X6_init : GoodIn wsX2_init wsX6_init := goodIn_r _ [3, 4, 5, 6] (by decide +kernel) (by decide +kernel)
set_option maxRecDepth 20000 in
theorem gX2_init_X6_init_n1 : GoodIn wsX2_init (wsX6_init) := ggX2_init_X6_init
theorem dX2_init_0 : decode cX2_init 0 = .ok (.aload_n 0, 1) := by decide +kernel
theorem dX2_init_1 : decode cX2_init 1 = .ok (.invokespecial 1, 3) := by decide +kernel
theorem dX2_init_4 : decode cX2_init 4 = .ok (.return_, 1) := by decide +kernel
theorem dX2_tellsAtMost_0 : decode cX2_tellsAtMost 0 = .ok (.iconst 3, 1) := by decide +kernel
theorem dX2_tellsAtMost_1 : decode cX2_tellsAtMost 1 = .ok (.ireturn, 1) := by decide +kernel
set_option maxRecDepth 20000 in
theorem ggX2_cards_X6_cards : GoodIn wsX2_cards wsX6_cards := goodIn_r _ [6] (by decide +kernel) (by decide +kernel)
set_option maxRecDepth 20000 in
theorem gX2_cards_X6_cards_s7 : GoodIn wsX2_cards (va_wsSU RX2 7 yX6_cards wsX6_cards) := goodIn_app (goodIn_of _ (by decide +kernel)) ggX2_cards_X6_cards
theorem dX2_cards_0 : decode cX2_cards 0 = .ok (.aload_n 0, 1) := by decide +kernel
theorem dX2_cards_1 : decode cX2_cards 1 = .ok (.iload_n 1, 1) := by decide +kernel
theorem dX2_cards_2 : decode cX2_cards 2 = .ok (.iload_n 2, 1) := by decide +kernel
theorem dX2_cards_3 : decode cX2_cards 3 = .ok (.invokespecial 7, 3) := by decide +kernel
theorem dX2_cards_6 : decode cX2_cards 6 = .ok (.iload_n 1, 1) := by decide +kernel
theorem dX2_cards_7 : decode cX2_cards 7 = .ok (.iadd, 1) := by decide +kernel
theorem dX2_cards_8 : decode cX2_cards 8 = .ok (.ireturn, 1) := by decide +kernel
set_option maxRecDepth 20000 in
theorem ggX2_price_X6_price : GoodIn wsX2_price wsX6_price := goodIn_r _ [6] (by decide +kernel) (by decide +kernel)
set_option maxRecDepth 20000 in
theorem gX2_price_X6_price_s11 : GoodIn wsX2_price (va_wsSU RX2 11 yX6_price wsX6_price) := goodIn_app (goodIn_of _ (by decide +kernel)) ggX2_price_X6_price
theorem dX2_price_0 : decode cX2_price 0 = .ok (.aload_n 0, 1) := by decide +kernel
theorem dX2_price_1 : decode cX2_price 1 = .ok (.iload_n 1, 1) := by decide +kernel
theorem dX2_price_2 : decode cX2_price 2 = .ok (.invokespecial 11, 3) := by decide +kernel
theorem dX2_price_5 : decode cX2_price 5 = .ok (.iload_n 1, 1) := by decide +kernel
theorem dX2_price_6 : decode cX2_price 6 = .ok (.iadd, 1) := by decide +kernel
theorem dX2_price_7 : decode cX2_price 7 = .ok (.ireturn, 1) := by decide +kernel
theorem dX2_fail_0 : decode cX2_fail 0 = .ok (.iload_n 1, 1) := by decide +kernel
theorem dX2_fail_1 : decode cX2_fail 1 = .ok (.ifCond .eq 13, 3) := by decide +kernel
theorem dX2_fail_4 : decode cX2_fail 4 = .ok (.new 15, 3) := by decide +kernel
theorem dX2_fail_7 : decode cX2_fail 7 = .ok (.dup, 1) := by decide +kernel
theorem dX2_fail_8 : decode cX2_fail 8 = .ok (.ldc 17, 2) := by decide +kernel
theorem dX2_fail_10 : decode cX2_fail 10 = .ok (.invokespecial 19, 3) := by decide +kernel
theorem dX2_fail_13 : decode cX2_fail 13 = .ok (.athrow, 1) := by decide +kernel
theorem dX2_fail_14 : decode cX2_fail 14 = .ok (.return_, 1) := by decide +kernel
set_option maxRecDepth 20000 in
theorem ggX3_init_X8_init : GoodIn wsX3_init wsX8_init := goodIn_r _ [3, 4, 5, 6, 7, 8, 9] (by decide +kernel) (by decide +kernel)
set_option maxRecDepth 20000 in
theorem gX3_init_X8_init_n1 : GoodIn wsX3_init (wsX8_init) := ggX3_init_X8_init
theorem dX3_init_0 : decode cX3_init 0 = .ok (.aload_n 0, 1) := by decide +kernel
theorem dX3_init_1 : decode cX3_init 1 = .ok (.invokespecial 1, 3) := by decide +kernel
theorem dX3_init_4 : decode cX3_init 4 = .ok (.return_, 1) := by decide +kernel
theorem dX3_tellsAtMost_0 : decode cX3_tellsAtMost 0 = .ok (.iconst 0, 1) := by decide +kernel
theorem dX3_tellsAtMost_1 : decode cX3_tellsAtMost 1 = .ok (.ireturn, 1) := by decide +kernel
theorem dX3_cards_0 : decode cX3_cards 0 = .ok (.iconst 0, 1) := by decide +kernel
theorem dX3_cards_1 : decode cX3_cards 1 = .ok (.ireturn, 1) := by decide +kernel
set_option maxRecDepth 20000 in
theorem ggX3_price_X8_price : GoodIn wsX3_price wsX8_price := goodIn_r _ [6] (by decide +kernel) (by decide +kernel)
set_option maxRecDepth 20000 in
theorem gX3_price_X8_price_s7 : GoodIn wsX3_price (va_wsSU RX3 7 yX8_price wsX8_price) := goodIn_app (goodIn_of _ (by decide +kernel)) ggX3_price_X8_price
theorem dX3_price_0 : decode cX3_price 0 = .ok (.aload_n 0, 1) := by decide +kernel
theorem dX3_price_1 : decode cX3_price 1 = .ok (.iload_n 1, 1) := by decide +kernel
theorem dX3_price_2 : decode cX3_price 2 = .ok (.invokespecial 7, 3) := by decide +kernel
theorem dX3_price_5 : decode cX3_price 5 = .ok (.iconst 3, 1) := by decide +kernel
theorem dX3_price_6 : decode cX3_price 6 = .ok (.iadd, 1) := by decide +kernel
theorem dX3_price_7 : decode cX3_price 7 = .ok (.ireturn, 1) := by decide +kernel
theorem dX4_init_0 : decode cX4_init 0 = .ok (.aload_n 0, 1) := by decide +kernel
theorem dX4_init_1 : decode cX4_init 1 = .ok (.invokespecial 3, 3) := by decide +kernel
theorem dX4_init_4 : decode cX4_init 4 = .ok (.aload_n 0, 1) := by decide +kernel
theorem dX4_init_5 : decode cX4_init 5 = .ok (.bipush 9, 2) := by decide +kernel
theorem dX4_init_7 : decode cX4_init 7 = .ok (.newarray .int, 2) := by decide +kernel
theorem dX4_init_9 : decode cX4_init 9 = .ok (.putfield 9, 3) := by decide +kernel
theorem dX4_init_12 : decode cX4_init 12 = .ok (.aload_n 0, 1) := by decide +kernel
theorem dX4_init_13 : decode cX4_init 13 = .ok (.sipush 512, 3) := by decide +kernel
theorem dX4_init_16 : decode cX4_init 16 = .ok (.newarray .int, 2) := by decide +kernel
theorem dX4_init_18 : decode cX4_init 18 = .ok (.putfield 15, 3) := by decide +kernel
theorem dX4_init_21 : decode cX4_init 21 = .ok (.return_, 1) := by decide +kernel
theorem dX4_copyFrom_0 : decode cX4_copyFrom 0 = .ok (.aload_n 0, 1) := by decide +kernel
theorem dX4_copyFrom_1 : decode cX4_copyFrom 1 = .ok (.aload_n 1, 1) := by decide +kernel
theorem dX4_copyFrom_2 : decode cX4_copyFrom 2 = .ok (.getfield 18, 3) := by decide +kernel
theorem dX4_copyFrom_5 : decode cX4_copyFrom 5 = .ok (.putfield 18, 3) := by decide +kernel
theorem dX4_copyFrom_8 : decode cX4_copyFrom 8 = .ok (.aload_n 1, 1) := by decide +kernel
theorem dX4_copyFrom_9 : decode cX4_copyFrom 9 = .ok (.getfield 9, 3) := by decide +kernel
theorem dX4_copyFrom_12 : decode cX4_copyFrom 12 = .ok (.iconst 0, 1) := by decide +kernel
theorem dX4_copyFrom_13 : decode cX4_copyFrom 13 = .ok (.aload_n 0, 1) := by decide +kernel
theorem dX4_copyFrom_14 : decode cX4_copyFrom 14 = .ok (.getfield 9, 3) := by decide +kernel
theorem dX4_copyFrom_17 : decode cX4_copyFrom 17 = .ok (.iconst 0, 1) := by decide +kernel
theorem dX4_copyFrom_18 : decode cX4_copyFrom 18 = .ok (.bipush 9, 2) := by decide +kernel
theorem dX4_copyFrom_20 : decode cX4_copyFrom 20 = .ok (.invokestatic 22, 3) := by decide +kernel
theorem dX4_copyFrom_23 : decode cX4_copyFrom 23 = .ok (.return_, 1) := by decide +kernel
theorem dX4_around_0 : decode cX4_around 0 = .ok (.iload_n 1, 1) := by decide +kernel
theorem dX4_around_1 : decode cX4_around 1 = .ok (.ifCond .lt 21, 3) := by decide +kernel
theorem dX4_around_4 : decode cX4_around 4 = .ok (.iload_n 1, 1) := by decide +kernel
theorem dX4_around_5 : decode cX4_around 5 = .ok (.aload_n 0, 1) := by decide +kernel
theorem dX4_around_6 : decode cX4_around 6 = .ok (.getfield 9, 3) := by decide +kernel
theorem dX4_around_9 : decode cX4_around 9 = .ok (.arraylength, 1) := by decide +kernel
theorem dX4_around_10 : decode cX4_around 10 = .ok (.if_icmp .ge 12, 3) := by decide +kernel
theorem dX4_around_13 : decode cX4_around 13 = .ok (.aload_n 0, 1) := by decide +kernel
theorem dX4_around_14 : decode cX4_around 14 = .ok (.getfield 9, 3) := by decide +kernel
theorem dX4_around_17 : decode cX4_around 17 = .ok (.iload_n 1, 1) := by decide +kernel
theorem dX4_around_18 : decode cX4_around 18 = .ok (.iaload, 1) := by decide +kernel
theorem dX4_around_19 : decode cX4_around 19 = .ok (.goto 4, 3) := by decide +kernel
theorem dX4_around_22 : decode cX4_around 22 = .ok (.iconst 0, 1) := by decide +kernel
theorem dX4_around_23 : decode cX4_around 23 = .ok (.ireturn, 1) := by decide +kernel
set_option maxRecDepth 20000 in
theorem ggX4_number_X4_around : GoodIn wsX4_number wsX4_around := goodIn_r _ [5, 6, 14, 15, 16] (by decide +kernel) (by decide +kernel)
set_option maxRecDepth 20000 in
theorem gX4_number_X4_around : GoodIn wsX4_number (wsV RX4 28 RX4 yX4_around wsX4_around) := goodIn_app (goodIn_of _ (by decide +kernel)) ggX4_number_X4_around
set_option maxRecDepth 20000 in
theorem ggX4_number_J6_bitCount_0f7a4 : GoodIn wsX4_number wsJ6_bitCount_0f7a4 := goodIn_r _ [10, 11, 12, 13] (by decide +kernel) (by decide +kernel)
set_option maxRecDepth 20000 in
theorem gX4_number_J6_bitCount_0f7a4 : GoodIn wsX4_number (va_wsS RX4 32 yJ6_bitCount_0f7a4 wsJ6_bitCount_0f7a4) := goodIn_app (goodIn_of _ (by decide +kernel)) ggX4_number_J6_bitCount_0f7a4
theorem dX4_number_0 : decode cX4_number 0 = .ok (.aload_n 0, 1) := by decide +kernel
theorem dX4_number_1 : decode cX4_number 1 = .ok (.iload_n 1, 1) := by decide +kernel
theorem dX4_number_2 : decode cX4_number 2 = .ok (.invokevirtual 28, 3) := by decide +kernel
theorem dX4_number_5 : decode cX4_number 5 = .ok (.invokestatic 32, 3) := by decide +kernel
theorem dX4_number_8 : decode cX4_number 8 = .ok (.ireturn, 1) := by decide +kernel
set_option maxRecDepth 20000 in
theorem ggX4_between_X4_around : GoodIn wsX4_between wsX4_around := goodIn_r _ [5, 6, 7, 8, 9] (by decide +kernel) (by decide +kernel)
set_option maxRecDepth 20000 in
theorem gX4_between_X4_around : GoodIn wsX4_between (wsV RX4 28 RX4 yX4_around wsX4_around) := goodIn_app (goodIn_of _ (by decide +kernel)) ggX4_between_X4_around
theorem dX4_between_0 : decode cX4_between 0 = .ok (.aload_n 0, 1) := by decide +kernel
theorem dX4_between_1 : decode cX4_between 1 = .ok (.iload_n 1, 1) := by decide +kernel
theorem dX4_between_2 : decode cX4_between 2 = .ok (.invokevirtual 28, 3) := by decide +kernel
theorem dX4_between_5 : decode cX4_between 5 = .ok (.iload_n 2, 1) := by decide +kernel
theorem dX4_between_6 : decode cX4_between 6 = .ok (.ishr, 1) := by decide +kernel
theorem dX4_between_7 : decode cX4_between 7 = .ok (.iconst 1, 1) := by decide +kernel
theorem dX4_between_8 : decode cX4_between 8 = .ok (.iand, 1) := by decide +kernel
theorem dX4_between_9 : decode cX4_between 9 = .ok (.ifCond .eq 7, 3) := by decide +kernel
theorem dX4_between_12 : decode cX4_between 12 = .ok (.iconst 1, 1) := by decide +kernel
theorem dX4_between_13 : decode cX4_between 13 = .ok (.goto 4, 3) := by decide +kernel
theorem dX4_between_16 : decode cX4_between 16 = .ok (.iconst 0, 1) := by decide +kernel
theorem dX4_between_17 : decode cX4_between 17 = .ok (.ireturn, 1) := by decide +kernel
theorem dX4_turn_0 : decode cX4_turn 0 = .ok (.iload_n 1, 1) := by decide +kernel
theorem dX4_turn_1 : decode cX4_turn 1 = .ok (.ifCond .lt 49, 3) := by decide +kernel
theorem dX4_turn_4 : decode cX4_turn 4 = .ok (.iload_n 1, 1) := by decide +kernel
theorem dX4_turn_5 : decode cX4_turn 5 = .ok (.aload_n 0, 1) := by decide +kernel
theorem dX4_turn_6 : decode cX4_turn 6 = .ok (.getfield 9, 3) := by decide +kernel
theorem dX4_turn_9 : decode cX4_turn 9 = .ok (.arraylength, 1) := by decide +kernel
theorem dX4_turn_10 : decode cX4_turn 10 = .ok (.if_icmp .ge 40, 3) := by decide +kernel
theorem dX4_turn_13 : decode cX4_turn 13 = .ok (.iload_n 2, 1) := by decide +kernel
theorem dX4_turn_14 : decode cX4_turn 14 = .ok (.ifCond .lt 36, 3) := by decide +kernel
theorem dX4_turn_17 : decode cX4_turn 17 = .ok (.iload_n 2, 1) := by decide +kernel
theorem dX4_turn_18 : decode cX4_turn 18 = .ok (.aload_n 0, 1) := by decide +kernel
theorem dX4_turn_19 : decode cX4_turn 19 = .ok (.getfield 9, 3) := by decide +kernel
theorem dX4_turn_22 : decode cX4_turn 22 = .ok (.arraylength, 1) := by decide +kernel
theorem dX4_turn_23 : decode cX4_turn 23 = .ok (.if_icmp .ge 27, 3) := by decide +kernel
theorem dX4_turn_26 : decode cX4_turn 26 = .ok (.aload_n 0, 1) := by decide +kernel
theorem dX4_turn_27 : decode cX4_turn 27 = .ok (.getfield 9, 3) := by decide +kernel
theorem dX4_turn_30 : decode cX4_turn 30 = .ok (.iload_n 1, 1) := by decide +kernel
theorem dX4_turn_31 : decode cX4_turn 31 = .ok (.dup2, 1) := by decide +kernel
theorem dX4_turn_32 : decode cX4_turn 32 = .ok (.iaload, 1) := by decide +kernel
theorem dX4_turn_33 : decode cX4_turn 33 = .ok (.iconst 1, 1) := by decide +kernel
theorem dX4_turn_34 : decode cX4_turn 34 = .ok (.iload_n 2, 1) := by decide +kernel
theorem dX4_turn_35 : decode cX4_turn 35 = .ok (.ishl, 1) := by decide +kernel
theorem dX4_turn_36 : decode cX4_turn 36 = .ok (.ixor, 1) := by decide +kernel
theorem dX4_turn_37 : decode cX4_turn 37 = .ok (.iastore, 1) := by decide +kernel
theorem dX4_turn_38 : decode cX4_turn 38 = .ok (.aload_n 0, 1) := by decide +kernel
theorem dX4_turn_39 : decode cX4_turn 39 = .ok (.getfield 9, 3) := by decide +kernel
theorem dX4_turn_42 : decode cX4_turn 42 = .ok (.iload_n 2, 1) := by decide +kernel
theorem dX4_turn_43 : decode cX4_turn 43 = .ok (.dup2, 1) := by decide +kernel
theorem dX4_turn_44 : decode cX4_turn 44 = .ok (.iaload, 1) := by decide +kernel
theorem dX4_turn_45 : decode cX4_turn 45 = .ok (.iconst 1, 1) := by decide +kernel
theorem dX4_turn_46 : decode cX4_turn 46 = .ok (.iload_n 1, 1) := by decide +kernel
theorem dX4_turn_47 : decode cX4_turn 47 = .ok (.ishl, 1) := by decide +kernel
theorem dX4_turn_48 : decode cX4_turn 48 = .ok (.ixor, 1) := by decide +kernel
theorem dX4_turn_49 : decode cX4_turn 49 = .ok (.iastore, 1) := by decide +kernel
theorem dX4_turn_50 : decode cX4_turn 50 = .ok (.return_, 1) := by decide +kernel
set_option maxRecDepth 20000 in
theorem ggX4_numbers_X4_number : GoodIn wsX4_numbers wsX4_number := goodIn_r _ [6, 7, 8, 9, 5, 10, 11, 12, 13, 14, 15, 16, 17, 18, 19, 20, 21] (by decide +kernel) (by decide +kernel)
set_option maxRecDepth 20000 in
theorem gX4_numbers_X4_number : GoodIn wsX4_numbers (wsV RX4 37 RX4 yX4_number wsX4_number) := goodIn_app (goodIn_of _ (by decide +kernel)) ggX4_numbers_X4_number
theorem dX4_numbers_0 : decode cX4_numbers 0 = .ok (.iconst 0, 1) := by decide +kernel
theorem dX4_numbers_1 : decode cX4_numbers 1 = .ok (.istore_n 1, 1) := by decide +kernel
theorem dX4_numbers_2 : decode cX4_numbers 2 = .ok (.iconst 0, 1) := by decide +kernel
theorem dX4_numbers_3 : decode cX4_numbers 3 = .ok (.istore_n 2, 1) := by decide +kernel
theorem dX4_numbers_4 : decode cX4_numbers 4 = .ok (.iload_n 2, 1) := by decide +kernel
theorem dX4_numbers_5 : decode cX4_numbers 5 = .ok (.aload_n 0, 1) := by decide +kernel
theorem dX4_numbers_6 : decode cX4_numbers 6 = .ok (.getfield 18, 3) := by decide +kernel
theorem dX4_numbers_9 : decode cX4_numbers 9 = .ok (.if_icmp .ge 17, 3) := by decide +kernel
theorem dX4_numbers_12 : decode cX4_numbers 12 = .ok (.iload_n 1, 1) := by decide +kernel
theorem dX4_numbers_13 : decode cX4_numbers 13 = .ok (.aload_n 0, 1) := by decide +kernel
theorem dX4_numbers_14 : decode cX4_numbers 14 = .ok (.iload_n 2, 1) := by decide +kernel
theorem dX4_numbers_15 : decode cX4_numbers 15 = .ok (.invokevirtual 37, 3) := by decide +kernel
theorem dX4_numbers_18 : decode cX4_numbers 18 = .ok (.iadd, 1) := by decide +kernel
theorem dX4_numbers_19 : decode cX4_numbers 19 = .ok (.istore_n 1, 1) := by decide +kernel
theorem dX4_numbers_20 : decode cX4_numbers 20 = .ok (.iinc 2 1, 3) := by decide +kernel
theorem dX4_numbers_23 : decode cX4_numbers 23 = .ok (.goto (-19), 3) := by decide +kernel
theorem dX4_numbers_26 : decode cX4_numbers 26 = .ok (.iload_n 1, 1) := by decide +kernel
theorem dX4_numbers_27 : decode cX4_numbers 27 = .ok (.ireturn, 1) := by decide +kernel
set_option maxRecDepth 20000 in
theorem ggX4_total_X4_numbers : GoodIn wsX4_total wsX4_numbers := goodIn_r _ [5, 6, 7, 8, 9, 4, 10, 11, 12, 13, 14, 15, 16, 17, 18, 19, 20, 21, 22, 23, 24, 25] (by decide +kernel) (by decide +kernel)
set_option maxRecDepth 20000 in
theorem gX4_total_X4_numbers : GoodIn wsX4_total (wsV RX4 40 RX4 yX4_numbers wsX4_numbers) := goodIn_app (goodIn_of _ (by decide +kernel)) ggX4_total_X4_numbers
theorem dX4_total_0 : decode cX4_total 0 = .ok (.aload_n 0, 1) := by decide +kernel
theorem dX4_total_1 : decode cX4_total 1 = .ok (.invokevirtual 40, 3) := by decide +kernel
theorem dX4_total_4 : decode cX4_total 4 = .ok (.iconst 2, 1) := by decide +kernel
theorem dX4_total_5 : decode cX4_total 5 = .ok (.idiv, 1) := by decide +kernel
theorem dX4_total_6 : decode cX4_total 6 = .ok (.ireturn, 1) := by decide +kernel
set_option maxRecDepth 20000 in
theorem ggX4_numbersOfEnds_X4_number : GoodIn wsX4_numbersOfEnds wsX4_number := goodIn_r _ [6, 7, 8, 9, 5, 10, 11, 12, 13, 14, 15, 16, 17, 18, 19, 20, 21] (by decide +kernel) (by decide +kernel)
set_option maxRecDepth 20000 in
theorem gX4_numbersOfEnds_X4_number : GoodIn wsX4_numbersOfEnds (wsV RX4 37 RX4 yX4_number wsX4_number) := goodIn_app (goodIn_of _ (by decide +kernel)) ggX4_numbersOfEnds_X4_number
theorem dX4_numbersOfEnds_0 : decode cX4_numbersOfEnds 0 = .ok (.iconst 0, 1) := by decide +kernel
theorem dX4_numbersOfEnds_1 : decode cX4_numbersOfEnds 1 = .ok (.istore_n 1, 1) := by decide +kernel
theorem dX4_numbersOfEnds_2 : decode cX4_numbersOfEnds 2 = .ok (.iconst 0, 1) := by decide +kernel
theorem dX4_numbersOfEnds_3 : decode cX4_numbersOfEnds 3 = .ok (.istore_n 2, 1) := by decide +kernel
theorem dX4_numbersOfEnds_4 : decode cX4_numbersOfEnds 4 = .ok (.iload_n 2, 1) := by decide +kernel
theorem dX4_numbersOfEnds_5 : decode cX4_numbersOfEnds 5 = .ok (.aload_n 0, 1) := by decide +kernel
theorem dX4_numbersOfEnds_6 : decode cX4_numbersOfEnds 6 = .ok (.getfield 18, 3) := by decide +kernel
theorem dX4_numbersOfEnds_9 : decode cX4_numbersOfEnds 9 = .ok (.if_icmp .ge 23, 3) := by decide +kernel
theorem dX4_numbersOfEnds_12 : decode cX4_numbersOfEnds 12 = .ok (.iload_n 1, 1) := by decide +kernel
theorem dX4_numbersOfEnds_13 : decode cX4_numbersOfEnds 13 = .ok (.aload_n 0, 1) := by decide +kernel
theorem dX4_numbersOfEnds_14 : decode cX4_numbersOfEnds 14 = .ok (.iload_n 2, 1) := by decide +kernel
theorem dX4_numbersOfEnds_15 : decode cX4_numbersOfEnds 15 = .ok (.invokevirtual 37, 3) := by decide +kernel
theorem dX4_numbersOfEnds_18 : decode cX4_numbersOfEnds 18 = .ok (.aload_n 0, 1) := by decide +kernel
theorem dX4_numbersOfEnds_19 : decode cX4_numbersOfEnds 19 = .ok (.iload_n 2, 1) := by decide +kernel
theorem dX4_numbersOfEnds_20 : decode cX4_numbersOfEnds 20 = .ok (.invokevirtual 37, 3) := by decide +kernel
theorem dX4_numbersOfEnds_23 : decode cX4_numbersOfEnds 23 = .ok (.imul, 1) := by decide +kernel
theorem dX4_numbersOfEnds_24 : decode cX4_numbersOfEnds 24 = .ok (.iadd, 1) := by decide +kernel
theorem dX4_numbersOfEnds_25 : decode cX4_numbersOfEnds 25 = .ok (.istore_n 1, 1) := by decide +kernel
theorem dX4_numbersOfEnds_26 : decode cX4_numbersOfEnds 26 = .ok (.iinc 2 1, 3) := by decide +kernel
theorem dX4_numbersOfEnds_29 : decode cX4_numbersOfEnds 29 = .ok (.goto (-25), 3) := by decide +kernel
theorem dX4_numbersOfEnds_32 : decode cX4_numbersOfEnds 32 = .ok (.iload_n 1, 1) := by decide +kernel
theorem dX4_numbersOfEnds_33 : decode cX4_numbersOfEnds 33 = .ok (.ireturn, 1) := by decide +kernel
set_option maxRecDepth 20000 in
theorem ggX4_numbersAround_X4_between : GoodIn wsX4_numbersAround wsX4_between := goodIn_r _ [6, 7, 8, 9, 5, 10, 11, 23, 24, 25] (by decide +kernel) (by decide +kernel)
set_option maxRecDepth 20000 in
theorem gX4_numbersAround_X4_between : GoodIn wsX4_numbersAround (wsV RX4 44 RX4 yX4_between wsX4_between) := goodIn_app (goodIn_of _ (by decide +kernel)) ggX4_numbersAround_X4_between
set_option maxRecDepth 20000 in
theorem ggX4_numbersAround_X4_number : GoodIn wsX4_numbersAround wsX4_number := goodIn_r _ [15, 7, 8, 9, 5, 10, 11, 16, 17, 18, 19, 20, 21, 22, 23, 24, 25] (by decide +kernel) (by decide +kernel)
set_option maxRecDepth 20000 in
theorem gX4_numbersAround_X4_number : GoodIn wsX4_numbersAround (wsV RX4 37 RX4 yX4_number wsX4_number) := goodIn_app (goodIn_of _ (by decide +kernel)) ggX4_numbersAround_X4_number
theorem dX4_numbersAround_0 : decode cX4_numbersAround 0 = .ok (.iconst 0, 1) := by decide +kernel
theorem dX4_numbersAround_1 : decode cX4_numbersAround 1 = .ok (.istore_n 2, 1) := by decide +kernel
theorem dX4_numbersAround_2 : decode cX4_numbersAround 2 = .ok (.iconst 0, 1) := by decide +kernel
theorem dX4_numbersAround_3 : decode cX4_numbersAround 3 = .ok (.istore_n 3, 1) := by decide +kernel
theorem dX4_numbersAround_4 : decode cX4_numbersAround 4 = .ok (.iload_n 3, 1) := by decide +kernel
theorem dX4_numbersAround_5 : decode cX4_numbersAround 5 = .ok (.aload_n 0, 1) := by decide +kernel
theorem dX4_numbersAround_6 : decode cX4_numbersAround 6 = .ok (.getfield 18, 3) := by decide +kernel
theorem dX4_numbersAround_9 : decode cX4_numbersAround 9 = .ok (.if_icmp .ge 26, 3) := by decide +kernel
theorem dX4_numbersAround_12 : decode cX4_numbersAround 12 = .ok (.aload_n 0, 1) := by decide +kernel
theorem dX4_numbersAround_13 : decode cX4_numbersAround 13 = .ok (.iload_n 1, 1) := by decide +kernel
theorem dX4_numbersAround_14 : decode cX4_numbersAround 14 = .ok (.iload_n 3, 1) := by decide +kernel
theorem dX4_numbersAround_15 : decode cX4_numbersAround 15 = .ok (.invokevirtual 44, 3) := by decide +kernel
theorem dX4_numbersAround_18 : decode cX4_numbersAround 18 = .ok (.ifCond .eq 11, 3) := by decide +kernel
theorem dX4_numbersAround_21 : decode cX4_numbersAround 21 = .ok (.iload_n 2, 1) := by decide +kernel
theorem dX4_numbersAround_22 : decode cX4_numbersAround 22 = .ok (.aload_n 0, 1) := by decide +kernel
theorem dX4_numbersAround_23 : decode cX4_numbersAround 23 = .ok (.iload_n 3, 1) := by decide +kernel
theorem dX4_numbersAround_24 : decode cX4_numbersAround 24 = .ok (.invokevirtual 37, 3) := by decide +kernel
theorem dX4_numbersAround_27 : decode cX4_numbersAround 27 = .ok (.iadd, 1) := by decide +kernel
theorem dX4_numbersAround_28 : decode cX4_numbersAround 28 = .ok (.istore_n 2, 1) := by decide +kernel
theorem dX4_numbersAround_29 : decode cX4_numbersAround 29 = .ok (.iinc 3 1, 3) := by decide +kernel
theorem dX4_numbersAround_32 : decode cX4_numbersAround 32 = .ok (.goto (-28), 3) := by decide +kernel
theorem dX4_numbersAround_35 : decode cX4_numbersAround 35 = .ok (.iload_n 2, 1) := by decide +kernel
theorem dX4_numbersAround_36 : decode cX4_numbersAround 36 = .ok (.ireturn, 1) := by decide +kernel
set_option maxRecDepth 20000 in
theorem ggX4_sociable_X4_number : GoodIn wsX4_sociable wsX4_number := goodIn_r _ [6, 7, 8, 9, 5, 10, 11, 12, 13, 14, 15, 16, 17, 18, 19, 20, 21] (by decide +kernel) (by decide +kernel)
set_option maxRecDepth 20000 in
theorem gX4_sociable_X4_number : GoodIn wsX4_sociable (wsV RX4 37 RX4 yX4_number wsX4_number) := goodIn_app (goodIn_of _ (by decide +kernel)) ggX4_sociable_X4_number
theorem dX4_sociable_0 : decode cX4_sociable 0 = .ok (.iconst 0, 1) := by decide +kernel
theorem dX4_sociable_1 : decode cX4_sociable 1 = .ok (.istore_n 1, 1) := by decide +kernel
theorem dX4_sociable_2 : decode cX4_sociable 2 = .ok (.iconst 0, 1) := by decide +kernel
theorem dX4_sociable_3 : decode cX4_sociable 3 = .ok (.istore_n 2, 1) := by decide +kernel
theorem dX4_sociable_4 : decode cX4_sociable 4 = .ok (.iload_n 2, 1) := by decide +kernel
theorem dX4_sociable_5 : decode cX4_sociable 5 = .ok (.aload_n 0, 1) := by decide +kernel
theorem dX4_sociable_6 : decode cX4_sociable 6 = .ok (.getfield 18, 3) := by decide +kernel
theorem dX4_sociable_9 : decode cX4_sociable 9 = .ok (.if_icmp .ge 20, 3) := by decide +kernel
theorem dX4_sociable_12 : decode cX4_sociable 12 = .ok (.aload_n 0, 1) := by decide +kernel
theorem dX4_sociable_13 : decode cX4_sociable 13 = .ok (.iload_n 2, 1) := by decide +kernel
theorem dX4_sociable_14 : decode cX4_sociable 14 = .ok (.invokevirtual 37, 3) := by decide +kernel
theorem dX4_sociable_17 : decode cX4_sociable 17 = .ok (.ifCond .le 6, 3) := by decide +kernel
theorem dX4_sociable_20 : decode cX4_sociable 20 = .ok (.iinc 1 1, 3) := by decide +kernel
theorem dX4_sociable_23 : decode cX4_sociable 23 = .ok (.iinc 2 1, 3) := by decide +kernel
theorem dX4_sociable_26 : decode cX4_sociable 26 = .ok (.goto (-22), 3) := by decide +kernel
theorem dX4_sociable_29 : decode cX4_sociable 29 = .ok (.iload_n 1, 1) := by decide +kernel
theorem dX4_sociable_30 : decode cX4_sociable 30 = .ok (.ireturn, 1) := by decide +kernel
set_option maxRecDepth 20000 in
theorem ggX4_feelers_X4_number : GoodIn wsX4_feelers wsX4_number := goodIn_r _ [6, 7, 8, 9, 5, 10, 11, 12, 13, 14, 15, 16, 17, 18, 27, 28, 29] (by decide +kernel) (by decide +kernel)
set_option maxRecDepth 20000 in
theorem gX4_feelers_X4_number : GoodIn wsX4_feelers (wsV RX4 37 RX4 yX4_number wsX4_number) := goodIn_app (goodIn_of _ (by decide +kernel)) ggX4_feelers_X4_number
set_option maxRecDepth 20000 in
theorem ggX4_feelers_X4_numbersAround : GoodIn wsX4_feelers wsX4_numbersAround := goodIn_r _ [22, 1, 23, 24, 25, 5, 26, 7, 8, 9, 10, 11, 2, 3, 4, 6, 12, 13, 14, 15, 16, 17, 18, 27, 28, 29] (by decide +kernel) (by decide +kernel)
set_option maxRecDepth 20000 in
theorem gX4_feelers_X4_numbersAround : GoodIn wsX4_feelers (wsV RX4 48 RX4 yX4_numbersAround wsX4_numbersAround) := goodIn_app (goodIn_of _ (by decide +kernel)) ggX4_feelers_X4_numbersAround
theorem dX4_feelers_0 : decode cX4_feelers 0 = .ok (.iconst 0, 1) := by decide +kernel
theorem dX4_feelers_1 : decode cX4_feelers 1 = .ok (.istore_n 1, 1) := by decide +kernel
theorem dX4_feelers_2 : decode cX4_feelers 2 = .ok (.iconst 0, 1) := by decide +kernel
theorem dX4_feelers_3 : decode cX4_feelers 3 = .ok (.istore_n 2, 1) := by decide +kernel
theorem dX4_feelers_4 : decode cX4_feelers 4 = .ok (.iload_n 2, 1) := by decide +kernel
theorem dX4_feelers_5 : decode cX4_feelers 5 = .ok (.aload_n 0, 1) := by decide +kernel
theorem dX4_feelers_6 : decode cX4_feelers 6 = .ok (.getfield 18, 3) := by decide +kernel
theorem dX4_feelers_9 : decode cX4_feelers 9 = .ok (.if_icmp .ge 34, 3) := by decide +kernel
theorem dX4_feelers_12 : decode cX4_feelers 12 = .ok (.aload_n 0, 1) := by decide +kernel
theorem dX4_feelers_13 : decode cX4_feelers 13 = .ok (.iload_n 2, 1) := by decide +kernel
theorem dX4_feelers_14 : decode cX4_feelers 14 = .ok (.invokevirtual 37, 3) := by decide +kernel
theorem dX4_feelers_17 : decode cX4_feelers 17 = .ok (.aload_n 0, 1) := by decide +kernel
theorem dX4_feelers_18 : decode cX4_feelers 18 = .ok (.iload_n 2, 1) := by decide +kernel
theorem dX4_feelers_19 : decode cX4_feelers 19 = .ok (.invokevirtual 37, 3) := by decide +kernel
theorem dX4_feelers_22 : decode cX4_feelers 22 = .ok (.imul, 1) := by decide +kernel
theorem dX4_feelers_23 : decode cX4_feelers 23 = .ok (.aload_n 0, 1) := by decide +kernel
theorem dX4_feelers_24 : decode cX4_feelers 24 = .ok (.iload_n 2, 1) := by decide +kernel
theorem dX4_feelers_25 : decode cX4_feelers 25 = .ok (.invokevirtual 48, 3) := by decide +kernel
theorem dX4_feelers_28 : decode cX4_feelers 28 = .ok (.if_icmp .ge 9, 3) := by decide +kernel
theorem dX4_feelers_31 : decode cX4_feelers 31 = .ok (.iload_n 1, 1) := by decide +kernel
theorem dX4_feelers_32 : decode cX4_feelers 32 = .ok (.iconst 1, 1) := by decide +kernel
theorem dX4_feelers_33 : decode cX4_feelers 33 = .ok (.iload_n 2, 1) := by decide +kernel
theorem dX4_feelers_34 : decode cX4_feelers 34 = .ok (.ishl, 1) := by decide +kernel
theorem dX4_feelers_35 : decode cX4_feelers 35 = .ok (.ior, 1) := by decide +kernel
theorem dX4_feelers_36 : decode cX4_feelers 36 = .ok (.istore_n 1, 1) := by decide +kernel
theorem dX4_feelers_37 : decode cX4_feelers 37 = .ok (.iinc 2 1, 3) := by decide +kernel
theorem dX4_feelers_40 : decode cX4_feelers 40 = .ok (.goto (-36), 3) := by decide +kernel
theorem dX4_feelers_43 : decode cX4_feelers 43 = .ok (.iload_n 1, 1) := by decide +kernel
theorem dX4_feelers_44 : decode cX4_feelers 44 = .ok (.ireturn, 1) := by decide +kernel
set_option maxRecDepth 20000 in
theorem ggX4_bestTurn_X4_feelers : GoodIn wsX4_bestTurn wsX4_feelers := goodIn_r _ [6, 1, 7, 8, 9, 5, 10, 11, 12, 13, 14, 15, 16, 17, 18, 19, 20, 21, 22, 23, 24, 25, 26, 27, 28, 29, 30, 35, 36, 37] (by decide +kernel) (by decide +kernel)
set_option maxRecDepth 20000 in
theorem gX4_bestTurn_X4_feelers : GoodIn wsX4_bestTurn (wsV RX4 51 RX4 yX4_feelers wsX4_feelers) := goodIn_app (goodIn_of _ (by decide +kernel)) ggX4_bestTurn_X4_feelers
set_option maxRecDepth 20000 in
theorem ggX4_bestTurn_J6_bitCount_0f7a4 : GoodIn wsX4_bestTurn wsJ6_bitCount_0f7a4 := goodIn_r _ [19, 20, 21, 22] (by decide +kernel) (by decide +kernel)
set_option maxRecDepth 20000 in
theorem gX4_bestTurn_J6_bitCount_0f7a4 : GoodIn wsX4_bestTurn (va_wsS RX4 32 yJ6_bitCount_0f7a4 wsJ6_bitCount_0f7a4) := goodIn_app (goodIn_of _ (by decide +kernel)) ggX4_bestTurn_J6_bitCount_0f7a4
set_option maxRecDepth 20000 in
theorem ggX4_bestTurn_X4_between : GoodIn wsX4_bestTurn wsX4_between := goodIn_r _ [30, 11, 12, 13, 5, 14, 15, 35, 36, 37] (by decide +kernel) (by decide +kernel)
set_option maxRecDepth 20000 in
theorem gX4_bestTurn_X4_between : GoodIn wsX4_bestTurn (wsV RX4 44 RX4 yX4_between wsX4_between) := goodIn_app (goodIn_of _ (by decide +kernel)) ggX4_bestTurn_X4_between
set_option maxRecDepth 20000 in
theorem ggX4_bestTurn_X4_turn : GoodIn wsX4_bestTurn wsX4_turn := goodIn_r _ [34, 15, 35, 36, 37] (by decide +kernel) (by decide +kernel)
set_option maxRecDepth 20000 in
theorem gX4_bestTurn_X4_turn : GoodIn wsX4_bestTurn (wsV RX4 54 RX4 yX4_turn wsX4_turn) := goodIn_app (goodIn_of _ (by decide +kernel)) ggX4_bestTurn_X4_turn
theorem dX4_bestTurn_0 : decode cX4_bestTurn 0 = .ok (.aload_n 0, 1) := by decide +kernel
theorem dX4_bestTurn_1 : decode cX4_bestTurn 1 = .ok (.invokevirtual 51, 3) := by decide +kernel
theorem dX4_bestTurn_4 : decode cX4_bestTurn 4 = .ok (.invokestatic 32, 3) := by decide +kernel
theorem dX4_bestTurn_7 : decode cX4_bestTurn 7 = .ok (.istore_n 2, 1) := by decide +kernel
theorem dX4_bestTurn_8 : decode cX4_bestTurn 8 = .ok (.bipush (-4), 2) := by decide +kernel
theorem dX4_bestTurn_10 : decode cX4_bestTurn 10 = .ok (.istore_n 3, 1) := by decide +kernel
theorem dX4_bestTurn_11 : decode cX4_bestTurn 11 = .ok (.iconst 0, 1) := by decide +kernel
theorem dX4_bestTurn_12 : decode cX4_bestTurn 12 = .ok (.istore 4, 2) := by decide +kernel
theorem dX4_bestTurn_14 : decode cX4_bestTurn 14 = .ok (.iload 4, 2) := by decide +kernel
theorem dX4_bestTurn_16 : decode cX4_bestTurn 16 = .ok (.aload_n 0, 1) := by decide +kernel
theorem dX4_bestTurn_17 : decode cX4_bestTurn 17 = .ok (.getfield 18, 3) := by decide +kernel
theorem dX4_bestTurn_20 : decode cX4_bestTurn 20 = .ok (.if_icmp .ge 85, 3) := by decide +kernel
theorem dX4_bestTurn_23 : decode cX4_bestTurn 23 = .ok (.iload 4, 2) := by decide +kernel
theorem dX4_bestTurn_25 : decode cX4_bestTurn 25 = .ok (.iconst 1, 1) := by decide +kernel
theorem dX4_bestTurn_26 : decode cX4_bestTurn 26 = .ok (.iadd, 1) := by decide +kernel
theorem dX4_bestTurn_27 : decode cX4_bestTurn 27 = .ok (.istore 5, 2) := by decide +kernel
theorem dX4_bestTurn_29 : decode cX4_bestTurn 29 = .ok (.iload 5, 2) := by decide +kernel
theorem dX4_bestTurn_31 : decode cX4_bestTurn 31 = .ok (.aload_n 0, 1) := by decide +kernel
theorem dX4_bestTurn_32 : decode cX4_bestTurn 32 = .ok (.getfield 18, 3) := by decide +kernel
theorem dX4_bestTurn_35 : decode cX4_bestTurn 35 = .ok (.if_icmp .ge 64, 3) := by decide +kernel
theorem dX4_bestTurn_38 : decode cX4_bestTurn 38 = .ok (.aload_n 0, 1) := by decide +kernel
theorem dX4_bestTurn_39 : decode cX4_bestTurn 39 = .ok (.iload 4, 2) := by decide +kernel
theorem dX4_bestTurn_41 : decode cX4_bestTurn 41 = .ok (.iload 5, 2) := by decide +kernel
theorem dX4_bestTurn_43 : decode cX4_bestTurn 43 = .ok (.invokevirtual 44, 3) := by decide +kernel
theorem dX4_bestTurn_46 : decode cX4_bestTurn 46 = .ok (.iload_n 1, 1) := by decide +kernel
theorem dX4_bestTurn_47 : decode cX4_bestTurn 47 = .ok (.if_icmp .ne 46, 3) := by decide +kernel
theorem dX4_bestTurn_50 : decode cX4_bestTurn 50 = .ok (.aload_n 0, 1) := by decide +kernel
theorem dX4_bestTurn_51 : decode cX4_bestTurn 51 = .ok (.iload 4, 2) := by decide +kernel
theorem dX4_bestTurn_53 : decode cX4_bestTurn 53 = .ok (.iload 5, 2) := by decide +kernel
theorem dX4_bestTurn_55 : decode cX4_bestTurn 55 = .ok (.invokevirtual 54, 3) := by decide +kernel
theorem dX4_bestTurn_58 : decode cX4_bestTurn 58 = .ok (.aload_n 0, 1) := by decide +kernel
theorem dX4_bestTurn_59 : decode cX4_bestTurn 59 = .ok (.invokevirtual 51, 3) := by decide +kernel
theorem dX4_bestTurn_62 : decode cX4_bestTurn 62 = .ok (.invokestatic 32, 3) := by decide +kernel
theorem dX4_bestTurn_65 : decode cX4_bestTurn 65 = .ok (.istore 6, 2) := by decide +kernel
theorem dX4_bestTurn_67 : decode cX4_bestTurn 67 = .ok (.aload_n 0, 1) := by decide +kernel
theorem dX4_bestTurn_68 : decode cX4_bestTurn 68 = .ok (.iload 4, 2) := by decide +kernel
theorem dX4_bestTurn_70 : decode cX4_bestTurn 70 = .ok (.iload 5, 2) := by decide +kernel
theorem dX4_bestTurn_72 : decode cX4_bestTurn 72 = .ok (.invokevirtual 54, 3) := by decide +kernel
theorem dX4_bestTurn_75 : decode cX4_bestTurn 75 = .ok (.iload 6, 2) := by decide +kernel
theorem dX4_bestTurn_77 : decode cX4_bestTurn 77 = .ok (.iload_n 2, 1) := by decide +kernel
theorem dX4_bestTurn_78 : decode cX4_bestTurn 78 = .ok (.if_icmp .ge 15, 3) := by decide +kernel
theorem dX4_bestTurn_81 : decode cX4_bestTurn 81 = .ok (.iload 6, 2) := by decide +kernel
theorem dX4_bestTurn_83 : decode cX4_bestTurn 83 = .ok (.istore_n 2, 1) := by decide +kernel
theorem dX4_bestTurn_84 : decode cX4_bestTurn 84 = .ok (.bipush 10, 2) := by decide +kernel
theorem dX4_bestTurn_86 : decode cX4_bestTurn 86 = .ok (.iload 4, 2) := by decide +kernel
theorem dX4_bestTurn_88 : decode cX4_bestTurn 88 = .ok (.imul, 1) := by decide +kernel
theorem dX4_bestTurn_89 : decode cX4_bestTurn 89 = .ok (.iload 5, 2) := by decide +kernel
theorem dX4_bestTurn_91 : decode cX4_bestTurn 91 = .ok (.iadd, 1) := by decide +kernel
theorem dX4_bestTurn_92 : decode cX4_bestTurn 92 = .ok (.istore_n 3, 1) := by decide +kernel
theorem dX4_bestTurn_93 : decode cX4_bestTurn 93 = .ok (.iinc 5 1, 3) := by decide +kernel
theorem dX4_bestTurn_96 : decode cX4_bestTurn 96 = .ok (.goto (-67), 3) := by decide +kernel
theorem dX4_bestTurn_99 : decode cX4_bestTurn 99 = .ok (.iinc 4 1, 3) := by decide +kernel
theorem dX4_bestTurn_102 : decode cX4_bestTurn 102 = .ok (.goto (-88), 3) := by decide +kernel
theorem dX4_bestTurn_105 : decode cX4_bestTurn 105 = .ok (.iload_n 3, 1) := by decide +kernel
theorem dX4_bestTurn_106 : decode cX4_bestTurn 106 = .ok (.ireturn, 1) := by decide +kernel
set_option maxRecDepth 20000 in
theorem ggX4_widened_X4_around : GoodIn wsX4_widened wsX4_around := goodIn_r _ [6, 7, 8, 9, 10] (by decide +kernel) (by decide +kernel)
set_option maxRecDepth 20000 in
theorem gX4_widened_X4_around : GoodIn wsX4_widened (wsV RX4 28 RX4 yX4_around wsX4_around) := goodIn_app (goodIn_of _ (by decide +kernel)) ggX4_widened_X4_around
theorem dX4_widened_0 : decode cX4_widened 0 = .ok (.iload_n 1, 1) := by decide +kernel
theorem dX4_widened_1 : decode cX4_widened 1 = .ok (.istore_n 2, 1) := by decide +kernel
theorem dX4_widened_2 : decode cX4_widened 2 = .ok (.iconst 0, 1) := by decide +kernel
theorem dX4_widened_3 : decode cX4_widened 3 = .ok (.istore_n 3, 1) := by decide +kernel
theorem dX4_widened_4 : decode cX4_widened 4 = .ok (.iload_n 3, 1) := by decide +kernel
theorem dX4_widened_5 : decode cX4_widened 5 = .ok (.aload_n 0, 1) := by decide +kernel
theorem dX4_widened_6 : decode cX4_widened 6 = .ok (.getfield 18, 3) := by decide +kernel
theorem dX4_widened_9 : decode cX4_widened 9 = .ok (.if_icmp .ge 25, 3) := by decide +kernel
theorem dX4_widened_12 : decode cX4_widened 12 = .ok (.iload_n 1, 1) := by decide +kernel
theorem dX4_widened_13 : decode cX4_widened 13 = .ok (.iload_n 3, 1) := by decide +kernel
theorem dX4_widened_14 : decode cX4_widened 14 = .ok (.ishr, 1) := by decide +kernel
theorem dX4_widened_15 : decode cX4_widened 15 = .ok (.iconst 1, 1) := by decide +kernel
theorem dX4_widened_16 : decode cX4_widened 16 = .ok (.iand, 1) := by decide +kernel
theorem dX4_widened_17 : decode cX4_widened 17 = .ok (.ifCond .eq 11, 3) := by decide +kernel
theorem dX4_widened_20 : decode cX4_widened 20 = .ok (.iload_n 2, 1) := by decide +kernel
theorem dX4_widened_21 : decode cX4_widened 21 = .ok (.aload_n 0, 1) := by decide +kernel
theorem dX4_widened_22 : decode cX4_widened 22 = .ok (.iload_n 3, 1) := by decide +kernel
theorem dX4_widened_23 : decode cX4_widened 23 = .ok (.invokevirtual 28, 3) := by decide +kernel
theorem dX4_widened_26 : decode cX4_widened 26 = .ok (.ior, 1) := by decide +kernel
theorem dX4_widened_27 : decode cX4_widened 27 = .ok (.istore_n 2, 1) := by decide +kernel
theorem dX4_widened_28 : decode cX4_widened 28 = .ok (.iinc 3 1, 3) := by decide +kernel
theorem dX4_widened_31 : decode cX4_widened 31 = .ok (.goto (-27), 3) := by decide +kernel
theorem dX4_widened_34 : decode cX4_widened 34 = .ok (.iload_n 2, 1) := by decide +kernel
theorem dX4_widened_35 : decode cX4_widened 35 = .ok (.ireturn, 1) := by decide +kernel
set_option maxRecDepth 20000 in
theorem ggX4_way_X4_widened : GoodIn wsX4_way wsX4_widened := goodIn_r _ [5, 6, 7, 8, 9, 4, 10, 11, 12, 13, 14] (by decide +kernel) (by decide +kernel)
set_option maxRecDepth 20000 in
theorem gX4_way_X4_widened : GoodIn wsX4_way (wsV RX4 58 RX4 yX4_widened wsX4_widened) := goodIn_app (goodIn_of _ (by decide +kernel)) ggX4_way_X4_widened
theorem dX4_way_0 : decode cX4_way 0 = .ok (.iconst 1, 1) := by decide +kernel
theorem dX4_way_1 : decode cX4_way 1 = .ok (.iload_n 1, 1) := by decide +kernel
theorem dX4_way_2 : decode cX4_way 2 = .ok (.ishl, 1) := by decide +kernel
theorem dX4_way_3 : decode cX4_way 3 = .ok (.istore_n 3, 1) := by decide +kernel
theorem dX4_way_4 : decode cX4_way 4 = .ok (.iconst 0, 1) := by decide +kernel
theorem dX4_way_5 : decode cX4_way 5 = .ok (.istore 4, 2) := by decide +kernel
theorem dX4_way_7 : decode cX4_way 7 = .ok (.iload 4, 2) := by decide +kernel
theorem dX4_way_9 : decode cX4_way 9 = .ok (.bipush 9, 2) := by decide +kernel
theorem dX4_way_11 : decode cX4_way 11 = .ok (.if_icmp .ge 26, 3) := by decide +kernel
theorem dX4_way_14 : decode cX4_way 14 = .ok (.iload_n 3, 1) := by decide +kernel
theorem dX4_way_15 : decode cX4_way 15 = .ok (.iload_n 2, 1) := by decide +kernel
theorem dX4_way_16 : decode cX4_way 16 = .ok (.ishr, 1) := by decide +kernel
theorem dX4_way_17 : decode cX4_way 17 = .ok (.iconst 1, 1) := by decide +kernel
theorem dX4_way_18 : decode cX4_way 18 = .ok (.iand, 1) := by decide +kernel
theorem dX4_way_19 : decode cX4_way 19 = .ok (.ifCond .eq 6, 3) := by decide +kernel
theorem dX4_way_22 : decode cX4_way 22 = .ok (.iload 4, 2) := by decide +kernel
theorem dX4_way_24 : decode cX4_way 24 = .ok (.ireturn, 1) := by decide +kernel
theorem dX4_way_25 : decode cX4_way 25 = .ok (.aload_n 0, 1) := by decide +kernel
theorem dX4_way_26 : decode cX4_way 26 = .ok (.iload_n 3, 1) := by decide +kernel
theorem dX4_way_27 : decode cX4_way 27 = .ok (.invokevirtual 58, 3) := by decide +kernel
theorem dX4_way_30 : decode cX4_way 30 = .ok (.istore_n 3, 1) := by decide +kernel
theorem dX4_way_31 : decode cX4_way 31 = .ok (.iinc 4 1, 3) := by decide +kernel
theorem dX4_way_34 : decode cX4_way 34 = .ok (.goto (-27), 3) := by decide +kernel
theorem dX4_way_37 : decode cX4_way 37 = .ok (.bipush (-4), 2) := by decide +kernel
theorem dX4_way_39 : decode cX4_way 39 = .ok (.ireturn, 1) := by decide +kernel
set_option maxRecDepth 20000 in
theorem ggX4_widest_X4_way : GoodIn wsX4_widest wsX4_way := goodIn_r _ [10, 11, 12, 13, 9, 14, 1, 15, 16, 17, 18, 19, 20, 21, 22] (by decide +kernel) (by decide +kernel)
set_option maxRecDepth 20000 in
theorem gX4_widest_X4_way : GoodIn wsX4_widest (wsV RX4 61 RX4 yX4_way wsX4_way) := goodIn_app (goodIn_of _ (by decide +kernel)) ggX4_widest_X4_way
theorem dX4_widest_0 : decode cX4_widest 0 = .ok (.iconst 0, 1) := by decide +kernel
theorem dX4_widest_1 : decode cX4_widest 1 = .ok (.istore_n 1, 1) := by decide +kernel
theorem dX4_widest_2 : decode cX4_widest 2 = .ok (.iconst 0, 1) := by decide +kernel
theorem dX4_widest_3 : decode cX4_widest 3 = .ok (.istore_n 2, 1) := by decide +kernel
theorem dX4_widest_4 : decode cX4_widest 4 = .ok (.iload_n 2, 1) := by decide +kernel
theorem dX4_widest_5 : decode cX4_widest 5 = .ok (.aload_n 0, 1) := by decide +kernel
theorem dX4_widest_6 : decode cX4_widest 6 = .ok (.getfield 18, 3) := by decide +kernel
theorem dX4_widest_9 : decode cX4_widest 9 = .ok (.if_icmp .ge 38, 3) := by decide +kernel
theorem dX4_widest_12 : decode cX4_widest 12 = .ok (.iload_n 2, 1) := by decide +kernel
theorem dX4_widest_13 : decode cX4_widest 13 = .ok (.iconst 1, 1) := by decide +kernel
theorem dX4_widest_14 : decode cX4_widest 14 = .ok (.iadd, 1) := by decide +kernel
theorem dX4_widest_15 : decode cX4_widest 15 = .ok (.istore_n 3, 1) := by decide +kernel
theorem dX4_widest_16 : decode cX4_widest 16 = .ok (.iload_n 3, 1) := by decide +kernel
theorem dX4_widest_17 : decode cX4_widest 17 = .ok (.aload_n 0, 1) := by decide +kernel
theorem dX4_widest_18 : decode cX4_widest 18 = .ok (.getfield 18, 3) := by decide +kernel
theorem dX4_widest_21 : decode cX4_widest 21 = .ok (.if_icmp .ge 20, 3) := by decide +kernel
theorem dX4_widest_24 : decode cX4_widest 24 = .ok (.iload_n 1, 1) := by decide +kernel
theorem dX4_widest_25 : decode cX4_widest 25 = .ok (.aload_n 0, 1) := by decide +kernel
theorem dX4_widest_26 : decode cX4_widest 26 = .ok (.iload_n 2, 1) := by decide +kernel
theorem dX4_widest_27 : decode cX4_widest 27 = .ok (.iload_n 3, 1) := by decide +kernel
theorem dX4_widest_28 : decode cX4_widest 28 = .ok (.invokevirtual 61, 3) := by decide +kernel
theorem dX4_widest_31 : decode cX4_widest 31 = .ok (.invokestatic 65, 3) := by decide +kernel
theorem dX4_widest_34 : decode cX4_widest 34 = .ok (.istore_n 1, 1) := by decide +kernel
theorem dX4_widest_35 : decode cX4_widest 35 = .ok (.iinc 3 1, 3) := by decide +kernel
theorem dX4_widest_38 : decode cX4_widest 38 = .ok (.goto (-22), 3) := by decide +kernel
theorem dX4_widest_41 : decode cX4_widest 41 = .ok (.iinc 2 1, 3) := by decide +kernel
theorem dX4_widest_44 : decode cX4_widest 44 = .ok (.goto (-40), 3) := by decide +kernel
theorem dX4_widest_47 : decode cX4_widest 47 = .ok (.iload_n 1, 1) := by decide +kernel
theorem dX4_widest_48 : decode cX4_widest 48 = .ok (.ireturn, 1) := by decide +kernel
set_option maxRecDepth 20000 in
theorem ggX4_parts_X4_widened : GoodIn wsX4_parts wsX4_widened := goodIn_r _ [6, 1, 7, 8, 9, 5, 10, 11, 12, 13, 14] (by decide +kernel) (by decide +kernel)
set_option maxRecDepth 20000 in
theorem gX4_parts_X4_widened : GoodIn wsX4_parts (wsV RX4 58 RX4 yX4_widened wsX4_widened) := goodIn_app (goodIn_of _ (by decide +kernel)) ggX4_parts_X4_widened
theorem dX4_parts_0 : decode cX4_parts 0 = .ok (.iconst 0, 1) := by decide +kernel
theorem dX4_parts_1 : decode cX4_parts 1 = .ok (.istore_n 1, 1) := by decide +kernel
theorem dX4_parts_2 : decode cX4_parts 2 = .ok (.iconst 0, 1) := by decide +kernel
theorem dX4_parts_3 : decode cX4_parts 3 = .ok (.istore_n 2, 1) := by decide +kernel
theorem dX4_parts_4 : decode cX4_parts 4 = .ok (.iconst 0, 1) := by decide +kernel
theorem dX4_parts_5 : decode cX4_parts 5 = .ok (.istore_n 3, 1) := by decide +kernel
theorem dX4_parts_6 : decode cX4_parts 6 = .ok (.iload_n 3, 1) := by decide +kernel
theorem dX4_parts_7 : decode cX4_parts 7 = .ok (.aload_n 0, 1) := by decide +kernel
theorem dX4_parts_8 : decode cX4_parts 8 = .ok (.getfield 18, 3) := by decide +kernel
theorem dX4_parts_11 : decode cX4_parts 11 = .ok (.if_icmp .ge 54, 3) := by decide +kernel
theorem dX4_parts_14 : decode cX4_parts 14 = .ok (.iload_n 1, 1) := by decide +kernel
theorem dX4_parts_15 : decode cX4_parts 15 = .ok (.iload_n 3, 1) := by decide +kernel
theorem dX4_parts_16 : decode cX4_parts 16 = .ok (.ishr, 1) := by decide +kernel
theorem dX4_parts_17 : decode cX4_parts 17 = .ok (.iconst 1, 1) := by decide +kernel
theorem dX4_parts_18 : decode cX4_parts 18 = .ok (.iand, 1) := by decide +kernel
theorem dX4_parts_19 : decode cX4_parts 19 = .ok (.ifCond .ne 40, 3) := by decide +kernel
theorem dX4_parts_22 : decode cX4_parts 22 = .ok (.iinc 2 1, 3) := by decide +kernel
theorem dX4_parts_25 : decode cX4_parts 25 = .ok (.iconst 1, 1) := by decide +kernel
theorem dX4_parts_26 : decode cX4_parts 26 = .ok (.iload_n 3, 1) := by decide +kernel
theorem dX4_parts_27 : decode cX4_parts 27 = .ok (.ishl, 1) := by decide +kernel
theorem dX4_parts_28 : decode cX4_parts 28 = .ok (.istore 4, 2) := by decide +kernel
theorem dX4_parts_30 : decode cX4_parts 30 = .ok (.iconst 0, 1) := by decide +kernel
theorem dX4_parts_31 : decode cX4_parts 31 = .ok (.istore 5, 2) := by decide +kernel
theorem dX4_parts_33 : decode cX4_parts 33 = .ok (.iload 5, 2) := by decide +kernel
theorem dX4_parts_35 : decode cX4_parts 35 = .ok (.bipush 9, 2) := by decide +kernel
theorem dX4_parts_37 : decode cX4_parts 37 = .ok (.if_icmp .ge 17, 3) := by decide +kernel
theorem dX4_parts_40 : decode cX4_parts 40 = .ok (.aload_n 0, 1) := by decide +kernel
theorem dX4_parts_41 : decode cX4_parts 41 = .ok (.iload 4, 2) := by decide +kernel
theorem dX4_parts_43 : decode cX4_parts 43 = .ok (.invokevirtual 58, 3) := by decide +kernel
theorem dX4_parts_46 : decode cX4_parts 46 = .ok (.istore 4, 2) := by decide +kernel
theorem dX4_parts_48 : decode cX4_parts 48 = .ok (.iinc 5 1, 3) := by decide +kernel
theorem dX4_parts_51 : decode cX4_parts 51 = .ok (.goto (-18), 3) := by decide +kernel
theorem dX4_parts_54 : decode cX4_parts 54 = .ok (.iload_n 1, 1) := by decide +kernel
theorem dX4_parts_55 : decode cX4_parts 55 = .ok (.iload 4, 2) := by decide +kernel
theorem dX4_parts_57 : decode cX4_parts 57 = .ok (.ior, 1) := by decide +kernel
theorem dX4_parts_58 : decode cX4_parts 58 = .ok (.istore_n 1, 1) := by decide +kernel
theorem dX4_parts_59 : decode cX4_parts 59 = .ok (.iinc 3 1, 3) := by decide +kernel
theorem dX4_parts_62 : decode cX4_parts 62 = .ok (.goto (-56), 3) := by decide +kernel
theorem dX4_parts_65 : decode cX4_parts 65 = .ok (.iload_n 2, 1) := by decide +kernel
theorem dX4_parts_66 : decode cX4_parts 66 = .ok (.ireturn, 1) := by decide +kernel
set_option maxRecDepth 20000 in
theorem ggX4_bridges_X4_parts : GoodIn wsX4_bridges wsX4_parts := goodIn_r _ [6, 1, 7, 8, 9, 5, 10, 11, 12, 13, 14, 15, 24, 25, 26] (by decide +kernel) (by decide +kernel)
set_option maxRecDepth 20000 in
theorem gX4_bridges_X4_parts : GoodIn wsX4_bridges (wsV RX4 70 RX4 yX4_parts wsX4_parts) := goodIn_app (goodIn_of _ (by decide +kernel)) ggX4_bridges_X4_parts
set_option maxRecDepth 20000 in
theorem ggX4_bridges_X4_between : GoodIn wsX4_bridges wsX4_between := goodIn_r _ [19, 11, 12, 13, 5, 14, 15, 24, 25, 26] (by decide +kernel) (by decide +kernel)
set_option maxRecDepth 20000 in
theorem gX4_bridges_X4_between : GoodIn wsX4_bridges (wsV RX4 44 RX4 yX4_between wsX4_between) := goodIn_app (goodIn_of _ (by decide +kernel)) ggX4_bridges_X4_between
set_option maxRecDepth 20000 in
theorem ggX4_bridges_X4_turn : GoodIn wsX4_bridges wsX4_turn := goodIn_r _ [23, 15, 24, 25, 26] (by decide +kernel) (by decide +kernel)
set_option maxRecDepth 20000 in
theorem gX4_bridges_X4_turn : GoodIn wsX4_bridges (wsV RX4 54 RX4 yX4_turn wsX4_turn) := goodIn_app (goodIn_of _ (by decide +kernel)) ggX4_bridges_X4_turn
theorem dX4_bridges_0 : decode cX4_bridges 0 = .ok (.aload_n 0, 1) := by decide +kernel
theorem dX4_bridges_1 : decode cX4_bridges 1 = .ok (.invokevirtual 70, 3) := by decide +kernel
theorem dX4_bridges_4 : decode cX4_bridges 4 = .ok (.istore_n 1, 1) := by decide +kernel
theorem dX4_bridges_5 : decode cX4_bridges 5 = .ok (.iconst 0, 1) := by decide +kernel
theorem dX4_bridges_6 : decode cX4_bridges 6 = .ok (.istore_n 2, 1) := by decide +kernel
theorem dX4_bridges_7 : decode cX4_bridges 7 = .ok (.iconst 0, 1) := by decide +kernel
theorem dX4_bridges_8 : decode cX4_bridges 8 = .ok (.istore_n 3, 1) := by decide +kernel
theorem dX4_bridges_9 : decode cX4_bridges 9 = .ok (.iload_n 3, 1) := by decide +kernel
theorem dX4_bridges_10 : decode cX4_bridges 10 = .ok (.aload_n 0, 1) := by decide +kernel
theorem dX4_bridges_11 : decode cX4_bridges 11 = .ok (.getfield 18, 3) := by decide +kernel
theorem dX4_bridges_14 : decode cX4_bridges 14 = .ok (.if_icmp .ge 64, 3) := by decide +kernel
theorem dX4_bridges_17 : decode cX4_bridges 17 = .ok (.iload_n 3, 1) := by decide +kernel
theorem dX4_bridges_18 : decode cX4_bridges 18 = .ok (.iconst 1, 1) := by decide +kernel
theorem dX4_bridges_19 : decode cX4_bridges 19 = .ok (.iadd, 1) := by decide +kernel
theorem dX4_bridges_20 : decode cX4_bridges 20 = .ok (.istore 4, 2) := by decide +kernel
theorem dX4_bridges_22 : decode cX4_bridges 22 = .ok (.iload 4, 2) := by decide +kernel
theorem dX4_bridges_24 : decode cX4_bridges 24 = .ok (.aload_n 0, 1) := by decide +kernel
theorem dX4_bridges_25 : decode cX4_bridges 25 = .ok (.getfield 18, 3) := by decide +kernel
theorem dX4_bridges_28 : decode cX4_bridges 28 = .ok (.if_icmp .ge 44, 3) := by decide +kernel
theorem dX4_bridges_31 : decode cX4_bridges 31 = .ok (.aload_n 0, 1) := by decide +kernel
theorem dX4_bridges_32 : decode cX4_bridges 32 = .ok (.iload_n 3, 1) := by decide +kernel
theorem dX4_bridges_33 : decode cX4_bridges 33 = .ok (.iload 4, 2) := by decide +kernel
theorem dX4_bridges_35 : decode cX4_bridges 35 = .ok (.invokevirtual 44, 3) := by decide +kernel
theorem dX4_bridges_38 : decode cX4_bridges 38 = .ok (.ifCond .eq 28, 3) := by decide +kernel
theorem dX4_bridges_41 : decode cX4_bridges 41 = .ok (.aload_n 0, 1) := by decide +kernel
theorem dX4_bridges_42 : decode cX4_bridges 42 = .ok (.iload_n 3, 1) := by decide +kernel
theorem dX4_bridges_43 : decode cX4_bridges 43 = .ok (.iload 4, 2) := by decide +kernel
theorem dX4_bridges_45 : decode cX4_bridges 45 = .ok (.invokevirtual 54, 3) := by decide +kernel
theorem dX4_bridges_48 : decode cX4_bridges 48 = .ok (.aload_n 0, 1) := by decide +kernel
theorem dX4_bridges_49 : decode cX4_bridges 49 = .ok (.invokevirtual 70, 3) := by decide +kernel
theorem dX4_bridges_52 : decode cX4_bridges 52 = .ok (.iload_n 1, 1) := by decide +kernel
theorem dX4_bridges_53 : decode cX4_bridges 53 = .ok (.if_icmp .le 6, 3) := by decide +kernel
theorem dX4_bridges_56 : decode cX4_bridges 56 = .ok (.iinc 2 1, 3) := by decide +kernel
theorem dX4_bridges_59 : decode cX4_bridges 59 = .ok (.aload_n 0, 1) := by decide +kernel
theorem dX4_bridges_60 : decode cX4_bridges 60 = .ok (.iload_n 3, 1) := by decide +kernel
theorem dX4_bridges_61 : decode cX4_bridges 61 = .ok (.iload 4, 2) := by decide +kernel
theorem dX4_bridges_63 : decode cX4_bridges 63 = .ok (.invokevirtual 54, 3) := by decide +kernel
theorem dX4_bridges_66 : decode cX4_bridges 66 = .ok (.iinc 4 1, 3) := by decide +kernel
theorem dX4_bridges_69 : decode cX4_bridges 69 = .ok (.goto (-47), 3) := by decide +kernel
theorem dX4_bridges_72 : decode cX4_bridges 72 = .ok (.iinc 3 1, 3) := by decide +kernel
theorem dX4_bridges_75 : decode cX4_bridges 75 = .ok (.goto (-66), 3) := by decide +kernel
theorem dX4_bridges_78 : decode cX4_bridges 78 = .ok (.iload_n 2, 1) := by decide +kernel
theorem dX4_bridges_79 : decode cX4_bridges 79 = .ok (.ireturn, 1) := by decide +kernel
set_option maxRecDepth 20000 in
theorem ggX4_alike_X4_around : GoodIn wsX4_alike wsX4_around := goodIn_r _ [6, 7, 8, 9, 10] (by decide +kernel) (by decide +kernel)
set_option maxRecDepth 20000 in
theorem gX4_alike_X4_around : GoodIn wsX4_alike (wsV RX4 28 RX4 yX4_around wsX4_around) := goodIn_app (goodIn_of _ (by decide +kernel)) ggX4_alike_X4_around
theorem dX4_alike_0 : decode cX4_alike 0 = .ok (.iconst 0, 1) := by decide +kernel
theorem dX4_alike_1 : decode cX4_alike 1 = .ok (.istore_n 3, 1) := by decide +kernel
theorem dX4_alike_2 : decode cX4_alike 2 = .ok (.iload_n 3, 1) := by decide +kernel
theorem dX4_alike_3 : decode cX4_alike 3 = .ok (.aload_n 0, 1) := by decide +kernel
theorem dX4_alike_4 : decode cX4_alike 4 = .ok (.getfield 18, 3) := by decide +kernel
theorem dX4_alike_7 : decode cX4_alike 7 = .ok (.if_icmp .ge 49, 3) := by decide +kernel
theorem dX4_alike_10 : decode cX4_alike 10 = .ok (.iload_n 1, 1) := by decide +kernel
theorem dX4_alike_11 : decode cX4_alike 11 = .ok (.iload_n 3, 1) := by decide +kernel
theorem dX4_alike_12 : decode cX4_alike 12 = .ok (.ishr, 1) := by decide +kernel
theorem dX4_alike_13 : decode cX4_alike 13 = .ok (.iconst 1, 1) := by decide +kernel
theorem dX4_alike_14 : decode cX4_alike 14 = .ok (.iand, 1) := by decide +kernel
theorem dX4_alike_15 : decode cX4_alike 15 = .ok (.ifCond .eq 35, 3) := by decide +kernel
theorem dX4_alike_18 : decode cX4_alike 18 = .ok (.iload_n 1, 1) := by decide +kernel
theorem dX4_alike_19 : decode cX4_alike 19 = .ok (.iconst 1, 1) := by decide +kernel
theorem dX4_alike_20 : decode cX4_alike 20 = .ok (.iload_n 3, 1) := by decide +kernel
theorem dX4_alike_21 : decode cX4_alike 21 = .ok (.ishl, 1) := by decide +kernel
theorem dX4_alike_22 : decode cX4_alike 22 = .ok (.iconst (-1), 1) := by decide +kernel
theorem dX4_alike_23 : decode cX4_alike 23 = .ok (.ixor, 1) := by decide +kernel
theorem dX4_alike_24 : decode cX4_alike 24 = .ok (.iand, 1) := by decide +kernel
theorem dX4_alike_25 : decode cX4_alike 25 = .ok (.istore 4, 2) := by decide +kernel
theorem dX4_alike_27 : decode cX4_alike 27 = .ok (.iload 4, 2) := by decide +kernel
theorem dX4_alike_29 : decode cX4_alike 29 = .ok (.aload_n 0, 1) := by decide +kernel
theorem dX4_alike_30 : decode cX4_alike 30 = .ok (.iload_n 3, 1) := by decide +kernel
theorem dX4_alike_31 : decode cX4_alike 31 = .ok (.invokevirtual 28, 3) := by decide +kernel
theorem dX4_alike_34 : decode cX4_alike 34 = .ok (.iand, 1) := by decide +kernel
theorem dX4_alike_35 : decode cX4_alike 35 = .ok (.iload_n 2, 1) := by decide +kernel
theorem dX4_alike_36 : decode cX4_alike 36 = .ok (.ifCond .eq 8, 3) := by decide +kernel
theorem dX4_alike_39 : decode cX4_alike 39 = .ok (.iload 4, 2) := by decide +kernel
theorem dX4_alike_41 : decode cX4_alike 41 = .ok (.goto 4, 3) := by decide +kernel
theorem dX4_alike_44 : decode cX4_alike 44 = .ok (.iconst 0, 1) := by decide +kernel
theorem dX4_alike_45 : decode cX4_alike 45 = .ok (.if_icmp .eq 5, 3) := by decide +kernel
theorem dX4_alike_48 : decode cX4_alike 48 = .ok (.iconst 0, 1) := by decide +kernel
theorem dX4_alike_49 : decode cX4_alike 49 = .ok (.ireturn, 1) := by decide +kernel
theorem dX4_alike_50 : decode cX4_alike 50 = .ok (.iinc 3 1, 3) := by decide +kernel
theorem dX4_alike_53 : decode cX4_alike 53 = .ok (.goto (-51), 3) := by decide +kernel
theorem dX4_alike_56 : decode cX4_alike 56 = .ok (.iconst 1, 1) := by decide +kernel
theorem dX4_alike_57 : decode cX4_alike 57 = .ok (.ireturn, 1) := by decide +kernel
set_option maxRecDepth 20000 in
theorem ggX4_mostAlike_J6_bitCount_0f7a4 : GoodIn wsX4_mostAlike wsJ6_bitCount_0f7a4 := goodIn_r _ [5, 6, 7, 8] (by decide +kernel) (by decide +kernel)
set_option maxRecDepth 20000 in
theorem gX4_mostAlike_J6_bitCount_0f7a4 : GoodIn wsX4_mostAlike (va_wsS RX4 32 yJ6_bitCount_0f7a4 wsJ6_bitCount_0f7a4) := goodIn_app (goodIn_of _ (by decide +kernel)) ggX4_mostAlike_J6_bitCount_0f7a4
set_option maxRecDepth 20000 in
theorem ggX4_mostAlike_X4_alike : GoodIn wsX4_mostAlike wsX4_alike := goodIn_r _ [13, 1, 14, 15, 16, 12, 17, 18, 19, 20, 21] (by decide +kernel) (by decide +kernel)
set_option maxRecDepth 20000 in
theorem gX4_mostAlike_X4_alike : GoodIn wsX4_mostAlike (wsV RX4 73 RX4 yX4_alike wsX4_alike) := goodIn_app (goodIn_of _ (by decide +kernel)) ggX4_mostAlike_X4_alike
theorem dX4_mostAlike_0 : decode cX4_mostAlike 0 = .ok (.iconst 0, 1) := by decide +kernel
theorem dX4_mostAlike_1 : decode cX4_mostAlike 1 = .ok (.istore_n 2, 1) := by decide +kernel
theorem dX4_mostAlike_2 : decode cX4_mostAlike 2 = .ok (.iconst 1, 1) := by decide +kernel
theorem dX4_mostAlike_3 : decode cX4_mostAlike 3 = .ok (.istore_n 3, 1) := by decide +kernel
theorem dX4_mostAlike_4 : decode cX4_mostAlike 4 = .ok (.iload_n 3, 1) := by decide +kernel
theorem dX4_mostAlike_5 : decode cX4_mostAlike 5 = .ok (.iconst 1, 1) := by decide +kernel
theorem dX4_mostAlike_6 : decode cX4_mostAlike 6 = .ok (.aload_n 0, 1) := by decide +kernel
theorem dX4_mostAlike_7 : decode cX4_mostAlike 7 = .ok (.getfield 18, 3) := by decide +kernel
theorem dX4_mostAlike_10 : decode cX4_mostAlike 10 = .ok (.ishl, 1) := by decide +kernel
theorem dX4_mostAlike_11 : decode cX4_mostAlike 11 = .ok (.if_icmp .ge 31, 3) := by decide +kernel
theorem dX4_mostAlike_14 : decode cX4_mostAlike 14 = .ok (.iload_n 3, 1) := by decide +kernel
theorem dX4_mostAlike_15 : decode cX4_mostAlike 15 = .ok (.invokestatic 32, 3) := by decide +kernel
theorem dX4_mostAlike_18 : decode cX4_mostAlike 18 = .ok (.iload_n 2, 1) := by decide +kernel
theorem dX4_mostAlike_19 : decode cX4_mostAlike 19 = .ok (.invokestatic 32, 3) := by decide +kernel
theorem dX4_mostAlike_22 : decode cX4_mostAlike 22 = .ok (.if_icmp .le 14, 3) := by decide +kernel
theorem dX4_mostAlike_25 : decode cX4_mostAlike 25 = .ok (.aload_n 0, 1) := by decide +kernel
theorem dX4_mostAlike_26 : decode cX4_mostAlike 26 = .ok (.iload_n 3, 1) := by decide +kernel
theorem dX4_mostAlike_27 : decode cX4_mostAlike 27 = .ok (.iload_n 1, 1) := by decide +kernel
theorem dX4_mostAlike_28 : decode cX4_mostAlike 28 = .ok (.invokevirtual 73, 3) := by decide +kernel
theorem dX4_mostAlike_31 : decode cX4_mostAlike 31 = .ok (.ifCond .eq 5, 3) := by decide +kernel
theorem dX4_mostAlike_34 : decode cX4_mostAlike 34 = .ok (.iload_n 3, 1) := by decide +kernel
theorem dX4_mostAlike_35 : decode cX4_mostAlike 35 = .ok (.istore_n 2, 1) := by decide +kernel
theorem dX4_mostAlike_36 : decode cX4_mostAlike 36 = .ok (.iinc 3 1, 3) := by decide +kernel
theorem dX4_mostAlike_39 : decode cX4_mostAlike 39 = .ok (.goto (-35), 3) := by decide +kernel
theorem dX4_mostAlike_42 : decode cX4_mostAlike 42 = .ok (.iload_n 2, 1) := by decide +kernel
theorem dX4_mostAlike_43 : decode cX4_mostAlike 43 = .ok (.ireturn, 1) := by decide +kernel
theorem dX4_bestOf_0 : decode cX4_bestOf 0 = .ok (.iload_n 1, 1) := by decide +kernel
theorem dX4_bestOf_1 : decode cX4_bestOf 1 = .ok (.ifCond .lt 21, 3) := by decide +kernel
theorem dX4_bestOf_4 : decode cX4_bestOf 4 = .ok (.iload_n 1, 1) := by decide +kernel
theorem dX4_bestOf_5 : decode cX4_bestOf 5 = .ok (.aload_n 0, 1) := by decide +kernel
theorem dX4_bestOf_6 : decode cX4_bestOf 6 = .ok (.getfield 15, 3) := by decide +kernel
theorem dX4_bestOf_9 : decode cX4_bestOf 9 = .ok (.arraylength, 1) := by decide +kernel
theorem dX4_bestOf_10 : decode cX4_bestOf 10 = .ok (.if_icmp .ge 12, 3) := by decide +kernel
theorem dX4_bestOf_13 : decode cX4_bestOf 13 = .ok (.aload_n 0, 1) := by decide +kernel
theorem dX4_bestOf_14 : decode cX4_bestOf 14 = .ok (.getfield 15, 3) := by decide +kernel
theorem dX4_bestOf_17 : decode cX4_bestOf 17 = .ok (.iload_n 1, 1) := by decide +kernel
theorem dX4_bestOf_18 : decode cX4_bestOf 18 = .ok (.iaload, 1) := by decide +kernel
theorem dX4_bestOf_19 : decode cX4_bestOf 19 = .ok (.goto 4, 3) := by decide +kernel
theorem dX4_bestOf_22 : decode cX4_bestOf 22 = .ok (.iconst 0, 1) := by decide +kernel
theorem dX4_bestOf_23 : decode cX4_bestOf 23 = .ok (.ireturn, 1) := by decide +kernel
theorem dX4_setBest_0 : decode cX4_setBest 0 = .ok (.iload_n 1, 1) := by decide +kernel
theorem dX4_setBest_1 : decode cX4_setBest 1 = .ok (.ifCond .lt 19, 3) := by decide +kernel
theorem dX4_setBest_4 : decode cX4_setBest 4 = .ok (.iload_n 1, 1) := by decide +kernel
theorem dX4_setBest_5 : decode cX4_setBest 5 = .ok (.aload_n 0, 1) := by decide +kernel
theorem dX4_setBest_6 : decode cX4_setBest 6 = .ok (.getfield 15, 3) := by decide +kernel
theorem dX4_setBest_9 : decode cX4_setBest 9 = .ok (.arraylength, 1) := by decide +kernel
theorem dX4_setBest_10 : decode cX4_setBest 10 = .ok (.if_icmp .ge 10, 3) := by decide +kernel
theorem dX4_setBest_13 : decode cX4_setBest 13 = .ok (.aload_n 0, 1) := by decide +kernel
theorem dX4_setBest_14 : decode cX4_setBest 14 = .ok (.getfield 15, 3) := by decide +kernel
theorem dX4_setBest_17 : decode cX4_setBest 17 = .ok (.iload_n 1, 1) := by decide +kernel
theorem dX4_setBest_18 : decode cX4_setBest 18 = .ok (.iload_n 2, 1) := by decide +kernel
theorem dX4_setBest_19 : decode cX4_setBest 19 = .ok (.iastore, 1) := by decide +kernel
theorem dX4_setBest_20 : decode cX4_setBest 20 = .ok (.return_, 1) := by decide +kernel
set_option maxRecDepth 20000 in
theorem ggX4_fewestPews_X4_pewsWith : GoodIn wsX4_fewestPews wsX4_pewsWith := goodIn_r _ [6, 7, 8, 9, 10, 11, 12, 13, 5, 14, 1, 15, 16, 17, 18, 19, 20, 21, 22, 23, 24, 29, 30, 31] (by decide +kernel) (by decide +kernel)
set_option maxRecDepth 20000 in
theorem gX4_fewestPews_X4_pewsWith : GoodIn wsX4_fewestPews (wsV RX4 77 RX4 yX4_pewsWith wsX4_pewsWith) := goodIn_app (goodIn_of _ (by decide +kernel)) ggX4_fewestPews_X4_pewsWith
set_option maxRecDepth 20000 in
theorem ggX4_fewestPews_X4_setBest : GoodIn wsX4_fewestPews wsX4_setBest := goodIn_r _ [28, 24, 29, 30, 31] (by decide +kernel) (by decide +kernel)
set_option maxRecDepth 20000 in
theorem gX4_fewestPews_X4_setBest : GoodIn wsX4_fewestPews (wsV RX4 80 RX4 yX4_setBest wsX4_setBest) := goodIn_app (goodIn_of _ (by decide +kernel)) ggX4_fewestPews_X4_setBest
set_option maxRecDepth 20000 in
theorem ggX4_fewestPews_X4_bestOf : GoodIn wsX4_fewestPews wsX4_bestOf := goodIn_r _ [23, 24, 29, 30, 31] (by decide +kernel) (by decide +kernel)
set_option maxRecDepth 20000 in
theorem gX4_fewestPews_X4_bestOf : GoodIn wsX4_fewestPews (wsV RX4 83 RX4 yX4_bestOf wsX4_bestOf) := goodIn_app (goodIn_of _ (by decide +kernel)) ggX4_fewestPews_X4_bestOf
theorem dX4_fewestPews_0 : decode cX4_fewestPews 0 = .ok (.iconst 0, 1) := by decide +kernel
theorem dX4_fewestPews_1 : decode cX4_fewestPews 1 = .ok (.istore_n 1, 1) := by decide +kernel
theorem dX4_fewestPews_2 : decode cX4_fewestPews 2 = .ok (.iload_n 1, 1) := by decide +kernel
theorem dX4_fewestPews_3 : decode cX4_fewestPews 3 = .ok (.aload_n 0, 1) := by decide +kernel
theorem dX4_fewestPews_4 : decode cX4_fewestPews 4 = .ok (.getfield 18, 3) := by decide +kernel
theorem dX4_fewestPews_7 : decode cX4_fewestPews 7 = .ok (.if_icmp .ge 39, 3) := by decide +kernel
theorem dX4_fewestPews_10 : decode cX4_fewestPews 10 = .ok (.iconst 0, 1) := by decide +kernel
theorem dX4_fewestPews_11 : decode cX4_fewestPews 11 = .ok (.istore_n 2, 1) := by decide +kernel
theorem dX4_fewestPews_12 : decode cX4_fewestPews 12 = .ok (.iload_n 2, 1) := by decide +kernel
theorem dX4_fewestPews_13 : decode cX4_fewestPews 13 = .ok (.iconst 1, 1) := by decide +kernel
theorem dX4_fewestPews_14 : decode cX4_fewestPews 14 = .ok (.iload_n 1, 1) := by decide +kernel
theorem dX4_fewestPews_15 : decode cX4_fewestPews 15 = .ok (.ishl, 1) := by decide +kernel
theorem dX4_fewestPews_16 : decode cX4_fewestPews 16 = .ok (.if_icmp .ge 24, 3) := by decide +kernel
theorem dX4_fewestPews_19 : decode cX4_fewestPews 19 = .ok (.aload_n 0, 1) := by decide +kernel
theorem dX4_fewestPews_20 : decode cX4_fewestPews 20 = .ok (.iload_n 2, 1) := by decide +kernel
theorem dX4_fewestPews_21 : decode cX4_fewestPews 21 = .ok (.iconst 1, 1) := by decide +kernel
theorem dX4_fewestPews_22 : decode cX4_fewestPews 22 = .ok (.iload_n 1, 1) := by decide +kernel
theorem dX4_fewestPews_23 : decode cX4_fewestPews 23 = .ok (.ishl, 1) := by decide +kernel
theorem dX4_fewestPews_24 : decode cX4_fewestPews 24 = .ok (.ior, 1) := by decide +kernel
theorem dX4_fewestPews_25 : decode cX4_fewestPews 25 = .ok (.aload_n 0, 1) := by decide +kernel
theorem dX4_fewestPews_26 : decode cX4_fewestPews 26 = .ok (.iload_n 1, 1) := by decide +kernel
theorem dX4_fewestPews_27 : decode cX4_fewestPews 27 = .ok (.iload_n 2, 1) := by decide +kernel
theorem dX4_fewestPews_28 : decode cX4_fewestPews 28 = .ok (.invokevirtual 77, 3) := by decide +kernel
theorem dX4_fewestPews_31 : decode cX4_fewestPews 31 = .ok (.invokevirtual 80, 3) := by decide +kernel
theorem dX4_fewestPews_34 : decode cX4_fewestPews 34 = .ok (.iinc 2 1, 3) := by decide +kernel
theorem dX4_fewestPews_37 : decode cX4_fewestPews 37 = .ok (.goto (-25), 3) := by decide +kernel
theorem dX4_fewestPews_40 : decode cX4_fewestPews 40 = .ok (.iinc 1 1, 3) := by decide +kernel
theorem dX4_fewestPews_43 : decode cX4_fewestPews 43 = .ok (.goto (-41), 3) := by decide +kernel
theorem dX4_fewestPews_46 : decode cX4_fewestPews 46 = .ok (.aload_n 0, 1) := by decide +kernel
theorem dX4_fewestPews_47 : decode cX4_fewestPews 47 = .ok (.iconst 1, 1) := by decide +kernel
theorem dX4_fewestPews_48 : decode cX4_fewestPews 48 = .ok (.aload_n 0, 1) := by decide +kernel
theorem dX4_fewestPews_49 : decode cX4_fewestPews 49 = .ok (.getfield 18, 3) := by decide +kernel
theorem dX4_fewestPews_52 : decode cX4_fewestPews 52 = .ok (.ishl, 1) := by decide +kernel
theorem dX4_fewestPews_53 : decode cX4_fewestPews 53 = .ok (.iconst 1, 1) := by decide +kernel
theorem dX4_fewestPews_54 : decode cX4_fewestPews 54 = .ok (.isub, 1) := by decide +kernel
theorem dX4_fewestPews_55 : decode cX4_fewestPews 55 = .ok (.invokevirtual 83, 3) := by decide +kernel
theorem dX4_fewestPews_58 : decode cX4_fewestPews 58 = .ok (.ireturn, 1) := by decide +kernel
set_option maxRecDepth 20000 in
theorem ggX4_pewsWith_X4_alike : GoodIn wsX4_pewsWith wsX4_alike := goodIn_r _ [9, 10, 11, 12, 13, 8, 14, 15, 21, 22, 23] (by decide +kernel) (by decide +kernel)
set_option maxRecDepth 20000 in
theorem gX4_pewsWith_X4_alike : GoodIn wsX4_pewsWith (wsV RX4 73 RX4 yX4_alike wsX4_alike) := goodIn_app (goodIn_of _ (by decide +kernel)) ggX4_pewsWith_X4_alike
set_option maxRecDepth 20000 in
theorem ggX4_pewsWith_X4_bestOf : GoodIn wsX4_pewsWith wsX4_bestOf := goodIn_r _ [19, 20, 21, 22, 23] (by decide +kernel) (by decide +kernel)
set_option maxRecDepth 20000 in
theorem gX4_pewsWith_X4_bestOf : GoodIn wsX4_pewsWith (wsV RX4 83 RX4 yX4_bestOf wsX4_bestOf) := goodIn_app (goodIn_of _ (by decide +kernel)) ggX4_pewsWith_X4_bestOf
theorem dX4_pewsWith_0 : decode cX4_pewsWith 0 = .ok (.bipush 9, 2) := by decide +kernel
theorem dX4_pewsWith_2 : decode cX4_pewsWith 2 = .ok (.istore_n 3, 1) := by decide +kernel
theorem dX4_pewsWith_3 : decode cX4_pewsWith 3 = .ok (.iconst 0, 1) := by decide +kernel
theorem dX4_pewsWith_4 : decode cX4_pewsWith 4 = .ok (.istore 4, 2) := by decide +kernel
theorem dX4_pewsWith_6 : decode cX4_pewsWith 6 = .ok (.iload 4, 2) := by decide +kernel
theorem dX4_pewsWith_8 : decode cX4_pewsWith 8 = .ok (.iload_n 2, 1) := by decide +kernel
theorem dX4_pewsWith_9 : decode cX4_pewsWith 9 = .ok (.if_icmp .gt 49, 3) := by decide +kernel
theorem dX4_pewsWith_12 : decode cX4_pewsWith 12 = .ok (.iload 4, 2) := by decide +kernel
theorem dX4_pewsWith_14 : decode cX4_pewsWith 14 = .ok (.iload_n 2, 1) := by decide +kernel
theorem dX4_pewsWith_15 : decode cX4_pewsWith 15 = .ok (.iconst (-1), 1) := by decide +kernel
theorem dX4_pewsWith_16 : decode cX4_pewsWith 16 = .ok (.ixor, 1) := by decide +kernel
theorem dX4_pewsWith_17 : decode cX4_pewsWith 17 = .ok (.iand, 1) := by decide +kernel
theorem dX4_pewsWith_18 : decode cX4_pewsWith 18 = .ok (.ifCond .ne 34, 3) := by decide +kernel
theorem dX4_pewsWith_21 : decode cX4_pewsWith 21 = .ok (.aload_n 0, 1) := by decide +kernel
theorem dX4_pewsWith_22 : decode cX4_pewsWith 22 = .ok (.iload 4, 2) := by decide +kernel
theorem dX4_pewsWith_24 : decode cX4_pewsWith 24 = .ok (.iconst 1, 1) := by decide +kernel
theorem dX4_pewsWith_25 : decode cX4_pewsWith 25 = .ok (.iload_n 1, 1) := by decide +kernel
theorem dX4_pewsWith_26 : decode cX4_pewsWith 26 = .ok (.ishl, 1) := by decide +kernel
theorem dX4_pewsWith_27 : decode cX4_pewsWith 27 = .ok (.ior, 1) := by decide +kernel
theorem dX4_pewsWith_28 : decode cX4_pewsWith 28 = .ok (.iconst 0, 1) := by decide +kernel
theorem dX4_pewsWith_29 : decode cX4_pewsWith 29 = .ok (.invokevirtual 73, 3) := by decide +kernel
theorem dX4_pewsWith_32 : decode cX4_pewsWith 32 = .ok (.ifCond .eq 20, 3) := by decide +kernel
theorem dX4_pewsWith_35 : decode cX4_pewsWith 35 = .ok (.iload_n 3, 1) := by decide +kernel
theorem dX4_pewsWith_36 : decode cX4_pewsWith 36 = .ok (.iconst 1, 1) := by decide +kernel
theorem dX4_pewsWith_37 : decode cX4_pewsWith 37 = .ok (.aload_n 0, 1) := by decide +kernel
theorem dX4_pewsWith_38 : decode cX4_pewsWith 38 = .ok (.iload_n 2, 1) := by decide +kernel
theorem dX4_pewsWith_39 : decode cX4_pewsWith 39 = .ok (.iload 4, 2) := by decide +kernel
theorem dX4_pewsWith_41 : decode cX4_pewsWith 41 = .ok (.iconst (-1), 1) := by decide +kernel
theorem dX4_pewsWith_42 : decode cX4_pewsWith 42 = .ok (.ixor, 1) := by decide +kernel
theorem dX4_pewsWith_43 : decode cX4_pewsWith 43 = .ok (.iand, 1) := by decide +kernel
theorem dX4_pewsWith_44 : decode cX4_pewsWith 44 = .ok (.invokevirtual 83, 3) := by decide +kernel
theorem dX4_pewsWith_47 : decode cX4_pewsWith 47 = .ok (.iadd, 1) := by decide +kernel
theorem dX4_pewsWith_48 : decode cX4_pewsWith 48 = .ok (.invokestatic 86, 3) := by decide +kernel
theorem dX4_pewsWith_51 : decode cX4_pewsWith 51 = .ok (.istore_n 3, 1) := by decide +kernel
theorem dX4_pewsWith_52 : decode cX4_pewsWith 52 = .ok (.iinc 4 1, 3) := by decide +kernel
theorem dX4_pewsWith_55 : decode cX4_pewsWith 55 = .ok (.goto (-49), 3) := by decide +kernel
theorem dX4_pewsWith_58 : decode cX4_pewsWith 58 = .ok (.iload_n 3, 1) := by decide +kernel
theorem dX4_pewsWith_59 : decode cX4_pewsWith 59 = .ok (.ireturn, 1) := by decide +kernel
set_option maxRecDepth 20000 in
theorem ggX4_mostTwos_X4_twosWith : GoodIn wsX4_mostTwos wsX4_twosWith := goodIn_r _ [6, 7, 8, 9, 10, 11, 12, 13, 5, 14, 15, 16, 17, 18, 19, 20, 25, 26, 27] (by decide +kernel) (by decide +kernel)
set_option maxRecDepth 20000 in
theorem gX4_mostTwos_X4_twosWith : GoodIn wsX4_mostTwos (wsV RX4 89 RX4 yX4_twosWith wsX4_twosWith) := goodIn_app (goodIn_of _ (by decide +kernel)) ggX4_mostTwos_X4_twosWith
set_option maxRecDepth 20000 in
theorem ggX4_mostTwos_X4_setBest : GoodIn wsX4_mostTwos wsX4_setBest := goodIn_r _ [24, 15, 25, 26, 27] (by decide +kernel) (by decide +kernel)
set_option maxRecDepth 20000 in
theorem gX4_mostTwos_X4_setBest : GoodIn wsX4_mostTwos (wsV RX4 80 RX4 yX4_setBest wsX4_setBest) := goodIn_app (goodIn_of _ (by decide +kernel)) ggX4_mostTwos_X4_setBest
set_option maxRecDepth 20000 in
theorem ggX4_mostTwos_X4_bestOf : GoodIn wsX4_mostTwos wsX4_bestOf := goodIn_r _ [14, 15, 25, 26, 27] (by decide +kernel) (by decide +kernel)
set_option maxRecDepth 20000 in
theorem gX4_mostTwos_X4_bestOf : GoodIn wsX4_mostTwos (wsV RX4 83 RX4 yX4_bestOf wsX4_bestOf) := goodIn_app (goodIn_of _ (by decide +kernel)) ggX4_mostTwos_X4_bestOf
theorem dX4_mostTwos_0 : decode cX4_mostTwos 0 = .ok (.iconst 0, 1) := by decide +kernel
theorem dX4_mostTwos_1 : decode cX4_mostTwos 1 = .ok (.istore_n 1, 1) := by decide +kernel
theorem dX4_mostTwos_2 : decode cX4_mostTwos 2 = .ok (.iload_n 1, 1) := by decide +kernel
theorem dX4_mostTwos_3 : decode cX4_mostTwos 3 = .ok (.aload_n 0, 1) := by decide +kernel
theorem dX4_mostTwos_4 : decode cX4_mostTwos 4 = .ok (.getfield 18, 3) := by decide +kernel
theorem dX4_mostTwos_7 : decode cX4_mostTwos 7 = .ok (.if_icmp .ge 39, 3) := by decide +kernel
theorem dX4_mostTwos_10 : decode cX4_mostTwos 10 = .ok (.iconst 0, 1) := by decide +kernel
theorem dX4_mostTwos_11 : decode cX4_mostTwos 11 = .ok (.istore_n 2, 1) := by decide +kernel
theorem dX4_mostTwos_12 : decode cX4_mostTwos 12 = .ok (.iload_n 2, 1) := by decide +kernel
theorem dX4_mostTwos_13 : decode cX4_mostTwos 13 = .ok (.iconst 1, 1) := by decide +kernel
theorem dX4_mostTwos_14 : decode cX4_mostTwos 14 = .ok (.iload_n 1, 1) := by decide +kernel
theorem dX4_mostTwos_15 : decode cX4_mostTwos 15 = .ok (.ishl, 1) := by decide +kernel
theorem dX4_mostTwos_16 : decode cX4_mostTwos 16 = .ok (.if_icmp .ge 24, 3) := by decide +kernel
theorem dX4_mostTwos_19 : decode cX4_mostTwos 19 = .ok (.aload_n 0, 1) := by decide +kernel
theorem dX4_mostTwos_20 : decode cX4_mostTwos 20 = .ok (.iload_n 2, 1) := by decide +kernel
theorem dX4_mostTwos_21 : decode cX4_mostTwos 21 = .ok (.iconst 1, 1) := by decide +kernel
theorem dX4_mostTwos_22 : decode cX4_mostTwos 22 = .ok (.iload_n 1, 1) := by decide +kernel
theorem dX4_mostTwos_23 : decode cX4_mostTwos 23 = .ok (.ishl, 1) := by decide +kernel
theorem dX4_mostTwos_24 : decode cX4_mostTwos 24 = .ok (.ior, 1) := by decide +kernel
theorem dX4_mostTwos_25 : decode cX4_mostTwos 25 = .ok (.aload_n 0, 1) := by decide +kernel
theorem dX4_mostTwos_26 : decode cX4_mostTwos 26 = .ok (.iload_n 1, 1) := by decide +kernel
theorem dX4_mostTwos_27 : decode cX4_mostTwos 27 = .ok (.iload_n 2, 1) := by decide +kernel
theorem dX4_mostTwos_28 : decode cX4_mostTwos 28 = .ok (.invokevirtual 89, 3) := by decide +kernel
theorem dX4_mostTwos_31 : decode cX4_mostTwos 31 = .ok (.invokevirtual 80, 3) := by decide +kernel
theorem dX4_mostTwos_34 : decode cX4_mostTwos 34 = .ok (.iinc 2 1, 3) := by decide +kernel
theorem dX4_mostTwos_37 : decode cX4_mostTwos 37 = .ok (.goto (-25), 3) := by decide +kernel
theorem dX4_mostTwos_40 : decode cX4_mostTwos 40 = .ok (.iinc 1 1, 3) := by decide +kernel
theorem dX4_mostTwos_43 : decode cX4_mostTwos 43 = .ok (.goto (-41), 3) := by decide +kernel
theorem dX4_mostTwos_46 : decode cX4_mostTwos 46 = .ok (.aload_n 0, 1) := by decide +kernel
theorem dX4_mostTwos_47 : decode cX4_mostTwos 47 = .ok (.iconst 1, 1) := by decide +kernel
theorem dX4_mostTwos_48 : decode cX4_mostTwos 48 = .ok (.aload_n 0, 1) := by decide +kernel
theorem dX4_mostTwos_49 : decode cX4_mostTwos 49 = .ok (.getfield 18, 3) := by decide +kernel
theorem dX4_mostTwos_52 : decode cX4_mostTwos 52 = .ok (.ishl, 1) := by decide +kernel
theorem dX4_mostTwos_53 : decode cX4_mostTwos 53 = .ok (.iconst 1, 1) := by decide +kernel
theorem dX4_mostTwos_54 : decode cX4_mostTwos 54 = .ok (.isub, 1) := by decide +kernel
theorem dX4_mostTwos_55 : decode cX4_mostTwos 55 = .ok (.invokevirtual 83, 3) := by decide +kernel
theorem dX4_mostTwos_58 : decode cX4_mostTwos 58 = .ok (.ireturn, 1) := by decide +kernel
set_option maxRecDepth 20000 in
theorem ggX4_twosWith_X4_bestOf : GoodIn wsX4_twosWith wsX4_bestOf := goodIn_r _ [9, 10, 16, 17, 18] (by decide +kernel) (by decide +kernel)
set_option maxRecDepth 20000 in
theorem gX4_twosWith_X4_bestOf : GoodIn wsX4_twosWith (wsV RX4 83 RX4 yX4_bestOf wsX4_bestOf) := goodIn_app (goodIn_of _ (by decide +kernel)) ggX4_twosWith_X4_bestOf
set_option maxRecDepth 20000 in
theorem ggX4_twosWith_X4_around : GoodIn wsX4_twosWith wsX4_around := goodIn_r _ [14, 15, 16, 17, 18] (by decide +kernel) (by decide +kernel)
set_option maxRecDepth 20000 in
theorem gX4_twosWith_X4_around : GoodIn wsX4_twosWith (wsV RX4 28 RX4 yX4_around wsX4_around) := goodIn_app (goodIn_of _ (by decide +kernel)) ggX4_twosWith_X4_around
theorem dX4_twosWith_0 : decode cX4_twosWith 0 = .ok (.aload_n 0, 1) := by decide +kernel
theorem dX4_twosWith_1 : decode cX4_twosWith 1 = .ok (.iload_n 2, 1) := by decide +kernel
theorem dX4_twosWith_2 : decode cX4_twosWith 2 = .ok (.invokevirtual 83, 3) := by decide +kernel
theorem dX4_twosWith_5 : decode cX4_twosWith 5 = .ok (.istore_n 3, 1) := by decide +kernel
theorem dX4_twosWith_6 : decode cX4_twosWith 6 = .ok (.iconst 0, 1) := by decide +kernel
theorem dX4_twosWith_7 : decode cX4_twosWith 7 = .ok (.istore 4, 2) := by decide +kernel
theorem dX4_twosWith_9 : decode cX4_twosWith 9 = .ok (.iload 4, 2) := by decide +kernel
theorem dX4_twosWith_11 : decode cX4_twosWith 11 = .ok (.iload_n 1, 1) := by decide +kernel
theorem dX4_twosWith_12 : decode cX4_twosWith 12 = .ok (.if_icmp .ge 43, 3) := by decide +kernel
theorem dX4_twosWith_15 : decode cX4_twosWith 15 = .ok (.iload_n 2, 1) := by decide +kernel
theorem dX4_twosWith_16 : decode cX4_twosWith 16 = .ok (.aload_n 0, 1) := by decide +kernel
theorem dX4_twosWith_17 : decode cX4_twosWith 17 = .ok (.iload_n 1, 1) := by decide +kernel
theorem dX4_twosWith_18 : decode cX4_twosWith 18 = .ok (.invokevirtual 28, 3) := by decide +kernel
theorem dX4_twosWith_21 : decode cX4_twosWith 21 = .ok (.iand, 1) := by decide +kernel
theorem dX4_twosWith_22 : decode cX4_twosWith 22 = .ok (.iconst 1, 1) := by decide +kernel
theorem dX4_twosWith_23 : decode cX4_twosWith 23 = .ok (.iload 4, 2) := by decide +kernel
theorem dX4_twosWith_25 : decode cX4_twosWith 25 = .ok (.ishl, 1) := by decide +kernel
theorem dX4_twosWith_26 : decode cX4_twosWith 26 = .ok (.iand, 1) := by decide +kernel
theorem dX4_twosWith_27 : decode cX4_twosWith 27 = .ok (.ifCond .eq 22, 3) := by decide +kernel
theorem dX4_twosWith_30 : decode cX4_twosWith 30 = .ok (.iload_n 3, 1) := by decide +kernel
theorem dX4_twosWith_31 : decode cX4_twosWith 31 = .ok (.iconst 1, 1) := by decide +kernel
theorem dX4_twosWith_32 : decode cX4_twosWith 32 = .ok (.aload_n 0, 1) := by decide +kernel
theorem dX4_twosWith_33 : decode cX4_twosWith 33 = .ok (.iload_n 2, 1) := by decide +kernel
theorem dX4_twosWith_34 : decode cX4_twosWith 34 = .ok (.iconst 1, 1) := by decide +kernel
theorem dX4_twosWith_35 : decode cX4_twosWith 35 = .ok (.iload 4, 2) := by decide +kernel
theorem dX4_twosWith_37 : decode cX4_twosWith 37 = .ok (.ishl, 1) := by decide +kernel
theorem dX4_twosWith_38 : decode cX4_twosWith 38 = .ok (.iconst (-1), 1) := by decide +kernel
theorem dX4_twosWith_39 : decode cX4_twosWith 39 = .ok (.ixor, 1) := by decide +kernel
theorem dX4_twosWith_40 : decode cX4_twosWith 40 = .ok (.iand, 1) := by decide +kernel
theorem dX4_twosWith_41 : decode cX4_twosWith 41 = .ok (.invokevirtual 83, 3) := by decide +kernel
theorem dX4_twosWith_44 : decode cX4_twosWith 44 = .ok (.iadd, 1) := by decide +kernel
theorem dX4_twosWith_45 : decode cX4_twosWith 45 = .ok (.invokestatic 65, 3) := by decide +kernel
theorem dX4_twosWith_48 : decode cX4_twosWith 48 = .ok (.istore_n 3, 1) := by decide +kernel
theorem dX4_twosWith_49 : decode cX4_twosWith 49 = .ok (.iinc 4 1, 3) := by decide +kernel
theorem dX4_twosWith_52 : decode cX4_twosWith 52 = .ok (.goto (-43), 3) := by decide +kernel
theorem dX4_twosWith_55 : decode cX4_twosWith 55 = .ok (.iload_n 3, 1) := by decide +kernel
theorem dX4_twosWith_56 : decode cX4_twosWith 56 = .ok (.ireturn, 1) := by decide +kernel
set_option maxRecDepth 20000 in
theorem ggX4_mateOf_X4_mostTwos : GoodIn wsX4_mateOf wsX4_mostTwos := goodIn_r _ [6, 1, 7, 8, 9, 5, 10, 11, 12, 13, 14, 15, 16, 17, 18, 19, 20, 21, 22, 23, 24, 25, 26, 27, 28, 33, 34, 35] (by decide +kernel) (by decide +kernel)
set_option maxRecDepth 20000 in
theorem gX4_mateOf_X4_mostTwos : GoodIn wsX4_mateOf (wsV RX4 92 RX4 yX4_mostTwos wsX4_mostTwos) := goodIn_app (goodIn_of _ (by decide +kernel)) ggX4_mateOf_X4_mostTwos
set_option maxRecDepth 20000 in
theorem ggX4_mateOf_X4_firstMate : GoodIn wsX4_mateOf wsX4_firstMate := goodIn_r _ [32, 1, 20, 21, 22, 5, 23, 24, 15, 16, 17, 18, 19, 33, 34, 35] (by decide +kernel) (by decide +kernel)
set_option maxRecDepth 20000 in
theorem gX4_mateOf_X4_firstMate : GoodIn wsX4_mateOf (wsV RX4 95 RX4 yX4_firstMate wsX4_firstMate) := goodIn_app (goodIn_of _ (by decide +kernel)) ggX4_mateOf_X4_firstMate
theorem dX4_mateOf_0 : decode cX4_mateOf 0 = .ok (.aload_n 0, 1) := by decide +kernel
theorem dX4_mateOf_1 : decode cX4_mateOf 1 = .ok (.invokevirtual 92, 3) := by decide +kernel
theorem dX4_mateOf_4 : decode cX4_mateOf 4 = .ok (.pop, 1) := by decide +kernel
theorem dX4_mateOf_5 : decode cX4_mateOf 5 = .ok (.iconst 1, 1) := by decide +kernel
theorem dX4_mateOf_6 : decode cX4_mateOf 6 = .ok (.aload_n 0, 1) := by decide +kernel
theorem dX4_mateOf_7 : decode cX4_mateOf 7 = .ok (.getfield 18, 3) := by decide +kernel
theorem dX4_mateOf_10 : decode cX4_mateOf 10 = .ok (.ishl, 1) := by decide +kernel
theorem dX4_mateOf_11 : decode cX4_mateOf 11 = .ok (.iconst 1, 1) := by decide +kernel
theorem dX4_mateOf_12 : decode cX4_mateOf 12 = .ok (.isub, 1) := by decide +kernel
theorem dX4_mateOf_13 : decode cX4_mateOf 13 = .ok (.istore_n 2, 1) := by decide +kernel
theorem dX4_mateOf_14 : decode cX4_mateOf 14 = .ok (.iconst 0, 1) := by decide +kernel
theorem dX4_mateOf_15 : decode cX4_mateOf 15 = .ok (.istore_n 3, 1) := by decide +kernel
theorem dX4_mateOf_16 : decode cX4_mateOf 16 = .ok (.iload_n 3, 1) := by decide +kernel
theorem dX4_mateOf_17 : decode cX4_mateOf 17 = .ok (.aload_n 0, 1) := by decide +kernel
theorem dX4_mateOf_18 : decode cX4_mateOf 18 = .ok (.getfield 18, 3) := by decide +kernel
theorem dX4_mateOf_21 : decode cX4_mateOf 21 = .ok (.if_icmp .ge 63, 3) := by decide +kernel
theorem dX4_mateOf_24 : decode cX4_mateOf 24 = .ok (.iload_n 2, 1) := by decide +kernel
theorem dX4_mateOf_25 : decode cX4_mateOf 25 = .ok (.iload_n 3, 1) := by decide +kernel
theorem dX4_mateOf_26 : decode cX4_mateOf 26 = .ok (.ishr, 1) := by decide +kernel
theorem dX4_mateOf_27 : decode cX4_mateOf 27 = .ok (.iconst 1, 1) := by decide +kernel
theorem dX4_mateOf_28 : decode cX4_mateOf 28 = .ok (.iand, 1) := by decide +kernel
theorem dX4_mateOf_29 : decode cX4_mateOf 29 = .ok (.ifCond .eq 49, 3) := by decide +kernel
theorem dX4_mateOf_32 : decode cX4_mateOf 32 = .ok (.aload_n 0, 1) := by decide +kernel
theorem dX4_mateOf_33 : decode cX4_mateOf 33 = .ok (.iload_n 3, 1) := by decide +kernel
theorem dX4_mateOf_34 : decode cX4_mateOf 34 = .ok (.iload_n 2, 1) := by decide +kernel
theorem dX4_mateOf_35 : decode cX4_mateOf 35 = .ok (.invokevirtual 95, 3) := by decide +kernel
theorem dX4_mateOf_38 : decode cX4_mateOf 38 = .ok (.istore 4, 2) := by decide +kernel
theorem dX4_mateOf_40 : decode cX4_mateOf 40 = .ok (.iload_n 3, 1) := by decide +kernel
theorem dX4_mateOf_41 : decode cX4_mateOf 41 = .ok (.iload_n 1, 1) := by decide +kernel
theorem dX4_mateOf_42 : decode cX4_mateOf 42 = .ok (.if_icmp .ne 6, 3) := by decide +kernel
theorem dX4_mateOf_45 : decode cX4_mateOf 45 = .ok (.iload 4, 2) := by decide +kernel
theorem dX4_mateOf_47 : decode cX4_mateOf 47 = .ok (.ireturn, 1) := by decide +kernel
theorem dX4_mateOf_48 : decode cX4_mateOf 48 = .ok (.iload 4, 2) := by decide +kernel
theorem dX4_mateOf_50 : decode cX4_mateOf 50 = .ok (.iload_n 1, 1) := by decide +kernel
theorem dX4_mateOf_51 : decode cX4_mateOf 51 = .ok (.if_icmp .ne 5, 3) := by decide +kernel
theorem dX4_mateOf_54 : decode cX4_mateOf 54 = .ok (.iload_n 3, 1) := by decide +kernel
theorem dX4_mateOf_55 : decode cX4_mateOf 55 = .ok (.ireturn, 1) := by decide +kernel
theorem dX4_mateOf_56 : decode cX4_mateOf 56 = .ok (.iload_n 2, 1) := by decide +kernel
theorem dX4_mateOf_57 : decode cX4_mateOf 57 = .ok (.iconst 1, 1) := by decide +kernel
theorem dX4_mateOf_58 : decode cX4_mateOf 58 = .ok (.iload_n 3, 1) := by decide +kernel
theorem dX4_mateOf_59 : decode cX4_mateOf 59 = .ok (.ishl, 1) := by decide +kernel
theorem dX4_mateOf_60 : decode cX4_mateOf 60 = .ok (.iconst (-1), 1) := by decide +kernel
theorem dX4_mateOf_61 : decode cX4_mateOf 61 = .ok (.ixor, 1) := by decide +kernel
theorem dX4_mateOf_62 : decode cX4_mateOf 62 = .ok (.iand, 1) := by decide +kernel
theorem dX4_mateOf_63 : decode cX4_mateOf 63 = .ok (.istore_n 2, 1) := by decide +kernel
theorem dX4_mateOf_64 : decode cX4_mateOf 64 = .ok (.iload 4, 2) := by decide +kernel
theorem dX4_mateOf_66 : decode cX4_mateOf 66 = .ok (.ifCond .lt 12, 3) := by decide +kernel
theorem dX4_mateOf_69 : decode cX4_mateOf 69 = .ok (.iload_n 2, 1) := by decide +kernel
theorem dX4_mateOf_70 : decode cX4_mateOf 70 = .ok (.iconst 1, 1) := by decide +kernel
theorem dX4_mateOf_71 : decode cX4_mateOf 71 = .ok (.iload 4, 2) := by decide +kernel
theorem dX4_mateOf_73 : decode cX4_mateOf 73 = .ok (.ishl, 1) := by decide +kernel
theorem dX4_mateOf_74 : decode cX4_mateOf 74 = .ok (.iconst (-1), 1) := by decide +kernel
theorem dX4_mateOf_75 : decode cX4_mateOf 75 = .ok (.ixor, 1) := by decide +kernel
theorem dX4_mateOf_76 : decode cX4_mateOf 76 = .ok (.iand, 1) := by decide +kernel
theorem dX4_mateOf_77 : decode cX4_mateOf 77 = .ok (.istore_n 2, 1) := by decide +kernel
theorem dX4_mateOf_78 : decode cX4_mateOf 78 = .ok (.iinc 3 1, 3) := by decide +kernel
theorem dX4_mateOf_81 : decode cX4_mateOf 81 = .ok (.goto (-65), 3) := by decide +kernel
theorem dX4_mateOf_84 : decode cX4_mateOf 84 = .ok (.bipush (-4), 2) := by decide +kernel
theorem dX4_mateOf_86 : decode cX4_mateOf 86 = .ok (.ireturn, 1) := by decide +kernel
set_option maxRecDepth 20000 in
theorem ggX4_firstMate_X4_around : GoodIn wsX4_firstMate wsX4_around := goodIn_r _ [6, 7, 13, 14, 15] (by decide +kernel) (by decide +kernel)
set_option maxRecDepth 20000 in
theorem gX4_firstMate_X4_around : GoodIn wsX4_firstMate (wsV RX4 28 RX4 yX4_around wsX4_around) := goodIn_app (goodIn_of _ (by decide +kernel)) ggX4_firstMate_X4_around
set_option maxRecDepth 20000 in
theorem ggX4_firstMate_X4_bestOf : GoodIn wsX4_firstMate wsX4_bestOf := goodIn_r _ [11, 12, 13, 14, 15] (by decide +kernel) (by decide +kernel)
set_option maxRecDepth 20000 in
theorem gX4_firstMate_X4_bestOf : GoodIn wsX4_firstMate (wsV RX4 83 RX4 yX4_bestOf wsX4_bestOf) := goodIn_app (goodIn_of _ (by decide +kernel)) ggX4_firstMate_X4_bestOf
theorem dX4_firstMate_0 : decode cX4_firstMate 0 = .ok (.iload_n 1, 1) := by decide +kernel
theorem dX4_firstMate_1 : decode cX4_firstMate 1 = .ok (.iconst 1, 1) := by decide +kernel
theorem dX4_firstMate_2 : decode cX4_firstMate 2 = .ok (.iadd, 1) := by decide +kernel
theorem dX4_firstMate_3 : decode cX4_firstMate 3 = .ok (.istore_n 3, 1) := by decide +kernel
theorem dX4_firstMate_4 : decode cX4_firstMate 4 = .ok (.iload_n 3, 1) := by decide +kernel
theorem dX4_firstMate_5 : decode cX4_firstMate 5 = .ok (.aload_n 0, 1) := by decide +kernel
theorem dX4_firstMate_6 : decode cX4_firstMate 6 = .ok (.getfield 18, 3) := by decide +kernel
theorem dX4_firstMate_9 : decode cX4_firstMate 9 = .ok (.if_icmp .ge 54, 3) := by decide +kernel
theorem dX4_firstMate_12 : decode cX4_firstMate 12 = .ok (.iconst 1, 1) := by decide +kernel
theorem dX4_firstMate_13 : decode cX4_firstMate 13 = .ok (.iload_n 1, 1) := by decide +kernel
theorem dX4_firstMate_14 : decode cX4_firstMate 14 = .ok (.ishl, 1) := by decide +kernel
theorem dX4_firstMate_15 : decode cX4_firstMate 15 = .ok (.iconst 1, 1) := by decide +kernel
theorem dX4_firstMate_16 : decode cX4_firstMate 16 = .ok (.iload_n 3, 1) := by decide +kernel
theorem dX4_firstMate_17 : decode cX4_firstMate 17 = .ok (.ishl, 1) := by decide +kernel
theorem dX4_firstMate_18 : decode cX4_firstMate 18 = .ok (.ior, 1) := by decide +kernel
theorem dX4_firstMate_19 : decode cX4_firstMate 19 = .ok (.istore 4, 2) := by decide +kernel
theorem dX4_firstMate_21 : decode cX4_firstMate 21 = .ok (.iload_n 2, 1) := by decide +kernel
theorem dX4_firstMate_22 : decode cX4_firstMate 22 = .ok (.aload_n 0, 1) := by decide +kernel
theorem dX4_firstMate_23 : decode cX4_firstMate 23 = .ok (.iload_n 1, 1) := by decide +kernel
theorem dX4_firstMate_24 : decode cX4_firstMate 24 = .ok (.invokevirtual 28, 3) := by decide +kernel
theorem dX4_firstMate_27 : decode cX4_firstMate 27 = .ok (.iand, 1) := by decide +kernel
theorem dX4_firstMate_28 : decode cX4_firstMate 28 = .ok (.iconst 1, 1) := by decide +kernel
theorem dX4_firstMate_29 : decode cX4_firstMate 29 = .ok (.iload_n 3, 1) := by decide +kernel
theorem dX4_firstMate_30 : decode cX4_firstMate 30 = .ok (.ishl, 1) := by decide +kernel
theorem dX4_firstMate_31 : decode cX4_firstMate 31 = .ok (.iand, 1) := by decide +kernel
theorem dX4_firstMate_32 : decode cX4_firstMate 32 = .ok (.ifCond .eq 25, 3) := by decide +kernel
theorem dX4_firstMate_35 : decode cX4_firstMate 35 = .ok (.iconst 1, 1) := by decide +kernel
theorem dX4_firstMate_36 : decode cX4_firstMate 36 = .ok (.aload_n 0, 1) := by decide +kernel
theorem dX4_firstMate_37 : decode cX4_firstMate 37 = .ok (.iload_n 2, 1) := by decide +kernel
theorem dX4_firstMate_38 : decode cX4_firstMate 38 = .ok (.iload 4, 2) := by decide +kernel
theorem dX4_firstMate_40 : decode cX4_firstMate 40 = .ok (.iconst (-1), 1) := by decide +kernel
theorem dX4_firstMate_41 : decode cX4_firstMate 41 = .ok (.ixor, 1) := by decide +kernel
theorem dX4_firstMate_42 : decode cX4_firstMate 42 = .ok (.iand, 1) := by decide +kernel
theorem dX4_firstMate_43 : decode cX4_firstMate 43 = .ok (.invokevirtual 83, 3) := by decide +kernel
theorem dX4_firstMate_46 : decode cX4_firstMate 46 = .ok (.iadd, 1) := by decide +kernel
theorem dX4_firstMate_47 : decode cX4_firstMate 47 = .ok (.aload_n 0, 1) := by decide +kernel
theorem dX4_firstMate_48 : decode cX4_firstMate 48 = .ok (.iload_n 2, 1) := by decide +kernel
theorem dX4_firstMate_49 : decode cX4_firstMate 49 = .ok (.invokevirtual 83, 3) := by decide +kernel
theorem dX4_firstMate_52 : decode cX4_firstMate 52 = .ok (.if_icmp .ne 5, 3) := by decide +kernel
theorem dX4_firstMate_55 : decode cX4_firstMate 55 = .ok (.iload_n 3, 1) := by decide +kernel
theorem dX4_firstMate_56 : decode cX4_firstMate 56 = .ok (.ireturn, 1) := by decide +kernel
theorem dX4_firstMate_57 : decode cX4_firstMate 57 = .ok (.iinc 3 1, 3) := by decide +kernel
theorem dX4_firstMate_60 : decode cX4_firstMate 60 = .ok (.goto (-56), 3) := by decide +kernel
theorem dX4_firstMate_63 : decode cX4_firstMate 63 = .ok (.bipush (-4), 2) := by decide +kernel
theorem dX4_firstMate_65 : decode cX4_firstMate 65 = .ok (.ireturn, 1) := by decide +kernel
set_option maxRecDepth 20000 in
theorem ggX4_draw_X4_between : GoodIn wsX4_draw wsX4_between := goodIn_r _ [9, 10, 11, 12, 8, 13, 14, 19, 20, 21] (by decide +kernel) (by decide +kernel)
set_option maxRecDepth 20000 in
theorem gX4_draw_X4_between : GoodIn wsX4_draw (wsV RX4 44 RX4 yX4_between wsX4_between) := goodIn_app (goodIn_of _ (by decide +kernel)) ggX4_draw_X4_between
set_option maxRecDepth 20000 in
theorem ggX4_draw_X4_turn : GoodIn wsX4_draw wsX4_turn := goodIn_r _ [18, 14, 19, 20, 21] (by decide +kernel) (by decide +kernel)
set_option maxRecDepth 20000 in
theorem gX4_draw_X4_turn : GoodIn wsX4_draw (wsV RX4 54 RX4 yX4_turn wsX4_turn) := goodIn_app (goodIn_of _ (by decide +kernel)) ggX4_draw_X4_turn
theorem dX4_draw_0 : decode cX4_draw 0 = .ok (.iload_n 1, 1) := by decide +kernel
theorem dX4_draw_1 : decode cX4_draw 1 = .ok (.istore_n 2, 1) := by decide +kernel
theorem dX4_draw_2 : decode cX4_draw 2 = .ok (.iconst 0, 1) := by decide +kernel
theorem dX4_draw_3 : decode cX4_draw 3 = .ok (.istore_n 3, 1) := by decide +kernel
theorem dX4_draw_4 : decode cX4_draw 4 = .ok (.iload_n 3, 1) := by decide +kernel
theorem dX4_draw_5 : decode cX4_draw 5 = .ok (.aload_n 0, 1) := by decide +kernel
theorem dX4_draw_6 : decode cX4_draw 6 = .ok (.getfield 18, 3) := by decide +kernel
theorem dX4_draw_9 : decode cX4_draw 9 = .ok (.if_icmp .ge 76, 3) := by decide +kernel
theorem dX4_draw_12 : decode cX4_draw 12 = .ok (.iload_n 3, 1) := by decide +kernel
theorem dX4_draw_13 : decode cX4_draw 13 = .ok (.iconst 1, 1) := by decide +kernel
theorem dX4_draw_14 : decode cX4_draw 14 = .ok (.iadd, 1) := by decide +kernel
theorem dX4_draw_15 : decode cX4_draw 15 = .ok (.istore 4, 2) := by decide +kernel
theorem dX4_draw_17 : decode cX4_draw 17 = .ok (.iload 4, 2) := by decide +kernel
theorem dX4_draw_19 : decode cX4_draw 19 = .ok (.aload_n 0, 1) := by decide +kernel
theorem dX4_draw_20 : decode cX4_draw 20 = .ok (.getfield 18, 3) := by decide +kernel
theorem dX4_draw_23 : decode cX4_draw 23 = .ok (.if_icmp .ge 56, 3) := by decide +kernel
theorem dX4_draw_26 : decode cX4_draw 26 = .ok (.iload_n 2, 1) := by decide +kernel
theorem dX4_draw_27 : decode cX4_draw 27 = .ok (.ldc 98, 2) := by decide +kernel
theorem dX4_draw_29 : decode cX4_draw 29 = .ok (.imul, 1) := by decide +kernel
theorem dX4_draw_30 : decode cX4_draw 30 = .ok (.sipush 12345, 3) := by decide +kernel
theorem dX4_draw_33 : decode cX4_draw 33 = .ok (.iadd, 1) := by decide +kernel
theorem dX4_draw_34 : decode cX4_draw 34 = .ok (.istore_n 2, 1) := by decide +kernel
theorem dX4_draw_35 : decode cX4_draw 35 = .ok (.iload_n 2, 1) := by decide +kernel
theorem dX4_draw_36 : decode cX4_draw 36 = .ok (.ldc 99, 2) := by decide +kernel
theorem dX4_draw_38 : decode cX4_draw 38 = .ok (.iand, 1) := by decide +kernel
theorem dX4_draw_39 : decode cX4_draw 39 = .ok (.ldc 100, 2) := by decide +kernel
theorem dX4_draw_41 : decode cX4_draw 41 = .ok (.idiv, 1) := by decide +kernel
theorem dX4_draw_42 : decode cX4_draw 42 = .ok (.iconst 3, 1) := by decide +kernel
theorem dX4_draw_43 : decode cX4_draw 43 = .ok (.irem, 1) := by decide +kernel
theorem dX4_draw_44 : decode cX4_draw 44 = .ok (.ifCond .ne 7, 3) := by decide +kernel
theorem dX4_draw_47 : decode cX4_draw 47 = .ok (.iconst 1, 1) := by decide +kernel
theorem dX4_draw_48 : decode cX4_draw 48 = .ok (.goto 4, 3) := by decide +kernel
theorem dX4_draw_51 : decode cX4_draw 51 = .ok (.iconst 0, 1) := by decide +kernel
theorem dX4_draw_52 : decode cX4_draw 52 = .ok (.istore 5, 2) := by decide +kernel
theorem dX4_draw_54 : decode cX4_draw 54 = .ok (.aload_n 0, 1) := by decide +kernel
theorem dX4_draw_55 : decode cX4_draw 55 = .ok (.iload_n 3, 1) := by decide +kernel
theorem dX4_draw_56 : decode cX4_draw 56 = .ok (.iload 4, 2) := by decide +kernel
theorem dX4_draw_58 : decode cX4_draw 58 = .ok (.invokevirtual 44, 3) := by decide +kernel
theorem dX4_draw_61 : decode cX4_draw 61 = .ok (.iload 5, 2) := by decide +kernel
theorem dX4_draw_63 : decode cX4_draw 63 = .ok (.if_icmp .eq 10, 3) := by decide +kernel
theorem dX4_draw_66 : decode cX4_draw 66 = .ok (.aload_n 0, 1) := by decide +kernel
theorem dX4_draw_67 : decode cX4_draw 67 = .ok (.iload_n 3, 1) := by decide +kernel
theorem dX4_draw_68 : decode cX4_draw 68 = .ok (.iload 4, 2) := by decide +kernel
theorem dX4_draw_70 : decode cX4_draw 70 = .ok (.invokevirtual 54, 3) := by decide +kernel
theorem dX4_draw_73 : decode cX4_draw 73 = .ok (.iinc 4 1, 3) := by decide +kernel
theorem dX4_draw_76 : decode cX4_draw 76 = .ok (.goto (-59), 3) := by decide +kernel
theorem dX4_draw_79 : decode cX4_draw 79 = .ok (.iinc 3 1, 3) := by decide +kernel
theorem dX4_draw_82 : decode cX4_draw 82 = .ok (.goto (-78), 3) := by decide +kernel
theorem dX4_draw_85 : decode cX4_draw 85 = .ok (.iload_n 2, 1) := by decide +kernel
theorem dX4_draw_86 : decode cX4_draw 86 = .ok (.ireturn, 1) := by decide +kernel
set_option maxRecDepth 20000 in
theorem ggX5_init_X4_init : GoodIn wsX5_init wsX4_init := goodIn_r _ [37, 38, 2, 3, 33, 39, 40, 58, 59, 60] (by decide +kernel) (by decide +kernel)
set_option maxRecDepth 20000 in
theorem gX5_init_X4_init_n11 : GoodIn wsX5_init (wsX4_init) := ggX5_init_X4_init
set_option maxRecDepth 20000 in
theorem ggX5_init_X6_init : GoodIn wsX5_init wsX6_init := goodIn_r _ [42, 43, 2, 3] (by decide +kernel) (by decide +kernel)
set_option maxRecDepth 20000 in
theorem gX5_init_X6_init_n20 : GoodIn wsX5_init (wsX6_init) := ggX5_init_X6_init
set_option maxRecDepth 20000 in
theorem ggX5_init_X8_init : GoodIn wsX5_init wsX8_init := goodIn_r _ [45, 41, 10, 42, 43, 2, 3] (by decide +kernel) (by decide +kernel)
set_option maxRecDepth 20000 in
theorem gX5_init_X8_init_n23 : GoodIn wsX5_init (wsX8_init) := ggX5_init_X8_init
set_option maxRecDepth 20000 in
theorem ggX5_init_X2_init : GoodIn wsX5_init wsX2_init := goodIn_r _ [47, 41, 10, 42, 43, 2, 3] (by decide +kernel) (by decide +kernel)
set_option maxRecDepth 20000 in
theorem gX5_init_X2_init_n26 : GoodIn wsX5_init (wsX2_init) := ggX5_init_X2_init
set_option maxRecDepth 20000 in
theorem ggX5_init_X3_init : GoodIn wsX5_init wsX3_init := goodIn_r _ [49, 44, 13, 45, 41, 10, 42, 43, 2, 3] (by decide +kernel) (by decide +kernel)
set_option maxRecDepth 20000 in
theorem gX5_init_X3_init_n29 : GoodIn wsX5_init (wsX3_init) := ggX5_init_X3_init
set_option maxRecDepth 20000 in
theorem ggX5_init_X10_init : GoodIn wsX5_init wsX10_init := goodIn_r _ [51, 46, 16, 47, 41, 10, 42, 43, 2, 3] (by decide +kernel) (by decide +kernel)
set_option maxRecDepth 20000 in
theorem gX5_init_X10_init_n32 : GoodIn wsX5_init (wsX10_init) := ggX5_init_X10_init
set_option maxRecDepth 20000 in
theorem ggX5_init_X9_init : GoodIn wsX5_init wsX9_init := goodIn_r _ [53, 44, 13, 45, 41, 10, 42, 43, 2, 3] (by decide +kernel) (by decide +kernel)
set_option maxRecDepth 20000 in
theorem gX5_init_X9_init_n35 : GoodIn wsX5_init (wsX9_init) := ggX5_init_X9_init
set_option maxRecDepth 20000 in
theorem ggX5_init_X0_init : GoodIn wsX5_init wsX0_init := goodIn_r _ [55, 50, 22, 51, 46, 16, 47, 41, 10, 42, 43, 2, 3] (by decide +kernel) (by decide +kernel)
set_option maxRecDepth 20000 in
theorem gX5_init_X0_init_n38 : GoodIn wsX5_init (wsX0_init) := ggX5_init_X0_init
set_option maxRecDepth 20000 in
theorem ggX5_init_X1_init : GoodIn wsX5_init wsX1_init := goodIn_r _ [57, 48, 19, 49, 44, 13, 45, 41, 10, 42, 43, 2, 3] (by decide +kernel) (by decide +kernel)
set_option maxRecDepth 20000 in
theorem gX5_init_X1_init_n41 : GoodIn wsX5_init (wsX1_init) := ggX5_init_X1_init
theorem dX5_init_0 : decode cX5_init 0 = .ok (.aload_n 0, 1) := by decide +kernel
theorem dX5_init_1 : decode cX5_init 1 = .ok (.invokespecial 3, 3) := by decide +kernel
theorem dX5_init_4 : decode cX5_init 4 = .ok (.aload_n 0, 1) := by decide +kernel
theorem dX5_init_5 : decode cX5_init 5 = .ok (.new 9, 3) := by decide +kernel
theorem dX5_init_8 : decode cX5_init 8 = .ok (.dup, 1) := by decide +kernel
theorem dX5_init_9 : decode cX5_init 9 = .ok (.invokespecial 11, 3) := by decide +kernel
theorem dX5_init_12 : decode cX5_init 12 = .ok (.putfield 12, 3) := by decide +kernel
theorem dX5_init_15 : decode cX5_init 15 = .ok (.aload_n 0, 1) := by decide +kernel
theorem dX5_init_16 : decode cX5_init 16 = .ok (.bipush 8, 2) := by decide +kernel
theorem dX5_init_18 : decode cX5_init 18 = .ok (.anewarray 18, 3) := by decide +kernel
theorem dX5_init_21 : decode cX5_init 21 = .ok (.dup, 1) := by decide +kernel
theorem dX5_init_22 : decode cX5_init 22 = .ok (.iconst 0, 1) := by decide +kernel
theorem dX5_init_23 : decode cX5_init 23 = .ok (.new 18, 3) := by decide +kernel
theorem dX5_init_26 : decode cX5_init 26 = .ok (.dup, 1) := by decide +kernel
theorem dX5_init_27 : decode cX5_init 27 = .ok (.invokespecial 20, 3) := by decide +kernel
theorem dX5_init_30 : decode cX5_init 30 = .ok (.aastore, 1) := by decide +kernel
theorem dX5_init_31 : decode cX5_init 31 = .ok (.dup, 1) := by decide +kernel
theorem dX5_init_32 : decode cX5_init 32 = .ok (.iconst 1, 1) := by decide +kernel
theorem dX5_init_33 : decode cX5_init 33 = .ok (.new 21, 3) := by decide +kernel
theorem dX5_init_36 : decode cX5_init 36 = .ok (.dup, 1) := by decide +kernel
theorem dX5_init_37 : decode cX5_init 37 = .ok (.invokespecial 23, 3) := by decide +kernel
theorem dX5_init_40 : decode cX5_init 40 = .ok (.aastore, 1) := by decide +kernel
theorem dX5_init_41 : decode cX5_init 41 = .ok (.dup, 1) := by decide +kernel
theorem dX5_init_42 : decode cX5_init 42 = .ok (.iconst 2, 1) := by decide +kernel
theorem dX5_init_43 : decode cX5_init 43 = .ok (.new 24, 3) := by decide +kernel
theorem dX5_init_46 : decode cX5_init 46 = .ok (.dup, 1) := by decide +kernel
theorem dX5_init_47 : decode cX5_init 47 = .ok (.invokespecial 26, 3) := by decide +kernel
theorem dX5_init_50 : decode cX5_init 50 = .ok (.aastore, 1) := by decide +kernel
theorem dX5_init_51 : decode cX5_init 51 = .ok (.dup, 1) := by decide +kernel
theorem dX5_init_52 : decode cX5_init 52 = .ok (.iconst 3, 1) := by decide +kernel
theorem dX5_init_53 : decode cX5_init 53 = .ok (.new 27, 3) := by decide +kernel
theorem dX5_init_56 : decode cX5_init 56 = .ok (.dup, 1) := by decide +kernel
theorem dX5_init_57 : decode cX5_init 57 = .ok (.invokespecial 29, 3) := by decide +kernel
theorem dX5_init_60 : decode cX5_init 60 = .ok (.aastore, 1) := by decide +kernel
theorem dX5_init_61 : decode cX5_init 61 = .ok (.dup, 1) := by decide +kernel
theorem dX5_init_62 : decode cX5_init 62 = .ok (.iconst 4, 1) := by decide +kernel
theorem dX5_init_63 : decode cX5_init 63 = .ok (.new 30, 3) := by decide +kernel
theorem dX5_init_66 : decode cX5_init 66 = .ok (.dup, 1) := by decide +kernel
theorem dX5_init_67 : decode cX5_init 67 = .ok (.invokespecial 32, 3) := by decide +kernel
theorem dX5_init_70 : decode cX5_init 70 = .ok (.aastore, 1) := by decide +kernel
theorem dX5_init_71 : decode cX5_init 71 = .ok (.dup, 1) := by decide +kernel
theorem dX5_init_72 : decode cX5_init 72 = .ok (.iconst 5, 1) := by decide +kernel
theorem dX5_init_73 : decode cX5_init 73 = .ok (.new 33, 3) := by decide +kernel
theorem dX5_init_76 : decode cX5_init 76 = .ok (.dup, 1) := by decide +kernel
theorem dX5_init_77 : decode cX5_init 77 = .ok (.invokespecial 35, 3) := by decide +kernel
theorem dX5_init_80 : decode cX5_init 80 = .ok (.aastore, 1) := by decide +kernel
theorem dX5_init_81 : decode cX5_init 81 = .ok (.dup, 1) := by decide +kernel
theorem dX5_init_82 : decode cX5_init 82 = .ok (.bipush 6, 2) := by decide +kernel
theorem dX5_init_84 : decode cX5_init 84 = .ok (.new 36, 3) := by decide +kernel
theorem dX5_init_87 : decode cX5_init 87 = .ok (.dup, 1) := by decide +kernel
theorem dX5_init_88 : decode cX5_init 88 = .ok (.invokespecial 38, 3) := by decide +kernel
theorem dX5_init_91 : decode cX5_init 91 = .ok (.aastore, 1) := by decide +kernel
theorem dX5_init_92 : decode cX5_init 92 = .ok (.dup, 1) := by decide +kernel
theorem dX5_init_93 : decode cX5_init 93 = .ok (.bipush 7, 2) := by decide +kernel
theorem dX5_init_95 : decode cX5_init 95 = .ok (.new 39, 3) := by decide +kernel
theorem dX5_init_98 : decode cX5_init 98 = .ok (.dup, 1) := by decide +kernel
theorem dX5_init_99 : decode cX5_init 99 = .ok (.invokespecial 41, 3) := by decide +kernel
theorem dX5_init_102 : decode cX5_init 102 = .ok (.aastore, 1) := by decide +kernel
theorem dX5_init_103 : decode cX5_init 103 = .ok (.putfield 42, 3) := by decide +kernel
theorem dX5_init_106 : decode cX5_init 106 = .ok (.aload_n 0, 1) := by decide +kernel
theorem dX5_init_107 : decode cX5_init 107 = .ok (.bipush 9, 2) := by decide +kernel
theorem dX5_init_109 : decode cX5_init 109 = .ok (.newarray .int, 2) := by decide +kernel
theorem dX5_init_111 : decode cX5_init 111 = .ok (.putfield 46, 3) := by decide +kernel
theorem dX5_init_114 : decode cX5_init 114 = .ok (.aload_n 0, 1) := by decide +kernel
theorem dX5_init_115 : decode cX5_init 115 = .ok (.bipush 9, 2) := by decide +kernel
theorem dX5_init_117 : decode cX5_init 117 = .ok (.newarray .int, 2) := by decide +kernel
theorem dX5_init_119 : decode cX5_init 119 = .ok (.putfield 50, 3) := by decide +kernel
theorem dX5_init_122 : decode cX5_init 122 = .ok (.return_, 1) := by decide +kernel
set_option maxRecDepth 20000 in
theorem ggX5_become_X4_copyFrom : GoodIn wsX5_become wsX4_copyFrom := goodIn_r _ [15, 16, 17, 18, 4, 5, 6, 26, 27, 28] (by decide +kernel) (by decide +kernel)
set_option maxRecDepth 20000 in
theorem gX5_become_X4_copyFrom : GoodIn wsX5_become (wsV RX5 53 RX4 yX4_copyFrom wsX4_copyFrom) := goodIn_app (goodIn_of _ (by decide +kernel)) ggX5_become_X4_copyFrom
theorem dX5_become_0 : decode cX5_become 0 = .ok (.aload_n 0, 1) := by decide +kernel
theorem dX5_become_1 : decode cX5_become 1 = .ok (.getfield 12, 3) := by decide +kernel
theorem dX5_become_4 : decode cX5_become 4 = .ok (.aload_n 1, 1) := by decide +kernel
theorem dX5_become_5 : decode cX5_become 5 = .ok (.getfield 12, 3) := by decide +kernel
theorem dX5_become_8 : decode cX5_become 8 = .ok (.invokevirtual 53, 3) := by decide +kernel
theorem dX5_become_11 : decode cX5_become 11 = .ok (.aload_n 1, 1) := by decide +kernel
theorem dX5_become_12 : decode cX5_become 12 = .ok (.getfield 46, 3) := by decide +kernel
theorem dX5_become_15 : decode cX5_become 15 = .ok (.iconst 0, 1) := by decide +kernel
theorem dX5_become_16 : decode cX5_become 16 = .ok (.aload_n 0, 1) := by decide +kernel
theorem dX5_become_17 : decode cX5_become 17 = .ok (.getfield 46, 3) := by decide +kernel
theorem dX5_become_20 : decode cX5_become 20 = .ok (.iconst 0, 1) := by decide +kernel
theorem dX5_become_21 : decode cX5_become 21 = .ok (.bipush 9, 2) := by decide +kernel
theorem dX5_become_23 : decode cX5_become 23 = .ok (.invokestatic 57, 3) := by decide +kernel
theorem dX5_become_26 : decode cX5_become 26 = .ok (.aload_n 1, 1) := by decide +kernel
theorem dX5_become_27 : decode cX5_become 27 = .ok (.getfield 50, 3) := by decide +kernel
theorem dX5_become_30 : decode cX5_become 30 = .ok (.iconst 0, 1) := by decide +kernel
theorem dX5_become_31 : decode cX5_become 31 = .ok (.aload_n 0, 1) := by decide +kernel
theorem dX5_become_32 : decode cX5_become 32 = .ok (.getfield 50, 3) := by decide +kernel
theorem dX5_become_35 : decode cX5_become 35 = .ok (.iconst 0, 1) := by decide +kernel
theorem dX5_become_36 : decode cX5_become 36 = .ok (.bipush 9, 2) := by decide +kernel
theorem dX5_become_38 : decode cX5_become 38 = .ok (.invokestatic 57, 3) := by decide +kernel
theorem dX5_become_41 : decode cX5_become 41 = .ok (.aload_n 0, 1) := by decide +kernel
theorem dX5_become_42 : decode cX5_become 42 = .ok (.aload_n 1, 1) := by decide +kernel
theorem dX5_become_43 : decode cX5_become 43 = .ok (.getfield 63, 3) := by decide +kernel
theorem dX5_become_46 : decode cX5_become 46 = .ok (.putfield 63, 3) := by decide +kernel
theorem dX5_become_49 : decode cX5_become 49 = .ok (.aload_n 0, 1) := by decide +kernel
theorem dX5_become_50 : decode cX5_become 50 = .ok (.aload_n 1, 1) := by decide +kernel
theorem dX5_become_51 : decode cX5_become 51 = .ok (.getfield 67, 3) := by decide +kernel
theorem dX5_become_54 : decode cX5_become 54 = .ok (.putfield 67, 3) := by decide +kernel
theorem dX5_become_57 : decode cX5_become 57 = .ok (.aload_n 0, 1) := by decide +kernel
theorem dX5_become_58 : decode cX5_become 58 = .ok (.aload_n 1, 1) := by decide +kernel
theorem dX5_become_59 : decode cX5_become 59 = .ok (.getfield 70, 3) := by decide +kernel
theorem dX5_become_62 : decode cX5_become 62 = .ok (.putfield 70, 3) := by decide +kernel
theorem dX5_become_65 : decode cX5_become 65 = .ok (.return_, 1) := by decide +kernel
theorem dX5_people_0 : decode cX5_people 0 = .ok (.aload_n 0, 1) := by decide +kernel
theorem dX5_people_1 : decode cX5_people 1 = .ok (.getfield 12, 3) := by decide +kernel
theorem dX5_people_4 : decode cX5_people 4 = .ok (.getfield 73, 3) := by decide +kernel
theorem dX5_people_7 : decode cX5_people 7 = .ok (.ireturn, 1) := by decide +kernel
theorem dX5_has_0 : decode cX5_has 0 = .ok (.iload_n 1, 1) := by decide +kernel
theorem dX5_has_1 : decode cX5_has 1 = .ok (.ifCond .lt 24, 3) := by decide +kernel
theorem dX5_has_4 : decode cX5_has 4 = .ok (.iload_n 1, 1) := by decide +kernel
theorem dX5_has_5 : decode cX5_has 5 = .ok (.bipush 9, 2) := by decide +kernel
theorem dX5_has_7 : decode cX5_has 7 = .ok (.if_icmp .ge 18, 3) := by decide +kernel
theorem dX5_has_10 : decode cX5_has 10 = .ok (.iload_n 1, 1) := by decide +kernel
theorem dX5_has_11 : decode cX5_has 11 = .ok (.aload_n 0, 1) := by decide +kernel
theorem dX5_has_12 : decode cX5_has 12 = .ok (.getfield 12, 3) := by decide +kernel
theorem dX5_has_15 : decode cX5_has 15 = .ok (.getfield 73, 3) := by decide +kernel
theorem dX5_has_18 : decode cX5_has 18 = .ok (.if_icmp .ge 7, 3) := by decide +kernel
theorem dX5_has_21 : decode cX5_has 21 = .ok (.iconst 1, 1) := by decide +kernel
theorem dX5_has_22 : decode cX5_has 22 = .ok (.goto 4, 3) := by decide +kernel
theorem dX5_has_25 : decode cX5_has 25 = .ok (.iconst 0, 1) := by decide +kernel
theorem dX5_has_26 : decode cX5_has 26 = .ok (.ireturn, 1) := by decide +kernel
theorem dX5_kindOf_0 : decode cX5_kindOf 0 = .ok (.iload_n 1, 1) := by decide +kernel
theorem dX5_kindOf_1 : decode cX5_kindOf 1 = .ok (.ifCond .lt 21, 3) := by decide +kernel
theorem dX5_kindOf_4 : decode cX5_kindOf 4 = .ok (.iload_n 1, 1) := by decide +kernel
theorem dX5_kindOf_5 : decode cX5_kindOf 5 = .ok (.aload_n 0, 1) := by decide +kernel
theorem dX5_kindOf_6 : decode cX5_kindOf 6 = .ok (.getfield 46, 3) := by decide +kernel
theorem dX5_kindOf_9 : decode cX5_kindOf 9 = .ok (.arraylength, 1) := by decide +kernel
theorem dX5_kindOf_10 : decode cX5_kindOf 10 = .ok (.if_icmp .ge 12, 3) := by decide +kernel
theorem dX5_kindOf_13 : decode cX5_kindOf 13 = .ok (.aload_n 0, 1) := by decide +kernel
theorem dX5_kindOf_14 : decode cX5_kindOf 14 = .ok (.getfield 46, 3) := by decide +kernel
theorem dX5_kindOf_17 : decode cX5_kindOf 17 = .ok (.iload_n 1, 1) := by decide +kernel
theorem dX5_kindOf_18 : decode cX5_kindOf 18 = .ok (.iaload, 1) := by decide +kernel
theorem dX5_kindOf_19 : decode cX5_kindOf 19 = .ok (.goto 4, 3) := by decide +kernel
theorem dX5_kindOf_22 : decode cX5_kindOf 22 = .ok (.iconst 0, 1) := by decide +kernel
theorem dX5_kindOf_23 : decode cX5_kindOf 23 = .ok (.ireturn, 1) := by decide +kernel
theorem dX5_figureOf_0 : decode cX5_figureOf 0 = .ok (.iload_n 1, 1) := by decide +kernel
theorem dX5_figureOf_1 : decode cX5_figureOf 1 = .ok (.ifCond .lt 21, 3) := by decide +kernel
theorem dX5_figureOf_4 : decode cX5_figureOf 4 = .ok (.iload_n 1, 1) := by decide +kernel
theorem dX5_figureOf_5 : decode cX5_figureOf 5 = .ok (.aload_n 0, 1) := by decide +kernel
theorem dX5_figureOf_6 : decode cX5_figureOf 6 = .ok (.getfield 50, 3) := by decide +kernel
theorem dX5_figureOf_9 : decode cX5_figureOf 9 = .ok (.arraylength, 1) := by decide +kernel
theorem dX5_figureOf_10 : decode cX5_figureOf 10 = .ok (.if_icmp .ge 12, 3) := by decide +kernel
theorem dX5_figureOf_13 : decode cX5_figureOf 13 = .ok (.aload_n 0, 1) := by decide +kernel
theorem dX5_figureOf_14 : decode cX5_figureOf 14 = .ok (.getfield 50, 3) := by decide +kernel
theorem dX5_figureOf_17 : decode cX5_figureOf 17 = .ok (.iload_n 1, 1) := by decide +kernel
theorem dX5_figureOf_18 : decode cX5_figureOf 18 = .ok (.iaload, 1) := by decide +kernel
theorem dX5_figureOf_19 : decode cX5_figureOf 19 = .ok (.goto 4, 3) := by decide +kernel
theorem dX5_figureOf_22 : decode cX5_figureOf 22 = .ok (.iconst 0, 1) := by decide +kernel
theorem dX5_figureOf_23 : decode cX5_figureOf 23 = .ok (.ireturn, 1) := by decide +kernel
theorem dX5_kindNamed_0 : decode cX5_kindNamed 0 = .ok (.iload_n 1, 1) := by decide +kernel
theorem dX5_kindNamed_1 : decode cX5_kindNamed 1 = .ok (.ifCond .lt 21, 3) := by decide +kernel
theorem dX5_kindNamed_4 : decode cX5_kindNamed 4 = .ok (.iload_n 1, 1) := by decide +kernel
theorem dX5_kindNamed_5 : decode cX5_kindNamed 5 = .ok (.aload_n 0, 1) := by decide +kernel
theorem dX5_kindNamed_6 : decode cX5_kindNamed 6 = .ok (.getfield 42, 3) := by decide +kernel
theorem dX5_kindNamed_9 : decode cX5_kindNamed 9 = .ok (.arraylength, 1) := by decide +kernel
theorem dX5_kindNamed_10 : decode cX5_kindNamed 10 = .ok (.if_icmp .ge 12, 3) := by decide +kernel
theorem dX5_kindNamed_13 : decode cX5_kindNamed 13 = .ok (.aload_n 0, 1) := by decide +kernel
theorem dX5_kindNamed_14 : decode cX5_kindNamed 14 = .ok (.getfield 42, 3) := by decide +kernel
theorem dX5_kindNamed_17 : decode cX5_kindNamed 17 = .ok (.iload_n 1, 1) := by decide +kernel
theorem dX5_kindNamed_18 : decode cX5_kindNamed 18 = .ok (.aaload, 1) := by decide +kernel
theorem dX5_kindNamed_19 : decode cX5_kindNamed 19 = .ok (.goto 9, 3) := by decide +kernel
theorem dX5_kindNamed_22 : decode cX5_kindNamed 22 = .ok (.aload_n 0, 1) := by decide +kernel
theorem dX5_kindNamed_23 : decode cX5_kindNamed 23 = .ok (.getfield 42, 3) := by decide +kernel
theorem dX5_kindNamed_26 : decode cX5_kindNamed 26 = .ok (.iconst 0, 1) := by decide +kernel
theorem dX5_kindNamed_27 : decode cX5_kindNamed 27 = .ok (.aaload, 1) := by decide +kernel
theorem dX5_kindNamed_28 : decode cX5_kindNamed 28 = .ok (.areturn, 1) := by decide +kernel
theorem dX5_isDeaf_0 : decode cX5_isDeaf 0 = .ok (.aload_n 0, 1) := by decide +kernel
theorem dX5_isDeaf_1 : decode cX5_isDeaf 1 = .ok (.getfield 67, 3) := by decide +kernel
theorem dX5_isDeaf_4 : decode cX5_isDeaf 4 = .ok (.iload_n 1, 1) := by decide +kernel
theorem dX5_isDeaf_5 : decode cX5_isDeaf 5 = .ok (.ishr, 1) := by decide +kernel
theorem dX5_isDeaf_6 : decode cX5_isDeaf 6 = .ok (.iconst 1, 1) := by decide +kernel
theorem dX5_isDeaf_7 : decode cX5_isDeaf 7 = .ok (.iand, 1) := by decide +kernel
theorem dX5_isDeaf_8 : decode cX5_isDeaf 8 = .ok (.ifCond .eq 7, 3) := by decide +kernel
theorem dX5_isDeaf_11 : decode cX5_isDeaf 11 = .ok (.iconst 1, 1) := by decide +kernel
theorem dX5_isDeaf_12 : decode cX5_isDeaf 12 = .ok (.goto 4, 3) := by decide +kernel
theorem dX5_isDeaf_15 : decode cX5_isDeaf 15 = .ok (.iconst 0, 1) := by decide +kernel
theorem dX5_isDeaf_16 : decode cX5_isDeaf 16 = .ok (.ireturn, 1) := by decide +kernel
set_option maxRecDepth 20000 in
theorem ggX5_cardsOf_X5_kindOf : GoodIn wsX5_cardsOf wsX5_kindOf := goodIn_r _ [6, 7, 81, 82, 83, 84, 85, 86, 87] (by decide +kernel) (by decide +kernel)
set_option maxRecDepth 20000 in
theorem gX5_cardsOf_X5_kindOf : GoodIn wsX5_cardsOf (wsV RX5 76 RX5 yX5_kindOf wsX5_kindOf) := goodIn_app (goodIn_of _ (by decide +kernel)) ggX5_cardsOf_X5_kindOf
set_option maxRecDepth 20000 in
theorem ggX5_cardsOf_X5_kindNamed : GoodIn wsX5_cardsOf wsX5_kindNamed := goodIn_r _ [11, 12, 81, 82, 83, 84, 85, 86, 87] (by decide +kernel) (by decide +kernel)
set_option maxRecDepth 20000 in
theorem gX5_cardsOf_X5_kindNamed : GoodIn wsX5_cardsOf (wsV RX5 80 RX5 yX5_kindNamed wsX5_kindNamed) := goodIn_app (goodIn_of _ (by decide +kernel)) ggX5_cardsOf_X5_kindNamed
set_option maxRecDepth 20000 in
theorem ggX5_cardsOf_X5_figureOf : GoodIn wsX5_cardsOf wsX5_figureOf := goodIn_r _ [16, 17, 81, 82, 83, 84, 85, 86, 87] (by decide +kernel) (by decide +kernel)
set_option maxRecDepth 20000 in
theorem gX5_cardsOf_X5_figureOf : GoodIn wsX5_cardsOf (wsV RX5 84 RX5 yX5_figureOf wsX5_figureOf) := goodIn_app (goodIn_of _ (by decide +kernel)) ggX5_cardsOf_X5_figureOf
set_option maxRecDepth 20000 in
theorem ggX5_cardsOf_X4_number : GoodIn wsX5_cardsOf wsX4_number := goodIn_r _ [22, 23, 24, 25, 21, 26, 27, 28, 29, 30, 31, 32, 33, 34, 88, 89, 90] (by decide +kernel) (by decide +kernel)
set_option maxRecDepth 20000 in
theorem gX5_cardsOf_X4_number : GoodIn wsX5_cardsOf (wsV RX5 87 RX4 yX4_number wsX4_number) := goodIn_app (goodIn_of _ (by decide +kernel)) ggX5_cardsOf_X4_number
set_option maxRecDepth 20000 in
theorem ggX5_cardsOf_X0_cards : GoodIn wsX5_cardsOf wsX0_cards := goodIn_r _ [41, 42, 43, 44, 45, 46, 47, 48, 49, 50, 51, 52, 53, 54, 36, 55, 56, 57, 58] (by decide +kernel) (by decide +kernel)
set_option maxRecDepth 20000 in
theorem gX5_cardsOf_X0_cards_u90X0 : GoodIn wsX5_cardsOf (va_wsO RX5 90 RX0 "MoreThanSheHas$Person" ⟨"MoreThanSheHas$Person", "cards", "(II)I"⟩ yX0_cards wsX0_cards) := goodIn_app (goodIn_of _ (by decide +kernel)) ggX5_cardsOf_X0_cards
set_option maxRecDepth 20000 in
theorem ggX5_cardsOf_X3_cards : GoodIn wsX5_cardsOf wsX3_cards := goodIn_r _ [62] (by decide +kernel) (by decide +kernel)
set_option maxRecDepth 20000 in
theorem gX5_cardsOf_X3_cards_u90X1 : GoodIn wsX5_cardsOf (va_wsO RX5 90 RX1 "MoreThanSheHas$Person" ⟨"MoreThanSheHas$Person", "cards", "(II)I"⟩ yX3_cards wsX3_cards) := goodIn_app (goodIn_of _ (by decide +kernel)) ggX5_cardsOf_X3_cards
set_option maxRecDepth 20000 in
theorem ggX5_cardsOf_X2_cards : GoodIn wsX5_cardsOf wsX2_cards := goodIn_r _ [53, 54, 36, 55, 56, 57, 58] (by decide +kernel) (by decide +kernel)
set_option maxRecDepth 20000 in
theorem gX5_cardsOf_X2_cards_u90X2 : GoodIn wsX5_cardsOf (va_wsO RX5 90 RX2 "MoreThanSheHas$Person" ⟨"MoreThanSheHas$Person", "cards", "(II)I"⟩ yX2_cards wsX2_cards) := goodIn_app (goodIn_of _ (by decide +kernel)) ggX5_cardsOf_X2_cards
set_option maxRecDepth 20000 in
theorem gX5_cardsOf_X3_cards_u90X3 : GoodIn wsX5_cardsOf (va_wsO RX5 90 RX3 "MoreThanSheHas$Person" ⟨"MoreThanSheHas$Person", "cards", "(II)I"⟩ yX3_cards wsX3_cards) := goodIn_app (goodIn_of _ (by decide +kernel)) ggX5_cardsOf_X3_cards
set_option maxRecDepth 20000 in
theorem ggX5_cardsOf_X6_cards : GoodIn wsX5_cardsOf wsX6_cards := goodIn_r _ [58] (by decide +kernel) (by decide +kernel)
set_option maxRecDepth 20000 in
theorem gX5_cardsOf_X6_cards : GoodIn wsX5_cardsOf (wsV RX5 90 RX6 yX6_cards wsX6_cards) := goodIn_app (goodIn_of _ (by decide +kernel)) ggX5_cardsOf_X6_cards
set_option maxRecDepth 20000 in
theorem ggX5_cardsOf_X8_cards : GoodIn wsX5_cardsOf wsX8_cards := goodIn_r _ [70, 71, 36, 72, 56, 57, 58] (by decide +kernel) (by decide +kernel)
set_option maxRecDepth 20000 in
theorem gX5_cardsOf_X8_cards_u90X8 : GoodIn wsX5_cardsOf (va_wsO RX5 90 RX8 "MoreThanSheHas$Person" ⟨"MoreThanSheHas$Person", "cards", "(II)I"⟩ yX8_cards wsX8_cards) := goodIn_app (goodIn_of _ (by decide +kernel)) ggX5_cardsOf_X8_cards
set_option maxRecDepth 20000 in
theorem ggX5_cardsOf_X9_cards : GoodIn wsX5_cardsOf wsX9_cards := goodIn_r _ [76, 77, 78, 79, 68, 69, 70, 71, 36, 72, 56, 57, 58] (by decide +kernel) (by decide +kernel)
set_option maxRecDepth 20000 in
theorem gX5_cardsOf_X9_cards_u90X9 : GoodIn wsX5_cardsOf (va_wsO RX5 90 RX9 "MoreThanSheHas$Person" ⟨"MoreThanSheHas$Person", "cards", "(II)I"⟩ yX9_cards wsX9_cards) := goodIn_app (goodIn_of _ (by decide +kernel)) ggX5_cardsOf_X9_cards
set_option maxRecDepth 20000 in
theorem ggX5_cardsOf_X10_cards : GoodIn wsX5_cardsOf wsX10_cards := goodIn_r _ [47, 48, 49, 50, 51, 52, 53, 54, 36, 55, 56, 57, 58] (by decide +kernel) (by decide +kernel)
set_option maxRecDepth 20000 in
theorem gX5_cardsOf_X10_cards_u90X10 : GoodIn wsX5_cardsOf (va_wsO RX5 90 RX10 "MoreThanSheHas$Person" ⟨"MoreThanSheHas$Person", "cards", "(II)I"⟩ yX10_cards wsX10_cards) := goodIn_app (goodIn_of _ (by decide +kernel)) ggX5_cardsOf_X10_cards
theorem dX5_cardsOf_0 : decode cX5_cardsOf 0 = .ok (.aload_n 0, 1) := by decide +kernel
theorem dX5_cardsOf_1 : decode cX5_cardsOf 1 = .ok (.aload_n 0, 1) := by decide +kernel
theorem dX5_cardsOf_2 : decode cX5_cardsOf 2 = .ok (.iload_n 1, 1) := by decide +kernel
theorem dX5_cardsOf_3 : decode cX5_cardsOf 3 = .ok (.invokevirtual 76, 3) := by decide +kernel
theorem dX5_cardsOf_6 : decode cX5_cardsOf 6 = .ok (.invokevirtual 80, 3) := by decide +kernel
theorem dX5_cardsOf_9 : decode cX5_cardsOf 9 = .ok (.aload_n 0, 1) := by decide +kernel
theorem dX5_cardsOf_10 : decode cX5_cardsOf 10 = .ok (.iload_n 1, 1) := by decide +kernel
theorem dX5_cardsOf_11 : decode cX5_cardsOf 11 = .ok (.invokevirtual 84, 3) := by decide +kernel
theorem dX5_cardsOf_14 : decode cX5_cardsOf 14 = .ok (.aload_n 0, 1) := by decide +kernel
theorem dX5_cardsOf_15 : decode cX5_cardsOf 15 = .ok (.getfield 12, 3) := by decide +kernel
theorem dX5_cardsOf_18 : decode cX5_cardsOf 18 = .ok (.iload_n 1, 1) := by decide +kernel
theorem dX5_cardsOf_19 : decode cX5_cardsOf 19 = .ok (.invokevirtual 87, 3) := by decide +kernel
theorem dX5_cardsOf_22 : decode cX5_cardsOf 22 = .ok (.invokevirtual 90, 3) := by decide +kernel
theorem dX5_cardsOf_25 : decode cX5_cardsOf 25 = .ok (.ireturn, 1) := by decide +kernel
set_option maxRecDepth 20000 in
theorem ggX5_allCards_X5_people : GoodIn wsX5_allCards wsX5_people := goodIn_r _ [5, 6, 89, 90, 91, 92, 93, 94, 95, 96, 97, 98] (by decide +kernel) (by decide +kernel)
set_option maxRecDepth 20000 in
theorem gX5_allCards_X5_people : GoodIn wsX5_allCards (wsV RX5 94 RX5 yX5_people wsX5_people) := goodIn_app (goodIn_of _ (by decide +kernel)) ggX5_allCards_X5_people
set_option maxRecDepth 20000 in
theorem ggX5_allCards_X5_cardsOf : GoodIn wsX5_allCards wsX5_cardsOf := goodIn_r _ [10, 6, 11, 12, 13, 4, 14, 15, 16, 17, 18, 19, 20, 21, 22, 23, 24, 25, 26, 27, 28, 29, 30, 31, 32, 33, 34, 35, 36, 37, 38, 39, 40, 41, 42, 43, 44, 45, 46, 47, 48, 49, 50, 51, 52, 53, 54, 55, 56, 57, 58, 59, 60, 61, 62, 63, 64, 65, 66, 67, 68, 69, 70, 71, 72, 73, 74, 75, 76, 77, 78, 79, 80, 81, 82, 83, 84, 85, 86, 87, 88, 89, 90, 91, 92, 93, 94, 95, 96, 97, 98] (by decide +kernel) (by decide +kernel)
set_option maxRecDepth 20000 in
theorem gX5_allCards_X5_cardsOf : GoodIn wsX5_allCards (wsV RX5 97 RX5 yX5_cardsOf wsX5_cardsOf) := goodIn_app (goodIn_of _ (by decide +kernel)) ggX5_allCards_X5_cardsOf
theorem dX5_allCards_0 : decode cX5_allCards 0 = .ok (.iconst 0, 1) := by decide +kernel
theorem dX5_allCards_1 : decode cX5_allCards 1 = .ok (.istore_n 1, 1) := by decide +kernel
theorem dX5_allCards_2 : decode cX5_allCards 2 = .ok (.iconst 0, 1) := by decide +kernel
theorem dX5_allCards_3 : decode cX5_allCards 3 = .ok (.istore_n 2, 1) := by decide +kernel
theorem dX5_allCards_4 : decode cX5_allCards 4 = .ok (.iload_n 2, 1) := by decide +kernel
theorem dX5_allCards_5 : decode cX5_allCards 5 = .ok (.aload_n 0, 1) := by decide +kernel
theorem dX5_allCards_6 : decode cX5_allCards 6 = .ok (.invokevirtual 94, 3) := by decide +kernel
theorem dX5_allCards_9 : decode cX5_allCards 9 = .ok (.if_icmp .ge 17, 3) := by decide +kernel
theorem dX5_allCards_12 : decode cX5_allCards 12 = .ok (.iload_n 1, 1) := by decide +kernel
theorem dX5_allCards_13 : decode cX5_allCards 13 = .ok (.aload_n 0, 1) := by decide +kernel
theorem dX5_allCards_14 : decode cX5_allCards 14 = .ok (.iload_n 2, 1) := by decide +kernel
theorem dX5_allCards_15 : decode cX5_allCards 15 = .ok (.invokevirtual 97, 3) := by decide +kernel
theorem dX5_allCards_18 : decode cX5_allCards 18 = .ok (.iadd, 1) := by decide +kernel
theorem dX5_allCards_19 : decode cX5_allCards 19 = .ok (.istore_n 1, 1) := by decide +kernel
theorem dX5_allCards_20 : decode cX5_allCards 20 = .ok (.iinc 2 1, 3) := by decide +kernel
theorem dX5_allCards_23 : decode cX5_allCards 23 = .ok (.goto (-19), 3) := by decide +kernel
theorem dX5_allCards_26 : decode cX5_allCards 26 = .ok (.iload_n 1, 1) := by decide +kernel
theorem dX5_allCards_27 : decode cX5_allCards 27 = .ok (.ireturn, 1) := by decide +kernel
set_option maxRecDepth 20000 in
theorem ggX5_arrive_X11_isKind : GoodIn wsX5_arrive wsX11_isKind := goodIn_r _ [4] (by decide +kernel) (by decide +kernel)
set_option maxRecDepth 20000 in
theorem gX5_arrive_X11_isKind_n100 : GoodIn wsX5_arrive (wsX11_isKind) := ggX5_arrive_X11_isKind
set_option maxRecDepth 20000 in
theorem ggX5_arrive_X11_isFigure : GoodIn wsX5_arrive wsX11_isFigure := goodIn_r _ [6] (by decide +kernel) (by decide +kernel)
set_option maxRecDepth 20000 in
theorem gX5_arrive_X11_isFigure_n104 : GoodIn wsX5_arrive (wsX11_isFigure) := ggX5_arrive_X11_isFigure
set_option maxRecDepth 20000 in
theorem ggX5_arrive_X5_change : GoodIn wsX5_arrive wsX5_change := goodIn_r _ [11, 12, 13, 14, 15, 16, 17, 18, 10, 19, 1, 2, 3, 4, 5, 6, 20, 21, 22, 23, 24, 25, 26, 27, 28, 29, 30, 31, 32, 33, 34, 35, 36, 37, 38, 39, 40, 41, 42, 43, 44, 45, 46, 47, 48, 49, 50, 51, 52] (by decide +kernel) (by decide +kernel)
set_option maxRecDepth 20000 in
theorem gX5_arrive_X5_change : GoodIn wsX5_arrive (wsV RX5 107 RX5 yX5_change wsX5_change) := goodIn_app (goodIn_of _ (by decide +kernel)) ggX5_arrive_X5_change
theorem dX5_arrive_0 : decode cX5_arrive 0 = .ok (.iload_n 1, 1) := by decide +kernel
theorem dX5_arrive_1 : decode cX5_arrive 1 = .ok (.invokestatic 100, 3) := by decide +kernel
theorem dX5_arrive_4 : decode cX5_arrive 4 = .ok (.ifCond .eq 10, 3) := by decide +kernel
theorem dX5_arrive_7 : decode cX5_arrive 7 = .ok (.iload_n 2, 1) := by decide +kernel
theorem dX5_arrive_8 : decode cX5_arrive 8 = .ok (.invokestatic 104, 3) := by decide +kernel
theorem dX5_arrive_11 : decode cX5_arrive 11 = .ok (.ifCond .ne 5, 3) := by decide +kernel
theorem dX5_arrive_14 : decode cX5_arrive 14 = .ok (.iconst (-1), 1) := by decide +kernel
theorem dX5_arrive_15 : decode cX5_arrive 15 = .ok (.ireturn, 1) := by decide +kernel
theorem dX5_arrive_16 : decode cX5_arrive 16 = .ok (.aload_n 0, 1) := by decide +kernel
theorem dX5_arrive_17 : decode cX5_arrive 17 = .ok (.getfield 12, 3) := by decide +kernel
theorem dX5_arrive_20 : decode cX5_arrive 20 = .ok (.getfield 73, 3) := by decide +kernel
theorem dX5_arrive_23 : decode cX5_arrive 23 = .ok (.bipush 9, 2) := by decide +kernel
theorem dX5_arrive_25 : decode cX5_arrive 25 = .ok (.if_icmp .lt 6, 3) := by decide +kernel
theorem dX5_arrive_28 : decode cX5_arrive 28 = .ok (.bipush (-2), 2) := by decide +kernel
theorem dX5_arrive_30 : decode cX5_arrive 30 = .ok (.ireturn, 1) := by decide +kernel
theorem dX5_arrive_31 : decode cX5_arrive 31 = .ok (.aload_n 0, 1) := by decide +kernel
theorem dX5_arrive_32 : decode cX5_arrive 32 = .ok (.getfield 12, 3) := by decide +kernel
theorem dX5_arrive_35 : decode cX5_arrive 35 = .ok (.getfield 73, 3) := by decide +kernel
theorem dX5_arrive_38 : decode cX5_arrive 38 = .ok (.istore_n 3, 1) := by decide +kernel
theorem dX5_arrive_39 : decode cX5_arrive 39 = .ok (.aload_n 0, 1) := by decide +kernel
theorem dX5_arrive_40 : decode cX5_arrive 40 = .ok (.getfield 12, 3) := by decide +kernel
theorem dX5_arrive_43 : decode cX5_arrive 43 = .ok (.dup, 1) := by decide +kernel
theorem dX5_arrive_44 : decode cX5_arrive 44 = .ok (.getfield 73, 3) := by decide +kernel
theorem dX5_arrive_47 : decode cX5_arrive 47 = .ok (.iconst 1, 1) := by decide +kernel
theorem dX5_arrive_48 : decode cX5_arrive 48 = .ok (.iadd, 1) := by decide +kernel
theorem dX5_arrive_49 : decode cX5_arrive 49 = .ok (.putfield 73, 3) := by decide +kernel
theorem dX5_arrive_52 : decode cX5_arrive 52 = .ok (.aload_n 0, 1) := by decide +kernel
theorem dX5_arrive_53 : decode cX5_arrive 53 = .ok (.iload_n 3, 1) := by decide +kernel
theorem dX5_arrive_54 : decode cX5_arrive 54 = .ok (.iload_n 1, 1) := by decide +kernel
theorem dX5_arrive_55 : decode cX5_arrive 55 = .ok (.iload_n 2, 1) := by decide +kernel
theorem dX5_arrive_56 : decode cX5_arrive 56 = .ok (.invokevirtual 107, 3) := by decide +kernel
theorem dX5_arrive_59 : decode cX5_arrive 59 = .ok (.pop, 1) := by decide +kernel
theorem dX5_arrive_60 : decode cX5_arrive 60 = .ok (.iload_n 3, 1) := by decide +kernel
theorem dX5_arrive_61 : decode cX5_arrive 61 = .ok (.ireturn, 1) := by decide +kernel
set_option maxRecDepth 20000 in
theorem ggX5_change_X5_has : GoodIn wsX5_change wsX5_has := goodIn_r _ [9, 10, 39, 40, 41, 42, 43, 44, 45, 46, 47, 48] (by decide +kernel) (by decide +kernel)
set_option maxRecDepth 20000 in
theorem gX5_change_X5_has : GoodIn wsX5_change (wsV RX5 111 RX5 yX5_has wsX5_has) := goodIn_app (goodIn_of _ (by decide +kernel)) ggX5_change_X5_has
set_option maxRecDepth 20000 in
theorem ggX5_change_X11_isKind : GoodIn wsX5_change wsX11_isKind := goodIn_r _ [13] (by decide +kernel) (by decide +kernel)
set_option maxRecDepth 20000 in
theorem gX5_change_X11_isKind_n100 : GoodIn wsX5_change (wsX11_isKind) := ggX5_change_X11_isKind
set_option maxRecDepth 20000 in
theorem ggX5_change_X11_isFigure : GoodIn wsX5_change wsX11_isFigure := goodIn_r _ [15] (by decide +kernel) (by decide +kernel)
set_option maxRecDepth 20000 in
theorem gX5_change_X11_isFigure_n104 : GoodIn wsX5_change (wsX11_isFigure) := ggX5_change_X11_isFigure
set_option maxRecDepth 20000 in
theorem ggX5_change_X5_kindNamed : GoodIn wsX5_change wsX5_kindNamed := goodIn_r _ [19, 20, 39, 40, 41, 42, 43, 44, 45] (by decide +kernel) (by decide +kernel)
set_option maxRecDepth 20000 in
theorem gX5_change_X5_kindNamed : GoodIn wsX5_change (wsV RX5 80 RX5 yX5_kindNamed wsX5_kindNamed) := goodIn_app (goodIn_of _ (by decide +kernel)) ggX5_change_X5_kindNamed
set_option maxRecDepth 20000 in
theorem ggX5_change_X6_hearsNothing : GoodIn wsX5_change wsX6_hearsNothing := goodIn_r _ [26] (by decide +kernel) (by decide +kernel)
set_option maxRecDepth 20000 in
theorem gX5_change_X6_hearsNothing_u114X0 : GoodIn wsX5_change (va_wsU RX5 114 RX0 "MoreThanSheHas$Person" ⟨"MoreThanSheHas$Person", "hearsNothing", "()Z"⟩ yX6_hearsNothing wsX6_hearsNothing) := goodIn_app (goodIn_of _ (by decide +kernel)) ggX5_change_X6_hearsNothing
set_option maxRecDepth 20000 in
theorem ggX5_change_X1_hearsNothing : GoodIn wsX5_change wsX1_hearsNothing := goodIn_r _ [31] (by decide +kernel) (by decide +kernel)
set_option maxRecDepth 20000 in
theorem gX5_change_X1_hearsNothing_u114X1 : GoodIn wsX5_change (va_wsO RX5 114 RX1 "MoreThanSheHas$Person" ⟨"MoreThanSheHas$Person", "hearsNothing", "()Z"⟩ yX1_hearsNothing wsX1_hearsNothing) := goodIn_app (goodIn_of _ (by decide +kernel)) ggX5_change_X1_hearsNothing
set_option maxRecDepth 20000 in
theorem gX5_change_X6_hearsNothing_u114X2 : GoodIn wsX5_change (va_wsU RX5 114 RX2 "MoreThanSheHas$Person" ⟨"MoreThanSheHas$Person", "hearsNothing", "()Z"⟩ yX6_hearsNothing wsX6_hearsNothing) := goodIn_app (goodIn_of _ (by decide +kernel)) ggX5_change_X6_hearsNothing
set_option maxRecDepth 20000 in
theorem gX5_change_X6_hearsNothing_u114X3 : GoodIn wsX5_change (va_wsU RX5 114 RX3 "MoreThanSheHas$Person" ⟨"MoreThanSheHas$Person", "hearsNothing", "()Z"⟩ yX6_hearsNothing wsX6_hearsNothing) := goodIn_app (goodIn_of _ (by decide +kernel)) ggX5_change_X6_hearsNothing
set_option maxRecDepth 20000 in
theorem gX5_change_X6_hearsNothing : GoodIn wsX5_change (wsV RX5 114 RX6 yX6_hearsNothing wsX6_hearsNothing) := goodIn_app (goodIn_of _ (by decide +kernel)) ggX5_change_X6_hearsNothing
set_option maxRecDepth 20000 in
theorem gX5_change_X6_hearsNothing_u114X8 : GoodIn wsX5_change (va_wsU RX5 114 RX8 "MoreThanSheHas$Person" ⟨"MoreThanSheHas$Person", "hearsNothing", "()Z"⟩ yX6_hearsNothing wsX6_hearsNothing) := goodIn_app (goodIn_of _ (by decide +kernel)) ggX5_change_X6_hearsNothing
set_option maxRecDepth 20000 in
theorem gX5_change_X6_hearsNothing_u114X9 : GoodIn wsX5_change (va_wsU RX5 114 RX9 "MoreThanSheHas$Person" ⟨"MoreThanSheHas$Person", "hearsNothing", "()Z"⟩ yX6_hearsNothing wsX6_hearsNothing) := goodIn_app (goodIn_of _ (by decide +kernel)) ggX5_change_X6_hearsNothing
set_option maxRecDepth 20000 in
theorem gX5_change_X6_hearsNothing_u114X10 : GoodIn wsX5_change (va_wsU RX5 114 RX10 "MoreThanSheHas$Person" ⟨"MoreThanSheHas$Person", "hearsNothing", "()Z"⟩ yX6_hearsNothing wsX6_hearsNothing) := goodIn_app (goodIn_of _ (by decide +kernel)) ggX5_change_X6_hearsNothing
theorem dX5_change_0 : decode cX5_change 0 = .ok (.aload_n 0, 1) := by decide +kernel
theorem dX5_change_1 : decode cX5_change 1 = .ok (.iload_n 1, 1) := by decide +kernel
theorem dX5_change_2 : decode cX5_change 2 = .ok (.invokevirtual 111, 3) := by decide +kernel
theorem dX5_change_5 : decode cX5_change 5 = .ok (.ifCond .eq 17, 3) := by decide +kernel
theorem dX5_change_8 : decode cX5_change 8 = .ok (.iload_n 2, 1) := by decide +kernel
theorem dX5_change_9 : decode cX5_change 9 = .ok (.invokestatic 100, 3) := by decide +kernel
theorem dX5_change_12 : decode cX5_change 12 = .ok (.ifCond .eq 10, 3) := by decide +kernel
theorem dX5_change_15 : decode cX5_change 15 = .ok (.iload_n 3, 1) := by decide +kernel
theorem dX5_change_16 : decode cX5_change 16 = .ok (.invokestatic 104, 3) := by decide +kernel
theorem dX5_change_19 : decode cX5_change 19 = .ok (.ifCond .ne 5, 3) := by decide +kernel
theorem dX5_change_22 : decode cX5_change 22 = .ok (.iconst (-1), 1) := by decide +kernel
theorem dX5_change_23 : decode cX5_change 23 = .ok (.ireturn, 1) := by decide +kernel
theorem dX5_change_24 : decode cX5_change 24 = .ok (.aload_n 0, 1) := by decide +kernel
theorem dX5_change_25 : decode cX5_change 25 = .ok (.getfield 46, 3) := by decide +kernel
theorem dX5_change_28 : decode cX5_change 28 = .ok (.iload_n 1, 1) := by decide +kernel
theorem dX5_change_29 : decode cX5_change 29 = .ok (.iload_n 2, 1) := by decide +kernel
theorem dX5_change_30 : decode cX5_change 30 = .ok (.iastore, 1) := by decide +kernel
theorem dX5_change_31 : decode cX5_change 31 = .ok (.aload_n 0, 1) := by decide +kernel
theorem dX5_change_32 : decode cX5_change 32 = .ok (.getfield 50, 3) := by decide +kernel
theorem dX5_change_35 : decode cX5_change 35 = .ok (.iload_n 1, 1) := by decide +kernel
theorem dX5_change_36 : decode cX5_change 36 = .ok (.iload_n 3, 1) := by decide +kernel
theorem dX5_change_37 : decode cX5_change 37 = .ok (.iastore, 1) := by decide +kernel
theorem dX5_change_38 : decode cX5_change 38 = .ok (.aload_n 0, 1) := by decide +kernel
theorem dX5_change_39 : decode cX5_change 39 = .ok (.dup, 1) := by decide +kernel
theorem dX5_change_40 : decode cX5_change 40 = .ok (.getfield 67, 3) := by decide +kernel
theorem dX5_change_43 : decode cX5_change 43 = .ok (.iconst 1, 1) := by decide +kernel
theorem dX5_change_44 : decode cX5_change 44 = .ok (.iload_n 1, 1) := by decide +kernel
theorem dX5_change_45 : decode cX5_change 45 = .ok (.ishl, 1) := by decide +kernel
theorem dX5_change_46 : decode cX5_change 46 = .ok (.iconst (-1), 1) := by decide +kernel
theorem dX5_change_47 : decode cX5_change 47 = .ok (.ixor, 1) := by decide +kernel
theorem dX5_change_48 : decode cX5_change 48 = .ok (.iand, 1) := by decide +kernel
theorem dX5_change_49 : decode cX5_change 49 = .ok (.putfield 67, 3) := by decide +kernel
theorem dX5_change_52 : decode cX5_change 52 = .ok (.aload_n 0, 1) := by decide +kernel
theorem dX5_change_53 : decode cX5_change 53 = .ok (.iload_n 2, 1) := by decide +kernel
theorem dX5_change_54 : decode cX5_change 54 = .ok (.invokevirtual 80, 3) := by decide +kernel
theorem dX5_change_57 : decode cX5_change 57 = .ok (.invokevirtual 114, 3) := by decide +kernel
theorem dX5_change_60 : decode cX5_change 60 = .ok (.ifCond .eq 29, 3) := by decide +kernel
theorem dX5_change_63 : decode cX5_change 63 = .ok (.aload_n 0, 1) := by decide +kernel
theorem dX5_change_64 : decode cX5_change 64 = .ok (.dup, 1) := by decide +kernel
theorem dX5_change_65 : decode cX5_change 65 = .ok (.getfield 67, 3) := by decide +kernel
theorem dX5_change_68 : decode cX5_change 68 = .ok (.iconst 1, 1) := by decide +kernel
theorem dX5_change_69 : decode cX5_change 69 = .ok (.iload_n 1, 1) := by decide +kernel
theorem dX5_change_70 : decode cX5_change 70 = .ok (.ishl, 1) := by decide +kernel
theorem dX5_change_71 : decode cX5_change 71 = .ok (.ior, 1) := by decide +kernel
theorem dX5_change_72 : decode cX5_change 72 = .ok (.putfield 67, 3) := by decide +kernel
theorem dX5_change_75 : decode cX5_change 75 = .ok (.aload_n 0, 1) := by decide +kernel
theorem dX5_change_76 : decode cX5_change 76 = .ok (.dup, 1) := by decide +kernel
theorem dX5_change_77 : decode cX5_change 77 = .ok (.getfield 63, 3) := by decide +kernel
theorem dX5_change_80 : decode cX5_change 80 = .ok (.iconst 1, 1) := by decide +kernel
theorem dX5_change_81 : decode cX5_change 81 = .ok (.iload_n 1, 1) := by decide +kernel
theorem dX5_change_82 : decode cX5_change 82 = .ok (.ishl, 1) := by decide +kernel
theorem dX5_change_83 : decode cX5_change 83 = .ok (.iconst (-1), 1) := by decide +kernel
theorem dX5_change_84 : decode cX5_change 84 = .ok (.ixor, 1) := by decide +kernel
theorem dX5_change_85 : decode cX5_change 85 = .ok (.iand, 1) := by decide +kernel
theorem dX5_change_86 : decode cX5_change 86 = .ok (.putfield 63, 3) := by decide +kernel
theorem dX5_change_89 : decode cX5_change 89 = .ok (.iconst 0, 1) := by decide +kernel
theorem dX5_change_90 : decode cX5_change 90 = .ok (.ireturn, 1) := by decide +kernel
set_option maxRecDepth 20000 in
theorem ggX5_join_X5_has : GoodIn wsX5_join wsX5_has := goodIn_r _ [6, 1, 21, 22, 23, 24, 25, 26, 27, 28, 29, 30] (by decide +kernel) (by decide +kernel)
set_option maxRecDepth 20000 in
theorem gX5_join_X5_has : GoodIn wsX5_join (wsV RX5 111 RX5 yX5_has wsX5_has) := goodIn_app (goodIn_of _ (by decide +kernel)) ggX5_join_X5_has
set_option maxRecDepth 20000 in
theorem ggX5_join_X4_turn : GoodIn wsX5_join wsX4_turn := goodIn_r _ [11, 12, 28, 29, 30] (by decide +kernel) (by decide +kernel)
set_option maxRecDepth 20000 in
theorem gX5_join_X4_turn : GoodIn wsX5_join (wsV RX5 118 RX4 yX4_turn wsX4_turn) := goodIn_app (goodIn_of _ (by decide +kernel)) ggX5_join_X4_turn
set_option maxRecDepth 20000 in
theorem ggX5_join_X4_between : GoodIn wsX5_join wsX4_between := goodIn_r _ [16, 17, 18, 19, 10, 20, 12, 28, 29, 30] (by decide +kernel) (by decide +kernel)
set_option maxRecDepth 20000 in
theorem gX5_join_X4_between : GoodIn wsX5_join (wsV RX5 122 RX4 yX4_between wsX4_between) := goodIn_app (goodIn_of _ (by decide +kernel)) ggX5_join_X4_between
theorem dX5_join_0 : decode cX5_join 0 = .ok (.aload_n 0, 1) := by decide +kernel
theorem dX5_join_1 : decode cX5_join 1 = .ok (.iload_n 1, 1) := by decide +kernel
theorem dX5_join_2 : decode cX5_join 2 = .ok (.invokevirtual 111, 3) := by decide +kernel
theorem dX5_join_5 : decode cX5_join 5 = .ok (.ifCond .eq 16, 3) := by decide +kernel
theorem dX5_join_8 : decode cX5_join 8 = .ok (.aload_n 0, 1) := by decide +kernel
theorem dX5_join_9 : decode cX5_join 9 = .ok (.iload_n 2, 1) := by decide +kernel
theorem dX5_join_10 : decode cX5_join 10 = .ok (.invokevirtual 111, 3) := by decide +kernel
theorem dX5_join_13 : decode cX5_join 13 = .ok (.ifCond .eq 8, 3) := by decide +kernel
theorem dX5_join_16 : decode cX5_join 16 = .ok (.iload_n 1, 1) := by decide +kernel
theorem dX5_join_17 : decode cX5_join 17 = .ok (.iload_n 2, 1) := by decide +kernel
theorem dX5_join_18 : decode cX5_join 18 = .ok (.if_icmp .ne 5, 3) := by decide +kernel
theorem dX5_join_21 : decode cX5_join 21 = .ok (.iconst (-1), 1) := by decide +kernel
theorem dX5_join_22 : decode cX5_join 22 = .ok (.ireturn, 1) := by decide +kernel
theorem dX5_join_23 : decode cX5_join 23 = .ok (.aload_n 0, 1) := by decide +kernel
theorem dX5_join_24 : decode cX5_join 24 = .ok (.getfield 12, 3) := by decide +kernel
theorem dX5_join_27 : decode cX5_join 27 = .ok (.iload_n 1, 1) := by decide +kernel
theorem dX5_join_28 : decode cX5_join 28 = .ok (.iload_n 2, 1) := by decide +kernel
theorem dX5_join_29 : decode cX5_join 29 = .ok (.invokevirtual 118, 3) := by decide +kernel
theorem dX5_join_32 : decode cX5_join 32 = .ok (.aload_n 0, 1) := by decide +kernel
theorem dX5_join_33 : decode cX5_join 33 = .ok (.getfield 12, 3) := by decide +kernel
theorem dX5_join_36 : decode cX5_join 36 = .ok (.iload_n 1, 1) := by decide +kernel
theorem dX5_join_37 : decode cX5_join 37 = .ok (.iload_n 2, 1) := by decide +kernel
theorem dX5_join_38 : decode cX5_join 38 = .ok (.invokevirtual 122, 3) := by decide +kernel
theorem dX5_join_41 : decode cX5_join 41 = .ok (.ifCond .eq 7, 3) := by decide +kernel
theorem dX5_join_44 : decode cX5_join 44 = .ok (.iconst 1, 1) := by decide +kernel
theorem dX5_join_45 : decode cX5_join 45 = .ok (.goto 4, 3) := by decide +kernel
theorem dX5_join_48 : decode cX5_join 48 = .ok (.iconst 0, 1) := by decide +kernel
theorem dX5_join_49 : decode cX5_join 49 = .ok (.ireturn, 1) := by decide +kernel
set_option maxRecDepth 20000 in
theorem ggX5_inform_X5_has : GoodIn wsX5_inform wsX5_has := goodIn_r _ [6, 7, 13, 14, 15, 16, 17, 18, 19, 20, 21, 22] (by decide +kernel) (by decide +kernel)
set_option maxRecDepth 20000 in
theorem gX5_inform_X5_has : GoodIn wsX5_inform (wsV RX5 111 RX5 yX5_has wsX5_has) := goodIn_app (goodIn_of _ (by decide +kernel)) ggX5_inform_X5_has
set_option maxRecDepth 20000 in
theorem ggX5_inform_X5_isDeaf : GoodIn wsX5_inform wsX5_isDeaf := goodIn_r _ [11, 12, 13, 14, 15, 16, 17, 18, 19] (by decide +kernel) (by decide +kernel)
set_option maxRecDepth 20000 in
theorem gX5_inform_X5_isDeaf : GoodIn wsX5_inform (wsV RX5 126 RX5 yX5_isDeaf wsX5_isDeaf) := goodIn_app (goodIn_of _ (by decide +kernel)) ggX5_inform_X5_isDeaf
theorem dX5_inform_0 : decode cX5_inform 0 = .ok (.aload_n 0, 1) := by decide +kernel
theorem dX5_inform_1 : decode cX5_inform 1 = .ok (.iload_n 1, 1) := by decide +kernel
theorem dX5_inform_2 : decode cX5_inform 2 = .ok (.invokevirtual 111, 3) := by decide +kernel
theorem dX5_inform_5 : decode cX5_inform 5 = .ok (.ifCond .ne 5, 3) := by decide +kernel
theorem dX5_inform_8 : decode cX5_inform 8 = .ok (.iconst (-1), 1) := by decide +kernel
theorem dX5_inform_9 : decode cX5_inform 9 = .ok (.ireturn, 1) := by decide +kernel
theorem dX5_inform_10 : decode cX5_inform 10 = .ok (.aload_n 0, 1) := by decide +kernel
theorem dX5_inform_11 : decode cX5_inform 11 = .ok (.iload_n 1, 1) := by decide +kernel
theorem dX5_inform_12 : decode cX5_inform 12 = .ok (.invokevirtual 126, 3) := by decide +kernel
theorem dX5_inform_15 : decode cX5_inform 15 = .ok (.ifCond .eq 6, 3) := by decide +kernel
theorem dX5_inform_18 : decode cX5_inform 18 = .ok (.bipush (-3), 2) := by decide +kernel
theorem dX5_inform_20 : decode cX5_inform 20 = .ok (.ireturn, 1) := by decide +kernel
theorem dX5_inform_21 : decode cX5_inform 21 = .ok (.aload_n 0, 1) := by decide +kernel
theorem dX5_inform_22 : decode cX5_inform 22 = .ok (.dup, 1) := by decide +kernel
theorem dX5_inform_23 : decode cX5_inform 23 = .ok (.getfield 63, 3) := by decide +kernel
theorem dX5_inform_26 : decode cX5_inform 26 = .ok (.iconst 1, 1) := by decide +kernel
theorem dX5_inform_27 : decode cX5_inform 27 = .ok (.iload_n 1, 1) := by decide +kernel
theorem dX5_inform_28 : decode cX5_inform 28 = .ok (.ishl, 1) := by decide +kernel
theorem dX5_inform_29 : decode cX5_inform 29 = .ok (.ixor, 1) := by decide +kernel
theorem dX5_inform_30 : decode cX5_inform 30 = .ok (.putfield 63, 3) := by decide +kernel
theorem dX5_inform_33 : decode cX5_inform 33 = .ok (.aload_n 0, 1) := by decide +kernel
theorem dX5_inform_34 : decode cX5_inform 34 = .ok (.getfield 63, 3) := by decide +kernel
theorem dX5_inform_37 : decode cX5_inform 37 = .ok (.iload_n 1, 1) := by decide +kernel
theorem dX5_inform_38 : decode cX5_inform 38 = .ok (.ishr, 1) := by decide +kernel
theorem dX5_inform_39 : decode cX5_inform 39 = .ok (.iconst 1, 1) := by decide +kernel
theorem dX5_inform_40 : decode cX5_inform 40 = .ok (.iand, 1) := by decide +kernel
theorem dX5_inform_41 : decode cX5_inform 41 = .ok (.ireturn, 1) := by decide +kernel
set_option maxRecDepth 20000 in
theorem ggX5_goOn_X5_nextHeard : GoodIn wsX5_goOn wsX5_nextHeard := goodIn_r _ [7, 8, 9, 10, 11, 12, 6, 13, 14, 15, 16, 17, 18, 19, 20, 21, 22, 23, 24, 25, 26, 27, 28, 29, 30, 31, 32, 33, 34, 35, 36, 37, 38, 39, 40, 41, 42, 43, 44, 45, 46, 47, 48, 49, 50, 51, 52, 53, 54, 55, 56, 57, 58, 59, 60, 61, 62, 63, 64, 65, 66, 67, 68, 69, 70, 71, 72, 73, 74, 75, 76, 77, 78, 79, 80, 81, 82, 83, 84, 85, 86, 87, 88, 89, 90, 91, 92, 93, 94, 95, 96, 97, 98, 99, 100, 101, 102, 103, 104, 105, 106, 107, 108, 109, 110, 112, 113, 114, 115, 116, 117, 118, 119, 120, 121] (by decide +kernel) (by decide +kernel)
set_option maxRecDepth 20000 in
theorem gX5_goOn_X5_nextHeard : GoodIn wsX5_goOn (wsV RX5 129 RX5 yX5_nextHeard wsX5_nextHeard) := goodIn_app (goodIn_of _ (by decide +kernel)) ggX5_goOn_X5_nextHeard
set_option maxRecDepth 20000 in
theorem ggX5_goOn_J6_bitCount_0f7a4 : GoodIn wsX5_goOn wsJ6_bitCount_0f7a4 := goodIn_r _ [89, 90, 91, 92] (by decide +kernel) (by decide +kernel)
set_option maxRecDepth 20000 in
theorem gX5_goOn_J6_bitCount_0f7a4 : GoodIn wsX5_goOn (va_wsS RX5 132 yJ6_bitCount_0f7a4 wsJ6_bitCount_0f7a4) := goodIn_app (goodIn_of _ (by decide +kernel)) ggX5_goOn_J6_bitCount_0f7a4
theorem dX5_goOn_0 : decode cX5_goOn 0 = .ok (.iload_n 1, 1) := by decide +kernel
theorem dX5_goOn_1 : decode cX5_goOn 1 = .ok (.iconst 1, 1) := by decide +kernel
theorem dX5_goOn_2 : decode cX5_goOn 2 = .ok (.if_icmp .lt 9, 3) := by decide +kernel
theorem dX5_goOn_5 : decode cX5_goOn 5 = .ok (.iload_n 1, 1) := by decide +kernel
theorem dX5_goOn_6 : decode cX5_goOn 6 = .ok (.bipush 60, 2) := by decide +kernel
theorem dX5_goOn_8 : decode cX5_goOn 8 = .ok (.if_icmp .le 5, 3) := by decide +kernel
theorem dX5_goOn_11 : decode cX5_goOn 11 = .ok (.iconst (-1), 1) := by decide +kernel
theorem dX5_goOn_12 : decode cX5_goOn 12 = .ok (.ireturn, 1) := by decide +kernel
theorem dX5_goOn_13 : decode cX5_goOn 13 = .ok (.aload_n 0, 1) := by decide +kernel
theorem dX5_goOn_14 : decode cX5_goOn 14 = .ok (.getfield 70, 3) := by decide +kernel
theorem dX5_goOn_17 : decode cX5_goOn 17 = .ok (.iload_n 1, 1) := by decide +kernel
theorem dX5_goOn_18 : decode cX5_goOn 18 = .ok (.iadd, 1) := by decide +kernel
theorem dX5_goOn_19 : decode cX5_goOn 19 = .ok (.sipush 999, 3) := by decide +kernel
theorem dX5_goOn_22 : decode cX5_goOn 22 = .ok (.if_icmp .le 6, 3) := by decide +kernel
theorem dX5_goOn_25 : decode cX5_goOn 25 = .ok (.bipush (-3), 2) := by decide +kernel
theorem dX5_goOn_27 : decode cX5_goOn 27 = .ok (.ireturn, 1) := by decide +kernel
theorem dX5_goOn_28 : decode cX5_goOn 28 = .ok (.iconst 0, 1) := by decide +kernel
theorem dX5_goOn_29 : decode cX5_goOn 29 = .ok (.istore_n 2, 1) := by decide +kernel
theorem dX5_goOn_30 : decode cX5_goOn 30 = .ok (.iload_n 2, 1) := by decide +kernel
theorem dX5_goOn_31 : decode cX5_goOn 31 = .ok (.iload_n 1, 1) := by decide +kernel
theorem dX5_goOn_32 : decode cX5_goOn 32 = .ok (.if_icmp .ge 36, 3) := by decide +kernel
theorem dX5_goOn_35 : decode cX5_goOn 35 = .ok (.aload_n 0, 1) := by decide +kernel
theorem dX5_goOn_36 : decode cX5_goOn 36 = .ok (.dup, 1) := by decide +kernel
theorem dX5_goOn_37 : decode cX5_goOn 37 = .ok (.getfield 70, 3) := by decide +kernel
theorem dX5_goOn_40 : decode cX5_goOn 40 = .ok (.iconst 1, 1) := by decide +kernel
theorem dX5_goOn_41 : decode cX5_goOn 41 = .ok (.iadd, 1) := by decide +kernel
theorem dX5_goOn_42 : decode cX5_goOn 42 = .ok (.putfield 70, 3) := by decide +kernel
theorem dX5_goOn_45 : decode cX5_goOn 45 = .ok (.aload_n 0, 1) := by decide +kernel
theorem dX5_goOn_46 : decode cX5_goOn 46 = .ok (.aload_n 0, 1) := by decide +kernel
theorem dX5_goOn_47 : decode cX5_goOn 47 = .ok (.aload_n 0, 1) := by decide +kernel
theorem dX5_goOn_48 : decode cX5_goOn 48 = .ok (.getfield 63, 3) := by decide +kernel
theorem dX5_goOn_51 : decode cX5_goOn 51 = .ok (.aload_n 0, 1) := by decide +kernel
theorem dX5_goOn_52 : decode cX5_goOn 52 = .ok (.getfield 70, 3) := by decide +kernel
theorem dX5_goOn_55 : decode cX5_goOn 55 = .ok (.iconst 0, 1) := by decide +kernel
theorem dX5_goOn_56 : decode cX5_goOn 56 = .ok (.invokevirtual 129, 3) := by decide +kernel
theorem dX5_goOn_59 : decode cX5_goOn 59 = .ok (.putfield 63, 3) := by decide +kernel
theorem dX5_goOn_62 : decode cX5_goOn 62 = .ok (.iinc 2 1, 3) := by decide +kernel
theorem dX5_goOn_65 : decode cX5_goOn 65 = .ok (.goto (-35), 3) := by decide +kernel
theorem dX5_goOn_68 : decode cX5_goOn 68 = .ok (.aload_n 0, 1) := by decide +kernel
theorem dX5_goOn_69 : decode cX5_goOn 69 = .ok (.getfield 63, 3) := by decide +kernel
theorem dX5_goOn_72 : decode cX5_goOn 72 = .ok (.invokestatic 132, 3) := by decide +kernel
theorem dX5_goOn_75 : decode cX5_goOn 75 = .ok (.ireturn, 1) := by decide +kernel
set_option maxRecDepth 20000 in
theorem ggX5_behind_X5_nextHeard : GoodIn wsX5_behind wsX5_nextHeard := goodIn_r _ [6, 7, 8, 9, 10, 11, 5, 12, 13, 14, 15, 16, 17, 18, 19, 20, 21, 22, 23, 24, 25, 26, 27, 28, 29, 30, 31, 32, 33, 34, 35, 36, 37, 38, 39, 40, 41, 42, 43, 44, 45, 46, 47, 48, 49, 50, 51, 52, 53, 54, 55, 56, 57, 58, 59, 60, 61, 62, 63, 64, 65, 66, 67, 68, 69, 70, 71, 72, 73, 74, 75, 76, 77, 78, 79, 80, 81, 82, 83, 84, 85, 86, 87, 88, 89, 90, 91, 92, 93, 94, 95, 96, 97, 98, 99, 100, 101, 102, 103, 104, 105, 106, 107, 108, 109, 110, 111, 112, 113, 114, 115, 116, 117, 118, 119] (by decide +kernel) (by decide +kernel)
set_option maxRecDepth 20000 in
theorem gX5_behind_X5_nextHeard : GoodIn wsX5_behind (wsV RX5 129 RX5 yX5_nextHeard wsX5_nextHeard) := goodIn_app (goodIn_of _ (by decide +kernel)) ggX5_behind_X5_nextHeard
theorem dX5_behind_0 : decode cX5_behind 0 = .ok (.iload_n 1, 1) := by decide +kernel
theorem dX5_behind_1 : decode cX5_behind 1 = .ok (.istore 4, 2) := by decide +kernel
theorem dX5_behind_3 : decode cX5_behind 3 = .ok (.iconst 0, 1) := by decide +kernel
theorem dX5_behind_4 : decode cX5_behind 4 = .ok (.istore 5, 2) := by decide +kernel
theorem dX5_behind_6 : decode cX5_behind 6 = .ok (.iconst 1, 1) := by decide +kernel
theorem dX5_behind_7 : decode cX5_behind 7 = .ok (.istore 6, 2) := by decide +kernel
theorem dX5_behind_9 : decode cX5_behind 9 = .ok (.iload 6, 2) := by decide +kernel
theorem dX5_behind_11 : decode cX5_behind 11 = .ok (.iload_n 2, 1) := by decide +kernel
theorem dX5_behind_12 : decode cX5_behind 12 = .ok (.if_icmp .gt 52, 3) := by decide +kernel
theorem dX5_behind_15 : decode cX5_behind 15 = .ok (.iload 5, 2) := by decide +kernel
theorem dX5_behind_17 : decode cX5_behind 17 = .ok (.iconst 2, 1) := by decide +kernel
theorem dX5_behind_18 : decode cX5_behind 18 = .ok (.if_icmp .ge 46, 3) := by decide +kernel
theorem dX5_behind_21 : decode cX5_behind 21 = .ok (.aload_n 0, 1) := by decide +kernel
theorem dX5_behind_22 : decode cX5_behind 22 = .ok (.iload 4, 2) := by decide +kernel
theorem dX5_behind_24 : decode cX5_behind 24 = .ok (.aload_n 0, 1) := by decide +kernel
theorem dX5_behind_25 : decode cX5_behind 25 = .ok (.getfield 70, 3) := by decide +kernel
theorem dX5_behind_28 : decode cX5_behind 28 = .ok (.iload 6, 2) := by decide +kernel
theorem dX5_behind_30 : decode cX5_behind 30 = .ok (.iadd, 1) := by decide +kernel
theorem dX5_behind_31 : decode cX5_behind 31 = .ok (.iload_n 3, 1) := by decide +kernel
theorem dX5_behind_32 : decode cX5_behind 32 = .ok (.invokevirtual 129, 3) := by decide +kernel
theorem dX5_behind_35 : decode cX5_behind 35 = .ok (.istore 7, 2) := by decide +kernel
theorem dX5_behind_37 : decode cX5_behind 37 = .ok (.iload 7, 2) := by decide +kernel
theorem dX5_behind_39 : decode cX5_behind 39 = .ok (.iload 4, 2) := by decide +kernel
theorem dX5_behind_41 : decode cX5_behind 41 = .ok (.if_icmp .ne 10, 3) := by decide +kernel
theorem dX5_behind_44 : decode cX5_behind 44 = .ok (.iload 5, 2) := by decide +kernel
theorem dX5_behind_46 : decode cX5_behind 46 = .ok (.iconst 1, 1) := by decide +kernel
theorem dX5_behind_47 : decode cX5_behind 47 = .ok (.iadd, 1) := by decide +kernel
theorem dX5_behind_48 : decode cX5_behind 48 = .ok (.goto 4, 3) := by decide +kernel
theorem dX5_behind_51 : decode cX5_behind 51 = .ok (.iconst 0, 1) := by decide +kernel
theorem dX5_behind_52 : decode cX5_behind 52 = .ok (.istore 5, 2) := by decide +kernel
theorem dX5_behind_54 : decode cX5_behind 54 = .ok (.iload 7, 2) := by decide +kernel
theorem dX5_behind_56 : decode cX5_behind 56 = .ok (.istore 4, 2) := by decide +kernel
theorem dX5_behind_58 : decode cX5_behind 58 = .ok (.iinc 6 1, 3) := by decide +kernel
theorem dX5_behind_61 : decode cX5_behind 61 = .ok (.goto (-52), 3) := by decide +kernel
theorem dX5_behind_64 : decode cX5_behind 64 = .ok (.iload 4, 2) := by decide +kernel
theorem dX5_behind_66 : decode cX5_behind 66 = .ok (.ireturn, 1) := by decide +kernel
set_option maxRecDepth 20000 in
theorem ggX5_nextHeard_X5_people : GoodIn wsX5_nextHeard wsX5_people := goodIn_r _ [7, 1, 105, 106, 107, 108, 109, 110, 111, 112, 113, 114] (by decide +kernel) (by decide +kernel)
set_option maxRecDepth 20000 in
theorem gX5_nextHeard_X5_people : GoodIn wsX5_nextHeard (wsV RX5 94 RX5 yX5_people wsX5_people) := goodIn_app (goodIn_of _ (by decide +kernel)) ggX5_nextHeard_X5_people
set_option maxRecDepth 20000 in
theorem ggX5_nextHeard_X4_around : GoodIn wsX5_nextHeard wsX4_around := goodIn_r _ [12, 13, 112, 113, 114] (by decide +kernel) (by decide +kernel)
set_option maxRecDepth 20000 in
theorem gX5_nextHeard_X4_around : GoodIn wsX5_nextHeard (wsV RX5 137 RX4 yX4_around wsX4_around) := goodIn_app (goodIn_of _ (by decide +kernel)) ggX5_nextHeard_X4_around
set_option maxRecDepth 20000 in
theorem ggX5_nextHeard_X5_toldBy : GoodIn wsX5_nextHeard wsX5_toldBy := goodIn_r _ [17, 1, 18, 19, 20, 6, 21, 22, 23, 24, 25, 26, 27, 28, 29, 30, 31, 32, 33, 34, 35, 36, 37, 38, 39, 40, 41, 42, 43, 44, 45, 46, 47, 48, 49, 50, 51, 52, 53, 54, 55, 56, 57, 58, 59, 60, 61, 62, 63, 64, 65, 66, 67, 68, 69, 70, 71, 72, 73, 74, 3, 4, 5, 7, 75, 76, 77, 11, 78, 79, 9, 10, 12, 13, 80, 81, 82, 83, 84, 85, 86, 87, 88, 89, 90, 91, 92, 93, 94, 95, 96, 97, 98, 99, 100, 101, 102, 103, 104, 105, 106, 107, 108, 109, 110, 111, 112, 113, 114] (by decide +kernel) (by decide +kernel)
set_option maxRecDepth 20000 in
theorem gX5_nextHeard_X5_toldBy : GoodIn wsX5_nextHeard (wsV RX5 140 RX5 yX5_toldBy wsX5_toldBy) := goodIn_app (goodIn_of _ (by decide +kernel)) ggX5_nextHeard_X5_toldBy
theorem dX5_nextHeard_0 : decode cX5_nextHeard 0 = .ok (.iload_n 1, 1) := by decide +kernel
theorem dX5_nextHeard_1 : decode cX5_nextHeard 1 = .ok (.istore 4, 2) := by decide +kernel
theorem dX5_nextHeard_3 : decode cX5_nextHeard 3 = .ok (.iconst 0, 1) := by decide +kernel
theorem dX5_nextHeard_4 : decode cX5_nextHeard 4 = .ok (.istore 5, 2) := by decide +kernel
theorem dX5_nextHeard_6 : decode cX5_nextHeard 6 = .ok (.iload 5, 2) := by decide +kernel
theorem dX5_nextHeard_8 : decode cX5_nextHeard 8 = .ok (.aload_n 0, 1) := by decide +kernel
theorem dX5_nextHeard_9 : decode cX5_nextHeard 9 = .ok (.invokevirtual 94, 3) := by decide +kernel
theorem dX5_nextHeard_12 : decode cX5_nextHeard 12 = .ok (.if_icmp .ge 55, 3) := by decide +kernel
theorem dX5_nextHeard_15 : decode cX5_nextHeard 15 = .ok (.iload_n 1, 1) := by decide +kernel
theorem dX5_nextHeard_16 : decode cX5_nextHeard 16 = .ok (.iload_n 3, 1) := by decide +kernel
theorem dX5_nextHeard_17 : decode cX5_nextHeard 17 = .ok (.iconst (-1), 1) := by decide +kernel
theorem dX5_nextHeard_18 : decode cX5_nextHeard 18 = .ok (.ixor, 1) := by decide +kernel
theorem dX5_nextHeard_19 : decode cX5_nextHeard 19 = .ok (.iand, 1) := by decide +kernel
theorem dX5_nextHeard_20 : decode cX5_nextHeard 20 = .ok (.iconst 1, 1) := by decide +kernel
theorem dX5_nextHeard_21 : decode cX5_nextHeard 21 = .ok (.iload 5, 2) := by decide +kernel
theorem dX5_nextHeard_23 : decode cX5_nextHeard 23 = .ok (.ishl, 1) := by decide +kernel
theorem dX5_nextHeard_24 : decode cX5_nextHeard 24 = .ok (.iand, 1) := by decide +kernel
theorem dX5_nextHeard_25 : decode cX5_nextHeard 25 = .ok (.ifCond .eq 36, 3) := by decide +kernel
theorem dX5_nextHeard_28 : decode cX5_nextHeard 28 = .ok (.iload 4, 2) := by decide +kernel
theorem dX5_nextHeard_30 : decode cX5_nextHeard 30 = .ok (.aload_n 0, 1) := by decide +kernel
theorem dX5_nextHeard_31 : decode cX5_nextHeard 31 = .ok (.iload 5, 2) := by decide +kernel
theorem dX5_nextHeard_33 : decode cX5_nextHeard 33 = .ok (.aload_n 0, 1) := by decide +kernel
theorem dX5_nextHeard_34 : decode cX5_nextHeard 34 = .ok (.getfield 12, 3) := by decide +kernel
theorem dX5_nextHeard_37 : decode cX5_nextHeard 37 = .ok (.iload 5, 2) := by decide +kernel
theorem dX5_nextHeard_39 : decode cX5_nextHeard 39 = .ok (.invokevirtual 137, 3) := by decide +kernel
theorem dX5_nextHeard_42 : decode cX5_nextHeard 42 = .ok (.iload 4, 2) := by decide +kernel
theorem dX5_nextHeard_44 : decode cX5_nextHeard 44 = .ok (.iconst (-1), 1) := by decide +kernel
theorem dX5_nextHeard_45 : decode cX5_nextHeard 45 = .ok (.ixor, 1) := by decide +kernel
theorem dX5_nextHeard_46 : decode cX5_nextHeard 46 = .ok (.iand, 1) := by decide +kernel
theorem dX5_nextHeard_47 : decode cX5_nextHeard 47 = .ok (.aload_n 0, 1) := by decide +kernel
theorem dX5_nextHeard_48 : decode cX5_nextHeard 48 = .ok (.getfield 67, 3) := by decide +kernel
theorem dX5_nextHeard_51 : decode cX5_nextHeard 51 = .ok (.iconst (-1), 1) := by decide +kernel
theorem dX5_nextHeard_52 : decode cX5_nextHeard 52 = .ok (.ixor, 1) := by decide +kernel
theorem dX5_nextHeard_53 : decode cX5_nextHeard 53 = .ok (.iand, 1) := by decide +kernel
theorem dX5_nextHeard_54 : decode cX5_nextHeard 54 = .ok (.iload_n 2, 1) := by decide +kernel
theorem dX5_nextHeard_55 : decode cX5_nextHeard 55 = .ok (.invokevirtual 140, 3) := by decide +kernel
theorem dX5_nextHeard_58 : decode cX5_nextHeard 58 = .ok (.ior, 1) := by decide +kernel
theorem dX5_nextHeard_59 : decode cX5_nextHeard 59 = .ok (.istore 4, 2) := by decide +kernel
theorem dX5_nextHeard_61 : decode cX5_nextHeard 61 = .ok (.iinc 5 1, 3) := by decide +kernel
theorem dX5_nextHeard_64 : decode cX5_nextHeard 64 = .ok (.goto (-58), 3) := by decide +kernel
theorem dX5_nextHeard_67 : decode cX5_nextHeard 67 = .ok (.iload 4, 2) := by decide +kernel
theorem dX5_nextHeard_69 : decode cX5_nextHeard 69 = .ok (.ireturn, 1) := by decide +kernel
set_option maxRecDepth 20000 in
theorem ggX5_toldBy_X5_kindOf : GoodIn wsX5_toldBy wsX5_kindOf := goodIn_r _ [6, 7, 99, 100, 101, 102, 103, 104, 105] (by decide +kernel) (by decide +kernel)
set_option maxRecDepth 20000 in
theorem gX5_toldBy_X5_kindOf : GoodIn wsX5_toldBy (wsV RX5 76 RX5 yX5_kindOf wsX5_kindOf) := goodIn_app (goodIn_of _ (by decide +kernel)) ggX5_toldBy_X5_kindOf
set_option maxRecDepth 20000 in
theorem ggX5_toldBy_X5_kindNamed : GoodIn wsX5_toldBy wsX5_kindNamed := goodIn_r _ [11, 12, 99, 100, 101, 102, 103, 104, 105] (by decide +kernel) (by decide +kernel)
set_option maxRecDepth 20000 in
theorem gX5_toldBy_X5_kindNamed : GoodIn wsX5_toldBy (wsV RX5 80 RX5 yX5_kindNamed wsX5_kindNamed) := goodIn_app (goodIn_of _ (by decide +kernel)) ggX5_toldBy_X5_kindNamed
set_option maxRecDepth 20000 in
theorem ggX5_toldBy_X5_figureOf : GoodIn wsX5_toldBy wsX5_figureOf := goodIn_r _ [16, 17, 99, 100, 101, 102, 103, 104, 105] (by decide +kernel) (by decide +kernel)
set_option maxRecDepth 20000 in
theorem gX5_toldBy_X5_figureOf : GoodIn wsX5_toldBy (wsV RX5 84 RX5 yX5_figureOf wsX5_figureOf) := goodIn_app (goodIn_of _ (by decide +kernel)) ggX5_toldBy_X5_figureOf
set_option maxRecDepth 20000 in
theorem ggX5_toldBy_X0_tellsAtMost : GoodIn wsX5_toldBy wsX0_tellsAtMost := goodIn_r _ [24, 25, 26, 27, 28, 29, 30, 31, 32, 33, 34, 35, 36] (by decide +kernel) (by decide +kernel)
set_option maxRecDepth 20000 in
theorem gX5_toldBy_X0_tellsAtMost_u143X0 : GoodIn wsX5_toldBy (va_wsO RX5 143 RX0 "MoreThanSheHas$Person" ⟨"MoreThanSheHas$Person", "tellsAtMost", "(II)I"⟩ yX0_tellsAtMost wsX0_tellsAtMost) := goodIn_app (goodIn_of _ (by decide +kernel)) ggX5_toldBy_X0_tellsAtMost
set_option maxRecDepth 20000 in
theorem ggX5_toldBy_X3_tellsAtMost : GoodIn wsX5_toldBy wsX3_tellsAtMost := goodIn_r _ [41] (by decide +kernel) (by decide +kernel)
set_option maxRecDepth 20000 in
theorem gX5_toldBy_X3_tellsAtMost_u143X1 : GoodIn wsX5_toldBy (va_wsO RX5 143 RX1 "MoreThanSheHas$Person" ⟨"MoreThanSheHas$Person", "tellsAtMost", "(II)I"⟩ yX3_tellsAtMost wsX3_tellsAtMost) := goodIn_app (goodIn_of _ (by decide +kernel)) ggX5_toldBy_X3_tellsAtMost
set_option maxRecDepth 20000 in
theorem ggX5_toldBy_X2_tellsAtMost : GoodIn wsX5_toldBy wsX2_tellsAtMost := goodIn_r _ [36] (by decide +kernel) (by decide +kernel)
set_option maxRecDepth 20000 in
theorem gX5_toldBy_X2_tellsAtMost_u143X2 : GoodIn wsX5_toldBy (va_wsO RX5 143 RX2 "MoreThanSheHas$Person" ⟨"MoreThanSheHas$Person", "tellsAtMost", "(II)I"⟩ yX2_tellsAtMost wsX2_tellsAtMost) := goodIn_app (goodIn_of _ (by decide +kernel)) ggX5_toldBy_X2_tellsAtMost
set_option maxRecDepth 20000 in
theorem gX5_toldBy_X3_tellsAtMost_u143X3 : GoodIn wsX5_toldBy (va_wsO RX5 143 RX3 "MoreThanSheHas$Person" ⟨"MoreThanSheHas$Person", "tellsAtMost", "(II)I"⟩ yX3_tellsAtMost wsX3_tellsAtMost) := goodIn_app (goodIn_of _ (by decide +kernel)) ggX5_toldBy_X3_tellsAtMost
set_option maxRecDepth 20000 in
theorem ggX5_toldBy_X6_tellsAtMost : GoodIn wsX5_toldBy wsX6_tellsAtMost := goodIn_r _ [37] (by decide +kernel) (by decide +kernel)
set_option maxRecDepth 20000 in
theorem gX5_toldBy_X6_tellsAtMost : GoodIn wsX5_toldBy (wsV RX5 143 RX6 yX6_tellsAtMost wsX6_tellsAtMost) := goodIn_app (goodIn_of _ (by decide +kernel)) ggX5_toldBy_X6_tellsAtMost
set_option maxRecDepth 20000 in
theorem ggX5_toldBy_X8_tellsAtMost : GoodIn wsX5_toldBy wsX8_tellsAtMost := goodIn_r _ [51] (by decide +kernel) (by decide +kernel)
set_option maxRecDepth 20000 in
theorem gX5_toldBy_X8_tellsAtMost_u143X8 : GoodIn wsX5_toldBy (va_wsO RX5 143 RX8 "MoreThanSheHas$Person" ⟨"MoreThanSheHas$Person", "tellsAtMost", "(II)I"⟩ yX8_tellsAtMost wsX8_tellsAtMost) := goodIn_app (goodIn_of _ (by decide +kernel)) ggX5_toldBy_X8_tellsAtMost
set_option maxRecDepth 20000 in
theorem ggX5_toldBy_X9_tellsAtMost : GoodIn wsX5_toldBy wsX9_tellsAtMost := goodIn_r _ [55, 56, 57, 58, 49, 50, 51] (by decide +kernel) (by decide +kernel)
set_option maxRecDepth 20000 in
theorem gX5_toldBy_X9_tellsAtMost_u143X9 : GoodIn wsX5_toldBy (va_wsO RX5 143 RX9 "MoreThanSheHas$Person" ⟨"MoreThanSheHas$Person", "tellsAtMost", "(II)I"⟩ yX9_tellsAtMost wsX9_tellsAtMost) := goodIn_app (goodIn_of _ (by decide +kernel)) ggX5_toldBy_X9_tellsAtMost
set_option maxRecDepth 20000 in
theorem ggX5_toldBy_X10_tellsAtMost : GoodIn wsX5_toldBy wsX10_tellsAtMost := goodIn_r _ [30, 31, 32, 33, 34, 35, 36] (by decide +kernel) (by decide +kernel)
set_option maxRecDepth 20000 in
theorem gX5_toldBy_X10_tellsAtMost_u143X10 : GoodIn wsX5_toldBy (va_wsO RX5 143 RX10 "MoreThanSheHas$Person" ⟨"MoreThanSheHas$Person", "tellsAtMost", "(II)I"⟩ yX10_tellsAtMost wsX10_tellsAtMost) := goodIn_app (goodIn_of _ (by decide +kernel)) ggX5_toldBy_X10_tellsAtMost
set_option maxRecDepth 20000 in
theorem ggX5_toldBy_X5_people : GoodIn wsX5_toldBy wsX5_people := goodIn_r _ [63, 1, 99, 100, 101, 102, 103, 104, 105, 106, 107, 108] (by decide +kernel) (by decide +kernel)
set_option maxRecDepth 20000 in
theorem gX5_toldBy_X5_people : GoodIn wsX5_toldBy (wsV RX5 94 RX5 yX5_people wsX5_people) := goodIn_app (goodIn_of _ (by decide +kernel)) ggX5_toldBy_X5_people
set_option maxRecDepth 20000 in
theorem ggX5_toldBy_X4_number : GoodIn wsX5_toldBy wsX4_number := goodIn_r _ [68, 69, 70, 71, 67, 72, 73, 74, 75, 76, 77, 78, 79, 80, 106, 107, 108] (by decide +kernel) (by decide +kernel)
set_option maxRecDepth 20000 in
theorem gX5_toldBy_X4_number : GoodIn wsX5_toldBy (wsV RX5 87 RX4 yX4_number wsX4_number) := goodIn_app (goodIn_of _ (by decide +kernel)) ggX5_toldBy_X4_number
set_option maxRecDepth 20000 in
theorem ggX5_toldBy_X6_likes : GoodIn wsX5_toldBy wsX6_likes := goodIn_r _ [85] (by decide +kernel) (by decide +kernel)
set_option maxRecDepth 20000 in
theorem gX5_toldBy_X6_likes_u146X0 : GoodIn wsX5_toldBy (va_wsU RX5 146 RX0 "MoreThanSheHas$Person" ⟨"MoreThanSheHas$Person", "likes", "(II)Z"⟩ yX6_likes wsX6_likes) := goodIn_app (goodIn_of _ (by decide +kernel)) ggX5_toldBy_X6_likes
set_option maxRecDepth 20000 in
theorem ggX5_toldBy_X8_likes : GoodIn wsX5_toldBy wsX8_likes := goodIn_r _ [89] (by decide +kernel) (by decide +kernel)
set_option maxRecDepth 20000 in
theorem gX5_toldBy_X8_likes_u146X1 : GoodIn wsX5_toldBy (va_wsO RX5 146 RX1 "MoreThanSheHas$Person" ⟨"MoreThanSheHas$Person", "likes", "(II)Z"⟩ yX8_likes wsX8_likes) := goodIn_app (goodIn_of _ (by decide +kernel)) ggX5_toldBy_X8_likes
set_option maxRecDepth 20000 in
theorem gX5_toldBy_X6_likes_u146X2 : GoodIn wsX5_toldBy (va_wsU RX5 146 RX2 "MoreThanSheHas$Person" ⟨"MoreThanSheHas$Person", "likes", "(II)Z"⟩ yX6_likes wsX6_likes) := goodIn_app (goodIn_of _ (by decide +kernel)) ggX5_toldBy_X6_likes
set_option maxRecDepth 20000 in
theorem gX5_toldBy_X8_likes_u146X3 : GoodIn wsX5_toldBy (va_wsO RX5 146 RX3 "MoreThanSheHas$Person" ⟨"MoreThanSheHas$Person", "likes", "(II)Z"⟩ yX8_likes wsX8_likes) := goodIn_app (goodIn_of _ (by decide +kernel)) ggX5_toldBy_X8_likes
set_option maxRecDepth 20000 in
theorem gX5_toldBy_X6_likes : GoodIn wsX5_toldBy (wsV RX5 146 RX6 yX6_likes wsX6_likes) := goodIn_app (goodIn_of _ (by decide +kernel)) ggX5_toldBy_X6_likes
set_option maxRecDepth 20000 in
theorem gX5_toldBy_X8_likes_u146X8 : GoodIn wsX5_toldBy (va_wsO RX5 146 RX8 "MoreThanSheHas$Person" ⟨"MoreThanSheHas$Person", "likes", "(II)Z"⟩ yX8_likes wsX8_likes) := goodIn_app (goodIn_of _ (by decide +kernel)) ggX5_toldBy_X8_likes
set_option maxRecDepth 20000 in
theorem ggX5_toldBy_X9_likes : GoodIn wsX5_toldBy wsX9_likes := goodIn_r _ [97] (by decide +kernel) (by decide +kernel)
set_option maxRecDepth 20000 in
theorem gX5_toldBy_X9_likes_u146X9 : GoodIn wsX5_toldBy (va_wsO RX5 146 RX9 "MoreThanSheHas$Person" ⟨"MoreThanSheHas$Person", "likes", "(II)Z"⟩ yX9_likes wsX9_likes) := goodIn_app (goodIn_of _ (by decide +kernel)) ggX5_toldBy_X9_likes
set_option maxRecDepth 20000 in
theorem gX5_toldBy_X6_likes_u146X10 : GoodIn wsX5_toldBy (va_wsU RX5 146 RX10 "MoreThanSheHas$Person" ⟨"MoreThanSheHas$Person", "likes", "(II)Z"⟩ yX6_likes wsX6_likes) := goodIn_app (goodIn_of _ (by decide +kernel)) ggX5_toldBy_X6_likes
theorem dX5_toldBy_0 : decode cX5_toldBy 0 = .ok (.aload_n 0, 1) := by decide +kernel
theorem dX5_toldBy_1 : decode cX5_toldBy 1 = .ok (.aload_n 0, 1) := by decide +kernel
theorem dX5_toldBy_2 : decode cX5_toldBy 2 = .ok (.iload_n 1, 1) := by decide +kernel
theorem dX5_toldBy_3 : decode cX5_toldBy 3 = .ok (.invokevirtual 76, 3) := by decide +kernel
theorem dX5_toldBy_6 : decode cX5_toldBy 6 = .ok (.invokevirtual 80, 3) := by decide +kernel
theorem dX5_toldBy_9 : decode cX5_toldBy 9 = .ok (.astore 4, 2) := by decide +kernel
theorem dX5_toldBy_11 : decode cX5_toldBy 11 = .ok (.aload 4, 2) := by decide +kernel
theorem dX5_toldBy_13 : decode cX5_toldBy 13 = .ok (.aload_n 0, 1) := by decide +kernel
theorem dX5_toldBy_14 : decode cX5_toldBy 14 = .ok (.iload_n 1, 1) := by decide +kernel
theorem dX5_toldBy_15 : decode cX5_toldBy 15 = .ok (.invokevirtual 84, 3) := by decide +kernel
theorem dX5_toldBy_18 : decode cX5_toldBy 18 = .ok (.iload_n 3, 1) := by decide +kernel
theorem dX5_toldBy_19 : decode cX5_toldBy 19 = .ok (.invokevirtual 143, 3) := by decide +kernel
theorem dX5_toldBy_22 : decode cX5_toldBy 22 = .ok (.istore 5, 2) := by decide +kernel
theorem dX5_toldBy_24 : decode cX5_toldBy 24 = .ok (.iconst 0, 1) := by decide +kernel
theorem dX5_toldBy_25 : decode cX5_toldBy 25 = .ok (.istore 6, 2) := by decide +kernel
theorem dX5_toldBy_27 : decode cX5_toldBy 27 = .ok (.iconst 0, 1) := by decide +kernel
theorem dX5_toldBy_28 : decode cX5_toldBy 28 = .ok (.istore 7, 2) := by decide +kernel
theorem dX5_toldBy_30 : decode cX5_toldBy 30 = .ok (.iload 7, 2) := by decide +kernel
theorem dX5_toldBy_32 : decode cX5_toldBy 32 = .ok (.aload_n 0, 1) := by decide +kernel
theorem dX5_toldBy_33 : decode cX5_toldBy 33 = .ok (.invokevirtual 94, 3) := by decide +kernel
theorem dX5_toldBy_36 : decode cX5_toldBy 36 = .ok (.if_icmp .ge 60, 3) := by decide +kernel
theorem dX5_toldBy_39 : decode cX5_toldBy 39 = .ok (.iload 5, 2) := by decide +kernel
theorem dX5_toldBy_41 : decode cX5_toldBy 41 = .ok (.ifCond .le 55, 3) := by decide +kernel
theorem dX5_toldBy_44 : decode cX5_toldBy 44 = .ok (.iload_n 2, 1) := by decide +kernel
theorem dX5_toldBy_45 : decode cX5_toldBy 45 = .ok (.iload 7, 2) := by decide +kernel
theorem dX5_toldBy_47 : decode cX5_toldBy 47 = .ok (.ishr, 1) := by decide +kernel
theorem dX5_toldBy_48 : decode cX5_toldBy 48 = .ok (.iconst 1, 1) := by decide +kernel
theorem dX5_toldBy_49 : decode cX5_toldBy 49 = .ok (.iand, 1) := by decide +kernel
theorem dX5_toldBy_50 : decode cX5_toldBy 50 = .ok (.ifCond .eq 40, 3) := by decide +kernel
theorem dX5_toldBy_53 : decode cX5_toldBy 53 = .ok (.aload 4, 2) := by decide +kernel
theorem dX5_toldBy_55 : decode cX5_toldBy 55 = .ok (.aload_n 0, 1) := by decide +kernel
theorem dX5_toldBy_56 : decode cX5_toldBy 56 = .ok (.getfield 12, 3) := by decide +kernel
theorem dX5_toldBy_59 : decode cX5_toldBy 59 = .ok (.iload_n 1, 1) := by decide +kernel
theorem dX5_toldBy_60 : decode cX5_toldBy 60 = .ok (.invokevirtual 87, 3) := by decide +kernel
theorem dX5_toldBy_63 : decode cX5_toldBy 63 = .ok (.aload_n 0, 1) := by decide +kernel
theorem dX5_toldBy_64 : decode cX5_toldBy 64 = .ok (.getfield 12, 3) := by decide +kernel
theorem dX5_toldBy_67 : decode cX5_toldBy 67 = .ok (.iload 7, 2) := by decide +kernel
theorem dX5_toldBy_69 : decode cX5_toldBy 69 = .ok (.invokevirtual 87, 3) := by decide +kernel
theorem dX5_toldBy_72 : decode cX5_toldBy 72 = .ok (.invokevirtual 146, 3) := by decide +kernel
theorem dX5_toldBy_75 : decode cX5_toldBy 75 = .ok (.ifCond .eq 15, 3) := by decide +kernel
theorem dX5_toldBy_78 : decode cX5_toldBy 78 = .ok (.iload 6, 2) := by decide +kernel
theorem dX5_toldBy_80 : decode cX5_toldBy 80 = .ok (.iconst 1, 1) := by decide +kernel
theorem dX5_toldBy_81 : decode cX5_toldBy 81 = .ok (.iload 7, 2) := by decide +kernel
theorem dX5_toldBy_83 : decode cX5_toldBy 83 = .ok (.ishl, 1) := by decide +kernel
theorem dX5_toldBy_84 : decode cX5_toldBy 84 = .ok (.ior, 1) := by decide +kernel
theorem dX5_toldBy_85 : decode cX5_toldBy 85 = .ok (.istore 6, 2) := by decide +kernel
theorem dX5_toldBy_87 : decode cX5_toldBy 87 = .ok (.iinc 5 (-1), 3) := by decide +kernel
theorem dX5_toldBy_90 : decode cX5_toldBy 90 = .ok (.iinc 7 1, 3) := by decide +kernel
theorem dX5_toldBy_93 : decode cX5_toldBy 93 = .ok (.goto (-63), 3) := by decide +kernel
theorem dX5_toldBy_96 : decode cX5_toldBy 96 = .ok (.iload 6, 2) := by decide +kernel
theorem dX5_toldBy_98 : decode cX5_toldBy 98 = .ok (.ireturn, 1) := by decide +kernel
theorem dX6_init_0 : decode cX6_init 0 = .ok (.aload_n 0, 1) := by decide +kernel
theorem dX6_init_1 : decode cX6_init 1 = .ok (.invokespecial 1, 3) := by decide +kernel
theorem dX6_init_4 : decode cX6_init 4 = .ok (.return_, 1) := by decide +kernel
theorem dX6_tellsAtMost_0 : decode cX6_tellsAtMost 0 = .ok (.iconst 1, 1) := by decide +kernel
theorem dX6_tellsAtMost_1 : decode cX6_tellsAtMost 1 = .ok (.ireturn, 1) := by decide +kernel
theorem dX6_likes_0 : decode cX6_likes 0 = .ok (.iconst 1, 1) := by decide +kernel
theorem dX6_likes_1 : decode cX6_likes 1 = .ok (.ireturn, 1) := by decide +kernel
theorem dX6_cards_0 : decode cX6_cards 0 = .ok (.iload_n 2, 1) := by decide +kernel
theorem dX6_cards_1 : decode cX6_cards 1 = .ok (.ireturn, 1) := by decide +kernel
theorem dX6_price_0 : decode cX6_price 0 = .ok (.iconst 1, 1) := by decide +kernel
theorem dX6_price_1 : decode cX6_price 1 = .ok (.ireturn, 1) := by decide +kernel
theorem dX6_hearsNothing_0 : decode cX6_hearsNothing 0 = .ok (.iconst 0, 1) := by decide +kernel
theorem dX6_hearsNothing_1 : decode cX6_hearsNothing 1 = .ok (.ireturn, 1) := by decide +kernel
theorem dX6_fail_0 : decode cX6_fail 0 = .ok (.iload_n 1, 1) := by decide +kernel
theorem dX6_fail_1 : decode cX6_fail 1 = .ok (.ifCond .eq 13, 3) := by decide +kernel
theorem dX6_fail_4 : decode cX6_fail 4 = .ok (.new 7, 3) := by decide +kernel
theorem dX6_fail_7 : decode cX6_fail 7 = .ok (.dup, 1) := by decide +kernel
theorem dX6_fail_8 : decode cX6_fail 8 = .ok (.ldc 9, 2) := by decide +kernel
theorem dX6_fail_10 : decode cX6_fail 10 = .ok (.invokespecial 11, 3) := by decide +kernel
theorem dX6_fail_13 : decode cX6_fail 13 = .ok (.athrow, 1) := by decide +kernel
theorem dX6_fail_14 : decode cX6_fail 14 = .ok (.return_, 1) := by decide +kernel
theorem dX7_init_0 : decode cX7_init 0 = .ok (.aload_n 0, 1) := by decide +kernel
theorem dX7_init_1 : decode cX7_init 1 = .ok (.invokespecial 3, 3) := by decide +kernel
theorem dX7_init_4 : decode cX7_init 4 = .ok (.aload_n 0, 1) := by decide +kernel
theorem dX7_init_5 : decode cX7_init 5 = .ok (.iconst 0, 1) := by decide +kernel
theorem dX7_init_6 : decode cX7_init 6 = .ok (.putfield 11, 3) := by decide +kernel
theorem dX7_init_9 : decode cX7_init 9 = .ok (.aload_n 0, 1) := by decide +kernel
theorem dX7_init_10 : decode cX7_init 10 = .ok (.bipush 100, 2) := by decide +kernel
theorem dX7_init_12 : decode cX7_init 12 = .ok (.newarray .int, 2) := by decide +kernel
theorem dX7_init_14 : decode cX7_init 14 = .ok (.putfield 15, 3) := by decide +kernel
theorem dX7_init_17 : decode cX7_init 17 = .ok (.return_, 1) := by decide +kernel
theorem dX7_holdNothing_0 : decode cX7_holdNothing 0 = .ok (.aload_n 0, 1) := by decide +kernel
theorem dX7_holdNothing_1 : decode cX7_holdNothing 1 = .ok (.iconst 0, 1) := by decide +kernel
theorem dX7_holdNothing_2 : decode cX7_holdNothing 2 = .ok (.putfield 11, 3) := by decide +kernel
theorem dX7_holdNothing_5 : decode cX7_holdNothing 5 = .ok (.return_, 1) := by decide +kernel
theorem dX7_holdOne_0 : decode cX7_holdOne 0 = .ok (.aload_n 0, 1) := by decide +kernel
theorem dX7_holdOne_1 : decode cX7_holdOne 1 = .ok (.iconst 1, 1) := by decide +kernel
theorem dX7_holdOne_2 : decode cX7_holdOne 2 = .ok (.putfield 11, 3) := by decide +kernel
theorem dX7_holdOne_5 : decode cX7_holdOne 5 = .ok (.aload_n 0, 1) := by decide +kernel
theorem dX7_holdOne_6 : decode cX7_holdOne 6 = .ok (.iload_n 1, 1) := by decide +kernel
theorem dX7_holdOne_7 : decode cX7_holdOne 7 = .ok (.putfield 19, 3) := by decide +kernel
theorem dX7_holdOne_10 : decode cX7_holdOne 10 = .ok (.aload_n 0, 1) := by decide +kernel
theorem dX7_holdOne_11 : decode cX7_holdOne 11 = .ok (.iload_n 2, 1) := by decide +kernel
theorem dX7_holdOne_12 : decode cX7_holdOne 12 = .ok (.putfield 22, 3) := by decide +kernel
theorem dX7_holdOne_15 : decode cX7_holdOne 15 = .ok (.return_, 1) := by decide +kernel
set_option maxRecDepth 20000 in
theorem ggX7_holdRow_J7_fill_53178 : GoodIn wsX7_holdRow wsJ7_fill_53178 := goodIn_r _ [8] (by decide +kernel) (by decide +kernel)
set_option maxRecDepth 20000 in
theorem gX7_holdRow_J7_fill_53178 : GoodIn wsX7_holdRow (va_wsS RX7 31 yJ7_fill_53178 wsJ7_fill_53178) := goodIn_app (goodIn_of _ (by decide +kernel)) ggX7_holdRow_J7_fill_53178
theorem dX7_holdRow_0 : decode cX7_holdRow 0 = .ok (.aload_n 0, 1) := by decide +kernel
theorem dX7_holdRow_1 : decode cX7_holdRow 1 = .ok (.iconst 2, 1) := by decide +kernel
theorem dX7_holdRow_2 : decode cX7_holdRow 2 = .ok (.putfield 11, 3) := by decide +kernel
theorem dX7_holdRow_5 : decode cX7_holdRow 5 = .ok (.aload_n 0, 1) := by decide +kernel
theorem dX7_holdRow_6 : decode cX7_holdRow 6 = .ok (.iload_n 1, 1) := by decide +kernel
theorem dX7_holdRow_7 : decode cX7_holdRow 7 = .ok (.putfield 25, 3) := by decide +kernel
theorem dX7_holdRow_10 : decode cX7_holdRow 10 = .ok (.aload_n 0, 1) := by decide +kernel
theorem dX7_holdRow_11 : decode cX7_holdRow 11 = .ok (.iload_n 2, 1) := by decide +kernel
theorem dX7_holdRow_12 : decode cX7_holdRow 12 = .ok (.putfield 28, 3) := by decide +kernel
theorem dX7_holdRow_15 : decode cX7_holdRow 15 = .ok (.aload_n 0, 1) := by decide +kernel
theorem dX7_holdRow_16 : decode cX7_holdRow 16 = .ok (.getfield 15, 3) := by decide +kernel
theorem dX7_holdRow_19 : decode cX7_holdRow 19 = .ok (.iconst 0, 1) := by decide +kernel
theorem dX7_holdRow_20 : decode cX7_holdRow 20 = .ok (.invokestatic 31, 3) := by decide +kernel
theorem dX7_holdRow_23 : decode cX7_holdRow 23 = .ok (.return_, 1) := by decide +kernel
theorem dX7_isEmpty_0 : decode cX7_isEmpty 0 = .ok (.aload_n 0, 1) := by decide +kernel
theorem dX7_isEmpty_1 : decode cX7_isEmpty 1 = .ok (.getfield 11, 3) := by decide +kernel
theorem dX7_isEmpty_4 : decode cX7_isEmpty 4 = .ok (.ifCond .ne 7, 3) := by decide +kernel
theorem dX7_isEmpty_7 : decode cX7_isEmpty 7 = .ok (.iconst 1, 1) := by decide +kernel
theorem dX7_isEmpty_8 : decode cX7_isEmpty 8 = .ok (.goto 4, 3) := by decide +kernel
theorem dX7_isEmpty_11 : decode cX7_isEmpty 11 = .ok (.iconst 0, 1) := by decide +kernel
theorem dX7_isEmpty_12 : decode cX7_isEmpty 12 = .ok (.ireturn, 1) := by decide +kernel
theorem dX7_holdsRow_0 : decode cX7_holdsRow 0 = .ok (.aload_n 0, 1) := by decide +kernel
theorem dX7_holdsRow_1 : decode cX7_holdsRow 1 = .ok (.getfield 11, 3) := by decide +kernel
theorem dX7_holdsRow_4 : decode cX7_holdsRow 4 = .ok (.iconst 2, 1) := by decide +kernel
theorem dX7_holdsRow_5 : decode cX7_holdsRow 5 = .ok (.if_icmp .ne 7, 3) := by decide +kernel
theorem dX7_holdsRow_8 : decode cX7_holdsRow 8 = .ok (.iconst 1, 1) := by decide +kernel
theorem dX7_holdsRow_9 : decode cX7_holdsRow 9 = .ok (.goto 4, 3) := by decide +kernel
theorem dX7_holdsRow_12 : decode cX7_holdsRow 12 = .ok (.iconst 0, 1) := by decide +kernel
theorem dX7_holdsRow_13 : decode cX7_holdsRow 13 = .ok (.ireturn, 1) := by decide +kernel
theorem dX7_holdsBytes_0 : decode cX7_holdsBytes 0 = .ok (.aload_n 0, 1) := by decide +kernel
theorem dX7_holdsBytes_1 : decode cX7_holdsBytes 1 = .ok (.getfield 11, 3) := by decide +kernel
theorem dX7_holdsBytes_4 : decode cX7_holdsBytes 4 = .ok (.iconst 2, 1) := by decide +kernel
theorem dX7_holdsBytes_5 : decode cX7_holdsBytes 5 = .ok (.if_icmp .ne 14, 3) := by decide +kernel
theorem dX7_holdsBytes_8 : decode cX7_holdsBytes 8 = .ok (.aload_n 0, 1) := by decide +kernel
theorem dX7_holdsBytes_9 : decode cX7_holdsBytes 9 = .ok (.getfield 25, 3) := by decide +kernel
theorem dX7_holdsBytes_12 : decode cX7_holdsBytes 12 = .ok (.ifCond .ne 7, 3) := by decide +kernel
theorem dX7_holdsBytes_15 : decode cX7_holdsBytes 15 = .ok (.iconst 1, 1) := by decide +kernel
theorem dX7_holdsBytes_16 : decode cX7_holdsBytes 16 = .ok (.goto 4, 3) := by decide +kernel
theorem dX7_holdsBytes_19 : decode cX7_holdsBytes 19 = .ok (.iconst 0, 1) := by decide +kernel
theorem dX7_holdsBytes_20 : decode cX7_holdsBytes 20 = .ok (.ireturn, 1) := by decide +kernel
theorem dX7_size_0 : decode cX7_size 0 = .ok (.aload_n 0, 1) := by decide +kernel
theorem dX7_size_1 : decode cX7_size 1 = .ok (.getfield 28, 3) := by decide +kernel
theorem dX7_size_4 : decode cX7_size 4 = .ok (.ireturn, 1) := by decide +kernel
theorem dX7_hasPlace_0 : decode cX7_hasPlace 0 = .ok (.iload_n 1, 1) := by decide +kernel
theorem dX7_hasPlace_1 : decode cX7_hasPlace 1 = .ok (.ifCond .lt 15, 3) := by decide +kernel
theorem dX7_hasPlace_4 : decode cX7_hasPlace 4 = .ok (.iload_n 1, 1) := by decide +kernel
theorem dX7_hasPlace_5 : decode cX7_hasPlace 5 = .ok (.aload_n 0, 1) := by decide +kernel
theorem dX7_hasPlace_6 : decode cX7_hasPlace 6 = .ok (.getfield 28, 3) := by decide +kernel
theorem dX7_hasPlace_9 : decode cX7_hasPlace 9 = .ok (.if_icmp .ge 7, 3) := by decide +kernel
theorem dX7_hasPlace_12 : decode cX7_hasPlace 12 = .ok (.iconst 1, 1) := by decide +kernel
theorem dX7_hasPlace_13 : decode cX7_hasPlace 13 = .ok (.goto 4, 3) := by decide +kernel
theorem dX7_hasPlace_16 : decode cX7_hasPlace 16 = .ok (.iconst 0, 1) := by decide +kernel
theorem dX7_hasPlace_17 : decode cX7_hasPlace 17 = .ok (.ireturn, 1) := by decide +kernel
theorem dX7_hasPlaces_0 : decode cX7_hasPlaces 0 = .ok (.iload_n 1, 1) := by decide +kernel
theorem dX7_hasPlaces_1 : decode cX7_hasPlaces 1 = .ok (.ifCond .lt 29, 3) := by decide +kernel
theorem dX7_hasPlaces_4 : decode cX7_hasPlaces 4 = .ok (.iload_n 2, 1) := by decide +kernel
theorem dX7_hasPlaces_5 : decode cX7_hasPlaces 5 = .ok (.ifCond .lt 25, 3) := by decide +kernel
theorem dX7_hasPlaces_8 : decode cX7_hasPlaces 8 = .ok (.iload_n 2, 1) := by decide +kernel
theorem dX7_hasPlaces_9 : decode cX7_hasPlaces 9 = .ok (.aload_n 0, 1) := by decide +kernel
theorem dX7_hasPlaces_10 : decode cX7_hasPlaces 10 = .ok (.getfield 28, 3) := by decide +kernel
theorem dX7_hasPlaces_13 : decode cX7_hasPlaces 13 = .ok (.if_icmp .gt 17, 3) := by decide +kernel
theorem dX7_hasPlaces_16 : decode cX7_hasPlaces 16 = .ok (.iload_n 1, 1) := by decide +kernel
theorem dX7_hasPlaces_17 : decode cX7_hasPlaces 17 = .ok (.aload_n 0, 1) := by decide +kernel
theorem dX7_hasPlaces_18 : decode cX7_hasPlaces 18 = .ok (.getfield 28, 3) := by decide +kernel
theorem dX7_hasPlaces_21 : decode cX7_hasPlaces 21 = .ok (.iload_n 2, 1) := by decide +kernel
theorem dX7_hasPlaces_22 : decode cX7_hasPlaces 22 = .ok (.isub, 1) := by decide +kernel
theorem dX7_hasPlaces_23 : decode cX7_hasPlaces 23 = .ok (.if_icmp .gt 7, 3) := by decide +kernel
theorem dX7_hasPlaces_26 : decode cX7_hasPlaces 26 = .ok (.iconst 1, 1) := by decide +kernel
theorem dX7_hasPlaces_27 : decode cX7_hasPlaces 27 = .ok (.goto 4, 3) := by decide +kernel
theorem dX7_hasPlaces_30 : decode cX7_hasPlaces 30 = .ok (.iconst 0, 1) := by decide +kernel
theorem dX7_hasPlaces_31 : decode cX7_hasPlaces 31 = .ok (.ireturn, 1) := by decide +kernel
set_option maxRecDepth 20000 in
theorem ggX7_at_X7_hasPlace : GoodIn wsX7_at wsX7_hasPlace := goodIn_r _ [6, 7, 8, 9, 10, 11, 12, 13] (by decide +kernel) (by decide +kernel)
set_option maxRecDepth 20000 in
theorem gX7_at_X7_hasPlace : GoodIn wsX7_at (wsV RX7 37 RX7 yX7_hasPlace wsX7_hasPlace) := goodIn_app (goodIn_of _ (by decide +kernel)) ggX7_at_X7_hasPlace
theorem dX7_at_0 : decode cX7_at 0 = .ok (.aload_n 0, 1) := by decide +kernel
theorem dX7_at_1 : decode cX7_at 1 = .ok (.iload_n 1, 1) := by decide +kernel
theorem dX7_at_2 : decode cX7_at 2 = .ok (.invokevirtual 37, 3) := by decide +kernel
theorem dX7_at_5 : decode cX7_at 5 = .ok (.ifCond .eq 12, 3) := by decide +kernel
theorem dX7_at_8 : decode cX7_at 8 = .ok (.aload_n 0, 1) := by decide +kernel
theorem dX7_at_9 : decode cX7_at 9 = .ok (.getfield 15, 3) := by decide +kernel
theorem dX7_at_12 : decode cX7_at 12 = .ok (.iload_n 1, 1) := by decide +kernel
theorem dX7_at_13 : decode cX7_at 13 = .ok (.iaload, 1) := by decide +kernel
theorem dX7_at_14 : decode cX7_at 14 = .ok (.goto 4, 3) := by decide +kernel
theorem dX7_at_17 : decode cX7_at 17 = .ok (.iconst 0, 1) := by decide +kernel
theorem dX7_at_18 : decode cX7_at 18 = .ok (.ireturn, 1) := by decide +kernel
set_option maxRecDepth 20000 in
theorem ggX7_set_X7_hasPlace : GoodIn wsX7_set wsX7_hasPlace := goodIn_r _ [7, 8, 9, 10, 11, 12, 13, 14] (by decide +kernel) (by decide +kernel)
set_option maxRecDepth 20000 in
theorem gX7_set_X7_hasPlace : GoodIn wsX7_set (wsV RX7 37 RX7 yX7_hasPlace wsX7_hasPlace) := goodIn_app (goodIn_of _ (by decide +kernel)) ggX7_set_X7_hasPlace
theorem dX7_set_0 : decode cX7_set 0 = .ok (.aload_n 0, 1) := by decide +kernel
theorem dX7_set_1 : decode cX7_set 1 = .ok (.iload_n 1, 1) := by decide +kernel
theorem dX7_set_2 : decode cX7_set 2 = .ok (.invokevirtual 37, 3) := by decide +kernel
theorem dX7_set_5 : decode cX7_set 5 = .ok (.ifCond .eq 35, 3) := by decide +kernel
theorem dX7_set_8 : decode cX7_set 8 = .ok (.aload_n 0, 1) := by decide +kernel
theorem dX7_set_9 : decode cX7_set 9 = .ok (.getfield 15, 3) := by decide +kernel
theorem dX7_set_12 : decode cX7_set 12 = .ok (.iload_n 1, 1) := by decide +kernel
theorem dX7_set_13 : decode cX7_set 13 = .ok (.aload_n 0, 1) := by decide +kernel
theorem dX7_set_14 : decode cX7_set 14 = .ok (.getfield 25, 3) := by decide +kernel
theorem dX7_set_17 : decode cX7_set 17 = .ok (.ifCond .ne 8, 3) := by decide +kernel
theorem dX7_set_20 : decode cX7_set 20 = .ok (.iload_n 2, 1) := by decide +kernel
theorem dX7_set_21 : decode cX7_set 21 = .ok (.i2b, 1) := by decide +kernel
theorem dX7_set_22 : decode cX7_set 22 = .ok (.goto 17, 3) := by decide +kernel
theorem dX7_set_25 : decode cX7_set 25 = .ok (.aload_n 0, 1) := by decide +kernel
theorem dX7_set_26 : decode cX7_set 26 = .ok (.getfield 25, 3) := by decide +kernel
theorem dX7_set_29 : decode cX7_set 29 = .ok (.iconst 1, 1) := by decide +kernel
theorem dX7_set_30 : decode cX7_set 30 = .ok (.if_icmp .ne 8, 3) := by decide +kernel
theorem dX7_set_33 : decode cX7_set 33 = .ok (.iload_n 2, 1) := by decide +kernel
theorem dX7_set_34 : decode cX7_set 34 = .ok (.i2s, 1) := by decide +kernel
theorem dX7_set_35 : decode cX7_set 35 = .ok (.goto 4, 3) := by decide +kernel
theorem dX7_set_38 : decode cX7_set 38 = .ok (.iload_n 2, 1) := by decide +kernel
theorem dX7_set_39 : decode cX7_set 39 = .ok (.iastore, 1) := by decide +kernel
theorem dX7_set_40 : decode cX7_set 40 = .ok (.return_, 1) := by decide +kernel
set_option maxRecDepth 20000 in
theorem ggX7_isSkipped_X7_at : GoodIn wsX7_isSkipped wsX7_at := goodIn_r _ [7, 8, 9, 10, 11, 6, 12, 13, 14, 15, 16, 17, 18, 19] (by decide +kernel) (by decide +kernel)
set_option maxRecDepth 20000 in
theorem gX7_isSkipped_X7_at : GoodIn wsX7_isSkipped (wsV RX7 41 RX7 yX7_at wsX7_at) := goodIn_app (goodIn_of _ (by decide +kernel)) ggX7_isSkipped_X7_at
theorem dX7_isSkipped_0 : decode cX7_isSkipped 0 = .ok (.aload_n 0, 1) := by decide +kernel
theorem dX7_isSkipped_1 : decode cX7_isSkipped 1 = .ok (.iload_n 1, 1) := by decide +kernel
theorem dX7_isSkipped_2 : decode cX7_isSkipped 2 = .ok (.invokevirtual 41, 3) := by decide +kernel
theorem dX7_isSkipped_5 : decode cX7_isSkipped 5 = .ok (.aload_n 0, 1) := by decide +kernel
theorem dX7_isSkipped_6 : decode cX7_isSkipped 6 = .ok (.getfield 25, 3) := by decide +kernel
theorem dX7_isSkipped_9 : decode cX7_isSkipped 9 = .ok (.ifCond .ne 8, 3) := by decide +kernel
theorem dX7_isSkipped_12 : decode cX7_isSkipped 12 = .ok (.bipush (-128), 2) := by decide +kernel
theorem dX7_isSkipped_14 : decode cX7_isSkipped 14 = .ok (.goto 19, 3) := by decide +kernel
theorem dX7_isSkipped_17 : decode cX7_isSkipped 17 = .ok (.aload_n 0, 1) := by decide +kernel
theorem dX7_isSkipped_18 : decode cX7_isSkipped 18 = .ok (.getfield 25, 3) := by decide +kernel
theorem dX7_isSkipped_21 : decode cX7_isSkipped 21 = .ok (.iconst 1, 1) := by decide +kernel
theorem dX7_isSkipped_22 : decode cX7_isSkipped 22 = .ok (.if_icmp .ne 9, 3) := by decide +kernel
theorem dX7_isSkipped_25 : decode cX7_isSkipped 25 = .ok (.sipush (-32768), 3) := by decide +kernel
theorem dX7_isSkipped_28 : decode cX7_isSkipped 28 = .ok (.goto 5, 3) := by decide +kernel
theorem dX7_isSkipped_31 : decode cX7_isSkipped 31 = .ok (.ldc 45, 2) := by decide +kernel
theorem dX7_isSkipped_33 : decode cX7_isSkipped 33 = .ok (.if_icmp .ne 7, 3) := by decide +kernel
theorem dX7_isSkipped_36 : decode cX7_isSkipped 36 = .ok (.iconst 1, 1) := by decide +kernel
theorem dX7_isSkipped_37 : decode cX7_isSkipped 37 = .ok (.goto 4, 3) := by decide +kernel
theorem dX7_isSkipped_40 : decode cX7_isSkipped 40 = .ok (.iconst 0, 1) := by decide +kernel
theorem dX7_isSkipped_41 : decode cX7_isSkipped 41 = .ok (.ireturn, 1) := by decide +kernel
set_option maxRecDepth 20000 in
theorem ggX8_init_X6_init : GoodIn wsX8_init wsX6_init := goodIn_r _ [3, 4, 5, 6] (by decide +kernel) (by decide +kernel)
set_option maxRecDepth 20000 in
theorem gX8_init_X6_init_n1 : GoodIn wsX8_init (wsX6_init) := ggX8_init_X6_init
theorem dX8_init_0 : decode cX8_init 0 = .ok (.aload_n 0, 1) := by decide +kernel
theorem dX8_init_1 : decode cX8_init 1 = .ok (.invokespecial 1, 3) := by decide +kernel
theorem dX8_init_4 : decode cX8_init 4 = .ok (.return_, 1) := by decide +kernel
theorem dX8_tellsAtMost_0 : decode cX8_tellsAtMost 0 = .ok (.iload_n 2, 1) := by decide +kernel
theorem dX8_tellsAtMost_1 : decode cX8_tellsAtMost 1 = .ok (.iconst 2, 1) := by decide +kernel
theorem dX8_tellsAtMost_2 : decode cX8_tellsAtMost 2 = .ok (.irem, 1) := by decide +kernel
theorem dX8_tellsAtMost_3 : decode cX8_tellsAtMost 3 = .ok (.ifCond .ne 7, 3) := by decide +kernel
theorem dX8_tellsAtMost_6 : decode cX8_tellsAtMost 6 = .ok (.iconst 1, 1) := by decide +kernel
theorem dX8_tellsAtMost_7 : decode cX8_tellsAtMost 7 = .ok (.goto 4, 3) := by decide +kernel
theorem dX8_tellsAtMost_10 : decode cX8_tellsAtMost 10 = .ok (.iconst 0, 1) := by decide +kernel
theorem dX8_tellsAtMost_11 : decode cX8_tellsAtMost 11 = .ok (.ireturn, 1) := by decide +kernel
theorem dX8_likes_0 : decode cX8_likes 0 = .ok (.iload_n 2, 1) := by decide +kernel
theorem dX8_likes_1 : decode cX8_likes 1 = .ok (.iload_n 1, 1) := by decide +kernel
theorem dX8_likes_2 : decode cX8_likes 2 = .ok (.if_icmp .gt 7, 3) := by decide +kernel
theorem dX8_likes_5 : decode cX8_likes 5 = .ok (.iconst 1, 1) := by decide +kernel
theorem dX8_likes_6 : decode cX8_likes 6 = .ok (.goto 4, 3) := by decide +kernel
theorem dX8_likes_9 : decode cX8_likes 9 = .ok (.iconst 0, 1) := by decide +kernel
theorem dX8_likes_10 : decode cX8_likes 10 = .ok (.ireturn, 1) := by decide +kernel
set_option maxRecDepth 20000 in
theorem ggX8_cards_X6_cards : GoodIn wsX8_cards wsX6_cards := goodIn_r _ [6] (by decide +kernel) (by decide +kernel)
set_option maxRecDepth 20000 in
theorem gX8_cards_X6_cards_s7 : GoodIn wsX8_cards (va_wsSU RX8 7 yX6_cards wsX6_cards) := goodIn_app (goodIn_of _ (by decide +kernel)) ggX8_cards_X6_cards
theorem dX8_cards_0 : decode cX8_cards 0 = .ok (.aload_n 0, 1) := by decide +kernel
theorem dX8_cards_1 : decode cX8_cards 1 = .ok (.iload_n 1, 1) := by decide +kernel
theorem dX8_cards_2 : decode cX8_cards 2 = .ok (.iload_n 2, 1) := by decide +kernel
theorem dX8_cards_3 : decode cX8_cards 3 = .ok (.invokespecial 7, 3) := by decide +kernel
theorem dX8_cards_6 : decode cX8_cards 6 = .ok (.iconst 2, 1) := by decide +kernel
theorem dX8_cards_7 : decode cX8_cards 7 = .ok (.idiv, 1) := by decide +kernel
theorem dX8_cards_8 : decode cX8_cards 8 = .ok (.ireturn, 1) := by decide +kernel
theorem dX8_price_0 : decode cX8_price 0 = .ok (.iconst 2, 1) := by decide +kernel
theorem dX8_price_1 : decode cX8_price 1 = .ok (.ireturn, 1) := by decide +kernel
theorem dX8_fail_0 : decode cX8_fail 0 = .ok (.return_, 1) := by decide +kernel
set_option maxRecDepth 20000 in
theorem ggX9_init_X8_init : GoodIn wsX9_init wsX8_init := goodIn_r _ [3, 4, 5, 6, 7, 8, 9] (by decide +kernel) (by decide +kernel)
set_option maxRecDepth 20000 in
theorem gX9_init_X8_init_n1 : GoodIn wsX9_init (wsX8_init) := ggX9_init_X8_init
theorem dX9_init_0 : decode cX9_init 0 = .ok (.aload_n 0, 1) := by decide +kernel
theorem dX9_init_1 : decode cX9_init 1 = .ok (.invokespecial 1, 3) := by decide +kernel
theorem dX9_init_4 : decode cX9_init 4 = .ok (.return_, 1) := by decide +kernel
set_option maxRecDepth 20000 in
theorem ggX9_tellsAtMost_X8_tellsAtMost : GoodIn wsX9_tellsAtMost wsX8_tellsAtMost := goodIn_r _ [6] (by decide +kernel) (by decide +kernel)
set_option maxRecDepth 20000 in
theorem gX9_tellsAtMost_X8_tellsAtMost_s7 : GoodIn wsX9_tellsAtMost (va_wsSU RX9 7 yX8_tellsAtMost wsX8_tellsAtMost) := goodIn_app (goodIn_of _ (by decide +kernel)) ggX9_tellsAtMost_X8_tellsAtMost
theorem dX9_tellsAtMost_0 : decode cX9_tellsAtMost 0 = .ok (.aload_n 0, 1) := by decide +kernel
theorem dX9_tellsAtMost_1 : decode cX9_tellsAtMost 1 = .ok (.iload_n 1, 1) := by decide +kernel
theorem dX9_tellsAtMost_2 : decode cX9_tellsAtMost 2 = .ok (.iload_n 2, 1) := by decide +kernel
theorem dX9_tellsAtMost_3 : decode cX9_tellsAtMost 3 = .ok (.invokespecial 7, 3) := by decide +kernel
theorem dX9_tellsAtMost_6 : decode cX9_tellsAtMost 6 = .ok (.iconst 1, 1) := by decide +kernel
theorem dX9_tellsAtMost_7 : decode cX9_tellsAtMost 7 = .ok (.iadd, 1) := by decide +kernel
theorem dX9_tellsAtMost_8 : decode cX9_tellsAtMost 8 = .ok (.ireturn, 1) := by decide +kernel
theorem dX9_likes_0 : decode cX9_likes 0 = .ok (.iload_n 2, 1) := by decide +kernel
theorem dX9_likes_1 : decode cX9_likes 1 = .ok (.iload_n 1, 1) := by decide +kernel
theorem dX9_likes_2 : decode cX9_likes 2 = .ok (.if_icmp .le 7, 3) := by decide +kernel
theorem dX9_likes_5 : decode cX9_likes 5 = .ok (.iconst 1, 1) := by decide +kernel
theorem dX9_likes_6 : decode cX9_likes 6 = .ok (.goto 4, 3) := by decide +kernel
theorem dX9_likes_9 : decode cX9_likes 9 = .ok (.iconst 0, 1) := by decide +kernel
theorem dX9_likes_10 : decode cX9_likes 10 = .ok (.ireturn, 1) := by decide +kernel
set_option maxRecDepth 20000 in
theorem ggX9_cards_X8_cards : GoodIn wsX9_cards wsX8_cards := goodIn_r _ [6, 7, 8, 9, 10, 11, 12] (by decide +kernel) (by decide +kernel)
set_option maxRecDepth 20000 in
theorem gX9_cards_X8_cards_s11 : GoodIn wsX9_cards (va_wsSU RX9 11 yX8_cards wsX8_cards) := goodIn_app (goodIn_of _ (by decide +kernel)) ggX9_cards_X8_cards
theorem dX9_cards_0 : decode cX9_cards 0 = .ok (.aload_n 0, 1) := by decide +kernel
theorem dX9_cards_1 : decode cX9_cards 1 = .ok (.iload_n 1, 1) := by decide +kernel
theorem dX9_cards_2 : decode cX9_cards 2 = .ok (.iload_n 2, 1) := by decide +kernel
theorem dX9_cards_3 : decode cX9_cards 3 = .ok (.invokespecial 11, 3) := by decide +kernel
theorem dX9_cards_6 : decode cX9_cards 6 = .ok (.iconst 1, 1) := by decide +kernel
theorem dX9_cards_7 : decode cX9_cards 7 = .ok (.iadd, 1) := by decide +kernel
theorem dX9_cards_8 : decode cX9_cards 8 = .ok (.ireturn, 1) := by decide +kernel
set_option maxRecDepth 20000 in
theorem ggX9_price_X8_price : GoodIn wsX9_price wsX8_price := goodIn_r _ [6] (by decide +kernel) (by decide +kernel)
set_option maxRecDepth 20000 in
theorem gX9_price_X8_price_s14 : GoodIn wsX9_price (va_wsSU RX9 14 yX8_price wsX8_price) := goodIn_app (goodIn_of _ (by decide +kernel)) ggX9_price_X8_price
theorem dX9_price_0 : decode cX9_price 0 = .ok (.aload_n 0, 1) := by decide +kernel
theorem dX9_price_1 : decode cX9_price 1 = .ok (.iload_n 1, 1) := by decide +kernel
theorem dX9_price_2 : decode cX9_price 2 = .ok (.invokespecial 14, 3) := by decide +kernel
theorem dX9_price_5 : decode cX9_price 5 = .ok (.iconst 2, 1) := by decide +kernel
theorem dX9_price_6 : decode cX9_price 6 = .ok (.idiv, 1) := by decide +kernel
theorem dX9_price_7 : decode cX9_price 7 = .ok (.ireturn, 1) := by decide +kernel
set_option maxRecDepth 20000 in
theorem ggX10_init_X2_init : GoodIn wsX10_init wsX2_init := goodIn_r _ [3, 4, 5, 6, 7, 8, 9] (by decide +kernel) (by decide +kernel)
set_option maxRecDepth 20000 in
theorem gX10_init_X2_init_n1 : GoodIn wsX10_init (wsX2_init) := ggX10_init_X2_init
theorem dX10_init_0 : decode cX10_init 0 = .ok (.aload_n 0, 1) := by decide +kernel
theorem dX10_init_1 : decode cX10_init 1 = .ok (.invokespecial 1, 3) := by decide +kernel
theorem dX10_init_4 : decode cX10_init 4 = .ok (.return_, 1) := by decide +kernel
set_option maxRecDepth 20000 in
theorem ggX10_tellsAtMost_X2_tellsAtMost : GoodIn wsX10_tellsAtMost wsX2_tellsAtMost := goodIn_r _ [6] (by decide +kernel) (by decide +kernel)
set_option maxRecDepth 20000 in
theorem gX10_tellsAtMost_X2_tellsAtMost_s7 : GoodIn wsX10_tellsAtMost (va_wsSU RX10 7 yX2_tellsAtMost wsX2_tellsAtMost) := goodIn_app (goodIn_of _ (by decide +kernel)) ggX10_tellsAtMost_X2_tellsAtMost
theorem dX10_tellsAtMost_0 : decode cX10_tellsAtMost 0 = .ok (.aload_n 0, 1) := by decide +kernel
theorem dX10_tellsAtMost_1 : decode cX10_tellsAtMost 1 = .ok (.iload_n 1, 1) := by decide +kernel
theorem dX10_tellsAtMost_2 : decode cX10_tellsAtMost 2 = .ok (.iload_n 2, 1) := by decide +kernel
theorem dX10_tellsAtMost_3 : decode cX10_tellsAtMost 3 = .ok (.invokespecial 7, 3) := by decide +kernel
theorem dX10_tellsAtMost_6 : decode cX10_tellsAtMost 6 = .ok (.iconst 1, 1) := by decide +kernel
theorem dX10_tellsAtMost_7 : decode cX10_tellsAtMost 7 = .ok (.isub, 1) := by decide +kernel
theorem dX10_tellsAtMost_8 : decode cX10_tellsAtMost 8 = .ok (.ireturn, 1) := by decide +kernel
set_option maxRecDepth 20000 in
theorem ggX10_cards_X2_cards : GoodIn wsX10_cards wsX2_cards := goodIn_r _ [6, 7, 8, 9, 10, 11, 12] (by decide +kernel) (by decide +kernel)
set_option maxRecDepth 20000 in
theorem gX10_cards_X2_cards_s11 : GoodIn wsX10_cards (va_wsSU RX10 11 yX2_cards wsX2_cards) := goodIn_app (goodIn_of _ (by decide +kernel)) ggX10_cards_X2_cards
theorem dX10_cards_0 : decode cX10_cards 0 = .ok (.iconst 2, 1) := by decide +kernel
theorem dX10_cards_1 : decode cX10_cards 1 = .ok (.aload_n 0, 1) := by decide +kernel
theorem dX10_cards_2 : decode cX10_cards 2 = .ok (.iload_n 1, 1) := by decide +kernel
theorem dX10_cards_3 : decode cX10_cards 3 = .ok (.iload_n 2, 1) := by decide +kernel
theorem dX10_cards_4 : decode cX10_cards 4 = .ok (.invokespecial 11, 3) := by decide +kernel
theorem dX10_cards_7 : decode cX10_cards 7 = .ok (.imul, 1) := by decide +kernel
theorem dX10_cards_8 : decode cX10_cards 8 = .ok (.ireturn, 1) := by decide +kernel
set_option maxRecDepth 20000 in
theorem ggX10_price_X2_price : GoodIn wsX10_price wsX2_price := goodIn_r _ [6, 7, 8, 9, 10, 11, 12] (by decide +kernel) (by decide +kernel)
set_option maxRecDepth 20000 in
theorem gX10_price_X2_price_s14 : GoodIn wsX10_price (va_wsSU RX10 14 yX2_price wsX2_price) := goodIn_app (goodIn_of _ (by decide +kernel)) ggX10_price_X2_price
theorem dX10_price_0 : decode cX10_price 0 = .ok (.iconst 2, 1) := by decide +kernel
theorem dX10_price_1 : decode cX10_price 1 = .ok (.aload_n 0, 1) := by decide +kernel
theorem dX10_price_2 : decode cX10_price 2 = .ok (.iload_n 1, 1) := by decide +kernel
theorem dX10_price_3 : decode cX10_price 3 = .ok (.invokespecial 14, 3) := by decide +kernel
theorem dX10_price_6 : decode cX10_price 6 = .ok (.imul, 1) := by decide +kernel
theorem dX10_price_7 : decode cX10_price 7 = .ok (.ireturn, 1) := by decide +kernel
