set_option maxRecDepth 20000 in
theorem ggX11_init_X5_init : GoodIn wsX11_init wsX5_init := goodIn_r _ [20, 21, 2, 3, 22, 23, 24, 25, 26, 27, 28, 29, 30, 31, 32, 33, 34, 35, 36, 37, 38, 39, 40, 41, 42, 43, 44, 45, 46, 47, 48, 49, 50, 12, 51, 52, 53, 54, 55, 56, 57, 58, 59, 60, 61, 62, 63, 64, 65, 66, 67, 68, 69, 70, 71, 72, 73, 74, 101, 102, 103, 80, 81, 82, 83, 84, 85, 86] (by decide +kernel) (by decide +kernel)
set_option maxRecDepth 20000 in
theorem gX11_init_X5_init_n11 : GoodIn wsX11_init (wsX5_init) := ggX11_init_X5_init
set_option maxRecDepth 20000 in
theorem ggX11_init_X7_init : GoodIn wsX11_init wsX7_init := goodIn_r _ [76, 77, 2, 3, 78, 12, 79, 95, 96, 97, 98, 99, 100] (by decide +kernel) (by decide +kernel)
set_option maxRecDepth 20000 in
theorem gX11_init_X7_init_n39 : GoodIn wsX11_init (wsX7_init) := ggX11_init_X7_init
theorem dX11_init_0 : decode cX11_init 0 = .ok (.aload_n 0, 1) := by decide +kernel
theorem dX11_init_1 : decode cX11_init 1 = .ok (.invokespecial 3, 3) := by decide +kernel
theorem dX11_init_4 : decode cX11_init 4 = .ok (.aload_n 0, 1) := by decide +kernel
theorem dX11_init_5 : decode cX11_init 5 = .ok (.new 9, 3) := by decide +kernel
theorem dX11_init_8 : decode cX11_init 8 = .ok (.dup, 1) := by decide +kernel
theorem dX11_init_9 : decode cX11_init 9 = .ok (.invokespecial 11, 3) := by decide +kernel
theorem dX11_init_12 : decode cX11_init 12 = .ok (.putfield 12, 3) := by decide +kernel
theorem dX11_init_15 : decode cX11_init 15 = .ok (.aload_n 0, 1) := by decide +kernel
theorem dX11_init_16 : decode cX11_init 16 = .ok (.new 9, 3) := by decide +kernel
theorem dX11_init_19 : decode cX11_init 19 = .ok (.dup, 1) := by decide +kernel
theorem dX11_init_20 : decode cX11_init 20 = .ok (.invokespecial 11, 3) := by decide +kernel
theorem dX11_init_23 : decode cX11_init 23 = .ok (.putfield 16, 3) := by decide +kernel
theorem dX11_init_26 : decode cX11_init 26 = .ok (.aload_n 0, 1) := by decide +kernel
theorem dX11_init_27 : decode cX11_init 27 = .ok (.new 9, 3) := by decide +kernel
theorem dX11_init_30 : decode cX11_init 30 = .ok (.dup, 1) := by decide +kernel
theorem dX11_init_31 : decode cX11_init 31 = .ok (.invokespecial 11, 3) := by decide +kernel
theorem dX11_init_34 : decode cX11_init 34 = .ok (.putfield 19, 3) := by decide +kernel
theorem dX11_init_37 : decode cX11_init 37 = .ok (.aload_n 0, 1) := by decide +kernel
theorem dX11_init_38 : decode cX11_init 38 = .ok (.bipush 8, 2) := by decide +kernel
theorem dX11_init_40 : decode cX11_init 40 = .ok (.anewarray 22, 3) := by decide +kernel
theorem dX11_init_43 : decode cX11_init 43 = .ok (.putfield 24, 3) := by decide +kernel
theorem dX11_init_46 : decode cX11_init 46 = .ok (.aload_n 0, 1) := by decide +kernel
theorem dX11_init_47 : decode cX11_init 47 = .ok (.bipush 9, 2) := by decide +kernel
theorem dX11_init_49 : decode cX11_init 49 = .ok (.newarray .int, 2) := by decide +kernel
theorem dX11_init_51 : decode cX11_init 51 = .ok (.putfield 28, 3) := by decide +kernel
theorem dX11_init_54 : decode cX11_init 54 = .ok (.aload_n 0, 1) := by decide +kernel
theorem dX11_init_55 : decode cX11_init 55 = .ok (.bipush 9, 2) := by decide +kernel
theorem dX11_init_57 : decode cX11_init 57 = .ok (.newarray .long, 2) := by decide +kernel
theorem dX11_init_59 : decode cX11_init 59 = .ok (.putfield 32, 3) := by decide +kernel
theorem dX11_init_62 : decode cX11_init 62 = .ok (.aload_n 0, 1) := by decide +kernel
theorem dX11_init_63 : decode cX11_init 63 = .ok (.bipush 9, 2) := by decide +kernel
theorem dX11_init_65 : decode cX11_init 65 = .ok (.newarray .long, 2) := by decide +kernel
theorem dX11_init_67 : decode cX11_init 67 = .ok (.putfield 36, 3) := by decide +kernel
theorem dX11_init_70 : decode cX11_init 70 = .ok (.iconst 0, 1) := by decide +kernel
theorem dX11_init_71 : decode cX11_init 71 = .ok (.istore_n 1, 1) := by decide +kernel
theorem dX11_init_72 : decode cX11_init 72 = .ok (.iload_n 1, 1) := by decide +kernel
theorem dX11_init_73 : decode cX11_init 73 = .ok (.aload_n 0, 1) := by decide +kernel
theorem dX11_init_74 : decode cX11_init 74 = .ok (.getfield 24, 3) := by decide +kernel
theorem dX11_init_77 : decode cX11_init 77 = .ok (.arraylength, 1) := by decide +kernel
theorem dX11_init_78 : decode cX11_init 78 = .ok (.if_icmp .ge 22, 3) := by decide +kernel
theorem dX11_init_81 : decode cX11_init 81 = .ok (.aload_n 0, 1) := by decide +kernel
theorem dX11_init_82 : decode cX11_init 82 = .ok (.getfield 24, 3) := by decide +kernel
theorem dX11_init_85 : decode cX11_init 85 = .ok (.iload_n 1, 1) := by decide +kernel
theorem dX11_init_86 : decode cX11_init 86 = .ok (.new 22, 3) := by decide +kernel
theorem dX11_init_89 : decode cX11_init 89 = .ok (.dup, 1) := by decide +kernel
theorem dX11_init_90 : decode cX11_init 90 = .ok (.invokespecial 39, 3) := by decide +kernel
theorem dX11_init_93 : decode cX11_init 93 = .ok (.aastore, 1) := by decide +kernel
theorem dX11_init_94 : decode cX11_init 94 = .ok (.iinc 1 1, 3) := by decide +kernel
theorem dX11_init_97 : decode cX11_init 97 = .ok (.goto (-25), 3) := by decide +kernel
theorem dX11_init_100 : decode cX11_init 100 = .ok (.return_, 1) := by decide +kernel
set_option maxRecDepth 20000 in
theorem ggX11_parish_X11_shelfOf : GoodIn wsX11_parish wsX11_shelfOf := goodIn_r _ [7, 8, 240, 241, 242, 243, 244, 245, 246, 247] (by decide +kernel) (by decide +kernel)
set_option maxRecDepth 20000 in
theorem gX11_parish_X11_shelfOf : GoodIn wsX11_parish (wsV RX11 40 RX11 yX11_shelfOf wsX11_shelfOf) := goodIn_app (goodIn_of _ (by decide +kernel)) ggX11_parish_X11_shelfOf
set_option maxRecDepth 20000 in
theorem ggX11_parish_X11_textRefusal : GoodIn wsX11_parish wsX11_textRefusal := goodIn_r _ [11, 12, 13, 6, 14, 15, 16, 17, 18, 19, 20, 21, 22, 23, 24, 25, 26, 27, 28, 29, 248, 249, 250, 251, 252, 253] (by decide +kernel) (by decide +kernel)
set_option maxRecDepth 20000 in
theorem gX11_parish_X11_textRefusal : GoodIn wsX11_parish (va_wsS RX11 44 yX11_textRefusal wsX11_textRefusal) := goodIn_app (goodIn_of _ (by decide +kernel)) ggX11_parish_X11_textRefusal
set_option maxRecDepth 20000 in
theorem ggX11_parish_X11_brokenAt : GoodIn wsX11_parish wsX11_brokenAt := goodIn_r _ [32, 33, 34, 35, 18, 36, 37, 38, 39, 6, 40, 41, 42, 43, 44, 45, 46, 47, 48, 49, 50, 51, 52, 248, 249, 250, 251, 252, 253] (by decide +kernel) (by decide +kernel)
set_option maxRecDepth 20000 in
theorem gX11_parish_X11_brokenAt : GoodIn wsX11_parish (va_wsS RX11 48 yX11_brokenAt wsX11_brokenAt) := goodIn_app (goodIn_of _ (by decide +kernel)) ggX11_parish_X11_brokenAt
set_option maxRecDepth 20000 in
theorem ggX11_parish_X5_become : GoodIn wsX11_parish wsX5_become := goodIn_r _ [57, 58, 59, 60, 61, 62, 63, 64, 65, 66, 67, 68, 69, 70, 71, 72, 73, 74, 75, 254, 255, 256, 257, 258, 259, 260, 261, 262, 263] (by decide +kernel) (by decide +kernel)
set_option maxRecDepth 20000 in
theorem gX11_parish_X5_become : GoodIn wsX11_parish (wsV RX11 51 RX5 yX5_become wsX5_become) := goodIn_app (goodIn_of _ (by decide +kernel)) ggX11_parish_X5_become
set_option maxRecDepth 20000 in
theorem ggX11_parish_X7_size : GoodIn wsX11_parish wsX7_size := goodIn_r _ [36, 37, 248, 249, 250, 251, 252, 253] (by decide +kernel) (by decide +kernel)
set_option maxRecDepth 20000 in
theorem gX11_parish_X7_size : GoodIn wsX11_parish (wsV RX11 55 RX7 yX7_size wsX7_size) := goodIn_app (goodIn_of _ (by decide +kernel)) ggX11_parish_X7_size
set_option maxRecDepth 20000 in
theorem ggX11_parish_X11_happens : GoodIn wsX11_parish wsX11_happens := goodIn_r _ [79, 1, 41, 42, 43, 18, 44, 45, 46, 47, 48, 49, 37, 80, 81, 82, 56, 83, 58, 84, 6, 85, 86, 87, 88, 89, 90, 91, 59, 64, 66, 65, 92, 93, 94, 95, 96, 97, 98, 99, 100, 101, 102, 103, 104, 105, 106, 107, 108, 109, 110, 111, 112, 113, 114, 115, 116, 117, 118, 119, 120, 121, 122, 123, 124, 125, 71, 126, 74, 127, 128, 129, 130, 131, 132, 133, 134, 135, 136, 137, 138, 139, 140, 141, 142, 143, 144, 145, 146, 147, 67, 148, 149, 150, 151, 152, 153, 154, 155, 156, 157, 158, 159, 160, 161, 162, 163, 164, 165, 166, 167, 168, 169, 170, 171, 172, 173, 174, 175, 176, 177, 178, 179, 180, 181, 182, 183, 184, 185, 186, 187, 188, 189, 190, 191, 192, 193, 194, 195, 196, 197, 198, 199, 200, 201, 202, 203, 204, 205, 206, 207, 208, 209, 210, 211, 212, 213, 214, 215, 216, 217, 218, 219, 220, 221, 222, 223, 224, 225, 226, 227, 228, 229, 230, 231, 232, 233, 234, 235, 236, 237, 238, 239, 240, 241, 242, 243, 244, 245, 246, 247, 248, 249, 250, 251, 252, 253, 254, 255, 256, 257, 258, 259, 260, 261, 262, 263] (by decide +kernel) (by decide +kernel)
set_option maxRecDepth 20000 in
theorem gX11_parish_X11_happens : GoodIn wsX11_parish (wsV RX11 59 RX11 yX11_happens wsX11_happens) := goodIn_app (goodIn_of _ (by decide +kernel)) ggX11_parish_X11_happens
set_option maxRecDepth 20000 in
theorem ggX11_parish_X7_at : GoodIn wsX11_parish wsX7_at := goodIn_r _ [44, 45, 46, 47, 48, 18, 49, 37, 248, 249, 250, 251, 252, 253] (by decide +kernel) (by decide +kernel)
set_option maxRecDepth 20000 in
theorem gX11_parish_X7_at : GoodIn wsX11_parish (wsV RX11 63 RX7 yX7_at wsX7_at) := goodIn_app (goodIn_of _ (by decide +kernel)) ggX11_parish_X7_at
set_option maxRecDepth 20000 in
theorem ggX11_parish_X11_digitsBehind : GoodIn wsX11_parish wsX11_digitsBehind := goodIn_r _ [52] (by decide +kernel) (by decide +kernel)
set_option maxRecDepth 20000 in
theorem gX11_parish_X11_digitsBehind : GoodIn wsX11_parish (va_wsS RX11 67 yX11_digitsBehind wsX11_digitsBehind) := goodIn_app (goodIn_of _ (by decide +kernel)) ggX11_parish_X11_digitsBehind
theorem dX11_parish_0 : decode cX11_parish 0 = .ok (.aload_n 0, 1) := by decide +kernel
theorem dX11_parish_1 : decode cX11_parish 1 = .ok (.iload_n 1, 1) := by decide +kernel
theorem dX11_parish_2 : decode cX11_parish 2 = .ok (.invokevirtual 40, 3) := by decide +kernel
theorem dX11_parish_5 : decode cX11_parish 5 = .ok (.astore_n 2, 1) := by decide +kernel
theorem dX11_parish_6 : decode cX11_parish 6 = .ok (.aload_n 2, 1) := by decide +kernel
theorem dX11_parish_7 : decode cX11_parish 7 = .ok (.invokestatic 44, 3) := by decide +kernel
theorem dX11_parish_10 : decode cX11_parish 10 = .ok (.istore_n 3, 1) := by decide +kernel
theorem dX11_parish_11 : decode cX11_parish 11 = .ok (.iload_n 3, 1) := by decide +kernel
theorem dX11_parish_12 : decode cX11_parish 12 = .ok (.ifCond .eq 5, 3) := by decide +kernel
theorem dX11_parish_15 : decode cX11_parish 15 = .ok (.iload_n 3, 1) := by decide +kernel
theorem dX11_parish_16 : decode cX11_parish 16 = .ok (.ireturn, 1) := by decide +kernel
theorem dX11_parish_17 : decode cX11_parish 17 = .ok (.aload_n 2, 1) := by decide +kernel
theorem dX11_parish_18 : decode cX11_parish 18 = .ok (.invokestatic 48, 3) := by decide +kernel
theorem dX11_parish_21 : decode cX11_parish 21 = .ok (.istore 4, 2) := by decide +kernel
theorem dX11_parish_23 : decode cX11_parish 23 = .ok (.iload 4, 2) := by decide +kernel
theorem dX11_parish_25 : decode cX11_parish 25 = .ok (.ifCond .lt 10, 3) := by decide +kernel
theorem dX11_parish_28 : decode cX11_parish 28 = .ok (.sipush (-1000), 3) := by decide +kernel
theorem dX11_parish_31 : decode cX11_parish 31 = .ok (.iload 4, 2) := by decide +kernel
theorem dX11_parish_33 : decode cX11_parish 33 = .ok (.isub, 1) := by decide +kernel
theorem dX11_parish_34 : decode cX11_parish 34 = .ok (.ireturn, 1) := by decide +kernel
theorem dX11_parish_35 : decode cX11_parish 35 = .ok (.aload_n 0, 1) := by decide +kernel
theorem dX11_parish_36 : decode cX11_parish 36 = .ok (.getfield 16, 3) := by decide +kernel
theorem dX11_parish_39 : decode cX11_parish 39 = .ok (.aload_n 0, 1) := by decide +kernel
theorem dX11_parish_40 : decode cX11_parish 40 = .ok (.getfield 12, 3) := by decide +kernel
theorem dX11_parish_43 : decode cX11_parish 43 = .ok (.invokevirtual 51, 3) := by decide +kernel
theorem dX11_parish_46 : decode cX11_parish 46 = .ok (.iconst 0, 1) := by decide +kernel
theorem dX11_parish_47 : decode cX11_parish 47 = .ok (.istore 5, 2) := by decide +kernel
theorem dX11_parish_49 : decode cX11_parish 49 = .ok (.iconst 0, 1) := by decide +kernel
theorem dX11_parish_50 : decode cX11_parish 50 = .ok (.istore 6, 2) := by decide +kernel
theorem dX11_parish_52 : decode cX11_parish 52 = .ok (.iload 6, 2) := by decide +kernel
theorem dX11_parish_54 : decode cX11_parish 54 = .ok (.aload_n 2, 1) := by decide +kernel
theorem dX11_parish_55 : decode cX11_parish 55 = .ok (.invokevirtual 55, 3) := by decide +kernel
theorem dX11_parish_58 : decode cX11_parish 58 = .ok (.if_icmp .ge 42, 3) := by decide +kernel
theorem dX11_parish_61 : decode cX11_parish 61 = .ok (.aload_n 0, 1) := by decide +kernel
theorem dX11_parish_62 : decode cX11_parish 62 = .ok (.aload_n 2, 1) := by decide +kernel
theorem dX11_parish_63 : decode cX11_parish 63 = .ok (.iload 6, 2) := by decide +kernel
theorem dX11_parish_65 : decode cX11_parish 65 = .ok (.invokevirtual 59, 3) := by decide +kernel
theorem dX11_parish_68 : decode cX11_parish 68 = .ok (.ifCond .ge 10, 3) := by decide +kernel
theorem dX11_parish_71 : decode cX11_parish 71 = .ok (.sipush (-2000), 3) := by decide +kernel
theorem dX11_parish_74 : decode cX11_parish 74 = .ok (.iload 6, 2) := by decide +kernel
theorem dX11_parish_76 : decode cX11_parish 76 = .ok (.isub, 1) := by decide +kernel
theorem dX11_parish_77 : decode cX11_parish 77 = .ok (.ireturn, 1) := by decide +kernel
theorem dX11_parish_78 : decode cX11_parish 78 = .ok (.iinc 5 1, 3) := by decide +kernel
theorem dX11_parish_81 : decode cX11_parish 81 = .ok (.iload 6, 2) := by decide +kernel
theorem dX11_parish_83 : decode cX11_parish 83 = .ok (.iconst 2, 1) := by decide +kernel
theorem dX11_parish_84 : decode cX11_parish 84 = .ok (.aload_n 2, 1) := by decide +kernel
theorem dX11_parish_85 : decode cX11_parish 85 = .ok (.iload 6, 2) := by decide +kernel
theorem dX11_parish_87 : decode cX11_parish 87 = .ok (.invokevirtual 63, 3) := by decide +kernel
theorem dX11_parish_90 : decode cX11_parish 90 = .ok (.invokestatic 67, 3) := by decide +kernel
theorem dX11_parish_93 : decode cX11_parish 93 = .ok (.iadd, 1) := by decide +kernel
theorem dX11_parish_94 : decode cX11_parish 94 = .ok (.iadd, 1) := by decide +kernel
theorem dX11_parish_95 : decode cX11_parish 95 = .ok (.istore 6, 2) := by decide +kernel
theorem dX11_parish_97 : decode cX11_parish 97 = .ok (.goto (-45), 3) := by decide +kernel
theorem dX11_parish_100 : decode cX11_parish 100 = .ok (.aload_n 0, 1) := by decide +kernel
theorem dX11_parish_101 : decode cX11_parish 101 = .ok (.getfield 12, 3) := by decide +kernel
theorem dX11_parish_104 : decode cX11_parish 104 = .ok (.aload_n 0, 1) := by decide +kernel
theorem dX11_parish_105 : decode cX11_parish 105 = .ok (.getfield 16, 3) := by decide +kernel
theorem dX11_parish_108 : decode cX11_parish 108 = .ok (.invokevirtual 51, 3) := by decide +kernel
theorem dX11_parish_111 : decode cX11_parish 111 = .ok (.iload 5, 2) := by decide +kernel
theorem dX11_parish_113 : decode cX11_parish 113 = .ok (.ireturn, 1) := by decide +kernel
set_option maxRecDepth 20000 in
theorem ggX11_one_X5_has : GoodIn wsX11_one wsX5_has := goodIn_r _ [6, 7, 149, 150, 151, 152, 153, 154, 155, 156, 157, 158] (by decide +kernel) (by decide +kernel)
set_option maxRecDepth 20000 in
theorem gX11_one_X5_has : GoodIn wsX11_one (wsV RX11 70 RX5 yX5_has wsX5_has) := goodIn_app (goodIn_of _ (by decide +kernel)) ggX11_one_X5_has
set_option maxRecDepth 20000 in
theorem ggX11_one_X5_kindOf : GoodIn wsX11_one wsX5_kindOf := goodIn_r _ [11, 12, 149, 150, 151, 152, 153, 154, 155] (by decide +kernel) (by decide +kernel)
set_option maxRecDepth 20000 in
theorem gX11_one_X5_kindOf : GoodIn wsX11_one (wsV RX11 74 RX5 yX5_kindOf wsX5_kindOf) := goodIn_app (goodIn_of _ (by decide +kernel)) ggX11_one_X5_kindOf
set_option maxRecDepth 20000 in
theorem ggX11_one_X5_figureOf : GoodIn wsX11_one wsX5_figureOf := goodIn_r _ [16, 17, 149, 150, 151, 152, 153, 154, 155] (by decide +kernel) (by decide +kernel)
set_option maxRecDepth 20000 in
theorem gX11_one_X5_figureOf : GoodIn wsX11_one (wsV RX11 77 RX5 yX5_figureOf wsX5_figureOf) := goodIn_app (goodIn_of _ (by decide +kernel)) ggX11_one_X5_figureOf
set_option maxRecDepth 20000 in
theorem ggX11_one_X4_number : GoodIn wsX11_one wsX4_number := goodIn_r _ [22, 23, 24, 25, 21, 26, 27, 28, 29, 30, 31, 32, 33, 34, 156, 157, 158] (by decide +kernel) (by decide +kernel)
set_option maxRecDepth 20000 in
theorem gX11_one_X4_number : GoodIn wsX11_one (wsV RX11 84 RX4 yX4_number wsX4_number) := goodIn_app (goodIn_of _ (by decide +kernel)) ggX11_one_X4_number
set_option maxRecDepth 20000 in
theorem ggX11_one_X4_around : GoodIn wsX11_one wsX4_around := goodIn_r _ [26, 27, 156, 157, 158] (by decide +kernel) (by decide +kernel)
set_option maxRecDepth 20000 in
theorem gX11_one_X4_around : GoodIn wsX11_one (wsV RX11 89 RX4 yX4_around wsX4_around) := goodIn_app (goodIn_of _ (by decide +kernel)) ggX11_one_X4_around
set_option maxRecDepth 20000 in
theorem ggX11_one_X5_kindNamed : GoodIn wsX11_one wsX5_kindNamed := goodIn_r _ [39, 40, 149, 150, 151, 152, 153, 154, 155] (by decide +kernel) (by decide +kernel)
set_option maxRecDepth 20000 in
theorem gX11_one_X5_kindNamed : GoodIn wsX11_one (wsV RX11 96 RX5 yX5_kindNamed wsX5_kindNamed) := goodIn_app (goodIn_of _ (by decide +kernel)) ggX11_one_X5_kindNamed
set_option maxRecDepth 20000 in
theorem ggX11_one_X0_tellsAtMost : GoodIn wsX11_one wsX0_tellsAtMost := goodIn_r _ [47, 48, 49, 50, 51, 52, 53, 54, 55, 56, 57, 58, 59] (by decide +kernel) (by decide +kernel)
set_option maxRecDepth 20000 in
theorem gX11_one_X0_tellsAtMost_u103X0 : GoodIn wsX11_one (va_wsO RX11 103 RX0 "MoreThanSheHas$Person" ⟨"MoreThanSheHas$Person", "tellsAtMost", "(II)I"⟩ yX0_tellsAtMost wsX0_tellsAtMost) := goodIn_app (goodIn_of _ (by decide +kernel)) ggX11_one_X0_tellsAtMost
set_option maxRecDepth 20000 in
theorem ggX11_one_X3_tellsAtMost : GoodIn wsX11_one wsX3_tellsAtMost := goodIn_r _ [64] (by decide +kernel) (by decide +kernel)
set_option maxRecDepth 20000 in
theorem gX11_one_X3_tellsAtMost_u103X1 : GoodIn wsX11_one (va_wsO RX11 103 RX1 "MoreThanSheHas$Person" ⟨"MoreThanSheHas$Person", "tellsAtMost", "(II)I"⟩ yX3_tellsAtMost wsX3_tellsAtMost) := goodIn_app (goodIn_of _ (by decide +kernel)) ggX11_one_X3_tellsAtMost
set_option maxRecDepth 20000 in
theorem ggX11_one_X2_tellsAtMost : GoodIn wsX11_one wsX2_tellsAtMost := goodIn_r _ [59] (by decide +kernel) (by decide +kernel)
set_option maxRecDepth 20000 in
theorem gX11_one_X2_tellsAtMost_u103X2 : GoodIn wsX11_one (va_wsO RX11 103 RX2 "MoreThanSheHas$Person" ⟨"MoreThanSheHas$Person", "tellsAtMost", "(II)I"⟩ yX2_tellsAtMost wsX2_tellsAtMost) := goodIn_app (goodIn_of _ (by decide +kernel)) ggX11_one_X2_tellsAtMost
set_option maxRecDepth 20000 in
theorem gX11_one_X3_tellsAtMost_u103X3 : GoodIn wsX11_one (va_wsO RX11 103 RX3 "MoreThanSheHas$Person" ⟨"MoreThanSheHas$Person", "tellsAtMost", "(II)I"⟩ yX3_tellsAtMost wsX3_tellsAtMost) := goodIn_app (goodIn_of _ (by decide +kernel)) ggX11_one_X3_tellsAtMost
set_option maxRecDepth 20000 in
theorem ggX11_one_X6_tellsAtMost : GoodIn wsX11_one wsX6_tellsAtMost := goodIn_r _ [60] (by decide +kernel) (by decide +kernel)
set_option maxRecDepth 20000 in
theorem gX11_one_X6_tellsAtMost : GoodIn wsX11_one (wsV RX11 103 RX6 yX6_tellsAtMost wsX6_tellsAtMost) := goodIn_app (goodIn_of _ (by decide +kernel)) ggX11_one_X6_tellsAtMost
set_option maxRecDepth 20000 in
theorem ggX11_one_X8_tellsAtMost : GoodIn wsX11_one wsX8_tellsAtMost := goodIn_r _ [74] (by decide +kernel) (by decide +kernel)
set_option maxRecDepth 20000 in
theorem gX11_one_X8_tellsAtMost_u103X8 : GoodIn wsX11_one (va_wsO RX11 103 RX8 "MoreThanSheHas$Person" ⟨"MoreThanSheHas$Person", "tellsAtMost", "(II)I"⟩ yX8_tellsAtMost wsX8_tellsAtMost) := goodIn_app (goodIn_of _ (by decide +kernel)) ggX11_one_X8_tellsAtMost
set_option maxRecDepth 20000 in
theorem ggX11_one_X9_tellsAtMost : GoodIn wsX11_one wsX9_tellsAtMost := goodIn_r _ [78, 79, 80, 81, 72, 73, 74] (by decide +kernel) (by decide +kernel)
set_option maxRecDepth 20000 in
theorem gX11_one_X9_tellsAtMost_u103X9 : GoodIn wsX11_one (va_wsO RX11 103 RX9 "MoreThanSheHas$Person" ⟨"MoreThanSheHas$Person", "tellsAtMost", "(II)I"⟩ yX9_tellsAtMost wsX9_tellsAtMost) := goodIn_app (goodIn_of _ (by decide +kernel)) ggX11_one_X9_tellsAtMost
set_option maxRecDepth 20000 in
theorem ggX11_one_X10_tellsAtMost : GoodIn wsX11_one wsX10_tellsAtMost := goodIn_r _ [53, 54, 55, 56, 57, 58, 59] (by decide +kernel) (by decide +kernel)
set_option maxRecDepth 20000 in
theorem gX11_one_X10_tellsAtMost_u103X10 : GoodIn wsX11_one (va_wsO RX11 103 RX10 "MoreThanSheHas$Person" ⟨"MoreThanSheHas$Person", "tellsAtMost", "(II)I"⟩ yX10_tellsAtMost wsX10_tellsAtMost) := goodIn_app (goodIn_of _ (by decide +kernel)) ggX11_one_X10_tellsAtMost
set_option maxRecDepth 20000 in
theorem ggX11_one_X5_cardsOf : GoodIn wsX11_one wsX5_cardsOf := goodIn_r _ [86, 7, 87, 9, 10, 5, 11, 12, 88, 37, 38, 39, 40, 89, 14, 15, 16, 17, 90, 19, 20, 21, 22, 23, 24, 25, 26, 27, 28, 29, 30, 31, 32, 33, 34, 91, 92, 93, 94, 95, 46, 96, 97, 98, 50, 99, 52, 100, 101, 102, 56, 103, 58, 104, 105, 106, 107, 70, 108, 109, 110, 63, 111, 112, 113, 114, 115, 116, 117, 73, 118, 119, 120, 121, 122, 77, 123, 124, 125, 81, 126, 149, 150, 151, 152, 153, 154, 155, 156, 157, 158] (by decide +kernel) (by decide +kernel)
set_option maxRecDepth 20000 in
theorem gX11_one_X5_cardsOf : GoodIn wsX11_one (wsV RX11 109 RX5 yX5_cardsOf wsX5_cardsOf) := goodIn_app (goodIn_of _ (by decide +kernel)) ggX11_one_X5_cardsOf
set_option maxRecDepth 20000 in
theorem ggX11_one_X4_feelers : GoodIn wsX11_one wsX4_feelers := goodIn_r _ [130, 131, 132, 19, 20, 21, 22, 23, 24, 25, 26, 27, 28, 29, 30, 31, 32, 33, 34, 133, 134, 135, 136, 137, 138, 139, 140, 156, 157, 158] (by decide +kernel) (by decide +kernel)
set_option maxRecDepth 20000 in
theorem gX11_one_X4_feelers : GoodIn wsX11_one (wsV RX11 112 RX4 yX4_feelers wsX4_feelers) := goodIn_app (goodIn_of _ (by decide +kernel)) ggX11_one_X4_feelers
theorem dX11_one_0 : decode cX11_one 0 = .ok (.aload_n 0, 1) := by decide +kernel
theorem dX11_one_1 : decode cX11_one 1 = .ok (.getfield 12, 3) := by decide +kernel
theorem dX11_one_4 : decode cX11_one 4 = .ok (.iload_n 1, 1) := by decide +kernel
theorem dX11_one_5 : decode cX11_one 5 = .ok (.invokevirtual 70, 3) := by decide +kernel
theorem dX11_one_8 : decode cX11_one 8 = .ok (.ifCond .ne 5, 3) := by decide +kernel
theorem dX11_one_11 : decode cX11_one 11 = .ok (.iconst (-1), 1) := by decide +kernel
theorem dX11_one_12 : decode cX11_one 12 = .ok (.ireturn, 1) := by decide +kernel
theorem dX11_one_13 : decode cX11_one 13 = .ok (.iload_n 2, 1) := by decide +kernel
theorem dX11_one_14 : decode cX11_one 14 = .ok (.tableswitch 160 0 7 #[46, 55, 64, 76, 88, 100, 136, 145], 46) := by decide +kernel
theorem dX11_one_60 : decode cX11_one 60 = .ok (.aload_n 0, 1) := by decide +kernel
theorem dX11_one_61 : decode cX11_one 61 = .ok (.getfield 12, 3) := by decide +kernel
theorem dX11_one_64 : decode cX11_one 64 = .ok (.iload_n 1, 1) := by decide +kernel
theorem dX11_one_65 : decode cX11_one 65 = .ok (.invokevirtual 74, 3) := by decide +kernel
theorem dX11_one_68 : decode cX11_one 68 = .ok (.ireturn, 1) := by decide +kernel
theorem dX11_one_69 : decode cX11_one 69 = .ok (.aload_n 0, 1) := by decide +kernel
theorem dX11_one_70 : decode cX11_one 70 = .ok (.getfield 12, 3) := by decide +kernel
theorem dX11_one_73 : decode cX11_one 73 = .ok (.iload_n 1, 1) := by decide +kernel
theorem dX11_one_74 : decode cX11_one 74 = .ok (.invokevirtual 77, 3) := by decide +kernel
theorem dX11_one_77 : decode cX11_one 77 = .ok (.ireturn, 1) := by decide +kernel
theorem dX11_one_78 : decode cX11_one 78 = .ok (.aload_n 0, 1) := by decide +kernel
theorem dX11_one_79 : decode cX11_one 79 = .ok (.getfield 12, 3) := by decide +kernel
theorem dX11_one_82 : decode cX11_one 82 = .ok (.getfield 80, 3) := by decide +kernel
theorem dX11_one_85 : decode cX11_one 85 = .ok (.iload_n 1, 1) := by decide +kernel
theorem dX11_one_86 : decode cX11_one 86 = .ok (.invokevirtual 84, 3) := by decide +kernel
theorem dX11_one_89 : decode cX11_one 89 = .ok (.ireturn, 1) := by decide +kernel
theorem dX11_one_90 : decode cX11_one 90 = .ok (.aload_n 0, 1) := by decide +kernel
theorem dX11_one_91 : decode cX11_one 91 = .ok (.getfield 12, 3) := by decide +kernel
theorem dX11_one_94 : decode cX11_one 94 = .ok (.getfield 80, 3) := by decide +kernel
theorem dX11_one_97 : decode cX11_one 97 = .ok (.iload_n 1, 1) := by decide +kernel
theorem dX11_one_98 : decode cX11_one 98 = .ok (.invokevirtual 89, 3) := by decide +kernel
theorem dX11_one_101 : decode cX11_one 101 = .ok (.ireturn, 1) := by decide +kernel
theorem dX11_one_102 : decode cX11_one 102 = .ok (.aload_n 0, 1) := by decide +kernel
theorem dX11_one_103 : decode cX11_one 103 = .ok (.getfield 12, 3) := by decide +kernel
theorem dX11_one_106 : decode cX11_one 106 = .ok (.getfield 92, 3) := by decide +kernel
theorem dX11_one_109 : decode cX11_one 109 = .ok (.iload_n 1, 1) := by decide +kernel
theorem dX11_one_110 : decode cX11_one 110 = .ok (.ishr, 1) := by decide +kernel
theorem dX11_one_111 : decode cX11_one 111 = .ok (.iconst 1, 1) := by decide +kernel
theorem dX11_one_112 : decode cX11_one 112 = .ok (.iand, 1) := by decide +kernel
theorem dX11_one_113 : decode cX11_one 113 = .ok (.ireturn, 1) := by decide +kernel
theorem dX11_one_114 : decode cX11_one 114 = .ok (.aload_n 0, 1) := by decide +kernel
theorem dX11_one_115 : decode cX11_one 115 = .ok (.getfield 12, 3) := by decide +kernel
theorem dX11_one_118 : decode cX11_one 118 = .ok (.aload_n 0, 1) := by decide +kernel
theorem dX11_one_119 : decode cX11_one 119 = .ok (.getfield 12, 3) := by decide +kernel
theorem dX11_one_122 : decode cX11_one 122 = .ok (.iload_n 1, 1) := by decide +kernel
theorem dX11_one_123 : decode cX11_one 123 = .ok (.invokevirtual 74, 3) := by decide +kernel
theorem dX11_one_126 : decode cX11_one 126 = .ok (.invokevirtual 96, 3) := by decide +kernel
theorem dX11_one_129 : decode cX11_one 129 = .ok (.aload_n 0, 1) := by decide +kernel
theorem dX11_one_130 : decode cX11_one 130 = .ok (.getfield 12, 3) := by decide +kernel
theorem dX11_one_133 : decode cX11_one 133 = .ok (.iload_n 1, 1) := by decide +kernel
theorem dX11_one_134 : decode cX11_one 134 = .ok (.invokevirtual 77, 3) := by decide +kernel
theorem dX11_one_137 : decode cX11_one 137 = .ok (.aload_n 0, 1) := by decide +kernel
theorem dX11_one_138 : decode cX11_one 138 = .ok (.getfield 12, 3) := by decide +kernel
theorem dX11_one_141 : decode cX11_one 141 = .ok (.getfield 100, 3) := by decide +kernel
theorem dX11_one_144 : decode cX11_one 144 = .ok (.iconst 1, 1) := by decide +kernel
theorem dX11_one_145 : decode cX11_one 145 = .ok (.iadd, 1) := by decide +kernel
theorem dX11_one_146 : decode cX11_one 146 = .ok (.invokevirtual 103, 3) := by decide +kernel
theorem dX11_one_149 : decode cX11_one 149 = .ok (.ireturn, 1) := by decide +kernel
theorem dX11_one_150 : decode cX11_one 150 = .ok (.aload_n 0, 1) := by decide +kernel
theorem dX11_one_151 : decode cX11_one 151 = .ok (.getfield 12, 3) := by decide +kernel
theorem dX11_one_154 : decode cX11_one 154 = .ok (.iload_n 1, 1) := by decide +kernel
theorem dX11_one_155 : decode cX11_one 155 = .ok (.invokevirtual 109, 3) := by decide +kernel
theorem dX11_one_158 : decode cX11_one 158 = .ok (.ireturn, 1) := by decide +kernel
theorem dX11_one_159 : decode cX11_one 159 = .ok (.aload_n 0, 1) := by decide +kernel
theorem dX11_one_160 : decode cX11_one 160 = .ok (.getfield 12, 3) := by decide +kernel
theorem dX11_one_163 : decode cX11_one 163 = .ok (.getfield 80, 3) := by decide +kernel
theorem dX11_one_166 : decode cX11_one 166 = .ok (.invokevirtual 112, 3) := by decide +kernel
theorem dX11_one_169 : decode cX11_one 169 = .ok (.iload_n 1, 1) := by decide +kernel
theorem dX11_one_170 : decode cX11_one 170 = .ok (.ishr, 1) := by decide +kernel
theorem dX11_one_171 : decode cX11_one 171 = .ok (.iconst 1, 1) := by decide +kernel
theorem dX11_one_172 : decode cX11_one 172 = .ok (.iand, 1) := by decide +kernel
theorem dX11_one_173 : decode cX11_one 173 = .ok (.ireturn, 1) := by decide +kernel
theorem dX11_one_174 : decode cX11_one 174 = .ok (.iconst (-1), 1) := by decide +kernel
theorem dX11_one_175 : decode cX11_one 175 = .ok (.ireturn, 1) := by decide +kernel
set_option maxRecDepth 20000 in
theorem ggX11_comes_X11_shelfOf : GoodIn wsX11_comes wsX11_shelfOf := goodIn_r _ [6, 7, 66, 67, 68, 69, 70, 71, 72, 73] (by decide +kernel) (by decide +kernel)
set_option maxRecDepth 20000 in
theorem gX11_comes_X11_shelfOf : GoodIn wsX11_comes (wsV RX11 40 RX11 yX11_shelfOf wsX11_shelfOf) := goodIn_app (goodIn_of _ (by decide +kernel)) ggX11_comes_X11_shelfOf
set_option maxRecDepth 20000 in
theorem ggX11_comes_X11_oneRefusal : GoodIn wsX11_comes wsX11_oneRefusal := goodIn_r _ [10, 11, 12, 13, 14, 15, 16, 17, 18, 19, 20, 74, 75, 76, 77, 78, 79] (by decide +kernel) (by decide +kernel)
set_option maxRecDepth 20000 in
theorem gX11_comes_X11_oneRefusal : GoodIn wsX11_comes (va_wsS RX11 115 yX11_oneRefusal wsX11_oneRefusal) := goodIn_app (goodIn_of _ (by decide +kernel)) ggX11_comes_X11_oneRefusal
set_option maxRecDepth 20000 in
theorem ggX11_comes_X5_arrive : GoodIn wsX11_comes wsX5_arrive := goodIn_r _ [25, 26, 27, 5, 28, 29, 30, 31, 32, 33, 24, 34, 35, 36, 37, 38, 39, 40, 41, 42, 43, 44, 45, 46, 47, 48, 49, 50, 51, 52, 53, 54, 55, 56, 57, 58, 59, 60, 61, 62, 63, 64, 65, 80, 81, 82, 83, 84, 85, 86, 87, 88, 89] (by decide +kernel) (by decide +kernel)
set_option maxRecDepth 20000 in
theorem gX11_comes_X5_arrive : GoodIn wsX11_comes (wsV RX11 124 RX5 yX5_arrive wsX5_arrive) := goodIn_app (goodIn_of _ (by decide +kernel)) ggX11_comes_X5_arrive
theorem dX11_comes_0 : decode cX11_comes 0 = .ok (.aload_n 0, 1) := by decide +kernel
theorem dX11_comes_1 : decode cX11_comes 1 = .ok (.iload_n 1, 1) := by decide +kernel
theorem dX11_comes_2 : decode cX11_comes 2 = .ok (.invokevirtual 40, 3) := by decide +kernel
theorem dX11_comes_5 : decode cX11_comes 5 = .ok (.astore_n 2, 1) := by decide +kernel
theorem dX11_comes_6 : decode cX11_comes 6 = .ok (.aload_n 2, 1) := by decide +kernel
theorem dX11_comes_7 : decode cX11_comes 7 = .ok (.invokestatic 115, 3) := by decide +kernel
theorem dX11_comes_10 : decode cX11_comes 10 = .ok (.istore_n 3, 1) := by decide +kernel
theorem dX11_comes_11 : decode cX11_comes 11 = .ok (.iload_n 3, 1) := by decide +kernel
theorem dX11_comes_12 : decode cX11_comes 12 = .ok (.ifCond .eq 7, 3) := by decide +kernel
theorem dX11_comes_15 : decode cX11_comes 15 = .ok (.iload_n 3, 1) := by decide +kernel
theorem dX11_comes_16 : decode cX11_comes 16 = .ok (.goto 18, 3) := by decide +kernel
theorem dX11_comes_19 : decode cX11_comes 19 = .ok (.aload_n 0, 1) := by decide +kernel
theorem dX11_comes_20 : decode cX11_comes 20 = .ok (.getfield 12, 3) := by decide +kernel
theorem dX11_comes_23 : decode cX11_comes 23 = .ok (.aload_n 2, 1) := by decide +kernel
theorem dX11_comes_24 : decode cX11_comes 24 = .ok (.getfield 118, 3) := by decide +kernel
theorem dX11_comes_27 : decode cX11_comes 27 = .ok (.aload_n 2, 1) := by decide +kernel
theorem dX11_comes_28 : decode cX11_comes 28 = .ok (.getfield 121, 3) := by decide +kernel
theorem dX11_comes_31 : decode cX11_comes 31 = .ok (.invokevirtual 124, 3) := by decide +kernel
theorem dX11_comes_34 : decode cX11_comes 34 = .ok (.ireturn, 1) := by decide +kernel
set_option maxRecDepth 20000 in
theorem ggX11_line_X5_join : GoodIn wsX11_line wsX5_join := goodIn_r _ [6, 7, 8, 9, 10, 5, 11, 12, 13, 14, 15, 16, 17, 18, 19, 20, 21, 22, 23, 24, 25, 34, 35, 36, 37, 38, 39, 40, 41, 42, 43] (by decide +kernel) (by decide +kernel)
set_option maxRecDepth 20000 in
theorem gX11_line_X5_join : GoodIn wsX11_line (wsV RX11 127 RX5 yX5_join wsX5_join) := goodIn_app (goodIn_of _ (by decide +kernel)) ggX11_line_X5_join
theorem dX11_line_0 : decode cX11_line 0 = .ok (.aload_n 0, 1) := by decide +kernel
theorem dX11_line_1 : decode cX11_line 1 = .ok (.getfield 12, 3) := by decide +kernel
theorem dX11_line_4 : decode cX11_line 4 = .ok (.iload_n 1, 1) := by decide +kernel
theorem dX11_line_5 : decode cX11_line 5 = .ok (.iload_n 2, 1) := by decide +kernel
theorem dX11_line_6 : decode cX11_line 6 = .ok (.invokevirtual 127, 3) := by decide +kernel
theorem dX11_line_9 : decode cX11_line 9 = .ok (.ireturn, 1) := by decide +kernel
set_option maxRecDepth 20000 in
theorem ggX11_told_X5_inform : GoodIn wsX11_told wsX5_inform := goodIn_r _ [6, 7, 8, 9, 10, 5, 11, 12, 13, 14, 15, 16, 17, 26, 27, 28, 29, 30, 31, 32, 33, 34, 35] (by decide +kernel) (by decide +kernel)
set_option maxRecDepth 20000 in
theorem gX11_told_X5_inform : GoodIn wsX11_told (wsV RX11 130 RX5 yX5_inform wsX5_inform) := goodIn_app (goodIn_of _ (by decide +kernel)) ggX11_told_X5_inform
theorem dX11_told_0 : decode cX11_told 0 = .ok (.aload_n 0, 1) := by decide +kernel
theorem dX11_told_1 : decode cX11_told 1 = .ok (.getfield 12, 3) := by decide +kernel
theorem dX11_told_4 : decode cX11_told 4 = .ok (.iload_n 1, 1) := by decide +kernel
theorem dX11_told_5 : decode cX11_told 5 = .ok (.invokevirtual 130, 3) := by decide +kernel
theorem dX11_told_8 : decode cX11_told 8 = .ok (.ireturn, 1) := by decide +kernel
set_option maxRecDepth 20000 in
theorem ggX11_days_X5_goOn : GoodIn wsX11_days wsX5_goOn := goodIn_r _ [6, 7, 8, 9, 10, 11, 5, 12, 13, 14, 15, 16, 17, 18, 19, 20, 21, 22, 23, 24, 25, 26, 27, 28, 29, 30, 31, 32, 33, 34, 35, 36, 37, 38, 39, 40, 41, 42, 43, 44, 45, 46, 47, 48, 49, 50, 51, 52, 53, 54, 55, 56, 57, 58, 59, 60, 61, 62, 63, 64, 65, 66, 67, 68, 69, 70, 71, 72, 73, 74, 75, 76, 77, 78, 79, 80, 81, 82, 83, 84, 85, 86, 87, 88, 89, 90, 91, 92, 93, 94, 95, 96, 97, 98, 99, 100, 101, 102, 103, 104, 105, 106, 107, 108, 109, 110, 111, 112, 113, 114, 115, 116, 125, 126, 127, 128, 129, 130, 131, 132, 133, 134] (by decide +kernel) (by decide +kernel)
set_option maxRecDepth 20000 in
theorem gX11_days_X5_goOn : GoodIn wsX11_days (wsV RX11 133 RX5 yX5_goOn wsX5_goOn) := goodIn_app (goodIn_of _ (by decide +kernel)) ggX11_days_X5_goOn
theorem dX11_days_0 : decode cX11_days 0 = .ok (.aload_n 0, 1) := by decide +kernel
theorem dX11_days_1 : decode cX11_days 1 = .ok (.getfield 12, 3) := by decide +kernel
theorem dX11_days_4 : decode cX11_days 4 = .ok (.iload_n 1, 1) := by decide +kernel
theorem dX11_days_5 : decode cX11_days 5 = .ok (.invokevirtual 133, 3) := by decide +kernel
theorem dX11_days_8 : decode cX11_days 8 = .ok (.ireturn, 1) := by decide +kernel
set_option maxRecDepth 20000 in
theorem ggX11_mean_X4_numbers : GoodIn wsX11_mean wsX4_numbers := goodIn_r _ [6, 7, 8, 9, 10, 5, 11, 12, 13, 14, 15, 16, 17, 18, 19, 20, 21, 22, 23, 53, 54, 55] (by decide +kernel) (by decide +kernel)
set_option maxRecDepth 20000 in
theorem gX11_mean_X4_numbers : GoodIn wsX11_mean (wsV RX11 136 RX4 yX4_numbers wsX4_numbers) := goodIn_app (goodIn_of _ (by decide +kernel)) ggX11_mean_X4_numbers
set_option maxRecDepth 20000 in
theorem ggX11_mean_X5_people : GoodIn wsX11_mean wsX5_people := goodIn_r _ [28, 29, 46, 47, 48, 49, 50, 51, 52, 53, 54, 55] (by decide +kernel) (by decide +kernel)
set_option maxRecDepth 20000 in
theorem gX11_mean_X5_people : GoodIn wsX11_mean (wsV RX11 139 RX5 yX5_people wsX5_people) := goodIn_app (goodIn_of _ (by decide +kernel)) ggX11_mean_X5_people
set_option maxRecDepth 20000 in
theorem ggX11_mean_X11_fraction : GoodIn wsX11_mean wsX11_fraction := goodIn_r _ [33, 34, 35, 36, 32, 37] (by decide +kernel) (by decide +kernel)
set_option maxRecDepth 20000 in
theorem gX11_mean_X11_fraction : GoodIn wsX11_mean (va_wsS RX11 142 yX11_fraction wsX11_fraction) := goodIn_app (goodIn_of _ (by decide +kernel)) ggX11_mean_X11_fraction
theorem dX11_mean_0 : decode cX11_mean 0 = .ok (.aload_n 0, 1) := by decide +kernel
theorem dX11_mean_1 : decode cX11_mean 1 = .ok (.getfield 12, 3) := by decide +kernel
theorem dX11_mean_4 : decode cX11_mean 4 = .ok (.getfield 80, 3) := by decide +kernel
theorem dX11_mean_7 : decode cX11_mean 7 = .ok (.invokevirtual 136, 3) := by decide +kernel
theorem dX11_mean_10 : decode cX11_mean 10 = .ok (.i2l, 1) := by decide +kernel
theorem dX11_mean_11 : decode cX11_mean 11 = .ok (.aload_n 0, 1) := by decide +kernel
theorem dX11_mean_12 : decode cX11_mean 12 = .ok (.getfield 12, 3) := by decide +kernel
theorem dX11_mean_15 : decode cX11_mean 15 = .ok (.invokevirtual 139, 3) := by decide +kernel
theorem dX11_mean_18 : decode cX11_mean 18 = .ok (.i2l, 1) := by decide +kernel
theorem dX11_mean_19 : decode cX11_mean 19 = .ok (.iload_n 1, 1) := by decide +kernel
theorem dX11_mean_20 : decode cX11_mean 20 = .ok (.invokestatic 142, 3) := by decide +kernel
theorem dX11_mean_23 : decode cX11_mean 23 = .ok (.lreturn, 1) := by decide +kernel
set_option maxRecDepth 20000 in
theorem ggX11_known_X4_numbersOfEnds : GoodIn wsX11_known wsX4_numbersOfEnds := goodIn_r _ [8, 9, 10, 11, 12, 7, 13, 14, 15, 16, 17, 18, 19, 20, 21, 22, 23, 24, 25, 75, 76, 77] (by decide +kernel) (by decide +kernel)
set_option maxRecDepth 20000 in
theorem gX11_known_X4_numbersOfEnds : GoodIn wsX11_known (wsV RX11 146 RX4 yX4_numbersOfEnds wsX4_numbersOfEnds) := goodIn_app (goodIn_of _ (by decide +kernel)) ggX11_known_X4_numbersOfEnds
set_option maxRecDepth 20000 in
theorem ggX11_known_X4_numbers : GoodIn wsX11_known wsX4_numbers := goodIn_r _ [29, 9, 10, 11, 12, 7, 13, 14, 15, 16, 17, 18, 19, 20, 21, 22, 23, 24, 25, 75, 76, 77] (by decide +kernel) (by decide +kernel)
set_option maxRecDepth 20000 in
theorem gX11_known_X4_numbers : GoodIn wsX11_known (wsV RX11 136 RX4 yX4_numbers wsX4_numbers) := goodIn_app (goodIn_of _ (by decide +kernel)) ggX11_known_X4_numbers
set_option maxRecDepth 20000 in
theorem ggX11_known_X11_fraction : GoodIn wsX11_known wsX11_fraction := goodIn_r _ [33, 3, 34, 35, 32, 36] (by decide +kernel) (by decide +kernel)
set_option maxRecDepth 20000 in
theorem gX11_known_X11_fraction : GoodIn wsX11_known (va_wsS RX11 142 yX11_fraction wsX11_fraction) := goodIn_app (goodIn_of _ (by decide +kernel)) ggX11_known_X11_fraction
set_option maxRecDepth 20000 in
theorem ggX11_known_X11_sharesAround : GoodIn wsX11_known wsX11_sharesAround := goodIn_r _ [40, 1, 41, 42, 43, 44, 45, 46, 47, 11, 12, 7, 13, 14, 15, 16, 17, 18, 19, 20, 21, 22, 23, 24, 25, 48, 49, 50, 51, 9, 52, 53, 54, 55, 10, 60, 61, 62, 63, 64, 65, 66, 67, 68, 69, 70, 71, 72, 73, 74, 75, 76, 77] (by decide +kernel) (by decide +kernel)
set_option maxRecDepth 20000 in
theorem gX11_known_X11_sharesAround : GoodIn wsX11_known (wsV RX11 149 RX11 yX11_sharesAround wsX11_sharesAround) := goodIn_app (goodIn_of _ (by decide +kernel)) ggX11_known_X11_sharesAround
set_option maxRecDepth 20000 in
theorem ggX11_known_X4_sociable : GoodIn wsX11_known wsX4_sociable := goodIn_r _ [59, 9, 10, 11, 12, 7, 13, 14, 15, 16, 17, 18, 19, 20, 21, 22, 23, 24, 25, 75, 76, 77] (by decide +kernel) (by decide +kernel)
set_option maxRecDepth 20000 in
theorem gX11_known_X4_sociable : GoodIn wsX11_known (wsV RX11 155 RX4 yX4_sociable wsX4_sociable) := goodIn_app (goodIn_of _ (by decide +kernel)) ggX11_known_X4_sociable
theorem dX11_known_0 : decode cX11_known 0 = .ok (.iload_n 1, 1) := by decide +kernel
theorem dX11_known_1 : decode cX11_known 1 = .ok (.lookupswitch 78 #[(0, 27), (1, 54)], 27) := by decide +kernel
theorem dX11_known_28 : decode cX11_known 28 = .ok (.aload_n 0, 1) := by decide +kernel
theorem dX11_known_29 : decode cX11_known 29 = .ok (.getfield 12, 3) := by decide +kernel
theorem dX11_known_32 : decode cX11_known 32 = .ok (.getfield 80, 3) := by decide +kernel
theorem dX11_known_35 : decode cX11_known 35 = .ok (.invokevirtual 146, 3) := by decide +kernel
theorem dX11_known_38 : decode cX11_known 38 = .ok (.i2l, 1) := by decide +kernel
theorem dX11_known_39 : decode cX11_known 39 = .ok (.aload_n 0, 1) := by decide +kernel
theorem dX11_known_40 : decode cX11_known 40 = .ok (.getfield 12, 3) := by decide +kernel
theorem dX11_known_43 : decode cX11_known 43 = .ok (.getfield 80, 3) := by decide +kernel
theorem dX11_known_46 : decode cX11_known 46 = .ok (.invokevirtual 136, 3) := by decide +kernel
theorem dX11_known_49 : decode cX11_known 49 = .ok (.i2l, 1) := by decide +kernel
theorem dX11_known_50 : decode cX11_known 50 = .ok (.iload_n 2, 1) := by decide +kernel
theorem dX11_known_51 : decode cX11_known 51 = .ok (.invokestatic 142, 3) := by decide +kernel
theorem dX11_known_54 : decode cX11_known 54 = .ok (.lreturn, 1) := by decide +kernel
theorem dX11_known_55 : decode cX11_known 55 = .ok (.aload_n 0, 1) := by decide +kernel
theorem dX11_known_56 : decode cX11_known 56 = .ok (.invokevirtual 149, 3) := by decide +kernel
theorem dX11_known_59 : decode cX11_known 59 = .ok (.ldc2_w 153, 3) := by decide +kernel
theorem dX11_known_62 : decode cX11_known 62 = .ok (.aload_n 0, 1) := by decide +kernel
theorem dX11_known_63 : decode cX11_known 63 = .ok (.getfield 12, 3) := by decide +kernel
theorem dX11_known_66 : decode cX11_known 66 = .ok (.getfield 80, 3) := by decide +kernel
theorem dX11_known_69 : decode cX11_known 69 = .ok (.invokevirtual 155, 3) := by decide +kernel
theorem dX11_known_72 : decode cX11_known 72 = .ok (.i2l, 1) := by decide +kernel
theorem dX11_known_73 : decode cX11_known 73 = .ok (.lmul, 1) := by decide +kernel
theorem dX11_known_74 : decode cX11_known 74 = .ok (.iload_n 2, 1) := by decide +kernel
theorem dX11_known_75 : decode cX11_known 75 = .ok (.invokestatic 142, 3) := by decide +kernel
theorem dX11_known_78 : decode cX11_known 78 = .ok (.lreturn, 1) := by decide +kernel
theorem dX11_known_79 : decode cX11_known 79 = .ok (.ldc2_w 158, 3) := by decide +kernel
theorem dX11_known_82 : decode cX11_known 82 = .ok (.lreturn, 1) := by decide +kernel
set_option maxRecDepth 20000 in
theorem ggX11_feels_X4_feelers : GoodIn wsX11_feels wsX4_feelers := goodIn_r _ [6, 7, 8, 9, 10, 5, 11, 12, 13, 14, 15, 16, 17, 18, 19, 20, 21, 22, 23, 24, 25, 26, 27, 28, 29, 30, 31, 47, 48, 49] (by decide +kernel) (by decide +kernel)
set_option maxRecDepth 20000 in
theorem gX11_feels_X4_feelers : GoodIn wsX11_feels (wsV RX11 112 RX4 yX4_feelers wsX4_feelers) := goodIn_app (goodIn_of _ (by decide +kernel)) ggX11_feels_X4_feelers
theorem dX11_feels_0 : decode cX11_feels 0 = .ok (.aload_n 0, 1) := by decide +kernel
theorem dX11_feels_1 : decode cX11_feels 1 = .ok (.getfield 12, 3) := by decide +kernel
theorem dX11_feels_4 : decode cX11_feels 4 = .ok (.getfield 80, 3) := by decide +kernel
theorem dX11_feels_7 : decode cX11_feels 7 = .ok (.invokevirtual 112, 3) := by decide +kernel
theorem dX11_feels_10 : decode cX11_feels 10 = .ok (.ireturn, 1) := by decide +kernel
set_option maxRecDepth 20000 in
theorem ggX11_fall_X4_bestTurn : GoodIn wsX11_fall wsX4_bestTurn := goodIn_r _ [6, 7, 8, 9, 10, 5, 11, 12, 13, 14, 15, 16, 17, 18, 19, 20, 21, 22, 23, 24, 25, 26, 27, 28, 29, 30, 31, 32, 33, 34, 35, 36, 37, 38, 39, 55, 56, 57] (by decide +kernel) (by decide +kernel)
set_option maxRecDepth 20000 in
theorem gX11_fall_X4_bestTurn : GoodIn wsX11_fall (wsV RX11 160 RX4 yX4_bestTurn wsX4_bestTurn) := goodIn_app (goodIn_of _ (by decide +kernel)) ggX11_fall_X4_bestTurn
theorem dX11_fall_0 : decode cX11_fall 0 = .ok (.iload_n 1, 1) := by decide +kernel
theorem dX11_fall_1 : decode cX11_fall 1 = .ok (.ifCond .eq 8, 3) := by decide +kernel
theorem dX11_fall_4 : decode cX11_fall 4 = .ok (.iload_n 1, 1) := by decide +kernel
theorem dX11_fall_5 : decode cX11_fall 5 = .ok (.iconst 1, 1) := by decide +kernel
theorem dX11_fall_6 : decode cX11_fall 6 = .ok (.if_icmp .ne 25, 3) := by decide +kernel
theorem dX11_fall_9 : decode cX11_fall 9 = .ok (.aload_n 0, 1) := by decide +kernel
theorem dX11_fall_10 : decode cX11_fall 10 = .ok (.getfield 12, 3) := by decide +kernel
theorem dX11_fall_13 : decode cX11_fall 13 = .ok (.getfield 80, 3) := by decide +kernel
theorem dX11_fall_16 : decode cX11_fall 16 = .ok (.iload_n 1, 1) := by decide +kernel
theorem dX11_fall_17 : decode cX11_fall 17 = .ok (.ifCond .ne 7, 3) := by decide +kernel
theorem dX11_fall_20 : decode cX11_fall 20 = .ok (.iconst 1, 1) := by decide +kernel
theorem dX11_fall_21 : decode cX11_fall 21 = .ok (.goto 4, 3) := by decide +kernel
theorem dX11_fall_24 : decode cX11_fall 24 = .ok (.iconst 0, 1) := by decide +kernel
theorem dX11_fall_25 : decode cX11_fall 25 = .ok (.invokevirtual 160, 3) := by decide +kernel
theorem dX11_fall_28 : decode cX11_fall 28 = .ok (.goto 4, 3) := by decide +kernel
theorem dX11_fall_31 : decode cX11_fall 31 = .ok (.iconst (-1), 1) := by decide +kernel
theorem dX11_fall_32 : decode cX11_fall 32 = .ok (.ireturn, 1) := by decide +kernel
set_option maxRecDepth 20000 in
theorem ggX11_far_X5_has : GoodIn wsX11_far wsX5_has := goodIn_r _ [6, 7, 31, 32, 33, 34, 35, 36, 37, 38, 39, 40] (by decide +kernel) (by decide +kernel)
set_option maxRecDepth 20000 in
theorem gX11_far_X5_has : GoodIn wsX11_far (wsV RX11 70 RX5 yX5_has wsX5_has) := goodIn_app (goodIn_of _ (by decide +kernel)) ggX11_far_X5_has
set_option maxRecDepth 20000 in
theorem ggX11_far_X4_way : GoodIn wsX11_far wsX4_way := goodIn_r _ [12, 13, 14, 15, 11, 16, 17, 18, 19, 20, 21, 22, 38, 39, 40] (by decide +kernel) (by decide +kernel)
set_option maxRecDepth 20000 in
theorem gX11_far_X4_way : GoodIn wsX11_far (wsV RX11 164 RX4 yX4_way wsX4_way) := goodIn_app (goodIn_of _ (by decide +kernel)) ggX11_far_X4_way
theorem dX11_far_0 : decode cX11_far 0 = .ok (.aload_n 0, 1) := by decide +kernel
theorem dX11_far_1 : decode cX11_far 1 = .ok (.getfield 12, 3) := by decide +kernel
theorem dX11_far_4 : decode cX11_far 4 = .ok (.iload_n 1, 1) := by decide +kernel
theorem dX11_far_5 : decode cX11_far 5 = .ok (.invokevirtual 70, 3) := by decide +kernel
theorem dX11_far_8 : decode cX11_far 8 = .ok (.ifCond .eq 29, 3) := by decide +kernel
theorem dX11_far_11 : decode cX11_far 11 = .ok (.aload_n 0, 1) := by decide +kernel
theorem dX11_far_12 : decode cX11_far 12 = .ok (.getfield 12, 3) := by decide +kernel
theorem dX11_far_15 : decode cX11_far 15 = .ok (.iload_n 2, 1) := by decide +kernel
theorem dX11_far_16 : decode cX11_far 16 = .ok (.invokevirtual 70, 3) := by decide +kernel
theorem dX11_far_19 : decode cX11_far 19 = .ok (.ifCond .eq 18, 3) := by decide +kernel
theorem dX11_far_22 : decode cX11_far 22 = .ok (.aload_n 0, 1) := by decide +kernel
theorem dX11_far_23 : decode cX11_far 23 = .ok (.getfield 12, 3) := by decide +kernel
theorem dX11_far_26 : decode cX11_far 26 = .ok (.getfield 80, 3) := by decide +kernel
theorem dX11_far_29 : decode cX11_far 29 = .ok (.iload_n 1, 1) := by decide +kernel
theorem dX11_far_30 : decode cX11_far 30 = .ok (.iload_n 2, 1) := by decide +kernel
theorem dX11_far_31 : decode cX11_far 31 = .ok (.invokevirtual 164, 3) := by decide +kernel
theorem dX11_far_34 : decode cX11_far 34 = .ok (.goto 4, 3) := by decide +kernel
theorem dX11_far_37 : decode cX11_far 37 = .ok (.iconst (-1), 1) := by decide +kernel
theorem dX11_far_38 : decode cX11_far 38 = .ok (.ireturn, 1) := by decide +kernel
set_option maxRecDepth 20000 in
theorem ggX11_wide_X4_widest : GoodIn wsX11_wide wsX4_widest := goodIn_r _ [6, 7, 8, 9, 10, 11, 12, 13, 14, 5, 15, 16, 17, 18, 19, 20, 21, 22, 23, 24, 57, 58, 59] (by decide +kernel) (by decide +kernel)
set_option maxRecDepth 20000 in
theorem gX11_wide_X4_widest : GoodIn wsX11_wide (wsV RX11 167 RX4 yX4_widest wsX4_widest) := goodIn_app (goodIn_of _ (by decide +kernel)) ggX11_wide_X4_widest
set_option maxRecDepth 20000 in
theorem ggX11_wide_X4_parts : GoodIn wsX11_wide wsX4_parts := goodIn_r _ [28, 7, 16, 17, 18, 5, 19, 20, 21, 22, 23, 24, 57, 58, 59] (by decide +kernel) (by decide +kernel)
set_option maxRecDepth 20000 in
theorem gX11_wide_X4_parts : GoodIn wsX11_wide (wsV RX11 170 RX4 yX4_parts wsX4_parts) := goodIn_app (goodIn_of _ (by decide +kernel)) ggX11_wide_X4_parts
set_option maxRecDepth 20000 in
theorem ggX11_wide_X4_bridges : GoodIn wsX11_wide wsX4_bridges := goodIn_r _ [32, 7, 33, 26, 27, 5, 28, 16, 17, 18, 19, 20, 21, 22, 23, 24, 34, 35, 36, 37, 38, 39, 40, 41, 57, 58, 59] (by decide +kernel) (by decide +kernel)
set_option maxRecDepth 20000 in
theorem gX11_wide_X4_bridges : GoodIn wsX11_wide (wsV RX11 173 RX4 yX4_bridges wsX4_bridges) := goodIn_app (goodIn_of _ (by decide +kernel)) ggX11_wide_X4_bridges
theorem dX11_wide_0 : decode cX11_wide 0 = .ok (.iload_n 1, 1) := by decide +kernel
theorem dX11_wide_1 : decode cX11_wide 1 = .ok (.tableswitch 60 0 2 #[27, 38, 49], 27) := by decide +kernel
theorem dX11_wide_28 : decode cX11_wide 28 = .ok (.aload_n 0, 1) := by decide +kernel
theorem dX11_wide_29 : decode cX11_wide 29 = .ok (.getfield 12, 3) := by decide +kernel
theorem dX11_wide_32 : decode cX11_wide 32 = .ok (.getfield 80, 3) := by decide +kernel
theorem dX11_wide_35 : decode cX11_wide 35 = .ok (.invokevirtual 167, 3) := by decide +kernel
theorem dX11_wide_38 : decode cX11_wide 38 = .ok (.ireturn, 1) := by decide +kernel
theorem dX11_wide_39 : decode cX11_wide 39 = .ok (.aload_n 0, 1) := by decide +kernel
theorem dX11_wide_40 : decode cX11_wide 40 = .ok (.getfield 12, 3) := by decide +kernel
theorem dX11_wide_43 : decode cX11_wide 43 = .ok (.getfield 80, 3) := by decide +kernel
theorem dX11_wide_46 : decode cX11_wide 46 = .ok (.invokevirtual 170, 3) := by decide +kernel
theorem dX11_wide_49 : decode cX11_wide 49 = .ok (.ireturn, 1) := by decide +kernel
theorem dX11_wide_50 : decode cX11_wide 50 = .ok (.aload_n 0, 1) := by decide +kernel
theorem dX11_wide_51 : decode cX11_wide 51 = .ok (.getfield 12, 3) := by decide +kernel
theorem dX11_wide_54 : decode cX11_wide 54 = .ok (.getfield 80, 3) := by decide +kernel
theorem dX11_wide_57 : decode cX11_wide 57 = .ok (.invokevirtual 173, 3) := by decide +kernel
theorem dX11_wide_60 : decode cX11_wide 60 = .ok (.ireturn, 1) := by decide +kernel
theorem dX11_wide_61 : decode cX11_wide 61 = .ok (.iconst (-1), 1) := by decide +kernel
theorem dX11_wide_62 : decode cX11_wide 62 = .ok (.ireturn, 1) := by decide +kernel
set_option maxRecDepth 20000 in
theorem ggX11_stamps_X5_people : GoodIn wsX11_stamps wsX5_people := goodIn_r _ [6, 7, 125, 126, 127, 128, 129, 130, 131, 132, 133, 134] (by decide +kernel) (by decide +kernel)
set_option maxRecDepth 20000 in
theorem gX11_stamps_X5_people : GoodIn wsX11_stamps (wsV RX11 139 RX5 yX5_people wsX5_people) := goodIn_app (goodIn_of _ (by decide +kernel)) ggX11_stamps_X5_people
set_option maxRecDepth 20000 in
theorem ggX11_stamps_J6_bitCount_0f7a4 : GoodIn wsX11_stamps wsJ6_bitCount_0f7a4 := goodIn_r _ [11, 12, 13, 14] (by decide +kernel) (by decide +kernel)
set_option maxRecDepth 20000 in
theorem gX11_stamps_J6_bitCount_0f7a4 : GoodIn wsX11_stamps (va_wsS RX11 176 yJ6_bitCount_0f7a4 wsJ6_bitCount_0f7a4) := goodIn_app (goodIn_of _ (by decide +kernel)) ggX11_stamps_J6_bitCount_0f7a4
set_option maxRecDepth 20000 in
theorem ggX11_stamps_X5_behind : GoodIn wsX11_stamps wsX5_behind := goodIn_r _ [18, 19, 20, 21, 22, 5, 23, 7, 24, 25, 3, 4, 6, 26, 27, 28, 29, 30, 31, 32, 33, 34, 35, 36, 37, 38, 39, 40, 41, 42, 43, 44, 45, 46, 47, 48, 49, 50, 51, 52, 53, 54, 55, 56, 57, 58, 59, 60, 61, 62, 63, 64, 65, 66, 67, 68, 69, 70, 71, 72, 73, 74, 75, 76, 77, 78, 79, 80, 81, 82, 83, 84, 85, 86, 87, 88, 89, 90, 91, 92, 93, 94, 95, 96, 97, 98, 9, 10, 11, 12, 13, 14, 99, 100, 101, 102, 103, 104, 105, 106, 107, 108, 109, 110, 111, 112, 113, 114, 115, 116, 125, 126, 127, 128, 129, 130, 131, 132, 133, 134] (by decide +kernel) (by decide +kernel)
set_option maxRecDepth 20000 in
theorem gX11_stamps_X5_behind : GoodIn wsX11_stamps (wsV RX11 184 RX5 yX5_behind wsX5_behind) := goodIn_app (goodIn_of _ (by decide +kernel)) ggX11_stamps_X5_behind
theorem dX11_stamps_0 : decode cX11_stamps 0 = .ok (.iload_n 1, 1) := by decide +kernel
theorem dX11_stamps_1 : decode cX11_stamps 1 = .ok (.iconst 1, 1) := by decide +kernel
theorem dX11_stamps_2 : decode cX11_stamps 2 = .ok (.if_icmp .lt 27, 3) := by decide +kernel
theorem dX11_stamps_5 : decode cX11_stamps 5 = .ok (.iload_n 1, 1) := by decide +kernel
theorem dX11_stamps_6 : decode cX11_stamps 6 = .ok (.iconst 4, 1) := by decide +kernel
theorem dX11_stamps_7 : decode cX11_stamps 7 = .ok (.if_icmp .gt 22, 3) := by decide +kernel
theorem dX11_stamps_10 : decode cX11_stamps 10 = .ok (.iload_n 2, 1) := by decide +kernel
theorem dX11_stamps_11 : decode cX11_stamps 11 = .ok (.ifCond .lt 18, 3) := by decide +kernel
theorem dX11_stamps_14 : decode cX11_stamps 14 = .ok (.iload_n 2, 1) := by decide +kernel
theorem dX11_stamps_15 : decode cX11_stamps 15 = .ok (.bipush 30, 2) := by decide +kernel
theorem dX11_stamps_17 : decode cX11_stamps 17 = .ok (.if_icmp .gt 12, 3) := by decide +kernel
theorem dX11_stamps_20 : decode cX11_stamps 20 = .ok (.iload_n 3, 1) := by decide +kernel
theorem dX11_stamps_21 : decode cX11_stamps 21 = .ok (.ifCond .lt 8, 3) := by decide +kernel
theorem dX11_stamps_24 : decode cX11_stamps 24 = .ok (.iload_n 3, 1) := by decide +kernel
theorem dX11_stamps_25 : decode cX11_stamps 25 = .ok (.iconst 1, 1) := by decide +kernel
theorem dX11_stamps_26 : decode cX11_stamps 26 = .ok (.if_icmp .le 5, 3) := by decide +kernel
theorem dX11_stamps_29 : decode cX11_stamps 29 = .ok (.iconst (-1), 1) := by decide +kernel
theorem dX11_stamps_30 : decode cX11_stamps 30 = .ok (.ireturn, 1) := by decide +kernel
theorem dX11_stamps_31 : decode cX11_stamps 31 = .ok (.iconst 0, 1) := by decide +kernel
theorem dX11_stamps_32 : decode cX11_stamps 32 = .ok (.istore 4, 2) := by decide +kernel
theorem dX11_stamps_34 : decode cX11_stamps 34 = .ok (.iconst 0, 1) := by decide +kernel
theorem dX11_stamps_35 : decode cX11_stamps 35 = .ok (.istore 5, 2) := by decide +kernel
theorem dX11_stamps_37 : decode cX11_stamps 37 = .ok (.iconst 1, 1) := by decide +kernel
theorem dX11_stamps_38 : decode cX11_stamps 38 = .ok (.istore 6, 2) := by decide +kernel
theorem dX11_stamps_40 : decode cX11_stamps 40 = .ok (.iload 6, 2) := by decide +kernel
theorem dX11_stamps_42 : decode cX11_stamps 42 = .ok (.iconst 1, 1) := by decide +kernel
theorem dX11_stamps_43 : decode cX11_stamps 43 = .ok (.aload_n 0, 1) := by decide +kernel
theorem dX11_stamps_44 : decode cX11_stamps 44 = .ok (.getfield 12, 3) := by decide +kernel
theorem dX11_stamps_47 : decode cX11_stamps 47 = .ok (.invokevirtual 139, 3) := by decide +kernel
theorem dX11_stamps_50 : decode cX11_stamps 50 = .ok (.ishl, 1) := by decide +kernel
theorem dX11_stamps_51 : decode cX11_stamps 51 = .ok (.if_icmp .ge 70, 3) := by decide +kernel
theorem dX11_stamps_54 : decode cX11_stamps 54 = .ok (.iload 6, 2) := by decide +kernel
theorem dX11_stamps_56 : decode cX11_stamps 56 = .ok (.invokestatic 176, 3) := by decide +kernel
theorem dX11_stamps_59 : decode cX11_stamps 59 = .ok (.iload_n 1, 1) := by decide +kernel
theorem dX11_stamps_60 : decode cX11_stamps 60 = .ok (.if_icmp .ne 55, 3) := by decide +kernel
theorem dX11_stamps_63 : decode cX11_stamps 63 = .ok (.iload 6, 2) := by decide +kernel
theorem dX11_stamps_65 : decode cX11_stamps 65 = .ok (.aload_n 0, 1) := by decide +kernel
theorem dX11_stamps_66 : decode cX11_stamps 66 = .ok (.getfield 12, 3) := by decide +kernel
theorem dX11_stamps_69 : decode cX11_stamps 69 = .ok (.getfield 181, 3) := by decide +kernel
theorem dX11_stamps_72 : decode cX11_stamps 72 = .ok (.iand, 1) := by decide +kernel
theorem dX11_stamps_73 : decode cX11_stamps 73 = .ok (.ifCond .ne 42, 3) := by decide +kernel
theorem dX11_stamps_76 : decode cX11_stamps 76 = .ok (.aload_n 0, 1) := by decide +kernel
theorem dX11_stamps_77 : decode cX11_stamps 77 = .ok (.getfield 12, 3) := by decide +kernel
theorem dX11_stamps_80 : decode cX11_stamps 80 = .ok (.aload_n 0, 1) := by decide +kernel
theorem dX11_stamps_81 : decode cX11_stamps 81 = .ok (.getfield 12, 3) := by decide +kernel
theorem dX11_stamps_84 : decode cX11_stamps 84 = .ok (.getfield 92, 3) := by decide +kernel
theorem dX11_stamps_87 : decode cX11_stamps 87 = .ok (.iload 6, 2) := by decide +kernel
theorem dX11_stamps_89 : decode cX11_stamps 89 = .ok (.ior, 1) := by decide +kernel
theorem dX11_stamps_90 : decode cX11_stamps 90 = .ok (.iload_n 2, 1) := by decide +kernel
theorem dX11_stamps_91 : decode cX11_stamps 91 = .ok (.iconst 0, 1) := by decide +kernel
theorem dX11_stamps_92 : decode cX11_stamps 92 = .ok (.invokevirtual 184, 3) := by decide +kernel
theorem dX11_stamps_95 : decode cX11_stamps 95 = .ok (.invokestatic 176, 3) := by decide +kernel
theorem dX11_stamps_98 : decode cX11_stamps 98 = .ok (.istore 7, 2) := by decide +kernel
theorem dX11_stamps_100 : decode cX11_stamps 100 = .ok (.iload 7, 2) := by decide +kernel
theorem dX11_stamps_102 : decode cX11_stamps 102 = .ok (.iload 5, 2) := by decide +kernel
theorem dX11_stamps_104 : decode cX11_stamps 104 = .ok (.if_icmp .le 11, 3) := by decide +kernel
theorem dX11_stamps_107 : decode cX11_stamps 107 = .ok (.iload 6, 2) := by decide +kernel
theorem dX11_stamps_109 : decode cX11_stamps 109 = .ok (.istore 4, 2) := by decide +kernel
theorem dX11_stamps_111 : decode cX11_stamps 111 = .ok (.iload 7, 2) := by decide +kernel
theorem dX11_stamps_113 : decode cX11_stamps 113 = .ok (.istore 5, 2) := by decide +kernel
theorem dX11_stamps_115 : decode cX11_stamps 115 = .ok (.iinc 6 1, 3) := by decide +kernel
theorem dX11_stamps_118 : decode cX11_stamps 118 = .ok (.goto (-78), 3) := by decide +kernel
theorem dX11_stamps_121 : decode cX11_stamps 121 = .ok (.iload_n 3, 1) := by decide +kernel
theorem dX11_stamps_122 : decode cX11_stamps 122 = .ok (.ifCond .ne 8, 3) := by decide +kernel
theorem dX11_stamps_125 : decode cX11_stamps 125 = .ok (.iload 4, 2) := by decide +kernel
theorem dX11_stamps_127 : decode cX11_stamps 127 = .ok (.goto 5, 3) := by decide +kernel
theorem dX11_stamps_130 : decode cX11_stamps 130 = .ok (.iload 5, 2) := by decide +kernel
theorem dX11_stamps_132 : decode cX11_stamps 132 = .ok (.ireturn, 1) := by decide +kernel
set_option maxRecDepth 20000 in
theorem ggX11_then_X5_behind : GoodIn wsX11_then wsX5_behind := goodIn_r _ [6, 7, 8, 9, 10, 5, 11, 12, 13, 14, 15, 16, 17, 18, 19, 20, 21, 22, 23, 24, 25, 26, 27, 28, 29, 30, 31, 32, 33, 34, 35, 36, 37, 38, 39, 40, 41, 42, 43, 44, 45, 46, 47, 48, 49, 50, 51, 52, 53, 54, 55, 56, 57, 58, 59, 60, 61, 62, 63, 64, 65, 66, 67, 68, 69, 70, 71, 72, 73, 74, 75, 76, 77, 78, 79, 80, 81, 82, 83, 84, 85, 86, 87, 88, 89, 90, 91, 92, 93, 94, 95, 96, 97, 98, 99, 100, 101, 102, 103, 104, 105, 106, 107, 108, 109, 110, 111, 112, 113, 114, 123, 124, 125, 126, 127, 128, 129, 130, 131, 132] (by decide +kernel) (by decide +kernel)
set_option maxRecDepth 20000 in
theorem gX11_then_X5_behind : GoodIn wsX11_then (wsV RX11 184 RX5 yX5_behind wsX5_behind) := goodIn_app (goodIn_of _ (by decide +kernel)) ggX11_then_X5_behind
theorem dX11_then_0 : decode cX11_then 0 = .ok (.iload_n 1, 1) := by decide +kernel
theorem dX11_then_1 : decode cX11_then 1 = .ok (.ifCond .lt 9, 3) := by decide +kernel
theorem dX11_then_4 : decode cX11_then 4 = .ok (.iload_n 1, 1) := by decide +kernel
theorem dX11_then_5 : decode cX11_then 5 = .ok (.bipush 60, 2) := by decide +kernel
theorem dX11_then_7 : decode cX11_then 7 = .ok (.if_icmp .le 7, 3) := by decide +kernel
theorem dX11_then_10 : decode cX11_then 10 = .ok (.iconst (-1), 1) := by decide +kernel
theorem dX11_then_11 : decode cX11_then 11 = .ok (.goto 19, 3) := by decide +kernel
theorem dX11_then_14 : decode cX11_then 14 = .ok (.aload_n 0, 1) := by decide +kernel
theorem dX11_then_15 : decode cX11_then 15 = .ok (.getfield 12, 3) := by decide +kernel
theorem dX11_then_18 : decode cX11_then 18 = .ok (.aload_n 0, 1) := by decide +kernel
theorem dX11_then_19 : decode cX11_then 19 = .ok (.getfield 12, 3) := by decide +kernel
theorem dX11_then_22 : decode cX11_then 22 = .ok (.getfield 92, 3) := by decide +kernel
theorem dX11_then_25 : decode cX11_then 25 = .ok (.iload_n 1, 1) := by decide +kernel
theorem dX11_then_26 : decode cX11_then 26 = .ok (.iconst 0, 1) := by decide +kernel
theorem dX11_then_27 : decode cX11_then 27 = .ok (.invokevirtual 184, 3) := by decide +kernel
theorem dX11_then_30 : decode cX11_then 30 = .ok (.ireturn, 1) := by decide +kernel
set_option maxRecDepth 20000 in
theorem ggX11_hears_X5_has : GoodIn wsX11_hears wsX5_has := goodIn_r _ [6, 7, 122, 123, 124, 125, 126, 127, 128, 129, 130, 131] (by decide +kernel) (by decide +kernel)
set_option maxRecDepth 20000 in
theorem gX11_hears_X5_has : GoodIn wsX11_hears (wsV RX11 70 RX5 yX5_has wsX5_has) := goodIn_app (goodIn_of _ (by decide +kernel)) ggX11_hears_X5_has
set_option maxRecDepth 20000 in
theorem ggX11_hears_X5_nextHeard : GoodIn wsX11_hears wsX5_nextHeard := goodIn_r _ [11, 7, 12, 13, 14, 15, 5, 16, 17, 18, 19, 20, 21, 22, 23, 24, 25, 26, 27, 28, 29, 30, 31, 32, 33, 34, 35, 36, 37, 38, 39, 40, 41, 42, 43, 44, 45, 46, 47, 48, 49, 50, 51, 52, 53, 54, 55, 56, 57, 58, 59, 60, 61, 62, 63, 64, 65, 66, 67, 68, 69, 70, 71, 72, 73, 74, 75, 76, 77, 78, 79, 80, 81, 82, 83, 84, 85, 86, 87, 88, 89, 90, 91, 92, 93, 94, 95, 96, 97, 98, 99, 100, 101, 102, 103, 104, 105, 106, 107, 108, 109, 110, 111, 112, 113, 122, 123, 124, 125, 126, 127, 128, 129, 130, 131] (by decide +kernel) (by decide +kernel)
set_option maxRecDepth 20000 in
theorem gX11_hears_X5_nextHeard : GoodIn wsX11_hears (wsV RX11 188 RX5 yX5_nextHeard wsX5_nextHeard) := goodIn_app (goodIn_of _ (by decide +kernel)) ggX11_hears_X5_nextHeard
theorem dX11_hears_0 : decode cX11_hears 0 = .ok (.aload_n 0, 1) := by decide +kernel
theorem dX11_hears_1 : decode cX11_hears 1 = .ok (.getfield 12, 3) := by decide +kernel
theorem dX11_hears_4 : decode cX11_hears 4 = .ok (.iload_n 1, 1) := by decide +kernel
theorem dX11_hears_5 : decode cX11_hears 5 = .ok (.invokevirtual 70, 3) := by decide +kernel
theorem dX11_hears_8 : decode cX11_hears 8 = .ok (.ifCond .ne 5, 3) := by decide +kernel
theorem dX11_hears_11 : decode cX11_hears 11 = .ok (.iconst (-1), 1) := by decide +kernel
theorem dX11_hears_12 : decode cX11_hears 12 = .ok (.ireturn, 1) := by decide +kernel
theorem dX11_hears_13 : decode cX11_hears 13 = .ok (.aload_n 0, 1) := by decide +kernel
theorem dX11_hears_14 : decode cX11_hears 14 = .ok (.getfield 12, 3) := by decide +kernel
theorem dX11_hears_17 : decode cX11_hears 17 = .ok (.getfield 92, 3) := by decide +kernel
theorem dX11_hears_20 : decode cX11_hears 20 = .ok (.istore_n 2, 1) := by decide +kernel
theorem dX11_hears_21 : decode cX11_hears 21 = .ok (.iconst 0, 1) := by decide +kernel
theorem dX11_hears_22 : decode cX11_hears 22 = .ok (.istore_n 3, 1) := by decide +kernel
theorem dX11_hears_23 : decode cX11_hears 23 = .ok (.iload_n 3, 1) := by decide +kernel
theorem dX11_hears_24 : decode cX11_hears 24 = .ok (.bipush 60, 2) := by decide +kernel
theorem dX11_hears_26 : decode cX11_hears 26 = .ok (.if_icmp .gt 40, 3) := by decide +kernel
theorem dX11_hears_29 : decode cX11_hears 29 = .ok (.iload_n 2, 1) := by decide +kernel
theorem dX11_hears_30 : decode cX11_hears 30 = .ok (.iload_n 1, 1) := by decide +kernel
theorem dX11_hears_31 : decode cX11_hears 31 = .ok (.ishr, 1) := by decide +kernel
theorem dX11_hears_32 : decode cX11_hears 32 = .ok (.iconst 1, 1) := by decide +kernel
theorem dX11_hears_33 : decode cX11_hears 33 = .ok (.iand, 1) := by decide +kernel
theorem dX11_hears_34 : decode cX11_hears 34 = .ok (.ifCond .eq 5, 3) := by decide +kernel
theorem dX11_hears_37 : decode cX11_hears 37 = .ok (.iload_n 3, 1) := by decide +kernel
theorem dX11_hears_38 : decode cX11_hears 38 = .ok (.ireturn, 1) := by decide +kernel
theorem dX11_hears_39 : decode cX11_hears 39 = .ok (.aload_n 0, 1) := by decide +kernel
theorem dX11_hears_40 : decode cX11_hears 40 = .ok (.getfield 12, 3) := by decide +kernel
theorem dX11_hears_43 : decode cX11_hears 43 = .ok (.iload_n 2, 1) := by decide +kernel
theorem dX11_hears_44 : decode cX11_hears 44 = .ok (.aload_n 0, 1) := by decide +kernel
theorem dX11_hears_45 : decode cX11_hears 45 = .ok (.getfield 12, 3) := by decide +kernel
theorem dX11_hears_48 : decode cX11_hears 48 = .ok (.getfield 100, 3) := by decide +kernel
theorem dX11_hears_51 : decode cX11_hears 51 = .ok (.iload_n 3, 1) := by decide +kernel
theorem dX11_hears_52 : decode cX11_hears 52 = .ok (.iadd, 1) := by decide +kernel
theorem dX11_hears_53 : decode cX11_hears 53 = .ok (.iconst 1, 1) := by decide +kernel
theorem dX11_hears_54 : decode cX11_hears 54 = .ok (.iadd, 1) := by decide +kernel
theorem dX11_hears_55 : decode cX11_hears 55 = .ok (.iconst 0, 1) := by decide +kernel
theorem dX11_hears_56 : decode cX11_hears 56 = .ok (.invokevirtual 188, 3) := by decide +kernel
theorem dX11_hears_59 : decode cX11_hears 59 = .ok (.istore_n 2, 1) := by decide +kernel
theorem dX11_hears_60 : decode cX11_hears 60 = .ok (.iinc 3 1, 3) := by decide +kernel
theorem dX11_hears_63 : decode cX11_hears 63 = .ok (.goto (-40), 3) := by decide +kernel
theorem dX11_hears_66 : decode cX11_hears 66 = .ok (.bipush (-4), 2) := by decide +kernel
theorem dX11_hears_68 : decode cX11_hears 68 = .ok (.ireturn, 1) := by decide +kernel
set_option maxRecDepth 20000 in
theorem ggX11_asked_X5_has : GoodIn wsX11_asked wsX5_has := goodIn_r _ [9, 10, 60, 61, 62, 63, 64, 65, 66, 67, 68, 69] (by decide +kernel) (by decide +kernel)
set_option maxRecDepth 20000 in
theorem gX11_asked_X5_has : GoodIn wsX11_asked (wsV RX11 70 RX5 yX5_has wsX5_has) := goodIn_app (goodIn_of _ (by decide +kernel)) ggX11_asked_X5_has
set_option maxRecDepth 20000 in
theorem ggX11_asked_J7_fill_d0a16 : GoodIn wsX11_asked wsJ7_fill_d0a16 := goodIn_r _ [14] (by decide +kernel) (by decide +kernel)
set_option maxRecDepth 20000 in
theorem gX11_asked_J7_fill_d0a16 : GoodIn wsX11_asked (va_wsS RX11 191 yJ7_fill_d0a16 wsJ7_fill_d0a16) := goodIn_app (goodIn_of _ (by decide +kernel)) ggX11_asked_J7_fill_d0a16
set_option maxRecDepth 20000 in
theorem ggX11_asked_X11_askOn : GoodIn wsX11_asked wsX11_askOn := goodIn_r _ [19, 20, 1, 3, 4, 21, 22, 23, 24, 11, 12, 13, 14, 25, 26, 27, 28, 29, 30, 31, 32, 33, 34, 35, 36, 37, 38, 39, 40, 41, 42, 43, 44, 45, 52, 53, 54, 55, 56, 57, 58, 59, 60, 61, 62, 63, 64, 65, 66, 67, 68, 69] (by decide +kernel) (by decide +kernel)
set_option maxRecDepth 20000 in
theorem gX11_asked_X11_askOn : GoodIn wsX11_asked (wsV RX11 197 RX11 yX11_askOn wsX11_askOn) := goodIn_app (goodIn_of _ (by decide +kernel)) ggX11_asked_X11_askOn
set_option maxRecDepth 20000 in
theorem ggX11_asked_X11_fraction : GoodIn wsX11_asked wsX11_fraction := goodIn_r _ [48, 2, 49, 50, 18, 51] (by decide +kernel) (by decide +kernel)
set_option maxRecDepth 20000 in
theorem gX11_asked_X11_fraction : GoodIn wsX11_asked (va_wsS RX11 142 yX11_fraction wsX11_fraction) := goodIn_app (goodIn_of _ (by decide +kernel)) ggX11_asked_X11_fraction
theorem dX11_asked_0 : decode cX11_asked 0 = .ok (.aload_n 0, 1) := by decide +kernel
theorem dX11_asked_1 : decode cX11_asked 1 = .ok (.getfield 12, 3) := by decide +kernel
theorem dX11_asked_4 : decode cX11_asked 4 = .ok (.iload_n 1, 1) := by decide +kernel
theorem dX11_asked_5 : decode cX11_asked 5 = .ok (.invokevirtual 70, 3) := by decide +kernel
theorem dX11_asked_8 : decode cX11_asked 8 = .ok (.ifCond .eq 24, 3) := by decide +kernel
theorem dX11_asked_11 : decode cX11_asked 11 = .ok (.aload_n 0, 1) := by decide +kernel
theorem dX11_asked_12 : decode cX11_asked 12 = .ok (.getfield 12, 3) := by decide +kernel
theorem dX11_asked_15 : decode cX11_asked 15 = .ok (.iload_n 2, 1) := by decide +kernel
theorem dX11_asked_16 : decode cX11_asked 16 = .ok (.invokevirtual 70, 3) := by decide +kernel
theorem dX11_asked_19 : decode cX11_asked 19 = .ok (.ifCond .eq 13, 3) := by decide +kernel
theorem dX11_asked_22 : decode cX11_asked 22 = .ok (.iload_n 3, 1) := by decide +kernel
theorem dX11_asked_23 : decode cX11_asked 23 = .ok (.ifCond .lt 9, 3) := by decide +kernel
theorem dX11_asked_26 : decode cX11_asked 26 = .ok (.iload_n 3, 1) := by decide +kernel
theorem dX11_asked_27 : decode cX11_asked 27 = .ok (.bipush 6, 2) := by decide +kernel
theorem dX11_asked_29 : decode cX11_asked 29 = .ok (.if_icmp .le 7, 3) := by decide +kernel
theorem dX11_asked_32 : decode cX11_asked 32 = .ok (.ldc2_w 158, 3) := by decide +kernel
theorem dX11_asked_35 : decode cX11_asked 35 = .ok (.lreturn, 1) := by decide +kernel
theorem dX11_asked_36 : decode cX11_asked 36 = .ok (.aload_n 0, 1) := by decide +kernel
theorem dX11_asked_37 : decode cX11_asked 37 = .ok (.getfield 32, 3) := by decide +kernel
theorem dX11_asked_40 : decode cX11_asked 40 = .ok (.lconst 0, 1) := by decide +kernel
theorem dX11_asked_41 : decode cX11_asked 41 = .ok (.invokestatic 191, 3) := by decide +kernel
theorem dX11_asked_44 : decode cX11_asked 44 = .ok (.aload_n 0, 1) := by decide +kernel
theorem dX11_asked_45 : decode cX11_asked 45 = .ok (.getfield 32, 3) := by decide +kernel
theorem dX11_asked_48 : decode cX11_asked 48 = .ok (.iload_n 1, 1) := by decide +kernel
theorem dX11_asked_49 : decode cX11_asked 49 = .ok (.lconst 1, 1) := by decide +kernel
theorem dX11_asked_50 : decode cX11_asked 50 = .ok (.lastore, 1) := by decide +kernel
theorem dX11_asked_51 : decode cX11_asked 51 = .ok (.lconst 1, 1) := by decide +kernel
theorem dX11_asked_52 : decode cX11_asked 52 = .ok (.lstore 5, 2) := by decide +kernel
theorem dX11_asked_54 : decode cX11_asked 54 = .ok (.iconst 0, 1) := by decide +kernel
theorem dX11_asked_55 : decode cX11_asked 55 = .ok (.istore 7, 2) := by decide +kernel
theorem dX11_asked_57 : decode cX11_asked 57 = .ok (.iload 7, 2) := by decide +kernel
theorem dX11_asked_59 : decode cX11_asked 59 = .ok (.iload_n 3, 1) := by decide +kernel
theorem dX11_asked_60 : decode cX11_asked 60 = .ok (.if_icmp .ge 21, 3) := by decide +kernel
theorem dX11_asked_63 : decode cX11_asked 63 = .ok (.aload_n 0, 1) := by decide +kernel
theorem dX11_asked_64 : decode cX11_asked 64 = .ok (.invokevirtual 197, 3) := by decide +kernel
theorem dX11_asked_67 : decode cX11_asked 67 = .ok (.lload 5, 2) := by decide +kernel
theorem dX11_asked_69 : decode cX11_asked 69 = .ok (.ldc2_w 153, 3) := by decide +kernel
theorem dX11_asked_72 : decode cX11_asked 72 = .ok (.lmul, 1) := by decide +kernel
theorem dX11_asked_73 : decode cX11_asked 73 = .ok (.lstore 5, 2) := by decide +kernel
theorem dX11_asked_75 : decode cX11_asked 75 = .ok (.iinc 7 1, 3) := by decide +kernel
theorem dX11_asked_78 : decode cX11_asked 78 = .ok (.goto (-21), 3) := by decide +kernel
theorem dX11_asked_81 : decode cX11_asked 81 = .ok (.aload_n 0, 1) := by decide +kernel
theorem dX11_asked_82 : decode cX11_asked 82 = .ok (.getfield 32, 3) := by decide +kernel
theorem dX11_asked_85 : decode cX11_asked 85 = .ok (.iload_n 2, 1) := by decide +kernel
theorem dX11_asked_86 : decode cX11_asked 86 = .ok (.laload, 1) := by decide +kernel
theorem dX11_asked_87 : decode cX11_asked 87 = .ok (.lload 5, 2) := by decide +kernel
theorem dX11_asked_89 : decode cX11_asked 89 = .ok (.iload 4, 2) := by decide +kernel
theorem dX11_asked_91 : decode cX11_asked 91 = .ok (.invokestatic 142, 3) := by decide +kernel
theorem dX11_asked_94 : decode cX11_asked 94 = .ok (.lreturn, 1) := by decide +kernel
set_option maxRecDepth 20000 in
theorem ggX11_settles_X5_has : GoodIn wsX11_settles wsX5_has := goodIn_r _ [7, 8, 47, 48, 49, 50, 51, 52, 53, 54, 55, 56] (by decide +kernel) (by decide +kernel)
set_option maxRecDepth 20000 in
theorem gX11_settles_X5_has : GoodIn wsX11_settles (wsV RX11 70 RX5 yX5_has wsX5_has) := goodIn_app (goodIn_of _ (by decide +kernel)) ggX11_settles_X5_has
set_option maxRecDepth 20000 in
theorem ggX11_settles_X4_number : GoodIn wsX11_settles wsX4_number := goodIn_r _ [13, 14, 15, 16, 12, 17, 18, 19, 20, 21, 22, 23, 24, 25, 54, 55, 56] (by decide +kernel) (by decide +kernel)
set_option maxRecDepth 20000 in
theorem gX11_settles_X4_number : GoodIn wsX11_settles (wsV RX11 84 RX4 yX4_number wsX4_number) := goodIn_app (goodIn_of _ (by decide +kernel)) ggX11_settles_X4_number
set_option maxRecDepth 20000 in
theorem ggX11_settles_X4_numbers : GoodIn wsX11_settles wsX4_numbers := goodIn_r _ [29, 30, 31, 10, 11, 12, 13, 14, 15, 16, 17, 18, 19, 20, 21, 22, 23, 24, 25, 54, 55, 56] (by decide +kernel) (by decide +kernel)
set_option maxRecDepth 20000 in
theorem gX11_settles_X4_numbers : GoodIn wsX11_settles (wsV RX11 136 RX4 yX4_numbers wsX4_numbers) := goodIn_app (goodIn_of _ (by decide +kernel)) ggX11_settles_X4_numbers
set_option maxRecDepth 20000 in
theorem ggX11_settles_X11_fraction : GoodIn wsX11_settles wsX11_fraction := goodIn_r _ [35, 2, 36, 37, 34, 38] (by decide +kernel) (by decide +kernel)
set_option maxRecDepth 20000 in
theorem gX11_settles_X11_fraction : GoodIn wsX11_settles (va_wsS RX11 142 yX11_fraction wsX11_fraction) := goodIn_app (goodIn_of _ (by decide +kernel)) ggX11_settles_X11_fraction
theorem dX11_settles_0 : decode cX11_settles 0 = .ok (.aload_n 0, 1) := by decide +kernel
theorem dX11_settles_1 : decode cX11_settles 1 = .ok (.getfield 12, 3) := by decide +kernel
theorem dX11_settles_4 : decode cX11_settles 4 = .ok (.iload_n 1, 1) := by decide +kernel
theorem dX11_settles_5 : decode cX11_settles 5 = .ok (.invokevirtual 70, 3) := by decide +kernel
theorem dX11_settles_8 : decode cX11_settles 8 = .ok (.ifCond .eq 33, 3) := by decide +kernel
theorem dX11_settles_11 : decode cX11_settles 11 = .ok (.aload_n 0, 1) := by decide +kernel
theorem dX11_settles_12 : decode cX11_settles 12 = .ok (.getfield 12, 3) := by decide +kernel
theorem dX11_settles_15 : decode cX11_settles 15 = .ok (.getfield 80, 3) := by decide +kernel
theorem dX11_settles_18 : decode cX11_settles 18 = .ok (.iload_n 1, 1) := by decide +kernel
theorem dX11_settles_19 : decode cX11_settles 19 = .ok (.invokevirtual 84, 3) := by decide +kernel
theorem dX11_settles_22 : decode cX11_settles 22 = .ok (.i2l, 1) := by decide +kernel
theorem dX11_settles_23 : decode cX11_settles 23 = .ok (.aload_n 0, 1) := by decide +kernel
theorem dX11_settles_24 : decode cX11_settles 24 = .ok (.getfield 12, 3) := by decide +kernel
theorem dX11_settles_27 : decode cX11_settles 27 = .ok (.getfield 80, 3) := by decide +kernel
theorem dX11_settles_30 : decode cX11_settles 30 = .ok (.invokevirtual 136, 3) := by decide +kernel
theorem dX11_settles_33 : decode cX11_settles 33 = .ok (.i2l, 1) := by decide +kernel
theorem dX11_settles_34 : decode cX11_settles 34 = .ok (.iload_n 2, 1) := by decide +kernel
theorem dX11_settles_35 : decode cX11_settles 35 = .ok (.invokestatic 142, 3) := by decide +kernel
theorem dX11_settles_38 : decode cX11_settles 38 = .ok (.goto 6, 3) := by decide +kernel
theorem dX11_settles_41 : decode cX11_settles 41 = .ok (.ldc2_w 158, 3) := by decide +kernel
theorem dX11_settles_44 : decode cX11_settles 44 = .ok (.lreturn, 1) := by decide +kernel
set_option maxRecDepth 20000 in
theorem ggX11_circle_X4_mostAlike : GoodIn wsX11_circle wsX4_mostAlike := goodIn_r _ [6, 7, 8, 9, 10, 11, 12, 13, 14, 15, 16, 17, 5, 18, 19, 20, 21, 22, 23, 60, 61, 62] (by decide +kernel) (by decide +kernel)
set_option maxRecDepth 20000 in
theorem gX11_circle_X4_mostAlike : GoodIn wsX11_circle (wsV RX11 200 RX4 yX4_mostAlike wsX4_mostAlike) := goodIn_app (goodIn_of _ (by decide +kernel)) ggX11_circle_X4_mostAlike
set_option maxRecDepth 20000 in
theorem ggX11_circle_X4_fewestPews : GoodIn wsX11_circle wsX4_fewestPews := goodIn_r _ [27, 7, 28, 29, 30, 5, 31, 32, 33, 34, 35, 15, 16, 17, 18, 19, 20, 21, 22, 23, 36, 37, 38, 39, 40, 41, 42, 43, 44, 60, 61, 62] (by decide +kernel) (by decide +kernel)
set_option maxRecDepth 20000 in
theorem gX11_circle_X4_fewestPews : GoodIn wsX11_circle (wsV RX11 203 RX4 yX4_fewestPews wsX4_fewestPews) := goodIn_app (goodIn_of _ (by decide +kernel)) ggX11_circle_X4_fewestPews
theorem dX11_circle_0 : decode cX11_circle 0 = .ok (.iload_n 1, 1) := by decide +kernel
theorem dX11_circle_1 : decode cX11_circle 1 = .ok (.tableswitch 62 0 2 #[27, 39, 51], 27) := by decide +kernel
theorem dX11_circle_28 : decode cX11_circle 28 = .ok (.aload_n 0, 1) := by decide +kernel
theorem dX11_circle_29 : decode cX11_circle 29 = .ok (.getfield 12, 3) := by decide +kernel
theorem dX11_circle_32 : decode cX11_circle 32 = .ok (.getfield 80, 3) := by decide +kernel
theorem dX11_circle_35 : decode cX11_circle 35 = .ok (.iconst 1, 1) := by decide +kernel
theorem dX11_circle_36 : decode cX11_circle 36 = .ok (.invokevirtual 200, 3) := by decide +kernel
theorem dX11_circle_39 : decode cX11_circle 39 = .ok (.ireturn, 1) := by decide +kernel
theorem dX11_circle_40 : decode cX11_circle 40 = .ok (.aload_n 0, 1) := by decide +kernel
theorem dX11_circle_41 : decode cX11_circle 41 = .ok (.getfield 12, 3) := by decide +kernel
theorem dX11_circle_44 : decode cX11_circle 44 = .ok (.getfield 80, 3) := by decide +kernel
theorem dX11_circle_47 : decode cX11_circle 47 = .ok (.iconst 0, 1) := by decide +kernel
theorem dX11_circle_48 : decode cX11_circle 48 = .ok (.invokevirtual 200, 3) := by decide +kernel
theorem dX11_circle_51 : decode cX11_circle 51 = .ok (.ireturn, 1) := by decide +kernel
theorem dX11_circle_52 : decode cX11_circle 52 = .ok (.aload_n 0, 1) := by decide +kernel
theorem dX11_circle_53 : decode cX11_circle 53 = .ok (.getfield 12, 3) := by decide +kernel
theorem dX11_circle_56 : decode cX11_circle 56 = .ok (.getfield 80, 3) := by decide +kernel
theorem dX11_circle_59 : decode cX11_circle 59 = .ok (.invokevirtual 203, 3) := by decide +kernel
theorem dX11_circle_62 : decode cX11_circle 62 = .ok (.ireturn, 1) := by decide +kernel
theorem dX11_circle_63 : decode cX11_circle 63 = .ok (.iconst (-1), 1) := by decide +kernel
theorem dX11_circle_64 : decode cX11_circle 64 = .ok (.ireturn, 1) := by decide +kernel
set_option maxRecDepth 20000 in
theorem ggX11_fire_X4_mostTwos : GoodIn wsX11_fire wsX4_mostTwos := goodIn_r _ [6, 7, 8, 9, 10, 5, 11, 12, 13, 14, 15, 16, 17, 18, 19, 20, 21, 22, 23, 24, 25, 26, 27, 28, 29, 60, 61, 62] (by decide +kernel) (by decide +kernel)
set_option maxRecDepth 20000 in
theorem gX11_fire_X4_mostTwos : GoodIn wsX11_fire (wsV RX11 206 RX4 yX4_mostTwos wsX4_mostTwos) := goodIn_app (goodIn_of _ (by decide +kernel)) ggX11_fire_X4_mostTwos
set_option maxRecDepth 20000 in
theorem ggX11_fire_X5_has : GoodIn wsX11_fire wsX5_has := goodIn_r _ [34, 35, 53, 54, 55, 56, 57, 58, 59, 60, 61, 62] (by decide +kernel) (by decide +kernel)
set_option maxRecDepth 20000 in
theorem gX11_fire_X5_has : GoodIn wsX11_fire (wsV RX11 70 RX5 yX5_has wsX5_has) := goodIn_app (goodIn_of _ (by decide +kernel)) ggX11_fire_X5_has
set_option maxRecDepth 20000 in
theorem ggX11_fire_X4_mateOf : GoodIn wsX11_fire wsX4_mateOf := goodIn_r _ [39, 7, 40, 3, 4, 5, 6, 8, 9, 10, 11, 12, 13, 14, 15, 16, 17, 18, 19, 20, 21, 22, 23, 24, 25, 26, 27, 28, 29, 41, 42, 43, 44, 60, 61, 62] (by decide +kernel) (by decide +kernel)
set_option maxRecDepth 20000 in
theorem gX11_fire_X4_mateOf : GoodIn wsX11_fire (wsV RX11 209 RX4 yX4_mateOf wsX4_mateOf) := goodIn_app (goodIn_of _ (by decide +kernel)) ggX11_fire_X4_mateOf
theorem dX11_fire_0 : decode cX11_fire 0 = .ok (.iload_n 1, 1) := by decide +kernel
theorem dX11_fire_1 : decode cX11_fire 1 = .ok (.iconst (-1), 1) := by decide +kernel
theorem dX11_fire_2 : decode cX11_fire 2 = .ok (.if_icmp .ne 14, 3) := by decide +kernel
theorem dX11_fire_5 : decode cX11_fire 5 = .ok (.aload_n 0, 1) := by decide +kernel
theorem dX11_fire_6 : decode cX11_fire 6 = .ok (.getfield 12, 3) := by decide +kernel
theorem dX11_fire_9 : decode cX11_fire 9 = .ok (.getfield 80, 3) := by decide +kernel
theorem dX11_fire_12 : decode cX11_fire 12 = .ok (.invokevirtual 206, 3) := by decide +kernel
theorem dX11_fire_15 : decode cX11_fire 15 = .ok (.ireturn, 1) := by decide +kernel
theorem dX11_fire_16 : decode cX11_fire 16 = .ok (.aload_n 0, 1) := by decide +kernel
theorem dX11_fire_17 : decode cX11_fire 17 = .ok (.getfield 12, 3) := by decide +kernel
theorem dX11_fire_20 : decode cX11_fire 20 = .ok (.iload_n 1, 1) := by decide +kernel
theorem dX11_fire_21 : decode cX11_fire 21 = .ok (.invokevirtual 70, 3) := by decide +kernel
theorem dX11_fire_24 : decode cX11_fire 24 = .ok (.ifCond .eq 17, 3) := by decide +kernel
theorem dX11_fire_27 : decode cX11_fire 27 = .ok (.aload_n 0, 1) := by decide +kernel
theorem dX11_fire_28 : decode cX11_fire 28 = .ok (.getfield 12, 3) := by decide +kernel
theorem dX11_fire_31 : decode cX11_fire 31 = .ok (.getfield 80, 3) := by decide +kernel
theorem dX11_fire_34 : decode cX11_fire 34 = .ok (.iload_n 1, 1) := by decide +kernel
theorem dX11_fire_35 : decode cX11_fire 35 = .ok (.invokevirtual 209, 3) := by decide +kernel
theorem dX11_fire_38 : decode cX11_fire 38 = .ok (.goto 4, 3) := by decide +kernel
theorem dX11_fire_41 : decode cX11_fire 41 = .ok (.iconst (-1), 1) := by decide +kernel
theorem dX11_fire_42 : decode cX11_fire 42 = .ok (.ireturn, 1) := by decide +kernel
set_option maxRecDepth 20000 in
theorem ggX11_could_X11_shelfOf : GoodIn wsX11_could wsX11_shelfOf := goodIn_r _ [5, 6, 47, 48, 49, 50, 51, 52, 53, 54] (by decide +kernel) (by decide +kernel)
set_option maxRecDepth 20000 in
theorem gX11_could_X11_shelfOf : GoodIn wsX11_could (wsV RX11 40 RX11 yX11_shelfOf wsX11_shelfOf) := goodIn_app (goodIn_of _ (by decide +kernel)) ggX11_could_X11_shelfOf
set_option maxRecDepth 20000 in
theorem ggX11_could_X11_rowRefusal : GoodIn wsX11_could wsX11_rowRefusal := goodIn_r _ [9, 10, 11, 12, 13, 14, 15, 16, 17, 18, 19, 55, 56, 57, 58, 59, 60] (by decide +kernel) (by decide +kernel)
set_option maxRecDepth 20000 in
theorem gX11_could_X11_rowRefusal : GoodIn wsX11_could (va_wsS RX11 212 yX11_rowRefusal wsX11_rowRefusal) := goodIn_app (goodIn_of _ (by decide +kernel)) ggX11_could_X11_rowRefusal
set_option maxRecDepth 20000 in
theorem ggX11_could_X11_sortNumbers : GoodIn wsX11_could wsX11_sortNumbers := goodIn_r _ [23, 24, 25, 26, 27, 13, 28, 29, 30, 31, 32, 33, 34, 35, 36, 37, 38, 47, 48, 49, 50, 51, 52, 53, 54, 55, 56, 57, 58, 59, 60] (by decide +kernel) (by decide +kernel)
set_option maxRecDepth 20000 in
theorem gX11_could_X11_sortNumbers : GoodIn wsX11_could (wsV RX11 215 RX11 yX11_sortNumbers wsX11_sortNumbers) := goodIn_app (goodIn_of _ (by decide +kernel)) ggX11_could_X11_sortNumbers
set_option maxRecDepth 20000 in
theorem ggX11_could_X7_size : GoodIn wsX11_could wsX7_size := goodIn_r _ [28, 29, 55, 56, 57, 58, 59, 60] (by decide +kernel) (by decide +kernel)
set_option maxRecDepth 20000 in
theorem gX11_could_X7_size : GoodIn wsX11_could (wsV RX11 55 RX7 yX7_size wsX7_size) := goodIn_app (goodIn_of _ (by decide +kernel)) ggX11_could_X7_size
set_option maxRecDepth 20000 in
theorem ggX11_could_X11_numbersFit : GoodIn wsX11_could wsX11_numbersFit := goodIn_r _ [42, 24, 43, 44, 45, 46, 47, 48, 49, 50, 51, 52, 53, 54] (by decide +kernel) (by decide +kernel)
set_option maxRecDepth 20000 in
theorem gX11_could_X11_numbersFit : GoodIn wsX11_could (wsV RX11 219 RX11 yX11_numbersFit wsX11_numbersFit) := goodIn_app (goodIn_of _ (by decide +kernel)) ggX11_could_X11_numbersFit
theorem dX11_could_0 : decode cX11_could 0 = .ok (.aload_n 0, 1) := by decide +kernel
theorem dX11_could_1 : decode cX11_could 1 = .ok (.iload_n 1, 1) := by decide +kernel
theorem dX11_could_2 : decode cX11_could 2 = .ok (.invokevirtual 40, 3) := by decide +kernel
theorem dX11_could_5 : decode cX11_could 5 = .ok (.astore_n 2, 1) := by decide +kernel
theorem dX11_could_6 : decode cX11_could 6 = .ok (.aload_n 2, 1) := by decide +kernel
theorem dX11_could_7 : decode cX11_could 7 = .ok (.invokestatic 212, 3) := by decide +kernel
theorem dX11_could_10 : decode cX11_could 10 = .ok (.istore_n 3, 1) := by decide +kernel
theorem dX11_could_11 : decode cX11_could 11 = .ok (.iload_n 3, 1) := by decide +kernel
theorem dX11_could_12 : decode cX11_could 12 = .ok (.ifCond .eq 5, 3) := by decide +kernel
theorem dX11_could_15 : decode cX11_could 15 = .ok (.iload_n 3, 1) := by decide +kernel
theorem dX11_could_16 : decode cX11_could 16 = .ok (.ireturn, 1) := by decide +kernel
theorem dX11_could_17 : decode cX11_could 17 = .ok (.aload_n 0, 1) := by decide +kernel
theorem dX11_could_18 : decode cX11_could 18 = .ok (.aload_n 2, 1) := by decide +kernel
theorem dX11_could_19 : decode cX11_could 19 = .ok (.invokevirtual 215, 3) := by decide +kernel
theorem dX11_could_22 : decode cX11_could 22 = .ok (.ifCond .eq 18, 3) := by decide +kernel
theorem dX11_could_25 : decode cX11_could 25 = .ok (.aload_n 0, 1) := by decide +kernel
theorem dX11_could_26 : decode cX11_could 26 = .ok (.aload_n 2, 1) := by decide +kernel
theorem dX11_could_27 : decode cX11_could 27 = .ok (.invokevirtual 55, 3) := by decide +kernel
theorem dX11_could_30 : decode cX11_could 30 = .ok (.invokevirtual 219, 3) := by decide +kernel
theorem dX11_could_33 : decode cX11_could 33 = .ok (.ifCond .eq 7, 3) := by decide +kernel
theorem dX11_could_36 : decode cX11_could 36 = .ok (.iconst 1, 1) := by decide +kernel
theorem dX11_could_37 : decode cX11_could 37 = .ok (.goto 4, 3) := by decide +kernel
theorem dX11_could_40 : decode cX11_could 40 = .ok (.iconst 0, 1) := by decide +kernel
theorem dX11_could_41 : decode cX11_could 41 = .ok (.ireturn, 1) := by decide +kernel
set_option maxRecDepth 20000 in
theorem ggX11_whatIs_X5_has : GoodIn wsX11_whatIs wsX5_has := goodIn_r _ [7, 8, 216, 217, 218, 219, 220, 221, 222, 223, 224, 225] (by decide +kernel) (by decide +kernel)
set_option maxRecDepth 20000 in
theorem gX11_whatIs_X5_has : GoodIn wsX11_whatIs (wsV RX11 70 RX5 yX5_has wsX5_has) := goodIn_app (goodIn_of _ (by decide +kernel)) ggX11_whatIs_X5_has
set_option maxRecDepth 20000 in
theorem ggX11_whatIs_X11_shelfOf : GoodIn wsX11_whatIs wsX11_shelfOf := goodIn_r _ [13, 14, 208, 209, 210, 211, 212, 213, 214, 215] (by decide +kernel) (by decide +kernel)
set_option maxRecDepth 20000 in
theorem gX11_whatIs_X11_shelfOf : GoodIn wsX11_whatIs (wsV RX11 40 RX11 yX11_shelfOf wsX11_shelfOf) := goodIn_app (goodIn_of _ (by decide +kernel)) ggX11_whatIs_X11_shelfOf
set_option maxRecDepth 20000 in
theorem ggX11_whatIs_X11_rowRefusal : GoodIn wsX11_whatIs wsX11_rowRefusal := goodIn_r _ [17, 18, 19, 20, 21, 22, 23, 24, 25, 26, 27, 226, 227, 228, 229, 230, 231] (by decide +kernel) (by decide +kernel)
set_option maxRecDepth 20000 in
theorem gX11_whatIs_X11_rowRefusal : GoodIn wsX11_whatIs (va_wsS RX11 212 yX11_rowRefusal wsX11_rowRefusal) := goodIn_app (goodIn_of _ (by decide +kernel)) ggX11_whatIs_X11_rowRefusal
set_option maxRecDepth 20000 in
theorem ggX11_whatIs_X5_become : GoodIn wsX11_whatIs wsX5_become := goodIn_r _ [31, 8, 32, 33, 34, 35, 36, 37, 38, 39, 40, 41, 42, 43, 44, 45, 46, 47, 48, 216, 217, 218, 219, 220, 221, 222, 223, 224, 225] (by decide +kernel) (by decide +kernel)
set_option maxRecDepth 20000 in
theorem gX11_whatIs_X5_become : GoodIn wsX11_whatIs (wsV RX11 51 RX5 yX5_become wsX5_become) := goodIn_app (goodIn_of _ (by decide +kernel)) ggX11_whatIs_X5_become
set_option maxRecDepth 20000 in
theorem ggX11_whatIs_X5_kindOf : GoodIn wsX11_whatIs wsX5_kindOf := goodIn_r _ [52, 32, 216, 217, 218, 219, 220, 221, 222] (by decide +kernel) (by decide +kernel)
set_option maxRecDepth 20000 in
theorem gX11_whatIs_X5_kindOf : GoodIn wsX11_whatIs (wsV RX11 74 RX5 yX5_kindOf wsX5_kindOf) := goodIn_app (goodIn_of _ (by decide +kernel)) ggX11_whatIs_X5_kindOf
set_option maxRecDepth 20000 in
theorem ggX11_whatIs_X5_figureOf : GoodIn wsX11_whatIs wsX5_figureOf := goodIn_r _ [56, 37, 216, 217, 218, 219, 220, 221, 222] (by decide +kernel) (by decide +kernel)
set_option maxRecDepth 20000 in
theorem gX11_whatIs_X5_figureOf : GoodIn wsX11_whatIs (wsV RX11 77 RX5 yX5_figureOf wsX5_figureOf) := goodIn_app (goodIn_of _ (by decide +kernel)) ggX11_whatIs_X5_figureOf
set_option maxRecDepth 20000 in
theorem ggX11_whatIs_X5_change : GoodIn wsX11_whatIs wsX5_change := goodIn_r _ [60, 32, 37, 39, 38, 61, 4, 5, 6, 7, 8, 62, 12, 63, 64, 65, 66, 67, 68, 69, 70, 71, 72, 73, 74, 75, 76, 77, 78, 79, 80, 81, 82, 83, 84, 85, 86, 87, 88, 216, 217, 218, 219, 220, 221, 222, 223, 224, 225] (by decide +kernel) (by decide +kernel)
set_option maxRecDepth 20000 in
theorem gX11_whatIs_X5_change : GoodIn wsX11_whatIs (wsV RX11 222 RX5 yX5_change wsX5_change) := goodIn_app (goodIn_of _ (by decide +kernel)) ggX11_whatIs_X5_change
set_option maxRecDepth 20000 in
theorem ggX11_whatIs_X11_firstOther : GoodIn wsX11_whatIs wsX11_firstOther := goodIn_r _ [91, 92, 93, 94, 6, 95, 40, 96, 97, 98, 99, 8, 39, 100, 101, 102, 103, 104, 105, 106, 44, 107, 47, 108, 109, 110, 111, 112, 50, 51, 52, 32, 66, 67, 68, 69, 70, 113, 54, 55, 56, 37, 114, 115, 116, 117, 118, 119, 120, 121, 122, 123, 124, 125, 126, 127, 128, 129, 130, 131, 132, 133, 134, 135, 136, 137, 138, 139, 140, 141, 142, 75, 143, 144, 145, 146, 147, 148, 149, 150, 151, 152, 153, 154, 155, 156, 157, 158, 159, 160, 161, 162, 163, 164, 165, 166, 167, 168, 169, 170, 171, 172, 173, 174, 175, 176, 177, 178, 179, 180, 181, 182, 183, 184, 185, 186, 187, 21, 188, 189, 190, 191, 192, 193, 194, 195, 196, 197, 198, 199, 200, 201, 202, 203, 204, 205, 206, 207, 216, 217, 218, 219, 220, 221, 222, 223, 224, 225, 226, 227, 228, 229, 230, 231] (by decide +kernel) (by decide +kernel)
set_option maxRecDepth 20000 in
theorem gX11_whatIs_X11_firstOther : GoodIn wsX11_whatIs (va_wsS RX11 225 yX11_firstOther wsX11_firstOther) := goodIn_app (goodIn_of _ (by decide +kernel)) ggX11_whatIs_X11_firstOther
theorem dX11_whatIs_0 : decode cX11_whatIs 0 = .ok (.aload_n 0, 1) := by decide +kernel
theorem dX11_whatIs_1 : decode cX11_whatIs 1 = .ok (.getfield 12, 3) := by decide +kernel
theorem dX11_whatIs_4 : decode cX11_whatIs 4 = .ok (.iload_n 2, 1) := by decide +kernel
theorem dX11_whatIs_5 : decode cX11_whatIs 5 = .ok (.invokevirtual 70, 3) := by decide +kernel
theorem dX11_whatIs_8 : decode cX11_whatIs 8 = .ok (.ifCond .eq 12, 3) := by decide +kernel
theorem dX11_whatIs_11 : decode cX11_whatIs 11 = .ok (.iload_n 3, 1) := by decide +kernel
theorem dX11_whatIs_12 : decode cX11_whatIs 12 = .ok (.ifCond .lt 8, 3) := by decide +kernel
theorem dX11_whatIs_15 : decode cX11_whatIs 15 = .ok (.iload_n 3, 1) := by decide +kernel
theorem dX11_whatIs_16 : decode cX11_whatIs 16 = .ok (.iconst 1, 1) := by decide +kernel
theorem dX11_whatIs_17 : decode cX11_whatIs 17 = .ok (.if_icmp .le 5, 3) := by decide +kernel
theorem dX11_whatIs_20 : decode cX11_whatIs 20 = .ok (.iconst (-1), 1) := by decide +kernel
theorem dX11_whatIs_21 : decode cX11_whatIs 21 = .ok (.ireturn, 1) := by decide +kernel
theorem dX11_whatIs_22 : decode cX11_whatIs 22 = .ok (.aload_n 0, 1) := by decide +kernel
theorem dX11_whatIs_23 : decode cX11_whatIs 23 = .ok (.iload_n 1, 1) := by decide +kernel
theorem dX11_whatIs_24 : decode cX11_whatIs 24 = .ok (.invokevirtual 40, 3) := by decide +kernel
theorem dX11_whatIs_27 : decode cX11_whatIs 27 = .ok (.astore 4, 2) := by decide +kernel
theorem dX11_whatIs_29 : decode cX11_whatIs 29 = .ok (.aload 4, 2) := by decide +kernel
theorem dX11_whatIs_31 : decode cX11_whatIs 31 = .ok (.invokestatic 212, 3) := by decide +kernel
theorem dX11_whatIs_34 : decode cX11_whatIs 34 = .ok (.istore 5, 2) := by decide +kernel
theorem dX11_whatIs_36 : decode cX11_whatIs 36 = .ok (.iload 5, 2) := by decide +kernel
theorem dX11_whatIs_38 : decode cX11_whatIs 38 = .ok (.ifCond .eq 6, 3) := by decide +kernel
theorem dX11_whatIs_41 : decode cX11_whatIs 41 = .ok (.iload 5, 2) := by decide +kernel
theorem dX11_whatIs_43 : decode cX11_whatIs 43 = .ok (.ireturn, 1) := by decide +kernel
theorem dX11_whatIs_44 : decode cX11_whatIs 44 = .ok (.iconst 0, 1) := by decide +kernel
theorem dX11_whatIs_45 : decode cX11_whatIs 45 = .ok (.istore 6, 2) := by decide +kernel
theorem dX11_whatIs_47 : decode cX11_whatIs 47 = .ok (.iconst 0, 1) := by decide +kernel
theorem dX11_whatIs_48 : decode cX11_whatIs 48 = .ok (.istore 7, 2) := by decide +kernel
theorem dX11_whatIs_50 : decode cX11_whatIs 50 = .ok (.iload 7, 2) := by decide +kernel
theorem dX11_whatIs_52 : decode cX11_whatIs 52 = .ok (.iload_n 3, 1) := by decide +kernel
theorem dX11_whatIs_53 : decode cX11_whatIs 53 = .ok (.ifCond .ne 8, 3) := by decide +kernel
theorem dX11_whatIs_56 : decode cX11_whatIs 56 = .ok (.bipush 8, 2) := by decide +kernel
theorem dX11_whatIs_58 : decode cX11_whatIs 58 = .ok (.goto 5, 3) := by decide +kernel
theorem dX11_whatIs_61 : decode cX11_whatIs 61 = .ok (.bipush 10, 2) := by decide +kernel
theorem dX11_whatIs_63 : decode cX11_whatIs 63 = .ok (.if_icmp .ge 94, 3) := by decide +kernel
theorem dX11_whatIs_66 : decode cX11_whatIs 66 = .ok (.aload_n 0, 1) := by decide +kernel
theorem dX11_whatIs_67 : decode cX11_whatIs 67 = .ok (.getfield 16, 3) := by decide +kernel
theorem dX11_whatIs_70 : decode cX11_whatIs 70 = .ok (.aload_n 0, 1) := by decide +kernel
theorem dX11_whatIs_71 : decode cX11_whatIs 71 = .ok (.getfield 12, 3) := by decide +kernel
theorem dX11_whatIs_74 : decode cX11_whatIs 74 = .ok (.invokevirtual 51, 3) := by decide +kernel
theorem dX11_whatIs_77 : decode cX11_whatIs 77 = .ok (.aload_n 0, 1) := by decide +kernel
theorem dX11_whatIs_78 : decode cX11_whatIs 78 = .ok (.getfield 16, 3) := by decide +kernel
theorem dX11_whatIs_81 : decode cX11_whatIs 81 = .ok (.iload_n 2, 1) := by decide +kernel
theorem dX11_whatIs_82 : decode cX11_whatIs 82 = .ok (.iload_n 3, 1) := by decide +kernel
theorem dX11_whatIs_83 : decode cX11_whatIs 83 = .ok (.ifCond .ne 8, 3) := by decide +kernel
theorem dX11_whatIs_86 : decode cX11_whatIs 86 = .ok (.iload 7, 2) := by decide +kernel
theorem dX11_whatIs_88 : decode cX11_whatIs 88 = .ok (.goto 11, 3) := by decide +kernel
theorem dX11_whatIs_91 : decode cX11_whatIs 91 = .ok (.aload_n 0, 1) := by decide +kernel
theorem dX11_whatIs_92 : decode cX11_whatIs 92 = .ok (.getfield 12, 3) := by decide +kernel
theorem dX11_whatIs_95 : decode cX11_whatIs 95 = .ok (.iload_n 2, 1) := by decide +kernel
theorem dX11_whatIs_96 : decode cX11_whatIs 96 = .ok (.invokevirtual 74, 3) := by decide +kernel
theorem dX11_whatIs_99 : decode cX11_whatIs 99 = .ok (.iload_n 3, 1) := by decide +kernel
theorem dX11_whatIs_100 : decode cX11_whatIs 100 = .ok (.ifCond .ne 14, 3) := by decide +kernel
theorem dX11_whatIs_103 : decode cX11_whatIs 103 = .ok (.aload_n 0, 1) := by decide +kernel
theorem dX11_whatIs_104 : decode cX11_whatIs 104 = .ok (.getfield 12, 3) := by decide +kernel
theorem dX11_whatIs_107 : decode cX11_whatIs 107 = .ok (.iload_n 2, 1) := by decide +kernel
theorem dX11_whatIs_108 : decode cX11_whatIs 108 = .ok (.invokevirtual 77, 3) := by decide +kernel
theorem dX11_whatIs_111 : decode cX11_whatIs 111 = .ok (.goto 5, 3) := by decide +kernel
theorem dX11_whatIs_114 : decode cX11_whatIs 114 = .ok (.iload 7, 2) := by decide +kernel
theorem dX11_whatIs_116 : decode cX11_whatIs 116 = .ok (.invokevirtual 222, 3) := by decide +kernel
theorem dX11_whatIs_119 : decode cX11_whatIs 119 = .ok (.pop, 1) := by decide +kernel
theorem dX11_whatIs_120 : decode cX11_whatIs 120 = .ok (.aload_n 0, 1) := by decide +kernel
theorem dX11_whatIs_121 : decode cX11_whatIs 121 = .ok (.getfield 16, 3) := by decide +kernel
theorem dX11_whatIs_124 : decode cX11_whatIs 124 = .ok (.aload_n 0, 1) := by decide +kernel
theorem dX11_whatIs_125 : decode cX11_whatIs 125 = .ok (.getfield 16, 3) := by decide +kernel
theorem dX11_whatIs_128 : decode cX11_whatIs 128 = .ok (.getfield 92, 3) := by decide +kernel
theorem dX11_whatIs_131 : decode cX11_whatIs 131 = .ok (.aload 4, 2) := by decide +kernel
theorem dX11_whatIs_133 : decode cX11_whatIs 133 = .ok (.iconst 0, 1) := by decide +kernel
theorem dX11_whatIs_134 : decode cX11_whatIs 134 = .ok (.invokestatic 225, 3) := by decide +kernel
theorem dX11_whatIs_137 : decode cX11_whatIs 137 = .ok (.bipush (-4), 2) := by decide +kernel
theorem dX11_whatIs_139 : decode cX11_whatIs 139 = .ok (.if_icmp .ne 12, 3) := by decide +kernel
theorem dX11_whatIs_142 : decode cX11_whatIs 142 = .ok (.iload 6, 2) := by decide +kernel
theorem dX11_whatIs_144 : decode cX11_whatIs 144 = .ok (.iconst 1, 1) := by decide +kernel
theorem dX11_whatIs_145 : decode cX11_whatIs 145 = .ok (.iload 7, 2) := by decide +kernel
theorem dX11_whatIs_147 : decode cX11_whatIs 147 = .ok (.ishl, 1) := by decide +kernel
theorem dX11_whatIs_148 : decode cX11_whatIs 148 = .ok (.ior, 1) := by decide +kernel
theorem dX11_whatIs_149 : decode cX11_whatIs 149 = .ok (.istore 6, 2) := by decide +kernel
theorem dX11_whatIs_151 : decode cX11_whatIs 151 = .ok (.iinc 7 1, 3) := by decide +kernel
theorem dX11_whatIs_154 : decode cX11_whatIs 154 = .ok (.goto (-104), 3) := by decide +kernel
theorem dX11_whatIs_157 : decode cX11_whatIs 157 = .ok (.iload 6, 2) := by decide +kernel
theorem dX11_whatIs_159 : decode cX11_whatIs 159 = .ok (.ireturn, 1) := by decide +kernel
set_option maxRecDepth 20000 in
theorem ggX11_whoBegan_X11_shelfOf : GoodIn wsX11_whoBegan wsX11_shelfOf := goodIn_r _ [6, 7, 165, 166, 167, 168, 169, 170, 171, 172] (by decide +kernel) (by decide +kernel)
set_option maxRecDepth 20000 in
theorem gX11_whoBegan_X11_shelfOf : GoodIn wsX11_whoBegan (wsV RX11 40 RX11 yX11_shelfOf wsX11_shelfOf) := goodIn_app (goodIn_of _ (by decide +kernel)) ggX11_whoBegan_X11_shelfOf
set_option maxRecDepth 20000 in
theorem ggX11_whoBegan_X11_rowRefusal : GoodIn wsX11_whoBegan wsX11_rowRefusal := goodIn_r _ [10, 11, 12, 13, 14, 15, 16, 17, 18, 19, 20, 173, 174, 175, 176, 177, 178] (by decide +kernel) (by decide +kernel)
set_option maxRecDepth 20000 in
theorem gX11_whoBegan_X11_rowRefusal : GoodIn wsX11_whoBegan (va_wsS RX11 212 yX11_rowRefusal wsX11_rowRefusal) := goodIn_app (goodIn_of _ (by decide +kernel)) ggX11_whoBegan_X11_rowRefusal
set_option maxRecDepth 20000 in
theorem ggX11_whoBegan_X5_people : GoodIn wsX11_whoBegan wsX5_people := goodIn_r _ [25, 26, 179, 180, 181, 182, 183, 184, 185, 186, 187, 188] (by decide +kernel) (by decide +kernel)
set_option maxRecDepth 20000 in
theorem gX11_whoBegan_X5_people : GoodIn wsX11_whoBegan (wsV RX11 139 RX5 yX5_people wsX5_people) := goodIn_app (goodIn_of _ (by decide +kernel)) ggX11_whoBegan_X5_people
set_option maxRecDepth 20000 in
theorem ggX11_whoBegan_X5_isDeaf : GoodIn wsX11_whoBegan wsX5_isDeaf := goodIn_r _ [30, 31, 179, 180, 181, 182, 183, 184, 185] (by decide +kernel) (by decide +kernel)
set_option maxRecDepth 20000 in
theorem gX11_whoBegan_X5_isDeaf : GoodIn wsX11_whoBegan (wsV RX11 229 RX5 yX5_isDeaf wsX5_isDeaf) := goodIn_app (goodIn_of _ (by decide +kernel)) ggX11_whoBegan_X5_isDeaf
set_option maxRecDepth 20000 in
theorem ggX11_whoBegan_X11_firstOther : GoodIn wsX11_whoBegan wsX11_firstOther := goodIn_r _ [34, 35, 36, 37, 24, 38, 39, 40, 41, 42, 43, 26, 31, 44, 22, 23, 25, 45, 46, 47, 48, 49, 50, 51, 52, 53, 54, 55, 56, 57, 58, 59, 60, 61, 62, 63, 64, 65, 66, 67, 68, 69, 70, 71, 72, 73, 74, 75, 76, 77, 78, 79, 80, 81, 82, 83, 84, 85, 86, 87, 88, 89, 90, 91, 92, 93, 94, 95, 96, 97, 98, 99, 100, 101, 102, 103, 104, 105, 106, 107, 108, 109, 110, 111, 112, 113, 114, 115, 116, 117, 118, 119, 120, 121, 122, 123, 124, 125, 126, 127, 128, 129, 130, 131, 132, 133, 134, 135, 136, 137, 138, 139, 140, 141, 142, 143, 144, 14, 145, 146, 147, 148, 149, 150, 151, 152, 153, 154, 155, 156, 157, 158, 159, 160, 161, 162, 163, 164, 179, 180, 181, 182, 183, 184, 185, 186, 187, 188, 173, 174, 175, 176, 177, 178] (by decide +kernel) (by decide +kernel)
set_option maxRecDepth 20000 in
theorem gX11_whoBegan_X11_firstOther : GoodIn wsX11_whoBegan (va_wsS RX11 225 yX11_firstOther wsX11_firstOther) := goodIn_app (goodIn_of _ (by decide +kernel)) ggX11_whoBegan_X11_firstOther
theorem dX11_whoBegan_0 : decode cX11_whoBegan 0 = .ok (.aload_n 0, 1) := by decide +kernel
theorem dX11_whoBegan_1 : decode cX11_whoBegan 1 = .ok (.iload_n 1, 1) := by decide +kernel
theorem dX11_whoBegan_2 : decode cX11_whoBegan 2 = .ok (.invokevirtual 40, 3) := by decide +kernel
theorem dX11_whoBegan_5 : decode cX11_whoBegan 5 = .ok (.astore_n 2, 1) := by decide +kernel
theorem dX11_whoBegan_6 : decode cX11_whoBegan 6 = .ok (.aload_n 2, 1) := by decide +kernel
theorem dX11_whoBegan_7 : decode cX11_whoBegan 7 = .ok (.invokestatic 212, 3) := by decide +kernel
theorem dX11_whoBegan_10 : decode cX11_whoBegan 10 = .ok (.istore_n 3, 1) := by decide +kernel
theorem dX11_whoBegan_11 : decode cX11_whoBegan 11 = .ok (.iload_n 3, 1) := by decide +kernel
theorem dX11_whoBegan_12 : decode cX11_whoBegan 12 = .ok (.ifCond .eq 5, 3) := by decide +kernel
theorem dX11_whoBegan_15 : decode cX11_whoBegan 15 = .ok (.iload_n 3, 1) := by decide +kernel
theorem dX11_whoBegan_16 : decode cX11_whoBegan 16 = .ok (.ireturn, 1) := by decide +kernel
theorem dX11_whoBegan_17 : decode cX11_whoBegan 17 = .ok (.iconst 0, 1) := by decide +kernel
theorem dX11_whoBegan_18 : decode cX11_whoBegan 18 = .ok (.istore 4, 2) := by decide +kernel
theorem dX11_whoBegan_20 : decode cX11_whoBegan 20 = .ok (.iconst 0, 1) := by decide +kernel
theorem dX11_whoBegan_21 : decode cX11_whoBegan 21 = .ok (.istore 5, 2) := by decide +kernel
theorem dX11_whoBegan_23 : decode cX11_whoBegan 23 = .ok (.iload 5, 2) := by decide +kernel
theorem dX11_whoBegan_25 : decode cX11_whoBegan 25 = .ok (.aload_n 0, 1) := by decide +kernel
theorem dX11_whoBegan_26 : decode cX11_whoBegan 26 = .ok (.getfield 12, 3) := by decide +kernel
theorem dX11_whoBegan_29 : decode cX11_whoBegan 29 = .ok (.invokevirtual 139, 3) := by decide +kernel
theorem dX11_whoBegan_32 : decode cX11_whoBegan 32 = .ok (.if_icmp .ge 48, 3) := by decide +kernel
theorem dX11_whoBegan_35 : decode cX11_whoBegan 35 = .ok (.aload_n 0, 1) := by decide +kernel
theorem dX11_whoBegan_36 : decode cX11_whoBegan 36 = .ok (.getfield 12, 3) := by decide +kernel
theorem dX11_whoBegan_39 : decode cX11_whoBegan 39 = .ok (.iload 5, 2) := by decide +kernel
theorem dX11_whoBegan_41 : decode cX11_whoBegan 41 = .ok (.invokevirtual 229, 3) := by decide +kernel
theorem dX11_whoBegan_44 : decode cX11_whoBegan 44 = .ok (.ifCond .ne 30, 3) := by decide +kernel
theorem dX11_whoBegan_47 : decode cX11_whoBegan 47 = .ok (.aload_n 0, 1) := by decide +kernel
theorem dX11_whoBegan_48 : decode cX11_whoBegan 48 = .ok (.getfield 12, 3) := by decide +kernel
theorem dX11_whoBegan_51 : decode cX11_whoBegan 51 = .ok (.iconst 1, 1) := by decide +kernel
theorem dX11_whoBegan_52 : decode cX11_whoBegan 52 = .ok (.iload 5, 2) := by decide +kernel
theorem dX11_whoBegan_54 : decode cX11_whoBegan 54 = .ok (.ishl, 1) := by decide +kernel
theorem dX11_whoBegan_55 : decode cX11_whoBegan 55 = .ok (.aload_n 2, 1) := by decide +kernel
theorem dX11_whoBegan_56 : decode cX11_whoBegan 56 = .ok (.iconst 1, 1) := by decide +kernel
theorem dX11_whoBegan_57 : decode cX11_whoBegan 57 = .ok (.invokestatic 225, 3) := by decide +kernel
theorem dX11_whoBegan_60 : decode cX11_whoBegan 60 = .ok (.bipush (-4), 2) := by decide +kernel
theorem dX11_whoBegan_62 : decode cX11_whoBegan 62 = .ok (.if_icmp .ne 12, 3) := by decide +kernel
theorem dX11_whoBegan_65 : decode cX11_whoBegan 65 = .ok (.iload 4, 2) := by decide +kernel
theorem dX11_whoBegan_67 : decode cX11_whoBegan 67 = .ok (.iconst 1, 1) := by decide +kernel
theorem dX11_whoBegan_68 : decode cX11_whoBegan 68 = .ok (.iload 5, 2) := by decide +kernel
theorem dX11_whoBegan_70 : decode cX11_whoBegan 70 = .ok (.ishl, 1) := by decide +kernel
theorem dX11_whoBegan_71 : decode cX11_whoBegan 71 = .ok (.ior, 1) := by decide +kernel
theorem dX11_whoBegan_72 : decode cX11_whoBegan 72 = .ok (.istore 4, 2) := by decide +kernel
theorem dX11_whoBegan_74 : decode cX11_whoBegan 74 = .ok (.iinc 5 1, 3) := by decide +kernel
theorem dX11_whoBegan_77 : decode cX11_whoBegan 77 = .ok (.goto (-54), 3) := by decide +kernel
theorem dX11_whoBegan_80 : decode cX11_whoBegan 80 = .ok (.iload 4, 2) := by decide +kernel
theorem dX11_whoBegan_82 : decode cX11_whoBegan 82 = .ok (.ireturn, 1) := by decide +kernel
set_option maxRecDepth 20000 in
theorem ggX11_two_X5_has : GoodIn wsX11_two wsX5_has := goodIn_r _ [6, 7, 134, 135, 136, 137, 138, 139, 140, 141, 142, 143] (by decide +kernel) (by decide +kernel)
set_option maxRecDepth 20000 in
theorem gX11_two_X5_has : GoodIn wsX11_two (wsV RX11 70 RX5 yX5_has wsX5_has) := goodIn_app (goodIn_of _ (by decide +kernel)) ggX11_two_X5_has
set_option maxRecDepth 20000 in
theorem ggX11_two_X11_gain : GoodIn wsX11_two wsX11_gain := goodIn_r _ [12, 1, 13, 14, 15, 5, 16, 17, 18, 19, 20, 21, 7, 22, 23, 24, 25, 26, 27, 28, 29, 30, 31, 32, 33, 34, 35, 36, 37, 38, 39, 40, 41, 42, 43, 44, 45, 46, 47, 48, 49, 50, 51, 52, 53, 54, 55, 56, 57, 58, 59, 60, 61, 62, 63, 64, 65, 66, 67, 68, 69, 70, 71, 72, 73, 74, 75, 76, 77, 78, 79, 80, 81, 82, 83, 84, 85, 86, 87, 88, 89, 90, 91, 92, 93, 94, 95, 96, 97, 98, 99, 100, 101, 102, 103, 104, 105, 106, 107, 108, 109, 110, 111, 112, 113, 114, 115, 116, 117, 118, 119, 120, 121, 122, 123, 124, 125, 126, 127, 128, 129, 130, 131, 132, 133, 134, 135, 136, 137, 138, 139, 140, 141, 142, 143] (by decide +kernel) (by decide +kernel)
set_option maxRecDepth 20000 in
theorem gX11_two_X11_gain : GoodIn wsX11_two (wsV RX11 232 RX11 yX11_gain wsX11_gain) := goodIn_app (goodIn_of _ (by decide +kernel)) ggX11_two_X11_gain
theorem dX11_two_0 : decode cX11_two 0 = .ok (.aload_n 0, 1) := by decide +kernel
theorem dX11_two_1 : decode cX11_two 1 = .ok (.getfield 12, 3) := by decide +kernel
theorem dX11_two_4 : decode cX11_two 4 = .ok (.iload_n 1, 1) := by decide +kernel
theorem dX11_two_5 : decode cX11_two 5 = .ok (.invokevirtual 70, 3) := by decide +kernel
theorem dX11_two_8 : decode cX11_two 8 = .ok (.ifCond .eq 30, 3) := by decide +kernel
theorem dX11_two_11 : decode cX11_two 11 = .ok (.aload_n 0, 1) := by decide +kernel
theorem dX11_two_12 : decode cX11_two 12 = .ok (.getfield 12, 3) := by decide +kernel
theorem dX11_two_15 : decode cX11_two 15 = .ok (.iload_n 2, 1) := by decide +kernel
theorem dX11_two_16 : decode cX11_two 16 = .ok (.invokevirtual 70, 3) := by decide +kernel
theorem dX11_two_19 : decode cX11_two 19 = .ok (.ifCond .eq 19, 3) := by decide +kernel
theorem dX11_two_22 : decode cX11_two 22 = .ok (.iload_n 1, 1) := by decide +kernel
theorem dX11_two_23 : decode cX11_two 23 = .ok (.iload_n 2, 1) := by decide +kernel
theorem dX11_two_24 : decode cX11_two 24 = .ok (.if_icmp .eq 14, 3) := by decide +kernel
theorem dX11_two_27 : decode cX11_two 27 = .ok (.iload_n 3, 1) := by decide +kernel
theorem dX11_two_28 : decode cX11_two 28 = .ok (.iconst 1, 1) := by decide +kernel
theorem dX11_two_29 : decode cX11_two 29 = .ok (.if_icmp .lt 9, 3) := by decide +kernel
theorem dX11_two_32 : decode cX11_two 32 = .ok (.iload_n 3, 1) := by decide +kernel
theorem dX11_two_33 : decode cX11_two 33 = .ok (.bipush 30, 2) := by decide +kernel
theorem dX11_two_35 : decode cX11_two 35 = .ok (.if_icmp .le 5, 3) := by decide +kernel
theorem dX11_two_38 : decode cX11_two 38 = .ok (.iconst (-1), 1) := by decide +kernel
theorem dX11_two_39 : decode cX11_two 39 = .ok (.ireturn, 1) := by decide +kernel
theorem dX11_two_40 : decode cX11_two 40 = .ok (.aload_n 0, 1) := by decide +kernel
theorem dX11_two_41 : decode cX11_two 41 = .ok (.getfield 12, 3) := by decide +kernel
theorem dX11_two_44 : decode cX11_two 44 = .ok (.getfield 92, 3) := by decide +kernel
theorem dX11_two_47 : decode cX11_two 47 = .ok (.iload_n 1, 1) := by decide +kernel
theorem dX11_two_48 : decode cX11_two 48 = .ok (.ishr, 1) := by decide +kernel
theorem dX11_two_49 : decode cX11_two 49 = .ok (.aload_n 0, 1) := by decide +kernel
theorem dX11_two_50 : decode cX11_two 50 = .ok (.getfield 12, 3) := by decide +kernel
theorem dX11_two_53 : decode cX11_two 53 = .ok (.getfield 92, 3) := by decide +kernel
theorem dX11_two_56 : decode cX11_two 56 = .ok (.iload_n 2, 1) := by decide +kernel
theorem dX11_two_57 : decode cX11_two 57 = .ok (.ishr, 1) := by decide +kernel
theorem dX11_two_58 : decode cX11_two 58 = .ok (.iand, 1) := by decide +kernel
theorem dX11_two_59 : decode cX11_two 59 = .ok (.iconst 1, 1) := by decide +kernel
theorem dX11_two_60 : decode cX11_two 60 = .ok (.iand, 1) := by decide +kernel
theorem dX11_two_61 : decode cX11_two 61 = .ok (.ifCond .ne 6, 3) := by decide +kernel
theorem dX11_two_64 : decode cX11_two 64 = .ok (.bipush (-3), 2) := by decide +kernel
theorem dX11_two_66 : decode cX11_two 66 = .ok (.ireturn, 1) := by decide +kernel
theorem dX11_two_67 : decode cX11_two 67 = .ok (.iconst 0, 1) := by decide +kernel
theorem dX11_two_68 : decode cX11_two 68 = .ok (.istore 4, 2) := by decide +kernel
theorem dX11_two_70 : decode cX11_two 70 = .ok (.iload 4, 2) := by decide +kernel
theorem dX11_two_72 : decode cX11_two 72 = .ok (.iconst 1, 1) := by decide +kernel
theorem dX11_two_73 : decode cX11_two 73 = .ok (.if_icmp .gt 111, 3) := by decide +kernel
theorem dX11_two_76 : decode cX11_two 76 = .ok (.iconst 0, 1) := by decide +kernel
theorem dX11_two_77 : decode cX11_two 77 = .ok (.istore 5, 2) := by decide +kernel
theorem dX11_two_79 : decode cX11_two 79 = .ok (.iload 5, 2) := by decide +kernel
theorem dX11_two_81 : decode cX11_two 81 = .ok (.iconst 1, 1) := by decide +kernel
theorem dX11_two_82 : decode cX11_two 82 = .ok (.if_icmp .gt 96, 3) := by decide +kernel
theorem dX11_two_85 : decode cX11_two 85 = .ok (.aload_n 0, 1) := by decide +kernel
theorem dX11_two_86 : decode cX11_two 86 = .ok (.iload_n 1, 1) := by decide +kernel
theorem dX11_two_87 : decode cX11_two 87 = .ok (.iload 4, 2) := by decide +kernel
theorem dX11_two_89 : decode cX11_two 89 = .ok (.iload_n 2, 1) := by decide +kernel
theorem dX11_two_90 : decode cX11_two 90 = .ok (.iload 5, 2) := by decide +kernel
theorem dX11_two_92 : decode cX11_two 92 = .ok (.iload_n 3, 1) := by decide +kernel
theorem dX11_two_93 : decode cX11_two 93 = .ok (.invokevirtual 232, 3) := by decide +kernel
theorem dX11_two_96 : decode cX11_two 96 = .ok (.aload_n 0, 1) := by decide +kernel
theorem dX11_two_97 : decode cX11_two 97 = .ok (.iload_n 1, 1) := by decide +kernel
theorem dX11_two_98 : decode cX11_two 98 = .ok (.iconst 1, 1) := by decide +kernel
theorem dX11_two_99 : decode cX11_two 99 = .ok (.iload 4, 2) := by decide +kernel
theorem dX11_two_101 : decode cX11_two 101 = .ok (.isub, 1) := by decide +kernel
theorem dX11_two_102 : decode cX11_two 102 = .ok (.iload_n 2, 1) := by decide +kernel
theorem dX11_two_103 : decode cX11_two 103 = .ok (.iload 5, 2) := by decide +kernel
theorem dX11_two_105 : decode cX11_two 105 = .ok (.iload_n 3, 1) := by decide +kernel
theorem dX11_two_106 : decode cX11_two 106 = .ok (.invokevirtual 232, 3) := by decide +kernel
theorem dX11_two_109 : decode cX11_two 109 = .ok (.if_icmp .lt 7, 3) := by decide +kernel
theorem dX11_two_112 : decode cX11_two 112 = .ok (.iconst 1, 1) := by decide +kernel
theorem dX11_two_113 : decode cX11_two 113 = .ok (.goto 4, 3) := by decide +kernel
theorem dX11_two_116 : decode cX11_two 116 = .ok (.iconst 0, 1) := by decide +kernel
theorem dX11_two_117 : decode cX11_two 117 = .ok (.istore 6, 2) := by decide +kernel
theorem dX11_two_119 : decode cX11_two 119 = .ok (.aload_n 0, 1) := by decide +kernel
theorem dX11_two_120 : decode cX11_two 120 = .ok (.iload_n 2, 1) := by decide +kernel
theorem dX11_two_121 : decode cX11_two 121 = .ok (.iload 5, 2) := by decide +kernel
theorem dX11_two_123 : decode cX11_two 123 = .ok (.iload_n 1, 1) := by decide +kernel
theorem dX11_two_124 : decode cX11_two 124 = .ok (.iload 4, 2) := by decide +kernel
theorem dX11_two_126 : decode cX11_two 126 = .ok (.iload_n 3, 1) := by decide +kernel
theorem dX11_two_127 : decode cX11_two 127 = .ok (.invokevirtual 232, 3) := by decide +kernel
theorem dX11_two_130 : decode cX11_two 130 = .ok (.aload_n 0, 1) := by decide +kernel
theorem dX11_two_131 : decode cX11_two 131 = .ok (.iload_n 2, 1) := by decide +kernel
theorem dX11_two_132 : decode cX11_two 132 = .ok (.iconst 1, 1) := by decide +kernel
theorem dX11_two_133 : decode cX11_two 133 = .ok (.iload 5, 2) := by decide +kernel
theorem dX11_two_135 : decode cX11_two 135 = .ok (.isub, 1) := by decide +kernel
theorem dX11_two_136 : decode cX11_two 136 = .ok (.iload_n 1, 1) := by decide +kernel
theorem dX11_two_137 : decode cX11_two 137 = .ok (.iload 4, 2) := by decide +kernel
theorem dX11_two_139 : decode cX11_two 139 = .ok (.iload_n 3, 1) := by decide +kernel
theorem dX11_two_140 : decode cX11_two 140 = .ok (.invokevirtual 232, 3) := by decide +kernel
theorem dX11_two_143 : decode cX11_two 143 = .ok (.if_icmp .lt 7, 3) := by decide +kernel
theorem dX11_two_146 : decode cX11_two 146 = .ok (.iconst 1, 1) := by decide +kernel
theorem dX11_two_147 : decode cX11_two 147 = .ok (.goto 4, 3) := by decide +kernel
theorem dX11_two_150 : decode cX11_two 150 = .ok (.iconst 0, 1) := by decide +kernel
theorem dX11_two_151 : decode cX11_two 151 = .ok (.istore 7, 2) := by decide +kernel
theorem dX11_two_153 : decode cX11_two 153 = .ok (.iload 6, 2) := by decide +kernel
theorem dX11_two_155 : decode cX11_two 155 = .ok (.ifCond .eq 17, 3) := by decide +kernel
theorem dX11_two_158 : decode cX11_two 158 = .ok (.iload 7, 2) := by decide +kernel
theorem dX11_two_160 : decode cX11_two 160 = .ok (.ifCond .eq 12, 3) := by decide +kernel
theorem dX11_two_163 : decode cX11_two 163 = .ok (.bipush 10, 2) := by decide +kernel
theorem dX11_two_165 : decode cX11_two 165 = .ok (.iload 4, 2) := by decide +kernel
theorem dX11_two_167 : decode cX11_two 167 = .ok (.imul, 1) := by decide +kernel
theorem dX11_two_168 : decode cX11_two 168 = .ok (.iload 5, 2) := by decide +kernel
theorem dX11_two_170 : decode cX11_two 170 = .ok (.iadd, 1) := by decide +kernel
theorem dX11_two_171 : decode cX11_two 171 = .ok (.ireturn, 1) := by decide +kernel
theorem dX11_two_172 : decode cX11_two 172 = .ok (.iinc 5 1, 3) := by decide +kernel
theorem dX11_two_175 : decode cX11_two 175 = .ok (.goto (-96), 3) := by decide +kernel
theorem dX11_two_178 : decode cX11_two 178 = .ok (.iinc 4 1, 3) := by decide +kernel
theorem dX11_two_181 : decode cX11_two 181 = .ok (.goto (-111), 3) := by decide +kernel
theorem dX11_two_184 : decode cX11_two 184 = .ok (.bipush (-4), 2) := by decide +kernel
theorem dX11_two_186 : decode cX11_two 186 = .ok (.ireturn, 1) := by decide +kernel
set_option maxRecDepth 20000 in
theorem ggX11_storms_X5_has : GoodIn wsX11_storms wsX5_has := goodIn_r _ [7, 8, 137, 138, 139, 140, 141, 142, 143, 144, 145, 146] (by decide +kernel) (by decide +kernel)
set_option maxRecDepth 20000 in
theorem gX11_storms_X5_has : GoodIn wsX11_storms (wsV RX11 70 RX5 yX5_has wsX5_has) := goodIn_app (goodIn_of _ (by decide +kernel)) ggX11_storms_X5_has
set_option maxRecDepth 20000 in
theorem ggX11_storms_X11_heardThrough : GoodIn wsX11_storms wsX11_heardThrough := goodIn_r _ [13, 1, 14, 15, 16, 6, 17, 8, 18, 19, 20, 21, 22, 23, 24, 25, 26, 27, 28, 29, 30, 31, 32, 33, 34, 35, 36, 37, 38, 39, 40, 41, 42, 43, 44, 45, 46, 47, 48, 49, 50, 51, 52, 53, 54, 55, 56, 57, 58, 59, 60, 61, 62, 63, 64, 65, 66, 67, 68, 69, 70, 71, 72, 73, 74, 75, 76, 77, 78, 79, 80, 81, 82, 83, 84, 85, 86, 87, 88, 89, 90, 91, 92, 93, 94, 95, 96, 97, 98, 99, 100, 101, 102, 103, 104, 105, 106, 107, 108, 109, 110, 111, 112, 113, 114, 115, 116, 117, 118, 119, 129, 130, 131, 132, 133, 134, 135, 136, 137, 138, 139, 140, 141, 142, 143, 144, 145, 146] (by decide +kernel) (by decide +kernel)
set_option maxRecDepth 20000 in
theorem gX11_storms_X11_heardThrough : GoodIn wsX11_storms (wsV RX11 236 RX11 yX11_heardThrough wsX11_heardThrough) := goodIn_app (goodIn_of _ (by decide +kernel)) ggX11_storms_X11_heardThrough
set_option maxRecDepth 20000 in
theorem ggX11_storms_X11_waysOf : GoodIn wsX11_storms wsX11_waysOf := goodIn_r _ [122] (by decide +kernel) (by decide +kernel)
set_option maxRecDepth 20000 in
theorem gX11_storms_X11_waysOf : GoodIn wsX11_storms (va_wsS RX11 239 yX11_waysOf wsX11_waysOf) := goodIn_app (goodIn_of _ (by decide +kernel)) ggX11_storms_X11_waysOf
set_option maxRecDepth 20000 in
theorem ggX11_storms_X11_fraction : GoodIn wsX11_storms wsX11_fraction := goodIn_r _ [125, 2, 126, 127, 12, 128] (by decide +kernel) (by decide +kernel)
set_option maxRecDepth 20000 in
theorem gX11_storms_X11_fraction : GoodIn wsX11_storms (va_wsS RX11 142 yX11_fraction wsX11_fraction) := goodIn_app (goodIn_of _ (by decide +kernel)) ggX11_storms_X11_fraction
theorem dX11_storms_0 : decode cX11_storms 0 = .ok (.aload_n 0, 1) := by decide +kernel
theorem dX11_storms_1 : decode cX11_storms 1 = .ok (.getfield 12, 3) := by decide +kernel
theorem dX11_storms_4 : decode cX11_storms 4 = .ok (.iload_n 1, 1) := by decide +kernel
theorem dX11_storms_5 : decode cX11_storms 5 = .ok (.invokevirtual 70, 3) := by decide +kernel
theorem dX11_storms_8 : decode cX11_storms 8 = .ok (.ifCond .eq 24, 3) := by decide +kernel
theorem dX11_storms_11 : decode cX11_storms 11 = .ok (.iload_n 2, 1) := by decide +kernel
theorem dX11_storms_12 : decode cX11_storms 12 = .ok (.ifCond .lt 20, 3) := by decide +kernel
theorem dX11_storms_15 : decode cX11_storms 15 = .ok (.iload_n 2, 1) := by decide +kernel
theorem dX11_storms_16 : decode cX11_storms 16 = .ok (.bipush 7, 2) := by decide +kernel
theorem dX11_storms_18 : decode cX11_storms 18 = .ok (.if_icmp .gt 14, 3) := by decide +kernel
theorem dX11_storms_21 : decode cX11_storms 21 = .ok (.iload_n 3, 1) := by decide +kernel
theorem dX11_storms_22 : decode cX11_storms 22 = .ok (.iconst 2, 1) := by decide +kernel
theorem dX11_storms_23 : decode cX11_storms 23 = .ok (.if_icmp .lt 9, 3) := by decide +kernel
theorem dX11_storms_26 : decode cX11_storms 26 = .ok (.iload_n 3, 1) := by decide +kernel
theorem dX11_storms_27 : decode cX11_storms 27 = .ok (.bipush 20, 2) := by decide +kernel
theorem dX11_storms_29 : decode cX11_storms 29 = .ok (.if_icmp .le 7, 3) := by decide +kernel
theorem dX11_storms_32 : decode cX11_storms 32 = .ok (.ldc2_w 158, 3) := by decide +kernel
theorem dX11_storms_35 : decode cX11_storms 35 = .ok (.lreturn, 1) := by decide +kernel
theorem dX11_storms_36 : decode cX11_storms 36 = .ok (.lconst 1, 1) := by decide +kernel
theorem dX11_storms_37 : decode cX11_storms 37 = .ok (.lstore 5, 2) := by decide +kernel
theorem dX11_storms_39 : decode cX11_storms 39 = .ok (.iconst 0, 1) := by decide +kernel
theorem dX11_storms_40 : decode cX11_storms 40 = .ok (.istore 7, 2) := by decide +kernel
theorem dX11_storms_42 : decode cX11_storms 42 = .ok (.iload 7, 2) := by decide +kernel
theorem dX11_storms_44 : decode cX11_storms 44 = .ok (.iload_n 2, 1) := by decide +kernel
theorem dX11_storms_45 : decode cX11_storms 45 = .ok (.if_icmp .ge 16, 3) := by decide +kernel
theorem dX11_storms_48 : decode cX11_storms 48 = .ok (.lload 5, 2) := by decide +kernel
theorem dX11_storms_50 : decode cX11_storms 50 = .ok (.iload_n 3, 1) := by decide +kernel
theorem dX11_storms_51 : decode cX11_storms 51 = .ok (.i2l, 1) := by decide +kernel
theorem dX11_storms_52 : decode cX11_storms 52 = .ok (.lmul, 1) := by decide +kernel
theorem dX11_storms_53 : decode cX11_storms 53 = .ok (.lstore 5, 2) := by decide +kernel
theorem dX11_storms_55 : decode cX11_storms 55 = .ok (.iinc 7 1, 3) := by decide +kernel
theorem dX11_storms_58 : decode cX11_storms 58 = .ok (.goto (-16), 3) := by decide +kernel
theorem dX11_storms_61 : decode cX11_storms 61 = .ok (.lconst 0, 1) := by decide +kernel
theorem dX11_storms_62 : decode cX11_storms 62 = .ok (.lstore 7, 2) := by decide +kernel
theorem dX11_storms_64 : decode cX11_storms 64 = .ok (.iconst 0, 1) := by decide +kernel
theorem dX11_storms_65 : decode cX11_storms 65 = .ok (.istore 9, 2) := by decide +kernel
theorem dX11_storms_67 : decode cX11_storms 67 = .ok (.iload 9, 2) := by decide +kernel
theorem dX11_storms_69 : decode cX11_storms 69 = .ok (.iconst 1, 1) := by decide +kernel
theorem dX11_storms_70 : decode cX11_storms 70 = .ok (.iload_n 2, 1) := by decide +kernel
theorem dX11_storms_71 : decode cX11_storms 71 = .ok (.ishl, 1) := by decide +kernel
theorem dX11_storms_72 : decode cX11_storms 72 = .ok (.if_icmp .ge 35, 3) := by decide +kernel
theorem dX11_storms_75 : decode cX11_storms 75 = .ok (.aload_n 0, 1) := by decide +kernel
theorem dX11_storms_76 : decode cX11_storms 76 = .ok (.iload 9, 2) := by decide +kernel
theorem dX11_storms_78 : decode cX11_storms 78 = .ok (.iload_n 2, 1) := by decide +kernel
theorem dX11_storms_79 : decode cX11_storms 79 = .ok (.invokevirtual 236, 3) := by decide +kernel
theorem dX11_storms_82 : decode cX11_storms 82 = .ok (.iload_n 1, 1) := by decide +kernel
theorem dX11_storms_83 : decode cX11_storms 83 = .ok (.ishr, 1) := by decide +kernel
theorem dX11_storms_84 : decode cX11_storms 84 = .ok (.iconst 1, 1) := by decide +kernel
theorem dX11_storms_85 : decode cX11_storms 85 = .ok (.iand, 1) := by decide +kernel
theorem dX11_storms_86 : decode cX11_storms 86 = .ok (.ifCond .eq 15, 3) := by decide +kernel
theorem dX11_storms_89 : decode cX11_storms 89 = .ok (.lload 7, 2) := by decide +kernel
theorem dX11_storms_91 : decode cX11_storms 91 = .ok (.iload 9, 2) := by decide +kernel
theorem dX11_storms_93 : decode cX11_storms 93 = .ok (.iload_n 2, 1) := by decide +kernel
theorem dX11_storms_94 : decode cX11_storms 94 = .ok (.iload_n 3, 1) := by decide +kernel
theorem dX11_storms_95 : decode cX11_storms 95 = .ok (.invokestatic 239, 3) := by decide +kernel
theorem dX11_storms_98 : decode cX11_storms 98 = .ok (.ladd, 1) := by decide +kernel
theorem dX11_storms_99 : decode cX11_storms 99 = .ok (.lstore 7, 2) := by decide +kernel
theorem dX11_storms_101 : decode cX11_storms 101 = .ok (.iinc 9 1, 3) := by decide +kernel
theorem dX11_storms_104 : decode cX11_storms 104 = .ok (.goto (-37), 3) := by decide +kernel
theorem dX11_storms_107 : decode cX11_storms 107 = .ok (.lload 7, 2) := by decide +kernel
theorem dX11_storms_109 : decode cX11_storms 109 = .ok (.lload 5, 2) := by decide +kernel
theorem dX11_storms_111 : decode cX11_storms 111 = .ok (.iload 4, 2) := by decide +kernel
theorem dX11_storms_113 : decode cX11_storms 113 = .ok (.invokestatic 142, 3) := by decide +kernel
theorem dX11_storms_116 : decode cX11_storms 116 = .ok (.lreturn, 1) := by decide +kernel
set_option maxRecDepth 20000 in
theorem ggX11_forged_X11_shelfOf : GoodIn wsX11_forged wsX11_shelfOf := goodIn_r _ [6, 7, 58, 59, 60, 61, 62, 63, 64, 65] (by decide +kernel) (by decide +kernel)
set_option maxRecDepth 20000 in
theorem gX11_forged_X11_shelfOf : GoodIn wsX11_forged (wsV RX11 40 RX11 yX11_shelfOf wsX11_shelfOf) := goodIn_app (goodIn_of _ (by decide +kernel)) ggX11_forged_X11_shelfOf
set_option maxRecDepth 20000 in
theorem ggX11_forged_X11_rowRefusal : GoodIn wsX11_forged wsX11_rowRefusal := goodIn_r _ [10, 11, 12, 13, 14, 15, 16, 17, 18, 19, 20, 73, 74, 75, 76, 77, 78] (by decide +kernel) (by decide +kernel)
set_option maxRecDepth 20000 in
theorem gX11_forged_X11_rowRefusal : GoodIn wsX11_forged (va_wsS RX11 212 yX11_rowRefusal wsX11_rowRefusal) := goodIn_app (goodIn_of _ (by decide +kernel)) ggX11_forged_X11_rowRefusal
set_option maxRecDepth 20000 in
theorem ggX11_forged_X7_size : GoodIn wsX11_forged wsX7_size := goodIn_r _ [24, 25, 73, 74, 75, 76, 77, 78] (by decide +kernel) (by decide +kernel)
set_option maxRecDepth 20000 in
theorem gX11_forged_X7_size : GoodIn wsX11_forged (wsV RX11 55 RX7 yX7_size wsX7_size) := goodIn_app (goodIn_of _ (by decide +kernel)) ggX11_forged_X7_size
set_option maxRecDepth 20000 in
theorem ggX11_forged_X5_has : GoodIn wsX11_forged wsX5_has := goodIn_r _ [30, 31, 66, 67, 68, 69, 70, 71, 72, 79, 80, 81] (by decide +kernel) (by decide +kernel)
set_option maxRecDepth 20000 in
theorem gX11_forged_X5_has : GoodIn wsX11_forged (wsV RX11 70 RX5 yX5_has wsX5_has) := goodIn_app (goodIn_of _ (by decide +kernel)) ggX11_forged_X5_has
set_option maxRecDepth 20000 in
theorem ggX11_forged_X7_at : GoodIn wsX11_forged wsX7_at := goodIn_r _ [35, 36, 37, 38, 39, 14, 40, 25, 73, 74, 75, 76, 77, 78] (by decide +kernel) (by decide +kernel)
set_option maxRecDepth 20000 in
theorem gX11_forged_X7_at : GoodIn wsX11_forged (wsV RX11 63 RX7 yX7_at wsX7_at) := goodIn_app (goodIn_of _ (by decide +kernel)) ggX11_forged_X7_at
set_option maxRecDepth 20000 in
theorem ggX11_forged_X4_number : GoodIn wsX11_forged wsX4_number := goodIn_r _ [45, 46, 47, 48, 44, 49, 50, 51, 52, 53, 54, 55, 56, 57, 79, 80, 81] (by decide +kernel) (by decide +kernel)
set_option maxRecDepth 20000 in
theorem gX11_forged_X4_number : GoodIn wsX11_forged (wsV RX11 84 RX4 yX4_number wsX4_number) := goodIn_app (goodIn_of _ (by decide +kernel)) ggX11_forged_X4_number
theorem dX11_forged_0 : decode cX11_forged 0 = .ok (.aload_n 0, 1) := by decide +kernel
theorem dX11_forged_1 : decode cX11_forged 1 = .ok (.iload_n 1, 1) := by decide +kernel
theorem dX11_forged_2 : decode cX11_forged 2 = .ok (.invokevirtual 40, 3) := by decide +kernel
theorem dX11_forged_5 : decode cX11_forged 5 = .ok (.astore_n 2, 1) := by decide +kernel
theorem dX11_forged_6 : decode cX11_forged 6 = .ok (.aload_n 2, 1) := by decide +kernel
theorem dX11_forged_7 : decode cX11_forged 7 = .ok (.invokestatic 212, 3) := by decide +kernel
theorem dX11_forged_10 : decode cX11_forged 10 = .ok (.istore_n 3, 1) := by decide +kernel
theorem dX11_forged_11 : decode cX11_forged 11 = .ok (.iload_n 3, 1) := by decide +kernel
theorem dX11_forged_12 : decode cX11_forged 12 = .ok (.ifCond .eq 5, 3) := by decide +kernel
theorem dX11_forged_15 : decode cX11_forged 15 = .ok (.iload_n 3, 1) := by decide +kernel
theorem dX11_forged_16 : decode cX11_forged 16 = .ok (.ireturn, 1) := by decide +kernel
theorem dX11_forged_17 : decode cX11_forged 17 = .ok (.iconst 0, 1) := by decide +kernel
theorem dX11_forged_18 : decode cX11_forged 18 = .ok (.istore 4, 2) := by decide +kernel
theorem dX11_forged_20 : decode cX11_forged 20 = .ok (.iload 4, 2) := by decide +kernel
theorem dX11_forged_22 : decode cX11_forged 22 = .ok (.aload_n 2, 1) := by decide +kernel
theorem dX11_forged_23 : decode cX11_forged 23 = .ok (.invokevirtual 55, 3) := by decide +kernel
theorem dX11_forged_26 : decode cX11_forged 26 = .ok (.if_icmp .ge 45, 3) := by decide +kernel
theorem dX11_forged_29 : decode cX11_forged 29 = .ok (.aload_n 0, 1) := by decide +kernel
theorem dX11_forged_30 : decode cX11_forged 30 = .ok (.getfield 12, 3) := by decide +kernel
theorem dX11_forged_33 : decode cX11_forged 33 = .ok (.iload 4, 2) := by decide +kernel
theorem dX11_forged_35 : decode cX11_forged 35 = .ok (.invokevirtual 70, 3) := by decide +kernel
theorem dX11_forged_38 : decode cX11_forged 38 = .ok (.ifCond .eq 24, 3) := by decide +kernel
theorem dX11_forged_41 : decode cX11_forged 41 = .ok (.aload_n 2, 1) := by decide +kernel
theorem dX11_forged_42 : decode cX11_forged 42 = .ok (.iload 4, 2) := by decide +kernel
theorem dX11_forged_44 : decode cX11_forged 44 = .ok (.invokevirtual 63, 3) := by decide +kernel
theorem dX11_forged_47 : decode cX11_forged 47 = .ok (.aload_n 0, 1) := by decide +kernel
theorem dX11_forged_48 : decode cX11_forged 48 = .ok (.getfield 12, 3) := by decide +kernel
theorem dX11_forged_51 : decode cX11_forged 51 = .ok (.getfield 80, 3) := by decide +kernel
theorem dX11_forged_54 : decode cX11_forged 54 = .ok (.iload 4, 2) := by decide +kernel
theorem dX11_forged_56 : decode cX11_forged 56 = .ok (.invokevirtual 84, 3) := by decide +kernel
theorem dX11_forged_59 : decode cX11_forged 59 = .ok (.if_icmp .eq 6, 3) := by decide +kernel
theorem dX11_forged_62 : decode cX11_forged 62 = .ok (.iload 4, 2) := by decide +kernel
theorem dX11_forged_64 : decode cX11_forged 64 = .ok (.ireturn, 1) := by decide +kernel
theorem dX11_forged_65 : decode cX11_forged 65 = .ok (.iinc 4 1, 3) := by decide +kernel
theorem dX11_forged_68 : decode cX11_forged 68 = .ok (.goto (-48), 3) := by decide +kernel
theorem dX11_forged_71 : decode cX11_forged 71 = .ok (.bipush (-4), 2) := by decide +kernel
theorem dX11_forged_73 : decode cX11_forged 73 = .ok (.ireturn, 1) := by decide +kernel
set_option maxRecDepth 20000 in
theorem ggX11_judge_X11_shelfOf : GoodIn wsX11_judge wsX11_shelfOf := goodIn_r _ [6, 7, 160, 161, 162, 163, 164, 165, 166, 167] (by decide +kernel) (by decide +kernel)
set_option maxRecDepth 20000 in
theorem gX11_judge_X11_shelfOf : GoodIn wsX11_judge (wsV RX11 40 RX11 yX11_shelfOf wsX11_shelfOf) := goodIn_app (goodIn_of _ (by decide +kernel)) ggX11_judge_X11_shelfOf
set_option maxRecDepth 20000 in
theorem ggX11_judge_X11_rowRefusal : GoodIn wsX11_judge wsX11_rowRefusal := goodIn_r _ [10, 11, 12, 13, 14, 15, 16, 17, 18, 19, 20, 175, 176, 177, 178, 179, 180] (by decide +kernel) (by decide +kernel)
set_option maxRecDepth 20000 in
theorem gX11_judge_X11_rowRefusal : GoodIn wsX11_judge (va_wsS RX11 212 yX11_rowRefusal wsX11_rowRefusal) := goodIn_app (goodIn_of _ (by decide +kernel)) ggX11_judge_X11_rowRefusal
set_option maxRecDepth 20000 in
theorem ggX11_judge_X11_firstOther : GoodIn wsX11_judge wsX11_firstOther := goodIn_r _ [23, 24, 25, 26, 27, 28, 29, 30, 31, 32, 33, 34, 35, 36, 37, 38, 39, 40, 41, 42, 43, 44, 45, 46, 47, 48, 49, 50, 51, 52, 53, 54, 55, 56, 57, 58, 59, 60, 61, 62, 63, 64, 65, 66, 67, 68, 69, 70, 71, 72, 73, 74, 75, 76, 77, 78, 79, 80, 81, 82, 83, 84, 85, 86, 87, 88, 89, 90, 91, 92, 93, 94, 95, 96, 97, 98, 99, 100, 101, 102, 103, 104, 105, 106, 107, 108, 109, 110, 111, 112, 113, 114, 115, 116, 117, 118, 119, 120, 121, 122, 123, 124, 125, 126, 127, 128, 129, 130, 131, 132, 133, 134, 135, 136, 137, 138, 139, 14, 140, 141, 142, 143, 144, 145, 146, 147, 148, 149, 150, 151, 152, 153, 154, 155, 156, 157, 158, 159, 168, 169, 170, 171, 172, 173, 174, 181, 182, 183, 175, 176, 177, 178, 179, 180] (by decide +kernel) (by decide +kernel)
set_option maxRecDepth 20000 in
theorem gX11_judge_X11_firstOther : GoodIn wsX11_judge (va_wsS RX11 225 yX11_firstOther wsX11_firstOther) := goodIn_app (goodIn_of _ (by decide +kernel)) ggX11_judge_X11_firstOther
theorem dX11_judge_0 : decode cX11_judge 0 = .ok (.aload_n 0, 1) := by decide +kernel
theorem dX11_judge_1 : decode cX11_judge 1 = .ok (.iload_n 1, 1) := by decide +kernel
theorem dX11_judge_2 : decode cX11_judge 2 = .ok (.invokevirtual 40, 3) := by decide +kernel
theorem dX11_judge_5 : decode cX11_judge 5 = .ok (.astore_n 2, 1) := by decide +kernel
theorem dX11_judge_6 : decode cX11_judge 6 = .ok (.aload_n 2, 1) := by decide +kernel
theorem dX11_judge_7 : decode cX11_judge 7 = .ok (.invokestatic 212, 3) := by decide +kernel
theorem dX11_judge_10 : decode cX11_judge 10 = .ok (.istore_n 3, 1) := by decide +kernel
theorem dX11_judge_11 : decode cX11_judge 11 = .ok (.iload_n 3, 1) := by decide +kernel
theorem dX11_judge_12 : decode cX11_judge 12 = .ok (.ifCond .eq 7, 3) := by decide +kernel
theorem dX11_judge_15 : decode cX11_judge 15 = .ok (.iload_n 3, 1) := by decide +kernel
theorem dX11_judge_16 : decode cX11_judge 16 = .ok (.goto 19, 3) := by decide +kernel
theorem dX11_judge_19 : decode cX11_judge 19 = .ok (.aload_n 0, 1) := by decide +kernel
theorem dX11_judge_20 : decode cX11_judge 20 = .ok (.getfield 12, 3) := by decide +kernel
theorem dX11_judge_23 : decode cX11_judge 23 = .ok (.aload_n 0, 1) := by decide +kernel
theorem dX11_judge_24 : decode cX11_judge 24 = .ok (.getfield 12, 3) := by decide +kernel
theorem dX11_judge_27 : decode cX11_judge 27 = .ok (.getfield 92, 3) := by decide +kernel
theorem dX11_judge_30 : decode cX11_judge 30 = .ok (.aload_n 2, 1) := by decide +kernel
theorem dX11_judge_31 : decode cX11_judge 31 = .ok (.iconst 0, 1) := by decide +kernel
theorem dX11_judge_32 : decode cX11_judge 32 = .ok (.invokestatic 225, 3) := by decide +kernel
theorem dX11_judge_35 : decode cX11_judge 35 = .ok (.ireturn, 1) := by decide +kernel
set_option maxRecDepth 20000 in
theorem ggX11_years_X5_become : GoodIn wsX11_years wsX5_become := goodIn_r _ [7, 8, 9, 10, 11, 12, 13, 14, 15, 16, 17, 18, 19, 20, 21, 22, 23, 24, 25, 164, 165, 166, 167, 168, 169, 170, 171, 172, 173] (by decide +kernel) (by decide +kernel)
set_option maxRecDepth 20000 in
theorem gX11_years_X5_become : GoodIn wsX11_years (wsV RX11 51 RX5 yX5_become wsX5_become) := goodIn_app (goodIn_of _ (by decide +kernel)) ggX11_years_X5_become
set_option maxRecDepth 20000 in
theorem ggX11_years_X4_draw : GoodIn wsX11_years wsX4_draw := goodIn_r _ [29, 23, 30, 31, 32, 33, 34, 35, 21, 36, 37, 38, 39, 40, 24, 41, 42, 43, 44, 171, 172, 173] (by decide +kernel) (by decide +kernel)
set_option maxRecDepth 20000 in
theorem gX11_years_X4_draw : GoodIn wsX11_years (wsV RX11 243 RX4 yX4_draw wsX4_draw) := goodIn_app (goodIn_of _ (by decide +kernel)) ggX11_years_X4_draw
set_option maxRecDepth 20000 in
theorem ggX11_years_X5_behind : GoodIn wsX11_years wsX5_behind := goodIn_r _ [48, 17, 49, 50, 51, 6, 52, 8, 16, 53, 54, 55, 56, 57, 38, 39, 21, 40, 24, 58, 59, 60, 61, 62, 63, 64, 65, 9, 66, 67, 68, 69, 70, 71, 72, 73, 74, 14, 75, 76, 77, 78, 79, 80, 81, 82, 83, 84, 85, 86, 87, 88, 89, 90, 91, 92, 93, 94, 95, 96, 97, 98, 99, 100, 101, 102, 103, 104, 105, 106, 107, 108, 109, 110, 111, 112, 113, 114, 115, 116, 117, 118, 119, 120, 37, 121, 122, 123, 124, 125, 126, 127, 128, 129, 130, 131, 132, 133, 134, 135, 136, 137, 138, 139, 140, 141, 142, 143, 144, 145, 164, 165, 166, 167, 168, 169, 170, 171, 172, 173] (by decide +kernel) (by decide +kernel)
set_option maxRecDepth 20000 in
theorem gX11_years_X5_behind : GoodIn wsX11_years (wsV RX11 184 RX5 yX5_behind wsX5_behind) := goodIn_app (goodIn_of _ (by decide +kernel)) ggX11_years_X5_behind
set_option maxRecDepth 20000 in
theorem ggX11_years_J6_bitCount_0f7a4 : GoodIn wsX11_years wsJ6_bitCount_0f7a4 := goodIn_r _ [124, 125, 126, 127] (by decide +kernel) (by decide +kernel)
set_option maxRecDepth 20000 in
theorem gX11_years_J6_bitCount_0f7a4 : GoodIn wsX11_years (va_wsS RX11 176 yJ6_bitCount_0f7a4 wsJ6_bitCount_0f7a4) := goodIn_app (goodIn_of _ (by decide +kernel)) ggX11_years_J6_bitCount_0f7a4
set_option maxRecDepth 20000 in
theorem ggX11_years_X4_total : GoodIn wsX11_years wsX4_total := goodIn_r _ [150, 151, 152, 153, 21, 154, 23, 155, 118, 119, 120, 37, 38, 39, 40, 24, 121, 122, 123, 124, 125, 126, 127, 171, 172, 173] (by decide +kernel) (by decide +kernel)
set_option maxRecDepth 20000 in
theorem gX11_years_X4_total : GoodIn wsX11_years (wsV RX11 246 RX4 yX4_total wsX4_total) := goodIn_app (goodIn_of _ (by decide +kernel)) ggX11_years_X4_total
theorem dX11_years_0 : decode cX11_years 0 = .ok (.iload_n 1, 1) := by decide +kernel
theorem dX11_years_1 : decode cX11_years 1 = .ok (.iconst 1, 1) := by decide +kernel
theorem dX11_years_2 : decode cX11_years 2 = .ok (.if_icmp .lt 18, 3) := by decide +kernel
theorem dX11_years_5 : decode cX11_years 5 = .ok (.iload_n 1, 1) := by decide +kernel
theorem dX11_years_6 : decode cX11_years 6 = .ok (.bipush 20, 2) := by decide +kernel
theorem dX11_years_8 : decode cX11_years 8 = .ok (.if_icmp .gt 12, 3) := by decide +kernel
theorem dX11_years_11 : decode cX11_years 11 = .ok (.iload_n 3, 1) := by decide +kernel
theorem dX11_years_12 : decode cX11_years 12 = .ok (.ifCond .lt 8, 3) := by decide +kernel
theorem dX11_years_15 : decode cX11_years 15 = .ok (.iload_n 3, 1) := by decide +kernel
theorem dX11_years_16 : decode cX11_years 16 = .ok (.iconst 1, 1) := by decide +kernel
theorem dX11_years_17 : decode cX11_years 17 = .ok (.if_icmp .le 5, 3) := by decide +kernel
theorem dX11_years_20 : decode cX11_years 20 = .ok (.iconst (-1), 1) := by decide +kernel
theorem dX11_years_21 : decode cX11_years 21 = .ok (.ireturn, 1) := by decide +kernel
theorem dX11_years_22 : decode cX11_years 22 = .ok (.aload_n 0, 1) := by decide +kernel
theorem dX11_years_23 : decode cX11_years 23 = .ok (.getfield 16, 3) := by decide +kernel
theorem dX11_years_26 : decode cX11_years 26 = .ok (.aload_n 0, 1) := by decide +kernel
theorem dX11_years_27 : decode cX11_years 27 = .ok (.getfield 12, 3) := by decide +kernel
theorem dX11_years_30 : decode cX11_years 30 = .ok (.invokevirtual 51, 3) := by decide +kernel
theorem dX11_years_33 : decode cX11_years 33 = .ok (.iload_n 2, 1) := by decide +kernel
theorem dX11_years_34 : decode cX11_years 34 = .ok (.istore 4, 2) := by decide +kernel
theorem dX11_years_36 : decode cX11_years 36 = .ok (.iconst 0, 1) := by decide +kernel
theorem dX11_years_37 : decode cX11_years 37 = .ok (.istore 5, 2) := by decide +kernel
theorem dX11_years_39 : decode cX11_years 39 = .ok (.iconst 0, 1) := by decide +kernel
theorem dX11_years_40 : decode cX11_years 40 = .ok (.istore 6, 2) := by decide +kernel
theorem dX11_years_42 : decode cX11_years 42 = .ok (.iconst 0, 1) := by decide +kernel
theorem dX11_years_43 : decode cX11_years 43 = .ok (.istore 7, 2) := by decide +kernel
theorem dX11_years_45 : decode cX11_years 45 = .ok (.iload 7, 2) := by decide +kernel
theorem dX11_years_47 : decode cX11_years 47 = .ok (.iload_n 1, 1) := by decide +kernel
theorem dX11_years_48 : decode cX11_years 48 = .ok (.if_icmp .ge 63, 3) := by decide +kernel
theorem dX11_years_51 : decode cX11_years 51 = .ok (.aload_n 0, 1) := by decide +kernel
theorem dX11_years_52 : decode cX11_years 52 = .ok (.getfield 16, 3) := by decide +kernel
theorem dX11_years_55 : decode cX11_years 55 = .ok (.getfield 80, 3) := by decide +kernel
theorem dX11_years_58 : decode cX11_years 58 = .ok (.iload 4, 2) := by decide +kernel
theorem dX11_years_60 : decode cX11_years 60 = .ok (.invokevirtual 243, 3) := by decide +kernel
theorem dX11_years_63 : decode cX11_years 63 = .ok (.istore 4, 2) := by decide +kernel
theorem dX11_years_65 : decode cX11_years 65 = .ok (.iload 5, 2) := by decide +kernel
theorem dX11_years_67 : decode cX11_years 67 = .ok (.aload_n 0, 1) := by decide +kernel
theorem dX11_years_68 : decode cX11_years 68 = .ok (.getfield 16, 3) := by decide +kernel
theorem dX11_years_71 : decode cX11_years 71 = .ok (.aload_n 0, 1) := by decide +kernel
theorem dX11_years_72 : decode cX11_years 72 = .ok (.getfield 16, 3) := by decide +kernel
theorem dX11_years_75 : decode cX11_years 75 = .ok (.getfield 92, 3) := by decide +kernel
theorem dX11_years_78 : decode cX11_years 78 = .ok (.bipush 9, 2) := by decide +kernel
theorem dX11_years_80 : decode cX11_years 80 = .ok (.iconst 0, 1) := by decide +kernel
theorem dX11_years_81 : decode cX11_years 81 = .ok (.invokevirtual 184, 3) := by decide +kernel
theorem dX11_years_84 : decode cX11_years 84 = .ok (.invokestatic 176, 3) := by decide +kernel
theorem dX11_years_87 : decode cX11_years 87 = .ok (.iadd, 1) := by decide +kernel
theorem dX11_years_88 : decode cX11_years 88 = .ok (.istore 5, 2) := by decide +kernel
theorem dX11_years_90 : decode cX11_years 90 = .ok (.iload 6, 2) := by decide +kernel
theorem dX11_years_92 : decode cX11_years 92 = .ok (.aload_n 0, 1) := by decide +kernel
theorem dX11_years_93 : decode cX11_years 93 = .ok (.getfield 16, 3) := by decide +kernel
theorem dX11_years_96 : decode cX11_years 96 = .ok (.getfield 80, 3) := by decide +kernel
theorem dX11_years_99 : decode cX11_years 99 = .ok (.invokevirtual 246, 3) := by decide +kernel
theorem dX11_years_102 : decode cX11_years 102 = .ok (.iadd, 1) := by decide +kernel
theorem dX11_years_103 : decode cX11_years 103 = .ok (.istore 6, 2) := by decide +kernel
theorem dX11_years_105 : decode cX11_years 105 = .ok (.iinc 7 1, 3) := by decide +kernel
theorem dX11_years_108 : decode cX11_years 108 = .ok (.goto (-63), 3) := by decide +kernel
theorem dX11_years_111 : decode cX11_years 111 = .ok (.iload_n 3, 1) := by decide +kernel
theorem dX11_years_112 : decode cX11_years 112 = .ok (.ifCond .ne 8, 3) := by decide +kernel
theorem dX11_years_115 : decode cX11_years 115 = .ok (.iload 5, 2) := by decide +kernel
theorem dX11_years_117 : decode cX11_years 117 = .ok (.goto 5, 3) := by decide +kernel
theorem dX11_years_120 : decode cX11_years 120 = .ok (.iload 6, 2) := by decide +kernel
theorem dX11_years_122 : decode cX11_years 122 = .ok (.ireturn, 1) := by decide +kernel
set_option maxRecDepth 20000 in
theorem ggX11_image_X5_become : GoodIn wsX11_image wsX5_become := goodIn_r _ [8, 9, 10, 11, 12, 13, 14, 15, 16, 17, 18, 19, 20, 21, 22, 23, 24, 25, 26, 35, 36, 37, 38, 39, 40, 41, 42, 43, 44] (by decide +kernel) (by decide +kernel)
set_option maxRecDepth 20000 in
theorem gX11_image_X5_become : GoodIn wsX11_image (wsV RX11 51 RX5 yX5_become wsX5_become) := goodIn_app (goodIn_of _ (by decide +kernel)) ggX11_image_X5_become
theorem dX11_image_0 : decode cX11_image 0 = .ok (.aload_n 0, 1) := by decide +kernel
theorem dX11_image_1 : decode cX11_image 1 = .ok (.getfield 19, 3) := by decide +kernel
theorem dX11_image_4 : decode cX11_image 4 = .ok (.aload_n 0, 1) := by decide +kernel
theorem dX11_image_5 : decode cX11_image 5 = .ok (.getfield 12, 3) := by decide +kernel
theorem dX11_image_8 : decode cX11_image 8 = .ok (.invokevirtual 51, 3) := by decide +kernel
theorem dX11_image_11 : decode cX11_image 11 = .ok (.aload_n 0, 1) := by decide +kernel
theorem dX11_image_12 : decode cX11_image 12 = .ok (.iconst 1, 1) := by decide +kernel
theorem dX11_image_13 : decode cX11_image 13 = .ok (.putfield 249, 3) := by decide +kernel
theorem dX11_image_16 : decode cX11_image 16 = .ok (.aload_n 0, 1) := by decide +kernel
theorem dX11_image_17 : decode cX11_image 17 = .ok (.getfield 12, 3) := by decide +kernel
theorem dX11_image_20 : decode cX11_image 20 = .ok (.getfield 100, 3) := by decide +kernel
theorem dX11_image_23 : decode cX11_image 23 = .ok (.ireturn, 1) := by decide +kernel
set_option maxRecDepth 20000 in
theorem ggX11_restore_X5_become : GoodIn wsX11_restore wsX5_become := goodIn_r _ [8, 9, 10, 11, 12, 13, 14, 15, 16, 17, 18, 19, 20, 21, 22, 23, 24, 25, 26, 35, 36, 37, 38, 39, 40, 41, 42, 43, 44] (by decide +kernel) (by decide +kernel)
set_option maxRecDepth 20000 in
theorem gX11_restore_X5_become : GoodIn wsX11_restore (wsV RX11 51 RX5 yX5_become wsX5_become) := goodIn_app (goodIn_of _ (by decide +kernel)) ggX11_restore_X5_become
theorem dX11_restore_0 : decode cX11_restore 0 = .ok (.aload_n 0, 1) := by decide +kernel
theorem dX11_restore_1 : decode cX11_restore 1 = .ok (.getfield 249, 3) := by decide +kernel
theorem dX11_restore_4 : decode cX11_restore 4 = .ok (.ifCond .ne 6, 3) := by decide +kernel
theorem dX11_restore_7 : decode cX11_restore 7 = .ok (.bipush (-3), 2) := by decide +kernel
theorem dX11_restore_9 : decode cX11_restore 9 = .ok (.ireturn, 1) := by decide +kernel
theorem dX11_restore_10 : decode cX11_restore 10 = .ok (.aload_n 0, 1) := by decide +kernel
theorem dX11_restore_11 : decode cX11_restore 11 = .ok (.getfield 12, 3) := by decide +kernel
theorem dX11_restore_14 : decode cX11_restore 14 = .ok (.aload_n 0, 1) := by decide +kernel
theorem dX11_restore_15 : decode cX11_restore 15 = .ok (.getfield 19, 3) := by decide +kernel
theorem dX11_restore_18 : decode cX11_restore 18 = .ok (.invokevirtual 51, 3) := by decide +kernel
theorem dX11_restore_21 : decode cX11_restore 21 = .ok (.aload_n 0, 1) := by decide +kernel
theorem dX11_restore_22 : decode cX11_restore 22 = .ok (.getfield 12, 3) := by decide +kernel
theorem dX11_restore_25 : decode cX11_restore 25 = .ok (.getfield 100, 3) := by decide +kernel
theorem dX11_restore_28 : decode cX11_restore 28 = .ok (.ireturn, 1) := by decide +kernel
set_option maxRecDepth 20000 in
theorem ggX11_count_X5_people : GoodIn wsX11_count wsX5_people := goodIn_r _ [6, 7, 113, 114, 115, 116, 117, 118, 119, 120, 121, 122] (by decide +kernel) (by decide +kernel)
set_option maxRecDepth 20000 in
theorem gX11_count_X5_people : GoodIn wsX11_count (wsV RX11 139 RX5 yX5_people wsX5_people) := goodIn_app (goodIn_of _ (by decide +kernel)) ggX11_count_X5_people
set_option maxRecDepth 20000 in
theorem ggX11_count_X4_total : GoodIn wsX11_count wsX4_total := goodIn_r _ [12, 13, 14, 15, 11, 16, 17, 18, 19, 20, 21, 22, 23, 24, 25, 26, 27, 28, 29, 30, 31, 32, 33, 120, 121, 122] (by decide +kernel) (by decide +kernel)
set_option maxRecDepth 20000 in
theorem gX11_count_X4_total : GoodIn wsX11_count (wsV RX11 246 RX4 yX4_total wsX4_total) := goodIn_app (goodIn_of _ (by decide +kernel)) ggX11_count_X4_total
set_option maxRecDepth 20000 in
theorem ggX11_count_X5_allCards : GoodIn wsX11_count wsX5_allCards := goodIn_r _ [37, 38, 3, 4, 5, 6, 7, 39, 40, 41, 42, 43, 44, 45, 46, 47, 48, 49, 50, 51, 52, 53, 54, 55, 56, 57, 58, 19, 20, 11, 21, 22, 23, 24, 25, 26, 27, 28, 29, 30, 31, 32, 33, 59, 60, 61, 62, 63, 64, 65, 66, 67, 68, 69, 70, 71, 72, 73, 74, 75, 76, 77, 78, 79, 80, 81, 82, 83, 84, 85, 86, 87, 88, 89, 90, 91, 92, 93, 94, 95, 96, 97, 98, 99, 100, 101, 102, 103, 104, 113, 114, 115, 116, 117, 118, 119, 120, 121, 122] (by decide +kernel) (by decide +kernel)
set_option maxRecDepth 20000 in
theorem gX11_count_X5_allCards : GoodIn wsX11_count (wsV RX11 253 RX5 yX5_allCards wsX5_allCards) := goodIn_app (goodIn_of _ (by decide +kernel)) ggX11_count_X5_allCards
theorem dX11_count_0 : decode cX11_count 0 = .ok (.iload_n 1, 1) := by decide +kernel
theorem dX11_count_1 : decode cX11_count 1 = .ok (.tableswitch 78 0 4 #[35, 43, 51, 62, 70], 35) := by decide +kernel
theorem dX11_count_36 : decode cX11_count 36 = .ok (.aload_n 0, 1) := by decide +kernel
theorem dX11_count_37 : decode cX11_count 37 = .ok (.getfield 12, 3) := by decide +kernel
theorem dX11_count_40 : decode cX11_count 40 = .ok (.invokevirtual 139, 3) := by decide +kernel
theorem dX11_count_43 : decode cX11_count 43 = .ok (.ireturn, 1) := by decide +kernel
theorem dX11_count_44 : decode cX11_count 44 = .ok (.aload_n 0, 1) := by decide +kernel
theorem dX11_count_45 : decode cX11_count 45 = .ok (.getfield 12, 3) := by decide +kernel
theorem dX11_count_48 : decode cX11_count 48 = .ok (.getfield 100, 3) := by decide +kernel
theorem dX11_count_51 : decode cX11_count 51 = .ok (.ireturn, 1) := by decide +kernel
theorem dX11_count_52 : decode cX11_count 52 = .ok (.aload_n 0, 1) := by decide +kernel
theorem dX11_count_53 : decode cX11_count 53 = .ok (.getfield 12, 3) := by decide +kernel
theorem dX11_count_56 : decode cX11_count 56 = .ok (.getfield 80, 3) := by decide +kernel
theorem dX11_count_59 : decode cX11_count 59 = .ok (.invokevirtual 246, 3) := by decide +kernel
theorem dX11_count_62 : decode cX11_count 62 = .ok (.ireturn, 1) := by decide +kernel
theorem dX11_count_63 : decode cX11_count 63 = .ok (.aload_n 0, 1) := by decide +kernel
theorem dX11_count_64 : decode cX11_count 64 = .ok (.getfield 12, 3) := by decide +kernel
theorem dX11_count_67 : decode cX11_count 67 = .ok (.getfield 92, 3) := by decide +kernel
theorem dX11_count_70 : decode cX11_count 70 = .ok (.ireturn, 1) := by decide +kernel
theorem dX11_count_71 : decode cX11_count 71 = .ok (.aload_n 0, 1) := by decide +kernel
theorem dX11_count_72 : decode cX11_count 72 = .ok (.getfield 12, 3) := by decide +kernel
theorem dX11_count_75 : decode cX11_count 75 = .ok (.invokevirtual 253, 3) := by decide +kernel
theorem dX11_count_78 : decode cX11_count 78 = .ok (.ireturn, 1) := by decide +kernel
theorem dX11_count_79 : decode cX11_count 79 = .ok (.iconst (-1), 1) := by decide +kernel
theorem dX11_count_80 : decode cX11_count 80 = .ok (.ireturn, 1) := by decide +kernel
set_option maxRecDepth 20000 in
theorem ggX11_keep_X11_shelfOf : GoodIn wsX11_keep wsX11_shelfOf := goodIn_r _ [5, 6, 25, 26, 27, 28, 29, 30, 31, 32] (by decide +kernel) (by decide +kernel)
set_option maxRecDepth 20000 in
theorem gX11_keep_X11_shelfOf : GoodIn wsX11_keep (wsV RX11 40 RX11 yX11_shelfOf wsX11_shelfOf) := goodIn_app (goodIn_of _ (by decide +kernel)) ggX11_keep_X11_shelfOf
set_option maxRecDepth 20000 in
theorem ggX11_keep_X7_holdNothing : GoodIn wsX11_keep wsX7_holdNothing := goodIn_r _ [11, 12, 33, 34, 35, 36, 37, 38] (by decide +kernel) (by decide +kernel)
set_option maxRecDepth 20000 in
theorem gX11_keep_X7_holdNothing : GoodIn wsX11_keep (wsV RX11 256 RX7 yX7_holdNothing wsX7_holdNothing) := goodIn_app (goodIn_of _ (by decide +kernel)) ggX11_keep_X7_holdNothing
set_option maxRecDepth 20000 in
theorem ggX11_keep_X11_isKind : GoodIn wsX11_keep wsX11_isKind := goodIn_r _ [15] (by decide +kernel) (by decide +kernel)
set_option maxRecDepth 20000 in
theorem gX11_keep_X11_isKind : GoodIn wsX11_keep (va_wsS RX11 259 yX11_isKind wsX11_isKind) := goodIn_app (goodIn_of _ (by decide +kernel)) ggX11_keep_X11_isKind
set_option maxRecDepth 20000 in
theorem ggX11_keep_X11_isFigure : GoodIn wsX11_keep wsX11_isFigure := goodIn_r _ [18] (by decide +kernel) (by decide +kernel)
set_option maxRecDepth 20000 in
theorem gX11_keep_X11_isFigure : GoodIn wsX11_keep (va_wsS RX11 262 yX11_isFigure wsX11_isFigure) := goodIn_app (goodIn_of _ (by decide +kernel)) ggX11_keep_X11_isFigure
set_option maxRecDepth 20000 in
theorem ggX11_keep_X7_holdOne : GoodIn wsX11_keep wsX7_holdOne := goodIn_r _ [22, 12, 23, 24, 33, 34, 35, 36, 37, 38] (by decide +kernel) (by decide +kernel)
set_option maxRecDepth 20000 in
theorem gX11_keep_X7_holdOne : GoodIn wsX11_keep (wsV RX11 265 RX7 yX7_holdOne wsX7_holdOne) := goodIn_app (goodIn_of _ (by decide +kernel)) ggX11_keep_X7_holdOne
theorem dX11_keep_0 : decode cX11_keep 0 = .ok (.aload_n 0, 1) := by decide +kernel
theorem dX11_keep_1 : decode cX11_keep 1 = .ok (.iload_n 1, 1) := by decide +kernel
theorem dX11_keep_2 : decode cX11_keep 2 = .ok (.invokevirtual 40, 3) := by decide +kernel
theorem dX11_keep_5 : decode cX11_keep 5 = .ok (.astore 5, 2) := by decide +kernel
theorem dX11_keep_7 : decode cX11_keep 7 = .ok (.aload 5, 2) := by decide +kernel
theorem dX11_keep_9 : decode cX11_keep 9 = .ok (.ifnull 12, 3) := by decide +kernel
theorem dX11_keep_12 : decode cX11_keep 12 = .ok (.iload_n 2, 1) := by decide +kernel
theorem dX11_keep_13 : decode cX11_keep 13 = .ok (.ifCond .lt 8, 3) := by decide +kernel
theorem dX11_keep_16 : decode cX11_keep 16 = .ok (.iload_n 2, 1) := by decide +kernel
theorem dX11_keep_17 : decode cX11_keep 17 = .ok (.iconst 1, 1) := by decide +kernel
theorem dX11_keep_18 : decode cX11_keep 18 = .ok (.if_icmp .le 5, 3) := by decide +kernel
theorem dX11_keep_21 : decode cX11_keep 21 = .ok (.iconst (-1), 1) := by decide +kernel
theorem dX11_keep_22 : decode cX11_keep 22 = .ok (.ireturn, 1) := by decide +kernel
theorem dX11_keep_23 : decode cX11_keep 23 = .ok (.iload_n 2, 1) := by decide +kernel
theorem dX11_keep_24 : decode cX11_keep 24 = .ok (.ifCond .ne 10, 3) := by decide +kernel
theorem dX11_keep_27 : decode cX11_keep 27 = .ok (.aload 5, 2) := by decide +kernel
theorem dX11_keep_29 : decode cX11_keep 29 = .ok (.invokevirtual 256, 3) := by decide +kernel
theorem dX11_keep_32 : decode cX11_keep 32 = .ok (.iconst 0, 1) := by decide +kernel
theorem dX11_keep_33 : decode cX11_keep 33 = .ok (.ireturn, 1) := by decide +kernel
theorem dX11_keep_34 : decode cX11_keep 34 = .ok (.iload_n 3, 1) := by decide +kernel
theorem dX11_keep_35 : decode cX11_keep 35 = .ok (.invokestatic 259, 3) := by decide +kernel
theorem dX11_keep_38 : decode cX11_keep 38 = .ok (.ifCond .eq 11, 3) := by decide +kernel
theorem dX11_keep_41 : decode cX11_keep 41 = .ok (.iload 4, 2) := by decide +kernel
theorem dX11_keep_43 : decode cX11_keep 43 = .ok (.invokestatic 262, 3) := by decide +kernel
theorem dX11_keep_46 : decode cX11_keep 46 = .ok (.ifCond .ne 5, 3) := by decide +kernel
theorem dX11_keep_49 : decode cX11_keep 49 = .ok (.iconst (-1), 1) := by decide +kernel
theorem dX11_keep_50 : decode cX11_keep 50 = .ok (.ireturn, 1) := by decide +kernel
theorem dX11_keep_51 : decode cX11_keep 51 = .ok (.aload 5, 2) := by decide +kernel
theorem dX11_keep_53 : decode cX11_keep 53 = .ok (.iload_n 3, 1) := by decide +kernel
theorem dX11_keep_54 : decode cX11_keep 54 = .ok (.iload 4, 2) := by decide +kernel
theorem dX11_keep_56 : decode cX11_keep 56 = .ok (.invokevirtual 265, 3) := by decide +kernel
theorem dX11_keep_59 : decode cX11_keep 59 = .ok (.iconst 0, 1) := by decide +kernel
theorem dX11_keep_60 : decode cX11_keep 60 = .ok (.ireturn, 1) := by decide +kernel
set_option maxRecDepth 20000 in
theorem ggX11_row_X11_shelfOf : GoodIn wsX11_row wsX11_shelfOf := goodIn_r _ [5, 6, 20, 21, 22, 23, 24, 25, 26, 27] (by decide +kernel) (by decide +kernel)
set_option maxRecDepth 20000 in
theorem gX11_row_X11_shelfOf : GoodIn wsX11_row (wsV RX11 40 RX11 yX11_shelfOf wsX11_shelfOf) := goodIn_app (goodIn_of _ (by decide +kernel)) ggX11_row_X11_shelfOf
set_option maxRecDepth 20000 in
theorem ggX11_row_X7_holdRow : GoodIn wsX11_row wsX7_holdRow := goodIn_r _ [11, 12, 13, 14, 15, 16, 17, 18, 19, 28, 29, 30, 31, 32, 33] (by decide +kernel) (by decide +kernel)
set_option maxRecDepth 20000 in
theorem gX11_row_X7_holdRow : GoodIn wsX11_row (wsV RX11 269 RX7 yX7_holdRow wsX7_holdRow) := goodIn_app (goodIn_of _ (by decide +kernel)) ggX11_row_X7_holdRow
theorem dX11_row_0 : decode cX11_row 0 = .ok (.aload_n 0, 1) := by decide +kernel
theorem dX11_row_1 : decode cX11_row 1 = .ok (.iload_n 1, 1) := by decide +kernel
theorem dX11_row_2 : decode cX11_row 2 = .ok (.invokevirtual 40, 3) := by decide +kernel
theorem dX11_row_5 : decode cX11_row 5 = .ok (.astore 4, 2) := by decide +kernel
theorem dX11_row_7 : decode cX11_row 7 = .ok (.aload 4, 2) := by decide +kernel
theorem dX11_row_9 : decode cX11_row 9 = .ok (.ifnull 18, 3) := by decide +kernel
theorem dX11_row_12 : decode cX11_row 12 = .ok (.iload_n 2, 1) := by decide +kernel
theorem dX11_row_13 : decode cX11_row 13 = .ok (.ifCond .lt 14, 3) := by decide +kernel
theorem dX11_row_16 : decode cX11_row 16 = .ok (.iload_n 2, 1) := by decide +kernel
theorem dX11_row_17 : decode cX11_row 17 = .ok (.iconst 3, 1) := by decide +kernel
theorem dX11_row_18 : decode cX11_row 18 = .ok (.if_icmp .ge 9, 3) := by decide +kernel
theorem dX11_row_21 : decode cX11_row 21 = .ok (.iload_n 3, 1) := by decide +kernel
theorem dX11_row_22 : decode cX11_row 22 = .ok (.bipush 100, 2) := by decide +kernel
theorem dX11_row_24 : decode cX11_row 24 = .ok (.if_icmp .le 5, 3) := by decide +kernel
theorem dX11_row_27 : decode cX11_row 27 = .ok (.iconst (-1), 1) := by decide +kernel
theorem dX11_row_28 : decode cX11_row 28 = .ok (.ireturn, 1) := by decide +kernel
theorem dX11_row_29 : decode cX11_row 29 = .ok (.iload_n 3, 1) := by decide +kernel
theorem dX11_row_30 : decode cX11_row 30 = .ok (.ifCond .ge 6, 3) := by decide +kernel
theorem dX11_row_33 : decode cX11_row 33 = .ok (.bipush (-14), 2) := by decide +kernel
theorem dX11_row_35 : decode cX11_row 35 = .ok (.ireturn, 1) := by decide +kernel
theorem dX11_row_36 : decode cX11_row 36 = .ok (.aload 4, 2) := by decide +kernel
theorem dX11_row_38 : decode cX11_row 38 = .ok (.iload_n 2, 1) := by decide +kernel
theorem dX11_row_39 : decode cX11_row 39 = .ok (.iload_n 3, 1) := by decide +kernel
theorem dX11_row_40 : decode cX11_row 40 = .ok (.invokevirtual 269, 3) := by decide +kernel
theorem dX11_row_43 : decode cX11_row 43 = .ok (.iconst 0, 1) := by decide +kernel
theorem dX11_row_44 : decode cX11_row 44 = .ok (.ireturn, 1) := by decide +kernel
set_option maxRecDepth 20000 in
theorem ggX11_put_X11_shelfOf : GoodIn wsX11_put wsX11_shelfOf := goodIn_r _ [5, 6, 32, 33, 34, 35, 36, 37, 38, 39] (by decide +kernel) (by decide +kernel)
set_option maxRecDepth 20000 in
theorem gX11_put_X11_shelfOf : GoodIn wsX11_put (wsV RX11 40 RX11 yX11_shelfOf wsX11_shelfOf) := goodIn_app (goodIn_of _ (by decide +kernel)) ggX11_put_X11_shelfOf
set_option maxRecDepth 20000 in
theorem ggX11_put_X11_rowRefusal : GoodIn wsX11_put wsX11_rowRefusal := goodIn_r _ [9, 10, 11, 12, 13, 14, 15, 16, 17, 18, 19, 40, 41, 42, 43, 44, 45] (by decide +kernel) (by decide +kernel)
set_option maxRecDepth 20000 in
theorem gX11_put_X11_rowRefusal : GoodIn wsX11_put (va_wsS RX11 212 yX11_rowRefusal wsX11_rowRefusal) := goodIn_app (goodIn_of _ (by decide +kernel)) ggX11_put_X11_rowRefusal
set_option maxRecDepth 20000 in
theorem ggX11_put_X7_hasPlace : GoodIn wsX11_put wsX7_hasPlace := goodIn_r _ [23, 24, 40, 41, 42, 43, 44, 45] (by decide +kernel) (by decide +kernel)
set_option maxRecDepth 20000 in
theorem gX11_put_X7_hasPlace : GoodIn wsX11_put (wsV RX11 272 RX7 yX7_hasPlace wsX7_hasPlace) := goodIn_app (goodIn_of _ (by decide +kernel)) ggX11_put_X7_hasPlace
set_option maxRecDepth 20000 in
theorem ggX11_put_X7_set : GoodIn wsX11_put wsX7_set := goodIn_r _ [28, 29, 30, 31, 21, 22, 13, 23, 24, 40, 41, 42, 43, 44, 45] (by decide +kernel) (by decide +kernel)
set_option maxRecDepth 20000 in
theorem gX11_put_X7_set : GoodIn wsX11_put (wsV RX11 275 RX7 yX7_set wsX7_set) := goodIn_app (goodIn_of _ (by decide +kernel)) ggX11_put_X7_set
theorem dX11_put_0 : decode cX11_put 0 = .ok (.aload_n 0, 1) := by decide +kernel
theorem dX11_put_1 : decode cX11_put 1 = .ok (.iload_n 1, 1) := by decide +kernel
theorem dX11_put_2 : decode cX11_put 2 = .ok (.invokevirtual 40, 3) := by decide +kernel
theorem dX11_put_5 : decode cX11_put 5 = .ok (.astore 4, 2) := by decide +kernel
theorem dX11_put_7 : decode cX11_put 7 = .ok (.aload 4, 2) := by decide +kernel
theorem dX11_put_9 : decode cX11_put 9 = .ok (.invokestatic 212, 3) := by decide +kernel
theorem dX11_put_12 : decode cX11_put 12 = .ok (.istore 5, 2) := by decide +kernel
theorem dX11_put_14 : decode cX11_put 14 = .ok (.iload 5, 2) := by decide +kernel
theorem dX11_put_16 : decode cX11_put 16 = .ok (.ifCond .eq 6, 3) := by decide +kernel
theorem dX11_put_19 : decode cX11_put 19 = .ok (.iload 5, 2) := by decide +kernel
theorem dX11_put_21 : decode cX11_put 21 = .ok (.ireturn, 1) := by decide +kernel
theorem dX11_put_22 : decode cX11_put 22 = .ok (.aload 4, 2) := by decide +kernel
theorem dX11_put_24 : decode cX11_put 24 = .ok (.iload_n 2, 1) := by decide +kernel
theorem dX11_put_25 : decode cX11_put 25 = .ok (.invokevirtual 272, 3) := by decide +kernel
theorem dX11_put_28 : decode cX11_put 28 = .ok (.ifCond .ne 6, 3) := by decide +kernel
theorem dX11_put_31 : decode cX11_put 31 = .ok (.bipush (-13), 2) := by decide +kernel
theorem dX11_put_33 : decode cX11_put 33 = .ok (.ireturn, 1) := by decide +kernel
theorem dX11_put_34 : decode cX11_put 34 = .ok (.aload 4, 2) := by decide +kernel
theorem dX11_put_36 : decode cX11_put 36 = .ok (.iload_n 2, 1) := by decide +kernel
theorem dX11_put_37 : decode cX11_put 37 = .ok (.iload_n 3, 1) := by decide +kernel
theorem dX11_put_38 : decode cX11_put 38 = .ok (.invokevirtual 275, 3) := by decide +kernel
theorem dX11_put_41 : decode cX11_put 41 = .ok (.iconst 0, 1) := by decide +kernel
theorem dX11_put_42 : decode cX11_put 42 = .ok (.ireturn, 1) := by decide +kernel
set_option maxRecDepth 20000 in
theorem ggX11_element_X11_shelfOf : GoodIn wsX11_element wsX11_shelfOf := goodIn_r _ [9, 10, 28, 29, 30, 31, 32, 33, 34, 35] (by decide +kernel) (by decide +kernel)
set_option maxRecDepth 20000 in
theorem gX11_element_X11_shelfOf : GoodIn wsX11_element (wsV RX11 40 RX11 yX11_shelfOf wsX11_shelfOf) := goodIn_app (goodIn_of _ (by decide +kernel)) ggX11_element_X11_shelfOf
set_option maxRecDepth 20000 in
theorem ggX11_element_X7_holdsRow : GoodIn wsX11_element wsX7_holdsRow := goodIn_r _ [15, 16, 36, 37, 38, 39, 40, 41] (by decide +kernel) (by decide +kernel)
set_option maxRecDepth 20000 in
theorem gX11_element_X7_holdsRow : GoodIn wsX11_element (wsV RX11 285 RX7 yX7_holdsRow wsX7_holdsRow) := goodIn_app (goodIn_of _ (by decide +kernel)) ggX11_element_X7_holdsRow
set_option maxRecDepth 20000 in
theorem ggX11_element_X7_hasPlace : GoodIn wsX11_element wsX7_hasPlace := goodIn_r _ [20, 21, 36, 37, 38, 39, 40, 41] (by decide +kernel) (by decide +kernel)
set_option maxRecDepth 20000 in
theorem gX11_element_X7_hasPlace : GoodIn wsX11_element (wsV RX11 272 RX7 yX7_hasPlace wsX7_hasPlace) := goodIn_app (goodIn_of _ (by decide +kernel)) ggX11_element_X7_hasPlace
set_option maxRecDepth 20000 in
theorem ggX11_element_X7_at : GoodIn wsX11_element wsX7_at := goodIn_r _ [25, 26, 27, 18, 19, 14, 20, 21, 36, 37, 38, 39, 40, 41] (by decide +kernel) (by decide +kernel)
set_option maxRecDepth 20000 in
theorem gX11_element_X7_at : GoodIn wsX11_element (wsV RX11 63 RX7 yX7_at wsX7_at) := goodIn_app (goodIn_of _ (by decide +kernel)) ggX11_element_X7_at
theorem dX11_element_0 : decode cX11_element 0 = .ok (.aload_n 0, 1) := by decide +kernel
theorem dX11_element_1 : decode cX11_element 1 = .ok (.iload_n 1, 1) := by decide +kernel
theorem dX11_element_2 : decode cX11_element 2 = .ok (.invokevirtual 40, 3) := by decide +kernel
theorem dX11_element_5 : decode cX11_element 5 = .ok (.astore_n 3, 1) := by decide +kernel
theorem dX11_element_6 : decode cX11_element 6 = .ok (.aload_n 3, 1) := by decide +kernel
theorem dX11_element_7 : decode cX11_element 7 = .ok (.ifnonnull 14, 3) := by decide +kernel
theorem dX11_element_10 : decode cX11_element 10 = .ok (.new 278, 3) := by decide +kernel
theorem dX11_element_13 : decode cX11_element 13 = .ok (.dup, 1) := by decide +kernel
theorem dX11_element_14 : decode cX11_element 14 = .ok (.ldc_w 280, 3) := by decide +kernel
theorem dX11_element_17 : decode cX11_element 17 = .ok (.invokespecial 282, 3) := by decide +kernel
theorem dX11_element_20 : decode cX11_element 20 = .ok (.athrow, 1) := by decide +kernel
theorem dX11_element_21 : decode cX11_element 21 = .ok (.aload_n 3, 1) := by decide +kernel
theorem dX11_element_22 : decode cX11_element 22 = .ok (.invokevirtual 285, 3) := by decide +kernel
theorem dX11_element_25 : decode cX11_element 25 = .ok (.ifCond .eq 11, 3) := by decide +kernel
theorem dX11_element_28 : decode cX11_element 28 = .ok (.aload_n 3, 1) := by decide +kernel
theorem dX11_element_29 : decode cX11_element 29 = .ok (.iload_n 2, 1) := by decide +kernel
theorem dX11_element_30 : decode cX11_element 30 = .ok (.invokevirtual 272, 3) := by decide +kernel
theorem dX11_element_33 : decode cX11_element 33 = .ok (.ifCond .ne 14, 3) := by decide +kernel
theorem dX11_element_36 : decode cX11_element 36 = .ok (.new 289, 3) := by decide +kernel
theorem dX11_element_39 : decode cX11_element 39 = .ok (.dup, 1) := by decide +kernel
theorem dX11_element_40 : decode cX11_element 40 = .ok (.ldc_w 291, 3) := by decide +kernel
theorem dX11_element_43 : decode cX11_element 43 = .ok (.invokespecial 293, 3) := by decide +kernel
theorem dX11_element_46 : decode cX11_element 46 = .ok (.athrow, 1) := by decide +kernel
theorem dX11_element_47 : decode cX11_element 47 = .ok (.aload_n 3, 1) := by decide +kernel
theorem dX11_element_48 : decode cX11_element 48 = .ok (.iload_n 2, 1) := by decide +kernel
theorem dX11_element_49 : decode cX11_element 49 = .ok (.invokevirtual 63, 3) := by decide +kernel
theorem dX11_element_52 : decode cX11_element 52 = .ok (.i2l, 1) := by decide +kernel
theorem dX11_element_53 : decode cX11_element 53 = .ok (.lreturn, 1) := by decide +kernel
set_option maxRecDepth 20000 in
theorem ggX11_copy_X11_shelfOf : GoodIn wsX11_copy wsX11_shelfOf := goodIn_r _ [9, 10, 32, 33, 34, 35, 36, 37, 38, 39] (by decide +kernel) (by decide +kernel)
set_option maxRecDepth 20000 in
theorem gX11_copy_X11_shelfOf : GoodIn wsX11_copy (wsV RX11 40 RX11 yX11_shelfOf wsX11_shelfOf) := goodIn_app (goodIn_of _ (by decide +kernel)) ggX11_copy_X11_shelfOf
set_option maxRecDepth 20000 in
theorem ggX11_copy_X7_isEmpty : GoodIn wsX11_copy wsX7_isEmpty := goodIn_r _ [15, 16, 26, 27, 28, 29, 30, 31] (by decide +kernel) (by decide +kernel)
set_option maxRecDepth 20000 in
theorem gX11_copy_X7_isEmpty : GoodIn wsX11_copy (wsV RX11 294 RX7 yX7_isEmpty wsX7_isEmpty) := goodIn_app (goodIn_of _ (by decide +kernel)) ggX11_copy_X7_isEmpty
set_option maxRecDepth 20000 in
theorem ggX11_copy_X7_holdsRow : GoodIn wsX11_copy wsX7_holdsRow := goodIn_r _ [20, 16, 26, 27, 28, 29, 30, 31] (by decide +kernel) (by decide +kernel)
set_option maxRecDepth 20000 in
theorem gX11_copy_X7_holdsRow : GoodIn wsX11_copy (wsV RX11 285 RX7 yX7_holdsRow wsX7_holdsRow) := goodIn_app (goodIn_of _ (by decide +kernel)) ggX11_copy_X7_holdsRow
set_option maxRecDepth 20000 in
theorem ggX11_copy_X7_hasPlaces : GoodIn wsX11_copy wsX7_hasPlaces := goodIn_r _ [24, 25, 26, 27, 28, 29, 30, 31] (by decide +kernel) (by decide +kernel)
set_option maxRecDepth 20000 in
theorem gX11_copy_X7_hasPlaces : GoodIn wsX11_copy (wsV RX11 300 RX7 yX7_hasPlaces wsX7_hasPlaces) := goodIn_app (goodIn_of _ (by decide +kernel)) ggX11_copy_X7_hasPlaces
theorem dX11_copy_0 : decode cX11_copy 0 = .ok (.aload_n 0, 1) := by decide +kernel
theorem dX11_copy_1 : decode cX11_copy 1 = .ok (.iload_n 1, 1) := by decide +kernel
theorem dX11_copy_2 : decode cX11_copy 2 = .ok (.invokevirtual 40, 3) := by decide +kernel
theorem dX11_copy_5 : decode cX11_copy 5 = .ok (.astore 6, 2) := by decide +kernel
theorem dX11_copy_7 : decode cX11_copy 7 = .ok (.aload_n 0, 1) := by decide +kernel
theorem dX11_copy_8 : decode cX11_copy 8 = .ok (.iload_n 3, 1) := by decide +kernel
theorem dX11_copy_9 : decode cX11_copy 9 = .ok (.invokevirtual 40, 3) := by decide +kernel
theorem dX11_copy_12 : decode cX11_copy 12 = .ok (.astore 7, 2) := by decide +kernel
theorem dX11_copy_14 : decode cX11_copy 14 = .ok (.aload 6, 2) := by decide +kernel
theorem dX11_copy_16 : decode cX11_copy 16 = .ok (.ifnull 8, 3) := by decide +kernel
theorem dX11_copy_19 : decode cX11_copy 19 = .ok (.aload 7, 2) := by decide +kernel
theorem dX11_copy_21 : decode cX11_copy 21 = .ok (.ifnonnull 5, 3) := by decide +kernel
theorem dX11_copy_24 : decode cX11_copy 24 = .ok (.iconst (-1), 1) := by decide +kernel
theorem dX11_copy_25 : decode cX11_copy 25 = .ok (.ireturn, 1) := by decide +kernel
theorem dX11_copy_26 : decode cX11_copy 26 = .ok (.aload 6, 2) := by decide +kernel
theorem dX11_copy_28 : decode cX11_copy 28 = .ok (.invokevirtual 294, 3) := by decide +kernel
theorem dX11_copy_31 : decode cX11_copy 31 = .ok (.ifCond .ne 11, 3) := by decide +kernel
theorem dX11_copy_34 : decode cX11_copy 34 = .ok (.aload 7, 2) := by decide +kernel
theorem dX11_copy_36 : decode cX11_copy 36 = .ok (.invokevirtual 294, 3) := by decide +kernel
theorem dX11_copy_39 : decode cX11_copy 39 = .ok (.ifCond .eq 6, 3) := by decide +kernel
theorem dX11_copy_42 : decode cX11_copy 42 = .ok (.bipush (-11), 2) := by decide +kernel
theorem dX11_copy_44 : decode cX11_copy 44 = .ok (.ireturn, 1) := by decide +kernel
theorem dX11_copy_45 : decode cX11_copy 45 = .ok (.aload 6, 2) := by decide +kernel
theorem dX11_copy_47 : decode cX11_copy 47 = .ok (.invokevirtual 285, 3) := by decide +kernel
theorem dX11_copy_50 : decode cX11_copy 50 = .ok (.ifCond .eq 24, 3) := by decide +kernel
theorem dX11_copy_53 : decode cX11_copy 53 = .ok (.aload 7, 2) := by decide +kernel
theorem dX11_copy_55 : decode cX11_copy 55 = .ok (.invokevirtual 285, 3) := by decide +kernel
theorem dX11_copy_58 : decode cX11_copy 58 = .ok (.ifCond .eq 16, 3) := by decide +kernel
theorem dX11_copy_61 : decode cX11_copy 61 = .ok (.aload 6, 2) := by decide +kernel
theorem dX11_copy_63 : decode cX11_copy 63 = .ok (.getfield 297, 3) := by decide +kernel
theorem dX11_copy_66 : decode cX11_copy 66 = .ok (.aload 7, 2) := by decide +kernel
theorem dX11_copy_68 : decode cX11_copy 68 = .ok (.getfield 297, 3) := by decide +kernel
theorem dX11_copy_71 : decode cX11_copy 71 = .ok (.if_icmp .eq 6, 3) := by decide +kernel
theorem dX11_copy_74 : decode cX11_copy 74 = .ok (.bipush (-12), 2) := by decide +kernel
theorem dX11_copy_76 : decode cX11_copy 76 = .ok (.ireturn, 1) := by decide +kernel
theorem dX11_copy_77 : decode cX11_copy 77 = .ok (.aload 6, 2) := by decide +kernel
theorem dX11_copy_79 : decode cX11_copy 79 = .ok (.iload_n 2, 1) := by decide +kernel
theorem dX11_copy_80 : decode cX11_copy 80 = .ok (.iload 5, 2) := by decide +kernel
theorem dX11_copy_82 : decode cX11_copy 82 = .ok (.invokevirtual 300, 3) := by decide +kernel
theorem dX11_copy_85 : decode cX11_copy 85 = .ok (.ifCond .eq 15, 3) := by decide +kernel
theorem dX11_copy_88 : decode cX11_copy 88 = .ok (.aload 7, 2) := by decide +kernel
theorem dX11_copy_90 : decode cX11_copy 90 = .ok (.iload 4, 2) := by decide +kernel
theorem dX11_copy_92 : decode cX11_copy 92 = .ok (.iload 5, 2) := by decide +kernel
theorem dX11_copy_94 : decode cX11_copy 94 = .ok (.invokevirtual 300, 3) := by decide +kernel
theorem dX11_copy_97 : decode cX11_copy 97 = .ok (.ifCond .ne 6, 3) := by decide +kernel
theorem dX11_copy_100 : decode cX11_copy 100 = .ok (.bipush (-13), 2) := by decide +kernel
theorem dX11_copy_102 : decode cX11_copy 102 = .ok (.ireturn, 1) := by decide +kernel
theorem dX11_copy_103 : decode cX11_copy 103 = .ok (.aload 6, 2) := by decide +kernel
theorem dX11_copy_105 : decode cX11_copy 105 = .ok (.getfield 304, 3) := by decide +kernel
theorem dX11_copy_108 : decode cX11_copy 108 = .ok (.iload_n 2, 1) := by decide +kernel
theorem dX11_copy_109 : decode cX11_copy 109 = .ok (.aload 7, 2) := by decide +kernel
theorem dX11_copy_111 : decode cX11_copy 111 = .ok (.getfield 304, 3) := by decide +kernel
theorem dX11_copy_114 : decode cX11_copy 114 = .ok (.iload 4, 2) := by decide +kernel
theorem dX11_copy_116 : decode cX11_copy 116 = .ok (.iload 5, 2) := by decide +kernel
theorem dX11_copy_118 : decode cX11_copy 118 = .ok (.invokestatic 307, 3) := by decide +kernel
theorem dX11_copy_121 : decode cX11_copy 121 = .ok (.iload 5, 2) := by decide +kernel
theorem dX11_copy_123 : decode cX11_copy 123 = .ok (.ireturn, 1) := by decide +kernel
set_option maxRecDepth 20000 in
theorem ggX11_cost_X11_shelfOf : GoodIn wsX11_cost wsX11_shelfOf := goodIn_r _ [6, 7, 70, 71, 72, 73, 74, 75, 76, 77] (by decide +kernel) (by decide +kernel)
set_option maxRecDepth 20000 in
theorem gX11_cost_X11_shelfOf : GoodIn wsX11_cost (wsV RX11 40 RX11 yX11_shelfOf wsX11_shelfOf) := goodIn_app (goodIn_of _ (by decide +kernel)) ggX11_cost_X11_shelfOf
set_option maxRecDepth 20000 in
theorem ggX11_cost_X11_oneRefusal : GoodIn wsX11_cost wsX11_oneRefusal := goodIn_r _ [10, 11, 12, 13, 14, 15, 16, 17, 18, 19, 20, 78, 79, 80, 81, 82, 83] (by decide +kernel) (by decide +kernel)
set_option maxRecDepth 20000 in
theorem gX11_cost_X11_oneRefusal : GoodIn wsX11_cost (va_wsS RX11 115 yX11_oneRefusal wsX11_oneRefusal) := goodIn_app (goodIn_of _ (by decide +kernel)) ggX11_cost_X11_oneRefusal
set_option maxRecDepth 20000 in
theorem ggX11_cost_X5_kindNamed : GoodIn wsX11_cost wsX5_kindNamed := goodIn_r _ [25, 26, 84, 85, 86, 87, 88, 89, 90] (by decide +kernel) (by decide +kernel)
set_option maxRecDepth 20000 in
theorem gX11_cost_X5_kindNamed : GoodIn wsX11_cost (wsV RX11 96 RX5 yX5_kindNamed wsX5_kindNamed) := goodIn_app (goodIn_of _ (by decide +kernel)) ggX11_cost_X5_kindNamed
set_option maxRecDepth 20000 in
theorem ggX11_cost_X0_price : GoodIn wsX11_cost wsX0_price := goodIn_r _ [33] (by decide +kernel) (by decide +kernel)
set_option maxRecDepth 20000 in
theorem gX11_cost_X0_price_u313X0 : GoodIn wsX11_cost (va_wsO RX11 313 RX0 "MoreThanSheHas$Person" ⟨"MoreThanSheHas$Person", "price", "(I)I"⟩ yX0_price wsX0_price) := goodIn_app (goodIn_of _ (by decide +kernel)) ggX11_cost_X0_price
set_option maxRecDepth 20000 in
theorem ggX11_cost_X3_price : GoodIn wsX11_cost wsX3_price := goodIn_r _ [38, 39, 40, 41, 42, 43, 44] (by decide +kernel) (by decide +kernel)
set_option maxRecDepth 20000 in
theorem gX11_cost_X3_price_u313X1 : GoodIn wsX11_cost (va_wsO RX11 313 RX1 "MoreThanSheHas$Person" ⟨"MoreThanSheHas$Person", "price", "(I)I"⟩ yX3_price wsX3_price) := goodIn_app (goodIn_of _ (by decide +kernel)) ggX11_cost_X3_price
set_option maxRecDepth 20000 in
theorem ggX11_cost_X2_price : GoodIn wsX11_cost wsX2_price := goodIn_r _ [48, 49, 28, 50, 51, 52, 34] (by decide +kernel) (by decide +kernel)
set_option maxRecDepth 20000 in
theorem gX11_cost_X2_price_u313X2 : GoodIn wsX11_cost (va_wsO RX11 313 RX2 "MoreThanSheHas$Person" ⟨"MoreThanSheHas$Person", "price", "(I)I"⟩ yX2_price wsX2_price) := goodIn_app (goodIn_of _ (by decide +kernel)) ggX11_cost_X2_price
set_option maxRecDepth 20000 in
theorem gX11_cost_X3_price_u313X3 : GoodIn wsX11_cost (va_wsO RX11 313 RX3 "MoreThanSheHas$Person" ⟨"MoreThanSheHas$Person", "price", "(I)I"⟩ yX3_price wsX3_price) := goodIn_app (goodIn_of _ (by decide +kernel)) ggX11_cost_X3_price
set_option maxRecDepth 20000 in
theorem ggX11_cost_X6_price : GoodIn wsX11_cost wsX6_price := goodIn_r _ [34] (by decide +kernel) (by decide +kernel)
set_option maxRecDepth 20000 in
theorem gX11_cost_X6_price : GoodIn wsX11_cost (wsV RX11 313 RX6 yX6_price wsX6_price) := goodIn_app (goodIn_of _ (by decide +kernel)) ggX11_cost_X6_price
set_option maxRecDepth 20000 in
theorem ggX11_cost_X8_price : GoodIn wsX11_cost wsX8_price := goodIn_r _ [44] (by decide +kernel) (by decide +kernel)
set_option maxRecDepth 20000 in
theorem gX11_cost_X8_price_u313X8 : GoodIn wsX11_cost (va_wsO RX11 313 RX8 "MoreThanSheHas$Person" ⟨"MoreThanSheHas$Person", "price", "(I)I"⟩ yX8_price wsX8_price) := goodIn_app (goodIn_of _ (by decide +kernel)) ggX11_cost_X8_price
set_option maxRecDepth 20000 in
theorem ggX11_cost_X9_price : GoodIn wsX11_cost wsX9_price := goodIn_r _ [60, 61, 40, 62, 42, 43, 44] (by decide +kernel) (by decide +kernel)
set_option maxRecDepth 20000 in
theorem gX11_cost_X9_price_u313X9 : GoodIn wsX11_cost (va_wsO RX11 313 RX9 "MoreThanSheHas$Person" ⟨"MoreThanSheHas$Person", "price", "(I)I"⟩ yX9_price wsX9_price) := goodIn_app (goodIn_of _ (by decide +kernel)) ggX11_cost_X9_price
set_option maxRecDepth 20000 in
theorem ggX11_cost_X10_price : GoodIn wsX11_cost wsX10_price := goodIn_r _ [66, 67, 68, 69, 46, 47, 48, 49, 28, 50, 51, 52, 34] (by decide +kernel) (by decide +kernel)
set_option maxRecDepth 20000 in
theorem gX11_cost_X10_price_u313X10 : GoodIn wsX11_cost (va_wsO RX11 313 RX10 "MoreThanSheHas$Person" ⟨"MoreThanSheHas$Person", "price", "(I)I"⟩ yX10_price wsX10_price) := goodIn_app (goodIn_of _ (by decide +kernel)) ggX11_cost_X10_price
theorem dX11_cost_0 : decode cX11_cost 0 = .ok (.aload_n 0, 1) := by decide +kernel
theorem dX11_cost_1 : decode cX11_cost 1 = .ok (.iload_n 1, 1) := by decide +kernel
theorem dX11_cost_2 : decode cX11_cost 2 = .ok (.invokevirtual 40, 3) := by decide +kernel
theorem dX11_cost_5 : decode cX11_cost 5 = .ok (.astore_n 2, 1) := by decide +kernel
theorem dX11_cost_6 : decode cX11_cost 6 = .ok (.aload_n 2, 1) := by decide +kernel
theorem dX11_cost_7 : decode cX11_cost 7 = .ok (.invokestatic 115, 3) := by decide +kernel
theorem dX11_cost_10 : decode cX11_cost 10 = .ok (.istore_n 3, 1) := by decide +kernel
theorem dX11_cost_11 : decode cX11_cost 11 = .ok (.iload_n 3, 1) := by decide +kernel
theorem dX11_cost_12 : decode cX11_cost 12 = .ok (.ifCond .eq 7, 3) := by decide +kernel
theorem dX11_cost_15 : decode cX11_cost 15 = .ok (.iload_n 3, 1) := by decide +kernel
theorem dX11_cost_16 : decode cX11_cost 16 = .ok (.goto 21, 3) := by decide +kernel
theorem dX11_cost_19 : decode cX11_cost 19 = .ok (.aload_n 0, 1) := by decide +kernel
theorem dX11_cost_20 : decode cX11_cost 20 = .ok (.getfield 12, 3) := by decide +kernel
theorem dX11_cost_23 : decode cX11_cost 23 = .ok (.aload_n 2, 1) := by decide +kernel
theorem dX11_cost_24 : decode cX11_cost 24 = .ok (.getfield 118, 3) := by decide +kernel
theorem dX11_cost_27 : decode cX11_cost 27 = .ok (.invokevirtual 96, 3) := by decide +kernel
theorem dX11_cost_30 : decode cX11_cost 30 = .ok (.aload_n 2, 1) := by decide +kernel
theorem dX11_cost_31 : decode cX11_cost 31 = .ok (.getfield 121, 3) := by decide +kernel
theorem dX11_cost_34 : decode cX11_cost 34 = .ok (.invokevirtual 313, 3) := by decide +kernel
theorem dX11_cost_37 : decode cX11_cost 37 = .ok (.ireturn, 1) := by decide +kernel
set_option maxRecDepth 20000 in
theorem ggX11_toss_X11_shelfOf : GoodIn wsX11_toss wsX11_shelfOf := goodIn_r _ [9, 10, 99, 100, 101, 102, 103, 104, 105, 106] (by decide +kernel) (by decide +kernel)
set_option maxRecDepth 20000 in
theorem gX11_toss_X11_shelfOf : GoodIn wsX11_toss (wsV RX11 40 RX11 yX11_shelfOf wsX11_shelfOf) := goodIn_app (goodIn_of _ (by decide +kernel)) ggX11_toss_X11_shelfOf
set_option maxRecDepth 20000 in
theorem ggX11_toss_X11_oneRefusal : GoodIn wsX11_toss wsX11_oneRefusal := goodIn_r _ [13, 14, 15, 16, 17, 18, 19, 20, 21, 22, 23, 107, 108, 109, 110, 111, 112] (by decide +kernel) (by decide +kernel)
set_option maxRecDepth 20000 in
theorem gX11_toss_X11_oneRefusal : GoodIn wsX11_toss (va_wsS RX11 115 yX11_oneRefusal wsX11_oneRefusal) := goodIn_app (goodIn_of _ (by decide +kernel)) ggX11_toss_X11_oneRefusal
set_option maxRecDepth 20000 in
theorem ggX11_toss_X5_kindNamed : GoodIn wsX11_toss wsX5_kindNamed := goodIn_r _ [28, 29, 113, 114, 115, 116, 117, 118, 119] (by decide +kernel) (by decide +kernel)
set_option maxRecDepth 20000 in
theorem gX11_toss_X5_kindNamed : GoodIn wsX11_toss (wsV RX11 96 RX5 yX5_kindNamed wsX5_kindNamed) := goodIn_app (goodIn_of _ (by decide +kernel)) ggX11_toss_X5_kindNamed
set_option maxRecDepth 20000 in
theorem ggX11_toss_X0_fail : GoodIn wsX11_toss wsX0_fail := goodIn_ca (goodIn_r _ [36, 37, 38] (by decide +kernel) (by decide +kernel)) (goodIn_sub (fun _ h => List.mem_cons_of_mem _ (List.mem_append_left _ (List.mem_append_left _ (List.mem_append_right _ h)))) (by decide +kernel))
set_option maxRecDepth 20000 in
theorem gX11_toss_X0_fail_u316X0 : GoodIn wsX11_toss (va_wsO RX11 316 RX0 "MoreThanSheHas$Person" ⟨"MoreThanSheHas$Person", "fail", "(I)V"⟩ yX0_fail wsX0_fail) := goodIn_app (goodIn_of _ (by decide +kernel)) ggX11_toss_X0_fail
set_option maxRecDepth 20000 in
theorem ggX11_toss_X8_fail : GoodIn wsX11_toss wsX8_fail := goodIn_r _ [43] (by decide +kernel) (by decide +kernel)
set_option maxRecDepth 20000 in
theorem gX11_toss_X8_fail_u316X1 : GoodIn wsX11_toss (va_wsO RX11 316 RX1 "MoreThanSheHas$Person" ⟨"MoreThanSheHas$Person", "fail", "(I)V"⟩ yX8_fail wsX8_fail) := goodIn_app (goodIn_of _ (by decide +kernel)) ggX11_toss_X8_fail
set_option maxRecDepth 20000 in
theorem ggX11_toss_X2_fail : GoodIn wsX11_toss wsX2_fail := goodIn_ca (goodIn_r _ [47, 48, 49] (by decide +kernel) (by decide +kernel)) (goodIn_sub (fun _ h => List.mem_cons_of_mem _ (List.mem_append_left _ (List.mem_append_right _ h))) (by decide +kernel))
set_option maxRecDepth 20000 in
theorem gX11_toss_X2_fail_u316X2 : GoodIn wsX11_toss (va_wsO RX11 316 RX2 "MoreThanSheHas$Person" ⟨"MoreThanSheHas$Person", "fail", "(I)V"⟩ yX2_fail wsX2_fail) := goodIn_app (goodIn_of _ (by decide +kernel)) ggX11_toss_X2_fail
set_option maxRecDepth 20000 in
theorem gX11_toss_X8_fail_u316X3 : GoodIn wsX11_toss (va_wsO RX11 316 RX3 "MoreThanSheHas$Person" ⟨"MoreThanSheHas$Person", "fail", "(I)V"⟩ yX8_fail wsX8_fail) := goodIn_app (goodIn_of _ (by decide +kernel)) ggX11_toss_X8_fail
set_option maxRecDepth 20000 in
theorem ggX11_toss_X6_fail : GoodIn wsX11_toss wsX6_fail := goodIn_ca (goodIn_r _ [39, 55, 56] (by decide +kernel) (by decide +kernel)) (goodIn_sub (fun _ h => List.mem_cons_of_mem _ (List.mem_append_right _ h)) (by decide +kernel))
set_option maxRecDepth 20000 in
theorem gX11_toss_X6_fail : GoodIn wsX11_toss (wsV RX11 316 RX6 yX6_fail wsX6_fail) := goodIn_app (goodIn_of _ (by decide +kernel)) ggX11_toss_X6_fail
set_option maxRecDepth 20000 in
theorem gX11_toss_X8_fail_u316X8 : GoodIn wsX11_toss (va_wsO RX11 316 RX8 "MoreThanSheHas$Person" ⟨"MoreThanSheHas$Person", "fail", "(I)V"⟩ yX8_fail wsX8_fail) := goodIn_app (goodIn_of _ (by decide +kernel)) ggX11_toss_X8_fail
set_option maxRecDepth 20000 in
theorem gX11_toss_X8_fail_u316X9 : GoodIn wsX11_toss (va_wsO RX11 316 RX9 "MoreThanSheHas$Person" ⟨"MoreThanSheHas$Person", "fail", "(I)V"⟩ yX8_fail wsX8_fail) := goodIn_app (goodIn_of _ (by decide +kernel)) ggX11_toss_X8_fail
set_option maxRecDepth 20000 in
theorem gX11_toss_X2_fail_u316X10 : GoodIn wsX11_toss (va_wsO RX11 316 RX10 "MoreThanSheHas$Person" ⟨"MoreThanSheHas$Person", "fail", "(I)V"⟩ yX2_fail wsX2_fail) := goodIn_app (goodIn_of _ (by decide +kernel)) ggX11_toss_X2_fail
set_option maxRecDepth 20000 in
theorem ggX11_toss_X0_price : GoodIn wsX11_toss wsX0_price := goodIn_r _ [65] (by decide +kernel) (by decide +kernel)
set_option maxRecDepth 20000 in
theorem gX11_toss_X0_price_u313X0 : GoodIn wsX11_toss (va_wsO RX11 313 RX0 "MoreThanSheHas$Person" ⟨"MoreThanSheHas$Person", "price", "(I)I"⟩ yX0_price wsX0_price) := goodIn_app (goodIn_of _ (by decide +kernel)) ggX11_toss_X0_price
set_option maxRecDepth 20000 in
theorem ggX11_toss_X3_price : GoodIn wsX11_toss wsX3_price := goodIn_r _ [70, 71, 72, 73, 74, 42, 75] (by decide +kernel) (by decide +kernel)
set_option maxRecDepth 20000 in
theorem gX11_toss_X3_price_u313X1 : GoodIn wsX11_toss (va_wsO RX11 313 RX1 "MoreThanSheHas$Person" ⟨"MoreThanSheHas$Person", "price", "(I)I"⟩ yX3_price wsX3_price) := goodIn_app (goodIn_of _ (by decide +kernel)) ggX11_toss_X3_price
set_option maxRecDepth 20000 in
theorem ggX11_toss_X2_price : GoodIn wsX11_toss wsX2_price := goodIn_r _ [78, 79, 61, 80, 81, 54, 66] (by decide +kernel) (by decide +kernel)
set_option maxRecDepth 20000 in
theorem gX11_toss_X2_price_u313X2 : GoodIn wsX11_toss (va_wsO RX11 313 RX2 "MoreThanSheHas$Person" ⟨"MoreThanSheHas$Person", "price", "(I)I"⟩ yX2_price wsX2_price) := goodIn_app (goodIn_of _ (by decide +kernel)) ggX11_toss_X2_price
set_option maxRecDepth 20000 in
theorem gX11_toss_X3_price_u313X3 : GoodIn wsX11_toss (va_wsO RX11 313 RX3 "MoreThanSheHas$Person" ⟨"MoreThanSheHas$Person", "price", "(I)I"⟩ yX3_price wsX3_price) := goodIn_app (goodIn_of _ (by decide +kernel)) ggX11_toss_X3_price
set_option maxRecDepth 20000 in
theorem ggX11_toss_X6_price : GoodIn wsX11_toss wsX6_price := goodIn_r _ [66] (by decide +kernel) (by decide +kernel)
set_option maxRecDepth 20000 in
theorem gX11_toss_X6_price : GoodIn wsX11_toss (wsV RX11 313 RX6 yX6_price wsX6_price) := goodIn_app (goodIn_of _ (by decide +kernel)) ggX11_toss_X6_price
set_option maxRecDepth 20000 in
theorem ggX11_toss_X8_price : GoodIn wsX11_toss wsX8_price := goodIn_r _ [75] (by decide +kernel) (by decide +kernel)
set_option maxRecDepth 20000 in
theorem gX11_toss_X8_price_u313X8 : GoodIn wsX11_toss (va_wsO RX11 313 RX8 "MoreThanSheHas$Person" ⟨"MoreThanSheHas$Person", "price", "(I)I"⟩ yX8_price wsX8_price) := goodIn_app (goodIn_of _ (by decide +kernel)) ggX11_toss_X8_price
set_option maxRecDepth 20000 in
theorem ggX11_toss_X9_price : GoodIn wsX11_toss wsX9_price := goodIn_r _ [89, 90, 72, 91, 74, 42, 75] (by decide +kernel) (by decide +kernel)
set_option maxRecDepth 20000 in
theorem gX11_toss_X9_price_u313X9 : GoodIn wsX11_toss (va_wsO RX11 313 RX9 "MoreThanSheHas$Person" ⟨"MoreThanSheHas$Person", "price", "(I)I"⟩ yX9_price wsX9_price) := goodIn_app (goodIn_of _ (by decide +kernel)) ggX11_toss_X9_price
set_option maxRecDepth 20000 in
theorem ggX11_toss_X10_price : GoodIn wsX11_toss wsX10_price := goodIn_r _ [95, 96, 97, 98, 77, 46, 78, 79, 61, 80, 81, 54, 66] (by decide +kernel) (by decide +kernel)
set_option maxRecDepth 20000 in
theorem gX11_toss_X10_price_u313X10 : GoodIn wsX11_toss (va_wsO RX11 313 RX10 "MoreThanSheHas$Person" ⟨"MoreThanSheHas$Person", "price", "(I)I"⟩ yX10_price wsX10_price) := goodIn_app (goodIn_of _ (by decide +kernel)) ggX11_toss_X10_price
theorem dX11_toss_0 : decode cX11_toss 0 = .ok (.aload_n 0, 1) := by decide +kernel
theorem dX11_toss_1 : decode cX11_toss 1 = .ok (.iload_n 1, 1) := by decide +kernel
theorem dX11_toss_2 : decode cX11_toss 2 = .ok (.invokevirtual 40, 3) := by decide +kernel
theorem dX11_toss_5 : decode cX11_toss 5 = .ok (.astore_n 2, 1) := by decide +kernel
theorem dX11_toss_6 : decode cX11_toss 6 = .ok (.aload_n 2, 1) := by decide +kernel
theorem dX11_toss_7 : decode cX11_toss 7 = .ok (.invokestatic 115, 3) := by decide +kernel
theorem dX11_toss_10 : decode cX11_toss 10 = .ok (.istore_n 3, 1) := by decide +kernel
theorem dX11_toss_11 : decode cX11_toss 11 = .ok (.iload_n 3, 1) := by decide +kernel
theorem dX11_toss_12 : decode cX11_toss 12 = .ok (.ifCond .eq 5, 3) := by decide +kernel
theorem dX11_toss_15 : decode cX11_toss 15 = .ok (.iload_n 3, 1) := by decide +kernel
theorem dX11_toss_16 : decode cX11_toss 16 = .ok (.ireturn, 1) := by decide +kernel
theorem dX11_toss_17 : decode cX11_toss 17 = .ok (.aload_n 0, 1) := by decide +kernel
theorem dX11_toss_18 : decode cX11_toss 18 = .ok (.getfield 12, 3) := by decide +kernel
theorem dX11_toss_21 : decode cX11_toss 21 = .ok (.aload_n 2, 1) := by decide +kernel
theorem dX11_toss_22 : decode cX11_toss 22 = .ok (.getfield 118, 3) := by decide +kernel
theorem dX11_toss_25 : decode cX11_toss 25 = .ok (.invokevirtual 96, 3) := by decide +kernel
theorem dX11_toss_28 : decode cX11_toss 28 = .ok (.astore 4, 2) := by decide +kernel
theorem dX11_toss_30 : decode cX11_toss 30 = .ok (.aload 4, 2) := by decide +kernel
theorem dX11_toss_32 : decode cX11_toss 32 = .ok (.aload_n 2, 1) := by decide +kernel
theorem dX11_toss_33 : decode cX11_toss 33 = .ok (.getfield 121, 3) := by decide +kernel
theorem dX11_toss_36 : decode cX11_toss 36 = .ok (.invokevirtual 316, 3) := by decide +kernel
theorem dX11_toss_39 : decode cX11_toss 39 = .ok (.goto 36, 3) := by decide +kernel
theorem dX11_toss_42 : decode cX11_toss 42 = .ok (.astore 5, 2) := by decide +kernel
theorem dX11_toss_44 : decode cX11_toss 44 = .ok (.sipush 200, 3) := by decide +kernel
theorem dX11_toss_47 : decode cX11_toss 47 = .ok (.aload 4, 2) := by decide +kernel
theorem dX11_toss_49 : decode cX11_toss 49 = .ok (.aload_n 2, 1) := by decide +kernel
theorem dX11_toss_50 : decode cX11_toss 50 = .ok (.getfield 121, 3) := by decide +kernel
theorem dX11_toss_53 : decode cX11_toss 53 = .ok (.invokevirtual 313, 3) := by decide +kernel
theorem dX11_toss_56 : decode cX11_toss 56 = .ok (.iadd, 1) := by decide +kernel
theorem dX11_toss_57 : decode cX11_toss 57 = .ok (.ireturn, 1) := by decide +kernel
theorem dX11_toss_58 : decode cX11_toss 58 = .ok (.astore 5, 2) := by decide +kernel
theorem dX11_toss_60 : decode cX11_toss 60 = .ok (.bipush 100, 2) := by decide +kernel
theorem dX11_toss_62 : decode cX11_toss 62 = .ok (.aload_n 2, 1) := by decide +kernel
theorem dX11_toss_63 : decode cX11_toss 63 = .ok (.getfield 121, 3) := by decide +kernel
theorem dX11_toss_66 : decode cX11_toss 66 = .ok (.iadd, 1) := by decide +kernel
theorem dX11_toss_67 : decode cX11_toss 67 = .ok (.ireturn, 1) := by decide +kernel
theorem dX11_toss_68 : decode cX11_toss 68 = .ok (.astore 5, 2) := by decide +kernel
theorem dX11_toss_70 : decode cX11_toss 70 = .ok (.aload_n 2, 1) := by decide +kernel
theorem dX11_toss_71 : decode cX11_toss 71 = .ok (.getfield 121, 3) := by decide +kernel
theorem dX11_toss_74 : decode cX11_toss 74 = .ok (.ireturn, 1) := by decide +kernel
theorem dX11_toss_75 : decode cX11_toss 75 = .ok (.bipush (-15), 2) := by decide +kernel
theorem dX11_toss_77 : decode cX11_toss 77 = .ok (.ireturn, 1) := by decide +kernel
theorem dX11_shelfOf_0 : decode cX11_shelfOf 0 = .ok (.iload_n 1, 1) := by decide +kernel
theorem dX11_shelfOf_1 : decode cX11_shelfOf 1 = .ok (.ifCond .lt 21, 3) := by decide +kernel
theorem dX11_shelfOf_4 : decode cX11_shelfOf 4 = .ok (.iload_n 1, 1) := by decide +kernel
theorem dX11_shelfOf_5 : decode cX11_shelfOf 5 = .ok (.aload_n 0, 1) := by decide +kernel
theorem dX11_shelfOf_6 : decode cX11_shelfOf 6 = .ok (.getfield 24, 3) := by decide +kernel
theorem dX11_shelfOf_9 : decode cX11_shelfOf 9 = .ok (.arraylength, 1) := by decide +kernel
theorem dX11_shelfOf_10 : decode cX11_shelfOf 10 = .ok (.if_icmp .ge 12, 3) := by decide +kernel
theorem dX11_shelfOf_13 : decode cX11_shelfOf 13 = .ok (.aload_n 0, 1) := by decide +kernel
theorem dX11_shelfOf_14 : decode cX11_shelfOf 14 = .ok (.getfield 24, 3) := by decide +kernel
theorem dX11_shelfOf_17 : decode cX11_shelfOf 17 = .ok (.iload_n 1, 1) := by decide +kernel
theorem dX11_shelfOf_18 : decode cX11_shelfOf 18 = .ok (.aaload, 1) := by decide +kernel
theorem dX11_shelfOf_19 : decode cX11_shelfOf 19 = .ok (.goto 4, 3) := by decide +kernel
theorem dX11_shelfOf_22 : decode cX11_shelfOf 22 = .ok (.aconst_null, 1) := by decide +kernel
theorem dX11_shelfOf_23 : decode cX11_shelfOf 23 = .ok (.areturn, 1) := by decide +kernel
set_option maxRecDepth 20000 in
theorem ggX11_rowRefusal_X7_isEmpty : GoodIn wsX11_rowRefusal wsX7_isEmpty := goodIn_r _ [5, 6, 11, 12, 13, 14, 15, 16] (by decide +kernel) (by decide +kernel)
set_option maxRecDepth 20000 in
theorem gX11_rowRefusal_X7_isEmpty : GoodIn wsX11_rowRefusal (wsV RX11 294 RX7 yX7_isEmpty wsX7_isEmpty) := goodIn_app (goodIn_of _ (by decide +kernel)) ggX11_rowRefusal_X7_isEmpty
set_option maxRecDepth 20000 in
theorem ggX11_rowRefusal_X7_holdsRow : GoodIn wsX11_rowRefusal wsX7_holdsRow := goodIn_r _ [10, 6, 11, 12, 13, 14, 15, 16] (by decide +kernel) (by decide +kernel)
set_option maxRecDepth 20000 in
theorem gX11_rowRefusal_X7_holdsRow : GoodIn wsX11_rowRefusal (wsV RX11 285 RX7 yX7_holdsRow wsX7_holdsRow) := goodIn_app (goodIn_of _ (by decide +kernel)) ggX11_rowRefusal_X7_holdsRow
theorem dX11_rowRefusal_0 : decode cX11_rowRefusal 0 = .ok (.aload_n 0, 1) := by decide +kernel
theorem dX11_rowRefusal_1 : decode cX11_rowRefusal 1 = .ok (.ifnonnull 5, 3) := by decide +kernel
theorem dX11_rowRefusal_4 : decode cX11_rowRefusal 4 = .ok (.iconst (-1), 1) := by decide +kernel
theorem dX11_rowRefusal_5 : decode cX11_rowRefusal 5 = .ok (.ireturn, 1) := by decide +kernel
theorem dX11_rowRefusal_6 : decode cX11_rowRefusal 6 = .ok (.aload_n 0, 1) := by decide +kernel
theorem dX11_rowRefusal_7 : decode cX11_rowRefusal 7 = .ok (.invokevirtual 294, 3) := by decide +kernel
theorem dX11_rowRefusal_10 : decode cX11_rowRefusal 10 = .ok (.ifCond .eq 6, 3) := by decide +kernel
theorem dX11_rowRefusal_13 : decode cX11_rowRefusal 13 = .ok (.bipush (-11), 2) := by decide +kernel
theorem dX11_rowRefusal_15 : decode cX11_rowRefusal 15 = .ok (.ireturn, 1) := by decide +kernel
theorem dX11_rowRefusal_16 : decode cX11_rowRefusal 16 = .ok (.aload_n 0, 1) := by decide +kernel
theorem dX11_rowRefusal_17 : decode cX11_rowRefusal 17 = .ok (.invokevirtual 285, 3) := by decide +kernel
theorem dX11_rowRefusal_20 : decode cX11_rowRefusal 20 = .ok (.ifCond .eq 7, 3) := by decide +kernel
theorem dX11_rowRefusal_23 : decode cX11_rowRefusal 23 = .ok (.iconst 0, 1) := by decide +kernel
theorem dX11_rowRefusal_24 : decode cX11_rowRefusal 24 = .ok (.goto 5, 3) := by decide +kernel
theorem dX11_rowRefusal_27 : decode cX11_rowRefusal 27 = .ok (.bipush (-12), 2) := by decide +kernel
theorem dX11_rowRefusal_29 : decode cX11_rowRefusal 29 = .ok (.ireturn, 1) := by decide +kernel
set_option maxRecDepth 20000 in
theorem ggX11_textRefusal_X11_rowRefusal : GoodIn wsX11_textRefusal wsX11_rowRefusal := goodIn_r _ [4, 5, 6, 7, 8, 9, 10, 11, 12, 13, 14, 20, 21, 22, 23, 24, 25] (by decide +kernel) (by decide +kernel)
set_option maxRecDepth 20000 in
theorem gX11_textRefusal_X11_rowRefusal : GoodIn wsX11_textRefusal (va_wsS RX11 212 yX11_rowRefusal wsX11_rowRefusal) := goodIn_app (goodIn_of _ (by decide +kernel)) ggX11_textRefusal_X11_rowRefusal
set_option maxRecDepth 20000 in
theorem ggX11_textRefusal_X7_holdsBytes : GoodIn wsX11_textRefusal wsX7_holdsBytes := goodIn_r _ [18, 10, 19, 20, 21, 22, 23, 24, 25] (by decide +kernel) (by decide +kernel)
set_option maxRecDepth 20000 in
theorem gX11_textRefusal_X7_holdsBytes : GoodIn wsX11_textRefusal (wsV RX11 322 RX7 yX7_holdsBytes wsX7_holdsBytes) := goodIn_app (goodIn_of _ (by decide +kernel)) ggX11_textRefusal_X7_holdsBytes
theorem dX11_textRefusal_0 : decode cX11_textRefusal 0 = .ok (.aload_n 0, 1) := by decide +kernel
theorem dX11_textRefusal_1 : decode cX11_textRefusal 1 = .ok (.invokestatic 212, 3) := by decide +kernel
theorem dX11_textRefusal_4 : decode cX11_textRefusal 4 = .ok (.istore_n 1, 1) := by decide +kernel
theorem dX11_textRefusal_5 : decode cX11_textRefusal 5 = .ok (.iload_n 1, 1) := by decide +kernel
theorem dX11_textRefusal_6 : decode cX11_textRefusal 6 = .ok (.ifCond .eq 5, 3) := by decide +kernel
theorem dX11_textRefusal_9 : decode cX11_textRefusal 9 = .ok (.iload_n 1, 1) := by decide +kernel
theorem dX11_textRefusal_10 : decode cX11_textRefusal 10 = .ok (.ireturn, 1) := by decide +kernel
theorem dX11_textRefusal_11 : decode cX11_textRefusal 11 = .ok (.aload_n 0, 1) := by decide +kernel
theorem dX11_textRefusal_12 : decode cX11_textRefusal 12 = .ok (.invokevirtual 322, 3) := by decide +kernel
theorem dX11_textRefusal_15 : decode cX11_textRefusal 15 = .ok (.ifCond .eq 7, 3) := by decide +kernel
theorem dX11_textRefusal_18 : decode cX11_textRefusal 18 = .ok (.iconst 0, 1) := by decide +kernel
theorem dX11_textRefusal_19 : decode cX11_textRefusal 19 = .ok (.goto 5, 3) := by decide +kernel
theorem dX11_textRefusal_22 : decode cX11_textRefusal 22 = .ok (.bipush (-12), 2) := by decide +kernel
theorem dX11_textRefusal_24 : decode cX11_textRefusal 24 = .ok (.ireturn, 1) := by decide +kernel
set_option maxRecDepth 20000 in
theorem ggX11_oneRefusal_X7_isEmpty : GoodIn wsX11_oneRefusal wsX7_isEmpty := goodIn_r _ [5, 6, 11, 12, 13, 14, 15, 16] (by decide +kernel) (by decide +kernel)
set_option maxRecDepth 20000 in
theorem gX11_oneRefusal_X7_isEmpty : GoodIn wsX11_oneRefusal (wsV RX11 294 RX7 yX7_isEmpty wsX7_isEmpty) := goodIn_app (goodIn_of _ (by decide +kernel)) ggX11_oneRefusal_X7_isEmpty
set_option maxRecDepth 20000 in
theorem ggX11_oneRefusal_X7_holdsRow : GoodIn wsX11_oneRefusal wsX7_holdsRow := goodIn_r _ [10, 6, 11, 12, 13, 14, 15, 16] (by decide +kernel) (by decide +kernel)
set_option maxRecDepth 20000 in
theorem gX11_oneRefusal_X7_holdsRow : GoodIn wsX11_oneRefusal (wsV RX11 285 RX7 yX7_holdsRow wsX7_holdsRow) := goodIn_app (goodIn_of _ (by decide +kernel)) ggX11_oneRefusal_X7_holdsRow
theorem dX11_oneRefusal_0 : decode cX11_oneRefusal 0 = .ok (.aload_n 0, 1) := by decide +kernel
theorem dX11_oneRefusal_1 : decode cX11_oneRefusal 1 = .ok (.ifnonnull 5, 3) := by decide +kernel
theorem dX11_oneRefusal_4 : decode cX11_oneRefusal 4 = .ok (.iconst (-1), 1) := by decide +kernel
theorem dX11_oneRefusal_5 : decode cX11_oneRefusal 5 = .ok (.ireturn, 1) := by decide +kernel
theorem dX11_oneRefusal_6 : decode cX11_oneRefusal 6 = .ok (.aload_n 0, 1) := by decide +kernel
theorem dX11_oneRefusal_7 : decode cX11_oneRefusal 7 = .ok (.invokevirtual 294, 3) := by decide +kernel
theorem dX11_oneRefusal_10 : decode cX11_oneRefusal 10 = .ok (.ifCond .eq 6, 3) := by decide +kernel
theorem dX11_oneRefusal_13 : decode cX11_oneRefusal 13 = .ok (.bipush (-11), 2) := by decide +kernel
theorem dX11_oneRefusal_15 : decode cX11_oneRefusal 15 = .ok (.ireturn, 1) := by decide +kernel
theorem dX11_oneRefusal_16 : decode cX11_oneRefusal 16 = .ok (.aload_n 0, 1) := by decide +kernel
theorem dX11_oneRefusal_17 : decode cX11_oneRefusal 17 = .ok (.invokevirtual 285, 3) := by decide +kernel
theorem dX11_oneRefusal_20 : decode cX11_oneRefusal 20 = .ok (.ifCond .eq 8, 3) := by decide +kernel
theorem dX11_oneRefusal_23 : decode cX11_oneRefusal 23 = .ok (.bipush (-12), 2) := by decide +kernel
theorem dX11_oneRefusal_25 : decode cX11_oneRefusal 25 = .ok (.goto 4, 3) := by decide +kernel
theorem dX11_oneRefusal_28 : decode cX11_oneRefusal 28 = .ok (.iconst 0, 1) := by decide +kernel
theorem dX11_oneRefusal_29 : decode cX11_oneRefusal 29 = .ok (.ireturn, 1) := by decide +kernel
set_option maxRecDepth 20000 in
theorem ggX11_fraction_X11_commonDivisor : GoodIn wsX11_fraction wsX11_commonDivisor := goodIn_r _ [5] (by decide +kernel) (by decide +kernel)
set_option maxRecDepth 20000 in
theorem gX11_fraction_X11_commonDivisor : GoodIn wsX11_fraction (va_wsS RX11 325 yX11_commonDivisor wsX11_commonDivisor) := goodIn_app (goodIn_of _ (by decide +kernel)) ggX11_fraction_X11_commonDivisor
theorem dX11_fraction_0 : decode cX11_fraction 0 = .ok (.iload 4, 2) := by decide +kernel
theorem dX11_fraction_2 : decode cX11_fraction 2 = .ok (.ifCond .eq 13, 3) := by decide +kernel
theorem dX11_fraction_5 : decode cX11_fraction 5 = .ok (.iload 4, 2) := by decide +kernel
theorem dX11_fraction_7 : decode cX11_fraction 7 = .ok (.iconst 1, 1) := by decide +kernel
theorem dX11_fraction_8 : decode cX11_fraction 8 = .ok (.if_icmp .eq 7, 3) := by decide +kernel
theorem dX11_fraction_11 : decode cX11_fraction 11 = .ok (.ldc2_w 158, 3) := by decide +kernel
theorem dX11_fraction_14 : decode cX11_fraction 14 = .ok (.lreturn, 1) := by decide +kernel
theorem dX11_fraction_15 : decode cX11_fraction 15 = .ok (.lload_n 0, 1) := by decide +kernel
theorem dX11_fraction_16 : decode cX11_fraction 16 = .ok (.lload_n 2, 1) := by decide +kernel
theorem dX11_fraction_17 : decode cX11_fraction 17 = .ok (.invokestatic 325, 3) := by decide +kernel
theorem dX11_fraction_20 : decode cX11_fraction 20 = .ok (.lstore 5, 2) := by decide +kernel
theorem dX11_fraction_22 : decode cX11_fraction 22 = .ok (.lload_n 2, 1) := by decide +kernel
theorem dX11_fraction_23 : decode cX11_fraction 23 = .ok (.lconst 0, 1) := by decide +kernel
theorem dX11_fraction_24 : decode cX11_fraction 24 = .ok (.lcmp, 1) := by decide +kernel
theorem dX11_fraction_25 : decode cX11_fraction 25 = .ok (.ifCond .eq 10, 3) := by decide +kernel
theorem dX11_fraction_28 : decode cX11_fraction 28 = .ok (.lload 5, 2) := by decide +kernel
theorem dX11_fraction_30 : decode cX11_fraction 30 = .ok (.lconst 0, 1) := by decide +kernel
theorem dX11_fraction_31 : decode cX11_fraction 31 = .ok (.lcmp, 1) := by decide +kernel
theorem dX11_fraction_32 : decode cX11_fraction 32 = .ok (.ifCond .ne 7, 3) := by decide +kernel
theorem dX11_fraction_35 : decode cX11_fraction 35 = .ok (.iload 4, 2) := by decide +kernel
theorem dX11_fraction_37 : decode cX11_fraction 37 = .ok (.i2l, 1) := by decide +kernel
theorem dX11_fraction_38 : decode cX11_fraction 38 = .ok (.lreturn, 1) := by decide +kernel
theorem dX11_fraction_39 : decode cX11_fraction 39 = .ok (.iload 4, 2) := by decide +kernel
theorem dX11_fraction_41 : decode cX11_fraction 41 = .ok (.ifCond .ne 10, 3) := by decide +kernel
theorem dX11_fraction_44 : decode cX11_fraction 44 = .ok (.lload_n 0, 1) := by decide +kernel
theorem dX11_fraction_45 : decode cX11_fraction 45 = .ok (.lload 5, 2) := by decide +kernel
theorem dX11_fraction_47 : decode cX11_fraction 47 = .ok (.ldiv, 1) := by decide +kernel
theorem dX11_fraction_48 : decode cX11_fraction 48 = .ok (.goto 7, 3) := by decide +kernel
theorem dX11_fraction_51 : decode cX11_fraction 51 = .ok (.lload_n 2, 1) := by decide +kernel
theorem dX11_fraction_52 : decode cX11_fraction 52 = .ok (.lload 5, 2) := by decide +kernel
theorem dX11_fraction_54 : decode cX11_fraction 54 = .ok (.ldiv, 1) := by decide +kernel
theorem dX11_fraction_55 : decode cX11_fraction 55 = .ok (.lreturn, 1) := by decide +kernel
theorem dX11_commonDivisor_0 : decode cX11_commonDivisor 0 = .ok (.lload_n 0, 1) := by decide +kernel
theorem dX11_commonDivisor_1 : decode cX11_commonDivisor 1 = .ok (.lstore 4, 2) := by decide +kernel
theorem dX11_commonDivisor_3 : decode cX11_commonDivisor 3 = .ok (.lload_n 2, 1) := by decide +kernel
theorem dX11_commonDivisor_4 : decode cX11_commonDivisor 4 = .ok (.lstore 6, 2) := by decide +kernel
theorem dX11_commonDivisor_6 : decode cX11_commonDivisor 6 = .ok (.iconst 0, 1) := by decide +kernel
theorem dX11_commonDivisor_7 : decode cX11_commonDivisor 7 = .ok (.istore 8, 2) := by decide +kernel
theorem dX11_commonDivisor_9 : decode cX11_commonDivisor 9 = .ok (.iload 8, 2) := by decide +kernel
theorem dX11_commonDivisor_11 : decode cX11_commonDivisor 11 = .ok (.bipush 100, 2) := by decide +kernel
theorem dX11_commonDivisor_13 : decode cX11_commonDivisor 13 = .ok (.if_icmp .ge 31, 3) := by decide +kernel
theorem dX11_commonDivisor_16 : decode cX11_commonDivisor 16 = .ok (.lload 6, 2) := by decide +kernel
theorem dX11_commonDivisor_18 : decode cX11_commonDivisor 18 = .ok (.lconst 0, 1) := by decide +kernel
theorem dX11_commonDivisor_19 : decode cX11_commonDivisor 19 = .ok (.lcmp, 1) := by decide +kernel
theorem dX11_commonDivisor_20 : decode cX11_commonDivisor 20 = .ok (.ifCond .eq 24, 3) := by decide +kernel
theorem dX11_commonDivisor_23 : decode cX11_commonDivisor 23 = .ok (.lload 4, 2) := by decide +kernel
theorem dX11_commonDivisor_25 : decode cX11_commonDivisor 25 = .ok (.lload 6, 2) := by decide +kernel
theorem dX11_commonDivisor_27 : decode cX11_commonDivisor 27 = .ok (.lrem, 1) := by decide +kernel
theorem dX11_commonDivisor_28 : decode cX11_commonDivisor 28 = .ok (.lstore 9, 2) := by decide +kernel
theorem dX11_commonDivisor_30 : decode cX11_commonDivisor 30 = .ok (.lload 6, 2) := by decide +kernel
theorem dX11_commonDivisor_32 : decode cX11_commonDivisor 32 = .ok (.lstore 4, 2) := by decide +kernel
theorem dX11_commonDivisor_34 : decode cX11_commonDivisor 34 = .ok (.lload 9, 2) := by decide +kernel
theorem dX11_commonDivisor_36 : decode cX11_commonDivisor 36 = .ok (.lstore 6, 2) := by decide +kernel
theorem dX11_commonDivisor_38 : decode cX11_commonDivisor 38 = .ok (.iinc 8 1, 3) := by decide +kernel
theorem dX11_commonDivisor_41 : decode cX11_commonDivisor 41 = .ok (.goto (-32), 3) := by decide +kernel
theorem dX11_commonDivisor_44 : decode cX11_commonDivisor 44 = .ok (.lload 4, 2) := by decide +kernel
theorem dX11_commonDivisor_46 : decode cX11_commonDivisor 46 = .ok (.lreturn, 1) := by decide +kernel
set_option maxRecDepth 20000 in
theorem ggX11_brokenAt_X7_size : GoodIn wsX11_brokenAt wsX7_size := goodIn_r _ [5, 6, 23, 24, 25, 26, 27, 28] (by decide +kernel) (by decide +kernel)
set_option maxRecDepth 20000 in
theorem gX11_brokenAt_X7_size : GoodIn wsX11_brokenAt (wsV RX11 55 RX7 yX7_size wsX7_size) := goodIn_app (goodIn_of _ (by decide +kernel)) ggX11_brokenAt_X7_size
set_option maxRecDepth 20000 in
theorem ggX11_brokenAt_X11_statementBrokenAt : GoodIn wsX11_brokenAt wsX11_statementBrokenAt := goodIn_r _ [10, 11, 12, 13, 4, 14, 15, 16, 17, 18, 19, 6, 20, 21, 9, 22, 23, 24, 25, 26, 27, 28] (by decide +kernel) (by decide +kernel)
set_option maxRecDepth 20000 in
theorem gX11_brokenAt_X11_statementBrokenAt : GoodIn wsX11_brokenAt (va_wsS RX11 329 yX11_statementBrokenAt wsX11_statementBrokenAt) := goodIn_app (goodIn_of _ (by decide +kernel)) ggX11_brokenAt_X11_statementBrokenAt
set_option maxRecDepth 20000 in
theorem ggX11_brokenAt_X7_at : GoodIn wsX11_brokenAt wsX7_at := goodIn_r _ [14, 15, 16, 17, 18, 4, 19, 6, 23, 24, 25, 26, 27, 28] (by decide +kernel) (by decide +kernel)
set_option maxRecDepth 20000 in
theorem gX11_brokenAt_X7_at : GoodIn wsX11_brokenAt (wsV RX11 63 RX7 yX7_at wsX7_at) := goodIn_app (goodIn_of _ (by decide +kernel)) ggX11_brokenAt_X7_at
set_option maxRecDepth 20000 in
theorem ggX11_brokenAt_X11_digitsBehind : GoodIn wsX11_brokenAt wsX11_digitsBehind := goodIn_r _ [22] (by decide +kernel) (by decide +kernel)
set_option maxRecDepth 20000 in
theorem gX11_brokenAt_X11_digitsBehind : GoodIn wsX11_brokenAt (va_wsS RX11 67 yX11_digitsBehind wsX11_digitsBehind) := goodIn_app (goodIn_of _ (by decide +kernel)) ggX11_brokenAt_X11_digitsBehind
theorem dX11_brokenAt_0 : decode cX11_brokenAt 0 = .ok (.iconst 0, 1) := by decide +kernel
theorem dX11_brokenAt_1 : decode cX11_brokenAt 1 = .ok (.istore_n 1, 1) := by decide +kernel
theorem dX11_brokenAt_2 : decode cX11_brokenAt 2 = .ok (.iconst 0, 1) := by decide +kernel
theorem dX11_brokenAt_3 : decode cX11_brokenAt 3 = .ok (.istore_n 2, 1) := by decide +kernel
theorem dX11_brokenAt_4 : decode cX11_brokenAt 4 = .ok (.iload_n 2, 1) := by decide +kernel
theorem dX11_brokenAt_5 : decode cX11_brokenAt 5 = .ok (.aload_n 0, 1) := by decide +kernel
theorem dX11_brokenAt_6 : decode cX11_brokenAt 6 = .ok (.invokevirtual 55, 3) := by decide +kernel
theorem dX11_brokenAt_9 : decode cX11_brokenAt 9 = .ok (.if_icmp .gt 49, 3) := by decide +kernel
theorem dX11_brokenAt_12 : decode cX11_brokenAt 12 = .ok (.iload_n 2, 1) := by decide +kernel
theorem dX11_brokenAt_13 : decode cX11_brokenAt 13 = .ok (.ifCond .le 14, 3) := by decide +kernel
theorem dX11_brokenAt_16 : decode cX11_brokenAt 16 = .ok (.iload_n 1, 1) := by decide +kernel
theorem dX11_brokenAt_17 : decode cX11_brokenAt 17 = .ok (.aload_n 0, 1) := by decide +kernel
theorem dX11_brokenAt_18 : decode cX11_brokenAt 18 = .ok (.invokevirtual 55, 3) := by decide +kernel
theorem dX11_brokenAt_21 : decode cX11_brokenAt 21 = .ok (.if_icmp .ne 6, 3) := by decide +kernel
theorem dX11_brokenAt_24 : decode cX11_brokenAt 24 = .ok (.bipush (-4), 2) := by decide +kernel
theorem dX11_brokenAt_26 : decode cX11_brokenAt 26 = .ok (.ireturn, 1) := by decide +kernel
theorem dX11_brokenAt_27 : decode cX11_brokenAt 27 = .ok (.aload_n 0, 1) := by decide +kernel
theorem dX11_brokenAt_28 : decode cX11_brokenAt 28 = .ok (.iload_n 1, 1) := by decide +kernel
theorem dX11_brokenAt_29 : decode cX11_brokenAt 29 = .ok (.invokestatic 329, 3) := by decide +kernel
theorem dX11_brokenAt_32 : decode cX11_brokenAt 32 = .ok (.istore_n 3, 1) := by decide +kernel
theorem dX11_brokenAt_33 : decode cX11_brokenAt 33 = .ok (.iload_n 3, 1) := by decide +kernel
theorem dX11_brokenAt_34 : decode cX11_brokenAt 34 = .ok (.ifCond .lt 5, 3) := by decide +kernel
theorem dX11_brokenAt_37 : decode cX11_brokenAt 37 = .ok (.iload_n 3, 1) := by decide +kernel
theorem dX11_brokenAt_38 : decode cX11_brokenAt 38 = .ok (.ireturn, 1) := by decide +kernel
theorem dX11_brokenAt_39 : decode cX11_brokenAt 39 = .ok (.iload_n 1, 1) := by decide +kernel
theorem dX11_brokenAt_40 : decode cX11_brokenAt 40 = .ok (.iconst 2, 1) := by decide +kernel
theorem dX11_brokenAt_41 : decode cX11_brokenAt 41 = .ok (.aload_n 0, 1) := by decide +kernel
theorem dX11_brokenAt_42 : decode cX11_brokenAt 42 = .ok (.iload_n 1, 1) := by decide +kernel
theorem dX11_brokenAt_43 : decode cX11_brokenAt 43 = .ok (.invokevirtual 63, 3) := by decide +kernel
theorem dX11_brokenAt_46 : decode cX11_brokenAt 46 = .ok (.invokestatic 67, 3) := by decide +kernel
theorem dX11_brokenAt_49 : decode cX11_brokenAt 49 = .ok (.iadd, 1) := by decide +kernel
theorem dX11_brokenAt_50 : decode cX11_brokenAt 50 = .ok (.iadd, 1) := by decide +kernel
theorem dX11_brokenAt_51 : decode cX11_brokenAt 51 = .ok (.istore_n 1, 1) := by decide +kernel
theorem dX11_brokenAt_52 : decode cX11_brokenAt 52 = .ok (.iinc 2 1, 3) := by decide +kernel
theorem dX11_brokenAt_55 : decode cX11_brokenAt 55 = .ok (.goto (-51), 3) := by decide +kernel
theorem dX11_brokenAt_58 : decode cX11_brokenAt 58 = .ok (.iload_n 1, 1) := by decide +kernel
theorem dX11_brokenAt_59 : decode cX11_brokenAt 59 = .ok (.ireturn, 1) := by decide +kernel
set_option maxRecDepth 20000 in
theorem ggX11_statementBrokenAt_X7_at : GoodIn wsX11_statementBrokenAt wsX7_at := goodIn_r _ [5, 6, 7, 8, 9, 4, 10, 11, 16, 17, 18, 19, 20, 21] (by decide +kernel) (by decide +kernel)
set_option maxRecDepth 20000 in
theorem gX11_statementBrokenAt_X7_at : GoodIn wsX11_statementBrokenAt (wsV RX11 63 RX7 yX7_at wsX7_at) := goodIn_app (goodIn_of _ (by decide +kernel)) ggX11_statementBrokenAt_X7_at
set_option maxRecDepth 20000 in
theorem ggX11_statementBrokenAt_X11_digitsBehind : GoodIn wsX11_statementBrokenAt wsX11_digitsBehind := goodIn_r _ [15] (by decide +kernel) (by decide +kernel)
set_option maxRecDepth 20000 in
theorem gX11_statementBrokenAt_X11_digitsBehind : GoodIn wsX11_statementBrokenAt (va_wsS RX11 67 yX11_digitsBehind wsX11_digitsBehind) := goodIn_app (goodIn_of _ (by decide +kernel)) ggX11_statementBrokenAt_X11_digitsBehind
theorem dX11_statementBrokenAt_0 : decode cX11_statementBrokenAt 0 = .ok (.aload_n 0, 1) := by decide +kernel
theorem dX11_statementBrokenAt_1 : decode cX11_statementBrokenAt 1 = .ok (.iload_n 1, 1) := by decide +kernel
theorem dX11_statementBrokenAt_2 : decode cX11_statementBrokenAt 2 = .ok (.invokevirtual 63, 3) := by decide +kernel
theorem dX11_statementBrokenAt_5 : decode cX11_statementBrokenAt 5 = .ok (.invokestatic 67, 3) := by decide +kernel
theorem dX11_statementBrokenAt_8 : decode cX11_statementBrokenAt 8 = .ok (.istore_n 2, 1) := by decide +kernel
theorem dX11_statementBrokenAt_9 : decode cX11_statementBrokenAt 9 = .ok (.iload_n 2, 1) := by decide +kernel
theorem dX11_statementBrokenAt_10 : decode cX11_statementBrokenAt 10 = .ok (.ifCond .ne 5, 3) := by decide +kernel
theorem dX11_statementBrokenAt_13 : decode cX11_statementBrokenAt 13 = .ok (.iload_n 1, 1) := by decide +kernel
theorem dX11_statementBrokenAt_14 : decode cX11_statementBrokenAt 14 = .ok (.ireturn, 1) := by decide +kernel
theorem dX11_statementBrokenAt_15 : decode cX11_statementBrokenAt 15 = .ok (.iload_n 1, 1) := by decide +kernel
theorem dX11_statementBrokenAt_16 : decode cX11_statementBrokenAt 16 = .ok (.iconst 1, 1) := by decide +kernel
theorem dX11_statementBrokenAt_17 : decode cX11_statementBrokenAt 17 = .ok (.iadd, 1) := by decide +kernel
theorem dX11_statementBrokenAt_18 : decode cX11_statementBrokenAt 18 = .ok (.istore_n 3, 1) := by decide +kernel
theorem dX11_statementBrokenAt_19 : decode cX11_statementBrokenAt 19 = .ok (.iload_n 3, 1) := by decide +kernel
theorem dX11_statementBrokenAt_20 : decode cX11_statementBrokenAt 20 = .ok (.iload_n 1, 1) := by decide +kernel
theorem dX11_statementBrokenAt_21 : decode cX11_statementBrokenAt 21 = .ok (.iload_n 2, 1) := by decide +kernel
theorem dX11_statementBrokenAt_22 : decode cX11_statementBrokenAt 22 = .ok (.iadd, 1) := by decide +kernel
theorem dX11_statementBrokenAt_23 : decode cX11_statementBrokenAt 23 = .ok (.if_icmp .gt 31, 3) := by decide +kernel
theorem dX11_statementBrokenAt_26 : decode cX11_statementBrokenAt 26 = .ok (.aload_n 0, 1) := by decide +kernel
theorem dX11_statementBrokenAt_27 : decode cX11_statementBrokenAt 27 = .ok (.iload_n 3, 1) := by decide +kernel
theorem dX11_statementBrokenAt_28 : decode cX11_statementBrokenAt 28 = .ok (.invokevirtual 63, 3) := by decide +kernel
theorem dX11_statementBrokenAt_31 : decode cX11_statementBrokenAt 31 = .ok (.bipush 48, 2) := by decide +kernel
theorem dX11_statementBrokenAt_33 : decode cX11_statementBrokenAt 33 = .ok (.if_icmp .lt 13, 3) := by decide +kernel
theorem dX11_statementBrokenAt_36 : decode cX11_statementBrokenAt 36 = .ok (.aload_n 0, 1) := by decide +kernel
theorem dX11_statementBrokenAt_37 : decode cX11_statementBrokenAt 37 = .ok (.iload_n 3, 1) := by decide +kernel
theorem dX11_statementBrokenAt_38 : decode cX11_statementBrokenAt 38 = .ok (.invokevirtual 63, 3) := by decide +kernel
theorem dX11_statementBrokenAt_41 : decode cX11_statementBrokenAt 41 = .ok (.bipush 57, 2) := by decide +kernel
theorem dX11_statementBrokenAt_43 : decode cX11_statementBrokenAt 43 = .ok (.if_icmp .le 5, 3) := by decide +kernel
theorem dX11_statementBrokenAt_46 : decode cX11_statementBrokenAt 46 = .ok (.iload_n 3, 1) := by decide +kernel
theorem dX11_statementBrokenAt_47 : decode cX11_statementBrokenAt 47 = .ok (.ireturn, 1) := by decide +kernel
theorem dX11_statementBrokenAt_48 : decode cX11_statementBrokenAt 48 = .ok (.iinc 3 1, 3) := by decide +kernel
theorem dX11_statementBrokenAt_51 : decode cX11_statementBrokenAt 51 = .ok (.goto (-32), 3) := by decide +kernel
theorem dX11_statementBrokenAt_54 : decode cX11_statementBrokenAt 54 = .ok (.iload_n 1, 1) := by decide +kernel
theorem dX11_statementBrokenAt_55 : decode cX11_statementBrokenAt 55 = .ok (.iload_n 2, 1) := by decide +kernel
theorem dX11_statementBrokenAt_56 : decode cX11_statementBrokenAt 56 = .ok (.iadd, 1) := by decide +kernel
theorem dX11_statementBrokenAt_57 : decode cX11_statementBrokenAt 57 = .ok (.iconst 1, 1) := by decide +kernel
theorem dX11_statementBrokenAt_58 : decode cX11_statementBrokenAt 58 = .ok (.iadd, 1) := by decide +kernel
theorem dX11_statementBrokenAt_59 : decode cX11_statementBrokenAt 59 = .ok (.istore_n 3, 1) := by decide +kernel
theorem dX11_statementBrokenAt_60 : decode cX11_statementBrokenAt 60 = .ok (.aload_n 0, 1) := by decide +kernel
theorem dX11_statementBrokenAt_61 : decode cX11_statementBrokenAt 61 = .ok (.iload_n 3, 1) := by decide +kernel
theorem dX11_statementBrokenAt_62 : decode cX11_statementBrokenAt 62 = .ok (.invokevirtual 63, 3) := by decide +kernel
theorem dX11_statementBrokenAt_65 : decode cX11_statementBrokenAt 65 = .ok (.bipush 59, 2) := by decide +kernel
theorem dX11_statementBrokenAt_67 : decode cX11_statementBrokenAt 67 = .ok (.if_icmp .ne 8, 3) := by decide +kernel
theorem dX11_statementBrokenAt_70 : decode cX11_statementBrokenAt 70 = .ok (.bipush (-4), 2) := by decide +kernel
theorem dX11_statementBrokenAt_72 : decode cX11_statementBrokenAt 72 = .ok (.goto 4, 3) := by decide +kernel
theorem dX11_statementBrokenAt_75 : decode cX11_statementBrokenAt 75 = .ok (.iload_n 3, 1) := by decide +kernel
theorem dX11_statementBrokenAt_76 : decode cX11_statementBrokenAt 76 = .ok (.ireturn, 1) := by decide +kernel
theorem dX11_digitsBehind_0 : decode cX11_digitsBehind 0 = .ok (.iload_n 0, 1) := by decide +kernel
theorem dX11_digitsBehind_1 : decode cX11_digitsBehind 1 = .ok (.tableswitch 77 100 112 #[73, 77, 77, 77, 67, 77, 77, 75, 71, 77, 77, 77, 69], 67) := by decide +kernel
theorem dX11_digitsBehind_68 : decode cX11_digitsBehind 68 = .ok (.iconst 1, 1) := by decide +kernel
theorem dX11_digitsBehind_69 : decode cX11_digitsBehind 69 = .ok (.ireturn, 1) := by decide +kernel
theorem dX11_digitsBehind_70 : decode cX11_digitsBehind 70 = .ok (.iconst 2, 1) := by decide +kernel
theorem dX11_digitsBehind_71 : decode cX11_digitsBehind 71 = .ok (.ireturn, 1) := by decide +kernel
theorem dX11_digitsBehind_72 : decode cX11_digitsBehind 72 = .ok (.iconst 2, 1) := by decide +kernel
theorem dX11_digitsBehind_73 : decode cX11_digitsBehind 73 = .ok (.ireturn, 1) := by decide +kernel
theorem dX11_digitsBehind_74 : decode cX11_digitsBehind 74 = .ok (.iconst 2, 1) := by decide +kernel
theorem dX11_digitsBehind_75 : decode cX11_digitsBehind 75 = .ok (.ireturn, 1) := by decide +kernel
theorem dX11_digitsBehind_76 : decode cX11_digitsBehind 76 = .ok (.iconst 3, 1) := by decide +kernel
theorem dX11_digitsBehind_77 : decode cX11_digitsBehind 77 = .ok (.ireturn, 1) := by decide +kernel
theorem dX11_digitsBehind_78 : decode cX11_digitsBehind 78 = .ok (.iconst 0, 1) := by decide +kernel
theorem dX11_digitsBehind_79 : decode cX11_digitsBehind 79 = .ok (.ireturn, 1) := by decide +kernel
set_option maxRecDepth 20000 in
theorem ggX11_happens_X7_at : GoodIn wsX11_happens wsX7_at := goodIn_r _ [6, 7, 8, 9, 10, 5, 11, 12, 191, 192, 193, 194, 195, 196] (by decide +kernel) (by decide +kernel)
set_option maxRecDepth 20000 in
theorem gX11_happens_X7_at : GoodIn wsX11_happens (wsV RX11 63 RX7 yX7_at wsX7_at) := goodIn_app (goodIn_of _ (by decide +kernel)) ggX11_happens_X7_at
set_option maxRecDepth 20000 in
theorem ggX11_happens_X5_arrive : GoodIn wsX11_happens wsX5_arrive := goodIn_r _ [17, 18, 19, 20, 21, 22, 23, 24, 25, 26, 16, 27, 28, 29, 30, 31, 32, 33, 34, 35, 36, 37, 38, 39, 40, 41, 42, 43, 44, 45, 46, 47, 48, 49, 50, 51, 52, 53, 54, 55, 56, 57, 58, 197, 198, 199, 200, 201, 202, 203, 204, 205, 206] (by decide +kernel) (by decide +kernel)
set_option maxRecDepth 20000 in
theorem gX11_happens_X5_arrive : GoodIn wsX11_happens (wsV RX11 124 RX5 yX5_arrive wsX5_arrive) := goodIn_app (goodIn_of _ (by decide +kernel)) ggX11_happens_X5_arrive
set_option maxRecDepth 20000 in
theorem ggX11_happens_X5_join : GoodIn wsX11_happens wsX5_join := goodIn_r _ [62, 18, 32, 33, 34, 16, 35, 63, 64, 65, 66, 67, 68, 69, 70, 71, 72, 73, 74, 75, 76, 197, 198, 199, 200, 201, 202, 203, 204, 205, 206] (by decide +kernel) (by decide +kernel)
set_option maxRecDepth 20000 in
theorem gX11_happens_X5_join : GoodIn wsX11_happens (wsV RX11 127 RX5 yX5_join wsX5_join) := goodIn_app (goodIn_of _ (by decide +kernel)) ggX11_happens_X5_join
set_option maxRecDepth 20000 in
theorem ggX11_happens_X5_inform : GoodIn wsX11_happens wsX5_inform := goodIn_r _ [80, 31, 32, 33, 34, 16, 35, 18, 81, 82, 83, 84, 30, 197, 198, 199, 200, 201, 202, 203, 204, 205, 206] (by decide +kernel) (by decide +kernel)
set_option maxRecDepth 20000 in
theorem gX11_happens_X5_inform : GoodIn wsX11_happens (wsV RX11 130 RX5 yX5_inform wsX5_inform) := goodIn_app (goodIn_of _ (by decide +kernel)) ggX11_happens_X5_inform
set_option maxRecDepth 20000 in
theorem ggX11_happens_X5_change : GoodIn wsX11_happens wsX5_change := goodIn_r _ [27, 28, 29, 30, 31, 32, 33, 34, 16, 35, 18, 19, 20, 21, 22, 23, 36, 37, 38, 39, 40, 41, 42, 43, 44, 45, 46, 47, 48, 49, 50, 51, 52, 53, 54, 55, 56, 57, 58, 197, 198, 199, 200, 201, 202, 203, 204, 205, 206] (by decide +kernel) (by decide +kernel)
set_option maxRecDepth 20000 in
theorem gX11_happens_X5_change : GoodIn wsX11_happens (wsV RX11 222 RX5 yX5_change wsX5_change) := goodIn_app (goodIn_of _ (by decide +kernel)) ggX11_happens_X5_change
set_option maxRecDepth 20000 in
theorem ggX11_happens_X5_goOn : GoodIn wsX11_happens wsX5_goOn := goodIn_r _ [89, 90, 31, 91, 92, 93, 16, 94, 18, 30, 95, 96, 97, 98, 99, 74, 75, 66, 76, 68, 100, 101, 102, 103, 104, 105, 106, 107, 28, 36, 37, 38, 39, 40, 108, 109, 110, 111, 29, 112, 113, 114, 115, 116, 117, 118, 119, 120, 121, 122, 123, 124, 125, 126, 127, 128, 129, 130, 131, 132, 133, 134, 135, 136, 137, 138, 139, 140, 45, 141, 142, 143, 144, 145, 146, 147, 148, 149, 150, 151, 152, 153, 154, 155, 156, 73, 157, 158, 159, 160, 161, 162, 163, 164, 165, 166, 167, 168, 169, 170, 171, 172, 173, 174, 175, 176, 177, 178, 179, 180, 181, 182, 197, 198, 199, 200, 201, 202, 203, 204, 205, 206] (by decide +kernel) (by decide +kernel)
set_option maxRecDepth 20000 in
theorem gX11_happens_X5_goOn : GoodIn wsX11_happens (wsV RX11 133 RX5 yX5_goOn wsX5_goOn) := goodIn_app (goodIn_of _ (by decide +kernel)) ggX11_happens_X5_goOn
theorem dX11_happens_0 : decode cX11_happens 0 = .ok (.aload_n 1, 1) := by decide +kernel
theorem dX11_happens_1 : decode cX11_happens 1 = .ok (.iload_n 2, 1) := by decide +kernel
theorem dX11_happens_2 : decode cX11_happens 2 = .ok (.iconst 1, 1) := by decide +kernel
theorem dX11_happens_3 : decode cX11_happens 3 = .ok (.iadd, 1) := by decide +kernel
theorem dX11_happens_4 : decode cX11_happens 4 = .ok (.invokevirtual 63, 3) := by decide +kernel
theorem dX11_happens_7 : decode cX11_happens 7 = .ok (.bipush 48, 2) := by decide +kernel
theorem dX11_happens_9 : decode cX11_happens 9 = .ok (.isub, 1) := by decide +kernel
theorem dX11_happens_10 : decode cX11_happens 10 = .ok (.istore_n 3, 1) := by decide +kernel
theorem dX11_happens_11 : decode cX11_happens 11 = .ok (.aload_n 1, 1) := by decide +kernel
theorem dX11_happens_12 : decode cX11_happens 12 = .ok (.iload_n 2, 1) := by decide +kernel
theorem dX11_happens_13 : decode cX11_happens 13 = .ok (.iconst 2, 1) := by decide +kernel
theorem dX11_happens_14 : decode cX11_happens 14 = .ok (.iadd, 1) := by decide +kernel
theorem dX11_happens_15 : decode cX11_happens 15 = .ok (.invokevirtual 63, 3) := by decide +kernel
theorem dX11_happens_18 : decode cX11_happens 18 = .ok (.bipush 48, 2) := by decide +kernel
theorem dX11_happens_20 : decode cX11_happens 20 = .ok (.isub, 1) := by decide +kernel
theorem dX11_happens_21 : decode cX11_happens 21 = .ok (.istore 4, 2) := by decide +kernel
theorem dX11_happens_23 : decode cX11_happens 23 = .ok (.aload_n 1, 1) := by decide +kernel
theorem dX11_happens_24 : decode cX11_happens 24 = .ok (.iload_n 2, 1) := by decide +kernel
theorem dX11_happens_25 : decode cX11_happens 25 = .ok (.invokevirtual 63, 3) := by decide +kernel
theorem dX11_happens_28 : decode cX11_happens 28 = .ok (.tableswitch 135 100 112 #[120, 135, 135, 135, 90, 135, 135, 99, 79, 135, 135, 135, 68], 68) := by decide +kernel
theorem dX11_happens_96 : decode cX11_happens 96 = .ok (.aload_n 0, 1) := by decide +kernel
theorem dX11_happens_97 : decode cX11_happens 97 = .ok (.getfield 16, 3) := by decide +kernel
theorem dX11_happens_100 : decode cX11_happens 100 = .ok (.iload_n 3, 1) := by decide +kernel
theorem dX11_happens_101 : decode cX11_happens 101 = .ok (.iload 4, 2) := by decide +kernel
theorem dX11_happens_103 : decode cX11_happens 103 = .ok (.invokevirtual 124, 3) := by decide +kernel
theorem dX11_happens_106 : decode cX11_happens 106 = .ok (.ireturn, 1) := by decide +kernel
theorem dX11_happens_107 : decode cX11_happens 107 = .ok (.aload_n 0, 1) := by decide +kernel
theorem dX11_happens_108 : decode cX11_happens 108 = .ok (.getfield 16, 3) := by decide +kernel
theorem dX11_happens_111 : decode cX11_happens 111 = .ok (.iload_n 3, 1) := by decide +kernel
theorem dX11_happens_112 : decode cX11_happens 112 = .ok (.iload 4, 2) := by decide +kernel
theorem dX11_happens_114 : decode cX11_happens 114 = .ok (.invokevirtual 127, 3) := by decide +kernel
theorem dX11_happens_117 : decode cX11_happens 117 = .ok (.ireturn, 1) := by decide +kernel
theorem dX11_happens_118 : decode cX11_happens 118 = .ok (.aload_n 0, 1) := by decide +kernel
theorem dX11_happens_119 : decode cX11_happens 119 = .ok (.getfield 16, 3) := by decide +kernel
theorem dX11_happens_122 : decode cX11_happens 122 = .ok (.iload_n 3, 1) := by decide +kernel
theorem dX11_happens_123 : decode cX11_happens 123 = .ok (.invokevirtual 130, 3) := by decide +kernel
theorem dX11_happens_126 : decode cX11_happens 126 = .ok (.ireturn, 1) := by decide +kernel
theorem dX11_happens_127 : decode cX11_happens 127 = .ok (.aload_n 0, 1) := by decide +kernel
theorem dX11_happens_128 : decode cX11_happens 128 = .ok (.getfield 16, 3) := by decide +kernel
theorem dX11_happens_131 : decode cX11_happens 131 = .ok (.iload_n 3, 1) := by decide +kernel
theorem dX11_happens_132 : decode cX11_happens 132 = .ok (.iload 4, 2) := by decide +kernel
theorem dX11_happens_134 : decode cX11_happens 134 = .ok (.aload_n 1, 1) := by decide +kernel
theorem dX11_happens_135 : decode cX11_happens 135 = .ok (.iload_n 2, 1) := by decide +kernel
theorem dX11_happens_136 : decode cX11_happens 136 = .ok (.iconst 3, 1) := by decide +kernel
theorem dX11_happens_137 : decode cX11_happens 137 = .ok (.iadd, 1) := by decide +kernel
theorem dX11_happens_138 : decode cX11_happens 138 = .ok (.invokevirtual 63, 3) := by decide +kernel
theorem dX11_happens_141 : decode cX11_happens 141 = .ok (.bipush 48, 2) := by decide +kernel
theorem dX11_happens_143 : decode cX11_happens 143 = .ok (.isub, 1) := by decide +kernel
theorem dX11_happens_144 : decode cX11_happens 144 = .ok (.invokevirtual 222, 3) := by decide +kernel
theorem dX11_happens_147 : decode cX11_happens 147 = .ok (.ireturn, 1) := by decide +kernel
theorem dX11_happens_148 : decode cX11_happens 148 = .ok (.aload_n 0, 1) := by decide +kernel
theorem dX11_happens_149 : decode cX11_happens 149 = .ok (.getfield 16, 3) := by decide +kernel
theorem dX11_happens_152 : decode cX11_happens 152 = .ok (.bipush 10, 2) := by decide +kernel
theorem dX11_happens_154 : decode cX11_happens 154 = .ok (.iload_n 3, 1) := by decide +kernel
theorem dX11_happens_155 : decode cX11_happens 155 = .ok (.imul, 1) := by decide +kernel
theorem dX11_happens_156 : decode cX11_happens 156 = .ok (.iload 4, 2) := by decide +kernel
theorem dX11_happens_158 : decode cX11_happens 158 = .ok (.iadd, 1) := by decide +kernel
theorem dX11_happens_159 : decode cX11_happens 159 = .ok (.invokevirtual 133, 3) := by decide +kernel
theorem dX11_happens_162 : decode cX11_happens 162 = .ok (.ireturn, 1) := by decide +kernel
theorem dX11_happens_163 : decode cX11_happens 163 = .ok (.iconst (-1), 1) := by decide +kernel
theorem dX11_happens_164 : decode cX11_happens 164 = .ok (.ireturn, 1) := by decide +kernel
set_option maxRecDepth 20000 in
theorem ggX11_sharesAround_X5_people : GoodIn wsX11_sharesAround wsX5_people := goodIn_r _ [6, 7, 43, 44, 45, 46, 47, 48, 49, 50, 51, 52] (by decide +kernel) (by decide +kernel)
set_option maxRecDepth 20000 in
theorem gX11_sharesAround_X5_people : GoodIn wsX11_sharesAround (wsV RX11 139 RX5 yX5_people wsX5_people) := goodIn_app (goodIn_of _ (by decide +kernel)) ggX11_sharesAround_X5_people
set_option maxRecDepth 20000 in
theorem ggX11_sharesAround_X4_number : GoodIn wsX11_sharesAround wsX4_number := goodIn_r _ [12, 13, 14, 15, 11, 16, 17, 18, 19, 20, 21, 22, 23, 24, 50, 51, 52] (by decide +kernel) (by decide +kernel)
set_option maxRecDepth 20000 in
theorem gX11_sharesAround_X4_number : GoodIn wsX11_sharesAround (wsV RX11 84 RX4 yX4_number wsX4_number) := goodIn_app (goodIn_of _ (by decide +kernel)) ggX11_sharesAround_X4_number
set_option maxRecDepth 20000 in
theorem ggX11_sharesAround_X4_numbersAround : GoodIn wsX11_sharesAround wsX4_numbersAround := goodIn_r _ [28, 29, 30, 31, 32, 11, 33, 13, 14, 15, 16, 17, 34, 9, 10, 12, 18, 19, 20, 21, 22, 23, 24, 50, 51, 52] (by decide +kernel) (by decide +kernel)
set_option maxRecDepth 20000 in
theorem gX11_sharesAround_X4_numbersAround : GoodIn wsX11_sharesAround (wsV RX11 332 RX4 yX4_numbersAround wsX4_numbersAround) := goodIn_app (goodIn_of _ (by decide +kernel)) ggX11_sharesAround_X4_numbersAround
theorem dX11_sharesAround_0 : decode cX11_sharesAround 0 = .ok (.lconst 0, 1) := by decide +kernel
theorem dX11_sharesAround_1 : decode cX11_sharesAround 1 = .ok (.lstore_n 1, 1) := by decide +kernel
theorem dX11_sharesAround_2 : decode cX11_sharesAround 2 = .ok (.iconst 0, 1) := by decide +kernel
theorem dX11_sharesAround_3 : decode cX11_sharesAround 3 = .ok (.istore_n 3, 1) := by decide +kernel
theorem dX11_sharesAround_4 : decode cX11_sharesAround 4 = .ok (.iload_n 3, 1) := by decide +kernel
theorem dX11_sharesAround_5 : decode cX11_sharesAround 5 = .ok (.aload_n 0, 1) := by decide +kernel
theorem dX11_sharesAround_6 : decode cX11_sharesAround 6 = .ok (.getfield 12, 3) := by decide +kernel
theorem dX11_sharesAround_9 : decode cX11_sharesAround 9 = .ok (.invokevirtual 139, 3) := by decide +kernel
theorem dX11_sharesAround_12 : decode cX11_sharesAround 12 = .ok (.if_icmp .ge 50, 3) := by decide +kernel
theorem dX11_sharesAround_15 : decode cX11_sharesAround 15 = .ok (.aload_n 0, 1) := by decide +kernel
theorem dX11_sharesAround_16 : decode cX11_sharesAround 16 = .ok (.getfield 12, 3) := by decide +kernel
theorem dX11_sharesAround_19 : decode cX11_sharesAround 19 = .ok (.getfield 80, 3) := by decide +kernel
theorem dX11_sharesAround_22 : decode cX11_sharesAround 22 = .ok (.iload_n 3, 1) := by decide +kernel
theorem dX11_sharesAround_23 : decode cX11_sharesAround 23 = .ok (.invokevirtual 84, 3) := by decide +kernel
theorem dX11_sharesAround_26 : decode cX11_sharesAround 26 = .ok (.istore 4, 2) := by decide +kernel
theorem dX11_sharesAround_28 : decode cX11_sharesAround 28 = .ok (.iload 4, 2) := by decide +kernel
theorem dX11_sharesAround_30 : decode cX11_sharesAround 30 = .ok (.ifCond .le 26, 3) := by decide +kernel
theorem dX11_sharesAround_33 : decode cX11_sharesAround 33 = .ok (.lload_n 1, 1) := by decide +kernel
theorem dX11_sharesAround_34 : decode cX11_sharesAround 34 = .ok (.aload_n 0, 1) := by decide +kernel
theorem dX11_sharesAround_35 : decode cX11_sharesAround 35 = .ok (.getfield 12, 3) := by decide +kernel
theorem dX11_sharesAround_38 : decode cX11_sharesAround 38 = .ok (.getfield 80, 3) := by decide +kernel
theorem dX11_sharesAround_41 : decode cX11_sharesAround 41 = .ok (.iload_n 3, 1) := by decide +kernel
theorem dX11_sharesAround_42 : decode cX11_sharesAround 42 = .ok (.invokevirtual 332, 3) := by decide +kernel
theorem dX11_sharesAround_45 : decode cX11_sharesAround 45 = .ok (.i2l, 1) := by decide +kernel
theorem dX11_sharesAround_46 : decode cX11_sharesAround 46 = .ok (.sipush 840, 3) := by decide +kernel
theorem dX11_sharesAround_49 : decode cX11_sharesAround 49 = .ok (.iload 4, 2) := by decide +kernel
theorem dX11_sharesAround_51 : decode cX11_sharesAround 51 = .ok (.idiv, 1) := by decide +kernel
theorem dX11_sharesAround_52 : decode cX11_sharesAround 52 = .ok (.i2l, 1) := by decide +kernel
theorem dX11_sharesAround_53 : decode cX11_sharesAround 53 = .ok (.lmul, 1) := by decide +kernel
theorem dX11_sharesAround_54 : decode cX11_sharesAround 54 = .ok (.ladd, 1) := by decide +kernel
theorem dX11_sharesAround_55 : decode cX11_sharesAround 55 = .ok (.lstore_n 1, 1) := by decide +kernel
theorem dX11_sharesAround_56 : decode cX11_sharesAround 56 = .ok (.iinc 3 1, 3) := by decide +kernel
theorem dX11_sharesAround_59 : decode cX11_sharesAround 59 = .ok (.goto (-55), 3) := by decide +kernel
theorem dX11_sharesAround_62 : decode cX11_sharesAround 62 = .ok (.lload_n 1, 1) := by decide +kernel
theorem dX11_sharesAround_63 : decode cX11_sharesAround 63 = .ok (.lreturn, 1) := by decide +kernel
set_option maxRecDepth 20000 in
theorem ggX11_askOn_J7_fill_d0a16 : GoodIn wsX11_askOn wsJ7_fill_d0a16 := goodIn_r _ [12] (by decide +kernel) (by decide +kernel)
set_option maxRecDepth 20000 in
theorem gX11_askOn_J7_fill_d0a16 : GoodIn wsX11_askOn (va_wsS RX11 191 yJ7_fill_d0a16 wsJ7_fill_d0a16) := goodIn_app (goodIn_of _ (by decide +kernel)) ggX11_askOn_J7_fill_d0a16
set_option maxRecDepth 20000 in
theorem ggX11_askOn_X4_number : GoodIn wsX11_askOn wsX4_number := goodIn_r _ [17, 18, 19, 20, 16, 21, 22, 23, 24, 25, 26, 27, 28, 29, 49, 50, 51] (by decide +kernel) (by decide +kernel)
set_option maxRecDepth 20000 in
theorem gX11_askOn_X4_number : GoodIn wsX11_askOn (wsV RX11 84 RX4 yX4_number wsX4_number) := goodIn_app (goodIn_of _ (by decide +kernel)) ggX11_askOn_X4_number
set_option maxRecDepth 20000 in
theorem ggX11_askOn_X4_between : GoodIn wsX11_askOn wsX4_between := goodIn_r _ [33, 18, 19, 20, 16, 21, 22, 49, 50, 51] (by decide +kernel) (by decide +kernel)
set_option maxRecDepth 20000 in
theorem gX11_askOn_X4_between : GoodIn wsX11_askOn (wsV RX11 335 RX4 yX4_between wsX4_between) := goodIn_app (goodIn_of _ (by decide +kernel)) ggX11_askOn_X4_between
theorem dX11_askOn_0 : decode cX11_askOn 0 = .ok (.aload_n 0, 1) := by decide +kernel
theorem dX11_askOn_1 : decode cX11_askOn 1 = .ok (.getfield 36, 3) := by decide +kernel
theorem dX11_askOn_4 : decode cX11_askOn 4 = .ok (.lconst 0, 1) := by decide +kernel
theorem dX11_askOn_5 : decode cX11_askOn 5 = .ok (.invokestatic 191, 3) := by decide +kernel
theorem dX11_askOn_8 : decode cX11_askOn 8 = .ok (.iconst 0, 1) := by decide +kernel
theorem dX11_askOn_9 : decode cX11_askOn 9 = .ok (.istore_n 1, 1) := by decide +kernel
theorem dX11_askOn_10 : decode cX11_askOn 10 = .ok (.iload_n 1, 1) := by decide +kernel
theorem dX11_askOn_11 : decode cX11_askOn 11 = .ok (.bipush 9, 2) := by decide +kernel
theorem dX11_askOn_13 : decode cX11_askOn 13 = .ok (.if_icmp .ge 99, 3) := by decide +kernel
theorem dX11_askOn_16 : decode cX11_askOn 16 = .ok (.aload_n 0, 1) := by decide +kernel
theorem dX11_askOn_17 : decode cX11_askOn 17 = .ok (.getfield 12, 3) := by decide +kernel
theorem dX11_askOn_20 : decode cX11_askOn 20 = .ok (.getfield 80, 3) := by decide +kernel
theorem dX11_askOn_23 : decode cX11_askOn 23 = .ok (.iload_n 1, 1) := by decide +kernel
theorem dX11_askOn_24 : decode cX11_askOn 24 = .ok (.invokevirtual 84, 3) := by decide +kernel
theorem dX11_askOn_27 : decode cX11_askOn 27 = .ok (.istore_n 2, 1) := by decide +kernel
theorem dX11_askOn_28 : decode cX11_askOn 28 = .ok (.iconst 0, 1) := by decide +kernel
theorem dX11_askOn_29 : decode cX11_askOn 29 = .ok (.istore_n 3, 1) := by decide +kernel
theorem dX11_askOn_30 : decode cX11_askOn 30 = .ok (.iload_n 3, 1) := by decide +kernel
theorem dX11_askOn_31 : decode cX11_askOn 31 = .ok (.bipush 9, 2) := by decide +kernel
theorem dX11_askOn_33 : decode cX11_askOn 33 = .ok (.if_icmp .ge 50, 3) := by decide +kernel
theorem dX11_askOn_36 : decode cX11_askOn 36 = .ok (.iload_n 2, 1) := by decide +kernel
theorem dX11_askOn_37 : decode cX11_askOn 37 = .ok (.ifCond .le 40, 3) := by decide +kernel
theorem dX11_askOn_40 : decode cX11_askOn 40 = .ok (.aload_n 0, 1) := by decide +kernel
theorem dX11_askOn_41 : decode cX11_askOn 41 = .ok (.getfield 12, 3) := by decide +kernel
theorem dX11_askOn_44 : decode cX11_askOn 44 = .ok (.getfield 80, 3) := by decide +kernel
theorem dX11_askOn_47 : decode cX11_askOn 47 = .ok (.iload_n 1, 1) := by decide +kernel
theorem dX11_askOn_48 : decode cX11_askOn 48 = .ok (.iload_n 3, 1) := by decide +kernel
theorem dX11_askOn_49 : decode cX11_askOn 49 = .ok (.invokevirtual 335, 3) := by decide +kernel
theorem dX11_askOn_52 : decode cX11_askOn 52 = .ok (.ifCond .eq 25, 3) := by decide +kernel
theorem dX11_askOn_55 : decode cX11_askOn 55 = .ok (.aload_n 0, 1) := by decide +kernel
theorem dX11_askOn_56 : decode cX11_askOn 56 = .ok (.getfield 36, 3) := by decide +kernel
theorem dX11_askOn_59 : decode cX11_askOn 59 = .ok (.iload_n 3, 1) := by decide +kernel
theorem dX11_askOn_60 : decode cX11_askOn 60 = .ok (.dup2, 1) := by decide +kernel
theorem dX11_askOn_61 : decode cX11_askOn 61 = .ok (.laload, 1) := by decide +kernel
theorem dX11_askOn_62 : decode cX11_askOn 62 = .ok (.aload_n 0, 1) := by decide +kernel
theorem dX11_askOn_63 : decode cX11_askOn 63 = .ok (.getfield 32, 3) := by decide +kernel
theorem dX11_askOn_66 : decode cX11_askOn 66 = .ok (.iload_n 1, 1) := by decide +kernel
theorem dX11_askOn_67 : decode cX11_askOn 67 = .ok (.laload, 1) := by decide +kernel
theorem dX11_askOn_68 : decode cX11_askOn 68 = .ok (.sipush 840, 3) := by decide +kernel
theorem dX11_askOn_71 : decode cX11_askOn 71 = .ok (.iload_n 2, 1) := by decide +kernel
theorem dX11_askOn_72 : decode cX11_askOn 72 = .ok (.idiv, 1) := by decide +kernel
theorem dX11_askOn_73 : decode cX11_askOn 73 = .ok (.i2l, 1) := by decide +kernel
theorem dX11_askOn_74 : decode cX11_askOn 74 = .ok (.lmul, 1) := by decide +kernel
theorem dX11_askOn_75 : decode cX11_askOn 75 = .ok (.ladd, 1) := by decide +kernel
theorem dX11_askOn_76 : decode cX11_askOn 76 = .ok (.lastore, 1) := by decide +kernel
theorem dX11_askOn_77 : decode cX11_askOn 77 = .ok (.iinc 3 1, 3) := by decide +kernel
theorem dX11_askOn_80 : decode cX11_askOn 80 = .ok (.goto (-50), 3) := by decide +kernel
theorem dX11_askOn_83 : decode cX11_askOn 83 = .ok (.iload_n 2, 1) := by decide +kernel
theorem dX11_askOn_84 : decode cX11_askOn 84 = .ok (.ifCond .ne 22, 3) := by decide +kernel
theorem dX11_askOn_87 : decode cX11_askOn 87 = .ok (.aload_n 0, 1) := by decide +kernel
theorem dX11_askOn_88 : decode cX11_askOn 88 = .ok (.getfield 36, 3) := by decide +kernel
theorem dX11_askOn_91 : decode cX11_askOn 91 = .ok (.iload_n 1, 1) := by decide +kernel
theorem dX11_askOn_92 : decode cX11_askOn 92 = .ok (.dup2, 1) := by decide +kernel
theorem dX11_askOn_93 : decode cX11_askOn 93 = .ok (.laload, 1) := by decide +kernel
theorem dX11_askOn_94 : decode cX11_askOn 94 = .ok (.aload_n 0, 1) := by decide +kernel
theorem dX11_askOn_95 : decode cX11_askOn 95 = .ok (.getfield 32, 3) := by decide +kernel
theorem dX11_askOn_98 : decode cX11_askOn 98 = .ok (.iload_n 1, 1) := by decide +kernel
theorem dX11_askOn_99 : decode cX11_askOn 99 = .ok (.laload, 1) := by decide +kernel
theorem dX11_askOn_100 : decode cX11_askOn 100 = .ok (.ldc2_w 153, 3) := by decide +kernel
theorem dX11_askOn_103 : decode cX11_askOn 103 = .ok (.lmul, 1) := by decide +kernel
theorem dX11_askOn_104 : decode cX11_askOn 104 = .ok (.ladd, 1) := by decide +kernel
theorem dX11_askOn_105 : decode cX11_askOn 105 = .ok (.lastore, 1) := by decide +kernel
theorem dX11_askOn_106 : decode cX11_askOn 106 = .ok (.iinc 1 1, 3) := by decide +kernel
theorem dX11_askOn_109 : decode cX11_askOn 109 = .ok (.goto (-99), 3) := by decide +kernel
theorem dX11_askOn_112 : decode cX11_askOn 112 = .ok (.aload_n 0, 1) := by decide +kernel
theorem dX11_askOn_113 : decode cX11_askOn 113 = .ok (.getfield 36, 3) := by decide +kernel
theorem dX11_askOn_116 : decode cX11_askOn 116 = .ok (.iconst 0, 1) := by decide +kernel
theorem dX11_askOn_117 : decode cX11_askOn 117 = .ok (.aload_n 0, 1) := by decide +kernel
theorem dX11_askOn_118 : decode cX11_askOn 118 = .ok (.getfield 32, 3) := by decide +kernel
theorem dX11_askOn_121 : decode cX11_askOn 121 = .ok (.iconst 0, 1) := by decide +kernel
theorem dX11_askOn_122 : decode cX11_askOn 122 = .ok (.bipush 9, 2) := by decide +kernel
theorem dX11_askOn_124 : decode cX11_askOn 124 = .ok (.invokestatic 307, 3) := by decide +kernel
theorem dX11_askOn_127 : decode cX11_askOn 127 = .ok (.return_, 1) := by decide +kernel
set_option maxRecDepth 20000 in
theorem ggX11_heardThrough_X5_nextHeard : GoodIn wsX11_heardThrough wsX5_nextHeard := goodIn_r _ [6, 7, 8, 9, 10, 11, 5, 12, 13, 14, 15, 16, 17, 18, 19, 20, 21, 22, 23, 24, 25, 26, 27, 28, 29, 30, 31, 32, 33, 34, 35, 36, 37, 38, 39, 40, 41, 42, 43, 44, 45, 46, 47, 48, 49, 50, 51, 52, 53, 54, 55, 56, 57, 58, 59, 60, 61, 62, 63, 64, 65, 66, 67, 68, 69, 70, 71, 72, 73, 74, 75, 76, 77, 78, 79, 80, 81, 82, 83, 84, 85, 86, 87, 88, 89, 90, 91, 92, 93, 94, 95, 96, 97, 98, 99, 100, 101, 102, 103, 104, 105, 106, 107, 108, 109, 118, 119, 120, 121, 122, 123, 124, 125, 126, 127] (by decide +kernel) (by decide +kernel)
set_option maxRecDepth 20000 in
theorem gX11_heardThrough_X5_nextHeard : GoodIn wsX11_heardThrough (wsV RX11 188 RX5 yX5_nextHeard wsX5_nextHeard) := goodIn_app (goodIn_of _ (by decide +kernel)) ggX11_heardThrough_X5_nextHeard
theorem dX11_heardThrough_0 : decode cX11_heardThrough 0 = .ok (.aload_n 0, 1) := by decide +kernel
theorem dX11_heardThrough_1 : decode cX11_heardThrough 1 = .ok (.getfield 12, 3) := by decide +kernel
theorem dX11_heardThrough_4 : decode cX11_heardThrough 4 = .ok (.getfield 92, 3) := by decide +kernel
theorem dX11_heardThrough_7 : decode cX11_heardThrough 7 = .ok (.istore_n 3, 1) := by decide +kernel
theorem dX11_heardThrough_8 : decode cX11_heardThrough 8 = .ok (.iconst 0, 1) := by decide +kernel
theorem dX11_heardThrough_9 : decode cX11_heardThrough 9 = .ok (.istore 4, 2) := by decide +kernel
theorem dX11_heardThrough_11 : decode cX11_heardThrough 11 = .ok (.iload 4, 2) := by decide +kernel
theorem dX11_heardThrough_13 : decode cX11_heardThrough 13 = .ok (.iload_n 2, 1) := by decide +kernel
theorem dX11_heardThrough_14 : decode cX11_heardThrough 14 = .ok (.if_icmp .ge 40, 3) := by decide +kernel
theorem dX11_heardThrough_17 : decode cX11_heardThrough 17 = .ok (.iload_n 1, 1) := by decide +kernel
theorem dX11_heardThrough_18 : decode cX11_heardThrough 18 = .ok (.iload 4, 2) := by decide +kernel
theorem dX11_heardThrough_20 : decode cX11_heardThrough 20 = .ok (.ishr, 1) := by decide +kernel
theorem dX11_heardThrough_21 : decode cX11_heardThrough 21 = .ok (.iconst 1, 1) := by decide +kernel
theorem dX11_heardThrough_22 : decode cX11_heardThrough 22 = .ok (.iand, 1) := by decide +kernel
theorem dX11_heardThrough_23 : decode cX11_heardThrough 23 = .ok (.ifCond .ne 25, 3) := by decide +kernel
theorem dX11_heardThrough_26 : decode cX11_heardThrough 26 = .ok (.aload_n 0, 1) := by decide +kernel
theorem dX11_heardThrough_27 : decode cX11_heardThrough 27 = .ok (.getfield 12, 3) := by decide +kernel
theorem dX11_heardThrough_30 : decode cX11_heardThrough 30 = .ok (.iload_n 3, 1) := by decide +kernel
theorem dX11_heardThrough_31 : decode cX11_heardThrough 31 = .ok (.aload_n 0, 1) := by decide +kernel
theorem dX11_heardThrough_32 : decode cX11_heardThrough 32 = .ok (.getfield 12, 3) := by decide +kernel
theorem dX11_heardThrough_35 : decode cX11_heardThrough 35 = .ok (.getfield 100, 3) := by decide +kernel
theorem dX11_heardThrough_38 : decode cX11_heardThrough 38 = .ok (.iload 4, 2) := by decide +kernel
theorem dX11_heardThrough_40 : decode cX11_heardThrough 40 = .ok (.iadd, 1) := by decide +kernel
theorem dX11_heardThrough_41 : decode cX11_heardThrough 41 = .ok (.iconst 1, 1) := by decide +kernel
theorem dX11_heardThrough_42 : decode cX11_heardThrough 42 = .ok (.iadd, 1) := by decide +kernel
theorem dX11_heardThrough_43 : decode cX11_heardThrough 43 = .ok (.iconst 0, 1) := by decide +kernel
theorem dX11_heardThrough_44 : decode cX11_heardThrough 44 = .ok (.invokevirtual 188, 3) := by decide +kernel
theorem dX11_heardThrough_47 : decode cX11_heardThrough 47 = .ok (.istore_n 3, 1) := by decide +kernel
theorem dX11_heardThrough_48 : decode cX11_heardThrough 48 = .ok (.iinc 4 1, 3) := by decide +kernel
theorem dX11_heardThrough_51 : decode cX11_heardThrough 51 = .ok (.goto (-40), 3) := by decide +kernel
theorem dX11_heardThrough_54 : decode cX11_heardThrough 54 = .ok (.iload_n 3, 1) := by decide +kernel
theorem dX11_heardThrough_55 : decode cX11_heardThrough 55 = .ok (.ireturn, 1) := by decide +kernel
theorem dX11_waysOf_0 : decode cX11_waysOf 0 = .ok (.lconst 1, 1) := by decide +kernel
theorem dX11_waysOf_1 : decode cX11_waysOf 1 = .ok (.lstore_n 3, 1) := by decide +kernel
theorem dX11_waysOf_2 : decode cX11_waysOf 2 = .ok (.iconst 0, 1) := by decide +kernel
theorem dX11_waysOf_3 : decode cX11_waysOf 3 = .ok (.istore 5, 2) := by decide +kernel
theorem dX11_waysOf_5 : decode cX11_waysOf 5 = .ok (.iload 5, 2) := by decide +kernel
theorem dX11_waysOf_7 : decode cX11_waysOf 7 = .ok (.iload_n 1, 1) := by decide +kernel
theorem dX11_waysOf_8 : decode cX11_waysOf 8 = .ok (.if_icmp .ge 29, 3) := by decide +kernel
theorem dX11_waysOf_11 : decode cX11_waysOf 11 = .ok (.lload_n 3, 1) := by decide +kernel
theorem dX11_waysOf_12 : decode cX11_waysOf 12 = .ok (.iload_n 0, 1) := by decide +kernel
theorem dX11_waysOf_13 : decode cX11_waysOf 13 = .ok (.iload 5, 2) := by decide +kernel
theorem dX11_waysOf_15 : decode cX11_waysOf 15 = .ok (.ishr, 1) := by decide +kernel
theorem dX11_waysOf_16 : decode cX11_waysOf 16 = .ok (.iconst 1, 1) := by decide +kernel
theorem dX11_waysOf_17 : decode cX11_waysOf 17 = .ok (.iand, 1) := by decide +kernel
theorem dX11_waysOf_18 : decode cX11_waysOf 18 = .ok (.ifCond .ne 10, 3) := by decide +kernel
theorem dX11_waysOf_21 : decode cX11_waysOf 21 = .ok (.iload_n 2, 1) := by decide +kernel
theorem dX11_waysOf_22 : decode cX11_waysOf 22 = .ok (.iconst 1, 1) := by decide +kernel
theorem dX11_waysOf_23 : decode cX11_waysOf 23 = .ok (.isub, 1) := by decide +kernel
theorem dX11_waysOf_24 : decode cX11_waysOf 24 = .ok (.i2l, 1) := by decide +kernel
theorem dX11_waysOf_25 : decode cX11_waysOf 25 = .ok (.goto 4, 3) := by decide +kernel
theorem dX11_waysOf_28 : decode cX11_waysOf 28 = .ok (.lconst 1, 1) := by decide +kernel
theorem dX11_waysOf_29 : decode cX11_waysOf 29 = .ok (.lmul, 1) := by decide +kernel
theorem dX11_waysOf_30 : decode cX11_waysOf 30 = .ok (.lstore_n 3, 1) := by decide +kernel
theorem dX11_waysOf_31 : decode cX11_waysOf 31 = .ok (.iinc 5 1, 3) := by decide +kernel
theorem dX11_waysOf_34 : decode cX11_waysOf 34 = .ok (.goto (-29), 3) := by decide +kernel
theorem dX11_waysOf_37 : decode cX11_waysOf 37 = .ok (.lload_n 3, 1) := by decide +kernel
theorem dX11_waysOf_38 : decode cX11_waysOf 38 = .ok (.lreturn, 1) := by decide +kernel
set_option maxRecDepth 20000 in
theorem ggX11_sortNumbers_X7_size : GoodIn wsX11_sortNumbers wsX7_size := goodIn_r _ [6, 7, 25, 26, 27, 28, 29, 30] (by decide +kernel) (by decide +kernel)
set_option maxRecDepth 20000 in
theorem gX11_sortNumbers_X7_size : GoodIn wsX11_sortNumbers (wsV RX11 55 RX7 yX7_size wsX7_size) := goodIn_app (goodIn_of _ (by decide +kernel)) ggX11_sortNumbers_X7_size
set_option maxRecDepth 20000 in
theorem ggX11_sortNumbers_X7_at : GoodIn wsX11_sortNumbers wsX7_at := goodIn_r _ [11, 12, 13, 14, 15, 5, 16, 7, 25, 26, 27, 28, 29, 30] (by decide +kernel) (by decide +kernel)
set_option maxRecDepth 20000 in
theorem gX11_sortNumbers_X7_at : GoodIn wsX11_sortNumbers (wsV RX11 63 RX7 yX7_at wsX7_at) := goodIn_app (goodIn_of _ (by decide +kernel)) ggX11_sortNumbers_X7_at
theorem dX11_sortNumbers_0 : decode cX11_sortNumbers 0 = .ok (.aload_n 1, 1) := by decide +kernel
theorem dX11_sortNumbers_1 : decode cX11_sortNumbers 1 = .ok (.invokevirtual 55, 3) := by decide +kernel
theorem dX11_sortNumbers_4 : decode cX11_sortNumbers 4 = .ok (.bipush 9, 2) := by decide +kernel
theorem dX11_sortNumbers_6 : decode cX11_sortNumbers 6 = .ok (.if_icmp .le 5, 3) := by decide +kernel
theorem dX11_sortNumbers_9 : decode cX11_sortNumbers 9 = .ok (.iconst 0, 1) := by decide +kernel
theorem dX11_sortNumbers_10 : decode cX11_sortNumbers 10 = .ok (.ireturn, 1) := by decide +kernel
theorem dX11_sortNumbers_11 : decode cX11_sortNumbers 11 = .ok (.iconst 0, 1) := by decide +kernel
theorem dX11_sortNumbers_12 : decode cX11_sortNumbers 12 = .ok (.istore_n 2, 1) := by decide +kernel
theorem dX11_sortNumbers_13 : decode cX11_sortNumbers 13 = .ok (.iload_n 2, 1) := by decide +kernel
theorem dX11_sortNumbers_14 : decode cX11_sortNumbers 14 = .ok (.aload_n 1, 1) := by decide +kernel
theorem dX11_sortNumbers_15 : decode cX11_sortNumbers 15 = .ok (.invokevirtual 55, 3) := by decide +kernel
theorem dX11_sortNumbers_18 : decode cX11_sortNumbers 18 = .ok (.if_icmp .ge 78, 3) := by decide +kernel
theorem dX11_sortNumbers_21 : decode cX11_sortNumbers 21 = .ok (.aload_n 1, 1) := by decide +kernel
theorem dX11_sortNumbers_22 : decode cX11_sortNumbers 22 = .ok (.iload_n 2, 1) := by decide +kernel
theorem dX11_sortNumbers_23 : decode cX11_sortNumbers 23 = .ok (.invokevirtual 63, 3) := by decide +kernel
theorem dX11_sortNumbers_26 : decode cX11_sortNumbers 26 = .ok (.istore_n 3, 1) := by decide +kernel
theorem dX11_sortNumbers_27 : decode cX11_sortNumbers 27 = .ok (.iload_n 3, 1) := by decide +kernel
theorem dX11_sortNumbers_28 : decode cX11_sortNumbers 28 = .ok (.ifCond .lt 9, 3) := by decide +kernel
theorem dX11_sortNumbers_31 : decode cX11_sortNumbers 31 = .ok (.iload_n 3, 1) := by decide +kernel
theorem dX11_sortNumbers_32 : decode cX11_sortNumbers 32 = .ok (.bipush 9, 2) := by decide +kernel
theorem dX11_sortNumbers_34 : decode cX11_sortNumbers 34 = .ok (.if_icmp .lt 5, 3) := by decide +kernel
theorem dX11_sortNumbers_37 : decode cX11_sortNumbers 37 = .ok (.iconst 0, 1) := by decide +kernel
theorem dX11_sortNumbers_38 : decode cX11_sortNumbers 38 = .ok (.ireturn, 1) := by decide +kernel
theorem dX11_sortNumbers_39 : decode cX11_sortNumbers 39 = .ok (.iload_n 2, 1) := by decide +kernel
theorem dX11_sortNumbers_40 : decode cX11_sortNumbers 40 = .ok (.istore 4, 2) := by decide +kernel
theorem dX11_sortNumbers_42 : decode cX11_sortNumbers 42 = .ok (.iload 4, 2) := by decide +kernel
theorem dX11_sortNumbers_44 : decode cX11_sortNumbers 44 = .ok (.ifCond .le 38, 3) := by decide +kernel
theorem dX11_sortNumbers_47 : decode cX11_sortNumbers 47 = .ok (.aload_n 0, 1) := by decide +kernel
theorem dX11_sortNumbers_48 : decode cX11_sortNumbers 48 = .ok (.getfield 28, 3) := by decide +kernel
theorem dX11_sortNumbers_51 : decode cX11_sortNumbers 51 = .ok (.iload 4, 2) := by decide +kernel
theorem dX11_sortNumbers_53 : decode cX11_sortNumbers 53 = .ok (.iconst 1, 1) := by decide +kernel
theorem dX11_sortNumbers_54 : decode cX11_sortNumbers 54 = .ok (.isub, 1) := by decide +kernel
theorem dX11_sortNumbers_55 : decode cX11_sortNumbers 55 = .ok (.iaload, 1) := by decide +kernel
theorem dX11_sortNumbers_56 : decode cX11_sortNumbers 56 = .ok (.iload_n 3, 1) := by decide +kernel
theorem dX11_sortNumbers_57 : decode cX11_sortNumbers 57 = .ok (.if_icmp .ge 25, 3) := by decide +kernel
theorem dX11_sortNumbers_60 : decode cX11_sortNumbers 60 = .ok (.aload_n 0, 1) := by decide +kernel
theorem dX11_sortNumbers_61 : decode cX11_sortNumbers 61 = .ok (.getfield 28, 3) := by decide +kernel
theorem dX11_sortNumbers_64 : decode cX11_sortNumbers 64 = .ok (.iload 4, 2) := by decide +kernel
theorem dX11_sortNumbers_66 : decode cX11_sortNumbers 66 = .ok (.aload_n 0, 1) := by decide +kernel
theorem dX11_sortNumbers_67 : decode cX11_sortNumbers 67 = .ok (.getfield 28, 3) := by decide +kernel
theorem dX11_sortNumbers_70 : decode cX11_sortNumbers 70 = .ok (.iload 4, 2) := by decide +kernel
theorem dX11_sortNumbers_72 : decode cX11_sortNumbers 72 = .ok (.iconst 1, 1) := by decide +kernel
theorem dX11_sortNumbers_73 : decode cX11_sortNumbers 73 = .ok (.isub, 1) := by decide +kernel
theorem dX11_sortNumbers_74 : decode cX11_sortNumbers 74 = .ok (.iaload, 1) := by decide +kernel
theorem dX11_sortNumbers_75 : decode cX11_sortNumbers 75 = .ok (.iastore, 1) := by decide +kernel
theorem dX11_sortNumbers_76 : decode cX11_sortNumbers 76 = .ok (.iinc 4 (-1), 3) := by decide +kernel
theorem dX11_sortNumbers_79 : decode cX11_sortNumbers 79 = .ok (.goto (-37), 3) := by decide +kernel
theorem dX11_sortNumbers_82 : decode cX11_sortNumbers 82 = .ok (.aload_n 0, 1) := by decide +kernel
theorem dX11_sortNumbers_83 : decode cX11_sortNumbers 83 = .ok (.getfield 28, 3) := by decide +kernel
theorem dX11_sortNumbers_86 : decode cX11_sortNumbers 86 = .ok (.iload 4, 2) := by decide +kernel
theorem dX11_sortNumbers_88 : decode cX11_sortNumbers 88 = .ok (.iload_n 3, 1) := by decide +kernel
theorem dX11_sortNumbers_89 : decode cX11_sortNumbers 89 = .ok (.iastore, 1) := by decide +kernel
theorem dX11_sortNumbers_90 : decode cX11_sortNumbers 90 = .ok (.iinc 2 1, 3) := by decide +kernel
theorem dX11_sortNumbers_93 : decode cX11_sortNumbers 93 = .ok (.goto (-80), 3) := by decide +kernel
theorem dX11_sortNumbers_96 : decode cX11_sortNumbers 96 = .ok (.iconst 1, 1) := by decide +kernel
theorem dX11_sortNumbers_97 : decode cX11_sortNumbers 97 = .ok (.ireturn, 1) := by decide +kernel
theorem dX11_numbersFit_0 : decode cX11_numbersFit 0 = .ok (.iconst 0, 1) := by decide +kernel
theorem dX11_numbersFit_1 : decode cX11_numbersFit 1 = .ok (.istore_n 2, 1) := by decide +kernel
theorem dX11_numbersFit_2 : decode cX11_numbersFit 2 = .ok (.iconst 1, 1) := by decide +kernel
theorem dX11_numbersFit_3 : decode cX11_numbersFit 3 = .ok (.istore_n 3, 1) := by decide +kernel
theorem dX11_numbersFit_4 : decode cX11_numbersFit 4 = .ok (.iload_n 3, 1) := by decide +kernel
theorem dX11_numbersFit_5 : decode cX11_numbersFit 5 = .ok (.iload_n 1, 1) := by decide +kernel
theorem dX11_numbersFit_6 : decode cX11_numbersFit 6 = .ok (.if_icmp .gt 66, 3) := by decide +kernel
theorem dX11_numbersFit_9 : decode cX11_numbersFit 9 = .ok (.iload_n 2, 1) := by decide +kernel
theorem dX11_numbersFit_10 : decode cX11_numbersFit 10 = .ok (.aload_n 0, 1) := by decide +kernel
theorem dX11_numbersFit_11 : decode cX11_numbersFit 11 = .ok (.getfield 28, 3) := by decide +kernel
theorem dX11_numbersFit_14 : decode cX11_numbersFit 14 = .ok (.iload_n 3, 1) := by decide +kernel
theorem dX11_numbersFit_15 : decode cX11_numbersFit 15 = .ok (.iconst 1, 1) := by decide +kernel
theorem dX11_numbersFit_16 : decode cX11_numbersFit 16 = .ok (.isub, 1) := by decide +kernel
theorem dX11_numbersFit_17 : decode cX11_numbersFit 17 = .ok (.iaload, 1) := by decide +kernel
theorem dX11_numbersFit_18 : decode cX11_numbersFit 18 = .ok (.iadd, 1) := by decide +kernel
theorem dX11_numbersFit_19 : decode cX11_numbersFit 19 = .ok (.istore_n 2, 1) := by decide +kernel
theorem dX11_numbersFit_20 : decode cX11_numbersFit 20 = .ok (.iload_n 3, 1) := by decide +kernel
theorem dX11_numbersFit_21 : decode cX11_numbersFit 21 = .ok (.iload_n 3, 1) := by decide +kernel
theorem dX11_numbersFit_22 : decode cX11_numbersFit 22 = .ok (.iconst 1, 1) := by decide +kernel
theorem dX11_numbersFit_23 : decode cX11_numbersFit 23 = .ok (.isub, 1) := by decide +kernel
theorem dX11_numbersFit_24 : decode cX11_numbersFit 24 = .ok (.imul, 1) := by decide +kernel
theorem dX11_numbersFit_25 : decode cX11_numbersFit 25 = .ok (.istore 4, 2) := by decide +kernel
theorem dX11_numbersFit_27 : decode cX11_numbersFit 27 = .ok (.iload_n 3, 1) := by decide +kernel
theorem dX11_numbersFit_28 : decode cX11_numbersFit 28 = .ok (.istore 5, 2) := by decide +kernel
theorem dX11_numbersFit_30 : decode cX11_numbersFit 30 = .ok (.iload 5, 2) := by decide +kernel
theorem dX11_numbersFit_32 : decode cX11_numbersFit 32 = .ok (.iload_n 1, 1) := by decide +kernel
theorem dX11_numbersFit_33 : decode cX11_numbersFit 33 = .ok (.if_icmp .ge 25, 3) := by decide +kernel
theorem dX11_numbersFit_36 : decode cX11_numbersFit 36 = .ok (.iload 4, 2) := by decide +kernel
theorem dX11_numbersFit_38 : decode cX11_numbersFit 38 = .ok (.aload_n 0, 1) := by decide +kernel
theorem dX11_numbersFit_39 : decode cX11_numbersFit 39 = .ok (.getfield 28, 3) := by decide +kernel
theorem dX11_numbersFit_42 : decode cX11_numbersFit 42 = .ok (.iload 5, 2) := by decide +kernel
theorem dX11_numbersFit_44 : decode cX11_numbersFit 44 = .ok (.iaload, 1) := by decide +kernel
theorem dX11_numbersFit_45 : decode cX11_numbersFit 45 = .ok (.iload_n 3, 1) := by decide +kernel
theorem dX11_numbersFit_46 : decode cX11_numbersFit 46 = .ok (.invokestatic 338, 3) := by decide +kernel
theorem dX11_numbersFit_49 : decode cX11_numbersFit 49 = .ok (.iadd, 1) := by decide +kernel
theorem dX11_numbersFit_50 : decode cX11_numbersFit 50 = .ok (.istore 4, 2) := by decide +kernel
theorem dX11_numbersFit_52 : decode cX11_numbersFit 52 = .ok (.iinc 5 1, 3) := by decide +kernel
theorem dX11_numbersFit_55 : decode cX11_numbersFit 55 = .ok (.goto (-25), 3) := by decide +kernel
theorem dX11_numbersFit_58 : decode cX11_numbersFit 58 = .ok (.iload_n 2, 1) := by decide +kernel
theorem dX11_numbersFit_59 : decode cX11_numbersFit 59 = .ok (.iload 4, 2) := by decide +kernel
theorem dX11_numbersFit_61 : decode cX11_numbersFit 61 = .ok (.if_icmp .le 5, 3) := by decide +kernel
theorem dX11_numbersFit_64 : decode cX11_numbersFit 64 = .ok (.iconst 0, 1) := by decide +kernel
theorem dX11_numbersFit_65 : decode cX11_numbersFit 65 = .ok (.ireturn, 1) := by decide +kernel
theorem dX11_numbersFit_66 : decode cX11_numbersFit 66 = .ok (.iinc 3 1, 3) := by decide +kernel
theorem dX11_numbersFit_69 : decode cX11_numbersFit 69 = .ok (.goto (-65), 3) := by decide +kernel
theorem dX11_numbersFit_72 : decode cX11_numbersFit 72 = .ok (.iload_n 2, 1) := by decide +kernel
theorem dX11_numbersFit_73 : decode cX11_numbersFit 73 = .ok (.iconst 2, 1) := by decide +kernel
theorem dX11_numbersFit_74 : decode cX11_numbersFit 74 = .ok (.irem, 1) := by decide +kernel
theorem dX11_numbersFit_75 : decode cX11_numbersFit 75 = .ok (.ifCond .ne 7, 3) := by decide +kernel
theorem dX11_numbersFit_78 : decode cX11_numbersFit 78 = .ok (.iconst 1, 1) := by decide +kernel
theorem dX11_numbersFit_79 : decode cX11_numbersFit 79 = .ok (.goto 4, 3) := by decide +kernel
theorem dX11_numbersFit_82 : decode cX11_numbersFit 82 = .ok (.iconst 0, 1) := by decide +kernel
theorem dX11_numbersFit_83 : decode cX11_numbersFit 83 = .ok (.ireturn, 1) := by decide +kernel
set_option maxRecDepth 20000 in
theorem ggX11_firstOther_X5_behind : GoodIn wsX11_firstOther wsX5_behind := goodIn_r _ [5, 6, 7, 8, 9, 4, 10, 11, 12, 13, 14, 15, 16, 17, 18, 19, 20, 21, 22, 23, 24, 25, 26, 27, 28, 29, 30, 31, 32, 33, 34, 35, 36, 37, 38, 39, 40, 41, 42, 43, 44, 45, 46, 47, 48, 49, 50, 51, 52, 53, 54, 55, 56, 57, 58, 59, 60, 61, 62, 63, 64, 65, 66, 67, 68, 69, 70, 71, 72, 73, 74, 75, 76, 77, 78, 79, 80, 81, 82, 83, 84, 85, 86, 87, 88, 89, 90, 91, 92, 93, 94, 95, 96, 97, 98, 99, 100, 101, 102, 103, 104, 105, 106, 107, 108, 109, 110, 111, 112, 113, 138, 139, 140, 141, 142, 143, 144, 145, 146, 147] (by decide +kernel) (by decide +kernel)
set_option maxRecDepth 20000 in
theorem gX11_firstOther_X5_behind : GoodIn wsX11_firstOther (wsV RX11 184 RX5 yX5_behind wsX5_behind) := goodIn_app (goodIn_of _ (by decide +kernel)) ggX11_firstOther_X5_behind
set_option maxRecDepth 20000 in
theorem ggX11_firstOther_X7_size : GoodIn wsX11_firstOther wsX7_size := goodIn_r _ [118, 119, 148, 149, 150, 151, 152, 153] (by decide +kernel) (by decide +kernel)
set_option maxRecDepth 20000 in
theorem gX11_firstOther_X7_size : GoodIn wsX11_firstOther (wsV RX11 55 RX7 yX7_size wsX7_size) := goodIn_app (goodIn_of _ (by decide +kernel)) ggX11_firstOther_X7_size
set_option maxRecDepth 20000 in
theorem ggX11_firstOther_X7_isSkipped : GoodIn wsX11_firstOther wsX7_isSkipped := goodIn_r _ [123, 124, 125, 126, 127, 128, 117, 129, 130, 131, 132, 133, 134, 119, 148, 149, 150, 151, 152, 153] (by decide +kernel) (by decide +kernel)
set_option maxRecDepth 20000 in
theorem gX11_firstOther_X7_isSkipped : GoodIn wsX11_firstOther (wsV RX11 343 RX7 yX7_isSkipped wsX7_isSkipped) := goodIn_app (goodIn_of _ (by decide +kernel)) ggX11_firstOther_X7_isSkipped
set_option maxRecDepth 20000 in
theorem ggX11_firstOther_X7_at : GoodIn wsX11_firstOther wsX7_at := goodIn_r _ [129, 130, 131, 132, 133, 117, 134, 119, 148, 149, 150, 151, 152, 153] (by decide +kernel) (by decide +kernel)
set_option maxRecDepth 20000 in
theorem gX11_firstOther_X7_at : GoodIn wsX11_firstOther (wsV RX11 63 RX7 yX7_at wsX7_at) := goodIn_app (goodIn_of _ (by decide +kernel)) ggX11_firstOther_X7_at
set_option maxRecDepth 20000 in
theorem ggX11_firstOther_J6_bitCount_0f7a4 : GoodIn wsX11_firstOther wsJ6_bitCount_0f7a4 := goodIn_r _ [92, 93, 94, 95] (by decide +kernel) (by decide +kernel)
set_option maxRecDepth 20000 in
theorem gX11_firstOther_J6_bitCount_0f7a4 : GoodIn wsX11_firstOther (va_wsS RX11 176 yJ6_bitCount_0f7a4 wsJ6_bitCount_0f7a4) := goodIn_app (goodIn_of _ (by decide +kernel)) ggX11_firstOther_J6_bitCount_0f7a4
set_option maxRecDepth 20000 in
theorem ggX11_firstOther_X5_nextHeard : GoodIn wsX11_firstOther wsX5_nextHeard := goodIn_r _ [10, 11, 12, 13, 14, 15, 4, 16, 17, 18, 19, 20, 21, 22, 23, 24, 25, 26, 27, 28, 29, 30, 31, 32, 33, 34, 35, 36, 37, 38, 39, 40, 41, 42, 43, 44, 45, 46, 47, 48, 49, 50, 51, 52, 53, 54, 55, 56, 57, 58, 59, 60, 61, 62, 63, 64, 65, 66, 67, 68, 69, 70, 71, 72, 73, 74, 75, 76, 77, 78, 79, 80, 81, 82, 83, 84, 85, 86, 87, 88, 89, 90, 91, 92, 93, 94, 95, 96, 97, 98, 99, 100, 101, 102, 103, 104, 105, 106, 107, 108, 109, 110, 111, 112, 113, 138, 139, 140, 141, 142, 143, 144, 145, 146, 147] (by decide +kernel) (by decide +kernel)
set_option maxRecDepth 20000 in
theorem gX11_firstOther_X5_nextHeard : GoodIn wsX11_firstOther (wsV RX11 188 RX5 yX5_nextHeard wsX5_nextHeard) := goodIn_app (goodIn_of _ (by decide +kernel)) ggX11_firstOther_X5_nextHeard
theorem dX11_firstOther_0 : decode cX11_firstOther 0 = .ok (.aload_n 0, 1) := by decide +kernel
theorem dX11_firstOther_1 : decode cX11_firstOther 1 = .ok (.iload_n 1, 1) := by decide +kernel
theorem dX11_firstOther_2 : decode cX11_firstOther 2 = .ok (.iload_n 3, 1) := by decide +kernel
theorem dX11_firstOther_3 : decode cX11_firstOther 3 = .ok (.iconst 0, 1) := by decide +kernel
theorem dX11_firstOther_4 : decode cX11_firstOther 4 = .ok (.invokevirtual 184, 3) := by decide +kernel
theorem dX11_firstOther_7 : decode cX11_firstOther 7 = .ok (.istore 4, 2) := by decide +kernel
theorem dX11_firstOther_9 : decode cX11_firstOther 9 = .ok (.iconst 0, 1) := by decide +kernel
theorem dX11_firstOther_10 : decode cX11_firstOther 10 = .ok (.istore 5, 2) := by decide +kernel
theorem dX11_firstOther_12 : decode cX11_firstOther 12 = .ok (.iload 5, 2) := by decide +kernel
theorem dX11_firstOther_14 : decode cX11_firstOther 14 = .ok (.aload_n 2, 1) := by decide +kernel
theorem dX11_firstOther_15 : decode cX11_firstOther 15 = .ok (.invokevirtual 55, 3) := by decide +kernel
theorem dX11_firstOther_18 : decode cX11_firstOther 18 = .ok (.if_icmp .ge 55, 3) := by decide +kernel
theorem dX11_firstOther_21 : decode cX11_firstOther 21 = .ok (.aload_n 2, 1) := by decide +kernel
theorem dX11_firstOther_22 : decode cX11_firstOther 22 = .ok (.iload 5, 2) := by decide +kernel
theorem dX11_firstOther_24 : decode cX11_firstOther 24 = .ok (.invokevirtual 343, 3) := by decide +kernel
theorem dX11_firstOther_27 : decode cX11_firstOther 27 = .ok (.ifCond .ne 20, 3) := by decide +kernel
theorem dX11_firstOther_30 : decode cX11_firstOther 30 = .ok (.aload_n 2, 1) := by decide +kernel
theorem dX11_firstOther_31 : decode cX11_firstOther 31 = .ok (.iload 5, 2) := by decide +kernel
theorem dX11_firstOther_33 : decode cX11_firstOther 33 = .ok (.invokevirtual 63, 3) := by decide +kernel
theorem dX11_firstOther_36 : decode cX11_firstOther 36 = .ok (.iload 4, 2) := by decide +kernel
theorem dX11_firstOther_38 : decode cX11_firstOther 38 = .ok (.invokestatic 176, 3) := by decide +kernel
theorem dX11_firstOther_41 : decode cX11_firstOther 41 = .ok (.if_icmp .eq 6, 3) := by decide +kernel
theorem dX11_firstOther_44 : decode cX11_firstOther 44 = .ok (.iload 5, 2) := by decide +kernel
theorem dX11_firstOther_46 : decode cX11_firstOther 46 = .ok (.ireturn, 1) := by decide +kernel
theorem dX11_firstOther_47 : decode cX11_firstOther 47 = .ok (.aload_n 0, 1) := by decide +kernel
theorem dX11_firstOther_48 : decode cX11_firstOther 48 = .ok (.iload 4, 2) := by decide +kernel
theorem dX11_firstOther_50 : decode cX11_firstOther 50 = .ok (.aload_n 0, 1) := by decide +kernel
theorem dX11_firstOther_51 : decode cX11_firstOther 51 = .ok (.getfield 100, 3) := by decide +kernel
theorem dX11_firstOther_54 : decode cX11_firstOther 54 = .ok (.iload_n 3, 1) := by decide +kernel
theorem dX11_firstOther_55 : decode cX11_firstOther 55 = .ok (.iadd, 1) := by decide +kernel
theorem dX11_firstOther_56 : decode cX11_firstOther 56 = .ok (.iload 5, 2) := by decide +kernel
theorem dX11_firstOther_58 : decode cX11_firstOther 58 = .ok (.iadd, 1) := by decide +kernel
theorem dX11_firstOther_59 : decode cX11_firstOther 59 = .ok (.iconst 1, 1) := by decide +kernel
theorem dX11_firstOther_60 : decode cX11_firstOther 60 = .ok (.iadd, 1) := by decide +kernel
theorem dX11_firstOther_61 : decode cX11_firstOther 61 = .ok (.iconst 0, 1) := by decide +kernel
theorem dX11_firstOther_62 : decode cX11_firstOther 62 = .ok (.invokevirtual 188, 3) := by decide +kernel
theorem dX11_firstOther_65 : decode cX11_firstOther 65 = .ok (.istore 4, 2) := by decide +kernel
theorem dX11_firstOther_67 : decode cX11_firstOther 67 = .ok (.iinc 5 1, 3) := by decide +kernel
theorem dX11_firstOther_70 : decode cX11_firstOther 70 = .ok (.goto (-58), 3) := by decide +kernel
theorem dX11_firstOther_73 : decode cX11_firstOther 73 = .ok (.bipush (-4), 2) := by decide +kernel
theorem dX11_firstOther_75 : decode cX11_firstOther 75 = .ok (.ireturn, 1) := by decide +kernel
set_option maxRecDepth 20000 in
theorem ggX11_gain_X5_behind : GoodIn wsX11_gain wsX5_behind := goodIn_r _ [6, 7, 8, 9, 10, 5, 11, 12, 13, 14, 15, 16, 17, 18, 19, 20, 21, 22, 23, 24, 25, 26, 27, 28, 29, 30, 31, 32, 33, 34, 35, 36, 37, 38, 39, 40, 41, 42, 43, 44, 45, 46, 47, 48, 49, 50, 51, 52, 53, 54, 55, 56, 57, 58, 59, 60, 61, 62, 63, 64, 65, 66, 67, 68, 69, 70, 71, 72, 73, 74, 75, 76, 77, 78, 79, 80, 81, 82, 83, 84, 85, 86, 87, 88, 89, 90, 91, 92, 93, 94, 95, 96, 97, 98, 99, 100, 101, 102, 103, 104, 105, 106, 107, 108, 109, 110, 111, 112, 113, 114, 125, 126, 127, 128, 129, 130, 131, 132, 133, 134] (by decide +kernel) (by decide +kernel)
set_option maxRecDepth 20000 in
theorem gX11_gain_X5_behind : GoodIn wsX11_gain (wsV RX11 184 RX5 yX5_behind wsX5_behind) := goodIn_app (goodIn_of _ (by decide +kernel)) ggX11_gain_X5_behind
set_option maxRecDepth 20000 in
theorem ggX11_gain_X4_around : GoodIn wsX11_gain wsX4_around := goodIn_r _ [22, 23, 132, 133, 134] (by decide +kernel) (by decide +kernel)
set_option maxRecDepth 20000 in
theorem gX11_gain_X4_around : GoodIn wsX11_gain (wsV RX11 89 RX4 yX4_around wsX4_around) := goodIn_app (goodIn_of _ (by decide +kernel)) ggX11_gain_X4_around
set_option maxRecDepth 20000 in
theorem ggX11_gain_J6_bitCount_0f7a4 : GoodIn wsX11_gain wsJ6_bitCount_0f7a4 := goodIn_r _ [93, 94, 95, 96] (by decide +kernel) (by decide +kernel)
set_option maxRecDepth 20000 in
theorem gX11_gain_J6_bitCount_0f7a4 : GoodIn wsX11_gain (va_wsS RX11 176 yJ6_bitCount_0f7a4 wsJ6_bitCount_0f7a4) := goodIn_app (goodIn_of _ (by decide +kernel)) ggX11_gain_J6_bitCount_0f7a4
theorem dX11_gain_0 : decode cX11_gain 0 = .ok (.iconst 1, 1) := by decide +kernel
theorem dX11_gain_1 : decode cX11_gain 1 = .ok (.iload_n 2, 1) := by decide +kernel
theorem dX11_gain_2 : decode cX11_gain 2 = .ok (.isub, 1) := by decide +kernel
theorem dX11_gain_3 : decode cX11_gain 3 = .ok (.iload_n 1, 1) := by decide +kernel
theorem dX11_gain_4 : decode cX11_gain 4 = .ok (.ishl, 1) := by decide +kernel
theorem dX11_gain_5 : decode cX11_gain 5 = .ok (.iconst 1, 1) := by decide +kernel
theorem dX11_gain_6 : decode cX11_gain 6 = .ok (.iload 4, 2) := by decide +kernel
theorem dX11_gain_8 : decode cX11_gain 8 = .ok (.isub, 1) := by decide +kernel
theorem dX11_gain_9 : decode cX11_gain 9 = .ok (.iload_n 3, 1) := by decide +kernel
theorem dX11_gain_10 : decode cX11_gain 10 = .ok (.ishl, 1) := by decide +kernel
theorem dX11_gain_11 : decode cX11_gain 11 = .ok (.ior, 1) := by decide +kernel
theorem dX11_gain_12 : decode cX11_gain 12 = .ok (.istore 6, 2) := by decide +kernel
theorem dX11_gain_14 : decode cX11_gain 14 = .ok (.aload_n 0, 1) := by decide +kernel
theorem dX11_gain_15 : decode cX11_gain 15 = .ok (.getfield 12, 3) := by decide +kernel
theorem dX11_gain_18 : decode cX11_gain 18 = .ok (.aload_n 0, 1) := by decide +kernel
theorem dX11_gain_19 : decode cX11_gain 19 = .ok (.getfield 12, 3) := by decide +kernel
theorem dX11_gain_22 : decode cX11_gain 22 = .ok (.getfield 92, 3) := by decide +kernel
theorem dX11_gain_25 : decode cX11_gain 25 = .ok (.iload 5, 2) := by decide +kernel
theorem dX11_gain_27 : decode cX11_gain 27 = .ok (.iload 6, 2) := by decide +kernel
theorem dX11_gain_29 : decode cX11_gain 29 = .ok (.invokevirtual 184, 3) := by decide +kernel
theorem dX11_gain_32 : decode cX11_gain 32 = .ok (.istore 7, 2) := by decide +kernel
theorem dX11_gain_34 : decode cX11_gain 34 = .ok (.iload 7, 2) := by decide +kernel
theorem dX11_gain_36 : decode cX11_gain 36 = .ok (.aload_n 0, 1) := by decide +kernel
theorem dX11_gain_37 : decode cX11_gain 37 = .ok (.getfield 12, 3) := by decide +kernel
theorem dX11_gain_40 : decode cX11_gain 40 = .ok (.getfield 80, 3) := by decide +kernel
theorem dX11_gain_43 : decode cX11_gain 43 = .ok (.iload_n 1, 1) := by decide +kernel
theorem dX11_gain_44 : decode cX11_gain 44 = .ok (.invokevirtual 89, 3) := by decide +kernel
theorem dX11_gain_47 : decode cX11_gain 47 = .ok (.iand, 1) := by decide +kernel
theorem dX11_gain_48 : decode cX11_gain 48 = .ok (.invokestatic 176, 3) := by decide +kernel
theorem dX11_gain_51 : decode cX11_gain 51 = .ok (.iconst 2, 1) := by decide +kernel
theorem dX11_gain_52 : decode cX11_gain 52 = .ok (.iload_n 2, 1) := by decide +kernel
theorem dX11_gain_53 : decode cX11_gain 53 = .ok (.imul, 1) := by decide +kernel
theorem dX11_gain_54 : decode cX11_gain 54 = .ok (.isub, 1) := by decide +kernel
theorem dX11_gain_55 : decode cX11_gain 55 = .ok (.ireturn, 1) := by decide +kernel
