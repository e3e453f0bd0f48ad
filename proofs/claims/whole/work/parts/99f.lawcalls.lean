set_option maxRecDepth 20000 in
theorem ggL_element_X11_element : GoodIn wsL_element wsX11_element := goodIn_ca (goodIn_ca (goodIn_r _ [7, 8, 9, 10, 11, 12, 13, 14, 6, 15, 16, 17, 18, 19, 20, 21, 22, 23, 24, 25, 26, 27, 28, 29, 30, 31, 32, 33, 34, 35, 36, 37, 38, 39, 40, 41, 42, 43, 44, 45, 46, 47] (by decide +kernel) (by decide +kernel)) (goodIn_sub (fun _ h => List.mem_cons_of_mem _ (List.mem_append_left _ (List.mem_append_right _ h))) (by decide +kernel))) (goodIn_sub (fun _ h => List.mem_cons_of_mem _ (List.mem_append_right _ h)) (by decide +kernel))
set_option maxRecDepth 20000 in
theorem gL_element_X11_element : GoodIn wsL_element (wsV RL 7 RX11 yX11_element wsX11_element) := goodIn_app (goodIn_of _ (by decide +kernel)) ggL_element_X11_element
theorem dL_element_0 : decode cL_element 0 = .ok (.aload_n 3, 1) := by decide +kernel
theorem dL_element_1 : decode cL_element 1 = .ok (.iconst 0, 1) := by decide +kernel
theorem dL_element_2 : decode cL_element 2 = .ok (.aload_n 0, 1) := by decide +kernel
theorem dL_element_3 : decode cL_element 3 = .ok (.iload_n 1, 1) := by decide +kernel
theorem dL_element_4 : decode cL_element 4 = .ok (.iload_n 2, 1) := by decide +kernel
theorem dL_element_5 : decode cL_element 5 = .ok (.invokevirtual 7, 3) := by decide +kernel
theorem dL_element_8 : decode cL_element 8 = .ok (.lastore, 1) := by decide +kernel
theorem dL_element_9 : decode cL_element 9 = .ok (.goto 11, 3) := by decide +kernel
theorem dL_element_12 : decode cL_element 12 = .ok (.astore 4, 2) := by decide +kernel
theorem dL_element_14 : decode cL_element 14 = .ok (.iconst 1, 1) := by decide +kernel
theorem dL_element_15 : decode cL_element 15 = .ok (.ireturn, 1) := by decide +kernel
theorem dL_element_16 : decode cL_element 16 = .ok (.astore 4, 2) := by decide +kernel
theorem dL_element_18 : decode cL_element 18 = .ok (.iconst 2, 1) := by decide +kernel
theorem dL_element_19 : decode cL_element 19 = .ok (.ireturn, 1) := by decide +kernel
theorem dL_element_20 : decode cL_element 20 = .ok (.iconst 0, 1) := by decide +kernel
theorem dL_element_21 : decode cL_element 21 = .ok (.ireturn, 1) := by decide +kernel
set_option maxRecDepth 20000 in
theorem ggL_law_X11_init : GoodIn wsL_law wsX11_init := goodIn_r _ [9, 10, 11, 12, 13, 14, 15, 16, 17, 18, 19, 20, 21, 22, 6, 23, 24, 25, 26, 27, 28, 29, 30, 31, 32, 33, 34, 35, 36, 37, 38, 39, 40, 41, 42, 43, 44, 45, 46, 47, 48, 49, 50, 51, 52, 53, 54, 55, 56, 57, 58, 59, 60, 61, 62, 63, 64, 65, 66, 67, 68, 69, 70, 71, 72, 73, 74, 75, 76, 77, 78, 79, 80, 81, 82, 83, 84, 85, 86, 87, 1166, 1167, 1168, 1169, 1170, 1171, 1172, 1137, 1138, 1139, 1140, 1141, 1142, 1143, 1144, 1173, 1174, 1175, 1176, 1177, 1178, 1179, 1180, 1181] (by decide +kernel) (by decide +kernel)
theorem gL_law_X11_init : GoodIn wsL_law (wsX11_init) := ggL_law_X11_init
set_option maxRecDepth 20000 in
theorem ggL_law_X11_parish : GoodIn wsL_law wsX11_parish := goodIn_r _ [110, 17, 16, 111, 112, 113, 2, 114, 20, 115, 116, 117, 118, 119, 120, 121, 122, 123, 26, 124, 86, 125, 126, 127, 128, 129, 130, 131, 132, 133, 134, 135, 136, 137, 138, 139, 140, 141, 142, 143, 144, 145, 146, 147, 148, 87, 149, 150, 151, 152, 153, 154, 155, 156, 157, 158, 15, 159, 33, 59, 160, 161, 162, 163, 60, 164, 165, 166, 167, 168, 169, 32, 170, 171, 64, 172, 173, 174, 175, 176, 177, 178, 179, 180, 181, 182, 183, 184, 185, 186, 187, 188, 189, 190, 191, 192, 193, 194, 195, 196, 58, 197, 198, 199, 200, 36, 201, 202, 203, 204, 57, 205, 206, 207, 208, 209, 210, 211, 212, 213, 214, 215, 216, 217, 218, 219, 220, 221, 222, 223, 224, 225, 226, 227, 228, 229, 230, 231, 232, 233, 234, 235, 236, 237, 238, 239, 240, 241, 242, 243, 244, 245, 246, 247, 248, 249, 250, 251, 252, 253, 254, 255, 256, 257, 258, 259, 260, 261, 262, 263, 264, 265, 266, 267, 54, 268, 269, 270, 271, 272, 48, 273, 274, 275, 276, 277, 42, 278, 279, 280, 281, 45, 282, 283, 284, 285, 286, 287, 288, 289, 39, 290, 291, 292, 51, 293, 294, 295, 296, 297, 298, 299, 300, 301, 302, 303, 304, 305, 306, 307, 308, 309, 310, 311, 312, 313, 314, 315, 316, 317, 318, 319, 320, 321, 322, 323, 324, 325, 326, 327, 1137, 1138, 1139, 1140, 1141, 1142, 1143, 1144, 1173, 1174, 1175, 1176, 1177, 1178, 1166, 1167, 1168, 1169, 1170, 1171, 1172, 1179, 1180, 1181] (by decide +kernel) (by decide +kernel)
set_option maxRecDepth 20000 in
theorem gL_law_X11_parish : GoodIn wsL_law (wsV RL 21 RX11 yX11_parish wsX11_parish) := goodIn_app (goodIn_of _ (by decide +kernel)) ggL_law_X11_parish
set_option maxRecDepth 20000 in
theorem ggL_law_X11_one : GoodIn wsL_law wsX11_one := goodIn_r _ [415, 16, 416, 190, 191, 15, 192, 33, 417, 256, 257, 258, 59, 418, 260, 261, 262, 60, 419, 299, 300, 32, 301, 225, 226, 227, 228, 64, 302, 303, 304, 305, 306, 307, 308, 420, 421, 194, 195, 196, 58, 422, 264, 265, 266, 267, 54, 268, 269, 270, 271, 272, 48, 273, 274, 275, 276, 277, 42, 278, 279, 280, 281, 45, 282, 283, 284, 423, 286, 287, 36, 288, 289, 39, 290, 291, 292, 51, 293, 294, 295, 296, 297, 424, 425, 426, 427, 255, 193, 259, 298, 428, 429, 430, 431, 432, 433, 434, 435, 436, 437, 438, 439, 440, 441, 442, 443, 444, 445, 446, 447, 448, 449, 450, 451, 452, 453, 454, 455, 456, 457, 458, 459, 460, 461, 462, 463, 464, 465, 466, 467, 171, 468, 469, 470, 471, 472, 473, 222, 223, 224, 1137, 1138, 1139, 1140, 1141, 1142, 1143, 1144, 1166, 1167, 1168, 1169, 1170, 1171, 1172, 1179, 1180, 1181] (by decide +kernel) (by decide +kernel)
set_option maxRecDepth 20000 in
theorem gL_law_X11_one : GoodIn wsL_law (wsV RL 26 RX11 yX11_one wsX11_one) := goodIn_app (goodIn_of _ (by decide +kernel)) ggL_law_X11_one
set_option maxRecDepth 20000 in
theorem ggL_law_X11_comes : GoodIn wsL_law wsX11_comes := goodIn_r _ [490, 16, 111, 112, 113, 2, 114, 20, 491, 492, 493, 121, 122, 123, 26, 124, 86, 125, 126, 127, 128, 177, 178, 179, 15, 180, 33, 181, 182, 183, 184, 185, 186, 187, 188, 59, 60, 165, 164, 189, 190, 191, 192, 193, 194, 195, 196, 58, 197, 198, 199, 200, 36, 201, 202, 203, 204, 57, 205, 206, 207, 208, 209, 210, 211, 212, 1137, 1138, 1139, 1140, 1141, 1142, 1143, 1144, 1173, 1174, 1175, 1176, 1177, 1178, 1166, 1167, 1168, 1169, 1170, 1171, 1172, 1179, 1180, 1181] (by decide +kernel) (by decide +kernel)
set_option maxRecDepth 20000 in
theorem gL_law_X11_comes : GoodIn wsL_law (wsV RL 31 RX11 yX11_comes wsX11_comes) := goodIn_app (goodIn_of _ (by decide +kernel)) ggL_law_X11_comes
set_option maxRecDepth 20000 in
theorem ggL_law_X11_line : GoodIn wsL_law wsX11_line := goodIn_r _ [505, 16, 213, 214, 215, 15, 216, 33, 189, 190, 191, 192, 217, 218, 219, 32, 220, 64, 221, 222, 223, 224, 225, 226, 227, 228, 1137, 1138, 1139, 1140, 1141, 1142, 1143, 1144, 1166, 1167, 1168, 1169, 1170, 1171, 1172, 1179, 1180, 1181] (by decide +kernel) (by decide +kernel)
set_option maxRecDepth 20000 in
theorem gL_law_X11_line : GoodIn wsL_law (wsV RL 35 RX11 yX11_line wsX11_line) := goodIn_app (goodIn_of _ (by decide +kernel)) ggL_law_X11_line
set_option maxRecDepth 20000 in
theorem ggL_law_X11_told : GoodIn wsL_law wsX11_told := goodIn_r _ [513, 16, 229, 230, 231, 15, 232, 164, 189, 190, 191, 192, 33, 233, 234, 235, 236, 165, 1137, 1138, 1139, 1140, 1141, 1142, 1143, 1144, 1166, 1167, 1168, 1169, 1170, 1171, 1172, 1179, 1180, 1181] (by decide +kernel) (by decide +kernel)
set_option maxRecDepth 20000 in
theorem gL_law_X11_told : GoodIn wsL_law (wsV RL 39 RX11 yX11_told wsX11_told) := goodIn_app (goodIn_of _ (by decide +kernel)) ggL_law_X11_told
set_option maxRecDepth 20000 in
theorem ggL_law_X11_days : GoodIn wsL_law wsX11_days := goodIn_r _ [521, 16, 238, 239, 240, 15, 241, 166, 164, 242, 243, 244, 245, 33, 165, 246, 247, 248, 249, 250, 226, 227, 32, 228, 64, 251, 252, 253, 254, 255, 256, 257, 258, 59, 193, 194, 195, 196, 58, 259, 260, 261, 262, 60, 263, 264, 265, 266, 267, 54, 268, 269, 270, 271, 272, 48, 273, 274, 275, 276, 277, 42, 278, 279, 280, 281, 45, 282, 283, 284, 285, 286, 287, 36, 288, 289, 39, 290, 291, 292, 51, 293, 294, 295, 296, 297, 298, 299, 300, 301, 225, 302, 303, 304, 305, 306, 307, 308, 309, 310, 311, 312, 313, 314, 315, 316, 317, 318, 319, 320, 321, 322, 323, 324, 325, 326, 327, 1137, 1138, 1139, 1140, 1141, 1142, 1143, 1144, 1166, 1167, 1168, 1169, 1170, 1171, 1172, 1179, 1180, 1181] (by decide +kernel) (by decide +kernel)
set_option maxRecDepth 20000 in
theorem gL_law_X11_days : GoodIn wsL_law (wsV RL 43 RX11 yX11_days wsX11_days) := goodIn_app (goodIn_of _ (by decide +kernel)) ggL_law_X11_days
set_option maxRecDepth 20000 in
theorem ggL_law_X11_mean : GoodIn wsL_law wsX11_mean := goodIn_r _ [529, 16, 530, 531, 532, 32, 533, 171, 468, 299, 300, 301, 225, 226, 227, 228, 64, 302, 303, 304, 305, 306, 307, 308, 534, 247, 248, 15, 249, 33, 535, 536, 2, 537, 538, 539, 540, 541, 1137, 1138, 1139, 1140, 1141, 1142, 1143, 1144, 1166, 1167, 1168, 1169, 1170, 1171, 1172, 1179, 1180, 1181] (by decide +kernel) (by decide +kernel)
set_option maxRecDepth 20000 in
theorem gL_law_X11_mean : GoodIn wsL_law (wsV RL 47 RX11 yX11_mean wsX11_mean) := goodIn_app (goodIn_of _ (by decide +kernel)) ggL_law_X11_mean
set_option maxRecDepth 20000 in
theorem ggL_law_X11_known : GoodIn wsL_law wsX11_known := goodIn_r _ [560, 16, 561, 538, 562, 563, 564, 32, 565, 171, 468, 299, 300, 301, 225, 226, 227, 228, 64, 302, 303, 304, 305, 306, 307, 308, 530, 531, 532, 533, 535, 536, 2, 537, 539, 540, 541, 566, 567, 568, 569, 534, 247, 248, 15, 249, 33, 419, 570, 470, 471, 472, 473, 222, 223, 224, 571, 572, 573, 574, 1137, 1138, 1139, 1140, 1141, 1142, 1143, 1144, 1166, 1167, 1168, 1169, 1170, 1171, 1172, 1179, 1180, 1181] (by decide +kernel) (by decide +kernel)
set_option maxRecDepth 20000 in
theorem gL_law_X11_known : GoodIn wsL_law (wsV RL 52 RX11 yX11_known wsX11_known) := goodIn_app (goodIn_of _ (by decide +kernel)) ggL_law_X11_known
set_option maxRecDepth 20000 in
theorem ggL_law_X11_feels : GoodIn wsL_law wsX11_feels := goodIn_r _ [583, 16, 464, 465, 466, 32, 467, 171, 468, 299, 300, 301, 225, 226, 227, 228, 64, 302, 303, 304, 305, 306, 307, 308, 469, 470, 471, 472, 473, 222, 223, 224, 1137, 1138, 1139, 1140, 1141, 1142, 1143, 1144, 1166, 1167, 1168, 1169, 1170, 1171, 1172, 1179, 1180, 1181] (by decide +kernel) (by decide +kernel)
set_option maxRecDepth 20000 in
theorem gL_law_X11_feels : GoodIn wsL_law (wsV RL 56 RX11 yX11_feels wsX11_feels) := goodIn_app (goodIn_of _ (by decide +kernel)) ggL_law_X11_feels
set_option maxRecDepth 20000 in
theorem ggL_law_X11_fall : GoodIn wsL_law wsX11_fall := goodIn_r _ [594, 16, 595, 596, 597, 32, 598, 171, 599, 465, 466, 467, 468, 299, 300, 301, 225, 226, 227, 228, 64, 302, 303, 304, 305, 306, 307, 308, 469, 470, 471, 472, 473, 222, 223, 224, 600, 218, 219, 220, 1137, 1138, 1139, 1140, 1141, 1142, 1143, 1144, 1166, 1167, 1168, 1169, 1170, 1171, 1172, 1179, 1180, 1181] (by decide +kernel) (by decide +kernel)
set_option maxRecDepth 20000 in
theorem gL_law_X11_fall : GoodIn wsL_law (wsV RL 61 RX11 yX11_fall wsX11_fall) := goodIn_app (goodIn_of _ (by decide +kernel)) ggL_law_X11_fall
set_option maxRecDepth 20000 in
theorem ggL_law_X11_far : GoodIn wsL_law wsX11_far := goodIn_r _ [608, 16, 416, 190, 191, 15, 192, 33, 609, 610, 611, 32, 612, 613, 614, 615, 616, 171, 225, 226, 227, 228, 64, 1137, 1138, 1139, 1140, 1141, 1142, 1143, 1144, 1166, 1167, 1168, 1169, 1170, 1171, 1172, 1179, 1180, 1181] (by decide +kernel) (by decide +kernel)
set_option maxRecDepth 20000 in
theorem gL_law_X11_far : GoodIn wsL_law (wsV RL 65 RX11 yX11_far wsX11_far) := goodIn_app (goodIn_of _ (by decide +kernel)) ggL_law_X11_far
set_option maxRecDepth 20000 in
theorem ggL_law_X11_wide : GoodIn wsL_law wsX11_wide := goodIn_r _ [631, 16, 632, 633, 634, 32, 635, 171, 636, 637, 638, 639, 640, 610, 611, 612, 613, 614, 615, 616, 225, 226, 227, 228, 64, 641, 642, 643, 644, 645, 646, 647, 648, 649, 473, 222, 223, 224, 600, 218, 219, 220, 1137, 1138, 1139, 1140, 1141, 1142, 1143, 1144, 1166, 1167, 1168, 1169, 1170, 1171, 1172, 1179, 1180, 1181] (by decide +kernel) (by decide +kernel)
set_option maxRecDepth 20000 in
theorem gL_law_X11_wide : GoodIn wsL_law (wsV RL 69 RX11 yX11_wide wsX11_wide) := goodIn_app (goodIn_of _ (by decide +kernel)) ggL_law_X11_wide
set_option maxRecDepth 20000 in
theorem ggL_law_X11_stamps : GoodIn wsL_law wsX11_stamps := goodIn_r _ [668, 16, 534, 247, 248, 15, 249, 33, 669, 303, 304, 305, 306, 307, 308, 670, 671, 672, 673, 166, 242, 243, 244, 245, 165, 246, 250, 226, 227, 32, 228, 64, 251, 252, 253, 254, 255, 256, 257, 258, 59, 193, 194, 195, 196, 58, 259, 260, 261, 262, 60, 263, 264, 265, 266, 267, 54, 268, 269, 270, 271, 272, 48, 273, 274, 275, 276, 277, 42, 278, 279, 280, 281, 45, 282, 283, 284, 285, 286, 287, 36, 288, 289, 39, 290, 291, 292, 51, 293, 294, 295, 296, 297, 298, 299, 300, 301, 225, 302, 309, 310, 311, 312, 313, 314, 315, 316, 317, 318, 319, 320, 321, 322, 323, 324, 325, 326, 1137, 1138, 1139, 1140, 1141, 1142, 1143, 1144, 1166, 1167, 1168, 1169, 1170, 1171, 1172, 1179, 1180, 1181] (by decide +kernel) (by decide +kernel)
set_option maxRecDepth 20000 in
theorem gL_law_X11_stamps : GoodIn wsL_law (wsV RL 73 RX11 yX11_stamps wsX11_stamps) := goodIn_app (goodIn_of _ (by decide +kernel)) ggL_law_X11_stamps
set_option maxRecDepth 20000 in
theorem ggL_law_X11_then : GoodIn wsL_law wsX11_then := goodIn_r _ [685, 16, 670, 671, 672, 15, 673, 166, 242, 243, 244, 245, 33, 165, 246, 247, 248, 249, 250, 226, 227, 32, 228, 64, 251, 252, 253, 254, 255, 256, 257, 258, 59, 193, 194, 195, 196, 58, 259, 260, 261, 262, 60, 263, 264, 265, 266, 267, 54, 268, 269, 270, 271, 272, 48, 273, 274, 275, 276, 277, 42, 278, 279, 280, 281, 45, 282, 283, 284, 285, 286, 287, 36, 288, 289, 39, 290, 291, 292, 51, 293, 294, 295, 296, 297, 298, 299, 300, 301, 225, 302, 303, 304, 305, 306, 307, 308, 309, 310, 311, 312, 313, 314, 315, 316, 317, 318, 319, 320, 321, 322, 323, 324, 325, 326, 1137, 1138, 1139, 1140, 1141, 1142, 1143, 1144, 1166, 1167, 1168, 1169, 1170, 1171, 1172, 1179, 1180, 1181] (by decide +kernel) (by decide +kernel)
set_option maxRecDepth 20000 in
theorem gL_law_X11_then : GoodIn wsL_law (wsV RL 78 RX11 yX11_then wsX11_then) := goodIn_app (goodIn_of _ (by decide +kernel)) ggL_law_X11_then
set_option maxRecDepth 20000 in
theorem ggL_law_X11_hears : GoodIn wsL_law wsX11_hears := goodIn_r _ [696, 16, 416, 190, 191, 15, 192, 33, 697, 243, 244, 245, 165, 246, 247, 248, 249, 250, 226, 227, 32, 228, 64, 251, 252, 253, 254, 255, 256, 257, 258, 59, 193, 194, 195, 196, 58, 259, 260, 261, 262, 60, 263, 264, 265, 266, 267, 54, 268, 269, 270, 271, 272, 48, 273, 274, 275, 276, 277, 42, 278, 279, 280, 281, 45, 282, 283, 284, 285, 286, 287, 36, 288, 289, 39, 290, 291, 292, 51, 293, 294, 295, 296, 297, 298, 299, 300, 301, 225, 302, 303, 304, 305, 306, 307, 308, 309, 310, 311, 312, 313, 314, 315, 316, 317, 318, 319, 320, 321, 322, 323, 324, 325, 326, 1137, 1138, 1139, 1140, 1141, 1142, 1143, 1144, 1166, 1167, 1168, 1169, 1170, 1171, 1172, 1179, 1180, 1181] (by decide +kernel) (by decide +kernel)
set_option maxRecDepth 20000 in
theorem gL_law_X11_hears : GoodIn wsL_law (wsV RL 82 RX11 yX11_hears wsX11_hears) := goodIn_app (goodIn_of _ (by decide +kernel)) ggL_law_X11_hears
set_option maxRecDepth 20000 in
theorem ggL_law_X11_asked : GoodIn wsL_law wsX11_asked := goodIn_r _ [705, 16, 538, 23, 561, 416, 190, 191, 15, 192, 33, 706, 707, 708, 709, 710, 711, 712, 2, 713, 24, 714, 161, 162, 163, 419, 299, 300, 32, 301, 225, 226, 227, 228, 64, 302, 303, 304, 305, 306, 307, 308, 715, 222, 223, 224, 535, 536, 537, 539, 540, 541, 1137, 1138, 1139, 1140, 1141, 1142, 1143, 1144, 1166, 1167, 1168, 1169, 1170, 1171, 1172, 1179, 1180, 1181] (by decide +kernel) (by decide +kernel)
set_option maxRecDepth 20000 in
theorem gL_law_X11_asked : GoodIn wsL_law (wsV RL 86 RX11 yX11_asked wsX11_asked) := goodIn_app (goodIn_of _ (by decide +kernel)) ggL_law_X11_asked
set_option maxRecDepth 20000 in
theorem ggL_law_X11_settles : GoodIn wsL_law wsX11_settles := goodIn_r _ [723, 16, 538, 416, 190, 191, 15, 192, 33, 419, 299, 300, 32, 301, 225, 226, 227, 228, 64, 302, 303, 304, 305, 306, 307, 308, 530, 531, 532, 533, 171, 468, 535, 536, 2, 537, 539, 540, 541, 1137, 1138, 1139, 1140, 1141, 1142, 1143, 1144, 1166, 1167, 1168, 1169, 1170, 1171, 1172, 1179, 1180, 1181] (by decide +kernel) (by decide +kernel)
set_option maxRecDepth 20000 in
theorem gL_law_X11_settles : GoodIn wsL_law (wsV RL 91 RX11 yX11_settles wsX11_settles) := goodIn_app (goodIn_of _ (by decide +kernel)) ggL_law_X11_settles
set_option maxRecDepth 20000 in
theorem ggL_law_X11_circle : GoodIn wsL_law wsX11_circle := goodIn_r _ [731, 16, 732, 733, 734, 32, 735, 171, 302, 303, 304, 305, 306, 307, 308, 736, 737, 738, 739, 225, 226, 227, 228, 64, 740, 741, 742, 743, 744, 745, 746, 747, 748, 749, 638, 750, 751, 752, 753, 754, 65, 755, 756, 757, 758, 1137, 1138, 1139, 1140, 1141, 1142, 1143, 1144, 1166, 1167, 1168, 1169, 1170, 1171, 1172, 1179, 1180, 1181] (by decide +kernel) (by decide +kernel)
set_option maxRecDepth 20000 in
theorem gL_law_X11_circle : GoodIn wsL_law (wsV RL 95 RX11 yX11_circle wsX11_circle) := goodIn_app (goodIn_of _ (by decide +kernel)) ggL_law_X11_circle
set_option maxRecDepth 20000 in
theorem ggL_law_X11_fire : GoodIn wsL_law wsX11_fire := goodIn_r _ [779, 16, 780, 781, 782, 32, 783, 171, 784, 785, 786, 787, 636, 637, 638, 639, 751, 752, 753, 754, 65, 225, 226, 227, 228, 64, 755, 756, 757, 758, 416, 190, 191, 15, 192, 33, 788, 789, 790, 791, 792, 793, 794, 795, 796, 1137, 1138, 1139, 1140, 1141, 1142, 1143, 1144, 1166, 1167, 1168, 1169, 1170, 1171, 1172, 1179, 1180, 1181] (by decide +kernel) (by decide +kernel)
set_option maxRecDepth 20000 in
theorem gL_law_X11_fire : GoodIn wsL_law (wsV RL 99 RX11 yX11_fire wsX11_fire) := goodIn_app (goodIn_of _ (by decide +kernel)) ggL_law_X11_fire
set_option maxRecDepth 20000 in
theorem ggL_law_X11_could : GoodIn wsL_law wsX11_could := goodIn_r _ [815, 111, 112, 113, 2, 114, 20, 118, 119, 120, 121, 122, 123, 26, 124, 86, 125, 126, 127, 128, 816, 817, 818, 819, 22, 137, 138, 139, 140, 141, 145, 146, 147, 148, 87, 149, 150, 151, 152, 820, 821, 822, 823, 824, 749, 638, 750, 1137, 1138, 1139, 1140, 1141, 1142, 1143, 1144, 1173, 1174, 1175, 1176, 1177, 1178] (by decide +kernel) (by decide +kernel)
set_option maxRecDepth 20000 in
theorem gL_law_X11_could : GoodIn wsL_law (wsV RL 103 RX11 yX11_could wsX11_could) := goodIn_app (goodIn_of _ (by decide +kernel)) ggL_law_X11_could
set_option maxRecDepth 20000 in
theorem ggL_law_X11_whatIs : GoodIn wsL_law wsX11_whatIs := goodIn_r _ [836, 16, 17, 416, 190, 191, 15, 192, 33, 111, 112, 113, 2, 114, 20, 118, 119, 120, 121, 122, 123, 26, 124, 86, 125, 126, 127, 128, 156, 157, 158, 159, 59, 160, 161, 162, 163, 60, 164, 165, 166, 167, 168, 169, 32, 170, 171, 64, 172, 417, 256, 257, 258, 418, 260, 261, 262, 237, 186, 187, 188, 189, 181, 182, 183, 184, 193, 194, 195, 196, 58, 197, 198, 199, 200, 36, 201, 202, 203, 204, 57, 205, 206, 207, 208, 209, 210, 211, 212, 837, 838, 839, 670, 671, 672, 673, 242, 243, 244, 245, 246, 247, 248, 249, 250, 226, 227, 228, 251, 252, 253, 254, 255, 259, 263, 264, 265, 266, 267, 54, 268, 269, 270, 271, 272, 48, 273, 274, 275, 276, 277, 42, 278, 279, 280, 281, 45, 282, 283, 284, 285, 286, 287, 288, 289, 39, 290, 291, 292, 51, 293, 294, 295, 296, 297, 298, 299, 300, 301, 225, 302, 303, 304, 305, 306, 307, 308, 309, 310, 311, 312, 313, 314, 315, 316, 317, 318, 319, 320, 321, 322, 323, 324, 325, 326, 137, 138, 139, 140, 141, 840, 841, 842, 843, 133, 844, 845, 146, 147, 148, 87, 149, 150, 151, 152, 145, 669, 697, 1137, 1138, 1139, 1140, 1141, 1142, 1143, 1144, 1166, 1167, 1168, 1169, 1170, 1171, 1172, 1179, 1180, 1181, 1173, 1174, 1175, 1176, 1177, 1178] (by decide +kernel) (by decide +kernel)
set_option maxRecDepth 20000 in
theorem gL_law_X11_whatIs : GoodIn wsL_law (wsV RL 107 RX11 yX11_whatIs wsX11_whatIs) := goodIn_app (goodIn_of _ (by decide +kernel)) ggL_law_X11_whatIs
set_option maxRecDepth 20000 in
theorem ggL_law_X11_whoBegan : GoodIn wsL_law wsX11_whoBegan := goodIn_r _ [865, 16, 111, 112, 113, 2, 114, 20, 118, 119, 120, 121, 122, 123, 26, 124, 86, 125, 126, 127, 128, 534, 247, 248, 15, 249, 33, 866, 234, 235, 236, 165, 837, 838, 839, 670, 671, 672, 673, 166, 242, 243, 244, 245, 246, 250, 226, 227, 32, 228, 64, 251, 252, 253, 254, 255, 256, 257, 258, 59, 193, 194, 195, 196, 58, 259, 260, 261, 262, 60, 263, 264, 265, 266, 267, 54, 268, 269, 270, 271, 272, 48, 273, 274, 275, 276, 277, 42, 278, 279, 280, 281, 45, 282, 283, 284, 285, 286, 287, 36, 288, 289, 39, 290, 291, 292, 51, 293, 294, 295, 296, 297, 298, 299, 300, 301, 225, 302, 303, 304, 305, 306, 307, 308, 309, 310, 311, 312, 313, 314, 315, 316, 317, 318, 319, 320, 321, 322, 323, 324, 325, 326, 137, 138, 139, 140, 141, 840, 841, 842, 843, 133, 844, 845, 146, 147, 148, 87, 149, 150, 151, 152, 145, 669, 697, 1137, 1138, 1139, 1140, 1141, 1142, 1143, 1144, 1173, 1174, 1175, 1176, 1177, 1178, 1166, 1167, 1168, 1169, 1170, 1171, 1172, 1179, 1180, 1181] (by decide +kernel) (by decide +kernel)
set_option maxRecDepth 20000 in
theorem gL_law_X11_whoBegan : GoodIn wsL_law (wsV RL 111 RX11 yX11_whoBegan wsX11_whoBegan) := goodIn_app (goodIn_of _ (by decide +kernel)) ggL_law_X11_whoBegan
set_option maxRecDepth 20000 in
theorem ggL_law_X11_two : GoodIn wsL_law wsX11_two := goodIn_r _ [874, 16, 416, 190, 191, 15, 192, 33, 875, 876, 877, 2, 878, 670, 671, 672, 673, 166, 242, 243, 244, 245, 165, 246, 247, 248, 249, 250, 226, 227, 32, 228, 64, 251, 252, 253, 254, 255, 256, 257, 258, 59, 193, 194, 195, 196, 58, 259, 260, 261, 262, 60, 263, 264, 265, 266, 267, 54, 268, 269, 270, 271, 272, 48, 273, 274, 275, 276, 277, 42, 278, 279, 280, 281, 45, 282, 283, 284, 285, 286, 287, 36, 288, 289, 39, 290, 291, 292, 51, 293, 294, 295, 296, 297, 298, 299, 300, 301, 225, 302, 303, 304, 305, 306, 307, 308, 309, 310, 311, 312, 313, 314, 315, 316, 317, 318, 319, 320, 321, 322, 323, 324, 325, 326, 420, 669, 1137, 1138, 1139, 1140, 1141, 1142, 1143, 1144, 1166, 1167, 1168, 1169, 1170, 1171, 1172, 1179, 1180, 1181] (by decide +kernel) (by decide +kernel)
set_option maxRecDepth 20000 in
theorem gL_law_X11_two : GoodIn wsL_law (wsV RL 115 RX11 yX11_two wsX11_two) := goodIn_app (goodIn_of _ (by decide +kernel)) ggL_law_X11_two
set_option maxRecDepth 20000 in
theorem ggL_law_X11_storms : GoodIn wsL_law wsX11_storms := goodIn_r _ [890, 16, 538, 416, 190, 191, 15, 192, 33, 891, 892, 893, 2, 894, 697, 243, 244, 245, 165, 246, 247, 248, 249, 250, 226, 227, 32, 228, 64, 251, 252, 253, 254, 255, 256, 257, 258, 59, 193, 194, 195, 196, 58, 259, 260, 261, 262, 60, 263, 264, 265, 266, 267, 54, 268, 269, 270, 271, 272, 48, 273, 274, 275, 276, 277, 42, 278, 279, 280, 281, 45, 282, 283, 284, 285, 286, 287, 36, 288, 289, 39, 290, 291, 292, 51, 293, 294, 295, 296, 297, 298, 299, 300, 301, 225, 302, 303, 304, 305, 306, 307, 308, 309, 310, 311, 312, 313, 314, 315, 316, 317, 318, 319, 320, 321, 322, 323, 324, 325, 326, 895, 896, 897, 535, 536, 537, 539, 540, 541, 1137, 1138, 1139, 1140, 1141, 1142, 1143, 1144, 1166, 1167, 1168, 1169, 1170, 1171, 1172, 1179, 1180, 1181] (by decide +kernel) (by decide +kernel)
set_option maxRecDepth 20000 in
theorem gL_law_X11_storms : GoodIn wsL_law (wsV RL 119 RX11 yX11_storms wsX11_storms) := goodIn_app (goodIn_of _ (by decide +kernel)) ggL_law_X11_storms
set_option maxRecDepth 20000 in
theorem ggL_law_X11_forged : GoodIn wsL_law wsX11_forged := goodIn_r _ [905, 16, 111, 112, 113, 2, 114, 20, 118, 119, 120, 121, 122, 123, 26, 124, 86, 125, 126, 127, 128, 137, 138, 139, 140, 141, 416, 190, 191, 15, 192, 33, 145, 146, 147, 148, 87, 149, 150, 151, 152, 419, 299, 300, 32, 301, 225, 226, 227, 228, 64, 302, 303, 304, 305, 306, 307, 308, 1137, 1138, 1139, 1140, 1141, 1142, 1143, 1144, 1166, 1167, 1168, 1169, 1170, 1171, 1172, 1173, 1174, 1175, 1176, 1177, 1178, 1179, 1180, 1181] (by decide +kernel) (by decide +kernel)
set_option maxRecDepth 20000 in
theorem gL_law_X11_forged : GoodIn wsL_law (wsV RL 123 RX11 yX11_forged wsX11_forged) := goodIn_app (goodIn_of _ (by decide +kernel)) ggL_law_X11_forged
set_option maxRecDepth 20000 in
theorem ggL_law_X11_judge : GoodIn wsL_law wsX11_judge := goodIn_r _ [913, 16, 111, 112, 113, 2, 114, 20, 118, 119, 120, 121, 122, 123, 26, 124, 86, 125, 126, 127, 128, 837, 838, 839, 670, 671, 672, 15, 673, 166, 242, 243, 244, 245, 33, 165, 246, 247, 248, 249, 250, 226, 227, 32, 228, 64, 251, 252, 253, 254, 255, 256, 257, 258, 59, 193, 194, 195, 196, 58, 259, 260, 261, 262, 60, 263, 264, 265, 266, 267, 54, 268, 269, 270, 271, 272, 48, 273, 274, 275, 276, 277, 42, 278, 279, 280, 281, 45, 282, 283, 284, 285, 286, 287, 36, 288, 289, 39, 290, 291, 292, 51, 293, 294, 295, 296, 297, 298, 299, 300, 301, 225, 302, 303, 304, 305, 306, 307, 308, 309, 310, 311, 312, 313, 314, 315, 316, 317, 318, 319, 320, 321, 322, 323, 324, 325, 326, 137, 138, 139, 140, 141, 840, 841, 842, 843, 133, 844, 845, 146, 147, 148, 87, 149, 150, 151, 152, 145, 669, 697, 1137, 1138, 1139, 1140, 1141, 1142, 1143, 1144, 1166, 1167, 1168, 1169, 1170, 1171, 1172, 1173, 1174, 1175, 1176, 1177, 1178, 1179, 1180, 1181] (by decide +kernel) (by decide +kernel)
set_option maxRecDepth 20000 in
theorem gL_law_X11_judge : GoodIn wsL_law (wsV RL 127 RX11 yX11_judge wsX11_judge) := goodIn_app (goodIn_of _ (by decide +kernel)) ggL_law_X11_judge
set_option maxRecDepth 20000 in
theorem ggL_law_X11_years : GoodIn wsL_law wsX11_years := goodIn_r _ [921, 17, 16, 156, 157, 158, 15, 159, 33, 59, 160, 161, 162, 163, 60, 164, 165, 166, 167, 168, 169, 32, 170, 171, 64, 172, 922, 923, 924, 925, 926, 927, 928, 473, 222, 223, 224, 225, 226, 227, 228, 600, 218, 219, 220, 670, 671, 672, 673, 242, 243, 244, 245, 246, 247, 248, 249, 250, 251, 252, 253, 254, 255, 256, 257, 258, 193, 194, 195, 196, 58, 259, 260, 261, 262, 263, 264, 265, 266, 267, 54, 268, 269, 270, 271, 272, 48, 273, 274, 275, 276, 277, 42, 278, 279, 280, 281, 45, 282, 283, 284, 285, 286, 287, 36, 288, 289, 39, 290, 291, 292, 51, 293, 294, 295, 296, 297, 298, 299, 300, 301, 302, 303, 304, 305, 306, 307, 308, 309, 310, 311, 312, 313, 314, 315, 316, 317, 318, 319, 320, 321, 322, 323, 324, 325, 326, 669, 929, 930, 931, 932, 933, 531, 532, 533, 468, 1137, 1138, 1139, 1140, 1141, 1142, 1143, 1144, 1166, 1167, 1168, 1169, 1170, 1171, 1172, 1179, 1180, 1181] (by decide +kernel) (by decide +kernel)
set_option maxRecDepth 20000 in
theorem gL_law_X11_years : GoodIn wsL_law (wsV RL 131 RX11 yX11_years wsX11_years) := goodIn_app (goodIn_of _ (by decide +kernel)) ggL_law_X11_years
set_option maxRecDepth 20000 in
theorem ggL_law_X11_image : GoodIn wsL_law wsX11_image := goodIn_r _ [949, 18, 16, 950, 156, 157, 158, 15, 159, 33, 59, 160, 161, 162, 163, 60, 164, 165, 166, 167, 168, 169, 32, 170, 171, 64, 172, 1137, 1138, 1139, 1140, 1141, 1142, 1143, 1144, 1166, 1167, 1168, 1169, 1170, 1171, 1172, 1179, 1180, 1181] (by decide +kernel) (by decide +kernel)
set_option maxRecDepth 20000 in
theorem gL_law_X11_image : GoodIn wsL_law (wsV RL 135 RX11 yX11_image wsX11_image) := goodIn_app (goodIn_of _ (by decide +kernel)) ggL_law_X11_image
set_option maxRecDepth 20000 in
theorem ggL_law_X11_restore : GoodIn wsL_law wsX11_restore := goodIn_r _ [959, 950, 16, 18, 156, 157, 158, 15, 159, 33, 59, 160, 161, 162, 163, 60, 164, 165, 166, 167, 168, 169, 32, 170, 171, 64, 172, 1137, 1138, 1139, 1140, 1141, 1142, 1143, 1144, 1166, 1167, 1168, 1169, 1170, 1171, 1172, 1179, 1180, 1181] (by decide +kernel) (by decide +kernel)
set_option maxRecDepth 20000 in
theorem gL_law_X11_restore : GoodIn wsL_law (wsV RL 139 RX11 yX11_restore wsX11_restore) := goodIn_app (goodIn_of _ (by decide +kernel)) ggL_law_X11_restore
set_option maxRecDepth 20000 in
theorem ggL_law_X11_count : GoodIn wsL_law wsX11_count := goodIn_r _ [967, 16, 534, 247, 248, 15, 249, 33, 929, 930, 931, 32, 932, 933, 531, 532, 533, 171, 468, 299, 300, 301, 225, 226, 227, 228, 64, 302, 303, 304, 305, 306, 307, 308, 968, 969, 970, 971, 246, 972, 425, 426, 427, 255, 256, 257, 258, 59, 193, 194, 195, 196, 58, 259, 260, 261, 262, 60, 298, 428, 429, 430, 431, 432, 54, 433, 434, 435, 271, 436, 48, 437, 438, 439, 276, 440, 42, 441, 442, 443, 444, 36, 445, 446, 447, 45, 448, 449, 450, 451, 452, 453, 454, 39, 455, 456, 457, 458, 459, 51, 460, 461, 462, 296, 463, 1137, 1138, 1139, 1140, 1141, 1142, 1143, 1144, 1166, 1167, 1168, 1169, 1170, 1171, 1172, 1179, 1180, 1181] (by decide +kernel) (by decide +kernel)
set_option maxRecDepth 20000 in
theorem gL_law_X11_count : GoodIn wsL_law (wsV RL 143 RX11 yX11_count wsX11_count) := goodIn_app (goodIn_of _ (by decide +kernel)) ggL_law_X11_count
set_option maxRecDepth 20000 in
theorem ggL_law_X11_keep : GoodIn wsL_law wsX11_keep := goodIn_r _ [980, 111, 112, 113, 2, 114, 20, 981, 982, 983, 26, 984, 86, 985, 181, 182, 986, 183, 184, 987, 988, 989, 990, 991, 992, 1137, 1138, 1139, 1140, 1141, 1142, 1143, 1144, 1173, 1174, 1175, 1176, 1177, 1178] (by decide +kernel) (by decide +kernel)
set_option maxRecDepth 20000 in
theorem gL_law_X11_keep : GoodIn wsL_law (wsV RL 147 RX11 yX11_keep wsX11_keep) := goodIn_app (goodIn_of _ (by decide +kernel)) ggL_law_X11_keep
set_option maxRecDepth 20000 in
theorem ggL_law_X11_row : GoodIn wsL_law wsX11_row := goodIn_r _ [1000, 111, 112, 113, 2, 114, 20, 1001, 1002, 1003, 26, 1004, 86, 133, 141, 87, 1005, 1006, 708, 1007, 1137, 1138, 1139, 1140, 1141, 1142, 1143, 1144, 1173, 1174, 1175, 1176, 1177, 1178] (by decide +kernel) (by decide +kernel)
set_option maxRecDepth 20000 in
theorem gL_law_X11_row : GoodIn wsL_law (wsV RL 152 RX11 yX11_row wsX11_row) := goodIn_app (goodIn_of _ (by decide +kernel)) ggL_law_X11_row
set_option maxRecDepth 20000 in
theorem ggL_law_X11_put : GoodIn wsL_law wsX11_put := goodIn_r _ [1015, 111, 112, 113, 2, 114, 20, 118, 119, 120, 121, 122, 123, 26, 124, 86, 125, 126, 127, 128, 1016, 150, 151, 152, 141, 1017, 1018, 1019, 1020, 87, 133, 149, 1137, 1138, 1139, 1140, 1141, 1142, 1143, 1144, 1173, 1174, 1175, 1176, 1177, 1178] (by decide +kernel) (by decide +kernel)
set_option maxRecDepth 20000 in
theorem gL_law_X11_put : GoodIn wsL_law (wsV RL 156 RX11 yX11_put wsX11_put) := goodIn_app (goodIn_of _ (by decide +kernel)) ggL_law_X11_put
set_option maxRecDepth 20000 in
theorem ggL_law_L_element : GoodIn wsL_law wsL_element := goodIn_ca (goodIn_ca (goodIn_r _ [1028, 1029, 1030, 1031, 1032, 1033, 2, 1034, 1035, 1036, 1037, 1038, 111, 112, 113, 114, 20, 125, 126, 127, 26, 128, 86, 1016, 150, 151, 152, 141, 145, 146, 147, 148, 87, 149, 1137, 1138, 1139, 1140, 1141, 1142, 1143, 1144, 1173, 1174, 1175, 1176, 1177, 1178] (by decide +kernel) (by decide +kernel)) (goodIn_sub (fun _ h => List.mem_append_left _ (List.mem_append_left _ (List.mem_append_left _ (List.mem_append_left _ (List.mem_append_right _ h))))) (by decide +kernel))) (goodIn_sub (fun _ h => List.mem_append_left _ (List.mem_append_left _ (List.mem_append_left _ (List.mem_append_right _ h)))) (by decide +kernel))
set_option maxRecDepth 20000 in
theorem gL_law_L_element : GoodIn wsL_law (va_wsS RL 160 yL_element wsL_element) := goodIn_app (goodIn_of _ (by decide +kernel)) ggL_law_L_element
set_option maxRecDepth 20000 in
theorem ggL_law_X11_copy : GoodIn wsL_law wsX11_copy := goodIn_r _ [1051, 714, 161, 162, 163, 111, 112, 113, 2, 114, 20, 121, 122, 123, 26, 124, 86, 125, 126, 127, 128, 1052, 1053, 1054, 1055, 141, 1173, 1174, 1175, 1176, 1177, 1178, 1137, 1138, 1139, 1140, 1141, 1142, 1143, 1144] (by decide +kernel) (by decide +kernel)
set_option maxRecDepth 20000 in
theorem gL_law_X11_copy : GoodIn wsL_law (wsV RL 169 RX11 yX11_copy wsX11_copy) := goodIn_app (goodIn_of _ (by decide +kernel)) ggL_law_X11_copy
set_option maxRecDepth 20000 in
theorem ggL_law_X11_cost : GoodIn wsL_law wsX11_cost := goodIn_r _ [1063, 16, 111, 112, 113, 2, 114, 20, 491, 492, 493, 121, 122, 123, 26, 124, 86, 125, 126, 127, 128, 421, 194, 195, 15, 196, 58, 1064, 1065, 1066, 1067, 1068, 54, 1069, 1070, 1071, 1072, 45, 1073, 1074, 1075, 1076, 1077, 39, 1078, 1079, 1080, 42, 1081, 1082, 443, 1083, 36, 1084, 1085, 1086, 1087, 1088, 1089, 51, 1090, 1091, 296, 1092, 1093, 48, 1094, 1095, 1096, 276, 1137, 1138, 1139, 1140, 1141, 1142, 1143, 1144, 1173, 1174, 1175, 1176, 1177, 1178, 1166, 1167, 1168, 1169, 1170, 1171, 1172] (by decide +kernel) (by decide +kernel)
set_option maxRecDepth 20000 in
theorem gL_law_X11_cost : GoodIn wsL_law (wsV RL 174 RX11 yX11_cost wsX11_cost) := goodIn_app (goodIn_of _ (by decide +kernel)) ggL_law_X11_cost
set_option maxRecDepth 20000 in
theorem ggL_law_X11_toss : GoodIn wsL_law wsX11_toss := goodIn_ca (goodIn_ca (goodIn_ca (goodIn_r _ [1107, 1108, 1035, 1037, 16, 111, 112, 113, 2, 114, 20, 491, 492, 493, 121, 122, 123, 26, 124, 86, 125, 126, 127, 128, 421, 194, 195, 15, 196, 58, 1109, 1110, 1111, 1112, 1113, 54, 1114, 1115, 1116, 1117, 1118, 1119, 39, 1120, 1121, 1122, 42, 1123, 1124, 1036, 1125, 1126, 1127, 1128, 36, 1129, 1038, 1130, 1131, 1132, 1064, 1065, 1066, 1067, 1068, 1069, 1070, 1071, 1072, 45, 1073, 1074, 1075, 1076, 1077, 1078, 1079, 1080, 1081, 1082, 443, 1083, 1084, 1085, 1086, 1087, 1088, 1089, 51, 1090, 1091, 296, 1092, 1093, 48, 1094, 1095, 1096, 276, 1137, 1138, 1139, 1140, 1141, 1142, 1143, 1144, 1173, 1174, 1175, 1176, 1177, 1178, 1166, 1167, 1168, 1169, 1170, 1171, 1172] (by decide +kernel) (by decide +kernel)) (goodIn_sub (fun _ h => List.mem_append_left _ (List.mem_append_left _ (List.mem_append_right _ h))) (by decide +kernel))) (goodIn_sub (fun _ h => List.mem_append_left _ (List.mem_append_right _ h)) (by decide +kernel))) (goodIn_sub (fun _ h => List.mem_append_right _ h) (by decide +kernel))
set_option maxRecDepth 20000 in
theorem gL_law_X11_toss : GoodIn wsL_law (wsV RL 178 RX11 yX11_toss wsX11_toss) := goodIn_app (goodIn_of _ (by decide +kernel)) ggL_law_X11_toss
set_option maxRecDepth 20000 in
theorem gL_law_U_parish : GoodIn lw_tbl (wsV RL 25 RX12 yX12_parish (uX12_parish)) := goodIn_app (gLup (goodIn_of _ (by decide +kernel))) (gLU (by decide +kernel))
set_option maxRecDepth 20000 in
theorem gL_law_U_one : GoodIn lw_tbl (wsV RL 30 RX12 yX12_one (uX12_one)) := goodIn_app (gLup (goodIn_of _ (by decide +kernel))) (gLU (by decide +kernel))
set_option maxRecDepth 20000 in
theorem gL_law_U_comes : GoodIn lw_tbl (wsV RL 34 RX12 yX12_comes (uX12_comes)) := goodIn_app (gLup (goodIn_of _ (by decide +kernel))) (gLU (by decide +kernel))
set_option maxRecDepth 20000 in
theorem gL_law_U_line : GoodIn lw_tbl (wsV RL 38 RX12 yX12_line (uX12_line)) := goodIn_app (gLup (goodIn_of _ (by decide +kernel))) (gLU (by decide +kernel))
set_option maxRecDepth 20000 in
theorem gL_law_U_told : GoodIn lw_tbl (wsV RL 42 RX12 yX12_told (uX12_told)) := goodIn_app (gLup (goodIn_of _ (by decide +kernel))) (gLU (by decide +kernel))
set_option maxRecDepth 20000 in
theorem gL_law_U_days : GoodIn lw_tbl (wsV RL 46 RX12 yX12_days (uX12_days)) := goodIn_app (gLup (goodIn_of _ (by decide +kernel))) (gLU (by decide +kernel))
set_option maxRecDepth 20000 in
theorem gL_law_U_mean : GoodIn lw_tbl (wsV RL 51 RX12 yX12_mean (uX12_mean)) := goodIn_app (gLup (goodIn_of _ (by decide +kernel))) (gLU (by decide +kernel))
set_option maxRecDepth 20000 in
theorem gL_law_U_known : GoodIn lw_tbl (wsV RL 55 RX12 yX12_known (uX12_known)) := goodIn_app (gLup (goodIn_of _ (by decide +kernel))) (gLU (by decide +kernel))
set_option maxRecDepth 20000 in
theorem gL_law_U_feels : GoodIn lw_tbl (wsV RL 60 RX12 yX12_feels (uX12_feels)) := goodIn_app (gLup (goodIn_of _ (by decide +kernel))) (gLU (by decide +kernel))
set_option maxRecDepth 20000 in
theorem gL_law_U_fall : GoodIn lw_tbl (wsV RL 64 RX12 yX12_fall (uX12_fall)) := goodIn_app (gLup (goodIn_of _ (by decide +kernel))) (gLU (by decide +kernel))
set_option maxRecDepth 20000 in
theorem gL_law_U_far : GoodIn lw_tbl (wsV RL 68 RX12 yX12_far (uX12_far)) := goodIn_app (gLup (goodIn_of _ (by decide +kernel))) (gLU (by decide +kernel))
set_option maxRecDepth 20000 in
theorem gL_law_U_wide : GoodIn lw_tbl (wsV RL 72 RX12 yX12_wide (uX12_wide)) := goodIn_app (gLup (goodIn_of _ (by decide +kernel))) (gLU (by decide +kernel))
set_option maxRecDepth 20000 in
theorem gL_law_U_stamps : GoodIn lw_tbl (wsV RL 77 RX12 yX12_stamps (uX12_stamps)) := goodIn_app (gLup (goodIn_of _ (by decide +kernel))) (gLU (by decide +kernel))
set_option maxRecDepth 20000 in
theorem gL_law_U_then : GoodIn lw_tbl (wsV RL 81 RX12 yX12_then (uX12_then)) := goodIn_app (gLup (goodIn_of _ (by decide +kernel))) (gLU (by decide +kernel))
set_option maxRecDepth 20000 in
theorem gL_law_U_hears : GoodIn lw_tbl (wsV RL 85 RX12 yX12_hears (uX12_hears)) := goodIn_app (gLup (goodIn_of _ (by decide +kernel))) (gLU (by decide +kernel))
set_option maxRecDepth 20000 in
theorem gL_law_U_asked : GoodIn lw_tbl (wsV RL 90 RX12 yX12_asked (uX12_asked)) := goodIn_app (gLup (goodIn_of _ (by decide +kernel))) (gLU (by decide +kernel))
set_option maxRecDepth 20000 in
theorem gL_law_U_settles : GoodIn lw_tbl (wsV RL 94 RX12 yX12_settles (uX12_settles)) := goodIn_app (gLup (goodIn_of _ (by decide +kernel))) (gLU (by decide +kernel))
set_option maxRecDepth 20000 in
theorem gL_law_U_circle : GoodIn lw_tbl (wsV RL 98 RX12 yX12_circle (uX12_circle)) := goodIn_app (gLup (goodIn_of _ (by decide +kernel))) (gLU (by decide +kernel))
set_option maxRecDepth 20000 in
theorem gL_law_U_fire : GoodIn lw_tbl (wsV RL 102 RX12 yX12_fire (uX12_fire)) := goodIn_app (gLup (goodIn_of _ (by decide +kernel))) (gLU (by decide +kernel))
set_option maxRecDepth 20000 in
theorem gL_law_U_could : GoodIn lw_tbl (wsV RL 106 RX12 yX12_could (uX12_could)) := goodIn_app (gLup (goodIn_of _ (by decide +kernel))) (gLU (by decide +kernel))
set_option maxRecDepth 20000 in
theorem gL_law_U_whatIs : GoodIn lw_tbl (wsV RL 110 RX12 yX12_whatIs (uX12_whatIs)) := goodIn_app (gLup (goodIn_of _ (by decide +kernel))) (gLU (by decide +kernel))
set_option maxRecDepth 20000 in
theorem gL_law_U_whoBegan : GoodIn lw_tbl (wsV RL 114 RX12 yX12_whoBegan (uX12_whoBegan)) := goodIn_app (gLup (goodIn_of _ (by decide +kernel))) (gLU (by decide +kernel))
set_option maxRecDepth 20000 in
theorem gL_law_U_two : GoodIn lw_tbl (wsV RL 118 RX12 yX12_two (uX12_two)) := goodIn_app (gLup (goodIn_of _ (by decide +kernel))) (gLU (by decide +kernel))
set_option maxRecDepth 20000 in
theorem gL_law_U_storms : GoodIn lw_tbl (wsV RL 122 RX12 yX12_storms (uX12_storms)) := goodIn_app (gLup (goodIn_of _ (by decide +kernel))) (gLU (by decide +kernel))
set_option maxRecDepth 20000 in
theorem gL_law_U_forged : GoodIn lw_tbl (wsV RL 126 RX12 yX12_forged (uX12_forged)) := goodIn_app (gLup (goodIn_of _ (by decide +kernel))) (gLU (by decide +kernel))
set_option maxRecDepth 20000 in
theorem gL_law_U_judge : GoodIn lw_tbl (wsV RL 130 RX12 yX12_judge (uX12_judge)) := goodIn_app (gLup (goodIn_of _ (by decide +kernel))) (gLU (by decide +kernel))
set_option maxRecDepth 20000 in
theorem gL_law_U_years : GoodIn lw_tbl (wsV RL 134 RX12 yX12_years (uX12_years)) := goodIn_app (gLup (goodIn_of _ (by decide +kernel))) (gLU (by decide +kernel))
set_option maxRecDepth 20000 in
theorem gL_law_U_image : GoodIn lw_tbl (wsV RL 138 RX12 yX12_image (uX12_image)) := goodIn_app (gLup (goodIn_of _ (by decide +kernel))) (gLU (by decide +kernel))
set_option maxRecDepth 20000 in
theorem gL_law_U_restore : GoodIn lw_tbl (wsV RL 142 RX12 yX12_restore (uX12_restore)) := goodIn_app (gLup (goodIn_of _ (by decide +kernel))) (gLU (by decide +kernel))
set_option maxRecDepth 20000 in
theorem gL_law_U_count : GoodIn lw_tbl (wsV RL 146 RX12 yX12_count (uX12_count)) := goodIn_app (gLup (goodIn_of _ (by decide +kernel))) (gLU (by decide +kernel))
set_option maxRecDepth 20000 in
theorem gL_law_U_keep : GoodIn lw_tbl (wsV RL 151 RX12 yX12_keep (uX12_keep)) := goodIn_app (gLup (goodIn_of _ (by decide +kernel))) (gLU (by decide +kernel))
set_option maxRecDepth 20000 in
theorem gL_law_U_row : GoodIn lw_tbl (wsV RL 155 RX12 yX12_row (uX12_row)) := goodIn_app (gLup (goodIn_of _ (by decide +kernel))) (gLU (by decide +kernel))
set_option maxRecDepth 20000 in
theorem gL_law_U_put : GoodIn lw_tbl (wsV RL 159 RX12 yX12_put (uX12_put)) := goodIn_app (gLup (goodIn_of _ (by decide +kernel))) (gLU (by decide +kernel))
set_option maxRecDepth 20000 in
theorem gL_law_U_element : GoodIn lw_tbl (wsV RL 165 RX12 yX12_element (uX12_element)) := goodIn_app (gLup (goodIn_of _ (by decide +kernel))) (gLU (by decide +kernel))
set_option maxRecDepth 20000 in
theorem gL_law_U_thrown : GoodIn lw_tbl (wsV RL 166 RX12 yX12_thrown (uX12_thrown)) := goodIn_app (gLup (goodIn_of _ (by decide +kernel))) (gLU (by decide +kernel))
set_option maxRecDepth 20000 in
theorem gL_law_U_copy : GoodIn lw_tbl (wsV RL 173 RX12 yX12_copy (uX12_copy)) := goodIn_app (gLup (goodIn_of _ (by decide +kernel))) (gLU (by decide +kernel))
set_option maxRecDepth 20000 in
theorem gL_law_U_cost : GoodIn lw_tbl (wsV RL 177 RX12 yX12_cost (uX12_cost)) := goodIn_app (gLup (goodIn_of _ (by decide +kernel))) (gLU (by decide +kernel))
set_option maxRecDepth 20000 in
theorem gL_law_U_toss : GoodIn lw_tbl (wsV RL 181 RX12 yX12_toss (uX12_toss)) := goodIn_app (gLup (goodIn_of _ (by decide +kernel))) (gLU (by decide +kernel))
