def U12_0 : List Cond := [.code yX12_init cX12_init 1 none, .methodLink RX12 1 objectInit, .instanceMethod objectInit, .code objectInit ⟨#[0xb1]⟩ 1 none, .arrayClass .int, .fieldLink RX12 9 "MoreThanSheHasModel" "s" "[I", .fieldLink RX12 13 "MoreThanSheHasModel" "m" "[I", .fieldLink RX12 16 "MoreThanSheHasModel" "image" "[I", .fieldLink RX12 19 "MoreThanSheHasModel" "was" "[I", .fieldLink RX12 22 "MoreThanSheHasModel" "numbers" "[I", .arrayClass .long, .fieldLink RX12 25 "MoreThanSheHasModel" "likely" "[J", .fieldLink RX12 29 "MoreThanSheHasModel" "next" "[J", .fieldLink RX12 32 "MoreThanSheHasModel" "best" "[I", .fieldLink RX12 35 "MoreThanSheHasModel" "told" "[I", .fieldLink RX12 38 "MoreThanSheHasModel" "kept" "[I", .fieldLink RX12 41 "MoreThanSheHasModel" "keptKind" "[I", .fieldLink RX12 44 "MoreThanSheHasModel" "keptFigure" "[I", .fieldLink RX12 47 "MoreThanSheHasModel" "sort" "[I", .fieldLink RX12 50 "MoreThanSheHasModel" "size" "[I"]
def U12_1 : List Cond := [.fieldLink RX12 53 "MoreThanSheHasModel" "element" "[I", .code yX12_isIn cX12_isIn 3 ( some .boolean ), .code yX12_copies cX12_copies 3 none, .code yX12_of cX12_of 2 ( some .int ), .code yX12_isOne cX12_isOne 2 ( some .boolean ), .methodLink RX12 56 yX12_isIn, .static yX12_isIn, .initialized RX12, .code yX12_areTwo cX12_areTwo 3 ( some .boolean ), .methodLink RX12 60 yX12_isOne, .instanceMethod yX12_isOne, .selects RX12 yX12_isOne yX12_isOne, .code yX12_has cX12_has 2 ( some .boolean ), .code yX12_bits cX12_bits 3 ( some .int ), .code yX12_number cX12_number 2 ( some .int ), .methodLink RX12 64 yX12_of, .static yX12_of, .methodLink RX12 68 yX12_bits, .static yX12_bits, .code yX12_isDeaf cX12_isDeaf 2 ( some .boolean )]
def U12_2 : List Cond := [.code yX12_tellsBy cX12_tellsBy 4 ( some .int ), .code yX12_doesLike cX12_doesLike 3 ( some .boolean ), .methodLink RX12 72 yX12_number, .static yX12_number, .code yX12_cardsOf cX12_cardsOf 4 ( some .int ), .code yX12_tells cX12_tells 4 none, .methodLink RX12 76 yX12_tellsBy, .static yX12_tellsBy, .methodLink RX12 80 yX12_has, .static yX12_has, .methodLink RX12 84 yX12_isDeaf, .static yX12_isDeaf, .methodLink RX12 88 yX12_doesLike, .static yX12_doesLike, Cond.methodLink RX12 92 yX12_tells, Cond.static yX12_tells, .code yX12_day cX12_day 4 none, Cond.methodLink RX12 96 yX12_day, Cond.static yX12_day, .code yX12_daysOn cX12_daysOn 3 none]
def U12_3 : List Cond := [.code yX12_changesLine cX12_changesLine 3 none, .code yX12_linesIn cX12_linesIn 3 ( some .int ), .code yX12_becomes cX12_becomes 4 none, .code yX12_here cX12_here 1 ( some .int ), .fieldLink RX12 99 "MoreThanSheHasModel" "place" "I", .fieldLink RX12 103 "MoreThanSheHasModel" "rowEnd" "I", .fieldLink RX12 106 "MoreThanSheHasModel" "rowAt" "I", .code yX12_readsNumber cX12_readsNumber 4 ( some .boolean ), .methodLink RX12 109 yX12_here, .instanceMethod yX12_here, .selects RX12 yX12_here yX12_here, .code yX12_readsStatement cX12_readsStatement 3 ( some .boolean ), .methodLink RX12 113 yX12_readsNumber, .instanceMethod yX12_readsNumber, .selects RX12 yX12_readsNumber yX12_readsNumber, .code yX12_adds cX12_adds 4 none, Cond.methodLink RX12 116 yX12_adds, Cond.instanceMethod yX12_adds, Cond.selects RX12 yX12_adds yX12_adds, Cond.methodLink RX12 120 yX12_areTwo]
def U12_4 : List Cond := [Cond.instanceMethod yX12_areTwo, Cond.selects RX12 yX12_areTwo yX12_areTwo, Cond.methodLink RX12 123 yX12_changesLine, Cond.static yX12_changesLine, Cond.methodLink RX12 127 yX12_becomes, Cond.static yX12_becomes, Cond.methodLink RX12 131 yX12_daysOn, Cond.static yX12_daysOn, .code yX12_isDone cX12_isDone 4 ( some .boolean ), .code yX12_isShelf cX12_isShelf 1 ( some .boolean ), .code yX12_wrongRow cX12_wrongRow 3 ( some .int ), .methodLink RX12 256 yX12_isShelf, .static yX12_isShelf, Cond.methodLink RX12 134 yX12_wrongRow, Cond.instanceMethod yX12_wrongRow, Cond.selects RX12 yX12_wrongRow yX12_wrongRow, Cond.methodLink RX12 137 yX12_readsStatement, Cond.instanceMethod yX12_readsStatement, Cond.selects RX12 yX12_readsStatement yX12_readsStatement, Cond.methodLink RX12 141 yX12_copies]
def U12_5 : List Cond := [Cond.static yX12_copies, Cond.methodLink RX12 145 yX12_isDone, Cond.instanceMethod yX12_isDone, Cond.selects RX12 yX12_isDone yX12_isDone, .code yX12_parish cX12_parish 8 ( some .int ), .code yX12_knownSum cX12_knownSum 4 ( some .int ), .code yX12_feelsIt cX12_feelsIt 3 ( some .boolean ), .methodLink RX12 175 yX12_knownSum, .static yX12_knownSum, Cond.methodLink RX12 148 yX12_cardsOf, Cond.static yX12_cardsOf, Cond.methodLink RX12 151 yX12_feelsIt, Cond.static yX12_feelsIt, .code yX12_one cX12_one 3 ( some .int ), .code yX12_wrongKept cX12_wrongKept 2 ( some .int ), .code yX12_comes cX12_comes 3 ( some .int ), .methodLink RX12 154 yX12_wrongKept, .instanceMethod yX12_wrongKept, .selects RX12 yX12_wrongKept yX12_wrongKept, .code yX12_line cX12_line 3 ( some .int )]
def U12_6 : List Cond := [.code yX12_told cX12_told 2 ( some .int ), .code yX12_days cX12_days 2 ( some .int ), .code yX12_gcd cX12_gcd 10 ( some .long ), .code yX12_partOf cX12_partOf 5 ( some .long ), .methodLink RX12 157 yX12_gcd, .static yX12_gcd, Cond.constantLong RX12 161 ( 2 ), Cond.constantLong RX12 171 ( 1000000001 ), Cond.methodLink RX12 163 yX12_linesIn, Cond.static yX12_linesIn, Cond.methodLink RX12 167 yX12_partOf, Cond.static yX12_partOf, .code yX12_mean cX12_mean 2 ( some .long ), Cond.constantLong RX12 173 ( 840 ), .code yX12_known cX12_known 9 ( some .long ), .code yX12_feelsIn cX12_feelsIn 3 ( some .int ), .code yX12_feels cX12_feels 1 ( some .int ), .methodLink RX12 178 yX12_feelsIn, .static yX12_feelsIn, .code yX12_fall cX12_fall 7 ( some .int )]
def U12_7 : List Cond := [.code yX12_around cX12_around 4 ( some .int ), .code yX12_farOf cX12_farOf 5 ( some .int ), .methodLink RX12 181 yX12_around, .static yX12_around, .code yX12_far cX12_far 3 ( some .int ), .methodLink RX12 184 yX12_farOf, .instanceMethod yX12_farOf, .selects RX12 yX12_farOf yX12_farOf, .code yX12_partsIn cX12_partsIn 6 ( some .int ), .code yX12_widest cX12_widest 4 ( some .int ), .code yX12_bridges cX12_bridges 4 ( some .int ), .methodLink RX12 187 yX12_partsIn, .static yX12_partsIn, Cond.methodLink RX12 190 yX12_widest, Cond.instanceMethod yX12_widest, Cond.selects RX12 yX12_widest yX12_widest, Cond.methodLink RX12 193 yX12_bridges, Cond.instanceMethod yX12_bridges, Cond.selects RX12 yX12_bridges yX12_bridges, .code yX12_wide cX12_wide 2 ( some .int )]
def U12_8 : List Cond := [.code yX12_hearing cX12_hearing 3 ( some .int ), Cond.methodLink RX12 196 yX12_hearing, Cond.instanceMethod yX12_hearing, Cond.selects RX12 yX12_hearing yX12_hearing, .code yX12_stamps cX12_stamps 7 ( some .int ), .code yX12_isLate cX12_isLate 1 ( some .boolean ), Cond.methodLink RX12 199 yX12_isLate, Cond.static yX12_isLate, .code yX12_then cX12_then 2 ( some .int ), .code yX12_hears cX12_hears 3 ( some .int ), .code yX12_asked cX12_asked 11 ( some .long ), .code yX12_settles cX12_settles 3 ( some .long ), .code yX12_isCircle cX12_isCircle 5 ( some .boolean ), .code yX12_largest cX12_largest 4 ( some .int ), .methodLink RX12 202 yX12_isCircle, .instanceMethod yX12_isCircle, .selects RX12 yX12_isCircle yX12_isCircle, .code yX12_pews cX12_pews 3 ( some .int ), .constant RX12 206 ( 1000000000 ), Cond.methodLink RX12 207 yX12_largest]
def U12_9 : List Cond := [Cond.instanceMethod yX12_largest, Cond.selects RX12 yX12_largest yX12_largest, Cond.methodLink RX12 211 yX12_pews, Cond.instanceMethod yX12_pews, Cond.selects RX12 yX12_pews yX12_pews, .code yX12_circle cX12_circle 2 ( some .int ), .code yX12_leastIn cX12_leastIn 2 ( some .int ), .code yX12_warms cX12_warms 6 none, .methodLink RX12 214 yX12_leastIn, .static yX12_leastIn, .code yX12_beside cX12_beside 4 ( some .int ), Cond.methodLink RX12 217 yX12_warms, Cond.instanceMethod yX12_warms, Cond.selects RX12 yX12_warms yX12_warms, Cond.methodLink RX12 220 yX12_beside, Cond.instanceMethod yX12_beside, Cond.selects RX12 yX12_beside yX12_beside, .code yX12_fire cX12_fire 5 ( some .int ), .code yX12_greatestTold cX12_greatestTold 4 ( some .int ), .code yX12_could cX12_could 10 ( some .int )]
def U12_10 : List Cond := [.methodLink RX12 223 yX12_greatestTold, .instanceMethod yX12_greatestTold, .selects RX12 yX12_greatestTold yX12_greatestTold, .code yX12_leastOf cX12_leastOf 1 ( some .int ), .constant RX12 226 ( -2147483648 ), .code yX12_isTold cX12_isTold 4 ( some .boolean ), .methodLink RX12 227 yX12_leastOf, .static yX12_leastOf, Cond.methodLink RX12 230 yX12_isTold, Cond.instanceMethod yX12_isTold, Cond.selects RX12 yX12_isTold yX12_isTold, .code yX12_isHeardSo cX12_isHeardSo 3 ( some .boolean ), Cond.methodLink RX12 233 yX12_isHeardSo, Cond.instanceMethod yX12_isHeardSo, Cond.selects RX12 yX12_isHeardSo yX12_isHeardSo, .code yX12_whatIs cX12_whatIs 7 ( some .int ), .code yX12_whoBegan cX12_whoBegan 5 ( some .int ), .code yX12_hasBy cX12_hasBy 8 ( some .int ), Cond.methodLink RX12 236 yX12_hasBy, Cond.instanceMethod yX12_hasBy]
def U12_11 : List Cond := [Cond.selects RX12 yX12_hasBy yX12_hasBy, .code yX12_two cX12_two 7 ( some .int ), .code yX12_storms cX12_storms 13 ( some .long ), .code yX12_forged cX12_forged 4 ( some .int ), .code yX12_judge cX12_judge 4 ( some .int ), .code yX12_drawn cX12_drawn 2 ( some .int ), .fieldLink RX12 240 "MoreThanSheHasModel" "seed" "I", .constant RX12 243 ( 1103515245 ), .constant RX12 244 ( 2147483647 ), .constant RX12 245 ( 65536 ), Cond.methodLink RX12 246 yX12_drawn, Cond.instanceMethod yX12_drawn, Cond.selects RX12 yX12_drawn yX12_drawn, .code yX12_years cX12_years 8 ( some .int ), .code yX12_image cX12_image 1 ( some .int ), .fieldLink RX12 249 "MoreThanSheHasModel" "hasImage" "Z", .code yX12_restore cX12_restore 1 ( some .int ), .code yX12_count cX12_count 4 ( some .int ), .code yX12_thrown cX12_thrown 1 ( some .int ), .fieldLink RX12 253 "MoreThanSheHasModel" "thrown" "I"]
def U12_12 : List Cond := [.code yX12_keep cX12_keep 5 ( some .int ), .code yX12_row cX12_row 5 ( some .int ), .code yX12_put cX12_put 5 ( some .int ), .code yX12_element cX12_element 3 ( some .long ), .code yX12_copy cX12_copy 8 ( some .int ), .code yX12_costBy cX12_costBy 2 ( some .int ), .code yX12_cost cX12_cost 3 ( some .int ), .methodLink RX12 259 yX12_costBy, .static yX12_costBy, .code yX12_toss cX12_toss 5 ( some .int )]
/-- the words of all methods of the model but their own code -/
def UU : List Cond := U12_0 ++ (U12_1 ++ (U12_2 ++ (U12_3 ++ (U12_4 ++ (U12_5 ++ (U12_6 ++ (U12_7 ++ (U12_8 ++ (U12_9 ++ (U12_10 ++ (U12_11 ++ (U12_12 ++ wsX120))))))))))))
theorem u12_0 : ∀ w ∈ U12_0, w ∈ UU := fun _ hw => List.mem_append_left _ hw
theorem u12_1 : ∀ w ∈ U12_1, w ∈ UU := fun _ hw => List.mem_append_right _ (List.mem_append_left _ hw)
theorem u12_2 : ∀ w ∈ U12_2, w ∈ UU := fun _ hw => List.mem_append_right _ (List.mem_append_right _ (List.mem_append_left _ hw))
theorem u12_3 : ∀ w ∈ U12_3, w ∈ UU := fun _ hw => List.mem_append_right _ (List.mem_append_right _ (List.mem_append_right _ (List.mem_append_left _ hw)))
theorem u12_4 : ∀ w ∈ U12_4, w ∈ UU := fun _ hw => List.mem_append_right _ (List.mem_append_right _ (List.mem_append_right _ (List.mem_append_right _ (List.mem_append_left _ hw))))
theorem u12_5 : ∀ w ∈ U12_5, w ∈ UU := fun _ hw => List.mem_append_right _ (List.mem_append_right _ (List.mem_append_right _ (List.mem_append_right _ (List.mem_append_right _ (List.mem_append_left _ hw)))))
theorem u12_6 : ∀ w ∈ U12_6, w ∈ UU := fun _ hw => List.mem_append_right _ (List.mem_append_right _ (List.mem_append_right _ (List.mem_append_right _ (List.mem_append_right _ (List.mem_append_right _ (List.mem_append_left _ hw))))))
theorem u12_7 : ∀ w ∈ U12_7, w ∈ UU := fun _ hw => List.mem_append_right _ (List.mem_append_right _ (List.mem_append_right _ (List.mem_append_right _ (List.mem_append_right _ (List.mem_append_right _ (List.mem_append_right _ (List.mem_append_left _ hw)))))))
theorem u12_8 : ∀ w ∈ U12_8, w ∈ UU := fun _ hw => List.mem_append_right _ (List.mem_append_right _ (List.mem_append_right _ (List.mem_append_right _ (List.mem_append_right _ (List.mem_append_right _ (List.mem_append_right _ (List.mem_append_right _ (List.mem_append_left _ hw))))))))
theorem u12_9 : ∀ w ∈ U12_9, w ∈ UU := fun _ hw => List.mem_append_right _ (List.mem_append_right _ (List.mem_append_right _ (List.mem_append_right _ (List.mem_append_right _ (List.mem_append_right _ (List.mem_append_right _ (List.mem_append_right _ (List.mem_append_right _ (List.mem_append_left _ hw)))))))))
theorem u12_10 : ∀ w ∈ U12_10, w ∈ UU := fun _ hw => List.mem_append_right _ (List.mem_append_right _ (List.mem_append_right _ (List.mem_append_right _ (List.mem_append_right _ (List.mem_append_right _ (List.mem_append_right _ (List.mem_append_right _ (List.mem_append_right _ (List.mem_append_right _ (List.mem_append_left _ hw))))))))))
theorem u12_11 : ∀ w ∈ U12_11, w ∈ UU := fun _ hw => List.mem_append_right _ (List.mem_append_right _ (List.mem_append_right _ (List.mem_append_right _ (List.mem_append_right _ (List.mem_append_right _ (List.mem_append_right _ (List.mem_append_right _ (List.mem_append_right _ (List.mem_append_right _ (List.mem_append_right _ (List.mem_append_left _ hw)))))))))))
theorem u12_12 : ∀ w ∈ U12_12, w ∈ UU := fun _ hw => List.mem_append_right _ (List.mem_append_right _ (List.mem_append_right _ (List.mem_append_right _ (List.mem_append_right _ (List.mem_append_right _ (List.mem_append_right _ (List.mem_append_right _ (List.mem_append_right _ (List.mem_append_right _ (List.mem_append_right _ (List.mem_append_right _ (List.mem_append_left _ hw))))))))))))
theorem u12_cls : ∀ w ∈ wsX120, w ∈ UU := fun _ hw => List.mem_append_right _ (List.mem_append_right _ (List.mem_append_right _ (List.mem_append_right _ (List.mem_append_right _ (List.mem_append_right _ (List.mem_append_right _ (List.mem_append_right _ (List.mem_append_right _ (List.mem_append_right _ (List.mem_append_right _ (List.mem_append_right _ (List.mem_append_right _ (hw)))))))))))))
theorem UU_good : UU.all goodWord = true := by decide +kernel
theorem gU {c cy : Cond} (h5 : cy ∈ UU) : GoodIn (c :: UU) (cy :: UU) := by
  have hg : ∀ w ∈ UU, goodWord w = true := List.all_eq_true.mp UU_good
  intro w hw
  rcases List.mem_cons.mp hw with rfl | hw
  · exact ⟨List.mem_cons_of_mem _ h5, good_of_word (hg _ h5)⟩
  · exact ⟨List.mem_cons_of_mem _ hw, good_of_word (hg _ hw)⟩
theorem gU1 {c : Cond} {ws : List Cond} (h : ∀ w ∈ ws, w ∈ UU) : GoodIn (c :: UU) ws := fun w hw => ⟨List.mem_cons_of_mem _ (h w hw), good_of_word (List.all_eq_true.mp UU_good w (h w hw))⟩
theorem gUV {c cy : Cond} {own C : String} {idx : Nat} {y : MethodName} (h1 : Cond.methodLink own idx y ∈ UU) (h2 : Cond.instanceMethod y ∈ UU) (h3 : Cond.selects C y y ∈ UU) (h4 : Cond.initialized C ∈ UU) (h5 : cy ∈ UU) : GoodIn (c :: UU) (wsV own idx C y (cy :: UU)) :=
  goodIn_app (gU1 (List.forall_mem_cons.mpr ⟨h1, List.forall_mem_cons.mpr ⟨h2, List.forall_mem_cons.mpr ⟨h3, List.forall_mem_cons.mpr ⟨h4, fun _ h => absurd h List.not_mem_nil⟩⟩⟩⟩)) (gU h5)
theorem gUS {c cy : Cond} {own : String} {idx : Nat} {y : MethodName} (h1 : Cond.methodLink own idx y ∈ UU) (h2 : Cond.static y ∈ UU) (h4 : Cond.initialized y.cls ∈ UU) (h5 : cy ∈ UU) : GoodIn (c :: UU) (va_wsS own idx y (cy :: UU)) :=
  goodIn_app (gU1 (List.forall_mem_cons.mpr ⟨h1, List.forall_mem_cons.mpr ⟨h2, List.forall_mem_cons.mpr ⟨h4, fun _ h => absurd h List.not_mem_nil⟩⟩⟩)) (gU h5)
theorem dX12_init_0 : decode cX12_init 0 = .ok (.aload_n 0, 1) := by decide +kernel
theorem dX12_init_1 : decode cX12_init 1 = .ok (.invokespecial 1, 3) := by decide +kernel
theorem dX12_init_4 : decode cX12_init 4 = .ok (.aload_n 0, 1) := by decide +kernel
theorem dX12_init_5 : decode cX12_init 5 = .ok (.bipush 30, 2) := by decide +kernel
theorem dX12_init_7 : decode cX12_init 7 = .ok (.newarray .int, 2) := by decide +kernel
theorem dX12_init_9 : decode cX12_init 9 = .ok (.putfield 9, 3) := by decide +kernel
theorem dX12_init_12 : decode cX12_init 12 = .ok (.aload_n 0, 1) := by decide +kernel
theorem dX12_init_13 : decode cX12_init 13 = .ok (.bipush 30, 2) := by decide +kernel
theorem dX12_init_15 : decode cX12_init 15 = .ok (.newarray .int, 2) := by decide +kernel
theorem dX12_init_17 : decode cX12_init 17 = .ok (.putfield 13, 3) := by decide +kernel
theorem dX12_init_20 : decode cX12_init 20 = .ok (.aload_n 0, 1) := by decide +kernel
theorem dX12_init_21 : decode cX12_init 21 = .ok (.bipush 30, 2) := by decide +kernel
theorem dX12_init_23 : decode cX12_init 23 = .ok (.newarray .int, 2) := by decide +kernel
theorem dX12_init_25 : decode cX12_init 25 = .ok (.putfield 16, 3) := by decide +kernel
theorem dX12_init_28 : decode cX12_init 28 = .ok (.aload_n 0, 1) := by decide +kernel
theorem dX12_init_29 : decode cX12_init 29 = .ok (.bipush 30, 2) := by decide +kernel
theorem dX12_init_31 : decode cX12_init 31 = .ok (.newarray .int, 2) := by decide +kernel
theorem dX12_init_33 : decode cX12_init 33 = .ok (.putfield 19, 3) := by decide +kernel
theorem dX12_init_36 : decode cX12_init 36 = .ok (.aload_n 0, 1) := by decide +kernel
theorem dX12_init_37 : decode cX12_init 37 = .ok (.iconst 3, 1) := by decide +kernel
theorem dX12_init_38 : decode cX12_init 38 = .ok (.newarray .int, 2) := by decide +kernel
theorem dX12_init_40 : decode cX12_init 40 = .ok (.putfield 22, 3) := by decide +kernel
theorem dX12_init_43 : decode cX12_init 43 = .ok (.aload_n 0, 1) := by decide +kernel
theorem dX12_init_44 : decode cX12_init 44 = .ok (.bipush 9, 2) := by decide +kernel
theorem dX12_init_46 : decode cX12_init 46 = .ok (.newarray .long, 2) := by decide +kernel
theorem dX12_init_48 : decode cX12_init 48 = .ok (.putfield 25, 3) := by decide +kernel
theorem dX12_init_51 : decode cX12_init 51 = .ok (.aload_n 0, 1) := by decide +kernel
theorem dX12_init_52 : decode cX12_init 52 = .ok (.bipush 9, 2) := by decide +kernel
theorem dX12_init_54 : decode cX12_init 54 = .ok (.newarray .long, 2) := by decide +kernel
theorem dX12_init_56 : decode cX12_init 56 = .ok (.putfield 29, 3) := by decide +kernel
theorem dX12_init_59 : decode cX12_init 59 = .ok (.aload_n 0, 1) := by decide +kernel
theorem dX12_init_60 : decode cX12_init 60 = .ok (.sipush 512, 3) := by decide +kernel
theorem dX12_init_63 : decode cX12_init 63 = .ok (.newarray .int, 2) := by decide +kernel
theorem dX12_init_65 : decode cX12_init 65 = .ok (.putfield 32, 3) := by decide +kernel
theorem dX12_init_68 : decode cX12_init 68 = .ok (.aload_n 0, 1) := by decide +kernel
theorem dX12_init_69 : decode cX12_init 69 = .ok (.bipush 9, 2) := by decide +kernel
theorem dX12_init_71 : decode cX12_init 71 = .ok (.newarray .int, 2) := by decide +kernel
theorem dX12_init_73 : decode cX12_init 73 = .ok (.putfield 35, 3) := by decide +kernel
theorem dX12_init_76 : decode cX12_init 76 = .ok (.aload_n 0, 1) := by decide +kernel
theorem dX12_init_77 : decode cX12_init 77 = .ok (.bipush 8, 2) := by decide +kernel
theorem dX12_init_79 : decode cX12_init 79 = .ok (.newarray .int, 2) := by decide +kernel
theorem dX12_init_81 : decode cX12_init 81 = .ok (.putfield 38, 3) := by decide +kernel
theorem dX12_init_84 : decode cX12_init 84 = .ok (.aload_n 0, 1) := by decide +kernel
theorem dX12_init_85 : decode cX12_init 85 = .ok (.bipush 8, 2) := by decide +kernel
theorem dX12_init_87 : decode cX12_init 87 = .ok (.newarray .int, 2) := by decide +kernel
theorem dX12_init_89 : decode cX12_init 89 = .ok (.putfield 41, 3) := by decide +kernel
theorem dX12_init_92 : decode cX12_init 92 = .ok (.aload_n 0, 1) := by decide +kernel
theorem dX12_init_93 : decode cX12_init 93 = .ok (.bipush 8, 2) := by decide +kernel
theorem dX12_init_95 : decode cX12_init 95 = .ok (.newarray .int, 2) := by decide +kernel
theorem dX12_init_97 : decode cX12_init 97 = .ok (.putfield 44, 3) := by decide +kernel
theorem dX12_init_100 : decode cX12_init 100 = .ok (.aload_n 0, 1) := by decide +kernel
theorem dX12_init_101 : decode cX12_init 101 = .ok (.bipush 8, 2) := by decide +kernel
theorem dX12_init_103 : decode cX12_init 103 = .ok (.newarray .int, 2) := by decide +kernel
theorem dX12_init_105 : decode cX12_init 105 = .ok (.putfield 47, 3) := by decide +kernel
theorem dX12_init_108 : decode cX12_init 108 = .ok (.aload_n 0, 1) := by decide +kernel
theorem dX12_init_109 : decode cX12_init 109 = .ok (.bipush 8, 2) := by decide +kernel
theorem dX12_init_111 : decode cX12_init 111 = .ok (.newarray .int, 2) := by decide +kernel
theorem dX12_init_113 : decode cX12_init 113 = .ok (.putfield 50, 3) := by decide +kernel
theorem dX12_init_116 : decode cX12_init 116 = .ok (.aload_n 0, 1) := by decide +kernel
theorem dX12_init_117 : decode cX12_init 117 = .ok (.sipush 800, 3) := by decide +kernel
theorem dX12_init_120 : decode cX12_init 120 = .ok (.newarray .int, 2) := by decide +kernel
theorem dX12_init_122 : decode cX12_init 122 = .ok (.putfield 53, 3) := by decide +kernel
theorem dX12_init_125 : decode cX12_init 125 = .ok (.return_, 1) := by decide +kernel
theorem dX12_isIn_0 : decode cX12_isIn 0 = .ok (.iload_n 0, 1) := by decide +kernel
theorem dX12_isIn_1 : decode cX12_isIn 1 = .ok (.iload_n 1, 1) := by decide +kernel
theorem dX12_isIn_2 : decode cX12_isIn 2 = .ok (.if_icmp .lt 12, 3) := by decide +kernel
theorem dX12_isIn_5 : decode cX12_isIn 5 = .ok (.iload_n 0, 1) := by decide +kernel
theorem dX12_isIn_6 : decode cX12_isIn 6 = .ok (.iload_n 2, 1) := by decide +kernel
theorem dX12_isIn_7 : decode cX12_isIn 7 = .ok (.if_icmp .gt 7, 3) := by decide +kernel
theorem dX12_isIn_10 : decode cX12_isIn 10 = .ok (.iconst 1, 1) := by decide +kernel
theorem dX12_isIn_11 : decode cX12_isIn 11 = .ok (.goto 4, 3) := by decide +kernel
theorem dX12_isIn_14 : decode cX12_isIn 14 = .ok (.iconst 0, 1) := by decide +kernel
theorem dX12_isIn_15 : decode cX12_isIn 15 = .ok (.ireturn, 1) := by decide +kernel
theorem dX12_copies_0 : decode cX12_copies 0 = .ok (.iconst 0, 1) := by decide +kernel
theorem dX12_copies_1 : decode cX12_copies 1 = .ok (.istore_n 2, 1) := by decide +kernel
theorem dX12_copies_2 : decode cX12_copies 2 = .ok (.iload_n 2, 1) := by decide +kernel
theorem dX12_copies_3 : decode cX12_copies 3 = .ok (.bipush 30, 2) := by decide +kernel
theorem dX12_copies_5 : decode cX12_copies 5 = .ok (.if_icmp .ge 15, 3) := by decide +kernel
theorem dX12_copies_8 : decode cX12_copies 8 = .ok (.aload_n 1, 1) := by decide +kernel
theorem dX12_copies_9 : decode cX12_copies 9 = .ok (.iload_n 2, 1) := by decide +kernel
theorem dX12_copies_10 : decode cX12_copies 10 = .ok (.aload_n 0, 1) := by decide +kernel
theorem dX12_copies_11 : decode cX12_copies 11 = .ok (.iload_n 2, 1) := by decide +kernel
theorem dX12_copies_12 : decode cX12_copies 12 = .ok (.iaload, 1) := by decide +kernel
theorem dX12_copies_13 : decode cX12_copies 13 = .ok (.iastore, 1) := by decide +kernel
theorem dX12_copies_14 : decode cX12_copies 14 = .ok (.iinc 2 1, 3) := by decide +kernel
theorem dX12_copies_17 : decode cX12_copies 17 = .ok (.goto (-15), 3) := by decide +kernel
theorem dX12_copies_20 : decode cX12_copies 20 = .ok (.return_, 1) := by decide +kernel
theorem dX12_of_0 : decode cX12_of 0 = .ok (.iconst 3, 1) := by decide +kernel
theorem dX12_of_1 : decode cX12_of 1 = .ok (.iconst 3, 1) := by decide +kernel
theorem dX12_of_2 : decode cX12_of 2 = .ok (.iload_n 0, 1) := by decide +kernel
theorem dX12_of_3 : decode cX12_of 3 = .ok (.imul, 1) := by decide +kernel
theorem dX12_of_4 : decode cX12_of 4 = .ok (.iadd, 1) := by decide +kernel
theorem dX12_of_5 : decode cX12_of 5 = .ok (.iload_n 1, 1) := by decide +kernel
theorem dX12_of_6 : decode cX12_of 6 = .ok (.iadd, 1) := by decide +kernel
theorem dX12_of_7 : decode cX12_of 7 = .ok (.ireturn, 1) := by decide +kernel
theorem dX12_isOne_0 : decode cX12_isOne 0 = .ok (.iload_n 1, 1) := by decide +kernel
theorem dX12_isOne_1 : decode cX12_isOne 1 = .ok (.iconst 0, 1) := by decide +kernel
theorem dX12_isOne_2 : decode cX12_isOne 2 = .ok (.aload_n 0, 1) := by decide +kernel
theorem dX12_isOne_3 : decode cX12_isOne 3 = .ok (.getfield 9, 3) := by decide +kernel
theorem dX12_isOne_6 : decode cX12_isOne 6 = .ok (.iconst 0, 1) := by decide +kernel
theorem dX12_isOne_7 : decode cX12_isOne 7 = .ok (.iaload, 1) := by decide +kernel
theorem dX12_isOne_8 : decode cX12_isOne 8 = .ok (.iconst 1, 1) := by decide +kernel
theorem dX12_isOne_9 : decode cX12_isOne 9 = .ok (.isub, 1) := by decide +kernel
theorem dX12_isOne_10 : decode cX12_isOne 10 = .ok (.invokestatic 56, 3) := by decide +kernel
theorem dX12_isOne_13 : decode cX12_isOne 13 = .ok (.ireturn, 1) := by decide +kernel
theorem dX12_areTwo_0 : decode cX12_areTwo 0 = .ok (.aload_n 0, 1) := by decide +kernel
theorem dX12_areTwo_1 : decode cX12_areTwo 1 = .ok (.iload_n 1, 1) := by decide +kernel
theorem dX12_areTwo_2 : decode cX12_areTwo 2 = .ok (.invokevirtual 60, 3) := by decide +kernel
theorem dX12_areTwo_5 : decode cX12_areTwo 5 = .ok (.ifCond .eq 20, 3) := by decide +kernel
theorem dX12_areTwo_8 : decode cX12_areTwo 8 = .ok (.aload_n 0, 1) := by decide +kernel
theorem dX12_areTwo_9 : decode cX12_areTwo 9 = .ok (.iload_n 2, 1) := by decide +kernel
theorem dX12_areTwo_10 : decode cX12_areTwo 10 = .ok (.invokevirtual 60, 3) := by decide +kernel
theorem dX12_areTwo_13 : decode cX12_areTwo 13 = .ok (.ifCond .eq 12, 3) := by decide +kernel
theorem dX12_areTwo_16 : decode cX12_areTwo 16 = .ok (.iload_n 1, 1) := by decide +kernel
theorem dX12_areTwo_17 : decode cX12_areTwo 17 = .ok (.iload_n 2, 1) := by decide +kernel
theorem dX12_areTwo_18 : decode cX12_areTwo 18 = .ok (.if_icmp .eq 7, 3) := by decide +kernel
theorem dX12_areTwo_21 : decode cX12_areTwo 21 = .ok (.iconst 1, 1) := by decide +kernel
theorem dX12_areTwo_22 : decode cX12_areTwo 22 = .ok (.goto 4, 3) := by decide +kernel
theorem dX12_areTwo_25 : decode cX12_areTwo 25 = .ok (.iconst 0, 1) := by decide +kernel
theorem dX12_areTwo_26 : decode cX12_areTwo 26 = .ok (.ireturn, 1) := by decide +kernel
theorem dX12_has_0 : decode cX12_has 0 = .ok (.iload_n 0, 1) := by decide +kernel
theorem dX12_has_1 : decode cX12_has 1 = .ok (.iload_n 1, 1) := by decide +kernel
theorem dX12_has_2 : decode cX12_has 2 = .ok (.ishr, 1) := by decide +kernel
theorem dX12_has_3 : decode cX12_has 3 = .ok (.iconst 1, 1) := by decide +kernel
theorem dX12_has_4 : decode cX12_has 4 = .ok (.iand, 1) := by decide +kernel
theorem dX12_has_5 : decode cX12_has 5 = .ok (.iconst 1, 1) := by decide +kernel
theorem dX12_has_6 : decode cX12_has 6 = .ok (.if_icmp .ne 7, 3) := by decide +kernel
theorem dX12_has_9 : decode cX12_has 9 = .ok (.iconst 1, 1) := by decide +kernel
theorem dX12_has_10 : decode cX12_has 10 = .ok (.goto 4, 3) := by decide +kernel
theorem dX12_has_13 : decode cX12_has 13 = .ok (.iconst 0, 1) := by decide +kernel
theorem dX12_has_14 : decode cX12_has 14 = .ok (.ireturn, 1) := by decide +kernel
theorem dX12_bits_0 : decode cX12_bits 0 = .ok (.iconst 0, 1) := by decide +kernel
theorem dX12_bits_1 : decode cX12_bits 1 = .ok (.istore_n 1, 1) := by decide +kernel
theorem dX12_bits_2 : decode cX12_bits 2 = .ok (.iconst 0, 1) := by decide +kernel
theorem dX12_bits_3 : decode cX12_bits 3 = .ok (.istore_n 2, 1) := by decide +kernel
theorem dX12_bits_4 : decode cX12_bits 4 = .ok (.iload_n 2, 1) := by decide +kernel
theorem dX12_bits_5 : decode cX12_bits 5 = .ok (.bipush 9, 2) := by decide +kernel
theorem dX12_bits_7 : decode cX12_bits 7 = .ok (.if_icmp .ge 17, 3) := by decide +kernel
theorem dX12_bits_10 : decode cX12_bits 10 = .ok (.iload_n 1, 1) := by decide +kernel
theorem dX12_bits_11 : decode cX12_bits 11 = .ok (.iload_n 0, 1) := by decide +kernel
theorem dX12_bits_12 : decode cX12_bits 12 = .ok (.iload_n 2, 1) := by decide +kernel
theorem dX12_bits_13 : decode cX12_bits 13 = .ok (.ishr, 1) := by decide +kernel
theorem dX12_bits_14 : decode cX12_bits 14 = .ok (.iconst 1, 1) := by decide +kernel
theorem dX12_bits_15 : decode cX12_bits 15 = .ok (.iand, 1) := by decide +kernel
theorem dX12_bits_16 : decode cX12_bits 16 = .ok (.iadd, 1) := by decide +kernel
theorem dX12_bits_17 : decode cX12_bits 17 = .ok (.istore_n 1, 1) := by decide +kernel
theorem dX12_bits_18 : decode cX12_bits 18 = .ok (.iinc 2 1, 3) := by decide +kernel
theorem dX12_bits_21 : decode cX12_bits 21 = .ok (.goto (-17), 3) := by decide +kernel
theorem dX12_bits_24 : decode cX12_bits 24 = .ok (.iload_n 1, 1) := by decide +kernel
theorem dX12_bits_25 : decode cX12_bits 25 = .ok (.ireturn, 1) := by decide +kernel
theorem dX12_number_0 : decode cX12_number 0 = .ok (.aload_n 0, 1) := by decide +kernel
theorem dX12_number_1 : decode cX12_number 1 = .ok (.iload_n 1, 1) := by decide +kernel
theorem dX12_number_2 : decode cX12_number 2 = .ok (.iconst 2, 1) := by decide +kernel
theorem dX12_number_3 : decode cX12_number 3 = .ok (.invokestatic 64, 3) := by decide +kernel
theorem dX12_number_6 : decode cX12_number 6 = .ok (.iaload, 1) := by decide +kernel
theorem dX12_number_7 : decode cX12_number 7 = .ok (.invokestatic 68, 3) := by decide +kernel
theorem dX12_number_10 : decode cX12_number 10 = .ok (.ireturn, 1) := by decide +kernel
theorem dX12_isDeaf_0 : decode cX12_isDeaf 0 = .ok (.aload_n 0, 1) := by decide +kernel
theorem dX12_isDeaf_1 : decode cX12_isDeaf 1 = .ok (.iload_n 1, 1) := by decide +kernel
theorem dX12_isDeaf_2 : decode cX12_isDeaf 2 = .ok (.iconst 0, 1) := by decide +kernel
theorem dX12_isDeaf_3 : decode cX12_isDeaf 3 = .ok (.invokestatic 64, 3) := by decide +kernel
theorem dX12_isDeaf_6 : decode cX12_isDeaf 6 = .ok (.iaload, 1) := by decide +kernel
theorem dX12_isDeaf_7 : decode cX12_isDeaf 7 = .ok (.bipush 7, 2) := by decide +kernel
theorem dX12_isDeaf_9 : decode cX12_isDeaf 9 = .ok (.if_icmp .ne 7, 3) := by decide +kernel
theorem dX12_isDeaf_12 : decode cX12_isDeaf 12 = .ok (.iconst 1, 1) := by decide +kernel
theorem dX12_isDeaf_13 : decode cX12_isDeaf 13 = .ok (.goto 4, 3) := by decide +kernel
theorem dX12_isDeaf_16 : decode cX12_isDeaf 16 = .ok (.iconst 0, 1) := by decide +kernel
theorem dX12_isDeaf_17 : decode cX12_isDeaf 17 = .ok (.ireturn, 1) := by decide +kernel
theorem dX12_tellsBy_0 : decode cX12_tellsBy 0 = .ok (.iload_n 2, 1) := by decide +kernel
theorem dX12_tellsBy_1 : decode cX12_tellsBy 1 = .ok (.iconst 2, 1) := by decide +kernel
theorem dX12_tellsBy_2 : decode cX12_tellsBy 2 = .ok (.irem, 1) := by decide +kernel
theorem dX12_tellsBy_3 : decode cX12_tellsBy 3 = .ok (.ifCond .ne 7, 3) := by decide +kernel
theorem dX12_tellsBy_6 : decode cX12_tellsBy 6 = .ok (.iconst 1, 1) := by decide +kernel
theorem dX12_tellsBy_7 : decode cX12_tellsBy 7 = .ok (.goto 4, 3) := by decide +kernel
theorem dX12_tellsBy_10 : decode cX12_tellsBy 10 = .ok (.iconst 0, 1) := by decide +kernel
theorem dX12_tellsBy_11 : decode cX12_tellsBy 11 = .ok (.istore_n 3, 1) := by decide +kernel
theorem dX12_tellsBy_12 : decode cX12_tellsBy 12 = .ok (.iload_n 0, 1) := by decide +kernel
theorem dX12_tellsBy_13 : decode cX12_tellsBy 13 = .ok (.tableswitch 59 1 7 #[43, 45, 47, 49, 51, 55, 47], 43) := by decide +kernel
theorem dX12_tellsBy_56 : decode cX12_tellsBy 56 = .ok (.iload_n 3, 1) := by decide +kernel
theorem dX12_tellsBy_57 : decode cX12_tellsBy 57 = .ok (.ireturn, 1) := by decide +kernel
theorem dX12_tellsBy_58 : decode cX12_tellsBy 58 = .ok (.iconst 3, 1) := by decide +kernel
theorem dX12_tellsBy_59 : decode cX12_tellsBy 59 = .ok (.ireturn, 1) := by decide +kernel
theorem dX12_tellsBy_60 : decode cX12_tellsBy 60 = .ok (.iconst 0, 1) := by decide +kernel
theorem dX12_tellsBy_61 : decode cX12_tellsBy 61 = .ok (.ireturn, 1) := by decide +kernel
theorem dX12_tellsBy_62 : decode cX12_tellsBy 62 = .ok (.iconst 2, 1) := by decide +kernel
theorem dX12_tellsBy_63 : decode cX12_tellsBy 63 = .ok (.ireturn, 1) := by decide +kernel
theorem dX12_tellsBy_64 : decode cX12_tellsBy 64 = .ok (.iload_n 3, 1) := by decide +kernel
theorem dX12_tellsBy_65 : decode cX12_tellsBy 65 = .ok (.iconst 1, 1) := by decide +kernel
theorem dX12_tellsBy_66 : decode cX12_tellsBy 66 = .ok (.iadd, 1) := by decide +kernel
theorem dX12_tellsBy_67 : decode cX12_tellsBy 67 = .ok (.ireturn, 1) := by decide +kernel
theorem dX12_tellsBy_68 : decode cX12_tellsBy 68 = .ok (.iconst 2, 1) := by decide +kernel
theorem dX12_tellsBy_69 : decode cX12_tellsBy 69 = .ok (.iload_n 1, 1) := by decide +kernel
theorem dX12_tellsBy_70 : decode cX12_tellsBy 70 = .ok (.iadd, 1) := by decide +kernel
theorem dX12_tellsBy_71 : decode cX12_tellsBy 71 = .ok (.ireturn, 1) := by decide +kernel
theorem dX12_tellsBy_72 : decode cX12_tellsBy 72 = .ok (.iconst 1, 1) := by decide +kernel
theorem dX12_tellsBy_73 : decode cX12_tellsBy 73 = .ok (.ireturn, 1) := by decide +kernel
theorem dX12_doesLike_0 : decode cX12_doesLike 0 = .ok (.aload_n 0, 1) := by decide +kernel
theorem dX12_doesLike_1 : decode cX12_doesLike 1 = .ok (.iload_n 1, 1) := by decide +kernel
theorem dX12_doesLike_2 : decode cX12_doesLike 2 = .ok (.iconst 0, 1) := by decide +kernel
theorem dX12_doesLike_3 : decode cX12_doesLike 3 = .ok (.invokestatic 64, 3) := by decide +kernel
theorem dX12_doesLike_6 : decode cX12_doesLike 6 = .ok (.iaload, 1) := by decide +kernel
theorem dX12_doesLike_7 : decode cX12_doesLike 7 = .ok (.tableswitch 79 1 7 #[41, 79, 41, 79, 60, 79, 41], 41) := by decide +kernel
theorem dX12_doesLike_48 : decode cX12_doesLike 48 = .ok (.aload_n 0, 1) := by decide +kernel
theorem dX12_doesLike_49 : decode cX12_doesLike 49 = .ok (.iload_n 2, 1) := by decide +kernel
theorem dX12_doesLike_50 : decode cX12_doesLike 50 = .ok (.invokestatic 72, 3) := by decide +kernel
theorem dX12_doesLike_53 : decode cX12_doesLike 53 = .ok (.aload_n 0, 1) := by decide +kernel
theorem dX12_doesLike_54 : decode cX12_doesLike 54 = .ok (.iload_n 1, 1) := by decide +kernel
theorem dX12_doesLike_55 : decode cX12_doesLike 55 = .ok (.invokestatic 72, 3) := by decide +kernel
theorem dX12_doesLike_58 : decode cX12_doesLike 58 = .ok (.if_icmp .gt 7, 3) := by decide +kernel
theorem dX12_doesLike_61 : decode cX12_doesLike 61 = .ok (.iconst 1, 1) := by decide +kernel
theorem dX12_doesLike_62 : decode cX12_doesLike 62 = .ok (.goto 4, 3) := by decide +kernel
theorem dX12_doesLike_65 : decode cX12_doesLike 65 = .ok (.iconst 0, 1) := by decide +kernel
theorem dX12_doesLike_66 : decode cX12_doesLike 66 = .ok (.ireturn, 1) := by decide +kernel
theorem dX12_doesLike_67 : decode cX12_doesLike 67 = .ok (.aload_n 0, 1) := by decide +kernel
theorem dX12_doesLike_68 : decode cX12_doesLike 68 = .ok (.iload_n 2, 1) := by decide +kernel
theorem dX12_doesLike_69 : decode cX12_doesLike 69 = .ok (.invokestatic 72, 3) := by decide +kernel
theorem dX12_doesLike_72 : decode cX12_doesLike 72 = .ok (.aload_n 0, 1) := by decide +kernel
theorem dX12_doesLike_73 : decode cX12_doesLike 73 = .ok (.iload_n 1, 1) := by decide +kernel
theorem dX12_doesLike_74 : decode cX12_doesLike 74 = .ok (.invokestatic 72, 3) := by decide +kernel
theorem dX12_doesLike_77 : decode cX12_doesLike 77 = .ok (.if_icmp .le 7, 3) := by decide +kernel
theorem dX12_doesLike_80 : decode cX12_doesLike 80 = .ok (.iconst 1, 1) := by decide +kernel
theorem dX12_doesLike_81 : decode cX12_doesLike 81 = .ok (.goto 4, 3) := by decide +kernel
theorem dX12_doesLike_84 : decode cX12_doesLike 84 = .ok (.iconst 0, 1) := by decide +kernel
theorem dX12_doesLike_85 : decode cX12_doesLike 85 = .ok (.ireturn, 1) := by decide +kernel
theorem dX12_doesLike_86 : decode cX12_doesLike 86 = .ok (.iconst 1, 1) := by decide +kernel
theorem dX12_doesLike_87 : decode cX12_doesLike 87 = .ok (.ireturn, 1) := by decide +kernel
theorem dX12_cardsOf_0 : decode cX12_cardsOf 0 = .ok (.aload_n 0, 1) := by decide +kernel
theorem dX12_cardsOf_1 : decode cX12_cardsOf 1 = .ok (.iload_n 1, 1) := by decide +kernel
theorem dX12_cardsOf_2 : decode cX12_cardsOf 2 = .ok (.invokestatic 72, 3) := by decide +kernel
theorem dX12_cardsOf_5 : decode cX12_cardsOf 5 = .ok (.istore_n 2, 1) := by decide +kernel
theorem dX12_cardsOf_6 : decode cX12_cardsOf 6 = .ok (.aload_n 0, 1) := by decide +kernel
theorem dX12_cardsOf_7 : decode cX12_cardsOf 7 = .ok (.iload_n 1, 1) := by decide +kernel
theorem dX12_cardsOf_8 : decode cX12_cardsOf 8 = .ok (.iconst 1, 1) := by decide +kernel
theorem dX12_cardsOf_9 : decode cX12_cardsOf 9 = .ok (.invokestatic 64, 3) := by decide +kernel
theorem dX12_cardsOf_12 : decode cX12_cardsOf 12 = .ok (.iaload, 1) := by decide +kernel
theorem dX12_cardsOf_13 : decode cX12_cardsOf 13 = .ok (.istore_n 3, 1) := by decide +kernel
theorem dX12_cardsOf_14 : decode cX12_cardsOf 14 = .ok (.aload_n 0, 1) := by decide +kernel
theorem dX12_cardsOf_15 : decode cX12_cardsOf 15 = .ok (.iload_n 1, 1) := by decide +kernel
theorem dX12_cardsOf_16 : decode cX12_cardsOf 16 = .ok (.iconst 0, 1) := by decide +kernel
theorem dX12_cardsOf_17 : decode cX12_cardsOf 17 = .ok (.invokestatic 64, 3) := by decide +kernel
theorem dX12_cardsOf_20 : decode cX12_cardsOf 20 = .ok (.iaload, 1) := by decide +kernel
theorem dX12_cardsOf_21 : decode cX12_cardsOf 21 = .ok (.tableswitch 74 1 7 #[43, 47, 51, 53, 59, 65, 51], 43) := by decide +kernel
theorem dX12_cardsOf_64 : decode cX12_cardsOf 64 = .ok (.iload_n 2, 1) := by decide +kernel
theorem dX12_cardsOf_65 : decode cX12_cardsOf 65 = .ok (.iconst 2, 1) := by decide +kernel
theorem dX12_cardsOf_66 : decode cX12_cardsOf 66 = .ok (.idiv, 1) := by decide +kernel
theorem dX12_cardsOf_67 : decode cX12_cardsOf 67 = .ok (.ireturn, 1) := by decide +kernel
theorem dX12_cardsOf_68 : decode cX12_cardsOf 68 = .ok (.iload_n 2, 1) := by decide +kernel
theorem dX12_cardsOf_69 : decode cX12_cardsOf 69 = .ok (.iload_n 3, 1) := by decide +kernel
theorem dX12_cardsOf_70 : decode cX12_cardsOf 70 = .ok (.iadd, 1) := by decide +kernel
theorem dX12_cardsOf_71 : decode cX12_cardsOf 71 = .ok (.ireturn, 1) := by decide +kernel
theorem dX12_cardsOf_72 : decode cX12_cardsOf 72 = .ok (.iconst 0, 1) := by decide +kernel
theorem dX12_cardsOf_73 : decode cX12_cardsOf 73 = .ok (.ireturn, 1) := by decide +kernel
theorem dX12_cardsOf_74 : decode cX12_cardsOf 74 = .ok (.iconst 2, 1) := by decide +kernel
theorem dX12_cardsOf_75 : decode cX12_cardsOf 75 = .ok (.iload_n 2, 1) := by decide +kernel
theorem dX12_cardsOf_76 : decode cX12_cardsOf 76 = .ok (.iload_n 3, 1) := by decide +kernel
theorem dX12_cardsOf_77 : decode cX12_cardsOf 77 = .ok (.iadd, 1) := by decide +kernel
theorem dX12_cardsOf_78 : decode cX12_cardsOf 78 = .ok (.imul, 1) := by decide +kernel
theorem dX12_cardsOf_79 : decode cX12_cardsOf 79 = .ok (.ireturn, 1) := by decide +kernel
theorem dX12_cardsOf_80 : decode cX12_cardsOf 80 = .ok (.iload_n 2, 1) := by decide +kernel
theorem dX12_cardsOf_81 : decode cX12_cardsOf 81 = .ok (.iconst 2, 1) := by decide +kernel
theorem dX12_cardsOf_82 : decode cX12_cardsOf 82 = .ok (.idiv, 1) := by decide +kernel
theorem dX12_cardsOf_83 : decode cX12_cardsOf 83 = .ok (.iconst 1, 1) := by decide +kernel
theorem dX12_cardsOf_84 : decode cX12_cardsOf 84 = .ok (.iadd, 1) := by decide +kernel
theorem dX12_cardsOf_85 : decode cX12_cardsOf 85 = .ok (.ireturn, 1) := by decide +kernel
theorem dX12_cardsOf_86 : decode cX12_cardsOf 86 = .ok (.iconst 2, 1) := by decide +kernel
theorem dX12_cardsOf_87 : decode cX12_cardsOf 87 = .ok (.iload_n 2, 1) := by decide +kernel
theorem dX12_cardsOf_88 : decode cX12_cardsOf 88 = .ok (.iload_n 3, 1) := by decide +kernel
theorem dX12_cardsOf_89 : decode cX12_cardsOf 89 = .ok (.iadd, 1) := by decide +kernel
theorem dX12_cardsOf_90 : decode cX12_cardsOf 90 = .ok (.imul, 1) := by decide +kernel
theorem dX12_cardsOf_91 : decode cX12_cardsOf 91 = .ok (.bipush 11, 2) := by decide +kernel
theorem dX12_cardsOf_93 : decode cX12_cardsOf 93 = .ok (.iadd, 1) := by decide +kernel
theorem dX12_cardsOf_94 : decode cX12_cardsOf 94 = .ok (.ireturn, 1) := by decide +kernel
theorem dX12_cardsOf_95 : decode cX12_cardsOf 95 = .ok (.iload_n 2, 1) := by decide +kernel
theorem dX12_cardsOf_96 : decode cX12_cardsOf 96 = .ok (.ireturn, 1) := by decide +kernel
theorem dX12_tells_0 : decode cX12_tells 0 = .ok (.aload_n 0, 1) := by decide +kernel
theorem dX12_tells_1 : decode cX12_tells 1 = .ok (.iload_n 1, 1) := by decide +kernel
theorem dX12_tells_2 : decode cX12_tells 2 = .ok (.iconst 0, 1) := by decide +kernel
theorem dX12_tells_3 : decode cX12_tells 3 = .ok (.invokestatic 64, 3) := by decide +kernel
theorem dX12_tells_6 : decode cX12_tells 6 = .ok (.iaload, 1) := by decide +kernel
theorem dX12_tells_7 : decode cX12_tells 7 = .ok (.aload_n 0, 1) := by decide +kernel
theorem dX12_tells_8 : decode cX12_tells 8 = .ok (.iload_n 1, 1) := by decide +kernel
theorem dX12_tells_9 : decode cX12_tells 9 = .ok (.iconst 1, 1) := by decide +kernel
theorem dX12_tells_10 : decode cX12_tells 10 = .ok (.invokestatic 64, 3) := by decide +kernel
theorem dX12_tells_13 : decode cX12_tells 13 = .ok (.iaload, 1) := by decide +kernel
theorem dX12_tells_14 : decode cX12_tells 14 = .ok (.aload_n 0, 1) := by decide +kernel
theorem dX12_tells_15 : decode cX12_tells 15 = .ok (.iconst 1, 1) := by decide +kernel
theorem dX12_tells_16 : decode cX12_tells 16 = .ok (.iaload, 1) := by decide +kernel
theorem dX12_tells_17 : decode cX12_tells 17 = .ok (.invokestatic 76, 3) := by decide +kernel
theorem dX12_tells_20 : decode cX12_tells 20 = .ok (.istore_n 2, 1) := by decide +kernel
theorem dX12_tells_21 : decode cX12_tells 21 = .ok (.iconst 0, 1) := by decide +kernel
theorem dX12_tells_22 : decode cX12_tells 22 = .ok (.istore_n 3, 1) := by decide +kernel
theorem dX12_tells_23 : decode cX12_tells 23 = .ok (.iload_n 3, 1) := by decide +kernel
theorem dX12_tells_24 : decode cX12_tells 24 = .ok (.aload_n 0, 1) := by decide +kernel
theorem dX12_tells_25 : decode cX12_tells 25 = .ok (.iconst 0, 1) := by decide +kernel
theorem dX12_tells_26 : decode cX12_tells 26 = .ok (.iaload, 1) := by decide +kernel
theorem dX12_tells_27 : decode cX12_tells 27 = .ok (.if_icmp .ge 69, 3) := by decide +kernel
theorem dX12_tells_30 : decode cX12_tells 30 = .ok (.iload_n 2, 1) := by decide +kernel
theorem dX12_tells_31 : decode cX12_tells 31 = .ok (.ifCond .le 65, 3) := by decide +kernel
theorem dX12_tells_34 : decode cX12_tells 34 = .ok (.aload_n 0, 1) := by decide +kernel
theorem dX12_tells_35 : decode cX12_tells 35 = .ok (.iload_n 1, 1) := by decide +kernel
theorem dX12_tells_36 : decode cX12_tells 36 = .ok (.iconst 2, 1) := by decide +kernel
theorem dX12_tells_37 : decode cX12_tells 37 = .ok (.invokestatic 64, 3) := by decide +kernel
theorem dX12_tells_40 : decode cX12_tells 40 = .ok (.iaload, 1) := by decide +kernel
theorem dX12_tells_41 : decode cX12_tells 41 = .ok (.iload_n 3, 1) := by decide +kernel
theorem dX12_tells_42 : decode cX12_tells 42 = .ok (.invokestatic 80, 3) := by decide +kernel
theorem dX12_tells_45 : decode cX12_tells 45 = .ok (.ifCond .eq 45, 3) := by decide +kernel
theorem dX12_tells_48 : decode cX12_tells 48 = .ok (.aload_n 0, 1) := by decide +kernel
theorem dX12_tells_49 : decode cX12_tells 49 = .ok (.iconst 2, 1) := by decide +kernel
theorem dX12_tells_50 : decode cX12_tells 50 = .ok (.iaload, 1) := by decide +kernel
theorem dX12_tells_51 : decode cX12_tells 51 = .ok (.iload_n 3, 1) := by decide +kernel
theorem dX12_tells_52 : decode cX12_tells 52 = .ok (.invokestatic 80, 3) := by decide +kernel
theorem dX12_tells_55 : decode cX12_tells 55 = .ok (.ifCond .ne 35, 3) := by decide +kernel
theorem dX12_tells_58 : decode cX12_tells 58 = .ok (.aload_n 0, 1) := by decide +kernel
theorem dX12_tells_59 : decode cX12_tells 59 = .ok (.iload_n 3, 1) := by decide +kernel
theorem dX12_tells_60 : decode cX12_tells 60 = .ok (.invokestatic 84, 3) := by decide +kernel
theorem dX12_tells_63 : decode cX12_tells 63 = .ok (.ifCond .ne 27, 3) := by decide +kernel
theorem dX12_tells_66 : decode cX12_tells 66 = .ok (.aload_n 0, 1) := by decide +kernel
theorem dX12_tells_67 : decode cX12_tells 67 = .ok (.iload_n 1, 1) := by decide +kernel
theorem dX12_tells_68 : decode cX12_tells 68 = .ok (.iload_n 3, 1) := by decide +kernel
theorem dX12_tells_69 : decode cX12_tells 69 = .ok (.invokestatic 88, 3) := by decide +kernel
theorem dX12_tells_72 : decode cX12_tells 72 = .ok (.ifCond .ne 6, 3) := by decide +kernel
theorem dX12_tells_75 : decode cX12_tells 75 = .ok (.goto 15, 3) := by decide +kernel
theorem dX12_tells_78 : decode cX12_tells 78 = .ok (.aload_n 0, 1) := by decide +kernel
theorem dX12_tells_79 : decode cX12_tells 79 = .ok (.iconst 2, 1) := by decide +kernel
theorem dX12_tells_80 : decode cX12_tells 80 = .ok (.dup2, 1) := by decide +kernel
theorem dX12_tells_81 : decode cX12_tells 81 = .ok (.iaload, 1) := by decide +kernel
theorem dX12_tells_82 : decode cX12_tells 82 = .ok (.iconst 1, 1) := by decide +kernel
theorem dX12_tells_83 : decode cX12_tells 83 = .ok (.iload_n 3, 1) := by decide +kernel
theorem dX12_tells_84 : decode cX12_tells 84 = .ok (.ishl, 1) := by decide +kernel
theorem dX12_tells_85 : decode cX12_tells 85 = .ok (.ior, 1) := by decide +kernel
theorem dX12_tells_86 : decode cX12_tells 86 = .ok (.iastore, 1) := by decide +kernel
theorem dX12_tells_87 : decode cX12_tells 87 = .ok (.iinc 2 (-1), 3) := by decide +kernel
theorem dX12_tells_90 : decode cX12_tells 90 = .ok (.iinc 3 1, 3) := by decide +kernel
theorem dX12_tells_93 : decode cX12_tells 93 = .ok (.goto (-70), 3) := by decide +kernel
theorem dX12_tells_96 : decode cX12_tells 96 = .ok (.return_, 1) := by decide +kernel
theorem dX12_day_0 : decode cX12_day 0 = .ok (.aload_n 0, 1) := by decide +kernel
theorem dX12_day_1 : decode cX12_day 1 = .ok (.iconst 1, 1) := by decide +kernel
theorem dX12_day_2 : decode cX12_day 2 = .ok (.dup2, 1) := by decide +kernel
theorem dX12_day_3 : decode cX12_day 3 = .ok (.iaload, 1) := by decide +kernel
theorem dX12_day_4 : decode cX12_day 4 = .ok (.iconst 1, 1) := by decide +kernel
theorem dX12_day_5 : decode cX12_day 5 = .ok (.iadd, 1) := by decide +kernel
theorem dX12_day_6 : decode cX12_day 6 = .ok (.iastore, 1) := by decide +kernel
theorem dX12_day_7 : decode cX12_day 7 = .ok (.aload_n 0, 1) := by decide +kernel
theorem dX12_day_8 : decode cX12_day 8 = .ok (.iconst 2, 1) := by decide +kernel
theorem dX12_day_9 : decode cX12_day 9 = .ok (.iaload, 1) := by decide +kernel
theorem dX12_day_10 : decode cX12_day 10 = .ok (.istore_n 2, 1) := by decide +kernel
theorem dX12_day_11 : decode cX12_day 11 = .ok (.iconst 0, 1) := by decide +kernel
theorem dX12_day_12 : decode cX12_day 12 = .ok (.istore_n 3, 1) := by decide +kernel
theorem dX12_day_13 : decode cX12_day 13 = .ok (.iload_n 3, 1) := by decide +kernel
theorem dX12_day_14 : decode cX12_day 14 = .ok (.aload_n 0, 1) := by decide +kernel
theorem dX12_day_15 : decode cX12_day 15 = .ok (.iconst 0, 1) := by decide +kernel
theorem dX12_day_16 : decode cX12_day 16 = .ok (.iaload, 1) := by decide +kernel
theorem dX12_day_17 : decode cX12_day 17 = .ok (.if_icmp .ge 30, 3) := by decide +kernel
theorem dX12_day_20 : decode cX12_day 20 = .ok (.iload_n 2, 1) := by decide +kernel
theorem dX12_day_21 : decode cX12_day 21 = .ok (.iload_n 3, 1) := by decide +kernel
theorem dX12_day_22 : decode cX12_day 22 = .ok (.invokestatic 80, 3) := by decide +kernel
theorem dX12_day_25 : decode cX12_day 25 = .ok (.ifCond .eq 16, 3) := by decide +kernel
theorem dX12_day_28 : decode cX12_day 28 = .ok (.iload_n 1, 1) := by decide +kernel
theorem dX12_day_29 : decode cX12_day 29 = .ok (.iload_n 3, 1) := by decide +kernel
theorem dX12_day_30 : decode cX12_day 30 = .ok (.invokestatic 80, 3) := by decide +kernel
theorem dX12_day_33 : decode cX12_day 33 = .ok (.ifCond .ne 8, 3) := by decide +kernel
theorem dX12_day_36 : decode cX12_day 36 = .ok (.aload_n 0, 1) := by decide +kernel
theorem dX12_day_37 : decode cX12_day 37 = .ok (.iload_n 3, 1) := by decide +kernel
theorem dX12_day_38 : decode cX12_day 38 = .ok (.invokestatic 92, 3) := by decide +kernel
theorem dX12_day_41 : decode cX12_day 41 = .ok (.iinc 3 1, 3) := by decide +kernel
theorem dX12_day_44 : decode cX12_day 44 = .ok (.goto (-31), 3) := by decide +kernel
theorem dX12_day_47 : decode cX12_day 47 = .ok (.return_, 1) := by decide +kernel
theorem dX12_daysOn_0 : decode cX12_daysOn 0 = .ok (.iconst 0, 1) := by decide +kernel
theorem dX12_daysOn_1 : decode cX12_daysOn 1 = .ok (.istore_n 2, 1) := by decide +kernel
theorem dX12_daysOn_2 : decode cX12_daysOn 2 = .ok (.iload_n 2, 1) := by decide +kernel
theorem dX12_daysOn_3 : decode cX12_daysOn 3 = .ok (.iload_n 1, 1) := by decide +kernel
theorem dX12_daysOn_4 : decode cX12_daysOn 4 = .ok (.if_icmp .ge 14, 3) := by decide +kernel
theorem dX12_daysOn_7 : decode cX12_daysOn 7 = .ok (.aload_n 0, 1) := by decide +kernel
theorem dX12_daysOn_8 : decode cX12_daysOn 8 = .ok (.iconst 0, 1) := by decide +kernel
theorem dX12_daysOn_9 : decode cX12_daysOn 9 = .ok (.invokestatic 96, 3) := by decide +kernel
theorem dX12_daysOn_12 : decode cX12_daysOn 12 = .ok (.iinc 2 1, 3) := by decide +kernel
theorem dX12_daysOn_15 : decode cX12_daysOn 15 = .ok (.goto (-13), 3) := by decide +kernel
theorem dX12_daysOn_18 : decode cX12_daysOn 18 = .ok (.return_, 1) := by decide +kernel
theorem dX12_changesLine_0 : decode cX12_changesLine 0 = .ok (.aload_n 0, 1) := by decide +kernel
theorem dX12_changesLine_1 : decode cX12_changesLine 1 = .ok (.iload_n 1, 1) := by decide +kernel
theorem dX12_changesLine_2 : decode cX12_changesLine 2 = .ok (.iconst 2, 1) := by decide +kernel
theorem dX12_changesLine_3 : decode cX12_changesLine 3 = .ok (.invokestatic 64, 3) := by decide +kernel
theorem dX12_changesLine_6 : decode cX12_changesLine 6 = .ok (.dup2, 1) := by decide +kernel
theorem dX12_changesLine_7 : decode cX12_changesLine 7 = .ok (.iaload, 1) := by decide +kernel
theorem dX12_changesLine_8 : decode cX12_changesLine 8 = .ok (.iconst 1, 1) := by decide +kernel
theorem dX12_changesLine_9 : decode cX12_changesLine 9 = .ok (.iload_n 2, 1) := by decide +kernel
theorem dX12_changesLine_10 : decode cX12_changesLine 10 = .ok (.ishl, 1) := by decide +kernel
theorem dX12_changesLine_11 : decode cX12_changesLine 11 = .ok (.ixor, 1) := by decide +kernel
theorem dX12_changesLine_12 : decode cX12_changesLine 12 = .ok (.iastore, 1) := by decide +kernel
theorem dX12_changesLine_13 : decode cX12_changesLine 13 = .ok (.aload_n 0, 1) := by decide +kernel
theorem dX12_changesLine_14 : decode cX12_changesLine 14 = .ok (.iload_n 2, 1) := by decide +kernel
theorem dX12_changesLine_15 : decode cX12_changesLine 15 = .ok (.iconst 2, 1) := by decide +kernel
theorem dX12_changesLine_16 : decode cX12_changesLine 16 = .ok (.invokestatic 64, 3) := by decide +kernel
theorem dX12_changesLine_19 : decode cX12_changesLine 19 = .ok (.dup2, 1) := by decide +kernel
theorem dX12_changesLine_20 : decode cX12_changesLine 20 = .ok (.iaload, 1) := by decide +kernel
theorem dX12_changesLine_21 : decode cX12_changesLine 21 = .ok (.iconst 1, 1) := by decide +kernel
theorem dX12_changesLine_22 : decode cX12_changesLine 22 = .ok (.iload_n 1, 1) := by decide +kernel
theorem dX12_changesLine_23 : decode cX12_changesLine 23 = .ok (.ishl, 1) := by decide +kernel
theorem dX12_changesLine_24 : decode cX12_changesLine 24 = .ok (.ixor, 1) := by decide +kernel
theorem dX12_changesLine_25 : decode cX12_changesLine 25 = .ok (.iastore, 1) := by decide +kernel
theorem dX12_changesLine_26 : decode cX12_changesLine 26 = .ok (.return_, 1) := by decide +kernel
theorem dX12_linesIn_0 : decode cX12_linesIn 0 = .ok (.iconst 0, 1) := by decide +kernel
theorem dX12_linesIn_1 : decode cX12_linesIn 1 = .ok (.istore_n 1, 1) := by decide +kernel
theorem dX12_linesIn_2 : decode cX12_linesIn 2 = .ok (.iconst 0, 1) := by decide +kernel
theorem dX12_linesIn_3 : decode cX12_linesIn 3 = .ok (.istore_n 2, 1) := by decide +kernel
theorem dX12_linesIn_4 : decode cX12_linesIn 4 = .ok (.iload_n 2, 1) := by decide +kernel
theorem dX12_linesIn_5 : decode cX12_linesIn 5 = .ok (.aload_n 0, 1) := by decide +kernel
theorem dX12_linesIn_6 : decode cX12_linesIn 6 = .ok (.iconst 0, 1) := by decide +kernel
theorem dX12_linesIn_7 : decode cX12_linesIn 7 = .ok (.iaload, 1) := by decide +kernel
theorem dX12_linesIn_8 : decode cX12_linesIn 8 = .ok (.if_icmp .ge 17, 3) := by decide +kernel
theorem dX12_linesIn_11 : decode cX12_linesIn 11 = .ok (.iload_n 1, 1) := by decide +kernel
theorem dX12_linesIn_12 : decode cX12_linesIn 12 = .ok (.aload_n 0, 1) := by decide +kernel
theorem dX12_linesIn_13 : decode cX12_linesIn 13 = .ok (.iload_n 2, 1) := by decide +kernel
theorem dX12_linesIn_14 : decode cX12_linesIn 14 = .ok (.invokestatic 72, 3) := by decide +kernel
theorem dX12_linesIn_17 : decode cX12_linesIn 17 = .ok (.iadd, 1) := by decide +kernel
theorem dX12_linesIn_18 : decode cX12_linesIn 18 = .ok (.istore_n 1, 1) := by decide +kernel
theorem dX12_linesIn_19 : decode cX12_linesIn 19 = .ok (.iinc 2 1, 3) := by decide +kernel
theorem dX12_linesIn_22 : decode cX12_linesIn 22 = .ok (.goto (-18), 3) := by decide +kernel
theorem dX12_linesIn_25 : decode cX12_linesIn 25 = .ok (.iload_n 1, 1) := by decide +kernel
theorem dX12_linesIn_26 : decode cX12_linesIn 26 = .ok (.iconst 2, 1) := by decide +kernel
theorem dX12_linesIn_27 : decode cX12_linesIn 27 = .ok (.idiv, 1) := by decide +kernel
theorem dX12_linesIn_28 : decode cX12_linesIn 28 = .ok (.ireturn, 1) := by decide +kernel
theorem dX12_becomes_0 : decode cX12_becomes 0 = .ok (.aload_n 0, 1) := by decide +kernel
theorem dX12_becomes_1 : decode cX12_becomes 1 = .ok (.iload_n 1, 1) := by decide +kernel
theorem dX12_becomes_2 : decode cX12_becomes 2 = .ok (.iconst 0, 1) := by decide +kernel
theorem dX12_becomes_3 : decode cX12_becomes 3 = .ok (.invokestatic 64, 3) := by decide +kernel
theorem dX12_becomes_6 : decode cX12_becomes 6 = .ok (.iload_n 2, 1) := by decide +kernel
theorem dX12_becomes_7 : decode cX12_becomes 7 = .ok (.iastore, 1) := by decide +kernel
theorem dX12_becomes_8 : decode cX12_becomes 8 = .ok (.aload_n 0, 1) := by decide +kernel
theorem dX12_becomes_9 : decode cX12_becomes 9 = .ok (.iload_n 1, 1) := by decide +kernel
theorem dX12_becomes_10 : decode cX12_becomes 10 = .ok (.iconst 1, 1) := by decide +kernel
theorem dX12_becomes_11 : decode cX12_becomes 11 = .ok (.invokestatic 64, 3) := by decide +kernel
theorem dX12_becomes_14 : decode cX12_becomes 14 = .ok (.iload_n 3, 1) := by decide +kernel
theorem dX12_becomes_15 : decode cX12_becomes 15 = .ok (.iastore, 1) := by decide +kernel
theorem dX12_becomes_16 : decode cX12_becomes 16 = .ok (.iload_n 2, 1) := by decide +kernel
theorem dX12_becomes_17 : decode cX12_becomes 17 = .ok (.bipush 7, 2) := by decide +kernel
theorem dX12_becomes_19 : decode cX12_becomes 19 = .ok (.if_icmp .ne 14, 3) := by decide +kernel
theorem dX12_becomes_22 : decode cX12_becomes 22 = .ok (.aload_n 0, 1) := by decide +kernel
theorem dX12_becomes_23 : decode cX12_becomes 23 = .ok (.iconst 2, 1) := by decide +kernel
theorem dX12_becomes_24 : decode cX12_becomes 24 = .ok (.dup2, 1) := by decide +kernel
theorem dX12_becomes_25 : decode cX12_becomes 25 = .ok (.iaload, 1) := by decide +kernel
theorem dX12_becomes_26 : decode cX12_becomes 26 = .ok (.iconst 1, 1) := by decide +kernel
theorem dX12_becomes_27 : decode cX12_becomes 27 = .ok (.iload_n 1, 1) := by decide +kernel
theorem dX12_becomes_28 : decode cX12_becomes 28 = .ok (.ishl, 1) := by decide +kernel
theorem dX12_becomes_29 : decode cX12_becomes 29 = .ok (.iconst (-1), 1) := by decide +kernel
theorem dX12_becomes_30 : decode cX12_becomes 30 = .ok (.ixor, 1) := by decide +kernel
theorem dX12_becomes_31 : decode cX12_becomes 31 = .ok (.iand, 1) := by decide +kernel
theorem dX12_becomes_32 : decode cX12_becomes 32 = .ok (.iastore, 1) := by decide +kernel
theorem dX12_becomes_33 : decode cX12_becomes 33 = .ok (.return_, 1) := by decide +kernel
theorem dX12_here_0 : decode cX12_here 0 = .ok (.aload_n 0, 1) := by decide +kernel
theorem dX12_here_1 : decode cX12_here 1 = .ok (.getfield 99, 3) := by decide +kernel
theorem dX12_here_4 : decode cX12_here 4 = .ok (.aload_n 0, 1) := by decide +kernel
theorem dX12_here_5 : decode cX12_here 5 = .ok (.getfield 103, 3) := by decide +kernel
theorem dX12_here_8 : decode cX12_here 8 = .ok (.if_icmp .ge 24, 3) := by decide +kernel
theorem dX12_here_11 : decode cX12_here 11 = .ok (.aload_n 0, 1) := by decide +kernel
theorem dX12_here_12 : decode cX12_here 12 = .ok (.getfield 53, 3) := by decide +kernel
theorem dX12_here_15 : decode cX12_here 15 = .ok (.aload_n 0, 1) := by decide +kernel
theorem dX12_here_16 : decode cX12_here 16 = .ok (.getfield 106, 3) := by decide +kernel
theorem dX12_here_19 : decode cX12_here 19 = .ok (.aload_n 0, 1) := by decide +kernel
theorem dX12_here_20 : decode cX12_here 20 = .ok (.getfield 99, 3) := by decide +kernel
theorem dX12_here_23 : decode cX12_here 23 = .ok (.iadd, 1) := by decide +kernel
theorem dX12_here_24 : decode cX12_here 24 = .ok (.iaload, 1) := by decide +kernel
theorem dX12_here_25 : decode cX12_here 25 = .ok (.sipush 255, 3) := by decide +kernel
theorem dX12_here_28 : decode cX12_here 28 = .ok (.iand, 1) := by decide +kernel
theorem dX12_here_29 : decode cX12_here 29 = .ok (.goto 4, 3) := by decide +kernel
theorem dX12_here_32 : decode cX12_here 32 = .ok (.iconst (-1), 1) := by decide +kernel
theorem dX12_here_33 : decode cX12_here 33 = .ok (.ireturn, 1) := by decide +kernel
theorem dX12_readsNumber_0 : decode cX12_readsNumber 0 = .ok (.aload_n 0, 1) := by decide +kernel
theorem dX12_readsNumber_1 : decode cX12_readsNumber 1 = .ok (.getfield 22, 3) := by decide +kernel
theorem dX12_readsNumber_4 : decode cX12_readsNumber 4 = .ok (.iload_n 1, 1) := by decide +kernel
theorem dX12_readsNumber_5 : decode cX12_readsNumber 5 = .ok (.iconst 0, 1) := by decide +kernel
theorem dX12_readsNumber_6 : decode cX12_readsNumber 6 = .ok (.iastore, 1) := by decide +kernel
theorem dX12_readsNumber_7 : decode cX12_readsNumber 7 = .ok (.iconst 0, 1) := by decide +kernel
theorem dX12_readsNumber_8 : decode cX12_readsNumber 8 = .ok (.istore_n 3, 1) := by decide +kernel
theorem dX12_readsNumber_9 : decode cX12_readsNumber 9 = .ok (.iload_n 3, 1) := by decide +kernel
theorem dX12_readsNumber_10 : decode cX12_readsNumber 10 = .ok (.iload_n 2, 1) := by decide +kernel
theorem dX12_readsNumber_11 : decode cX12_readsNumber 11 = .ok (.if_icmp .ge 58, 3) := by decide +kernel
theorem dX12_readsNumber_14 : decode cX12_readsNumber 14 = .ok (.aload_n 0, 1) := by decide +kernel
theorem dX12_readsNumber_15 : decode cX12_readsNumber 15 = .ok (.invokevirtual 109, 3) := by decide +kernel
theorem dX12_readsNumber_18 : decode cX12_readsNumber 18 = .ok (.bipush 48, 2) := by decide +kernel
theorem dX12_readsNumber_20 : decode cX12_readsNumber 20 = .ok (.bipush 57, 2) := by decide +kernel
theorem dX12_readsNumber_22 : decode cX12_readsNumber 22 = .ok (.invokestatic 56, 3) := by decide +kernel
theorem dX12_readsNumber_25 : decode cX12_readsNumber 25 = .ok (.ifCond .ne 5, 3) := by decide +kernel
theorem dX12_readsNumber_28 : decode cX12_readsNumber 28 = .ok (.iconst 0, 1) := by decide +kernel
theorem dX12_readsNumber_29 : decode cX12_readsNumber 29 = .ok (.ireturn, 1) := by decide +kernel
theorem dX12_readsNumber_30 : decode cX12_readsNumber 30 = .ok (.aload_n 0, 1) := by decide +kernel
theorem dX12_readsNumber_31 : decode cX12_readsNumber 31 = .ok (.getfield 22, 3) := by decide +kernel
theorem dX12_readsNumber_34 : decode cX12_readsNumber 34 = .ok (.iload_n 1, 1) := by decide +kernel
theorem dX12_readsNumber_35 : decode cX12_readsNumber 35 = .ok (.bipush 10, 2) := by decide +kernel
theorem dX12_readsNumber_37 : decode cX12_readsNumber 37 = .ok (.aload_n 0, 1) := by decide +kernel
theorem dX12_readsNumber_38 : decode cX12_readsNumber 38 = .ok (.getfield 22, 3) := by decide +kernel
theorem dX12_readsNumber_41 : decode cX12_readsNumber 41 = .ok (.iload_n 1, 1) := by decide +kernel
theorem dX12_readsNumber_42 : decode cX12_readsNumber 42 = .ok (.iaload, 1) := by decide +kernel
theorem dX12_readsNumber_43 : decode cX12_readsNumber 43 = .ok (.imul, 1) := by decide +kernel
theorem dX12_readsNumber_44 : decode cX12_readsNumber 44 = .ok (.aload_n 0, 1) := by decide +kernel
theorem dX12_readsNumber_45 : decode cX12_readsNumber 45 = .ok (.invokevirtual 109, 3) := by decide +kernel
theorem dX12_readsNumber_48 : decode cX12_readsNumber 48 = .ok (.iadd, 1) := by decide +kernel
theorem dX12_readsNumber_49 : decode cX12_readsNumber 49 = .ok (.bipush 48, 2) := by decide +kernel
theorem dX12_readsNumber_51 : decode cX12_readsNumber 51 = .ok (.isub, 1) := by decide +kernel
theorem dX12_readsNumber_52 : decode cX12_readsNumber 52 = .ok (.iastore, 1) := by decide +kernel
theorem dX12_readsNumber_53 : decode cX12_readsNumber 53 = .ok (.aload_n 0, 1) := by decide +kernel
theorem dX12_readsNumber_54 : decode cX12_readsNumber 54 = .ok (.dup, 1) := by decide +kernel
theorem dX12_readsNumber_55 : decode cX12_readsNumber 55 = .ok (.getfield 99, 3) := by decide +kernel
theorem dX12_readsNumber_58 : decode cX12_readsNumber 58 = .ok (.iconst 1, 1) := by decide +kernel
theorem dX12_readsNumber_59 : decode cX12_readsNumber 59 = .ok (.iadd, 1) := by decide +kernel
theorem dX12_readsNumber_60 : decode cX12_readsNumber 60 = .ok (.putfield 99, 3) := by decide +kernel
theorem dX12_readsNumber_63 : decode cX12_readsNumber 63 = .ok (.iinc 3 1, 3) := by decide +kernel
theorem dX12_readsNumber_66 : decode cX12_readsNumber 66 = .ok (.goto (-57), 3) := by decide +kernel
theorem dX12_readsNumber_69 : decode cX12_readsNumber 69 = .ok (.iconst 1, 1) := by decide +kernel
theorem dX12_readsNumber_70 : decode cX12_readsNumber 70 = .ok (.ireturn, 1) := by decide +kernel
theorem dX12_readsStatement_0 : decode cX12_readsStatement 0 = .ok (.aload_n 0, 1) := by decide +kernel
theorem dX12_readsStatement_1 : decode cX12_readsStatement 1 = .ok (.invokevirtual 109, 3) := by decide +kernel
theorem dX12_readsStatement_4 : decode cX12_readsStatement 4 = .ok (.istore_n 1, 1) := by decide +kernel
theorem dX12_readsStatement_5 : decode cX12_readsStatement 5 = .ok (.aload_n 0, 1) := by decide +kernel
theorem dX12_readsStatement_6 : decode cX12_readsStatement 6 = .ok (.dup, 1) := by decide +kernel
theorem dX12_readsStatement_7 : decode cX12_readsStatement 7 = .ok (.getfield 99, 3) := by decide +kernel
theorem dX12_readsStatement_10 : decode cX12_readsStatement 10 = .ok (.iconst 1, 1) := by decide +kernel
theorem dX12_readsStatement_11 : decode cX12_readsStatement 11 = .ok (.iadd, 1) := by decide +kernel
theorem dX12_readsStatement_12 : decode cX12_readsStatement 12 = .ok (.putfield 99, 3) := by decide +kernel
theorem dX12_readsStatement_15 : decode cX12_readsStatement 15 = .ok (.iload_n 1, 1) := by decide +kernel
theorem dX12_readsStatement_16 : decode cX12_readsStatement 16 = .ok (.tableswitch 151 100 112 #[141, 151, 151, 151, 95, 151, 151, 105, 68, 151, 151, 151, 68], 68) := by decide +kernel
theorem dX12_readsStatement_84 : decode cX12_readsStatement 84 = .ok (.aload_n 0, 1) := by decide +kernel
theorem dX12_readsStatement_85 : decode cX12_readsStatement 85 = .ok (.iconst 0, 1) := by decide +kernel
theorem dX12_readsStatement_86 : decode cX12_readsStatement 86 = .ok (.iconst 1, 1) := by decide +kernel
theorem dX12_readsStatement_87 : decode cX12_readsStatement 87 = .ok (.invokevirtual 113, 3) := by decide +kernel
theorem dX12_readsStatement_90 : decode cX12_readsStatement 90 = .ok (.ifCond .eq 16, 3) := by decide +kernel
theorem dX12_readsStatement_93 : decode cX12_readsStatement 93 = .ok (.aload_n 0, 1) := by decide +kernel
theorem dX12_readsStatement_94 : decode cX12_readsStatement 94 = .ok (.iconst 1, 1) := by decide +kernel
theorem dX12_readsStatement_95 : decode cX12_readsStatement 95 = .ok (.iconst 1, 1) := by decide +kernel
theorem dX12_readsStatement_96 : decode cX12_readsStatement 96 = .ok (.invokevirtual 113, 3) := by decide +kernel
theorem dX12_readsStatement_99 : decode cX12_readsStatement 99 = .ok (.ifCond .eq 7, 3) := by decide +kernel
theorem dX12_readsStatement_102 : decode cX12_readsStatement 102 = .ok (.iconst 1, 1) := by decide +kernel
theorem dX12_readsStatement_103 : decode cX12_readsStatement 103 = .ok (.goto 4, 3) := by decide +kernel
theorem dX12_readsStatement_106 : decode cX12_readsStatement 106 = .ok (.iconst 0, 1) := by decide +kernel
theorem dX12_readsStatement_107 : decode cX12_readsStatement 107 = .ok (.istore_n 2, 1) := by decide +kernel
theorem dX12_readsStatement_108 : decode cX12_readsStatement 108 = .ok (.goto 71, 3) := by decide +kernel
theorem dX12_readsStatement_111 : decode cX12_readsStatement 111 = .ok (.aload_n 0, 1) := by decide +kernel
theorem dX12_readsStatement_112 : decode cX12_readsStatement 112 = .ok (.iconst 0, 1) := by decide +kernel
theorem dX12_readsStatement_113 : decode cX12_readsStatement 113 = .ok (.iconst 1, 1) := by decide +kernel
theorem dX12_readsStatement_114 : decode cX12_readsStatement 114 = .ok (.invokevirtual 113, 3) := by decide +kernel
theorem dX12_readsStatement_117 : decode cX12_readsStatement 117 = .ok (.istore_n 2, 1) := by decide +kernel
theorem dX12_readsStatement_118 : decode cX12_readsStatement 118 = .ok (.goto 61, 3) := by decide +kernel
theorem dX12_readsStatement_121 : decode cX12_readsStatement 121 = .ok (.aload_n 0, 1) := by decide +kernel
theorem dX12_readsStatement_122 : decode cX12_readsStatement 122 = .ok (.iconst 0, 1) := by decide +kernel
theorem dX12_readsStatement_123 : decode cX12_readsStatement 123 = .ok (.iconst 1, 1) := by decide +kernel
theorem dX12_readsStatement_124 : decode cX12_readsStatement 124 = .ok (.invokevirtual 113, 3) := by decide +kernel
theorem dX12_readsStatement_127 : decode cX12_readsStatement 127 = .ok (.ifCond .eq 25, 3) := by decide +kernel
theorem dX12_readsStatement_130 : decode cX12_readsStatement 130 = .ok (.aload_n 0, 1) := by decide +kernel
theorem dX12_readsStatement_131 : decode cX12_readsStatement 131 = .ok (.iconst 1, 1) := by decide +kernel
theorem dX12_readsStatement_132 : decode cX12_readsStatement 132 = .ok (.iconst 1, 1) := by decide +kernel
theorem dX12_readsStatement_133 : decode cX12_readsStatement 133 = .ok (.invokevirtual 113, 3) := by decide +kernel
theorem dX12_readsStatement_136 : decode cX12_readsStatement 136 = .ok (.ifCond .eq 16, 3) := by decide +kernel
theorem dX12_readsStatement_139 : decode cX12_readsStatement 139 = .ok (.aload_n 0, 1) := by decide +kernel
theorem dX12_readsStatement_140 : decode cX12_readsStatement 140 = .ok (.iconst 2, 1) := by decide +kernel
theorem dX12_readsStatement_141 : decode cX12_readsStatement 141 = .ok (.iconst 1, 1) := by decide +kernel
theorem dX12_readsStatement_142 : decode cX12_readsStatement 142 = .ok (.invokevirtual 113, 3) := by decide +kernel
theorem dX12_readsStatement_145 : decode cX12_readsStatement 145 = .ok (.ifCond .eq 7, 3) := by decide +kernel
theorem dX12_readsStatement_148 : decode cX12_readsStatement 148 = .ok (.iconst 1, 1) := by decide +kernel
theorem dX12_readsStatement_149 : decode cX12_readsStatement 149 = .ok (.goto 4, 3) := by decide +kernel
theorem dX12_readsStatement_152 : decode cX12_readsStatement 152 = .ok (.iconst 0, 1) := by decide +kernel
theorem dX12_readsStatement_153 : decode cX12_readsStatement 153 = .ok (.istore_n 2, 1) := by decide +kernel
theorem dX12_readsStatement_154 : decode cX12_readsStatement 154 = .ok (.goto 25, 3) := by decide +kernel
theorem dX12_readsStatement_157 : decode cX12_readsStatement 157 = .ok (.aload_n 0, 1) := by decide +kernel
theorem dX12_readsStatement_158 : decode cX12_readsStatement 158 = .ok (.iconst 0, 1) := by decide +kernel
theorem dX12_readsStatement_159 : decode cX12_readsStatement 159 = .ok (.iconst 2, 1) := by decide +kernel
theorem dX12_readsStatement_160 : decode cX12_readsStatement 160 = .ok (.invokevirtual 113, 3) := by decide +kernel
theorem dX12_readsStatement_163 : decode cX12_readsStatement 163 = .ok (.istore_n 2, 1) := by decide +kernel
theorem dX12_readsStatement_164 : decode cX12_readsStatement 164 = .ok (.goto 15, 3) := by decide +kernel
theorem dX12_readsStatement_167 : decode cX12_readsStatement 167 = .ok (.aload_n 0, 1) := by decide +kernel
theorem dX12_readsStatement_168 : decode cX12_readsStatement 168 = .ok (.dup, 1) := by decide +kernel
theorem dX12_readsStatement_169 : decode cX12_readsStatement 169 = .ok (.getfield 99, 3) := by decide +kernel
theorem dX12_readsStatement_172 : decode cX12_readsStatement 172 = .ok (.iconst 1, 1) := by decide +kernel
theorem dX12_readsStatement_173 : decode cX12_readsStatement 173 = .ok (.isub, 1) := by decide +kernel
theorem dX12_readsStatement_174 : decode cX12_readsStatement 174 = .ok (.putfield 99, 3) := by decide +kernel
theorem dX12_readsStatement_177 : decode cX12_readsStatement 177 = .ok (.iconst 0, 1) := by decide +kernel
theorem dX12_readsStatement_178 : decode cX12_readsStatement 178 = .ok (.ireturn, 1) := by decide +kernel
theorem dX12_readsStatement_179 : decode cX12_readsStatement 179 = .ok (.iload_n 2, 1) := by decide +kernel
theorem dX12_readsStatement_180 : decode cX12_readsStatement 180 = .ok (.ifCond .eq 12, 3) := by decide +kernel
theorem dX12_readsStatement_183 : decode cX12_readsStatement 183 = .ok (.aload_n 0, 1) := by decide +kernel
theorem dX12_readsStatement_184 : decode cX12_readsStatement 184 = .ok (.invokevirtual 109, 3) := by decide +kernel
theorem dX12_readsStatement_187 : decode cX12_readsStatement 187 = .ok (.bipush 59, 2) := by decide +kernel
theorem dX12_readsStatement_189 : decode cX12_readsStatement 189 = .ok (.if_icmp .eq 5, 3) := by decide +kernel
theorem dX12_readsStatement_192 : decode cX12_readsStatement 192 = .ok (.iconst 0, 1) := by decide +kernel
theorem dX12_readsStatement_193 : decode cX12_readsStatement 193 = .ok (.ireturn, 1) := by decide +kernel
theorem dX12_readsStatement_194 : decode cX12_readsStatement 194 = .ok (.aload_n 0, 1) := by decide +kernel
theorem dX12_readsStatement_195 : decode cX12_readsStatement 195 = .ok (.dup, 1) := by decide +kernel
theorem dX12_readsStatement_196 : decode cX12_readsStatement 196 = .ok (.getfield 99, 3) := by decide +kernel
theorem dX12_readsStatement_199 : decode cX12_readsStatement 199 = .ok (.iconst 1, 1) := by decide +kernel
theorem dX12_readsStatement_200 : decode cX12_readsStatement 200 = .ok (.iadd, 1) := by decide +kernel
theorem dX12_readsStatement_201 : decode cX12_readsStatement 201 = .ok (.putfield 99, 3) := by decide +kernel
theorem dX12_readsStatement_204 : decode cX12_readsStatement 204 = .ok (.iconst 1, 1) := by decide +kernel
theorem dX12_readsStatement_205 : decode cX12_readsStatement 205 = .ok (.ireturn, 1) := by decide +kernel
theorem dX12_adds_0 : decode cX12_adds 0 = .ok (.aload_n 0, 1) := by decide +kernel
theorem dX12_adds_1 : decode cX12_adds 1 = .ok (.getfield 9, 3) := by decide +kernel
theorem dX12_adds_4 : decode cX12_adds 4 = .ok (.iconst 0, 1) := by decide +kernel
theorem dX12_adds_5 : decode cX12_adds 5 = .ok (.iaload, 1) := by decide +kernel
theorem dX12_adds_6 : decode cX12_adds 6 = .ok (.istore_n 3, 1) := by decide +kernel
theorem dX12_adds_7 : decode cX12_adds 7 = .ok (.aload_n 0, 1) := by decide +kernel
theorem dX12_adds_8 : decode cX12_adds 8 = .ok (.getfield 9, 3) := by decide +kernel
theorem dX12_adds_11 : decode cX12_adds 11 = .ok (.iload_n 3, 1) := by decide +kernel
theorem dX12_adds_12 : decode cX12_adds 12 = .ok (.iconst 0, 1) := by decide +kernel
theorem dX12_adds_13 : decode cX12_adds 13 = .ok (.invokestatic 64, 3) := by decide +kernel
theorem dX12_adds_16 : decode cX12_adds 16 = .ok (.iload_n 1, 1) := by decide +kernel
theorem dX12_adds_17 : decode cX12_adds 17 = .ok (.iastore, 1) := by decide +kernel
theorem dX12_adds_18 : decode cX12_adds 18 = .ok (.aload_n 0, 1) := by decide +kernel
theorem dX12_adds_19 : decode cX12_adds 19 = .ok (.getfield 9, 3) := by decide +kernel
theorem dX12_adds_22 : decode cX12_adds 22 = .ok (.iload_n 3, 1) := by decide +kernel
theorem dX12_adds_23 : decode cX12_adds 23 = .ok (.iconst 1, 1) := by decide +kernel
theorem dX12_adds_24 : decode cX12_adds 24 = .ok (.invokestatic 64, 3) := by decide +kernel
theorem dX12_adds_27 : decode cX12_adds 27 = .ok (.iload_n 2, 1) := by decide +kernel
theorem dX12_adds_28 : decode cX12_adds 28 = .ok (.iastore, 1) := by decide +kernel
theorem dX12_adds_29 : decode cX12_adds 29 = .ok (.aload_n 0, 1) := by decide +kernel
theorem dX12_adds_30 : decode cX12_adds 30 = .ok (.getfield 9, 3) := by decide +kernel
theorem dX12_adds_33 : decode cX12_adds 33 = .ok (.iload_n 3, 1) := by decide +kernel
theorem dX12_adds_34 : decode cX12_adds 34 = .ok (.iconst 2, 1) := by decide +kernel
theorem dX12_adds_35 : decode cX12_adds 35 = .ok (.invokestatic 64, 3) := by decide +kernel
theorem dX12_adds_38 : decode cX12_adds 38 = .ok (.iconst 0, 1) := by decide +kernel
theorem dX12_adds_39 : decode cX12_adds 39 = .ok (.iastore, 1) := by decide +kernel
theorem dX12_adds_40 : decode cX12_adds 40 = .ok (.aload_n 0, 1) := by decide +kernel
theorem dX12_adds_41 : decode cX12_adds 41 = .ok (.getfield 9, 3) := by decide +kernel
theorem dX12_adds_44 : decode cX12_adds 44 = .ok (.iconst 0, 1) := by decide +kernel
theorem dX12_adds_45 : decode cX12_adds 45 = .ok (.dup2, 1) := by decide +kernel
theorem dX12_adds_46 : decode cX12_adds 46 = .ok (.iaload, 1) := by decide +kernel
theorem dX12_adds_47 : decode cX12_adds 47 = .ok (.iconst 1, 1) := by decide +kernel
theorem dX12_adds_48 : decode cX12_adds 48 = .ok (.iadd, 1) := by decide +kernel
theorem dX12_adds_49 : decode cX12_adds 49 = .ok (.iastore, 1) := by decide +kernel
theorem dX12_adds_50 : decode cX12_adds 50 = .ok (.return_, 1) := by decide +kernel
theorem dX12_isDone_0 : decode cX12_isDone 0 = .ok (.aload_n 0, 1) := by decide +kernel
theorem dX12_isDone_1 : decode cX12_isDone 1 = .ok (.getfield 22, 3) := by decide +kernel
theorem dX12_isDone_4 : decode cX12_isDone 4 = .ok (.iconst 0, 1) := by decide +kernel
theorem dX12_isDone_5 : decode cX12_isDone 5 = .ok (.iaload, 1) := by decide +kernel
theorem dX12_isDone_6 : decode cX12_isDone 6 = .ok (.istore_n 2, 1) := by decide +kernel
theorem dX12_isDone_7 : decode cX12_isDone 7 = .ok (.aload_n 0, 1) := by decide +kernel
theorem dX12_isDone_8 : decode cX12_isDone 8 = .ok (.getfield 22, 3) := by decide +kernel
theorem dX12_isDone_11 : decode cX12_isDone 11 = .ok (.iconst 1, 1) := by decide +kernel
theorem dX12_isDone_12 : decode cX12_isDone 12 = .ok (.iaload, 1) := by decide +kernel
theorem dX12_isDone_13 : decode cX12_isDone 13 = .ok (.istore_n 3, 1) := by decide +kernel
theorem dX12_isDone_14 : decode cX12_isDone 14 = .ok (.iload_n 1, 1) := by decide +kernel
theorem dX12_isDone_15 : decode cX12_isDone 15 = .ok (.tableswitch 166 104 112 #[98, 166, 166, 133, 76, 166, 166, 166, 49], 49) := by decide +kernel
theorem dX12_isDone_64 : decode cX12_isDone 64 = .ok (.iload_n 2, 1) := by decide +kernel
theorem dX12_isDone_65 : decode cX12_isDone 65 = .ok (.bipush 8, 2) := by decide +kernel
theorem dX12_isDone_67 : decode cX12_isDone 67 = .ok (.if_icmp .ge 14, 3) := by decide +kernel
theorem dX12_isDone_70 : decode cX12_isDone 70 = .ok (.aload_n 0, 1) := by decide +kernel
theorem dX12_isDone_71 : decode cX12_isDone 71 = .ok (.getfield 9, 3) := by decide +kernel
theorem dX12_isDone_74 : decode cX12_isDone 74 = .ok (.iconst 0, 1) := by decide +kernel
theorem dX12_isDone_75 : decode cX12_isDone 75 = .ok (.iaload, 1) := by decide +kernel
theorem dX12_isDone_76 : decode cX12_isDone 76 = .ok (.bipush 9, 2) := by decide +kernel
theorem dX12_isDone_78 : decode cX12_isDone 78 = .ok (.if_icmp .ne 5, 3) := by decide +kernel
theorem dX12_isDone_81 : decode cX12_isDone 81 = .ok (.iconst 0, 1) := by decide +kernel
theorem dX12_isDone_82 : decode cX12_isDone 82 = .ok (.ireturn, 1) := by decide +kernel
theorem dX12_isDone_83 : decode cX12_isDone 83 = .ok (.aload_n 0, 1) := by decide +kernel
theorem dX12_isDone_84 : decode cX12_isDone 84 = .ok (.iload_n 2, 1) := by decide +kernel
theorem dX12_isDone_85 : decode cX12_isDone 85 = .ok (.iload_n 3, 1) := by decide +kernel
theorem dX12_isDone_86 : decode cX12_isDone 86 = .ok (.invokevirtual 116, 3) := by decide +kernel
theorem dX12_isDone_89 : decode cX12_isDone 89 = .ok (.iconst 1, 1) := by decide +kernel
theorem dX12_isDone_90 : decode cX12_isDone 90 = .ok (.ireturn, 1) := by decide +kernel
theorem dX12_isDone_91 : decode cX12_isDone 91 = .ok (.aload_n 0, 1) := by decide +kernel
theorem dX12_isDone_92 : decode cX12_isDone 92 = .ok (.iload_n 2, 1) := by decide +kernel
theorem dX12_isDone_93 : decode cX12_isDone 93 = .ok (.iload_n 3, 1) := by decide +kernel
theorem dX12_isDone_94 : decode cX12_isDone 94 = .ok (.invokevirtual 120, 3) := by decide +kernel
theorem dX12_isDone_97 : decode cX12_isDone 97 = .ok (.ifCond .ne 5, 3) := by decide +kernel
theorem dX12_isDone_100 : decode cX12_isDone 100 = .ok (.iconst 0, 1) := by decide +kernel
theorem dX12_isDone_101 : decode cX12_isDone 101 = .ok (.ireturn, 1) := by decide +kernel
theorem dX12_isDone_102 : decode cX12_isDone 102 = .ok (.aload_n 0, 1) := by decide +kernel
theorem dX12_isDone_103 : decode cX12_isDone 103 = .ok (.getfield 9, 3) := by decide +kernel
theorem dX12_isDone_106 : decode cX12_isDone 106 = .ok (.iload_n 2, 1) := by decide +kernel
theorem dX12_isDone_107 : decode cX12_isDone 107 = .ok (.iload_n 3, 1) := by decide +kernel
theorem dX12_isDone_108 : decode cX12_isDone 108 = .ok (.invokestatic 123, 3) := by decide +kernel
theorem dX12_isDone_111 : decode cX12_isDone 111 = .ok (.iconst 1, 1) := by decide +kernel
theorem dX12_isDone_112 : decode cX12_isDone 112 = .ok (.ireturn, 1) := by decide +kernel
theorem dX12_isDone_113 : decode cX12_isDone 113 = .ok (.aload_n 0, 1) := by decide +kernel
theorem dX12_isDone_114 : decode cX12_isDone 114 = .ok (.iload_n 2, 1) := by decide +kernel
theorem dX12_isDone_115 : decode cX12_isDone 115 = .ok (.invokevirtual 60, 3) := by decide +kernel
theorem dX12_isDone_118 : decode cX12_isDone 118 = .ok (.ifCond .eq 14, 3) := by decide +kernel
theorem dX12_isDone_121 : decode cX12_isDone 121 = .ok (.aload_n 0, 1) := by decide +kernel
theorem dX12_isDone_122 : decode cX12_isDone 122 = .ok (.getfield 9, 3) := by decide +kernel
theorem dX12_isDone_125 : decode cX12_isDone 125 = .ok (.iload_n 2, 1) := by decide +kernel
theorem dX12_isDone_126 : decode cX12_isDone 126 = .ok (.invokestatic 84, 3) := by decide +kernel
theorem dX12_isDone_129 : decode cX12_isDone 129 = .ok (.ifCond .eq 5, 3) := by decide +kernel
theorem dX12_isDone_132 : decode cX12_isDone 132 = .ok (.iconst 0, 1) := by decide +kernel
theorem dX12_isDone_133 : decode cX12_isDone 133 = .ok (.ireturn, 1) := by decide +kernel
theorem dX12_isDone_134 : decode cX12_isDone 134 = .ok (.aload_n 0, 1) := by decide +kernel
theorem dX12_isDone_135 : decode cX12_isDone 135 = .ok (.getfield 9, 3) := by decide +kernel
theorem dX12_isDone_138 : decode cX12_isDone 138 = .ok (.iconst 2, 1) := by decide +kernel
theorem dX12_isDone_139 : decode cX12_isDone 139 = .ok (.dup2, 1) := by decide +kernel
theorem dX12_isDone_140 : decode cX12_isDone 140 = .ok (.iaload, 1) := by decide +kernel
theorem dX12_isDone_141 : decode cX12_isDone 141 = .ok (.iconst 1, 1) := by decide +kernel
theorem dX12_isDone_142 : decode cX12_isDone 142 = .ok (.iload_n 2, 1) := by decide +kernel
theorem dX12_isDone_143 : decode cX12_isDone 143 = .ok (.ishl, 1) := by decide +kernel
theorem dX12_isDone_144 : decode cX12_isDone 144 = .ok (.ixor, 1) := by decide +kernel
theorem dX12_isDone_145 : decode cX12_isDone 145 = .ok (.iastore, 1) := by decide +kernel
theorem dX12_isDone_146 : decode cX12_isDone 146 = .ok (.iconst 1, 1) := by decide +kernel
theorem dX12_isDone_147 : decode cX12_isDone 147 = .ok (.ireturn, 1) := by decide +kernel
theorem dX12_isDone_148 : decode cX12_isDone 148 = .ok (.aload_n 0, 1) := by decide +kernel
theorem dX12_isDone_149 : decode cX12_isDone 149 = .ok (.iload_n 2, 1) := by decide +kernel
theorem dX12_isDone_150 : decode cX12_isDone 150 = .ok (.invokevirtual 60, 3) := by decide +kernel
theorem dX12_isDone_153 : decode cX12_isDone 153 = .ok (.ifCond .eq 9, 3) := by decide +kernel
theorem dX12_isDone_156 : decode cX12_isDone 156 = .ok (.iload_n 3, 1) := by decide +kernel
theorem dX12_isDone_157 : decode cX12_isDone 157 = .ok (.bipush 8, 2) := by decide +kernel
theorem dX12_isDone_159 : decode cX12_isDone 159 = .ok (.if_icmp .lt 5, 3) := by decide +kernel
theorem dX12_isDone_162 : decode cX12_isDone 162 = .ok (.iconst 0, 1) := by decide +kernel
theorem dX12_isDone_163 : decode cX12_isDone 163 = .ok (.ireturn, 1) := by decide +kernel
theorem dX12_isDone_164 : decode cX12_isDone 164 = .ok (.aload_n 0, 1) := by decide +kernel
theorem dX12_isDone_165 : decode cX12_isDone 165 = .ok (.getfield 9, 3) := by decide +kernel
theorem dX12_isDone_168 : decode cX12_isDone 168 = .ok (.iload_n 2, 1) := by decide +kernel
theorem dX12_isDone_169 : decode cX12_isDone 169 = .ok (.iload_n 3, 1) := by decide +kernel
theorem dX12_isDone_170 : decode cX12_isDone 170 = .ok (.aload_n 0, 1) := by decide +kernel
theorem dX12_isDone_171 : decode cX12_isDone 171 = .ok (.getfield 22, 3) := by decide +kernel
theorem dX12_isDone_174 : decode cX12_isDone 174 = .ok (.iconst 2, 1) := by decide +kernel
theorem dX12_isDone_175 : decode cX12_isDone 175 = .ok (.iaload, 1) := by decide +kernel
theorem dX12_isDone_176 : decode cX12_isDone 176 = .ok (.invokestatic 127, 3) := by decide +kernel
theorem dX12_isDone_179 : decode cX12_isDone 179 = .ok (.iconst 1, 1) := by decide +kernel
theorem dX12_isDone_180 : decode cX12_isDone 180 = .ok (.ireturn, 1) := by decide +kernel
theorem dX12_isDone_181 : decode cX12_isDone 181 = .ok (.iload_n 2, 1) := by decide +kernel
theorem dX12_isDone_182 : decode cX12_isDone 182 = .ok (.iconst 1, 1) := by decide +kernel
theorem dX12_isDone_183 : decode cX12_isDone 183 = .ok (.bipush 60, 2) := by decide +kernel
theorem dX12_isDone_185 : decode cX12_isDone 185 = .ok (.invokestatic 56, 3) := by decide +kernel
theorem dX12_isDone_188 : decode cX12_isDone 188 = .ok (.ifCond .eq 17, 3) := by decide +kernel
theorem dX12_isDone_191 : decode cX12_isDone 191 = .ok (.aload_n 0, 1) := by decide +kernel
theorem dX12_isDone_192 : decode cX12_isDone 192 = .ok (.getfield 9, 3) := by decide +kernel
theorem dX12_isDone_195 : decode cX12_isDone 195 = .ok (.iconst 1, 1) := by decide +kernel
theorem dX12_isDone_196 : decode cX12_isDone 196 = .ok (.iaload, 1) := by decide +kernel
theorem dX12_isDone_197 : decode cX12_isDone 197 = .ok (.iload_n 2, 1) := by decide +kernel
theorem dX12_isDone_198 : decode cX12_isDone 198 = .ok (.iadd, 1) := by decide +kernel
theorem dX12_isDone_199 : decode cX12_isDone 199 = .ok (.sipush 999, 3) := by decide +kernel
theorem dX12_isDone_202 : decode cX12_isDone 202 = .ok (.if_icmp .le 5, 3) := by decide +kernel
theorem dX12_isDone_205 : decode cX12_isDone 205 = .ok (.iconst 0, 1) := by decide +kernel
theorem dX12_isDone_206 : decode cX12_isDone 206 = .ok (.ireturn, 1) := by decide +kernel
theorem dX12_isDone_207 : decode cX12_isDone 207 = .ok (.aload_n 0, 1) := by decide +kernel
theorem dX12_isDone_208 : decode cX12_isDone 208 = .ok (.getfield 9, 3) := by decide +kernel
theorem dX12_isDone_211 : decode cX12_isDone 211 = .ok (.iload_n 2, 1) := by decide +kernel
theorem dX12_isDone_212 : decode cX12_isDone 212 = .ok (.invokestatic 131, 3) := by decide +kernel
theorem dX12_isDone_215 : decode cX12_isDone 215 = .ok (.iconst 1, 1) := by decide +kernel
theorem dX12_isDone_216 : decode cX12_isDone 216 = .ok (.ireturn, 1) := by decide +kernel
theorem dX12_parish_0 : decode cX12_parish 0 = .ok (.aload_n 0, 1) := by decide +kernel
theorem dX12_parish_1 : decode cX12_parish 1 = .ok (.iload_n 1, 1) := by decide +kernel
theorem dX12_parish_2 : decode cX12_parish 2 = .ok (.iconst 0, 1) := by decide +kernel
theorem dX12_parish_3 : decode cX12_parish 3 = .ok (.invokevirtual 134, 3) := by decide +kernel
theorem dX12_parish_6 : decode cX12_parish 6 = .ok (.istore_n 2, 1) := by decide +kernel
theorem dX12_parish_7 : decode cX12_parish 7 = .ok (.iload_n 2, 1) := by decide +kernel
theorem dX12_parish_8 : decode cX12_parish 8 = .ok (.ifCond .eq 5, 3) := by decide +kernel
theorem dX12_parish_11 : decode cX12_parish 11 = .ok (.iload_n 2, 1) := by decide +kernel
theorem dX12_parish_12 : decode cX12_parish 12 = .ok (.ireturn, 1) := by decide +kernel
theorem dX12_parish_13 : decode cX12_parish 13 = .ok (.aload_n 0, 1) := by decide +kernel
theorem dX12_parish_14 : decode cX12_parish 14 = .ok (.bipush 100, 2) := by decide +kernel
theorem dX12_parish_16 : decode cX12_parish 16 = .ok (.iload_n 1, 1) := by decide +kernel
theorem dX12_parish_17 : decode cX12_parish 17 = .ok (.imul, 1) := by decide +kernel
theorem dX12_parish_18 : decode cX12_parish 18 = .ok (.putfield 106, 3) := by decide +kernel
theorem dX12_parish_21 : decode cX12_parish 21 = .ok (.aload_n 0, 1) := by decide +kernel
theorem dX12_parish_22 : decode cX12_parish 22 = .ok (.aload_n 0, 1) := by decide +kernel
theorem dX12_parish_23 : decode cX12_parish 23 = .ok (.getfield 50, 3) := by decide +kernel
theorem dX12_parish_26 : decode cX12_parish 26 = .ok (.iload_n 1, 1) := by decide +kernel
theorem dX12_parish_27 : decode cX12_parish 27 = .ok (.iaload, 1) := by decide +kernel
theorem dX12_parish_28 : decode cX12_parish 28 = .ok (.putfield 103, 3) := by decide +kernel
theorem dX12_parish_31 : decode cX12_parish 31 = .ok (.aload_n 0, 1) := by decide +kernel
theorem dX12_parish_32 : decode cX12_parish 32 = .ok (.iconst 0, 1) := by decide +kernel
theorem dX12_parish_33 : decode cX12_parish 33 = .ok (.putfield 99, 3) := by decide +kernel
theorem dX12_parish_36 : decode cX12_parish 36 = .ok (.iconst 0, 1) := by decide +kernel
theorem dX12_parish_37 : decode cX12_parish 37 = .ok (.istore_n 3, 1) := by decide +kernel
theorem dX12_parish_38 : decode cX12_parish 38 = .ok (.iconst 0, 1) := by decide +kernel
theorem dX12_parish_39 : decode cX12_parish 39 = .ok (.istore 4, 2) := by decide +kernel
theorem dX12_parish_41 : decode cX12_parish 41 = .ok (.aload_n 0, 1) := by decide +kernel
theorem dX12_parish_42 : decode cX12_parish 42 = .ok (.invokevirtual 137, 3) := by decide +kernel
theorem dX12_parish_45 : decode cX12_parish 45 = .ok (.ifCond .ne 13, 3) := by decide +kernel
theorem dX12_parish_48 : decode cX12_parish 48 = .ok (.sipush (-1000), 3) := by decide +kernel
theorem dX12_parish_51 : decode cX12_parish 51 = .ok (.aload_n 0, 1) := by decide +kernel
theorem dX12_parish_52 : decode cX12_parish 52 = .ok (.getfield 99, 3) := by decide +kernel
theorem dX12_parish_55 : decode cX12_parish 55 = .ok (.isub, 1) := by decide +kernel
theorem dX12_parish_56 : decode cX12_parish 56 = .ok (.istore 4, 2) := by decide +kernel
theorem dX12_parish_58 : decode cX12_parish 58 = .ok (.iinc 3 1, 3) := by decide +kernel
theorem dX12_parish_61 : decode cX12_parish 61 = .ok (.iload 4, 2) := by decide +kernel
theorem dX12_parish_63 : decode cX12_parish 63 = .ok (.ifCond .ne 14, 3) := by decide +kernel
theorem dX12_parish_66 : decode cX12_parish 66 = .ok (.aload_n 0, 1) := by decide +kernel
theorem dX12_parish_67 : decode cX12_parish 67 = .ok (.getfield 99, 3) := by decide +kernel
theorem dX12_parish_70 : decode cX12_parish 70 = .ok (.aload_n 0, 1) := by decide +kernel
theorem dX12_parish_71 : decode cX12_parish 71 = .ok (.getfield 103, 3) := by decide +kernel
theorem dX12_parish_74 : decode cX12_parish 74 = .ok (.if_icmp .lt (-33), 3) := by decide +kernel
theorem dX12_parish_77 : decode cX12_parish 77 = .ok (.aload_n 0, 1) := by decide +kernel
theorem dX12_parish_78 : decode cX12_parish 78 = .ok (.getfield 9, 3) := by decide +kernel
theorem dX12_parish_81 : decode cX12_parish 81 = .ok (.aload_n 0, 1) := by decide +kernel
theorem dX12_parish_82 : decode cX12_parish 82 = .ok (.getfield 19, 3) := by decide +kernel
theorem dX12_parish_85 : decode cX12_parish 85 = .ok (.invokestatic 141, 3) := by decide +kernel
theorem dX12_parish_88 : decode cX12_parish 88 = .ok (.aload_n 0, 1) := by decide +kernel
theorem dX12_parish_89 : decode cX12_parish 89 = .ok (.iconst 0, 1) := by decide +kernel
theorem dX12_parish_90 : decode cX12_parish 90 = .ok (.putfield 99, 3) := by decide +kernel
theorem dX12_parish_93 : decode cX12_parish 93 = .ok (.iload 4, 2) := by decide +kernel
theorem dX12_parish_95 : decode cX12_parish 95 = .ok (.ifCond .ne 66, 3) := by decide +kernel
theorem dX12_parish_98 : decode cX12_parish 98 = .ok (.aload_n 0, 1) := by decide +kernel
theorem dX12_parish_99 : decode cX12_parish 99 = .ok (.getfield 99, 3) := by decide +kernel
theorem dX12_parish_102 : decode cX12_parish 102 = .ok (.aload_n 0, 1) := by decide +kernel
theorem dX12_parish_103 : decode cX12_parish 103 = .ok (.getfield 103, 3) := by decide +kernel
theorem dX12_parish_106 : decode cX12_parish 106 = .ok (.if_icmp .ge 55, 3) := by decide +kernel
theorem dX12_parish_109 : decode cX12_parish 109 = .ok (.aload_n 0, 1) := by decide +kernel
theorem dX12_parish_110 : decode cX12_parish 110 = .ok (.getfield 99, 3) := by decide +kernel
theorem dX12_parish_113 : decode cX12_parish 113 = .ok (.istore 5, 2) := by decide +kernel
theorem dX12_parish_115 : decode cX12_parish 115 = .ok (.aload_n 0, 1) := by decide +kernel
theorem dX12_parish_116 : decode cX12_parish 116 = .ok (.invokevirtual 109, 3) := by decide +kernel
theorem dX12_parish_119 : decode cX12_parish 119 = .ok (.istore 6, 2) := by decide +kernel
theorem dX12_parish_121 : decode cX12_parish 121 = .ok (.aload_n 0, 1) := by decide +kernel
theorem dX12_parish_122 : decode cX12_parish 122 = .ok (.invokevirtual 137, 3) := by decide +kernel
theorem dX12_parish_125 : decode cX12_parish 125 = .ok (.istore 7, 2) := by decide +kernel
theorem dX12_parish_127 : decode cX12_parish 127 = .ok (.aload_n 0, 1) := by decide +kernel
theorem dX12_parish_128 : decode cX12_parish 128 = .ok (.iload 6, 2) := by decide +kernel
theorem dX12_parish_130 : decode cX12_parish 130 = .ok (.invokevirtual 145, 3) := by decide +kernel
theorem dX12_parish_133 : decode cX12_parish 133 = .ok (.ifCond .eq 6, 3) := by decide +kernel
theorem dX12_parish_136 : decode cX12_parish 136 = .ok (.goto (-43), 3) := by decide +kernel
theorem dX12_parish_139 : decode cX12_parish 139 = .ok (.sipush (-2000), 3) := by decide +kernel
theorem dX12_parish_142 : decode cX12_parish 142 = .ok (.iload 5, 2) := by decide +kernel
theorem dX12_parish_144 : decode cX12_parish 144 = .ok (.isub, 1) := by decide +kernel
theorem dX12_parish_145 : decode cX12_parish 145 = .ok (.istore 4, 2) := by decide +kernel
theorem dX12_parish_147 : decode cX12_parish 147 = .ok (.aload_n 0, 1) := by decide +kernel
theorem dX12_parish_148 : decode cX12_parish 148 = .ok (.getfield 19, 3) := by decide +kernel
theorem dX12_parish_151 : decode cX12_parish 151 = .ok (.aload_n 0, 1) := by decide +kernel
theorem dX12_parish_152 : decode cX12_parish 152 = .ok (.getfield 9, 3) := by decide +kernel
theorem dX12_parish_155 : decode cX12_parish 155 = .ok (.invokestatic 141, 3) := by decide +kernel
theorem dX12_parish_158 : decode cX12_parish 158 = .ok (.goto (-65), 3) := by decide +kernel
theorem dX12_parish_161 : decode cX12_parish 161 = .ok (.iload 4, 2) := by decide +kernel
theorem dX12_parish_163 : decode cX12_parish 163 = .ok (.ifCond .ne 7, 3) := by decide +kernel
theorem dX12_parish_166 : decode cX12_parish 166 = .ok (.iload_n 3, 1) := by decide +kernel
theorem dX12_parish_167 : decode cX12_parish 167 = .ok (.goto 5, 3) := by decide +kernel
theorem dX12_parish_170 : decode cX12_parish 170 = .ok (.iload 4, 2) := by decide +kernel
theorem dX12_parish_172 : decode cX12_parish 172 = .ok (.ireturn, 1) := by decide +kernel
theorem dX12_one_0 : decode cX12_one 0 = .ok (.aload_n 0, 1) := by decide +kernel
theorem dX12_one_1 : decode cX12_one 1 = .ok (.iload_n 1, 1) := by decide +kernel
theorem dX12_one_2 : decode cX12_one 2 = .ok (.invokevirtual 60, 3) := by decide +kernel
theorem dX12_one_5 : decode cX12_one 5 = .ok (.ifCond .eq 13, 3) := by decide +kernel
theorem dX12_one_8 : decode cX12_one 8 = .ok (.iload_n 2, 1) := by decide +kernel
theorem dX12_one_9 : decode cX12_one 9 = .ok (.iconst 0, 1) := by decide +kernel
theorem dX12_one_10 : decode cX12_one 10 = .ok (.bipush 7, 2) := by decide +kernel
theorem dX12_one_12 : decode cX12_one 12 = .ok (.invokestatic 56, 3) := by decide +kernel
theorem dX12_one_15 : decode cX12_one 15 = .ok (.ifCond .ne 5, 3) := by decide +kernel
theorem dX12_one_18 : decode cX12_one 18 = .ok (.iconst (-1), 1) := by decide +kernel
theorem dX12_one_19 : decode cX12_one 19 = .ok (.ireturn, 1) := by decide +kernel
theorem dX12_one_20 : decode cX12_one 20 = .ok (.iload_n 2, 1) := by decide +kernel
theorem dX12_one_21 : decode cX12_one 21 = .ok (.tableswitch 128 2 7 #[39, 48, 59, 70, 102, 111], 39) := by decide +kernel
theorem dX12_one_60 : decode cX12_one 60 = .ok (.aload_n 0, 1) := by decide +kernel
theorem dX12_one_61 : decode cX12_one 61 = .ok (.getfield 9, 3) := by decide +kernel
theorem dX12_one_64 : decode cX12_one 64 = .ok (.iload_n 1, 1) := by decide +kernel
theorem dX12_one_65 : decode cX12_one 65 = .ok (.invokestatic 72, 3) := by decide +kernel
theorem dX12_one_68 : decode cX12_one 68 = .ok (.ireturn, 1) := by decide +kernel
theorem dX12_one_69 : decode cX12_one 69 = .ok (.aload_n 0, 1) := by decide +kernel
theorem dX12_one_70 : decode cX12_one 70 = .ok (.getfield 9, 3) := by decide +kernel
theorem dX12_one_73 : decode cX12_one 73 = .ok (.iload_n 1, 1) := by decide +kernel
theorem dX12_one_74 : decode cX12_one 74 = .ok (.iconst 2, 1) := by decide +kernel
theorem dX12_one_75 : decode cX12_one 75 = .ok (.invokestatic 64, 3) := by decide +kernel
theorem dX12_one_78 : decode cX12_one 78 = .ok (.iaload, 1) := by decide +kernel
theorem dX12_one_79 : decode cX12_one 79 = .ok (.ireturn, 1) := by decide +kernel
theorem dX12_one_80 : decode cX12_one 80 = .ok (.aload_n 0, 1) := by decide +kernel
theorem dX12_one_81 : decode cX12_one 81 = .ok (.getfield 9, 3) := by decide +kernel
theorem dX12_one_84 : decode cX12_one 84 = .ok (.iconst 2, 1) := by decide +kernel
theorem dX12_one_85 : decode cX12_one 85 = .ok (.iaload, 1) := by decide +kernel
theorem dX12_one_86 : decode cX12_one 86 = .ok (.iload_n 1, 1) := by decide +kernel
theorem dX12_one_87 : decode cX12_one 87 = .ok (.ishr, 1) := by decide +kernel
theorem dX12_one_88 : decode cX12_one 88 = .ok (.iconst 1, 1) := by decide +kernel
theorem dX12_one_89 : decode cX12_one 89 = .ok (.iand, 1) := by decide +kernel
theorem dX12_one_90 : decode cX12_one 90 = .ok (.ireturn, 1) := by decide +kernel
theorem dX12_one_91 : decode cX12_one 91 = .ok (.aload_n 0, 1) := by decide +kernel
theorem dX12_one_92 : decode cX12_one 92 = .ok (.getfield 9, 3) := by decide +kernel
theorem dX12_one_95 : decode cX12_one 95 = .ok (.iload_n 1, 1) := by decide +kernel
theorem dX12_one_96 : decode cX12_one 96 = .ok (.iconst 0, 1) := by decide +kernel
theorem dX12_one_97 : decode cX12_one 97 = .ok (.invokestatic 64, 3) := by decide +kernel
theorem dX12_one_100 : decode cX12_one 100 = .ok (.iaload, 1) := by decide +kernel
theorem dX12_one_101 : decode cX12_one 101 = .ok (.aload_n 0, 1) := by decide +kernel
theorem dX12_one_102 : decode cX12_one 102 = .ok (.getfield 9, 3) := by decide +kernel
theorem dX12_one_105 : decode cX12_one 105 = .ok (.iload_n 1, 1) := by decide +kernel
theorem dX12_one_106 : decode cX12_one 106 = .ok (.iconst 1, 1) := by decide +kernel
theorem dX12_one_107 : decode cX12_one 107 = .ok (.invokestatic 64, 3) := by decide +kernel
theorem dX12_one_110 : decode cX12_one 110 = .ok (.iaload, 1) := by decide +kernel
theorem dX12_one_111 : decode cX12_one 111 = .ok (.aload_n 0, 1) := by decide +kernel
theorem dX12_one_112 : decode cX12_one 112 = .ok (.getfield 9, 3) := by decide +kernel
theorem dX12_one_115 : decode cX12_one 115 = .ok (.iconst 1, 1) := by decide +kernel
theorem dX12_one_116 : decode cX12_one 116 = .ok (.iaload, 1) := by decide +kernel
theorem dX12_one_117 : decode cX12_one 117 = .ok (.iconst 1, 1) := by decide +kernel
theorem dX12_one_118 : decode cX12_one 118 = .ok (.iadd, 1) := by decide +kernel
theorem dX12_one_119 : decode cX12_one 119 = .ok (.invokestatic 76, 3) := by decide +kernel
theorem dX12_one_122 : decode cX12_one 122 = .ok (.ireturn, 1) := by decide +kernel
theorem dX12_one_123 : decode cX12_one 123 = .ok (.aload_n 0, 1) := by decide +kernel
theorem dX12_one_124 : decode cX12_one 124 = .ok (.getfield 9, 3) := by decide +kernel
theorem dX12_one_127 : decode cX12_one 127 = .ok (.iload_n 1, 1) := by decide +kernel
theorem dX12_one_128 : decode cX12_one 128 = .ok (.invokestatic 148, 3) := by decide +kernel
theorem dX12_one_131 : decode cX12_one 131 = .ok (.ireturn, 1) := by decide +kernel
theorem dX12_one_132 : decode cX12_one 132 = .ok (.aload_n 0, 1) := by decide +kernel
theorem dX12_one_133 : decode cX12_one 133 = .ok (.getfield 9, 3) := by decide +kernel
theorem dX12_one_136 : decode cX12_one 136 = .ok (.iload_n 1, 1) := by decide +kernel
theorem dX12_one_137 : decode cX12_one 137 = .ok (.invokestatic 151, 3) := by decide +kernel
theorem dX12_one_140 : decode cX12_one 140 = .ok (.ifCond .eq 7, 3) := by decide +kernel
theorem dX12_one_143 : decode cX12_one 143 = .ok (.iconst 1, 1) := by decide +kernel
theorem dX12_one_144 : decode cX12_one 144 = .ok (.goto 4, 3) := by decide +kernel
theorem dX12_one_147 : decode cX12_one 147 = .ok (.iconst 0, 1) := by decide +kernel
theorem dX12_one_148 : decode cX12_one 148 = .ok (.ireturn, 1) := by decide +kernel
theorem dX12_one_149 : decode cX12_one 149 = .ok (.aload_n 0, 1) := by decide +kernel
theorem dX12_one_150 : decode cX12_one 150 = .ok (.getfield 9, 3) := by decide +kernel
theorem dX12_one_153 : decode cX12_one 153 = .ok (.iload_n 1, 1) := by decide +kernel
theorem dX12_one_154 : decode cX12_one 154 = .ok (.iload_n 2, 1) := by decide +kernel
theorem dX12_one_155 : decode cX12_one 155 = .ok (.invokestatic 64, 3) := by decide +kernel
theorem dX12_one_158 : decode cX12_one 158 = .ok (.iaload, 1) := by decide +kernel
theorem dX12_one_159 : decode cX12_one 159 = .ok (.ireturn, 1) := by decide +kernel
theorem dX12_comes_0 : decode cX12_comes 0 = .ok (.aload_n 0, 1) := by decide +kernel
theorem dX12_comes_1 : decode cX12_comes 1 = .ok (.iload_n 1, 1) := by decide +kernel
theorem dX12_comes_2 : decode cX12_comes 2 = .ok (.invokevirtual 154, 3) := by decide +kernel
theorem dX12_comes_5 : decode cX12_comes 5 = .ok (.istore_n 2, 1) := by decide +kernel
theorem dX12_comes_6 : decode cX12_comes 6 = .ok (.iload_n 2, 1) := by decide +kernel
theorem dX12_comes_7 : decode cX12_comes 7 = .ok (.ifCond .eq 5, 3) := by decide +kernel
theorem dX12_comes_10 : decode cX12_comes 10 = .ok (.iload_n 2, 1) := by decide +kernel
theorem dX12_comes_11 : decode cX12_comes 11 = .ok (.ireturn, 1) := by decide +kernel
theorem dX12_comes_12 : decode cX12_comes 12 = .ok (.aload_n 0, 1) := by decide +kernel
theorem dX12_comes_13 : decode cX12_comes 13 = .ok (.getfield 9, 3) := by decide +kernel
theorem dX12_comes_16 : decode cX12_comes 16 = .ok (.iconst 0, 1) := by decide +kernel
theorem dX12_comes_17 : decode cX12_comes 17 = .ok (.iaload, 1) := by decide +kernel
theorem dX12_comes_18 : decode cX12_comes 18 = .ok (.bipush 9, 2) := by decide +kernel
theorem dX12_comes_20 : decode cX12_comes 20 = .ok (.if_icmp .ne 6, 3) := by decide +kernel
theorem dX12_comes_23 : decode cX12_comes 23 = .ok (.bipush (-2), 2) := by decide +kernel
theorem dX12_comes_25 : decode cX12_comes 25 = .ok (.ireturn, 1) := by decide +kernel
theorem dX12_comes_26 : decode cX12_comes 26 = .ok (.aload_n 0, 1) := by decide +kernel
theorem dX12_comes_27 : decode cX12_comes 27 = .ok (.aload_n 0, 1) := by decide +kernel
theorem dX12_comes_28 : decode cX12_comes 28 = .ok (.getfield 41, 3) := by decide +kernel
theorem dX12_comes_31 : decode cX12_comes 31 = .ok (.iload_n 1, 1) := by decide +kernel
theorem dX12_comes_32 : decode cX12_comes 32 = .ok (.iaload, 1) := by decide +kernel
theorem dX12_comes_33 : decode cX12_comes 33 = .ok (.aload_n 0, 1) := by decide +kernel
theorem dX12_comes_34 : decode cX12_comes 34 = .ok (.getfield 44, 3) := by decide +kernel
theorem dX12_comes_37 : decode cX12_comes 37 = .ok (.iload_n 1, 1) := by decide +kernel
theorem dX12_comes_38 : decode cX12_comes 38 = .ok (.iaload, 1) := by decide +kernel
theorem dX12_comes_39 : decode cX12_comes 39 = .ok (.invokevirtual 116, 3) := by decide +kernel
theorem dX12_comes_42 : decode cX12_comes 42 = .ok (.aload_n 0, 1) := by decide +kernel
theorem dX12_comes_43 : decode cX12_comes 43 = .ok (.getfield 9, 3) := by decide +kernel
theorem dX12_comes_46 : decode cX12_comes 46 = .ok (.iconst 0, 1) := by decide +kernel
theorem dX12_comes_47 : decode cX12_comes 47 = .ok (.iaload, 1) := by decide +kernel
theorem dX12_comes_48 : decode cX12_comes 48 = .ok (.iconst 1, 1) := by decide +kernel
theorem dX12_comes_49 : decode cX12_comes 49 = .ok (.isub, 1) := by decide +kernel
theorem dX12_comes_50 : decode cX12_comes 50 = .ok (.ireturn, 1) := by decide +kernel
theorem dX12_line_0 : decode cX12_line 0 = .ok (.aload_n 0, 1) := by decide +kernel
theorem dX12_line_1 : decode cX12_line 1 = .ok (.iload_n 1, 1) := by decide +kernel
theorem dX12_line_2 : decode cX12_line 2 = .ok (.iload_n 2, 1) := by decide +kernel
theorem dX12_line_3 : decode cX12_line 3 = .ok (.invokevirtual 120, 3) := by decide +kernel
theorem dX12_line_6 : decode cX12_line 6 = .ok (.ifCond .ne 5, 3) := by decide +kernel
theorem dX12_line_9 : decode cX12_line 9 = .ok (.iconst (-1), 1) := by decide +kernel
theorem dX12_line_10 : decode cX12_line 10 = .ok (.ireturn, 1) := by decide +kernel
theorem dX12_line_11 : decode cX12_line 11 = .ok (.aload_n 0, 1) := by decide +kernel
theorem dX12_line_12 : decode cX12_line 12 = .ok (.getfield 9, 3) := by decide +kernel
theorem dX12_line_15 : decode cX12_line 15 = .ok (.iload_n 1, 1) := by decide +kernel
theorem dX12_line_16 : decode cX12_line 16 = .ok (.iload_n 2, 1) := by decide +kernel
theorem dX12_line_17 : decode cX12_line 17 = .ok (.invokestatic 123, 3) := by decide +kernel
theorem dX12_line_20 : decode cX12_line 20 = .ok (.aload_n 0, 1) := by decide +kernel
theorem dX12_line_21 : decode cX12_line 21 = .ok (.getfield 9, 3) := by decide +kernel
theorem dX12_line_24 : decode cX12_line 24 = .ok (.iload_n 1, 1) := by decide +kernel
theorem dX12_line_25 : decode cX12_line 25 = .ok (.iconst 2, 1) := by decide +kernel
theorem dX12_line_26 : decode cX12_line 26 = .ok (.invokestatic 64, 3) := by decide +kernel
theorem dX12_line_29 : decode cX12_line 29 = .ok (.iaload, 1) := by decide +kernel
theorem dX12_line_30 : decode cX12_line 30 = .ok (.iload_n 2, 1) := by decide +kernel
theorem dX12_line_31 : decode cX12_line 31 = .ok (.ishr, 1) := by decide +kernel
theorem dX12_line_32 : decode cX12_line 32 = .ok (.iconst 1, 1) := by decide +kernel
theorem dX12_line_33 : decode cX12_line 33 = .ok (.iand, 1) := by decide +kernel
theorem dX12_line_34 : decode cX12_line 34 = .ok (.ireturn, 1) := by decide +kernel
theorem dX12_told_0 : decode cX12_told 0 = .ok (.aload_n 0, 1) := by decide +kernel
theorem dX12_told_1 : decode cX12_told 1 = .ok (.iload_n 1, 1) := by decide +kernel
theorem dX12_told_2 : decode cX12_told 2 = .ok (.invokevirtual 60, 3) := by decide +kernel
theorem dX12_told_5 : decode cX12_told 5 = .ok (.ifCond .ne 5, 3) := by decide +kernel
theorem dX12_told_8 : decode cX12_told 8 = .ok (.iconst (-1), 1) := by decide +kernel
theorem dX12_told_9 : decode cX12_told 9 = .ok (.ireturn, 1) := by decide +kernel
theorem dX12_told_10 : decode cX12_told 10 = .ok (.aload_n 0, 1) := by decide +kernel
theorem dX12_told_11 : decode cX12_told 11 = .ok (.getfield 9, 3) := by decide +kernel
theorem dX12_told_14 : decode cX12_told 14 = .ok (.iload_n 1, 1) := by decide +kernel
theorem dX12_told_15 : decode cX12_told 15 = .ok (.invokestatic 84, 3) := by decide +kernel
theorem dX12_told_18 : decode cX12_told 18 = .ok (.ifCond .eq 6, 3) := by decide +kernel
theorem dX12_told_21 : decode cX12_told 21 = .ok (.bipush (-3), 2) := by decide +kernel
theorem dX12_told_23 : decode cX12_told 23 = .ok (.ireturn, 1) := by decide +kernel
theorem dX12_told_24 : decode cX12_told 24 = .ok (.aload_n 0, 1) := by decide +kernel
theorem dX12_told_25 : decode cX12_told 25 = .ok (.getfield 9, 3) := by decide +kernel
theorem dX12_told_28 : decode cX12_told 28 = .ok (.iconst 2, 1) := by decide +kernel
theorem dX12_told_29 : decode cX12_told 29 = .ok (.dup2, 1) := by decide +kernel
theorem dX12_told_30 : decode cX12_told 30 = .ok (.iaload, 1) := by decide +kernel
theorem dX12_told_31 : decode cX12_told 31 = .ok (.iconst 1, 1) := by decide +kernel
theorem dX12_told_32 : decode cX12_told 32 = .ok (.iload_n 1, 1) := by decide +kernel
theorem dX12_told_33 : decode cX12_told 33 = .ok (.ishl, 1) := by decide +kernel
theorem dX12_told_34 : decode cX12_told 34 = .ok (.ixor, 1) := by decide +kernel
theorem dX12_told_35 : decode cX12_told 35 = .ok (.iastore, 1) := by decide +kernel
theorem dX12_told_36 : decode cX12_told 36 = .ok (.aload_n 0, 1) := by decide +kernel
theorem dX12_told_37 : decode cX12_told 37 = .ok (.getfield 9, 3) := by decide +kernel
theorem dX12_told_40 : decode cX12_told 40 = .ok (.iconst 2, 1) := by decide +kernel
theorem dX12_told_41 : decode cX12_told 41 = .ok (.iaload, 1) := by decide +kernel
theorem dX12_told_42 : decode cX12_told 42 = .ok (.iload_n 1, 1) := by decide +kernel
theorem dX12_told_43 : decode cX12_told 43 = .ok (.ishr, 1) := by decide +kernel
theorem dX12_told_44 : decode cX12_told 44 = .ok (.iconst 1, 1) := by decide +kernel
theorem dX12_told_45 : decode cX12_told 45 = .ok (.iand, 1) := by decide +kernel
theorem dX12_told_46 : decode cX12_told 46 = .ok (.ireturn, 1) := by decide +kernel
theorem dX12_days_0 : decode cX12_days 0 = .ok (.iload_n 1, 1) := by decide +kernel
theorem dX12_days_1 : decode cX12_days 1 = .ok (.iconst 1, 1) := by decide +kernel
theorem dX12_days_2 : decode cX12_days 2 = .ok (.bipush 60, 2) := by decide +kernel
theorem dX12_days_4 : decode cX12_days 4 = .ok (.invokestatic 56, 3) := by decide +kernel
theorem dX12_days_7 : decode cX12_days 7 = .ok (.ifCond .ne 5, 3) := by decide +kernel
theorem dX12_days_10 : decode cX12_days 10 = .ok (.iconst (-1), 1) := by decide +kernel
theorem dX12_days_11 : decode cX12_days 11 = .ok (.ireturn, 1) := by decide +kernel
theorem dX12_days_12 : decode cX12_days 12 = .ok (.aload_n 0, 1) := by decide +kernel
theorem dX12_days_13 : decode cX12_days 13 = .ok (.getfield 9, 3) := by decide +kernel
theorem dX12_days_16 : decode cX12_days 16 = .ok (.iconst 1, 1) := by decide +kernel
theorem dX12_days_17 : decode cX12_days 17 = .ok (.iaload, 1) := by decide +kernel
theorem dX12_days_18 : decode cX12_days 18 = .ok (.iload_n 1, 1) := by decide +kernel
theorem dX12_days_19 : decode cX12_days 19 = .ok (.iadd, 1) := by decide +kernel
theorem dX12_days_20 : decode cX12_days 20 = .ok (.sipush 999, 3) := by decide +kernel
theorem dX12_days_23 : decode cX12_days 23 = .ok (.if_icmp .le 6, 3) := by decide +kernel
theorem dX12_days_26 : decode cX12_days 26 = .ok (.bipush (-3), 2) := by decide +kernel
theorem dX12_days_28 : decode cX12_days 28 = .ok (.ireturn, 1) := by decide +kernel
theorem dX12_days_29 : decode cX12_days 29 = .ok (.aload_n 0, 1) := by decide +kernel
theorem dX12_days_30 : decode cX12_days 30 = .ok (.getfield 9, 3) := by decide +kernel
theorem dX12_days_33 : decode cX12_days 33 = .ok (.iload_n 1, 1) := by decide +kernel
theorem dX12_days_34 : decode cX12_days 34 = .ok (.invokestatic 131, 3) := by decide +kernel
theorem dX12_days_37 : decode cX12_days 37 = .ok (.aload_n 0, 1) := by decide +kernel
theorem dX12_days_38 : decode cX12_days 38 = .ok (.getfield 9, 3) := by decide +kernel
theorem dX12_days_41 : decode cX12_days 41 = .ok (.iconst 2, 1) := by decide +kernel
theorem dX12_days_42 : decode cX12_days 42 = .ok (.iaload, 1) := by decide +kernel
theorem dX12_days_43 : decode cX12_days 43 = .ok (.invokestatic 68, 3) := by decide +kernel
theorem dX12_days_46 : decode cX12_days 46 = .ok (.ireturn, 1) := by decide +kernel
theorem dX12_gcd_0 : decode cX12_gcd 0 = .ok (.lload_n 0, 1) := by decide +kernel
theorem dX12_gcd_1 : decode cX12_gcd 1 = .ok (.lstore 4, 2) := by decide +kernel
theorem dX12_gcd_3 : decode cX12_gcd 3 = .ok (.lload_n 2, 1) := by decide +kernel
theorem dX12_gcd_4 : decode cX12_gcd 4 = .ok (.lstore 6, 2) := by decide +kernel
theorem dX12_gcd_6 : decode cX12_gcd 6 = .ok (.lload 6, 2) := by decide +kernel
theorem dX12_gcd_8 : decode cX12_gcd 8 = .ok (.lconst 0, 1) := by decide +kernel
theorem dX12_gcd_9 : decode cX12_gcd 9 = .ok (.lcmp, 1) := by decide +kernel
theorem dX12_gcd_10 : decode cX12_gcd 10 = .ok (.ifCond .eq 21, 3) := by decide +kernel
theorem dX12_gcd_13 : decode cX12_gcd 13 = .ok (.lload 4, 2) := by decide +kernel
theorem dX12_gcd_15 : decode cX12_gcd 15 = .ok (.lload 6, 2) := by decide +kernel
theorem dX12_gcd_17 : decode cX12_gcd 17 = .ok (.lrem, 1) := by decide +kernel
theorem dX12_gcd_18 : decode cX12_gcd 18 = .ok (.lstore 8, 2) := by decide +kernel
theorem dX12_gcd_20 : decode cX12_gcd 20 = .ok (.lload 6, 2) := by decide +kernel
theorem dX12_gcd_22 : decode cX12_gcd 22 = .ok (.lstore 4, 2) := by decide +kernel
theorem dX12_gcd_24 : decode cX12_gcd 24 = .ok (.lload 8, 2) := by decide +kernel
theorem dX12_gcd_26 : decode cX12_gcd 26 = .ok (.lstore 6, 2) := by decide +kernel
theorem dX12_gcd_28 : decode cX12_gcd 28 = .ok (.goto (-22), 3) := by decide +kernel
theorem dX12_gcd_31 : decode cX12_gcd 31 = .ok (.lload 4, 2) := by decide +kernel
theorem dX12_gcd_33 : decode cX12_gcd 33 = .ok (.lreturn, 1) := by decide +kernel
theorem dX12_partOf_0 : decode cX12_partOf 0 = .ok (.lload_n 0, 1) := by decide +kernel
theorem dX12_partOf_1 : decode cX12_partOf 1 = .ok (.lconst 0, 1) := by decide +kernel
theorem dX12_partOf_2 : decode cX12_partOf 2 = .ok (.lcmp, 1) := by decide +kernel
theorem dX12_partOf_3 : decode cX12_partOf 3 = .ok (.ifCond .ne 7, 3) := by decide +kernel
theorem dX12_partOf_6 : decode cX12_partOf 6 = .ok (.iload 4, 2) := by decide +kernel
theorem dX12_partOf_8 : decode cX12_partOf 8 = .ok (.i2l, 1) := by decide +kernel
theorem dX12_partOf_9 : decode cX12_partOf 9 = .ok (.lreturn, 1) := by decide +kernel
theorem dX12_partOf_10 : decode cX12_partOf 10 = .ok (.iload 4, 2) := by decide +kernel
theorem dX12_partOf_12 : decode cX12_partOf 12 = .ok (.ifCond .ne 7, 3) := by decide +kernel
theorem dX12_partOf_15 : decode cX12_partOf 15 = .ok (.lload_n 0, 1) := by decide +kernel
theorem dX12_partOf_16 : decode cX12_partOf 16 = .ok (.goto 4, 3) := by decide +kernel
theorem dX12_partOf_19 : decode cX12_partOf 19 = .ok (.lload_n 2, 1) := by decide +kernel
theorem dX12_partOf_20 : decode cX12_partOf 20 = .ok (.lload_n 0, 1) := by decide +kernel
theorem dX12_partOf_21 : decode cX12_partOf 21 = .ok (.lload_n 2, 1) := by decide +kernel
theorem dX12_partOf_22 : decode cX12_partOf 22 = .ok (.invokestatic 157, 3) := by decide +kernel
theorem dX12_partOf_25 : decode cX12_partOf 25 = .ok (.ldiv, 1) := by decide +kernel
theorem dX12_partOf_26 : decode cX12_partOf 26 = .ok (.lreturn, 1) := by decide +kernel
theorem dX12_mean_0 : decode cX12_mean 0 = .ok (.iload_n 1, 1) := by decide +kernel
theorem dX12_mean_1 : decode cX12_mean 1 = .ok (.iconst 0, 1) := by decide +kernel
theorem dX12_mean_2 : decode cX12_mean 2 = .ok (.iconst 1, 1) := by decide +kernel
theorem dX12_mean_3 : decode cX12_mean 3 = .ok (.invokestatic 56, 3) := by decide +kernel
theorem dX12_mean_6 : decode cX12_mean 6 = .ok (.ifCond .eq 29, 3) := by decide +kernel
theorem dX12_mean_9 : decode cX12_mean 9 = .ok (.ldc2_w 161, 3) := by decide +kernel
theorem dX12_mean_12 : decode cX12_mean 12 = .ok (.aload_n 0, 1) := by decide +kernel
theorem dX12_mean_13 : decode cX12_mean 13 = .ok (.getfield 9, 3) := by decide +kernel
theorem dX12_mean_16 : decode cX12_mean 16 = .ok (.invokestatic 163, 3) := by decide +kernel
theorem dX12_mean_19 : decode cX12_mean 19 = .ok (.i2l, 1) := by decide +kernel
theorem dX12_mean_20 : decode cX12_mean 20 = .ok (.lmul, 1) := by decide +kernel
theorem dX12_mean_21 : decode cX12_mean 21 = .ok (.aload_n 0, 1) := by decide +kernel
theorem dX12_mean_22 : decode cX12_mean 22 = .ok (.getfield 9, 3) := by decide +kernel
theorem dX12_mean_25 : decode cX12_mean 25 = .ok (.iconst 0, 1) := by decide +kernel
theorem dX12_mean_26 : decode cX12_mean 26 = .ok (.iaload, 1) := by decide +kernel
theorem dX12_mean_27 : decode cX12_mean 27 = .ok (.i2l, 1) := by decide +kernel
theorem dX12_mean_28 : decode cX12_mean 28 = .ok (.iload_n 1, 1) := by decide +kernel
theorem dX12_mean_29 : decode cX12_mean 29 = .ok (.invokestatic 167, 3) := by decide +kernel
theorem dX12_mean_32 : decode cX12_mean 32 = .ok (.goto 6, 3) := by decide +kernel
theorem dX12_mean_35 : decode cX12_mean 35 = .ok (.ldc2_w 171, 3) := by decide +kernel
theorem dX12_mean_38 : decode cX12_mean 38 = .ok (.lreturn, 1) := by decide +kernel
theorem dX12_knownSum_0 : decode cX12_knownSum 0 = .ok (.iconst 0, 1) := by decide +kernel
theorem dX12_knownSum_1 : decode cX12_knownSum 1 = .ok (.istore_n 2, 1) := by decide +kernel
theorem dX12_knownSum_2 : decode cX12_knownSum 2 = .ok (.iconst 0, 1) := by decide +kernel
theorem dX12_knownSum_3 : decode cX12_knownSum 3 = .ok (.istore_n 3, 1) := by decide +kernel
theorem dX12_knownSum_4 : decode cX12_knownSum 4 = .ok (.iload_n 3, 1) := by decide +kernel
theorem dX12_knownSum_5 : decode cX12_knownSum 5 = .ok (.aload_n 0, 1) := by decide +kernel
theorem dX12_knownSum_6 : decode cX12_knownSum 6 = .ok (.iconst 0, 1) := by decide +kernel
theorem dX12_knownSum_7 : decode cX12_knownSum 7 = .ok (.iaload, 1) := by decide +kernel
theorem dX12_knownSum_8 : decode cX12_knownSum 8 = .ok (.if_icmp .ge 35, 3) := by decide +kernel
theorem dX12_knownSum_11 : decode cX12_knownSum 11 = .ok (.iload_n 2, 1) := by decide +kernel
theorem dX12_knownSum_12 : decode cX12_knownSum 12 = .ok (.aload_n 0, 1) := by decide +kernel
theorem dX12_knownSum_13 : decode cX12_knownSum 13 = .ok (.iload_n 1, 1) := by decide +kernel
theorem dX12_knownSum_14 : decode cX12_knownSum 14 = .ok (.iconst 2, 1) := by decide +kernel
theorem dX12_knownSum_15 : decode cX12_knownSum 15 = .ok (.invokestatic 64, 3) := by decide +kernel
theorem dX12_knownSum_18 : decode cX12_knownSum 18 = .ok (.iaload, 1) := by decide +kernel
theorem dX12_knownSum_19 : decode cX12_knownSum 19 = .ok (.iload_n 3, 1) := by decide +kernel
theorem dX12_knownSum_20 : decode cX12_knownSum 20 = .ok (.invokestatic 80, 3) := by decide +kernel
theorem dX12_knownSum_23 : decode cX12_knownSum 23 = .ok (.ifCond .eq 11, 3) := by decide +kernel
theorem dX12_knownSum_26 : decode cX12_knownSum 26 = .ok (.aload_n 0, 1) := by decide +kernel
theorem dX12_knownSum_27 : decode cX12_knownSum 27 = .ok (.iload_n 3, 1) := by decide +kernel
theorem dX12_knownSum_28 : decode cX12_knownSum 28 = .ok (.invokestatic 72, 3) := by decide +kernel
theorem dX12_knownSum_31 : decode cX12_knownSum 31 = .ok (.goto 4, 3) := by decide +kernel
theorem dX12_knownSum_34 : decode cX12_knownSum 34 = .ok (.iconst 0, 1) := by decide +kernel
theorem dX12_knownSum_35 : decode cX12_knownSum 35 = .ok (.iadd, 1) := by decide +kernel
theorem dX12_knownSum_36 : decode cX12_knownSum 36 = .ok (.istore_n 2, 1) := by decide +kernel
theorem dX12_knownSum_37 : decode cX12_knownSum 37 = .ok (.iinc 3 1, 3) := by decide +kernel
theorem dX12_knownSum_40 : decode cX12_knownSum 40 = .ok (.goto (-36), 3) := by decide +kernel
theorem dX12_knownSum_43 : decode cX12_knownSum 43 = .ok (.iload_n 2, 1) := by decide +kernel
theorem dX12_knownSum_44 : decode cX12_knownSum 44 = .ok (.ireturn, 1) := by decide +kernel
theorem dX12_known_0 : decode cX12_known 0 = .ok (.iload_n 1, 1) := by decide +kernel
theorem dX12_known_1 : decode cX12_known 1 = .ok (.iconst 0, 1) := by decide +kernel
theorem dX12_known_2 : decode cX12_known 2 = .ok (.iconst 1, 1) := by decide +kernel
theorem dX12_known_3 : decode cX12_known 3 = .ok (.invokestatic 56, 3) := by decide +kernel
theorem dX12_known_6 : decode cX12_known 6 = .ok (.ifCond .eq 12, 3) := by decide +kernel
theorem dX12_known_9 : decode cX12_known 9 = .ok (.iload_n 2, 1) := by decide +kernel
theorem dX12_known_10 : decode cX12_known 10 = .ok (.iconst 0, 1) := by decide +kernel
theorem dX12_known_11 : decode cX12_known 11 = .ok (.iconst 1, 1) := by decide +kernel
theorem dX12_known_12 : decode cX12_known 12 = .ok (.invokestatic 56, 3) := by decide +kernel
theorem dX12_known_15 : decode cX12_known 15 = .ok (.ifCond .ne 7, 3) := by decide +kernel
theorem dX12_known_18 : decode cX12_known 18 = .ok (.ldc2_w 171, 3) := by decide +kernel
theorem dX12_known_21 : decode cX12_known 21 = .ok (.lreturn, 1) := by decide +kernel
theorem dX12_known_22 : decode cX12_known 22 = .ok (.lconst 0, 1) := by decide +kernel
theorem dX12_known_23 : decode cX12_known 23 = .ok (.lstore_n 3, 1) := by decide +kernel
theorem dX12_known_24 : decode cX12_known 24 = .ok (.lconst 0, 1) := by decide +kernel
theorem dX12_known_25 : decode cX12_known 25 = .ok (.lstore 5, 2) := by decide +kernel
theorem dX12_known_27 : decode cX12_known 27 = .ok (.iconst 0, 1) := by decide +kernel
theorem dX12_known_28 : decode cX12_known 28 = .ok (.istore 7, 2) := by decide +kernel
theorem dX12_known_30 : decode cX12_known 30 = .ok (.iload 7, 2) := by decide +kernel
theorem dX12_known_32 : decode cX12_known 32 = .ok (.aload_n 0, 1) := by decide +kernel
theorem dX12_known_33 : decode cX12_known 33 = .ok (.getfield 9, 3) := by decide +kernel
theorem dX12_known_36 : decode cX12_known 36 = .ok (.iconst 0, 1) := by decide +kernel
theorem dX12_known_37 : decode cX12_known 37 = .ok (.iaload, 1) := by decide +kernel
theorem dX12_known_38 : decode cX12_known 38 = .ok (.if_icmp .ge 69, 3) := by decide +kernel
theorem dX12_known_41 : decode cX12_known 41 = .ok (.aload_n 0, 1) := by decide +kernel
theorem dX12_known_42 : decode cX12_known 42 = .ok (.getfield 9, 3) := by decide +kernel
theorem dX12_known_45 : decode cX12_known 45 = .ok (.iload 7, 2) := by decide +kernel
theorem dX12_known_47 : decode cX12_known 47 = .ok (.invokestatic 72, 3) := by decide +kernel
theorem dX12_known_50 : decode cX12_known 50 = .ok (.istore 8, 2) := by decide +kernel
theorem dX12_known_52 : decode cX12_known 52 = .ok (.iload 8, 2) := by decide +kernel
theorem dX12_known_54 : decode cX12_known 54 = .ok (.ifCond .ne 6, 3) := by decide +kernel
theorem dX12_known_57 : decode cX12_known 57 = .ok (.goto 44, 3) := by decide +kernel
theorem dX12_known_60 : decode cX12_known 60 = .ok (.lload_n 3, 1) := by decide +kernel
theorem dX12_known_61 : decode cX12_known 61 = .ok (.iload_n 1, 1) := by decide +kernel
theorem dX12_known_62 : decode cX12_known 62 = .ok (.ifCond .ne 13, 3) := by decide +kernel
theorem dX12_known_65 : decode cX12_known 65 = .ok (.iload 8, 2) := by decide +kernel
theorem dX12_known_67 : decode cX12_known 67 = .ok (.i2l, 1) := by decide +kernel
theorem dX12_known_68 : decode cX12_known 68 = .ok (.iload 8, 2) := by decide +kernel
theorem dX12_known_70 : decode cX12_known 70 = .ok (.i2l, 1) := by decide +kernel
theorem dX12_known_71 : decode cX12_known 71 = .ok (.lmul, 1) := by decide +kernel
theorem dX12_known_72 : decode cX12_known 72 = .ok (.goto 21, 3) := by decide +kernel
theorem dX12_known_75 : decode cX12_known 75 = .ok (.ldc2_w 173, 3) := by decide +kernel
theorem dX12_known_78 : decode cX12_known 78 = .ok (.aload_n 0, 1) := by decide +kernel
theorem dX12_known_79 : decode cX12_known 79 = .ok (.getfield 9, 3) := by decide +kernel
theorem dX12_known_82 : decode cX12_known 82 = .ok (.iload 7, 2) := by decide +kernel
theorem dX12_known_84 : decode cX12_known 84 = .ok (.invokestatic 175, 3) := by decide +kernel
theorem dX12_known_87 : decode cX12_known 87 = .ok (.i2l, 1) := by decide +kernel
theorem dX12_known_88 : decode cX12_known 88 = .ok (.lmul, 1) := by decide +kernel
theorem dX12_known_89 : decode cX12_known 89 = .ok (.iload 8, 2) := by decide +kernel
theorem dX12_known_91 : decode cX12_known 91 = .ok (.i2l, 1) := by decide +kernel
theorem dX12_known_92 : decode cX12_known 92 = .ok (.ldiv, 1) := by decide +kernel
theorem dX12_known_93 : decode cX12_known 93 = .ok (.ladd, 1) := by decide +kernel
theorem dX12_known_94 : decode cX12_known 94 = .ok (.lstore_n 3, 1) := by decide +kernel
theorem dX12_known_95 : decode cX12_known 95 = .ok (.lload 5, 2) := by decide +kernel
theorem dX12_known_97 : decode cX12_known 97 = .ok (.lconst 1, 1) := by decide +kernel
theorem dX12_known_98 : decode cX12_known 98 = .ok (.ladd, 1) := by decide +kernel
theorem dX12_known_99 : decode cX12_known 99 = .ok (.lstore 5, 2) := by decide +kernel
theorem dX12_known_101 : decode cX12_known 101 = .ok (.iinc 7 1, 3) := by decide +kernel
theorem dX12_known_104 : decode cX12_known 104 = .ok (.goto (-74), 3) := by decide +kernel
theorem dX12_known_107 : decode cX12_known 107 = .ok (.lload_n 3, 1) := by decide +kernel
theorem dX12_known_108 : decode cX12_known 108 = .ok (.iload_n 1, 1) := by decide +kernel
theorem dX12_known_109 : decode cX12_known 109 = .ok (.ifCond .ne 18, 3) := by decide +kernel
theorem dX12_known_112 : decode cX12_known 112 = .ok (.ldc2_w 161, 3) := by decide +kernel
theorem dX12_known_115 : decode cX12_known 115 = .ok (.aload_n 0, 1) := by decide +kernel
theorem dX12_known_116 : decode cX12_known 116 = .ok (.getfield 9, 3) := by decide +kernel
theorem dX12_known_119 : decode cX12_known 119 = .ok (.invokestatic 163, 3) := by decide +kernel
theorem dX12_known_122 : decode cX12_known 122 = .ok (.i2l, 1) := by decide +kernel
theorem dX12_known_123 : decode cX12_known 123 = .ok (.lmul, 1) := by decide +kernel
theorem dX12_known_124 : decode cX12_known 124 = .ok (.goto 9, 3) := by decide +kernel
theorem dX12_known_127 : decode cX12_known 127 = .ok (.ldc2_w 173, 3) := by decide +kernel
theorem dX12_known_130 : decode cX12_known 130 = .ok (.lload 5, 2) := by decide +kernel
theorem dX12_known_132 : decode cX12_known 132 = .ok (.lmul, 1) := by decide +kernel
theorem dX12_known_133 : decode cX12_known 133 = .ok (.iload_n 2, 1) := by decide +kernel
theorem dX12_known_134 : decode cX12_known 134 = .ok (.invokestatic 167, 3) := by decide +kernel
theorem dX12_known_137 : decode cX12_known 137 = .ok (.lreturn, 1) := by decide +kernel
theorem dX12_feelsIt_0 : decode cX12_feelsIt 0 = .ok (.aload_n 0, 1) := by decide +kernel
theorem dX12_feelsIt_1 : decode cX12_feelsIt 1 = .ok (.iload_n 1, 1) := by decide +kernel
theorem dX12_feelsIt_2 : decode cX12_feelsIt 2 = .ok (.invokestatic 72, 3) := by decide +kernel
theorem dX12_feelsIt_5 : decode cX12_feelsIt 5 = .ok (.istore_n 2, 1) := by decide +kernel
theorem dX12_feelsIt_6 : decode cX12_feelsIt 6 = .ok (.iload_n 2, 1) := by decide +kernel
theorem dX12_feelsIt_7 : decode cX12_feelsIt 7 = .ok (.ifCond .le 18, 3) := by decide +kernel
theorem dX12_feelsIt_10 : decode cX12_feelsIt 10 = .ok (.iload_n 2, 1) := by decide +kernel
theorem dX12_feelsIt_11 : decode cX12_feelsIt 11 = .ok (.iload_n 2, 1) := by decide +kernel
theorem dX12_feelsIt_12 : decode cX12_feelsIt 12 = .ok (.imul, 1) := by decide +kernel
theorem dX12_feelsIt_13 : decode cX12_feelsIt 13 = .ok (.aload_n 0, 1) := by decide +kernel
theorem dX12_feelsIt_14 : decode cX12_feelsIt 14 = .ok (.iload_n 1, 1) := by decide +kernel
theorem dX12_feelsIt_15 : decode cX12_feelsIt 15 = .ok (.invokestatic 175, 3) := by decide +kernel
theorem dX12_feelsIt_18 : decode cX12_feelsIt 18 = .ok (.if_icmp .ge 7, 3) := by decide +kernel
theorem dX12_feelsIt_21 : decode cX12_feelsIt 21 = .ok (.iconst 1, 1) := by decide +kernel
theorem dX12_feelsIt_22 : decode cX12_feelsIt 22 = .ok (.goto 4, 3) := by decide +kernel
theorem dX12_feelsIt_25 : decode cX12_feelsIt 25 = .ok (.iconst 0, 1) := by decide +kernel
theorem dX12_feelsIt_26 : decode cX12_feelsIt 26 = .ok (.ireturn, 1) := by decide +kernel
theorem dX12_feelsIn_0 : decode cX12_feelsIn 0 = .ok (.iconst 0, 1) := by decide +kernel
theorem dX12_feelsIn_1 : decode cX12_feelsIn 1 = .ok (.istore_n 1, 1) := by decide +kernel
theorem dX12_feelsIn_2 : decode cX12_feelsIn 2 = .ok (.iconst 0, 1) := by decide +kernel
theorem dX12_feelsIn_3 : decode cX12_feelsIn 3 = .ok (.istore_n 2, 1) := by decide +kernel
theorem dX12_feelsIn_4 : decode cX12_feelsIn 4 = .ok (.iload_n 2, 1) := by decide +kernel
theorem dX12_feelsIn_5 : decode cX12_feelsIn 5 = .ok (.aload_n 0, 1) := by decide +kernel
theorem dX12_feelsIn_6 : decode cX12_feelsIn 6 = .ok (.iconst 0, 1) := by decide +kernel
theorem dX12_feelsIn_7 : decode cX12_feelsIn 7 = .ok (.iaload, 1) := by decide +kernel
theorem dX12_feelsIn_8 : decode cX12_feelsIn 8 = .ok (.if_icmp .ge 27, 3) := by decide +kernel
theorem dX12_feelsIn_11 : decode cX12_feelsIn 11 = .ok (.iload_n 1, 1) := by decide +kernel
theorem dX12_feelsIn_12 : decode cX12_feelsIn 12 = .ok (.aload_n 0, 1) := by decide +kernel
theorem dX12_feelsIn_13 : decode cX12_feelsIn 13 = .ok (.iload_n 2, 1) := by decide +kernel
theorem dX12_feelsIn_14 : decode cX12_feelsIn 14 = .ok (.invokestatic 151, 3) := by decide +kernel
theorem dX12_feelsIn_17 : decode cX12_feelsIn 17 = .ok (.ifCond .eq 9, 3) := by decide +kernel
theorem dX12_feelsIn_20 : decode cX12_feelsIn 20 = .ok (.iconst 1, 1) := by decide +kernel
theorem dX12_feelsIn_21 : decode cX12_feelsIn 21 = .ok (.iload_n 2, 1) := by decide +kernel
theorem dX12_feelsIn_22 : decode cX12_feelsIn 22 = .ok (.ishl, 1) := by decide +kernel
theorem dX12_feelsIn_23 : decode cX12_feelsIn 23 = .ok (.goto 4, 3) := by decide +kernel
theorem dX12_feelsIn_26 : decode cX12_feelsIn 26 = .ok (.iconst 0, 1) := by decide +kernel
theorem dX12_feelsIn_27 : decode cX12_feelsIn 27 = .ok (.ior, 1) := by decide +kernel
theorem dX12_feelsIn_28 : decode cX12_feelsIn 28 = .ok (.istore_n 1, 1) := by decide +kernel
theorem dX12_feelsIn_29 : decode cX12_feelsIn 29 = .ok (.iinc 2 1, 3) := by decide +kernel
theorem dX12_feelsIn_32 : decode cX12_feelsIn 32 = .ok (.goto (-28), 3) := by decide +kernel
theorem dX12_feelsIn_35 : decode cX12_feelsIn 35 = .ok (.iload_n 1, 1) := by decide +kernel
theorem dX12_feelsIn_36 : decode cX12_feelsIn 36 = .ok (.ireturn, 1) := by decide +kernel
theorem dX12_feels_0 : decode cX12_feels 0 = .ok (.aload_n 0, 1) := by decide +kernel
theorem dX12_feels_1 : decode cX12_feels 1 = .ok (.getfield 9, 3) := by decide +kernel
theorem dX12_feels_4 : decode cX12_feels 4 = .ok (.invokestatic 178, 3) := by decide +kernel
theorem dX12_feels_7 : decode cX12_feels 7 = .ok (.ireturn, 1) := by decide +kernel
theorem dX12_fall_0 : decode cX12_fall 0 = .ok (.iload_n 1, 1) := by decide +kernel
theorem dX12_fall_1 : decode cX12_fall 1 = .ok (.iconst 0, 1) := by decide +kernel
theorem dX12_fall_2 : decode cX12_fall 2 = .ok (.iconst 1, 1) := by decide +kernel
theorem dX12_fall_3 : decode cX12_fall 3 = .ok (.invokestatic 56, 3) := by decide +kernel
theorem dX12_fall_6 : decode cX12_fall 6 = .ok (.ifCond .ne 5, 3) := by decide +kernel
theorem dX12_fall_9 : decode cX12_fall 9 = .ok (.iconst (-1), 1) := by decide +kernel
theorem dX12_fall_10 : decode cX12_fall 10 = .ok (.ireturn, 1) := by decide +kernel
theorem dX12_fall_11 : decode cX12_fall 11 = .ok (.aload_n 0, 1) := by decide +kernel
theorem dX12_fall_12 : decode cX12_fall 12 = .ok (.getfield 9, 3) := by decide +kernel
theorem dX12_fall_15 : decode cX12_fall 15 = .ok (.invokestatic 178, 3) := by decide +kernel
theorem dX12_fall_18 : decode cX12_fall 18 = .ok (.invokestatic 68, 3) := by decide +kernel
theorem dX12_fall_21 : decode cX12_fall 21 = .ok (.istore_n 2, 1) := by decide +kernel
theorem dX12_fall_22 : decode cX12_fall 22 = .ok (.bipush (-4), 2) := by decide +kernel
theorem dX12_fall_24 : decode cX12_fall 24 = .ok (.istore_n 3, 1) := by decide +kernel
theorem dX12_fall_25 : decode cX12_fall 25 = .ok (.iconst 0, 1) := by decide +kernel
theorem dX12_fall_26 : decode cX12_fall 26 = .ok (.istore 4, 2) := by decide +kernel
theorem dX12_fall_28 : decode cX12_fall 28 = .ok (.iload 4, 2) := by decide +kernel
theorem dX12_fall_30 : decode cX12_fall 30 = .ok (.aload_n 0, 1) := by decide +kernel
theorem dX12_fall_31 : decode cX12_fall 31 = .ok (.getfield 9, 3) := by decide +kernel
theorem dX12_fall_34 : decode cX12_fall 34 = .ok (.iconst 0, 1) := by decide +kernel
theorem dX12_fall_35 : decode cX12_fall 35 = .ok (.iaload, 1) := by decide +kernel
theorem dX12_fall_36 : decode cX12_fall 36 = .ok (.if_icmp .ge 119, 3) := by decide +kernel
theorem dX12_fall_39 : decode cX12_fall 39 = .ok (.iload 4, 2) := by decide +kernel
theorem dX12_fall_41 : decode cX12_fall 41 = .ok (.iconst 1, 1) := by decide +kernel
theorem dX12_fall_42 : decode cX12_fall 42 = .ok (.iadd, 1) := by decide +kernel
theorem dX12_fall_43 : decode cX12_fall 43 = .ok (.istore 5, 2) := by decide +kernel
theorem dX12_fall_45 : decode cX12_fall 45 = .ok (.iload 5, 2) := by decide +kernel
theorem dX12_fall_47 : decode cX12_fall 47 = .ok (.aload_n 0, 1) := by decide +kernel
theorem dX12_fall_48 : decode cX12_fall 48 = .ok (.getfield 9, 3) := by decide +kernel
theorem dX12_fall_51 : decode cX12_fall 51 = .ok (.iconst 0, 1) := by decide +kernel
theorem dX12_fall_52 : decode cX12_fall 52 = .ok (.iaload, 1) := by decide +kernel
theorem dX12_fall_53 : decode cX12_fall 53 = .ok (.if_icmp .ge 96, 3) := by decide +kernel
theorem dX12_fall_56 : decode cX12_fall 56 = .ok (.aload_n 0, 1) := by decide +kernel
theorem dX12_fall_57 : decode cX12_fall 57 = .ok (.getfield 9, 3) := by decide +kernel
theorem dX12_fall_60 : decode cX12_fall 60 = .ok (.iload 4, 2) := by decide +kernel
theorem dX12_fall_62 : decode cX12_fall 62 = .ok (.iconst 2, 1) := by decide +kernel
theorem dX12_fall_63 : decode cX12_fall 63 = .ok (.invokestatic 64, 3) := by decide +kernel
theorem dX12_fall_66 : decode cX12_fall 66 = .ok (.iaload, 1) := by decide +kernel
theorem dX12_fall_67 : decode cX12_fall 67 = .ok (.iload 5, 2) := by decide +kernel
theorem dX12_fall_69 : decode cX12_fall 69 = .ok (.invokestatic 80, 3) := by decide +kernel
theorem dX12_fall_72 : decode cX12_fall 72 = .ok (.iload_n 1, 1) := by decide +kernel
theorem dX12_fall_73 : decode cX12_fall 73 = .ok (.iconst 1, 1) := by decide +kernel
theorem dX12_fall_74 : decode cX12_fall 74 = .ok (.if_icmp .ne 7, 3) := by decide +kernel
theorem dX12_fall_77 : decode cX12_fall 77 = .ok (.iconst 1, 1) := by decide +kernel
theorem dX12_fall_78 : decode cX12_fall 78 = .ok (.goto 4, 3) := by decide +kernel
theorem dX12_fall_81 : decode cX12_fall 81 = .ok (.iconst 0, 1) := by decide +kernel
theorem dX12_fall_82 : decode cX12_fall 82 = .ok (.if_icmp .ne 6, 3) := by decide +kernel
theorem dX12_fall_85 : decode cX12_fall 85 = .ok (.goto 58, 3) := by decide +kernel
theorem dX12_fall_88 : decode cX12_fall 88 = .ok (.aload_n 0, 1) := by decide +kernel
theorem dX12_fall_89 : decode cX12_fall 89 = .ok (.getfield 9, 3) := by decide +kernel
theorem dX12_fall_92 : decode cX12_fall 92 = .ok (.aload_n 0, 1) := by decide +kernel
theorem dX12_fall_93 : decode cX12_fall 93 = .ok (.getfield 13, 3) := by decide +kernel
theorem dX12_fall_96 : decode cX12_fall 96 = .ok (.invokestatic 141, 3) := by decide +kernel
theorem dX12_fall_99 : decode cX12_fall 99 = .ok (.aload_n 0, 1) := by decide +kernel
theorem dX12_fall_100 : decode cX12_fall 100 = .ok (.getfield 13, 3) := by decide +kernel
theorem dX12_fall_103 : decode cX12_fall 103 = .ok (.iload 4, 2) := by decide +kernel
theorem dX12_fall_105 : decode cX12_fall 105 = .ok (.iload 5, 2) := by decide +kernel
theorem dX12_fall_107 : decode cX12_fall 107 = .ok (.invokestatic 123, 3) := by decide +kernel
theorem dX12_fall_110 : decode cX12_fall 110 = .ok (.aload_n 0, 1) := by decide +kernel
theorem dX12_fall_111 : decode cX12_fall 111 = .ok (.getfield 13, 3) := by decide +kernel
theorem dX12_fall_114 : decode cX12_fall 114 = .ok (.invokestatic 178, 3) := by decide +kernel
theorem dX12_fall_117 : decode cX12_fall 117 = .ok (.invokestatic 68, 3) := by decide +kernel
theorem dX12_fall_120 : decode cX12_fall 120 = .ok (.istore 6, 2) := by decide +kernel
theorem dX12_fall_122 : decode cX12_fall 122 = .ok (.iload 6, 2) := by decide +kernel
theorem dX12_fall_124 : decode cX12_fall 124 = .ok (.iload_n 2, 1) := by decide +kernel
theorem dX12_fall_125 : decode cX12_fall 125 = .ok (.if_icmp .lt 6, 3) := by decide +kernel
theorem dX12_fall_128 : decode cX12_fall 128 = .ok (.goto 15, 3) := by decide +kernel
theorem dX12_fall_131 : decode cX12_fall 131 = .ok (.bipush 10, 2) := by decide +kernel
theorem dX12_fall_133 : decode cX12_fall 133 = .ok (.iload 4, 2) := by decide +kernel
theorem dX12_fall_135 : decode cX12_fall 135 = .ok (.imul, 1) := by decide +kernel
theorem dX12_fall_136 : decode cX12_fall 136 = .ok (.iload 5, 2) := by decide +kernel
theorem dX12_fall_138 : decode cX12_fall 138 = .ok (.iadd, 1) := by decide +kernel
theorem dX12_fall_139 : decode cX12_fall 139 = .ok (.istore_n 3, 1) := by decide +kernel
theorem dX12_fall_140 : decode cX12_fall 140 = .ok (.iload 6, 2) := by decide +kernel
theorem dX12_fall_142 : decode cX12_fall 142 = .ok (.istore_n 2, 1) := by decide +kernel
theorem dX12_fall_143 : decode cX12_fall 143 = .ok (.iinc 5 1, 3) := by decide +kernel
theorem dX12_fall_146 : decode cX12_fall 146 = .ok (.goto (-101), 3) := by decide +kernel
theorem dX12_fall_149 : decode cX12_fall 149 = .ok (.iinc 4 1, 3) := by decide +kernel
theorem dX12_fall_152 : decode cX12_fall 152 = .ok (.goto (-124), 3) := by decide +kernel
theorem dX12_fall_155 : decode cX12_fall 155 = .ok (.iload_n 3, 1) := by decide +kernel
theorem dX12_fall_156 : decode cX12_fall 156 = .ok (.ireturn, 1) := by decide +kernel
theorem dX12_around_0 : decode cX12_around 0 = .ok (.iload_n 1, 1) := by decide +kernel
theorem dX12_around_1 : decode cX12_around 1 = .ok (.istore_n 2, 1) := by decide +kernel
theorem dX12_around_2 : decode cX12_around 2 = .ok (.iconst 0, 1) := by decide +kernel
theorem dX12_around_3 : decode cX12_around 3 = .ok (.istore_n 3, 1) := by decide +kernel
theorem dX12_around_4 : decode cX12_around 4 = .ok (.iload_n 3, 1) := by decide +kernel
theorem dX12_around_5 : decode cX12_around 5 = .ok (.aload_n 0, 1) := by decide +kernel
theorem dX12_around_6 : decode cX12_around 6 = .ok (.iconst 0, 1) := by decide +kernel
theorem dX12_around_7 : decode cX12_around 7 = .ok (.iaload, 1) := by decide +kernel
theorem dX12_around_8 : decode cX12_around 8 = .ok (.if_icmp .ge 27, 3) := by decide +kernel
theorem dX12_around_11 : decode cX12_around 11 = .ok (.iload_n 1, 1) := by decide +kernel
theorem dX12_around_12 : decode cX12_around 12 = .ok (.iload_n 3, 1) := by decide +kernel
theorem dX12_around_13 : decode cX12_around 13 = .ok (.invokestatic 80, 3) := by decide +kernel
theorem dX12_around_16 : decode cX12_around 16 = .ok (.ifCond .eq 13, 3) := by decide +kernel
theorem dX12_around_19 : decode cX12_around 19 = .ok (.iload_n 2, 1) := by decide +kernel
theorem dX12_around_20 : decode cX12_around 20 = .ok (.aload_n 0, 1) := by decide +kernel
theorem dX12_around_21 : decode cX12_around 21 = .ok (.iload_n 3, 1) := by decide +kernel
theorem dX12_around_22 : decode cX12_around 22 = .ok (.iconst 2, 1) := by decide +kernel
theorem dX12_around_23 : decode cX12_around 23 = .ok (.invokestatic 64, 3) := by decide +kernel
theorem dX12_around_26 : decode cX12_around 26 = .ok (.iaload, 1) := by decide +kernel
theorem dX12_around_27 : decode cX12_around 27 = .ok (.ior, 1) := by decide +kernel
theorem dX12_around_28 : decode cX12_around 28 = .ok (.istore_n 2, 1) := by decide +kernel
theorem dX12_around_29 : decode cX12_around 29 = .ok (.iinc 3 1, 3) := by decide +kernel
theorem dX12_around_32 : decode cX12_around 32 = .ok (.goto (-28), 3) := by decide +kernel
theorem dX12_around_35 : decode cX12_around 35 = .ok (.iload_n 2, 1) := by decide +kernel
theorem dX12_around_36 : decode cX12_around 36 = .ok (.ireturn, 1) := by decide +kernel
theorem dX12_farOf_0 : decode cX12_farOf 0 = .ok (.iconst 1, 1) := by decide +kernel
theorem dX12_farOf_1 : decode cX12_farOf 1 = .ok (.iload_n 1, 1) := by decide +kernel
theorem dX12_farOf_2 : decode cX12_farOf 2 = .ok (.ishl, 1) := by decide +kernel
theorem dX12_farOf_3 : decode cX12_farOf 3 = .ok (.istore_n 3, 1) := by decide +kernel
theorem dX12_farOf_4 : decode cX12_farOf 4 = .ok (.iconst 0, 1) := by decide +kernel
theorem dX12_farOf_5 : decode cX12_farOf 5 = .ok (.istore 4, 2) := by decide +kernel
theorem dX12_farOf_7 : decode cX12_farOf 7 = .ok (.iload 4, 2) := by decide +kernel
theorem dX12_farOf_9 : decode cX12_farOf 9 = .ok (.bipush 9, 2) := by decide +kernel
theorem dX12_farOf_11 : decode cX12_farOf 11 = .ok (.if_icmp .gt 29, 3) := by decide +kernel
theorem dX12_farOf_14 : decode cX12_farOf 14 = .ok (.iload_n 3, 1) := by decide +kernel
theorem dX12_farOf_15 : decode cX12_farOf 15 = .ok (.iload_n 2, 1) := by decide +kernel
theorem dX12_farOf_16 : decode cX12_farOf 16 = .ok (.invokestatic 80, 3) := by decide +kernel
theorem dX12_farOf_19 : decode cX12_farOf 19 = .ok (.ifCond .eq 6, 3) := by decide +kernel
theorem dX12_farOf_22 : decode cX12_farOf 22 = .ok (.iload 4, 2) := by decide +kernel
theorem dX12_farOf_24 : decode cX12_farOf 24 = .ok (.ireturn, 1) := by decide +kernel
theorem dX12_farOf_25 : decode cX12_farOf 25 = .ok (.aload_n 0, 1) := by decide +kernel
theorem dX12_farOf_26 : decode cX12_farOf 26 = .ok (.getfield 9, 3) := by decide +kernel
theorem dX12_farOf_29 : decode cX12_farOf 29 = .ok (.iload_n 3, 1) := by decide +kernel
theorem dX12_farOf_30 : decode cX12_farOf 30 = .ok (.invokestatic 181, 3) := by decide +kernel
theorem dX12_farOf_33 : decode cX12_farOf 33 = .ok (.istore_n 3, 1) := by decide +kernel
theorem dX12_farOf_34 : decode cX12_farOf 34 = .ok (.iinc 4 1, 3) := by decide +kernel
theorem dX12_farOf_37 : decode cX12_farOf 37 = .ok (.goto (-30), 3) := by decide +kernel
theorem dX12_farOf_40 : decode cX12_farOf 40 = .ok (.bipush (-4), 2) := by decide +kernel
theorem dX12_farOf_42 : decode cX12_farOf 42 = .ok (.ireturn, 1) := by decide +kernel
theorem dX12_far_0 : decode cX12_far 0 = .ok (.aload_n 0, 1) := by decide +kernel
theorem dX12_far_1 : decode cX12_far 1 = .ok (.iload_n 1, 1) := by decide +kernel
theorem dX12_far_2 : decode cX12_far 2 = .ok (.invokevirtual 60, 3) := by decide +kernel
theorem dX12_far_5 : decode cX12_far 5 = .ok (.ifCond .eq 20, 3) := by decide +kernel
theorem dX12_far_8 : decode cX12_far 8 = .ok (.aload_n 0, 1) := by decide +kernel
theorem dX12_far_9 : decode cX12_far 9 = .ok (.iload_n 2, 1) := by decide +kernel
theorem dX12_far_10 : decode cX12_far 10 = .ok (.invokevirtual 60, 3) := by decide +kernel
theorem dX12_far_13 : decode cX12_far 13 = .ok (.ifCond .eq 12, 3) := by decide +kernel
theorem dX12_far_16 : decode cX12_far 16 = .ok (.aload_n 0, 1) := by decide +kernel
theorem dX12_far_17 : decode cX12_far 17 = .ok (.iload_n 1, 1) := by decide +kernel
theorem dX12_far_18 : decode cX12_far 18 = .ok (.iload_n 2, 1) := by decide +kernel
theorem dX12_far_19 : decode cX12_far 19 = .ok (.invokevirtual 184, 3) := by decide +kernel
theorem dX12_far_22 : decode cX12_far 22 = .ok (.goto 4, 3) := by decide +kernel
theorem dX12_far_25 : decode cX12_far 25 = .ok (.iconst (-1), 1) := by decide +kernel
theorem dX12_far_26 : decode cX12_far 26 = .ok (.ireturn, 1) := by decide +kernel
theorem dX12_partsIn_0 : decode cX12_partsIn 0 = .ok (.iconst 1, 1) := by decide +kernel
theorem dX12_partsIn_1 : decode cX12_partsIn 1 = .ok (.aload_n 0, 1) := by decide +kernel
theorem dX12_partsIn_2 : decode cX12_partsIn 2 = .ok (.iconst 0, 1) := by decide +kernel
theorem dX12_partsIn_3 : decode cX12_partsIn 3 = .ok (.iaload, 1) := by decide +kernel
theorem dX12_partsIn_4 : decode cX12_partsIn 4 = .ok (.ishl, 1) := by decide +kernel
theorem dX12_partsIn_5 : decode cX12_partsIn 5 = .ok (.iconst 1, 1) := by decide +kernel
theorem dX12_partsIn_6 : decode cX12_partsIn 6 = .ok (.isub, 1) := by decide +kernel
theorem dX12_partsIn_7 : decode cX12_partsIn 7 = .ok (.istore_n 1, 1) := by decide +kernel
theorem dX12_partsIn_8 : decode cX12_partsIn 8 = .ok (.iconst 0, 1) := by decide +kernel
theorem dX12_partsIn_9 : decode cX12_partsIn 9 = .ok (.istore_n 2, 1) := by decide +kernel
theorem dX12_partsIn_10 : decode cX12_partsIn 10 = .ok (.iconst 0, 1) := by decide +kernel
theorem dX12_partsIn_11 : decode cX12_partsIn 11 = .ok (.istore_n 3, 1) := by decide +kernel
theorem dX12_partsIn_12 : decode cX12_partsIn 12 = .ok (.iload_n 3, 1) := by decide +kernel
theorem dX12_partsIn_13 : decode cX12_partsIn 13 = .ok (.aload_n 0, 1) := by decide +kernel
theorem dX12_partsIn_14 : decode cX12_partsIn 14 = .ok (.iconst 0, 1) := by decide +kernel
theorem dX12_partsIn_15 : decode cX12_partsIn 15 = .ok (.iaload, 1) := by decide +kernel
theorem dX12_partsIn_16 : decode cX12_partsIn 16 = .ok (.if_icmp .ge 59, 3) := by decide +kernel
theorem dX12_partsIn_19 : decode cX12_partsIn 19 = .ok (.iload_n 1, 1) := by decide +kernel
theorem dX12_partsIn_20 : decode cX12_partsIn 20 = .ok (.iload_n 3, 1) := by decide +kernel
theorem dX12_partsIn_21 : decode cX12_partsIn 21 = .ok (.invokestatic 80, 3) := by decide +kernel
theorem dX12_partsIn_24 : decode cX12_partsIn 24 = .ok (.ifCond .ne 6, 3) := by decide +kernel
theorem dX12_partsIn_27 : decode cX12_partsIn 27 = .ok (.goto 42, 3) := by decide +kernel
theorem dX12_partsIn_30 : decode cX12_partsIn 30 = .ok (.iconst 1, 1) := by decide +kernel
theorem dX12_partsIn_31 : decode cX12_partsIn 31 = .ok (.iload_n 3, 1) := by decide +kernel
theorem dX12_partsIn_32 : decode cX12_partsIn 32 = .ok (.ishl, 1) := by decide +kernel
theorem dX12_partsIn_33 : decode cX12_partsIn 33 = .ok (.istore 4, 2) := by decide +kernel
theorem dX12_partsIn_35 : decode cX12_partsIn 35 = .ok (.iconst 0, 1) := by decide +kernel
theorem dX12_partsIn_36 : decode cX12_partsIn 36 = .ok (.istore 5, 2) := by decide +kernel
theorem dX12_partsIn_38 : decode cX12_partsIn 38 = .ok (.iload 5, 2) := by decide +kernel
theorem dX12_partsIn_40 : decode cX12_partsIn 40 = .ok (.bipush 9, 2) := by decide +kernel
theorem dX12_partsIn_42 : decode cX12_partsIn 42 = .ok (.if_icmp .ge 17, 3) := by decide +kernel
theorem dX12_partsIn_45 : decode cX12_partsIn 45 = .ok (.aload_n 0, 1) := by decide +kernel
theorem dX12_partsIn_46 : decode cX12_partsIn 46 = .ok (.iload 4, 2) := by decide +kernel
theorem dX12_partsIn_48 : decode cX12_partsIn 48 = .ok (.invokestatic 181, 3) := by decide +kernel
theorem dX12_partsIn_51 : decode cX12_partsIn 51 = .ok (.istore 4, 2) := by decide +kernel
theorem dX12_partsIn_53 : decode cX12_partsIn 53 = .ok (.iinc 5 1, 3) := by decide +kernel
theorem dX12_partsIn_56 : decode cX12_partsIn 56 = .ok (.goto (-18), 3) := by decide +kernel
theorem dX12_partsIn_59 : decode cX12_partsIn 59 = .ok (.iload_n 1, 1) := by decide +kernel
theorem dX12_partsIn_60 : decode cX12_partsIn 60 = .ok (.iload 4, 2) := by decide +kernel
theorem dX12_partsIn_62 : decode cX12_partsIn 62 = .ok (.iconst (-1), 1) := by decide +kernel
theorem dX12_partsIn_63 : decode cX12_partsIn 63 = .ok (.ixor, 1) := by decide +kernel
theorem dX12_partsIn_64 : decode cX12_partsIn 64 = .ok (.iand, 1) := by decide +kernel
theorem dX12_partsIn_65 : decode cX12_partsIn 65 = .ok (.istore_n 1, 1) := by decide +kernel
theorem dX12_partsIn_66 : decode cX12_partsIn 66 = .ok (.iinc 2 1, 3) := by decide +kernel
theorem dX12_partsIn_69 : decode cX12_partsIn 69 = .ok (.iinc 3 1, 3) := by decide +kernel
theorem dX12_partsIn_72 : decode cX12_partsIn 72 = .ok (.goto (-60), 3) := by decide +kernel
theorem dX12_partsIn_75 : decode cX12_partsIn 75 = .ok (.iload_n 2, 1) := by decide +kernel
theorem dX12_partsIn_76 : decode cX12_partsIn 76 = .ok (.ireturn, 1) := by decide +kernel
theorem dX12_widest_0 : decode cX12_widest 0 = .ok (.iconst 0, 1) := by decide +kernel
theorem dX12_widest_1 : decode cX12_widest 1 = .ok (.istore_n 1, 1) := by decide +kernel
theorem dX12_widest_2 : decode cX12_widest 2 = .ok (.iconst 0, 1) := by decide +kernel
theorem dX12_widest_3 : decode cX12_widest 3 = .ok (.istore_n 2, 1) := by decide +kernel
theorem dX12_widest_4 : decode cX12_widest 4 = .ok (.iload_n 2, 1) := by decide +kernel
theorem dX12_widest_5 : decode cX12_widest 5 = .ok (.aload_n 0, 1) := by decide +kernel
theorem dX12_widest_6 : decode cX12_widest 6 = .ok (.getfield 9, 3) := by decide +kernel
theorem dX12_widest_9 : decode cX12_widest 9 = .ok (.iconst 0, 1) := by decide +kernel
theorem dX12_widest_10 : decode cX12_widest 10 = .ok (.iaload, 1) := by decide +kernel
theorem dX12_widest_11 : decode cX12_widest 11 = .ok (.if_icmp .ge 48, 3) := by decide +kernel
theorem dX12_widest_14 : decode cX12_widest 14 = .ok (.iconst 0, 1) := by decide +kernel
theorem dX12_widest_15 : decode cX12_widest 15 = .ok (.istore_n 3, 1) := by decide +kernel
theorem dX12_widest_16 : decode cX12_widest 16 = .ok (.iload_n 3, 1) := by decide +kernel
theorem dX12_widest_17 : decode cX12_widest 17 = .ok (.aload_n 0, 1) := by decide +kernel
theorem dX12_widest_18 : decode cX12_widest 18 = .ok (.getfield 9, 3) := by decide +kernel
theorem dX12_widest_21 : decode cX12_widest 21 = .ok (.iconst 0, 1) := by decide +kernel
theorem dX12_widest_22 : decode cX12_widest 22 = .ok (.iaload, 1) := by decide +kernel
theorem dX12_widest_23 : decode cX12_widest 23 = .ok (.if_icmp .ge 30, 3) := by decide +kernel
theorem dX12_widest_26 : decode cX12_widest 26 = .ok (.aload_n 0, 1) := by decide +kernel
theorem dX12_widest_27 : decode cX12_widest 27 = .ok (.iload_n 2, 1) := by decide +kernel
theorem dX12_widest_28 : decode cX12_widest 28 = .ok (.iload_n 3, 1) := by decide +kernel
theorem dX12_widest_29 : decode cX12_widest 29 = .ok (.invokevirtual 184, 3) := by decide +kernel
theorem dX12_widest_32 : decode cX12_widest 32 = .ok (.iload_n 1, 1) := by decide +kernel
theorem dX12_widest_33 : decode cX12_widest 33 = .ok (.if_icmp .le 12, 3) := by decide +kernel
theorem dX12_widest_36 : decode cX12_widest 36 = .ok (.aload_n 0, 1) := by decide +kernel
theorem dX12_widest_37 : decode cX12_widest 37 = .ok (.iload_n 2, 1) := by decide +kernel
theorem dX12_widest_38 : decode cX12_widest 38 = .ok (.iload_n 3, 1) := by decide +kernel
theorem dX12_widest_39 : decode cX12_widest 39 = .ok (.invokevirtual 184, 3) := by decide +kernel
theorem dX12_widest_42 : decode cX12_widest 42 = .ok (.goto 4, 3) := by decide +kernel
theorem dX12_widest_45 : decode cX12_widest 45 = .ok (.iload_n 1, 1) := by decide +kernel
theorem dX12_widest_46 : decode cX12_widest 46 = .ok (.istore_n 1, 1) := by decide +kernel
theorem dX12_widest_47 : decode cX12_widest 47 = .ok (.iinc 3 1, 3) := by decide +kernel
theorem dX12_widest_50 : decode cX12_widest 50 = .ok (.goto (-34), 3) := by decide +kernel
theorem dX12_widest_53 : decode cX12_widest 53 = .ok (.iinc 2 1, 3) := by decide +kernel
theorem dX12_widest_56 : decode cX12_widest 56 = .ok (.goto (-52), 3) := by decide +kernel
theorem dX12_widest_59 : decode cX12_widest 59 = .ok (.iload_n 1, 1) := by decide +kernel
theorem dX12_widest_60 : decode cX12_widest 60 = .ok (.ireturn, 1) := by decide +kernel
theorem dX12_bridges_0 : decode cX12_bridges 0 = .ok (.iconst 0, 1) := by decide +kernel
theorem dX12_bridges_1 : decode cX12_bridges 1 = .ok (.istore_n 1, 1) := by decide +kernel
theorem dX12_bridges_2 : decode cX12_bridges 2 = .ok (.iconst 0, 1) := by decide +kernel
theorem dX12_bridges_3 : decode cX12_bridges 3 = .ok (.istore_n 2, 1) := by decide +kernel
theorem dX12_bridges_4 : decode cX12_bridges 4 = .ok (.iload_n 2, 1) := by decide +kernel
theorem dX12_bridges_5 : decode cX12_bridges 5 = .ok (.aload_n 0, 1) := by decide +kernel
theorem dX12_bridges_6 : decode cX12_bridges 6 = .ok (.getfield 9, 3) := by decide +kernel
theorem dX12_bridges_9 : decode cX12_bridges 9 = .ok (.iconst 0, 1) := by decide +kernel
theorem dX12_bridges_10 : decode cX12_bridges 10 = .ok (.iaload, 1) := by decide +kernel
theorem dX12_bridges_11 : decode cX12_bridges 11 = .ok (.if_icmp .ge 94, 3) := by decide +kernel
theorem dX12_bridges_14 : decode cX12_bridges 14 = .ok (.iload_n 2, 1) := by decide +kernel
theorem dX12_bridges_15 : decode cX12_bridges 15 = .ok (.iconst 1, 1) := by decide +kernel
theorem dX12_bridges_16 : decode cX12_bridges 16 = .ok (.iadd, 1) := by decide +kernel
theorem dX12_bridges_17 : decode cX12_bridges 17 = .ok (.istore_n 3, 1) := by decide +kernel
theorem dX12_bridges_18 : decode cX12_bridges 18 = .ok (.iload_n 3, 1) := by decide +kernel
theorem dX12_bridges_19 : decode cX12_bridges 19 = .ok (.aload_n 0, 1) := by decide +kernel
theorem dX12_bridges_20 : decode cX12_bridges 20 = .ok (.getfield 9, 3) := by decide +kernel
theorem dX12_bridges_23 : decode cX12_bridges 23 = .ok (.iconst 0, 1) := by decide +kernel
theorem dX12_bridges_24 : decode cX12_bridges 24 = .ok (.iaload, 1) := by decide +kernel
theorem dX12_bridges_25 : decode cX12_bridges 25 = .ok (.if_icmp .ge 74, 3) := by decide +kernel
theorem dX12_bridges_28 : decode cX12_bridges 28 = .ok (.aload_n 0, 1) := by decide +kernel
theorem dX12_bridges_29 : decode cX12_bridges 29 = .ok (.getfield 9, 3) := by decide +kernel
theorem dX12_bridges_32 : decode cX12_bridges 32 = .ok (.iload_n 2, 1) := by decide +kernel
theorem dX12_bridges_33 : decode cX12_bridges 33 = .ok (.iconst 2, 1) := by decide +kernel
theorem dX12_bridges_34 : decode cX12_bridges 34 = .ok (.invokestatic 64, 3) := by decide +kernel
theorem dX12_bridges_37 : decode cX12_bridges 37 = .ok (.iaload, 1) := by decide +kernel
theorem dX12_bridges_38 : decode cX12_bridges 38 = .ok (.iload_n 3, 1) := by decide +kernel
theorem dX12_bridges_39 : decode cX12_bridges 39 = .ok (.invokestatic 80, 3) := by decide +kernel
theorem dX12_bridges_42 : decode cX12_bridges 42 = .ok (.ifCond .ne 6, 3) := by decide +kernel
theorem dX12_bridges_45 : decode cX12_bridges 45 = .ok (.goto 48, 3) := by decide +kernel
theorem dX12_bridges_48 : decode cX12_bridges 48 = .ok (.aload_n 0, 1) := by decide +kernel
theorem dX12_bridges_49 : decode cX12_bridges 49 = .ok (.getfield 9, 3) := by decide +kernel
theorem dX12_bridges_52 : decode cX12_bridges 52 = .ok (.aload_n 0, 1) := by decide +kernel
theorem dX12_bridges_53 : decode cX12_bridges 53 = .ok (.getfield 13, 3) := by decide +kernel
theorem dX12_bridges_56 : decode cX12_bridges 56 = .ok (.invokestatic 141, 3) := by decide +kernel
theorem dX12_bridges_59 : decode cX12_bridges 59 = .ok (.aload_n 0, 1) := by decide +kernel
theorem dX12_bridges_60 : decode cX12_bridges 60 = .ok (.getfield 13, 3) := by decide +kernel
theorem dX12_bridges_63 : decode cX12_bridges 63 = .ok (.iload_n 2, 1) := by decide +kernel
theorem dX12_bridges_64 : decode cX12_bridges 64 = .ok (.iload_n 3, 1) := by decide +kernel
theorem dX12_bridges_65 : decode cX12_bridges 65 = .ok (.invokestatic 123, 3) := by decide +kernel
theorem dX12_bridges_68 : decode cX12_bridges 68 = .ok (.iload_n 1, 1) := by decide +kernel
theorem dX12_bridges_69 : decode cX12_bridges 69 = .ok (.aload_n 0, 1) := by decide +kernel
theorem dX12_bridges_70 : decode cX12_bridges 70 = .ok (.getfield 13, 3) := by decide +kernel
theorem dX12_bridges_73 : decode cX12_bridges 73 = .ok (.invokestatic 187, 3) := by decide +kernel
theorem dX12_bridges_76 : decode cX12_bridges 76 = .ok (.aload_n 0, 1) := by decide +kernel
theorem dX12_bridges_77 : decode cX12_bridges 77 = .ok (.getfield 9, 3) := by decide +kernel
theorem dX12_bridges_80 : decode cX12_bridges 80 = .ok (.invokestatic 187, 3) := by decide +kernel
theorem dX12_bridges_83 : decode cX12_bridges 83 = .ok (.if_icmp .le 7, 3) := by decide +kernel
theorem dX12_bridges_86 : decode cX12_bridges 86 = .ok (.iconst 1, 1) := by decide +kernel
theorem dX12_bridges_87 : decode cX12_bridges 87 = .ok (.goto 4, 3) := by decide +kernel
theorem dX12_bridges_90 : decode cX12_bridges 90 = .ok (.iconst 0, 1) := by decide +kernel
theorem dX12_bridges_91 : decode cX12_bridges 91 = .ok (.iadd, 1) := by decide +kernel
theorem dX12_bridges_92 : decode cX12_bridges 92 = .ok (.istore_n 1, 1) := by decide +kernel
theorem dX12_bridges_93 : decode cX12_bridges 93 = .ok (.iinc 3 1, 3) := by decide +kernel
theorem dX12_bridges_96 : decode cX12_bridges 96 = .ok (.goto (-78), 3) := by decide +kernel
theorem dX12_bridges_99 : decode cX12_bridges 99 = .ok (.iinc 2 1, 3) := by decide +kernel
theorem dX12_bridges_102 : decode cX12_bridges 102 = .ok (.goto (-98), 3) := by decide +kernel
theorem dX12_bridges_105 : decode cX12_bridges 105 = .ok (.iload_n 1, 1) := by decide +kernel
theorem dX12_bridges_106 : decode cX12_bridges 106 = .ok (.ireturn, 1) := by decide +kernel
theorem dX12_wide_0 : decode cX12_wide 0 = .ok (.iload_n 1, 1) := by decide +kernel
theorem dX12_wide_1 : decode cX12_wide 1 = .ok (.ifCond .ne 10, 3) := by decide +kernel
theorem dX12_wide_4 : decode cX12_wide 4 = .ok (.aload_n 0, 1) := by decide +kernel
theorem dX12_wide_5 : decode cX12_wide 5 = .ok (.invokevirtual 190, 3) := by decide +kernel
theorem dX12_wide_8 : decode cX12_wide 8 = .ok (.goto 31, 3) := by decide +kernel
theorem dX12_wide_11 : decode cX12_wide 11 = .ok (.iload_n 1, 1) := by decide +kernel
theorem dX12_wide_12 : decode cX12_wide 12 = .ok (.iconst 1, 1) := by decide +kernel
theorem dX12_wide_13 : decode cX12_wide 13 = .ok (.if_icmp .ne 13, 3) := by decide +kernel
theorem dX12_wide_16 : decode cX12_wide 16 = .ok (.aload_n 0, 1) := by decide +kernel
theorem dX12_wide_17 : decode cX12_wide 17 = .ok (.getfield 9, 3) := by decide +kernel
theorem dX12_wide_20 : decode cX12_wide 20 = .ok (.invokestatic 187, 3) := by decide +kernel
theorem dX12_wide_23 : decode cX12_wide 23 = .ok (.goto 16, 3) := by decide +kernel
theorem dX12_wide_26 : decode cX12_wide 26 = .ok (.iload_n 1, 1) := by decide +kernel
theorem dX12_wide_27 : decode cX12_wide 27 = .ok (.iconst 2, 1) := by decide +kernel
theorem dX12_wide_28 : decode cX12_wide 28 = .ok (.if_icmp .ne 10, 3) := by decide +kernel
theorem dX12_wide_31 : decode cX12_wide 31 = .ok (.aload_n 0, 1) := by decide +kernel
theorem dX12_wide_32 : decode cX12_wide 32 = .ok (.invokevirtual 193, 3) := by decide +kernel
theorem dX12_wide_35 : decode cX12_wide 35 = .ok (.goto 4, 3) := by decide +kernel
theorem dX12_wide_38 : decode cX12_wide 38 = .ok (.iconst (-1), 1) := by decide +kernel
theorem dX12_wide_39 : decode cX12_wide 39 = .ok (.ireturn, 1) := by decide +kernel
theorem dX12_hearing_0 : decode cX12_hearing 0 = .ok (.iconst 0, 1) := by decide +kernel
theorem dX12_hearing_1 : decode cX12_hearing 1 = .ok (.istore_n 1, 1) := by decide +kernel
theorem dX12_hearing_2 : decode cX12_hearing 2 = .ok (.iconst 0, 1) := by decide +kernel
theorem dX12_hearing_3 : decode cX12_hearing 3 = .ok (.istore_n 2, 1) := by decide +kernel
theorem dX12_hearing_4 : decode cX12_hearing 4 = .ok (.iload_n 2, 1) := by decide +kernel
theorem dX12_hearing_5 : decode cX12_hearing 5 = .ok (.aload_n 0, 1) := by decide +kernel
theorem dX12_hearing_6 : decode cX12_hearing 6 = .ok (.getfield 9, 3) := by decide +kernel
theorem dX12_hearing_9 : decode cX12_hearing 9 = .ok (.iconst 0, 1) := by decide +kernel
theorem dX12_hearing_10 : decode cX12_hearing 10 = .ok (.iaload, 1) := by decide +kernel
theorem dX12_hearing_11 : decode cX12_hearing 11 = .ok (.if_icmp .ge 30, 3) := by decide +kernel
theorem dX12_hearing_14 : decode cX12_hearing 14 = .ok (.iload_n 1, 1) := by decide +kernel
theorem dX12_hearing_15 : decode cX12_hearing 15 = .ok (.aload_n 0, 1) := by decide +kernel
theorem dX12_hearing_16 : decode cX12_hearing 16 = .ok (.getfield 9, 3) := by decide +kernel
theorem dX12_hearing_19 : decode cX12_hearing 19 = .ok (.iload_n 2, 1) := by decide +kernel
theorem dX12_hearing_20 : decode cX12_hearing 20 = .ok (.invokestatic 84, 3) := by decide +kernel
theorem dX12_hearing_23 : decode cX12_hearing 23 = .ok (.ifCond .eq 7, 3) := by decide +kernel
theorem dX12_hearing_26 : decode cX12_hearing 26 = .ok (.iconst 0, 1) := by decide +kernel
theorem dX12_hearing_27 : decode cX12_hearing 27 = .ok (.goto 6, 3) := by decide +kernel
theorem dX12_hearing_30 : decode cX12_hearing 30 = .ok (.iconst 1, 1) := by decide +kernel
theorem dX12_hearing_31 : decode cX12_hearing 31 = .ok (.iload_n 2, 1) := by decide +kernel
theorem dX12_hearing_32 : decode cX12_hearing 32 = .ok (.ishl, 1) := by decide +kernel
theorem dX12_hearing_33 : decode cX12_hearing 33 = .ok (.ior, 1) := by decide +kernel
theorem dX12_hearing_34 : decode cX12_hearing 34 = .ok (.istore_n 1, 1) := by decide +kernel
theorem dX12_hearing_35 : decode cX12_hearing 35 = .ok (.iinc 2 1, 3) := by decide +kernel
theorem dX12_hearing_38 : decode cX12_hearing 38 = .ok (.goto (-34), 3) := by decide +kernel
theorem dX12_hearing_41 : decode cX12_hearing 41 = .ok (.iload_n 1, 1) := by decide +kernel
theorem dX12_hearing_42 : decode cX12_hearing 42 = .ok (.ireturn, 1) := by decide +kernel
theorem dX12_stamps_0 : decode cX12_stamps 0 = .ok (.iload_n 1, 1) := by decide +kernel
theorem dX12_stamps_1 : decode cX12_stamps 1 = .ok (.iconst 1, 1) := by decide +kernel
theorem dX12_stamps_2 : decode cX12_stamps 2 = .ok (.iconst 4, 1) := by decide +kernel
theorem dX12_stamps_3 : decode cX12_stamps 3 = .ok (.invokestatic 56, 3) := by decide +kernel
theorem dX12_stamps_6 : decode cX12_stamps 6 = .ok (.ifCond .eq 22, 3) := by decide +kernel
theorem dX12_stamps_9 : decode cX12_stamps 9 = .ok (.iload_n 2, 1) := by decide +kernel
theorem dX12_stamps_10 : decode cX12_stamps 10 = .ok (.iconst 0, 1) := by decide +kernel
theorem dX12_stamps_11 : decode cX12_stamps 11 = .ok (.bipush 30, 2) := by decide +kernel
theorem dX12_stamps_13 : decode cX12_stamps 13 = .ok (.invokestatic 56, 3) := by decide +kernel
theorem dX12_stamps_16 : decode cX12_stamps 16 = .ok (.ifCond .eq 12, 3) := by decide +kernel
theorem dX12_stamps_19 : decode cX12_stamps 19 = .ok (.iload_n 3, 1) := by decide +kernel
theorem dX12_stamps_20 : decode cX12_stamps 20 = .ok (.iconst 0, 1) := by decide +kernel
theorem dX12_stamps_21 : decode cX12_stamps 21 = .ok (.iconst 1, 1) := by decide +kernel
theorem dX12_stamps_22 : decode cX12_stamps 22 = .ok (.invokestatic 56, 3) := by decide +kernel
theorem dX12_stamps_25 : decode cX12_stamps 25 = .ok (.ifCond .ne 5, 3) := by decide +kernel
theorem dX12_stamps_28 : decode cX12_stamps 28 = .ok (.iconst (-1), 1) := by decide +kernel
theorem dX12_stamps_29 : decode cX12_stamps 29 = .ok (.ireturn, 1) := by decide +kernel
theorem dX12_stamps_30 : decode cX12_stamps 30 = .ok (.iconst 0, 1) := by decide +kernel
theorem dX12_stamps_31 : decode cX12_stamps 31 = .ok (.istore 4, 2) := by decide +kernel
theorem dX12_stamps_33 : decode cX12_stamps 33 = .ok (.iconst (-1), 1) := by decide +kernel
theorem dX12_stamps_34 : decode cX12_stamps 34 = .ok (.istore 5, 2) := by decide +kernel
theorem dX12_stamps_36 : decode cX12_stamps 36 = .ok (.iconst 0, 1) := by decide +kernel
theorem dX12_stamps_37 : decode cX12_stamps 37 = .ok (.istore 6, 2) := by decide +kernel
theorem dX12_stamps_39 : decode cX12_stamps 39 = .ok (.iload 6, 2) := by decide +kernel
theorem dX12_stamps_41 : decode cX12_stamps 41 = .ok (.iconst 1, 1) := by decide +kernel
theorem dX12_stamps_42 : decode cX12_stamps 42 = .ok (.aload_n 0, 1) := by decide +kernel
theorem dX12_stamps_43 : decode cX12_stamps 43 = .ok (.getfield 9, 3) := by decide +kernel
theorem dX12_stamps_46 : decode cX12_stamps 46 = .ok (.iconst 0, 1) := by decide +kernel
theorem dX12_stamps_47 : decode cX12_stamps 47 = .ok (.iaload, 1) := by decide +kernel
theorem dX12_stamps_48 : decode cX12_stamps 48 = .ok (.ishl, 1) := by decide +kernel
theorem dX12_stamps_49 : decode cX12_stamps 49 = .ok (.if_icmp .ge 95, 3) := by decide +kernel
theorem dX12_stamps_52 : decode cX12_stamps 52 = .ok (.iload 6, 2) := by decide +kernel
theorem dX12_stamps_54 : decode cX12_stamps 54 = .ok (.invokestatic 68, 3) := by decide +kernel
theorem dX12_stamps_57 : decode cX12_stamps 57 = .ok (.iload_n 1, 1) := by decide +kernel
theorem dX12_stamps_58 : decode cX12_stamps 58 = .ok (.if_icmp .ne 80, 3) := by decide +kernel
theorem dX12_stamps_61 : decode cX12_stamps 61 = .ok (.iload 6, 2) := by decide +kernel
theorem dX12_stamps_63 : decode cX12_stamps 63 = .ok (.aload_n 0, 1) := by decide +kernel
theorem dX12_stamps_64 : decode cX12_stamps 64 = .ok (.invokevirtual 196, 3) := by decide +kernel
theorem dX12_stamps_67 : decode cX12_stamps 67 = .ok (.iconst (-1), 1) := by decide +kernel
theorem dX12_stamps_68 : decode cX12_stamps 68 = .ok (.ixor, 1) := by decide +kernel
theorem dX12_stamps_69 : decode cX12_stamps 69 = .ok (.iand, 1) := by decide +kernel
theorem dX12_stamps_70 : decode cX12_stamps 70 = .ok (.ifCond .eq 6, 3) := by decide +kernel
theorem dX12_stamps_73 : decode cX12_stamps 73 = .ok (.goto 65, 3) := by decide +kernel
theorem dX12_stamps_76 : decode cX12_stamps 76 = .ok (.aload_n 0, 1) := by decide +kernel
theorem dX12_stamps_77 : decode cX12_stamps 77 = .ok (.getfield 9, 3) := by decide +kernel
theorem dX12_stamps_80 : decode cX12_stamps 80 = .ok (.aload_n 0, 1) := by decide +kernel
theorem dX12_stamps_81 : decode cX12_stamps 81 = .ok (.getfield 13, 3) := by decide +kernel
theorem dX12_stamps_84 : decode cX12_stamps 84 = .ok (.invokestatic 141, 3) := by decide +kernel
theorem dX12_stamps_87 : decode cX12_stamps 87 = .ok (.aload_n 0, 1) := by decide +kernel
theorem dX12_stamps_88 : decode cX12_stamps 88 = .ok (.getfield 13, 3) := by decide +kernel
theorem dX12_stamps_91 : decode cX12_stamps 91 = .ok (.iconst 2, 1) := by decide +kernel
theorem dX12_stamps_92 : decode cX12_stamps 92 = .ok (.dup2, 1) := by decide +kernel
theorem dX12_stamps_93 : decode cX12_stamps 93 = .ok (.iaload, 1) := by decide +kernel
theorem dX12_stamps_94 : decode cX12_stamps 94 = .ok (.iload 6, 2) := by decide +kernel
theorem dX12_stamps_96 : decode cX12_stamps 96 = .ok (.ior, 1) := by decide +kernel
theorem dX12_stamps_97 : decode cX12_stamps 97 = .ok (.iastore, 1) := by decide +kernel
theorem dX12_stamps_98 : decode cX12_stamps 98 = .ok (.aload_n 0, 1) := by decide +kernel
theorem dX12_stamps_99 : decode cX12_stamps 99 = .ok (.getfield 13, 3) := by decide +kernel
theorem dX12_stamps_102 : decode cX12_stamps 102 = .ok (.iload_n 2, 1) := by decide +kernel
theorem dX12_stamps_103 : decode cX12_stamps 103 = .ok (.invokestatic 131, 3) := by decide +kernel
theorem dX12_stamps_106 : decode cX12_stamps 106 = .ok (.aload_n 0, 1) := by decide +kernel
theorem dX12_stamps_107 : decode cX12_stamps 107 = .ok (.getfield 13, 3) := by decide +kernel
theorem dX12_stamps_110 : decode cX12_stamps 110 = .ok (.iconst 2, 1) := by decide +kernel
theorem dX12_stamps_111 : decode cX12_stamps 111 = .ok (.iaload, 1) := by decide +kernel
theorem dX12_stamps_112 : decode cX12_stamps 112 = .ok (.invokestatic 68, 3) := by decide +kernel
theorem dX12_stamps_115 : decode cX12_stamps 115 = .ok (.iload 5, 2) := by decide +kernel
theorem dX12_stamps_117 : decode cX12_stamps 117 = .ok (.if_icmp .gt 6, 3) := by decide +kernel
theorem dX12_stamps_120 : decode cX12_stamps 120 = .ok (.goto 18, 3) := by decide +kernel
theorem dX12_stamps_123 : decode cX12_stamps 123 = .ok (.iload 6, 2) := by decide +kernel
theorem dX12_stamps_125 : decode cX12_stamps 125 = .ok (.istore 4, 2) := by decide +kernel
theorem dX12_stamps_127 : decode cX12_stamps 127 = .ok (.aload_n 0, 1) := by decide +kernel
theorem dX12_stamps_128 : decode cX12_stamps 128 = .ok (.getfield 13, 3) := by decide +kernel
theorem dX12_stamps_131 : decode cX12_stamps 131 = .ok (.iconst 2, 1) := by decide +kernel
theorem dX12_stamps_132 : decode cX12_stamps 132 = .ok (.iaload, 1) := by decide +kernel
theorem dX12_stamps_133 : decode cX12_stamps 133 = .ok (.invokestatic 68, 3) := by decide +kernel
theorem dX12_stamps_136 : decode cX12_stamps 136 = .ok (.istore 5, 2) := by decide +kernel
theorem dX12_stamps_138 : decode cX12_stamps 138 = .ok (.iinc 6 1, 3) := by decide +kernel
theorem dX12_stamps_141 : decode cX12_stamps 141 = .ok (.goto (-102), 3) := by decide +kernel
theorem dX12_stamps_144 : decode cX12_stamps 144 = .ok (.iload 5, 2) := by decide +kernel
theorem dX12_stamps_146 : decode cX12_stamps 146 = .ok (.ifCond .ge 7, 3) := by decide +kernel
theorem dX12_stamps_149 : decode cX12_stamps 149 = .ok (.iconst 0, 1) := by decide +kernel
theorem dX12_stamps_150 : decode cX12_stamps 150 = .ok (.goto 14, 3) := by decide +kernel
theorem dX12_stamps_153 : decode cX12_stamps 153 = .ok (.iload_n 3, 1) := by decide +kernel
theorem dX12_stamps_154 : decode cX12_stamps 154 = .ok (.ifCond .ne 8, 3) := by decide +kernel
theorem dX12_stamps_157 : decode cX12_stamps 157 = .ok (.iload 4, 2) := by decide +kernel
theorem dX12_stamps_159 : decode cX12_stamps 159 = .ok (.goto 5, 3) := by decide +kernel
theorem dX12_stamps_162 : decode cX12_stamps 162 = .ok (.iload 5, 2) := by decide +kernel
theorem dX12_stamps_164 : decode cX12_stamps 164 = .ok (.ireturn, 1) := by decide +kernel
theorem dX12_isLate_0 : decode cX12_isLate 0 = .ok (.iload_n 0, 1) := by decide +kernel
theorem dX12_isLate_1 : decode cX12_isLate 1 = .ok (.iconst 0, 1) := by decide +kernel
theorem dX12_isLate_2 : decode cX12_isLate 2 = .ok (.bipush 60, 2) := by decide +kernel
theorem dX12_isLate_4 : decode cX12_isLate 4 = .ok (.invokestatic 56, 3) := by decide +kernel
theorem dX12_isLate_7 : decode cX12_isLate 7 = .ok (.ireturn, 1) := by decide +kernel
theorem dX12_then_0 : decode cX12_then 0 = .ok (.iload_n 1, 1) := by decide +kernel
theorem dX12_then_1 : decode cX12_then 1 = .ok (.invokestatic 199, 3) := by decide +kernel
theorem dX12_then_4 : decode cX12_then 4 = .ok (.ifCond .ne 5, 3) := by decide +kernel
theorem dX12_then_7 : decode cX12_then 7 = .ok (.iconst (-1), 1) := by decide +kernel
theorem dX12_then_8 : decode cX12_then 8 = .ok (.ireturn, 1) := by decide +kernel
theorem dX12_then_9 : decode cX12_then 9 = .ok (.aload_n 0, 1) := by decide +kernel
theorem dX12_then_10 : decode cX12_then 10 = .ok (.getfield 9, 3) := by decide +kernel
theorem dX12_then_13 : decode cX12_then 13 = .ok (.aload_n 0, 1) := by decide +kernel
theorem dX12_then_14 : decode cX12_then 14 = .ok (.getfield 13, 3) := by decide +kernel
theorem dX12_then_17 : decode cX12_then 17 = .ok (.invokestatic 141, 3) := by decide +kernel
theorem dX12_then_20 : decode cX12_then 20 = .ok (.aload_n 0, 1) := by decide +kernel
theorem dX12_then_21 : decode cX12_then 21 = .ok (.getfield 13, 3) := by decide +kernel
theorem dX12_then_24 : decode cX12_then 24 = .ok (.iload_n 1, 1) := by decide +kernel
theorem dX12_then_25 : decode cX12_then 25 = .ok (.invokestatic 131, 3) := by decide +kernel
theorem dX12_then_28 : decode cX12_then 28 = .ok (.aload_n 0, 1) := by decide +kernel
theorem dX12_then_29 : decode cX12_then 29 = .ok (.getfield 13, 3) := by decide +kernel
theorem dX12_then_32 : decode cX12_then 32 = .ok (.iconst 2, 1) := by decide +kernel
theorem dX12_then_33 : decode cX12_then 33 = .ok (.iaload, 1) := by decide +kernel
theorem dX12_then_34 : decode cX12_then 34 = .ok (.ireturn, 1) := by decide +kernel
theorem dX12_hears_0 : decode cX12_hears 0 = .ok (.aload_n 0, 1) := by decide +kernel
theorem dX12_hears_1 : decode cX12_hears 1 = .ok (.iload_n 1, 1) := by decide +kernel
theorem dX12_hears_2 : decode cX12_hears 2 = .ok (.invokevirtual 60, 3) := by decide +kernel
theorem dX12_hears_5 : decode cX12_hears 5 = .ok (.ifCond .ne 5, 3) := by decide +kernel
theorem dX12_hears_8 : decode cX12_hears 8 = .ok (.iconst (-1), 1) := by decide +kernel
theorem dX12_hears_9 : decode cX12_hears 9 = .ok (.ireturn, 1) := by decide +kernel
theorem dX12_hears_10 : decode cX12_hears 10 = .ok (.aload_n 0, 1) := by decide +kernel
theorem dX12_hears_11 : decode cX12_hears 11 = .ok (.getfield 9, 3) := by decide +kernel
theorem dX12_hears_14 : decode cX12_hears 14 = .ok (.aload_n 0, 1) := by decide +kernel
theorem dX12_hears_15 : decode cX12_hears 15 = .ok (.getfield 13, 3) := by decide +kernel
theorem dX12_hears_18 : decode cX12_hears 18 = .ok (.invokestatic 141, 3) := by decide +kernel
theorem dX12_hears_21 : decode cX12_hears 21 = .ok (.iconst 0, 1) := by decide +kernel
theorem dX12_hears_22 : decode cX12_hears 22 = .ok (.istore_n 2, 1) := by decide +kernel
theorem dX12_hears_23 : decode cX12_hears 23 = .ok (.iload_n 2, 1) := by decide +kernel
theorem dX12_hears_24 : decode cX12_hears 24 = .ok (.bipush 60, 2) := by decide +kernel
theorem dX12_hears_26 : decode cX12_hears 26 = .ok (.if_icmp .gt 32, 3) := by decide +kernel
theorem dX12_hears_29 : decode cX12_hears 29 = .ok (.aload_n 0, 1) := by decide +kernel
theorem dX12_hears_30 : decode cX12_hears 30 = .ok (.getfield 13, 3) := by decide +kernel
theorem dX12_hears_33 : decode cX12_hears 33 = .ok (.iconst 2, 1) := by decide +kernel
theorem dX12_hears_34 : decode cX12_hears 34 = .ok (.iaload, 1) := by decide +kernel
theorem dX12_hears_35 : decode cX12_hears 35 = .ok (.iload_n 1, 1) := by decide +kernel
theorem dX12_hears_36 : decode cX12_hears 36 = .ok (.invokestatic 80, 3) := by decide +kernel
theorem dX12_hears_39 : decode cX12_hears 39 = .ok (.ifCond .eq 5, 3) := by decide +kernel
theorem dX12_hears_42 : decode cX12_hears 42 = .ok (.iload_n 2, 1) := by decide +kernel
theorem dX12_hears_43 : decode cX12_hears 43 = .ok (.ireturn, 1) := by decide +kernel
theorem dX12_hears_44 : decode cX12_hears 44 = .ok (.aload_n 0, 1) := by decide +kernel
theorem dX12_hears_45 : decode cX12_hears 45 = .ok (.getfield 13, 3) := by decide +kernel
theorem dX12_hears_48 : decode cX12_hears 48 = .ok (.iconst 0, 1) := by decide +kernel
theorem dX12_hears_49 : decode cX12_hears 49 = .ok (.invokestatic 96, 3) := by decide +kernel
theorem dX12_hears_52 : decode cX12_hears 52 = .ok (.iinc 2 1, 3) := by decide +kernel
theorem dX12_hears_55 : decode cX12_hears 55 = .ok (.goto (-32), 3) := by decide +kernel
theorem dX12_hears_58 : decode cX12_hears 58 = .ok (.bipush (-4), 2) := by decide +kernel
theorem dX12_hears_60 : decode cX12_hears 60 = .ok (.ireturn, 1) := by decide +kernel
theorem dX12_asked_0 : decode cX12_asked 0 = .ok (.aload_n 0, 1) := by decide +kernel
theorem dX12_asked_1 : decode cX12_asked 1 = .ok (.iload_n 1, 1) := by decide +kernel
theorem dX12_asked_2 : decode cX12_asked 2 = .ok (.invokevirtual 60, 3) := by decide +kernel
theorem dX12_asked_5 : decode cX12_asked 5 = .ok (.ifCond .eq 31, 3) := by decide +kernel
theorem dX12_asked_8 : decode cX12_asked 8 = .ok (.aload_n 0, 1) := by decide +kernel
theorem dX12_asked_9 : decode cX12_asked 9 = .ok (.iload_n 2, 1) := by decide +kernel
theorem dX12_asked_10 : decode cX12_asked 10 = .ok (.invokevirtual 60, 3) := by decide +kernel
theorem dX12_asked_13 : decode cX12_asked 13 = .ok (.ifCond .eq 23, 3) := by decide +kernel
theorem dX12_asked_16 : decode cX12_asked 16 = .ok (.iload_n 3, 1) := by decide +kernel
theorem dX12_asked_17 : decode cX12_asked 17 = .ok (.iconst 0, 1) := by decide +kernel
theorem dX12_asked_18 : decode cX12_asked 18 = .ok (.bipush 6, 2) := by decide +kernel
theorem dX12_asked_20 : decode cX12_asked 20 = .ok (.invokestatic 56, 3) := by decide +kernel
theorem dX12_asked_23 : decode cX12_asked 23 = .ok (.ifCond .eq 13, 3) := by decide +kernel
theorem dX12_asked_26 : decode cX12_asked 26 = .ok (.iload 4, 2) := by decide +kernel
theorem dX12_asked_28 : decode cX12_asked 28 = .ok (.iconst 0, 1) := by decide +kernel
theorem dX12_asked_29 : decode cX12_asked 29 = .ok (.iconst 1, 1) := by decide +kernel
theorem dX12_asked_30 : decode cX12_asked 30 = .ok (.invokestatic 56, 3) := by decide +kernel
theorem dX12_asked_33 : decode cX12_asked 33 = .ok (.ifCond .ne 7, 3) := by decide +kernel
theorem dX12_asked_36 : decode cX12_asked 36 = .ok (.ldc2_w 171, 3) := by decide +kernel
theorem dX12_asked_39 : decode cX12_asked 39 = .ok (.lreturn, 1) := by decide +kernel
theorem dX12_asked_40 : decode cX12_asked 40 = .ok (.lconst 1, 1) := by decide +kernel
theorem dX12_asked_41 : decode cX12_asked 41 = .ok (.lstore 5, 2) := by decide +kernel
theorem dX12_asked_43 : decode cX12_asked 43 = .ok (.iconst 0, 1) := by decide +kernel
theorem dX12_asked_44 : decode cX12_asked 44 = .ok (.istore 7, 2) := by decide +kernel
theorem dX12_asked_46 : decode cX12_asked 46 = .ok (.iload 7, 2) := by decide +kernel
theorem dX12_asked_48 : decode cX12_asked 48 = .ok (.bipush 9, 2) := by decide +kernel
theorem dX12_asked_50 : decode cX12_asked 50 = .ok (.if_icmp .ge 27, 3) := by decide +kernel
theorem dX12_asked_53 : decode cX12_asked 53 = .ok (.aload_n 0, 1) := by decide +kernel
theorem dX12_asked_54 : decode cX12_asked 54 = .ok (.getfield 25, 3) := by decide +kernel
theorem dX12_asked_57 : decode cX12_asked 57 = .ok (.iload 7, 2) := by decide +kernel
theorem dX12_asked_59 : decode cX12_asked 59 = .ok (.iload 7, 2) := by decide +kernel
theorem dX12_asked_61 : decode cX12_asked 61 = .ok (.iload_n 1, 1) := by decide +kernel
theorem dX12_asked_62 : decode cX12_asked 62 = .ok (.if_icmp .ne 7, 3) := by decide +kernel
theorem dX12_asked_65 : decode cX12_asked 65 = .ok (.lconst 1, 1) := by decide +kernel
theorem dX12_asked_66 : decode cX12_asked 66 = .ok (.goto 4, 3) := by decide +kernel
theorem dX12_asked_69 : decode cX12_asked 69 = .ok (.lconst 0, 1) := by decide +kernel
theorem dX12_asked_70 : decode cX12_asked 70 = .ok (.lastore, 1) := by decide +kernel
theorem dX12_asked_71 : decode cX12_asked 71 = .ok (.iinc 7 1, 3) := by decide +kernel
theorem dX12_asked_74 : decode cX12_asked 74 = .ok (.goto (-28), 3) := by decide +kernel
theorem dX12_asked_77 : decode cX12_asked 77 = .ok (.iconst 0, 1) := by decide +kernel
theorem dX12_asked_78 : decode cX12_asked 78 = .ok (.istore 7, 2) := by decide +kernel
theorem dX12_asked_80 : decode cX12_asked 80 = .ok (.iload 7, 2) := by decide +kernel
theorem dX12_asked_82 : decode cX12_asked 82 = .ok (.iload_n 3, 1) := by decide +kernel
theorem dX12_asked_83 : decode cX12_asked 83 = .ok (.if_icmp .ge 192, 3) := by decide +kernel
theorem dX12_asked_86 : decode cX12_asked 86 = .ok (.lload 5, 2) := by decide +kernel
theorem dX12_asked_88 : decode cX12_asked 88 = .ok (.ldc2_w 173, 3) := by decide +kernel
theorem dX12_asked_91 : decode cX12_asked 91 = .ok (.lmul, 1) := by decide +kernel
theorem dX12_asked_92 : decode cX12_asked 92 = .ok (.lstore 5, 2) := by decide +kernel
theorem dX12_asked_94 : decode cX12_asked 94 = .ok (.iconst 0, 1) := by decide +kernel
theorem dX12_asked_95 : decode cX12_asked 95 = .ok (.istore 8, 2) := by decide +kernel
theorem dX12_asked_97 : decode cX12_asked 97 = .ok (.iload 8, 2) := by decide +kernel
theorem dX12_asked_99 : decode cX12_asked 99 = .ok (.bipush 9, 2) := by decide +kernel
theorem dX12_asked_101 : decode cX12_asked 101 = .ok (.if_icmp .ge 17, 3) := by decide +kernel
theorem dX12_asked_104 : decode cX12_asked 104 = .ok (.aload_n 0, 1) := by decide +kernel
theorem dX12_asked_105 : decode cX12_asked 105 = .ok (.getfield 29, 3) := by decide +kernel
theorem dX12_asked_108 : decode cX12_asked 108 = .ok (.iload 8, 2) := by decide +kernel
theorem dX12_asked_110 : decode cX12_asked 110 = .ok (.lconst 0, 1) := by decide +kernel
theorem dX12_asked_111 : decode cX12_asked 111 = .ok (.lastore, 1) := by decide +kernel
theorem dX12_asked_112 : decode cX12_asked 112 = .ok (.iinc 8 1, 3) := by decide +kernel
theorem dX12_asked_115 : decode cX12_asked 115 = .ok (.goto (-18), 3) := by decide +kernel
theorem dX12_asked_118 : decode cX12_asked 118 = .ok (.iconst 0, 1) := by decide +kernel
theorem dX12_asked_119 : decode cX12_asked 119 = .ok (.istore 8, 2) := by decide +kernel
theorem dX12_asked_121 : decode cX12_asked 121 = .ok (.iload 8, 2) := by decide +kernel
theorem dX12_asked_123 : decode cX12_asked 123 = .ok (.aload_n 0, 1) := by decide +kernel
theorem dX12_asked_124 : decode cX12_asked 124 = .ok (.getfield 9, 3) := by decide +kernel
theorem dX12_asked_127 : decode cX12_asked 127 = .ok (.iconst 0, 1) := by decide +kernel
theorem dX12_asked_128 : decode cX12_asked 128 = .ok (.iaload, 1) := by decide +kernel
theorem dX12_asked_129 : decode cX12_asked 129 = .ok (.if_icmp .ge 110, 3) := by decide +kernel
theorem dX12_asked_132 : decode cX12_asked 132 = .ok (.aload_n 0, 1) := by decide +kernel
theorem dX12_asked_133 : decode cX12_asked 133 = .ok (.getfield 9, 3) := by decide +kernel
theorem dX12_asked_136 : decode cX12_asked 136 = .ok (.iload 8, 2) := by decide +kernel
theorem dX12_asked_138 : decode cX12_asked 138 = .ok (.invokestatic 72, 3) := by decide +kernel
theorem dX12_asked_141 : decode cX12_asked 141 = .ok (.istore 9, 2) := by decide +kernel
theorem dX12_asked_143 : decode cX12_asked 143 = .ok (.iload 9, 2) := by decide +kernel
theorem dX12_asked_145 : decode cX12_asked 145 = .ok (.ifCond .ne 24, 3) := by decide +kernel
theorem dX12_asked_148 : decode cX12_asked 148 = .ok (.aload_n 0, 1) := by decide +kernel
theorem dX12_asked_149 : decode cX12_asked 149 = .ok (.getfield 29, 3) := by decide +kernel
theorem dX12_asked_152 : decode cX12_asked 152 = .ok (.iload 8, 2) := by decide +kernel
theorem dX12_asked_154 : decode cX12_asked 154 = .ok (.dup2, 1) := by decide +kernel
theorem dX12_asked_155 : decode cX12_asked 155 = .ok (.laload, 1) := by decide +kernel
theorem dX12_asked_156 : decode cX12_asked 156 = .ok (.ldc2_w 173, 3) := by decide +kernel
theorem dX12_asked_159 : decode cX12_asked 159 = .ok (.aload_n 0, 1) := by decide +kernel
theorem dX12_asked_160 : decode cX12_asked 160 = .ok (.getfield 25, 3) := by decide +kernel
theorem dX12_asked_163 : decode cX12_asked 163 = .ok (.iload 8, 2) := by decide +kernel
theorem dX12_asked_165 : decode cX12_asked 165 = .ok (.laload, 1) := by decide +kernel
theorem dX12_asked_166 : decode cX12_asked 166 = .ok (.lmul, 1) := by decide +kernel
theorem dX12_asked_167 : decode cX12_asked 167 = .ok (.ladd, 1) := by decide +kernel
theorem dX12_asked_168 : decode cX12_asked 168 = .ok (.lastore, 1) := by decide +kernel
theorem dX12_asked_169 : decode cX12_asked 169 = .ok (.iconst 0, 1) := by decide +kernel
theorem dX12_asked_170 : decode cX12_asked 170 = .ok (.istore 10, 2) := by decide +kernel
theorem dX12_asked_172 : decode cX12_asked 172 = .ok (.iload 10, 2) := by decide +kernel
theorem dX12_asked_174 : decode cX12_asked 174 = .ok (.aload_n 0, 1) := by decide +kernel
theorem dX12_asked_175 : decode cX12_asked 175 = .ok (.getfield 9, 3) := by decide +kernel
theorem dX12_asked_178 : decode cX12_asked 178 = .ok (.iconst 0, 1) := by decide +kernel
theorem dX12_asked_179 : decode cX12_asked 179 = .ok (.iaload, 1) := by decide +kernel
theorem dX12_asked_180 : decode cX12_asked 180 = .ok (.if_icmp .ge 53, 3) := by decide +kernel
theorem dX12_asked_183 : decode cX12_asked 183 = .ok (.aload_n 0, 1) := by decide +kernel
theorem dX12_asked_184 : decode cX12_asked 184 = .ok (.getfield 9, 3) := by decide +kernel
theorem dX12_asked_187 : decode cX12_asked 187 = .ok (.iload 8, 2) := by decide +kernel
theorem dX12_asked_189 : decode cX12_asked 189 = .ok (.iconst 2, 1) := by decide +kernel
theorem dX12_asked_190 : decode cX12_asked 190 = .ok (.invokestatic 64, 3) := by decide +kernel
theorem dX12_asked_193 : decode cX12_asked 193 = .ok (.iaload, 1) := by decide +kernel
theorem dX12_asked_194 : decode cX12_asked 194 = .ok (.iload 10, 2) := by decide +kernel
theorem dX12_asked_196 : decode cX12_asked 196 = .ok (.invokestatic 80, 3) := by decide +kernel
theorem dX12_asked_199 : decode cX12_asked 199 = .ok (.ifCond .eq 28, 3) := by decide +kernel
theorem dX12_asked_202 : decode cX12_asked 202 = .ok (.aload_n 0, 1) := by decide +kernel
theorem dX12_asked_203 : decode cX12_asked 203 = .ok (.getfield 29, 3) := by decide +kernel
theorem dX12_asked_206 : decode cX12_asked 206 = .ok (.iload 10, 2) := by decide +kernel
theorem dX12_asked_208 : decode cX12_asked 208 = .ok (.dup2, 1) := by decide +kernel
theorem dX12_asked_209 : decode cX12_asked 209 = .ok (.laload, 1) := by decide +kernel
theorem dX12_asked_210 : decode cX12_asked 210 = .ok (.sipush 840, 3) := by decide +kernel
theorem dX12_asked_213 : decode cX12_asked 213 = .ok (.iload 9, 2) := by decide +kernel
theorem dX12_asked_215 : decode cX12_asked 215 = .ok (.idiv, 1) := by decide +kernel
theorem dX12_asked_216 : decode cX12_asked 216 = .ok (.i2l, 1) := by decide +kernel
theorem dX12_asked_217 : decode cX12_asked 217 = .ok (.aload_n 0, 1) := by decide +kernel
theorem dX12_asked_218 : decode cX12_asked 218 = .ok (.getfield 25, 3) := by decide +kernel
theorem dX12_asked_221 : decode cX12_asked 221 = .ok (.iload 8, 2) := by decide +kernel
theorem dX12_asked_223 : decode cX12_asked 223 = .ok (.laload, 1) := by decide +kernel
theorem dX12_asked_224 : decode cX12_asked 224 = .ok (.lmul, 1) := by decide +kernel
theorem dX12_asked_225 : decode cX12_asked 225 = .ok (.ladd, 1) := by decide +kernel
theorem dX12_asked_226 : decode cX12_asked 226 = .ok (.lastore, 1) := by decide +kernel
theorem dX12_asked_227 : decode cX12_asked 227 = .ok (.iinc 10 1, 3) := by decide +kernel
theorem dX12_asked_230 : decode cX12_asked 230 = .ok (.goto (-58), 3) := by decide +kernel
theorem dX12_asked_233 : decode cX12_asked 233 = .ok (.iinc 8 1, 3) := by decide +kernel
theorem dX12_asked_236 : decode cX12_asked 236 = .ok (.goto (-115), 3) := by decide +kernel
theorem dX12_asked_239 : decode cX12_asked 239 = .ok (.iconst 0, 1) := by decide +kernel
theorem dX12_asked_240 : decode cX12_asked 240 = .ok (.istore 8, 2) := by decide +kernel
theorem dX12_asked_242 : decode cX12_asked 242 = .ok (.iload 8, 2) := by decide +kernel
theorem dX12_asked_244 : decode cX12_asked 244 = .ok (.bipush 9, 2) := by decide +kernel
theorem dX12_asked_246 : decode cX12_asked 246 = .ok (.if_icmp .ge 23, 3) := by decide +kernel
theorem dX12_asked_249 : decode cX12_asked 249 = .ok (.aload_n 0, 1) := by decide +kernel
theorem dX12_asked_250 : decode cX12_asked 250 = .ok (.getfield 25, 3) := by decide +kernel
theorem dX12_asked_253 : decode cX12_asked 253 = .ok (.iload 8, 2) := by decide +kernel
theorem dX12_asked_255 : decode cX12_asked 255 = .ok (.aload_n 0, 1) := by decide +kernel
theorem dX12_asked_256 : decode cX12_asked 256 = .ok (.getfield 29, 3) := by decide +kernel
theorem dX12_asked_259 : decode cX12_asked 259 = .ok (.iload 8, 2) := by decide +kernel
theorem dX12_asked_261 : decode cX12_asked 261 = .ok (.laload, 1) := by decide +kernel
theorem dX12_asked_262 : decode cX12_asked 262 = .ok (.lastore, 1) := by decide +kernel
theorem dX12_asked_263 : decode cX12_asked 263 = .ok (.iinc 8 1, 3) := by decide +kernel
theorem dX12_asked_266 : decode cX12_asked 266 = .ok (.goto (-24), 3) := by decide +kernel
theorem dX12_asked_269 : decode cX12_asked 269 = .ok (.iinc 7 1, 3) := by decide +kernel
theorem dX12_asked_272 : decode cX12_asked 272 = .ok (.goto (-192), 3) := by decide +kernel
theorem dX12_asked_275 : decode cX12_asked 275 = .ok (.aload_n 0, 1) := by decide +kernel
theorem dX12_asked_276 : decode cX12_asked 276 = .ok (.getfield 25, 3) := by decide +kernel
theorem dX12_asked_279 : decode cX12_asked 279 = .ok (.iload_n 2, 1) := by decide +kernel
theorem dX12_asked_280 : decode cX12_asked 280 = .ok (.laload, 1) := by decide +kernel
theorem dX12_asked_281 : decode cX12_asked 281 = .ok (.lload 5, 2) := by decide +kernel
theorem dX12_asked_283 : decode cX12_asked 283 = .ok (.iload 4, 2) := by decide +kernel
theorem dX12_asked_285 : decode cX12_asked 285 = .ok (.invokestatic 167, 3) := by decide +kernel
theorem dX12_asked_288 : decode cX12_asked 288 = .ok (.lreturn, 1) := by decide +kernel
theorem dX12_settles_0 : decode cX12_settles 0 = .ok (.aload_n 0, 1) := by decide +kernel
theorem dX12_settles_1 : decode cX12_settles 1 = .ok (.iload_n 1, 1) := by decide +kernel
theorem dX12_settles_2 : decode cX12_settles 2 = .ok (.invokevirtual 60, 3) := by decide +kernel
theorem dX12_settles_5 : decode cX12_settles 5 = .ok (.ifCond .eq 40, 3) := by decide +kernel
theorem dX12_settles_8 : decode cX12_settles 8 = .ok (.iload_n 2, 1) := by decide +kernel
theorem dX12_settles_9 : decode cX12_settles 9 = .ok (.iconst 0, 1) := by decide +kernel
theorem dX12_settles_10 : decode cX12_settles 10 = .ok (.iconst 1, 1) := by decide +kernel
theorem dX12_settles_11 : decode cX12_settles 11 = .ok (.invokestatic 56, 3) := by decide +kernel
theorem dX12_settles_14 : decode cX12_settles 14 = .ok (.ifCond .eq 31, 3) := by decide +kernel
theorem dX12_settles_17 : decode cX12_settles 17 = .ok (.aload_n 0, 1) := by decide +kernel
theorem dX12_settles_18 : decode cX12_settles 18 = .ok (.getfield 9, 3) := by decide +kernel
theorem dX12_settles_21 : decode cX12_settles 21 = .ok (.iload_n 1, 1) := by decide +kernel
theorem dX12_settles_22 : decode cX12_settles 22 = .ok (.invokestatic 72, 3) := by decide +kernel
theorem dX12_settles_25 : decode cX12_settles 25 = .ok (.i2l, 1) := by decide +kernel
theorem dX12_settles_26 : decode cX12_settles 26 = .ok (.ldc2_w 161, 3) := by decide +kernel
theorem dX12_settles_29 : decode cX12_settles 29 = .ok (.aload_n 0, 1) := by decide +kernel
theorem dX12_settles_30 : decode cX12_settles 30 = .ok (.getfield 9, 3) := by decide +kernel
theorem dX12_settles_33 : decode cX12_settles 33 = .ok (.invokestatic 163, 3) := by decide +kernel
theorem dX12_settles_36 : decode cX12_settles 36 = .ok (.i2l, 1) := by decide +kernel
theorem dX12_settles_37 : decode cX12_settles 37 = .ok (.lmul, 1) := by decide +kernel
theorem dX12_settles_38 : decode cX12_settles 38 = .ok (.iload_n 2, 1) := by decide +kernel
theorem dX12_settles_39 : decode cX12_settles 39 = .ok (.invokestatic 167, 3) := by decide +kernel
theorem dX12_settles_42 : decode cX12_settles 42 = .ok (.goto 6, 3) := by decide +kernel
theorem dX12_settles_45 : decode cX12_settles 45 = .ok (.ldc2_w 171, 3) := by decide +kernel
theorem dX12_settles_48 : decode cX12_settles 48 = .ok (.lreturn, 1) := by decide +kernel
theorem dX12_isCircle_0 : decode cX12_isCircle 0 = .ok (.iconst 0, 1) := by decide +kernel
theorem dX12_isCircle_1 : decode cX12_isCircle 1 = .ok (.istore_n 3, 1) := by decide +kernel
theorem dX12_isCircle_2 : decode cX12_isCircle 2 = .ok (.iload_n 3, 1) := by decide +kernel
theorem dX12_isCircle_3 : decode cX12_isCircle 3 = .ok (.aload_n 0, 1) := by decide +kernel
theorem dX12_isCircle_4 : decode cX12_isCircle 4 = .ok (.getfield 9, 3) := by decide +kernel
theorem dX12_isCircle_7 : decode cX12_isCircle 7 = .ok (.iconst 0, 1) := by decide +kernel
theorem dX12_isCircle_8 : decode cX12_isCircle 8 = .ok (.iaload, 1) := by decide +kernel
theorem dX12_isCircle_9 : decode cX12_isCircle 9 = .ok (.if_icmp .ge 72, 3) := by decide +kernel
theorem dX12_isCircle_12 : decode cX12_isCircle 12 = .ok (.iload_n 1, 1) := by decide +kernel
theorem dX12_isCircle_13 : decode cX12_isCircle 13 = .ok (.iload_n 3, 1) := by decide +kernel
theorem dX12_isCircle_14 : decode cX12_isCircle 14 = .ok (.invokestatic 80, 3) := by decide +kernel
theorem dX12_isCircle_17 : decode cX12_isCircle 17 = .ok (.ifCond .ne 6, 3) := by decide +kernel
theorem dX12_isCircle_20 : decode cX12_isCircle 20 = .ok (.goto 55, 3) := by decide +kernel
theorem dX12_isCircle_23 : decode cX12_isCircle 23 = .ok (.iload_n 1, 1) := by decide +kernel
theorem dX12_isCircle_24 : decode cX12_isCircle 24 = .ok (.iconst 1, 1) := by decide +kernel
theorem dX12_isCircle_25 : decode cX12_isCircle 25 = .ok (.iload_n 3, 1) := by decide +kernel
theorem dX12_isCircle_26 : decode cX12_isCircle 26 = .ok (.ishl, 1) := by decide +kernel
theorem dX12_isCircle_27 : decode cX12_isCircle 27 = .ok (.iconst (-1), 1) := by decide +kernel
theorem dX12_isCircle_28 : decode cX12_isCircle 28 = .ok (.ixor, 1) := by decide +kernel
theorem dX12_isCircle_29 : decode cX12_isCircle 29 = .ok (.iand, 1) := by decide +kernel
theorem dX12_isCircle_30 : decode cX12_isCircle 30 = .ok (.istore 4, 2) := by decide +kernel
theorem dX12_isCircle_32 : decode cX12_isCircle 32 = .ok (.iload_n 2, 1) := by decide +kernel
theorem dX12_isCircle_33 : decode cX12_isCircle 33 = .ok (.ifCond .eq 24, 3) := by decide +kernel
theorem dX12_isCircle_36 : decode cX12_isCircle 36 = .ok (.iload 4, 2) := by decide +kernel
theorem dX12_isCircle_38 : decode cX12_isCircle 38 = .ok (.aload_n 0, 1) := by decide +kernel
theorem dX12_isCircle_39 : decode cX12_isCircle 39 = .ok (.getfield 9, 3) := by decide +kernel
theorem dX12_isCircle_42 : decode cX12_isCircle 42 = .ok (.iload_n 3, 1) := by decide +kernel
theorem dX12_isCircle_43 : decode cX12_isCircle 43 = .ok (.iconst 2, 1) := by decide +kernel
theorem dX12_isCircle_44 : decode cX12_isCircle 44 = .ok (.invokestatic 64, 3) := by decide +kernel
theorem dX12_isCircle_47 : decode cX12_isCircle 47 = .ok (.iaload, 1) := by decide +kernel
theorem dX12_isCircle_48 : decode cX12_isCircle 48 = .ok (.iconst (-1), 1) := by decide +kernel
theorem dX12_isCircle_49 : decode cX12_isCircle 49 = .ok (.ixor, 1) := by decide +kernel
theorem dX12_isCircle_50 : decode cX12_isCircle 50 = .ok (.iand, 1) := by decide +kernel
theorem dX12_isCircle_51 : decode cX12_isCircle 51 = .ok (.ifCond .eq 24, 3) := by decide +kernel
theorem dX12_isCircle_54 : decode cX12_isCircle 54 = .ok (.goto 19, 3) := by decide +kernel
theorem dX12_isCircle_57 : decode cX12_isCircle 57 = .ok (.iload 4, 2) := by decide +kernel
theorem dX12_isCircle_59 : decode cX12_isCircle 59 = .ok (.aload_n 0, 1) := by decide +kernel
theorem dX12_isCircle_60 : decode cX12_isCircle 60 = .ok (.getfield 9, 3) := by decide +kernel
theorem dX12_isCircle_63 : decode cX12_isCircle 63 = .ok (.iload_n 3, 1) := by decide +kernel
theorem dX12_isCircle_64 : decode cX12_isCircle 64 = .ok (.iconst 2, 1) := by decide +kernel
theorem dX12_isCircle_65 : decode cX12_isCircle 65 = .ok (.invokestatic 64, 3) := by decide +kernel
theorem dX12_isCircle_68 : decode cX12_isCircle 68 = .ok (.iaload, 1) := by decide +kernel
theorem dX12_isCircle_69 : decode cX12_isCircle 69 = .ok (.iand, 1) := by decide +kernel
theorem dX12_isCircle_70 : decode cX12_isCircle 70 = .ok (.ifCond .eq 5, 3) := by decide +kernel
theorem dX12_isCircle_73 : decode cX12_isCircle 73 = .ok (.iconst 0, 1) := by decide +kernel
theorem dX12_isCircle_74 : decode cX12_isCircle 74 = .ok (.ireturn, 1) := by decide +kernel
theorem dX12_isCircle_75 : decode cX12_isCircle 75 = .ok (.iinc 3 1, 3) := by decide +kernel
theorem dX12_isCircle_78 : decode cX12_isCircle 78 = .ok (.goto (-76), 3) := by decide +kernel
theorem dX12_isCircle_81 : decode cX12_isCircle 81 = .ok (.iconst 1, 1) := by decide +kernel
theorem dX12_isCircle_82 : decode cX12_isCircle 82 = .ok (.ireturn, 1) := by decide +kernel
theorem dX12_largest_0 : decode cX12_largest 0 = .ok (.iconst 0, 1) := by decide +kernel
theorem dX12_largest_1 : decode cX12_largest 1 = .ok (.istore_n 2, 1) := by decide +kernel
theorem dX12_largest_2 : decode cX12_largest 2 = .ok (.iconst 0, 1) := by decide +kernel
theorem dX12_largest_3 : decode cX12_largest 3 = .ok (.istore_n 3, 1) := by decide +kernel
theorem dX12_largest_4 : decode cX12_largest 4 = .ok (.iload_n 3, 1) := by decide +kernel
theorem dX12_largest_5 : decode cX12_largest 5 = .ok (.iconst 1, 1) := by decide +kernel
theorem dX12_largest_6 : decode cX12_largest 6 = .ok (.aload_n 0, 1) := by decide +kernel
theorem dX12_largest_7 : decode cX12_largest 7 = .ok (.getfield 9, 3) := by decide +kernel
theorem dX12_largest_10 : decode cX12_largest 10 = .ok (.iconst 0, 1) := by decide +kernel
theorem dX12_largest_11 : decode cX12_largest 11 = .ok (.iaload, 1) := by decide +kernel
theorem dX12_largest_12 : decode cX12_largest 12 = .ok (.ishl, 1) := by decide +kernel
theorem dX12_largest_13 : decode cX12_largest 13 = .ok (.if_icmp .ge 31, 3) := by decide +kernel
theorem dX12_largest_16 : decode cX12_largest 16 = .ok (.iload_n 3, 1) := by decide +kernel
theorem dX12_largest_17 : decode cX12_largest 17 = .ok (.invokestatic 68, 3) := by decide +kernel
theorem dX12_largest_20 : decode cX12_largest 20 = .ok (.iload_n 2, 1) := by decide +kernel
theorem dX12_largest_21 : decode cX12_largest 21 = .ok (.invokestatic 68, 3) := by decide +kernel
theorem dX12_largest_24 : decode cX12_largest 24 = .ok (.if_icmp .le 14, 3) := by decide +kernel
theorem dX12_largest_27 : decode cX12_largest 27 = .ok (.aload_n 0, 1) := by decide +kernel
theorem dX12_largest_28 : decode cX12_largest 28 = .ok (.iload_n 3, 1) := by decide +kernel
theorem dX12_largest_29 : decode cX12_largest 29 = .ok (.iload_n 1, 1) := by decide +kernel
theorem dX12_largest_30 : decode cX12_largest 30 = .ok (.invokevirtual 202, 3) := by decide +kernel
theorem dX12_largest_33 : decode cX12_largest 33 = .ok (.ifCond .eq 5, 3) := by decide +kernel
theorem dX12_largest_36 : decode cX12_largest 36 = .ok (.iload_n 3, 1) := by decide +kernel
theorem dX12_largest_37 : decode cX12_largest 37 = .ok (.istore_n 2, 1) := by decide +kernel
theorem dX12_largest_38 : decode cX12_largest 38 = .ok (.iinc 3 1, 3) := by decide +kernel
theorem dX12_largest_41 : decode cX12_largest 41 = .ok (.goto (-37), 3) := by decide +kernel
theorem dX12_largest_44 : decode cX12_largest 44 = .ok (.iload_n 2, 1) := by decide +kernel
theorem dX12_largest_45 : decode cX12_largest 45 = .ok (.ireturn, 1) := by decide +kernel
theorem dX12_pews_0 : decode cX12_pews 0 = .ok (.aload_n 0, 1) := by decide +kernel
theorem dX12_pews_1 : decode cX12_pews 1 = .ok (.getfield 32, 3) := by decide +kernel
theorem dX12_pews_4 : decode cX12_pews 4 = .ok (.iconst 0, 1) := by decide +kernel
theorem dX12_pews_5 : decode cX12_pews 5 = .ok (.iconst 0, 1) := by decide +kernel
theorem dX12_pews_6 : decode cX12_pews 6 = .ok (.iastore, 1) := by decide +kernel
theorem dX12_pews_7 : decode cX12_pews 7 = .ok (.iconst 1, 1) := by decide +kernel
theorem dX12_pews_8 : decode cX12_pews 8 = .ok (.istore_n 1, 1) := by decide +kernel
theorem dX12_pews_9 : decode cX12_pews 9 = .ok (.iload_n 1, 1) := by decide +kernel
theorem dX12_pews_10 : decode cX12_pews 10 = .ok (.iconst 1, 1) := by decide +kernel
theorem dX12_pews_11 : decode cX12_pews 11 = .ok (.aload_n 0, 1) := by decide +kernel
theorem dX12_pews_12 : decode cX12_pews 12 = .ok (.getfield 9, 3) := by decide +kernel
theorem dX12_pews_15 : decode cX12_pews 15 = .ok (.iconst 0, 1) := by decide +kernel
theorem dX12_pews_16 : decode cX12_pews 16 = .ok (.iaload, 1) := by decide +kernel
theorem dX12_pews_17 : decode cX12_pews 17 = .ok (.ishl, 1) := by decide +kernel
theorem dX12_pews_18 : decode cX12_pews 18 = .ok (.if_icmp .ge 80, 3) := by decide +kernel
theorem dX12_pews_21 : decode cX12_pews 21 = .ok (.aload_n 0, 1) := by decide +kernel
theorem dX12_pews_22 : decode cX12_pews 22 = .ok (.getfield 32, 3) := by decide +kernel
theorem dX12_pews_25 : decode cX12_pews 25 = .ok (.iload_n 1, 1) := by decide +kernel
theorem dX12_pews_26 : decode cX12_pews 26 = .ok (.ldc 206, 2) := by decide +kernel
theorem dX12_pews_28 : decode cX12_pews 28 = .ok (.iastore, 1) := by decide +kernel
theorem dX12_pews_29 : decode cX12_pews 29 = .ok (.iload_n 1, 1) := by decide +kernel
theorem dX12_pews_30 : decode cX12_pews 30 = .ok (.istore_n 2, 1) := by decide +kernel
theorem dX12_pews_31 : decode cX12_pews 31 = .ok (.iload_n 2, 1) := by decide +kernel
theorem dX12_pews_32 : decode cX12_pews 32 = .ok (.ifCond .le 60, 3) := by decide +kernel
theorem dX12_pews_35 : decode cX12_pews 35 = .ok (.aload_n 0, 1) := by decide +kernel
theorem dX12_pews_36 : decode cX12_pews 36 = .ok (.getfield 32, 3) := by decide +kernel
theorem dX12_pews_39 : decode cX12_pews 39 = .ok (.iload_n 1, 1) := by decide +kernel
theorem dX12_pews_40 : decode cX12_pews 40 = .ok (.iload_n 2, 1) := by decide +kernel
theorem dX12_pews_41 : decode cX12_pews 41 = .ok (.iconst (-1), 1) := by decide +kernel
theorem dX12_pews_42 : decode cX12_pews 42 = .ok (.ixor, 1) := by decide +kernel
theorem dX12_pews_43 : decode cX12_pews 43 = .ok (.iand, 1) := by decide +kernel
theorem dX12_pews_44 : decode cX12_pews 44 = .ok (.iaload, 1) := by decide +kernel
theorem dX12_pews_45 : decode cX12_pews 45 = .ok (.iconst 1, 1) := by decide +kernel
theorem dX12_pews_46 : decode cX12_pews 46 = .ok (.iadd, 1) := by decide +kernel
theorem dX12_pews_47 : decode cX12_pews 47 = .ok (.aload_n 0, 1) := by decide +kernel
theorem dX12_pews_48 : decode cX12_pews 48 = .ok (.getfield 32, 3) := by decide +kernel
theorem dX12_pews_51 : decode cX12_pews 51 = .ok (.iload_n 1, 1) := by decide +kernel
theorem dX12_pews_52 : decode cX12_pews 52 = .ok (.iaload, 1) := by decide +kernel
theorem dX12_pews_53 : decode cX12_pews 53 = .ok (.if_icmp .ge 30, 3) := by decide +kernel
theorem dX12_pews_56 : decode cX12_pews 56 = .ok (.aload_n 0, 1) := by decide +kernel
theorem dX12_pews_57 : decode cX12_pews 57 = .ok (.iload_n 2, 1) := by decide +kernel
theorem dX12_pews_58 : decode cX12_pews 58 = .ok (.iconst 0, 1) := by decide +kernel
theorem dX12_pews_59 : decode cX12_pews 59 = .ok (.invokevirtual 202, 3) := by decide +kernel
theorem dX12_pews_62 : decode cX12_pews 62 = .ok (.ifCond .eq 21, 3) := by decide +kernel
theorem dX12_pews_65 : decode cX12_pews 65 = .ok (.aload_n 0, 1) := by decide +kernel
theorem dX12_pews_66 : decode cX12_pews 66 = .ok (.getfield 32, 3) := by decide +kernel
theorem dX12_pews_69 : decode cX12_pews 69 = .ok (.iload_n 1, 1) := by decide +kernel
theorem dX12_pews_70 : decode cX12_pews 70 = .ok (.aload_n 0, 1) := by decide +kernel
theorem dX12_pews_71 : decode cX12_pews 71 = .ok (.getfield 32, 3) := by decide +kernel
theorem dX12_pews_74 : decode cX12_pews 74 = .ok (.iload_n 1, 1) := by decide +kernel
theorem dX12_pews_75 : decode cX12_pews 75 = .ok (.iload_n 2, 1) := by decide +kernel
theorem dX12_pews_76 : decode cX12_pews 76 = .ok (.iconst (-1), 1) := by decide +kernel
theorem dX12_pews_77 : decode cX12_pews 77 = .ok (.ixor, 1) := by decide +kernel
theorem dX12_pews_78 : decode cX12_pews 78 = .ok (.iand, 1) := by decide +kernel
theorem dX12_pews_79 : decode cX12_pews 79 = .ok (.iaload, 1) := by decide +kernel
theorem dX12_pews_80 : decode cX12_pews 80 = .ok (.iconst 1, 1) := by decide +kernel
theorem dX12_pews_81 : decode cX12_pews 81 = .ok (.iadd, 1) := by decide +kernel
theorem dX12_pews_82 : decode cX12_pews 82 = .ok (.iastore, 1) := by decide +kernel
theorem dX12_pews_83 : decode cX12_pews 83 = .ok (.iload_n 2, 1) := by decide +kernel
theorem dX12_pews_84 : decode cX12_pews 84 = .ok (.iconst 1, 1) := by decide +kernel
theorem dX12_pews_85 : decode cX12_pews 85 = .ok (.isub, 1) := by decide +kernel
theorem dX12_pews_86 : decode cX12_pews 86 = .ok (.iload_n 1, 1) := by decide +kernel
theorem dX12_pews_87 : decode cX12_pews 87 = .ok (.iand, 1) := by decide +kernel
theorem dX12_pews_88 : decode cX12_pews 88 = .ok (.istore_n 2, 1) := by decide +kernel
theorem dX12_pews_89 : decode cX12_pews 89 = .ok (.goto (-58), 3) := by decide +kernel
theorem dX12_pews_92 : decode cX12_pews 92 = .ok (.iinc 1 1, 3) := by decide +kernel
theorem dX12_pews_95 : decode cX12_pews 95 = .ok (.goto (-86), 3) := by decide +kernel
theorem dX12_pews_98 : decode cX12_pews 98 = .ok (.aload_n 0, 1) := by decide +kernel
theorem dX12_pews_99 : decode cX12_pews 99 = .ok (.getfield 32, 3) := by decide +kernel
theorem dX12_pews_102 : decode cX12_pews 102 = .ok (.iconst 1, 1) := by decide +kernel
theorem dX12_pews_103 : decode cX12_pews 103 = .ok (.aload_n 0, 1) := by decide +kernel
theorem dX12_pews_104 : decode cX12_pews 104 = .ok (.getfield 9, 3) := by decide +kernel
theorem dX12_pews_107 : decode cX12_pews 107 = .ok (.iconst 0, 1) := by decide +kernel
theorem dX12_pews_108 : decode cX12_pews 108 = .ok (.iaload, 1) := by decide +kernel
theorem dX12_pews_109 : decode cX12_pews 109 = .ok (.ishl, 1) := by decide +kernel
theorem dX12_pews_110 : decode cX12_pews 110 = .ok (.iconst 1, 1) := by decide +kernel
theorem dX12_pews_111 : decode cX12_pews 111 = .ok (.isub, 1) := by decide +kernel
theorem dX12_pews_112 : decode cX12_pews 112 = .ok (.iaload, 1) := by decide +kernel
theorem dX12_pews_113 : decode cX12_pews 113 = .ok (.ireturn, 1) := by decide +kernel
theorem dX12_circle_0 : decode cX12_circle 0 = .ok (.iload_n 1, 1) := by decide +kernel
theorem dX12_circle_1 : decode cX12_circle 1 = .ok (.ifCond .ne 11, 3) := by decide +kernel
theorem dX12_circle_4 : decode cX12_circle 4 = .ok (.aload_n 0, 1) := by decide +kernel
theorem dX12_circle_5 : decode cX12_circle 5 = .ok (.iconst 1, 1) := by decide +kernel
theorem dX12_circle_6 : decode cX12_circle 6 = .ok (.invokevirtual 207, 3) := by decide +kernel
theorem dX12_circle_9 : decode cX12_circle 9 = .ok (.goto 29, 3) := by decide +kernel
theorem dX12_circle_12 : decode cX12_circle 12 = .ok (.iload_n 1, 1) := by decide +kernel
theorem dX12_circle_13 : decode cX12_circle 13 = .ok (.iconst 1, 1) := by decide +kernel
theorem dX12_circle_14 : decode cX12_circle 14 = .ok (.if_icmp .ne 11, 3) := by decide +kernel
theorem dX12_circle_17 : decode cX12_circle 17 = .ok (.aload_n 0, 1) := by decide +kernel
theorem dX12_circle_18 : decode cX12_circle 18 = .ok (.iconst 0, 1) := by decide +kernel
theorem dX12_circle_19 : decode cX12_circle 19 = .ok (.invokevirtual 207, 3) := by decide +kernel
theorem dX12_circle_22 : decode cX12_circle 22 = .ok (.goto 16, 3) := by decide +kernel
theorem dX12_circle_25 : decode cX12_circle 25 = .ok (.iload_n 1, 1) := by decide +kernel
theorem dX12_circle_26 : decode cX12_circle 26 = .ok (.iconst 2, 1) := by decide +kernel
theorem dX12_circle_27 : decode cX12_circle 27 = .ok (.if_icmp .ne 10, 3) := by decide +kernel
theorem dX12_circle_30 : decode cX12_circle 30 = .ok (.aload_n 0, 1) := by decide +kernel
theorem dX12_circle_31 : decode cX12_circle 31 = .ok (.invokevirtual 211, 3) := by decide +kernel
theorem dX12_circle_34 : decode cX12_circle 34 = .ok (.goto 4, 3) := by decide +kernel
theorem dX12_circle_37 : decode cX12_circle 37 = .ok (.iconst (-1), 1) := by decide +kernel
theorem dX12_circle_38 : decode cX12_circle 38 = .ok (.ireturn, 1) := by decide +kernel
theorem dX12_leastIn_0 : decode cX12_leastIn 0 = .ok (.iconst 0, 1) := by decide +kernel
theorem dX12_leastIn_1 : decode cX12_leastIn 1 = .ok (.istore_n 1, 1) := by decide +kernel
theorem dX12_leastIn_2 : decode cX12_leastIn 2 = .ok (.iload_n 0, 1) := by decide +kernel
theorem dX12_leastIn_3 : decode cX12_leastIn 3 = .ok (.iload_n 1, 1) := by decide +kernel
theorem dX12_leastIn_4 : decode cX12_leastIn 4 = .ok (.invokestatic 80, 3) := by decide +kernel
theorem dX12_leastIn_7 : decode cX12_leastIn 7 = .ok (.ifCond .ne 9, 3) := by decide +kernel
theorem dX12_leastIn_10 : decode cX12_leastIn 10 = .ok (.iinc 1 1, 3) := by decide +kernel
theorem dX12_leastIn_13 : decode cX12_leastIn 13 = .ok (.goto (-11), 3) := by decide +kernel
theorem dX12_leastIn_16 : decode cX12_leastIn 16 = .ok (.iload_n 1, 1) := by decide +kernel
theorem dX12_leastIn_17 : decode cX12_leastIn 17 = .ok (.ireturn, 1) := by decide +kernel
theorem dX12_warms_0 : decode cX12_warms 0 = .ok (.aload_n 0, 1) := by decide +kernel
theorem dX12_warms_1 : decode cX12_warms 1 = .ok (.getfield 32, 3) := by decide +kernel
theorem dX12_warms_4 : decode cX12_warms 4 = .ok (.iconst 0, 1) := by decide +kernel
theorem dX12_warms_5 : decode cX12_warms 5 = .ok (.iconst 0, 1) := by decide +kernel
theorem dX12_warms_6 : decode cX12_warms 6 = .ok (.iastore, 1) := by decide +kernel
theorem dX12_warms_7 : decode cX12_warms 7 = .ok (.iconst 1, 1) := by decide +kernel
theorem dX12_warms_8 : decode cX12_warms 8 = .ok (.istore_n 1, 1) := by decide +kernel
theorem dX12_warms_9 : decode cX12_warms 9 = .ok (.iload_n 1, 1) := by decide +kernel
theorem dX12_warms_10 : decode cX12_warms 10 = .ok (.iconst 1, 1) := by decide +kernel
theorem dX12_warms_11 : decode cX12_warms 11 = .ok (.aload_n 0, 1) := by decide +kernel
theorem dX12_warms_12 : decode cX12_warms 12 = .ok (.getfield 9, 3) := by decide +kernel
theorem dX12_warms_15 : decode cX12_warms 15 = .ok (.iconst 0, 1) := by decide +kernel
theorem dX12_warms_16 : decode cX12_warms 16 = .ok (.iaload, 1) := by decide +kernel
theorem dX12_warms_17 : decode cX12_warms 17 = .ok (.ishl, 1) := by decide +kernel
theorem dX12_warms_18 : decode cX12_warms 18 = .ok (.if_icmp .ge 122, 3) := by decide +kernel
theorem dX12_warms_21 : decode cX12_warms 21 = .ok (.iload_n 1, 1) := by decide +kernel
theorem dX12_warms_22 : decode cX12_warms 22 = .ok (.invokestatic 214, 3) := by decide +kernel
theorem dX12_warms_25 : decode cX12_warms 25 = .ok (.istore_n 2, 1) := by decide +kernel
theorem dX12_warms_26 : decode cX12_warms 26 = .ok (.aload_n 0, 1) := by decide +kernel
theorem dX12_warms_27 : decode cX12_warms 27 = .ok (.getfield 32, 3) := by decide +kernel
theorem dX12_warms_30 : decode cX12_warms 30 = .ok (.iload_n 1, 1) := by decide +kernel
theorem dX12_warms_31 : decode cX12_warms 31 = .ok (.iconst 1, 1) := by decide +kernel
theorem dX12_warms_32 : decode cX12_warms 32 = .ok (.iload_n 2, 1) := by decide +kernel
theorem dX12_warms_33 : decode cX12_warms 33 = .ok (.ishl, 1) := by decide +kernel
theorem dX12_warms_34 : decode cX12_warms 34 = .ok (.iconst (-1), 1) := by decide +kernel
theorem dX12_warms_35 : decode cX12_warms 35 = .ok (.ixor, 1) := by decide +kernel
theorem dX12_warms_36 : decode cX12_warms 36 = .ok (.iand, 1) := by decide +kernel
theorem dX12_warms_37 : decode cX12_warms 37 = .ok (.iaload, 1) := by decide +kernel
theorem dX12_warms_38 : decode cX12_warms 38 = .ok (.istore_n 3, 1) := by decide +kernel
theorem dX12_warms_39 : decode cX12_warms 39 = .ok (.iload_n 2, 1) := by decide +kernel
theorem dX12_warms_40 : decode cX12_warms 40 = .ok (.iconst 1, 1) := by decide +kernel
theorem dX12_warms_41 : decode cX12_warms 41 = .ok (.iadd, 1) := by decide +kernel
theorem dX12_warms_42 : decode cX12_warms 42 = .ok (.istore 4, 2) := by decide +kernel
theorem dX12_warms_44 : decode cX12_warms 44 = .ok (.iload 4, 2) := by decide +kernel
theorem dX12_warms_46 : decode cX12_warms 46 = .ok (.aload_n 0, 1) := by decide +kernel
theorem dX12_warms_47 : decode cX12_warms 47 = .ok (.getfield 9, 3) := by decide +kernel
theorem dX12_warms_50 : decode cX12_warms 50 = .ok (.iconst 0, 1) := by decide +kernel
theorem dX12_warms_51 : decode cX12_warms 51 = .ok (.iaload, 1) := by decide +kernel
theorem dX12_warms_52 : decode cX12_warms 52 = .ok (.if_icmp .ge 75, 3) := by decide +kernel
theorem dX12_warms_55 : decode cX12_warms 55 = .ok (.iload_n 1, 1) := by decide +kernel
theorem dX12_warms_56 : decode cX12_warms 56 = .ok (.iload 4, 2) := by decide +kernel
theorem dX12_warms_58 : decode cX12_warms 58 = .ok (.invokestatic 80, 3) := by decide +kernel
theorem dX12_warms_61 : decode cX12_warms 61 = .ok (.ifCond .eq 60, 3) := by decide +kernel
theorem dX12_warms_64 : decode cX12_warms 64 = .ok (.aload_n 0, 1) := by decide +kernel
theorem dX12_warms_65 : decode cX12_warms 65 = .ok (.getfield 9, 3) := by decide +kernel
theorem dX12_warms_68 : decode cX12_warms 68 = .ok (.iload_n 2, 1) := by decide +kernel
theorem dX12_warms_69 : decode cX12_warms 69 = .ok (.iconst 2, 1) := by decide +kernel
theorem dX12_warms_70 : decode cX12_warms 70 = .ok (.invokestatic 64, 3) := by decide +kernel
theorem dX12_warms_73 : decode cX12_warms 73 = .ok (.iaload, 1) := by decide +kernel
theorem dX12_warms_74 : decode cX12_warms 74 = .ok (.iload 4, 2) := by decide +kernel
theorem dX12_warms_76 : decode cX12_warms 76 = .ok (.invokestatic 80, 3) := by decide +kernel
theorem dX12_warms_79 : decode cX12_warms 79 = .ok (.ifCond .ne 6, 3) := by decide +kernel
theorem dX12_warms_82 : decode cX12_warms 82 = .ok (.goto 39, 3) := by decide +kernel
theorem dX12_warms_85 : decode cX12_warms 85 = .ok (.iconst 1, 1) := by decide +kernel
theorem dX12_warms_86 : decode cX12_warms 86 = .ok (.aload_n 0, 1) := by decide +kernel
theorem dX12_warms_87 : decode cX12_warms 87 = .ok (.getfield 32, 3) := by decide +kernel
theorem dX12_warms_90 : decode cX12_warms 90 = .ok (.iload_n 1, 1) := by decide +kernel
theorem dX12_warms_91 : decode cX12_warms 91 = .ok (.iconst 1, 1) := by decide +kernel
theorem dX12_warms_92 : decode cX12_warms 92 = .ok (.iload_n 2, 1) := by decide +kernel
theorem dX12_warms_93 : decode cX12_warms 93 = .ok (.ishl, 1) := by decide +kernel
theorem dX12_warms_94 : decode cX12_warms 94 = .ok (.iconst (-1), 1) := by decide +kernel
theorem dX12_warms_95 : decode cX12_warms 95 = .ok (.ixor, 1) := by decide +kernel
theorem dX12_warms_96 : decode cX12_warms 96 = .ok (.iand, 1) := by decide +kernel
theorem dX12_warms_97 : decode cX12_warms 97 = .ok (.iconst 1, 1) := by decide +kernel
theorem dX12_warms_98 : decode cX12_warms 98 = .ok (.iload 4, 2) := by decide +kernel
theorem dX12_warms_100 : decode cX12_warms 100 = .ok (.ishl, 1) := by decide +kernel
theorem dX12_warms_101 : decode cX12_warms 101 = .ok (.iconst (-1), 1) := by decide +kernel
theorem dX12_warms_102 : decode cX12_warms 102 = .ok (.ixor, 1) := by decide +kernel
theorem dX12_warms_103 : decode cX12_warms 103 = .ok (.iand, 1) := by decide +kernel
theorem dX12_warms_104 : decode cX12_warms 104 = .ok (.iaload, 1) := by decide +kernel
theorem dX12_warms_105 : decode cX12_warms 105 = .ok (.iadd, 1) := by decide +kernel
theorem dX12_warms_106 : decode cX12_warms 106 = .ok (.istore 5, 2) := by decide +kernel
theorem dX12_warms_108 : decode cX12_warms 108 = .ok (.iload 5, 2) := by decide +kernel
theorem dX12_warms_110 : decode cX12_warms 110 = .ok (.iload_n 3, 1) := by decide +kernel
theorem dX12_warms_111 : decode cX12_warms 111 = .ok (.if_icmp .le 8, 3) := by decide +kernel
theorem dX12_warms_114 : decode cX12_warms 114 = .ok (.iload 5, 2) := by decide +kernel
theorem dX12_warms_116 : decode cX12_warms 116 = .ok (.goto 4, 3) := by decide +kernel
theorem dX12_warms_119 : decode cX12_warms 119 = .ok (.iload_n 3, 1) := by decide +kernel
theorem dX12_warms_120 : decode cX12_warms 120 = .ok (.istore_n 3, 1) := by decide +kernel
theorem dX12_warms_121 : decode cX12_warms 121 = .ok (.iinc 4 1, 3) := by decide +kernel
theorem dX12_warms_124 : decode cX12_warms 124 = .ok (.goto (-80), 3) := by decide +kernel
theorem dX12_warms_127 : decode cX12_warms 127 = .ok (.aload_n 0, 1) := by decide +kernel
theorem dX12_warms_128 : decode cX12_warms 128 = .ok (.getfield 32, 3) := by decide +kernel
theorem dX12_warms_131 : decode cX12_warms 131 = .ok (.iload_n 1, 1) := by decide +kernel
theorem dX12_warms_132 : decode cX12_warms 132 = .ok (.iload_n 3, 1) := by decide +kernel
theorem dX12_warms_133 : decode cX12_warms 133 = .ok (.iastore, 1) := by decide +kernel
theorem dX12_warms_134 : decode cX12_warms 134 = .ok (.iinc 1 1, 3) := by decide +kernel
theorem dX12_warms_137 : decode cX12_warms 137 = .ok (.goto (-128), 3) := by decide +kernel
theorem dX12_warms_140 : decode cX12_warms 140 = .ok (.return_, 1) := by decide +kernel
theorem dX12_beside_0 : decode cX12_beside 0 = .ok (.iload_n 1, 1) := by decide +kernel
theorem dX12_beside_1 : decode cX12_beside 1 = .ok (.invokestatic 214, 3) := by decide +kernel
theorem dX12_beside_4 : decode cX12_beside 4 = .ok (.istore_n 2, 1) := by decide +kernel
theorem dX12_beside_5 : decode cX12_beside 5 = .ok (.iload_n 2, 1) := by decide +kernel
theorem dX12_beside_6 : decode cX12_beside 6 = .ok (.iconst 1, 1) := by decide +kernel
theorem dX12_beside_7 : decode cX12_beside 7 = .ok (.iadd, 1) := by decide +kernel
theorem dX12_beside_8 : decode cX12_beside 8 = .ok (.istore_n 3, 1) := by decide +kernel
theorem dX12_beside_9 : decode cX12_beside 9 = .ok (.iload_n 3, 1) := by decide +kernel
theorem dX12_beside_10 : decode cX12_beside 10 = .ok (.aload_n 0, 1) := by decide +kernel
theorem dX12_beside_11 : decode cX12_beside 11 = .ok (.getfield 9, 3) := by decide +kernel
theorem dX12_beside_14 : decode cX12_beside 14 = .ok (.iconst 0, 1) := by decide +kernel
theorem dX12_beside_15 : decode cX12_beside 15 = .ok (.iaload, 1) := by decide +kernel
theorem dX12_beside_16 : decode cX12_beside 16 = .ok (.if_icmp .ge 65, 3) := by decide +kernel
theorem dX12_beside_19 : decode cX12_beside 19 = .ok (.iload_n 1, 1) := by decide +kernel
theorem dX12_beside_20 : decode cX12_beside 20 = .ok (.iload_n 3, 1) := by decide +kernel
theorem dX12_beside_21 : decode cX12_beside 21 = .ok (.invokestatic 80, 3) := by decide +kernel
theorem dX12_beside_24 : decode cX12_beside 24 = .ok (.ifCond .eq 51, 3) := by decide +kernel
theorem dX12_beside_27 : decode cX12_beside 27 = .ok (.aload_n 0, 1) := by decide +kernel
theorem dX12_beside_28 : decode cX12_beside 28 = .ok (.getfield 9, 3) := by decide +kernel
theorem dX12_beside_31 : decode cX12_beside 31 = .ok (.iload_n 2, 1) := by decide +kernel
theorem dX12_beside_32 : decode cX12_beside 32 = .ok (.iconst 2, 1) := by decide +kernel
theorem dX12_beside_33 : decode cX12_beside 33 = .ok (.invokestatic 64, 3) := by decide +kernel
theorem dX12_beside_36 : decode cX12_beside 36 = .ok (.iaload, 1) := by decide +kernel
theorem dX12_beside_37 : decode cX12_beside 37 = .ok (.iload_n 3, 1) := by decide +kernel
theorem dX12_beside_38 : decode cX12_beside 38 = .ok (.invokestatic 80, 3) := by decide +kernel
theorem dX12_beside_41 : decode cX12_beside 41 = .ok (.ifCond .eq 34, 3) := by decide +kernel
theorem dX12_beside_44 : decode cX12_beside 44 = .ok (.iconst 1, 1) := by decide +kernel
theorem dX12_beside_45 : decode cX12_beside 45 = .ok (.aload_n 0, 1) := by decide +kernel
theorem dX12_beside_46 : decode cX12_beside 46 = .ok (.getfield 32, 3) := by decide +kernel
theorem dX12_beside_49 : decode cX12_beside 49 = .ok (.iload_n 1, 1) := by decide +kernel
theorem dX12_beside_50 : decode cX12_beside 50 = .ok (.iconst 1, 1) := by decide +kernel
theorem dX12_beside_51 : decode cX12_beside 51 = .ok (.iload_n 2, 1) := by decide +kernel
theorem dX12_beside_52 : decode cX12_beside 52 = .ok (.ishl, 1) := by decide +kernel
theorem dX12_beside_53 : decode cX12_beside 53 = .ok (.iconst (-1), 1) := by decide +kernel
theorem dX12_beside_54 : decode cX12_beside 54 = .ok (.ixor, 1) := by decide +kernel
theorem dX12_beside_55 : decode cX12_beside 55 = .ok (.iand, 1) := by decide +kernel
theorem dX12_beside_56 : decode cX12_beside 56 = .ok (.iconst 1, 1) := by decide +kernel
theorem dX12_beside_57 : decode cX12_beside 57 = .ok (.iload_n 3, 1) := by decide +kernel
theorem dX12_beside_58 : decode cX12_beside 58 = .ok (.ishl, 1) := by decide +kernel
theorem dX12_beside_59 : decode cX12_beside 59 = .ok (.iconst (-1), 1) := by decide +kernel
theorem dX12_beside_60 : decode cX12_beside 60 = .ok (.ixor, 1) := by decide +kernel
theorem dX12_beside_61 : decode cX12_beside 61 = .ok (.iand, 1) := by decide +kernel
theorem dX12_beside_62 : decode cX12_beside 62 = .ok (.iaload, 1) := by decide +kernel
theorem dX12_beside_63 : decode cX12_beside 63 = .ok (.iadd, 1) := by decide +kernel
theorem dX12_beside_64 : decode cX12_beside 64 = .ok (.aload_n 0, 1) := by decide +kernel
theorem dX12_beside_65 : decode cX12_beside 65 = .ok (.getfield 32, 3) := by decide +kernel
theorem dX12_beside_68 : decode cX12_beside 68 = .ok (.iload_n 1, 1) := by decide +kernel
theorem dX12_beside_69 : decode cX12_beside 69 = .ok (.iaload, 1) := by decide +kernel
theorem dX12_beside_70 : decode cX12_beside 70 = .ok (.if_icmp .ne 5, 3) := by decide +kernel
theorem dX12_beside_73 : decode cX12_beside 73 = .ok (.iload_n 3, 1) := by decide +kernel
theorem dX12_beside_74 : decode cX12_beside 74 = .ok (.ireturn, 1) := by decide +kernel
theorem dX12_beside_75 : decode cX12_beside 75 = .ok (.iinc 3 1, 3) := by decide +kernel
theorem dX12_beside_78 : decode cX12_beside 78 = .ok (.goto (-69), 3) := by decide +kernel
theorem dX12_beside_81 : decode cX12_beside 81 = .ok (.bipush (-4), 2) := by decide +kernel
theorem dX12_beside_83 : decode cX12_beside 83 = .ok (.ireturn, 1) := by decide +kernel
theorem dX12_fire_0 : decode cX12_fire 0 = .ok (.iload_n 1, 1) := by decide +kernel
theorem dX12_fire_1 : decode cX12_fire 1 = .ok (.iconst (-1), 1) := by decide +kernel
theorem dX12_fire_2 : decode cX12_fire 2 = .ok (.if_icmp .eq 13, 3) := by decide +kernel
theorem dX12_fire_5 : decode cX12_fire 5 = .ok (.aload_n 0, 1) := by decide +kernel
theorem dX12_fire_6 : decode cX12_fire 6 = .ok (.iload_n 1, 1) := by decide +kernel
theorem dX12_fire_7 : decode cX12_fire 7 = .ok (.invokevirtual 60, 3) := by decide +kernel
theorem dX12_fire_10 : decode cX12_fire 10 = .ok (.ifCond .ne 5, 3) := by decide +kernel
theorem dX12_fire_13 : decode cX12_fire 13 = .ok (.iconst (-1), 1) := by decide +kernel
theorem dX12_fire_14 : decode cX12_fire 14 = .ok (.ireturn, 1) := by decide +kernel
theorem dX12_fire_15 : decode cX12_fire 15 = .ok (.aload_n 0, 1) := by decide +kernel
theorem dX12_fire_16 : decode cX12_fire 16 = .ok (.invokevirtual 217, 3) := by decide +kernel
theorem dX12_fire_19 : decode cX12_fire 19 = .ok (.iconst 1, 1) := by decide +kernel
theorem dX12_fire_20 : decode cX12_fire 20 = .ok (.aload_n 0, 1) := by decide +kernel
theorem dX12_fire_21 : decode cX12_fire 21 = .ok (.getfield 9, 3) := by decide +kernel
theorem dX12_fire_24 : decode cX12_fire 24 = .ok (.iconst 0, 1) := by decide +kernel
theorem dX12_fire_25 : decode cX12_fire 25 = .ok (.iaload, 1) := by decide +kernel
theorem dX12_fire_26 : decode cX12_fire 26 = .ok (.ishl, 1) := by decide +kernel
theorem dX12_fire_27 : decode cX12_fire 27 = .ok (.iconst 1, 1) := by decide +kernel
theorem dX12_fire_28 : decode cX12_fire 28 = .ok (.isub, 1) := by decide +kernel
theorem dX12_fire_29 : decode cX12_fire 29 = .ok (.istore_n 2, 1) := by decide +kernel
theorem dX12_fire_30 : decode cX12_fire 30 = .ok (.iload_n 1, 1) := by decide +kernel
theorem dX12_fire_31 : decode cX12_fire 31 = .ok (.ifCond .ge 10, 3) := by decide +kernel
theorem dX12_fire_34 : decode cX12_fire 34 = .ok (.aload_n 0, 1) := by decide +kernel
theorem dX12_fire_35 : decode cX12_fire 35 = .ok (.getfield 32, 3) := by decide +kernel
theorem dX12_fire_38 : decode cX12_fire 38 = .ok (.iload_n 2, 1) := by decide +kernel
theorem dX12_fire_39 : decode cX12_fire 39 = .ok (.iaload, 1) := by decide +kernel
theorem dX12_fire_40 : decode cX12_fire 40 = .ok (.ireturn, 1) := by decide +kernel
theorem dX12_fire_41 : decode cX12_fire 41 = .ok (.iload_n 2, 1) := by decide +kernel
theorem dX12_fire_42 : decode cX12_fire 42 = .ok (.ifCond .eq 60, 3) := by decide +kernel
theorem dX12_fire_45 : decode cX12_fire 45 = .ok (.iload_n 2, 1) := by decide +kernel
theorem dX12_fire_46 : decode cX12_fire 46 = .ok (.invokestatic 214, 3) := by decide +kernel
theorem dX12_fire_49 : decode cX12_fire 49 = .ok (.istore_n 3, 1) := by decide +kernel
theorem dX12_fire_50 : decode cX12_fire 50 = .ok (.aload_n 0, 1) := by decide +kernel
theorem dX12_fire_51 : decode cX12_fire 51 = .ok (.iload_n 2, 1) := by decide +kernel
theorem dX12_fire_52 : decode cX12_fire 52 = .ok (.invokevirtual 220, 3) := by decide +kernel
theorem dX12_fire_55 : decode cX12_fire 55 = .ok (.istore 4, 2) := by decide +kernel
theorem dX12_fire_57 : decode cX12_fire 57 = .ok (.iload_n 3, 1) := by decide +kernel
theorem dX12_fire_58 : decode cX12_fire 58 = .ok (.iload_n 1, 1) := by decide +kernel
theorem dX12_fire_59 : decode cX12_fire 59 = .ok (.if_icmp .ne 6, 3) := by decide +kernel
theorem dX12_fire_62 : decode cX12_fire 62 = .ok (.iload 4, 2) := by decide +kernel
theorem dX12_fire_64 : decode cX12_fire 64 = .ok (.ireturn, 1) := by decide +kernel
theorem dX12_fire_65 : decode cX12_fire 65 = .ok (.iload 4, 2) := by decide +kernel
theorem dX12_fire_67 : decode cX12_fire 67 = .ok (.iload_n 1, 1) := by decide +kernel
theorem dX12_fire_68 : decode cX12_fire 68 = .ok (.if_icmp .ne 5, 3) := by decide +kernel
theorem dX12_fire_71 : decode cX12_fire 71 = .ok (.iload_n 3, 1) := by decide +kernel
theorem dX12_fire_72 : decode cX12_fire 72 = .ok (.ireturn, 1) := by decide +kernel
theorem dX12_fire_73 : decode cX12_fire 73 = .ok (.iload_n 2, 1) := by decide +kernel
theorem dX12_fire_74 : decode cX12_fire 74 = .ok (.iload 4, 2) := by decide +kernel
theorem dX12_fire_76 : decode cX12_fire 76 = .ok (.ifCond .ge 11, 3) := by decide +kernel
theorem dX12_fire_79 : decode cX12_fire 79 = .ok (.iconst 1, 1) := by decide +kernel
theorem dX12_fire_80 : decode cX12_fire 80 = .ok (.iload_n 3, 1) := by decide +kernel
theorem dX12_fire_81 : decode cX12_fire 81 = .ok (.ishl, 1) := by decide +kernel
theorem dX12_fire_82 : decode cX12_fire 82 = .ok (.iconst (-1), 1) := by decide +kernel
theorem dX12_fire_83 : decode cX12_fire 83 = .ok (.ixor, 1) := by decide +kernel
theorem dX12_fire_84 : decode cX12_fire 84 = .ok (.goto 13, 3) := by decide +kernel
theorem dX12_fire_87 : decode cX12_fire 87 = .ok (.iconst 1, 1) := by decide +kernel
theorem dX12_fire_88 : decode cX12_fire 88 = .ok (.iload_n 3, 1) := by decide +kernel
theorem dX12_fire_89 : decode cX12_fire 89 = .ok (.ishl, 1) := by decide +kernel
theorem dX12_fire_90 : decode cX12_fire 90 = .ok (.iconst 1, 1) := by decide +kernel
theorem dX12_fire_91 : decode cX12_fire 91 = .ok (.iload 4, 2) := by decide +kernel
theorem dX12_fire_93 : decode cX12_fire 93 = .ok (.ishl, 1) := by decide +kernel
theorem dX12_fire_94 : decode cX12_fire 94 = .ok (.ior, 1) := by decide +kernel
theorem dX12_fire_95 : decode cX12_fire 95 = .ok (.iconst (-1), 1) := by decide +kernel
theorem dX12_fire_96 : decode cX12_fire 96 = .ok (.ixor, 1) := by decide +kernel
theorem dX12_fire_97 : decode cX12_fire 97 = .ok (.iand, 1) := by decide +kernel
theorem dX12_fire_98 : decode cX12_fire 98 = .ok (.istore_n 2, 1) := by decide +kernel
theorem dX12_fire_99 : decode cX12_fire 99 = .ok (.goto (-58), 3) := by decide +kernel
theorem dX12_fire_102 : decode cX12_fire 102 = .ok (.bipush (-4), 2) := by decide +kernel
theorem dX12_fire_104 : decode cX12_fire 104 = .ok (.ireturn, 1) := by decide +kernel
theorem dX12_greatestTold_0 : decode cX12_greatestTold 0 = .ok (.iconst 0, 1) := by decide +kernel
theorem dX12_greatestTold_1 : decode cX12_greatestTold 1 = .ok (.istore_n 2, 1) := by decide +kernel
theorem dX12_greatestTold_2 : decode cX12_greatestTold 2 = .ok (.iconst 0, 1) := by decide +kernel
theorem dX12_greatestTold_3 : decode cX12_greatestTold 3 = .ok (.istore_n 3, 1) := by decide +kernel
theorem dX12_greatestTold_4 : decode cX12_greatestTold 4 = .ok (.iload_n 3, 1) := by decide +kernel
theorem dX12_greatestTold_5 : decode cX12_greatestTold 5 = .ok (.iload_n 1, 1) := by decide +kernel
theorem dX12_greatestTold_6 : decode cX12_greatestTold 6 = .ok (.if_icmp .ge 26, 3) := by decide +kernel
theorem dX12_greatestTold_9 : decode cX12_greatestTold 9 = .ok (.aload_n 0, 1) := by decide +kernel
theorem dX12_greatestTold_10 : decode cX12_greatestTold 10 = .ok (.getfield 35, 3) := by decide +kernel
theorem dX12_greatestTold_13 : decode cX12_greatestTold 13 = .ok (.iload_n 3, 1) := by decide +kernel
theorem dX12_greatestTold_14 : decode cX12_greatestTold 14 = .ok (.iaload, 1) := by decide +kernel
theorem dX12_greatestTold_15 : decode cX12_greatestTold 15 = .ok (.aload_n 0, 1) := by decide +kernel
theorem dX12_greatestTold_16 : decode cX12_greatestTold 16 = .ok (.getfield 35, 3) := by decide +kernel
theorem dX12_greatestTold_19 : decode cX12_greatestTold 19 = .ok (.iload_n 2, 1) := by decide +kernel
theorem dX12_greatestTold_20 : decode cX12_greatestTold 20 = .ok (.iaload, 1) := by decide +kernel
theorem dX12_greatestTold_21 : decode cX12_greatestTold 21 = .ok (.if_icmp .le 5, 3) := by decide +kernel
theorem dX12_greatestTold_24 : decode cX12_greatestTold 24 = .ok (.iload_n 3, 1) := by decide +kernel
theorem dX12_greatestTold_25 : decode cX12_greatestTold 25 = .ok (.istore_n 2, 1) := by decide +kernel
theorem dX12_greatestTold_26 : decode cX12_greatestTold 26 = .ok (.iinc 3 1, 3) := by decide +kernel
theorem dX12_greatestTold_29 : decode cX12_greatestTold 29 = .ok (.goto (-25), 3) := by decide +kernel
theorem dX12_greatestTold_32 : decode cX12_greatestTold 32 = .ok (.iload_n 2, 1) := by decide +kernel
theorem dX12_greatestTold_33 : decode cX12_greatestTold 33 = .ok (.ireturn, 1) := by decide +kernel
theorem dX12_could_0 : decode cX12_could 0 = .ok (.aload_n 0, 1) := by decide +kernel
theorem dX12_could_1 : decode cX12_could 1 = .ok (.iload_n 1, 1) := by decide +kernel
theorem dX12_could_2 : decode cX12_could 2 = .ok (.iconst (-1), 1) := by decide +kernel
theorem dX12_could_3 : decode cX12_could 3 = .ok (.invokevirtual 134, 3) := by decide +kernel
theorem dX12_could_6 : decode cX12_could 6 = .ok (.istore_n 2, 1) := by decide +kernel
theorem dX12_could_7 : decode cX12_could 7 = .ok (.iload_n 2, 1) := by decide +kernel
theorem dX12_could_8 : decode cX12_could 8 = .ok (.ifCond .eq 5, 3) := by decide +kernel
theorem dX12_could_11 : decode cX12_could 11 = .ok (.iload_n 2, 1) := by decide +kernel
theorem dX12_could_12 : decode cX12_could 12 = .ok (.ireturn, 1) := by decide +kernel
theorem dX12_could_13 : decode cX12_could 13 = .ok (.aload_n 0, 1) := by decide +kernel
theorem dX12_could_14 : decode cX12_could 14 = .ok (.getfield 50, 3) := by decide +kernel
theorem dX12_could_17 : decode cX12_could 17 = .ok (.iload_n 1, 1) := by decide +kernel
theorem dX12_could_18 : decode cX12_could 18 = .ok (.iaload, 1) := by decide +kernel
theorem dX12_could_19 : decode cX12_could 19 = .ok (.istore_n 3, 1) := by decide +kernel
theorem dX12_could_20 : decode cX12_could 20 = .ok (.iload_n 3, 1) := by decide +kernel
theorem dX12_could_21 : decode cX12_could 21 = .ok (.bipush 9, 2) := by decide +kernel
theorem dX12_could_23 : decode cX12_could 23 = .ok (.if_icmp .le 5, 3) := by decide +kernel
theorem dX12_could_26 : decode cX12_could 26 = .ok (.iconst 0, 1) := by decide +kernel
theorem dX12_could_27 : decode cX12_could 27 = .ok (.ireturn, 1) := by decide +kernel
theorem dX12_could_28 : decode cX12_could 28 = .ok (.iconst 0, 1) := by decide +kernel
theorem dX12_could_29 : decode cX12_could 29 = .ok (.istore 4, 2) := by decide +kernel
theorem dX12_could_31 : decode cX12_could 31 = .ok (.iload 4, 2) := by decide +kernel
theorem dX12_could_33 : decode cX12_could 33 = .ok (.iload_n 3, 1) := by decide +kernel
theorem dX12_could_34 : decode cX12_could 34 = .ok (.if_icmp .ge 46, 3) := by decide +kernel
theorem dX12_could_37 : decode cX12_could 37 = .ok (.aload_n 0, 1) := by decide +kernel
theorem dX12_could_38 : decode cX12_could 38 = .ok (.getfield 35, 3) := by decide +kernel
theorem dX12_could_41 : decode cX12_could 41 = .ok (.iload 4, 2) := by decide +kernel
theorem dX12_could_43 : decode cX12_could 43 = .ok (.aload_n 0, 1) := by decide +kernel
theorem dX12_could_44 : decode cX12_could 44 = .ok (.getfield 53, 3) := by decide +kernel
theorem dX12_could_47 : decode cX12_could 47 = .ok (.bipush 100, 2) := by decide +kernel
theorem dX12_could_49 : decode cX12_could 49 = .ok (.iload_n 1, 1) := by decide +kernel
theorem dX12_could_50 : decode cX12_could 50 = .ok (.imul, 1) := by decide +kernel
theorem dX12_could_51 : decode cX12_could 51 = .ok (.iload 4, 2) := by decide +kernel
theorem dX12_could_53 : decode cX12_could 53 = .ok (.iadd, 1) := by decide +kernel
theorem dX12_could_54 : decode cX12_could 54 = .ok (.iaload, 1) := by decide +kernel
theorem dX12_could_55 : decode cX12_could 55 = .ok (.iastore, 1) := by decide +kernel
theorem dX12_could_56 : decode cX12_could 56 = .ok (.aload_n 0, 1) := by decide +kernel
theorem dX12_could_57 : decode cX12_could 57 = .ok (.getfield 35, 3) := by decide +kernel
theorem dX12_could_60 : decode cX12_could 60 = .ok (.iload 4, 2) := by decide +kernel
theorem dX12_could_62 : decode cX12_could 62 = .ok (.iaload, 1) := by decide +kernel
theorem dX12_could_63 : decode cX12_could 63 = .ok (.iconst 0, 1) := by decide +kernel
theorem dX12_could_64 : decode cX12_could 64 = .ok (.bipush 8, 2) := by decide +kernel
theorem dX12_could_66 : decode cX12_could 66 = .ok (.invokestatic 56, 3) := by decide +kernel
theorem dX12_could_69 : decode cX12_could 69 = .ok (.ifCond .ne 5, 3) := by decide +kernel
theorem dX12_could_72 : decode cX12_could 72 = .ok (.iconst 0, 1) := by decide +kernel
theorem dX12_could_73 : decode cX12_could 73 = .ok (.ireturn, 1) := by decide +kernel
theorem dX12_could_74 : decode cX12_could 74 = .ok (.iinc 4 1, 3) := by decide +kernel
theorem dX12_could_77 : decode cX12_could 77 = .ok (.goto (-46), 3) := by decide +kernel
theorem dX12_could_80 : decode cX12_could 80 = .ok (.iconst 0, 1) := by decide +kernel
theorem dX12_could_81 : decode cX12_could 81 = .ok (.istore 4, 2) := by decide +kernel
theorem dX12_could_83 : decode cX12_could 83 = .ok (.iload 4, 2) := by decide +kernel
theorem dX12_could_85 : decode cX12_could 85 = .ok (.iload_n 3, 1) := by decide +kernel
theorem dX12_could_86 : decode cX12_could 86 = .ok (.if_icmp .ge 141, 3) := by decide +kernel
theorem dX12_could_89 : decode cX12_could 89 = .ok (.aload_n 0, 1) := by decide +kernel
theorem dX12_could_90 : decode cX12_could 90 = .ok (.iload_n 3, 1) := by decide +kernel
theorem dX12_could_91 : decode cX12_could 91 = .ok (.invokevirtual 223, 3) := by decide +kernel
theorem dX12_could_94 : decode cX12_could 94 = .ok (.istore 5, 2) := by decide +kernel
theorem dX12_could_96 : decode cX12_could 96 = .ok (.aload_n 0, 1) := by decide +kernel
theorem dX12_could_97 : decode cX12_could 97 = .ok (.getfield 35, 3) := by decide +kernel
theorem dX12_could_100 : decode cX12_could 100 = .ok (.iload 5, 2) := by decide +kernel
theorem dX12_could_102 : decode cX12_could 102 = .ok (.iaload, 1) := by decide +kernel
theorem dX12_could_103 : decode cX12_could 103 = .ok (.istore 6, 2) := by decide +kernel
theorem dX12_could_105 : decode cX12_could 105 = .ok (.iconst 1, 1) := by decide +kernel
theorem dX12_could_106 : decode cX12_could 106 = .ok (.iload 5, 2) := by decide +kernel
theorem dX12_could_108 : decode cX12_could 108 = .ok (.ishl, 1) := by decide +kernel
theorem dX12_could_109 : decode cX12_could 109 = .ok (.istore 7, 2) := by decide +kernel
theorem dX12_could_111 : decode cX12_could 111 = .ok (.aload_n 0, 1) := by decide +kernel
theorem dX12_could_112 : decode cX12_could 112 = .ok (.getfield 35, 3) := by decide +kernel
theorem dX12_could_115 : decode cX12_could 115 = .ok (.iload 5, 2) := by decide +kernel
theorem dX12_could_117 : decode cX12_could 117 = .ok (.iconst 0, 1) := by decide +kernel
theorem dX12_could_118 : decode cX12_could 118 = .ok (.iastore, 1) := by decide +kernel
theorem dX12_could_119 : decode cX12_could 119 = .ok (.iload 6, 2) := by decide +kernel
theorem dX12_could_121 : decode cX12_could 121 = .ok (.ifCond .le 100, 3) := by decide +kernel
theorem dX12_could_124 : decode cX12_could 124 = .ok (.iconst (-1), 1) := by decide +kernel
theorem dX12_could_125 : decode cX12_could 125 = .ok (.istore 8, 2) := by decide +kernel
theorem dX12_could_127 : decode cX12_could 127 = .ok (.iconst 0, 1) := by decide +kernel
theorem dX12_could_128 : decode cX12_could 128 = .ok (.istore 9, 2) := by decide +kernel
theorem dX12_could_130 : decode cX12_could 130 = .ok (.iload 9, 2) := by decide +kernel
theorem dX12_could_132 : decode cX12_could 132 = .ok (.iload_n 3, 1) := by decide +kernel
theorem dX12_could_133 : decode cX12_could 133 = .ok (.if_icmp .ge 55, 3) := by decide +kernel
theorem dX12_could_136 : decode cX12_could 136 = .ok (.iload 7, 2) := by decide +kernel
theorem dX12_could_138 : decode cX12_could 138 = .ok (.iload 9, 2) := by decide +kernel
theorem dX12_could_140 : decode cX12_could 140 = .ok (.invokestatic 80, 3) := by decide +kernel
theorem dX12_could_143 : decode cX12_could 143 = .ok (.ifCond .ne 39, 3) := by decide +kernel
theorem dX12_could_146 : decode cX12_could 146 = .ok (.aload_n 0, 1) := by decide +kernel
theorem dX12_could_147 : decode cX12_could 147 = .ok (.getfield 35, 3) := by decide +kernel
theorem dX12_could_150 : decode cX12_could 150 = .ok (.iload 9, 2) := by decide +kernel
theorem dX12_could_152 : decode cX12_could 152 = .ok (.iaload, 1) := by decide +kernel
theorem dX12_could_153 : decode cX12_could 153 = .ok (.ifCond .le 29, 3) := by decide +kernel
theorem dX12_could_156 : decode cX12_could 156 = .ok (.iload 8, 2) := by decide +kernel
theorem dX12_could_158 : decode cX12_could 158 = .ok (.ifCond .lt 20, 3) := by decide +kernel
theorem dX12_could_161 : decode cX12_could 161 = .ok (.aload_n 0, 1) := by decide +kernel
theorem dX12_could_162 : decode cX12_could 162 = .ok (.getfield 35, 3) := by decide +kernel
theorem dX12_could_165 : decode cX12_could 165 = .ok (.iload 9, 2) := by decide +kernel
theorem dX12_could_167 : decode cX12_could 167 = .ok (.iaload, 1) := by decide +kernel
theorem dX12_could_168 : decode cX12_could 168 = .ok (.aload_n 0, 1) := by decide +kernel
theorem dX12_could_169 : decode cX12_could 169 = .ok (.getfield 35, 3) := by decide +kernel
theorem dX12_could_172 : decode cX12_could 172 = .ok (.iload 8, 2) := by decide +kernel
theorem dX12_could_174 : decode cX12_could 174 = .ok (.iaload, 1) := by decide +kernel
theorem dX12_could_175 : decode cX12_could 175 = .ok (.if_icmp .le 7, 3) := by decide +kernel
theorem dX12_could_178 : decode cX12_could 178 = .ok (.iload 9, 2) := by decide +kernel
theorem dX12_could_180 : decode cX12_could 180 = .ok (.istore 8, 2) := by decide +kernel
theorem dX12_could_182 : decode cX12_could 182 = .ok (.iinc 9 1, 3) := by decide +kernel
theorem dX12_could_185 : decode cX12_could 185 = .ok (.goto (-55), 3) := by decide +kernel
theorem dX12_could_188 : decode cX12_could 188 = .ok (.iload 8, 2) := by decide +kernel
theorem dX12_could_190 : decode cX12_could 190 = .ok (.ifCond .ge 5, 3) := by decide +kernel
theorem dX12_could_193 : decode cX12_could 193 = .ok (.iconst 0, 1) := by decide +kernel
theorem dX12_could_194 : decode cX12_could 194 = .ok (.ireturn, 1) := by decide +kernel
theorem dX12_could_195 : decode cX12_could 195 = .ok (.aload_n 0, 1) := by decide +kernel
theorem dX12_could_196 : decode cX12_could 196 = .ok (.getfield 35, 3) := by decide +kernel
theorem dX12_could_199 : decode cX12_could 199 = .ok (.iload 8, 2) := by decide +kernel
theorem dX12_could_201 : decode cX12_could 201 = .ok (.dup2, 1) := by decide +kernel
theorem dX12_could_202 : decode cX12_could 202 = .ok (.iaload, 1) := by decide +kernel
theorem dX12_could_203 : decode cX12_could 203 = .ok (.iconst 1, 1) := by decide +kernel
theorem dX12_could_204 : decode cX12_could 204 = .ok (.isub, 1) := by decide +kernel
theorem dX12_could_205 : decode cX12_could 205 = .ok (.iastore, 1) := by decide +kernel
theorem dX12_could_206 : decode cX12_could 206 = .ok (.iload 7, 2) := by decide +kernel
theorem dX12_could_208 : decode cX12_could 208 = .ok (.iconst 1, 1) := by decide +kernel
theorem dX12_could_209 : decode cX12_could 209 = .ok (.iload 8, 2) := by decide +kernel
theorem dX12_could_211 : decode cX12_could 211 = .ok (.ishl, 1) := by decide +kernel
theorem dX12_could_212 : decode cX12_could 212 = .ok (.ior, 1) := by decide +kernel
theorem dX12_could_213 : decode cX12_could 213 = .ok (.istore 7, 2) := by decide +kernel
theorem dX12_could_215 : decode cX12_could 215 = .ok (.iinc 6 (-1), 3) := by decide +kernel
theorem dX12_could_218 : decode cX12_could 218 = .ok (.goto (-99), 3) := by decide +kernel
theorem dX12_could_221 : decode cX12_could 221 = .ok (.iinc 4 1, 3) := by decide +kernel
theorem dX12_could_224 : decode cX12_could 224 = .ok (.goto (-141), 3) := by decide +kernel
theorem dX12_could_227 : decode cX12_could 227 = .ok (.iconst 1, 1) := by decide +kernel
theorem dX12_could_228 : decode cX12_could 228 = .ok (.ireturn, 1) := by decide +kernel
theorem dX12_leastOf_0 : decode cX12_leastOf 0 = .ok (.iload_n 0, 1) := by decide +kernel
theorem dX12_leastOf_1 : decode cX12_leastOf 1 = .ok (.ifCond .ne 8, 3) := by decide +kernel
theorem dX12_leastOf_4 : decode cX12_leastOf 4 = .ok (.bipush (-128), 2) := by decide +kernel
theorem dX12_leastOf_6 : decode cX12_leastOf 6 = .ok (.goto 16, 3) := by decide +kernel
theorem dX12_leastOf_9 : decode cX12_leastOf 9 = .ok (.iload_n 0, 1) := by decide +kernel
theorem dX12_leastOf_10 : decode cX12_leastOf 10 = .ok (.iconst 1, 1) := by decide +kernel
theorem dX12_leastOf_11 : decode cX12_leastOf 11 = .ok (.if_icmp .ne 9, 3) := by decide +kernel
theorem dX12_leastOf_14 : decode cX12_leastOf 14 = .ok (.sipush (-32768), 3) := by decide +kernel
theorem dX12_leastOf_17 : decode cX12_leastOf 17 = .ok (.goto 5, 3) := by decide +kernel
theorem dX12_leastOf_20 : decode cX12_leastOf 20 = .ok (.ldc 226, 2) := by decide +kernel
theorem dX12_leastOf_22 : decode cX12_leastOf 22 = .ok (.ireturn, 1) := by decide +kernel
theorem dX12_isTold_0 : decode cX12_isTold 0 = .ok (.aload_n 0, 1) := by decide +kernel
theorem dX12_isTold_1 : decode cX12_isTold 1 = .ok (.getfield 53, 3) := by decide +kernel
theorem dX12_isTold_4 : decode cX12_isTold 4 = .ok (.bipush 100, 2) := by decide +kernel
theorem dX12_isTold_6 : decode cX12_isTold 6 = .ok (.iload_n 1, 1) := by decide +kernel
theorem dX12_isTold_7 : decode cX12_isTold 7 = .ok (.imul, 1) := by decide +kernel
theorem dX12_isTold_8 : decode cX12_isTold 8 = .ok (.iload_n 2, 1) := by decide +kernel
theorem dX12_isTold_9 : decode cX12_isTold 9 = .ok (.iadd, 1) := by decide +kernel
theorem dX12_isTold_10 : decode cX12_isTold 10 = .ok (.iaload, 1) := by decide +kernel
theorem dX12_isTold_11 : decode cX12_isTold 11 = .ok (.aload_n 0, 1) := by decide +kernel
theorem dX12_isTold_12 : decode cX12_isTold 12 = .ok (.getfield 47, 3) := by decide +kernel
theorem dX12_isTold_15 : decode cX12_isTold 15 = .ok (.iload_n 1, 1) := by decide +kernel
theorem dX12_isTold_16 : decode cX12_isTold 16 = .ok (.iaload, 1) := by decide +kernel
theorem dX12_isTold_17 : decode cX12_isTold 17 = .ok (.invokestatic 227, 3) := by decide +kernel
theorem dX12_isTold_20 : decode cX12_isTold 20 = .ok (.if_icmp .eq 18, 3) := by decide +kernel
theorem dX12_isTold_23 : decode cX12_isTold 23 = .ok (.aload_n 0, 1) := by decide +kernel
theorem dX12_isTold_24 : decode cX12_isTold 24 = .ok (.getfield 53, 3) := by decide +kernel
theorem dX12_isTold_27 : decode cX12_isTold 27 = .ok (.bipush 100, 2) := by decide +kernel
theorem dX12_isTold_29 : decode cX12_isTold 29 = .ok (.iload_n 1, 1) := by decide +kernel
theorem dX12_isTold_30 : decode cX12_isTold 30 = .ok (.imul, 1) := by decide +kernel
theorem dX12_isTold_31 : decode cX12_isTold 31 = .ok (.iload_n 2, 1) := by decide +kernel
theorem dX12_isTold_32 : decode cX12_isTold 32 = .ok (.iadd, 1) := by decide +kernel
theorem dX12_isTold_33 : decode cX12_isTold 33 = .ok (.iaload, 1) := by decide +kernel
theorem dX12_isTold_34 : decode cX12_isTold 34 = .ok (.iload_n 3, 1) := by decide +kernel
theorem dX12_isTold_35 : decode cX12_isTold 35 = .ok (.if_icmp .ne 7, 3) := by decide +kernel
theorem dX12_isTold_38 : decode cX12_isTold 38 = .ok (.iconst 1, 1) := by decide +kernel
theorem dX12_isTold_39 : decode cX12_isTold 39 = .ok (.goto 4, 3) := by decide +kernel
theorem dX12_isTold_42 : decode cX12_isTold 42 = .ok (.iconst 0, 1) := by decide +kernel
theorem dX12_isTold_43 : decode cX12_isTold 43 = .ok (.ireturn, 1) := by decide +kernel
theorem dX12_isHeardSo_0 : decode cX12_isHeardSo 0 = .ok (.iconst 0, 1) := by decide +kernel
theorem dX12_isHeardSo_1 : decode cX12_isHeardSo 1 = .ok (.istore_n 2, 1) := by decide +kernel
theorem dX12_isHeardSo_2 : decode cX12_isHeardSo 2 = .ok (.iload_n 2, 1) := by decide +kernel
theorem dX12_isHeardSo_3 : decode cX12_isHeardSo 3 = .ok (.aload_n 0, 1) := by decide +kernel
theorem dX12_isHeardSo_4 : decode cX12_isHeardSo 4 = .ok (.getfield 50, 3) := by decide +kernel
theorem dX12_isHeardSo_7 : decode cX12_isHeardSo 7 = .ok (.iload_n 1, 1) := by decide +kernel
theorem dX12_isHeardSo_8 : decode cX12_isHeardSo 8 = .ok (.iaload, 1) := by decide +kernel
theorem dX12_isHeardSo_9 : decode cX12_isHeardSo 9 = .ok (.if_icmp .ge 37, 3) := by decide +kernel
theorem dX12_isHeardSo_12 : decode cX12_isHeardSo 12 = .ok (.aload_n 0, 1) := by decide +kernel
theorem dX12_isHeardSo_13 : decode cX12_isHeardSo 13 = .ok (.iload_n 1, 1) := by decide +kernel
theorem dX12_isHeardSo_14 : decode cX12_isHeardSo 14 = .ok (.iload_n 2, 1) := by decide +kernel
theorem dX12_isHeardSo_15 : decode cX12_isHeardSo 15 = .ok (.aload_n 0, 1) := by decide +kernel
theorem dX12_isHeardSo_16 : decode cX12_isHeardSo 16 = .ok (.getfield 13, 3) := by decide +kernel
theorem dX12_isHeardSo_19 : decode cX12_isHeardSo 19 = .ok (.iconst 2, 1) := by decide +kernel
theorem dX12_isHeardSo_20 : decode cX12_isHeardSo 20 = .ok (.iaload, 1) := by decide +kernel
theorem dX12_isHeardSo_21 : decode cX12_isHeardSo 21 = .ok (.invokestatic 68, 3) := by decide +kernel
theorem dX12_isHeardSo_24 : decode cX12_isHeardSo 24 = .ok (.invokevirtual 230, 3) := by decide +kernel
theorem dX12_isHeardSo_27 : decode cX12_isHeardSo 27 = .ok (.ifCond .ne 5, 3) := by decide +kernel
theorem dX12_isHeardSo_30 : decode cX12_isHeardSo 30 = .ok (.iconst 0, 1) := by decide +kernel
theorem dX12_isHeardSo_31 : decode cX12_isHeardSo 31 = .ok (.ireturn, 1) := by decide +kernel
theorem dX12_isHeardSo_32 : decode cX12_isHeardSo 32 = .ok (.aload_n 0, 1) := by decide +kernel
theorem dX12_isHeardSo_33 : decode cX12_isHeardSo 33 = .ok (.getfield 13, 3) := by decide +kernel
theorem dX12_isHeardSo_36 : decode cX12_isHeardSo 36 = .ok (.iconst 0, 1) := by decide +kernel
theorem dX12_isHeardSo_37 : decode cX12_isHeardSo 37 = .ok (.invokestatic 96, 3) := by decide +kernel
theorem dX12_isHeardSo_40 : decode cX12_isHeardSo 40 = .ok (.iinc 2 1, 3) := by decide +kernel
theorem dX12_isHeardSo_43 : decode cX12_isHeardSo 43 = .ok (.goto (-41), 3) := by decide +kernel
theorem dX12_isHeardSo_46 : decode cX12_isHeardSo 46 = .ok (.iconst 1, 1) := by decide +kernel
theorem dX12_isHeardSo_47 : decode cX12_isHeardSo 47 = .ok (.ireturn, 1) := by decide +kernel
theorem dX12_whatIs_0 : decode cX12_whatIs 0 = .ok (.aload_n 0, 1) := by decide +kernel
theorem dX12_whatIs_1 : decode cX12_whatIs 1 = .ok (.iload_n 2, 1) := by decide +kernel
theorem dX12_whatIs_2 : decode cX12_whatIs 2 = .ok (.invokevirtual 60, 3) := by decide +kernel
theorem dX12_whatIs_5 : decode cX12_whatIs 5 = .ok (.ifCond .eq 12, 3) := by decide +kernel
theorem dX12_whatIs_8 : decode cX12_whatIs 8 = .ok (.iload_n 3, 1) := by decide +kernel
theorem dX12_whatIs_9 : decode cX12_whatIs 9 = .ok (.iconst 0, 1) := by decide +kernel
theorem dX12_whatIs_10 : decode cX12_whatIs 10 = .ok (.iconst 1, 1) := by decide +kernel
theorem dX12_whatIs_11 : decode cX12_whatIs 11 = .ok (.invokestatic 56, 3) := by decide +kernel
theorem dX12_whatIs_14 : decode cX12_whatIs 14 = .ok (.ifCond .ne 5, 3) := by decide +kernel
theorem dX12_whatIs_17 : decode cX12_whatIs 17 = .ok (.iconst (-1), 1) := by decide +kernel
theorem dX12_whatIs_18 : decode cX12_whatIs 18 = .ok (.ireturn, 1) := by decide +kernel
theorem dX12_whatIs_19 : decode cX12_whatIs 19 = .ok (.aload_n 0, 1) := by decide +kernel
theorem dX12_whatIs_20 : decode cX12_whatIs 20 = .ok (.iload_n 1, 1) := by decide +kernel
theorem dX12_whatIs_21 : decode cX12_whatIs 21 = .ok (.iconst (-1), 1) := by decide +kernel
theorem dX12_whatIs_22 : decode cX12_whatIs 22 = .ok (.invokevirtual 134, 3) := by decide +kernel
theorem dX12_whatIs_25 : decode cX12_whatIs 25 = .ok (.istore 4, 2) := by decide +kernel
theorem dX12_whatIs_27 : decode cX12_whatIs 27 = .ok (.iload 4, 2) := by decide +kernel
theorem dX12_whatIs_29 : decode cX12_whatIs 29 = .ok (.ifCond .eq 6, 3) := by decide +kernel
theorem dX12_whatIs_32 : decode cX12_whatIs 32 = .ok (.iload 4, 2) := by decide +kernel
theorem dX12_whatIs_34 : decode cX12_whatIs 34 = .ok (.ireturn, 1) := by decide +kernel
theorem dX12_whatIs_35 : decode cX12_whatIs 35 = .ok (.iconst 0, 1) := by decide +kernel
theorem dX12_whatIs_36 : decode cX12_whatIs 36 = .ok (.istore 5, 2) := by decide +kernel
theorem dX12_whatIs_38 : decode cX12_whatIs 38 = .ok (.iconst 0, 1) := by decide +kernel
theorem dX12_whatIs_39 : decode cX12_whatIs 39 = .ok (.istore 6, 2) := by decide +kernel
theorem dX12_whatIs_41 : decode cX12_whatIs 41 = .ok (.iload 6, 2) := by decide +kernel
theorem dX12_whatIs_43 : decode cX12_whatIs 43 = .ok (.iload_n 3, 1) := by decide +kernel
theorem dX12_whatIs_44 : decode cX12_whatIs 44 = .ok (.ifCond .ne 8, 3) := by decide +kernel
theorem dX12_whatIs_47 : decode cX12_whatIs 47 = .ok (.bipush 8, 2) := by decide +kernel
theorem dX12_whatIs_49 : decode cX12_whatIs 49 = .ok (.goto 5, 3) := by decide +kernel
theorem dX12_whatIs_52 : decode cX12_whatIs 52 = .ok (.bipush 10, 2) := by decide +kernel
theorem dX12_whatIs_54 : decode cX12_whatIs 54 = .ok (.if_icmp .ge 88, 3) := by decide +kernel
theorem dX12_whatIs_57 : decode cX12_whatIs 57 = .ok (.aload_n 0, 1) := by decide +kernel
theorem dX12_whatIs_58 : decode cX12_whatIs 58 = .ok (.getfield 9, 3) := by decide +kernel
theorem dX12_whatIs_61 : decode cX12_whatIs 61 = .ok (.aload_n 0, 1) := by decide +kernel
theorem dX12_whatIs_62 : decode cX12_whatIs 62 = .ok (.getfield 13, 3) := by decide +kernel
theorem dX12_whatIs_65 : decode cX12_whatIs 65 = .ok (.invokestatic 141, 3) := by decide +kernel
theorem dX12_whatIs_68 : decode cX12_whatIs 68 = .ok (.aload_n 0, 1) := by decide +kernel
theorem dX12_whatIs_69 : decode cX12_whatIs 69 = .ok (.getfield 13, 3) := by decide +kernel
theorem dX12_whatIs_72 : decode cX12_whatIs 72 = .ok (.iload_n 2, 1) := by decide +kernel
theorem dX12_whatIs_73 : decode cX12_whatIs 73 = .ok (.iload_n 3, 1) := by decide +kernel
theorem dX12_whatIs_74 : decode cX12_whatIs 74 = .ok (.ifCond .ne 8, 3) := by decide +kernel
theorem dX12_whatIs_77 : decode cX12_whatIs 77 = .ok (.iload 6, 2) := by decide +kernel
theorem dX12_whatIs_79 : decode cX12_whatIs 79 = .ok (.goto 13, 3) := by decide +kernel
theorem dX12_whatIs_82 : decode cX12_whatIs 82 = .ok (.aload_n 0, 1) := by decide +kernel
theorem dX12_whatIs_83 : decode cX12_whatIs 83 = .ok (.getfield 9, 3) := by decide +kernel
theorem dX12_whatIs_86 : decode cX12_whatIs 86 = .ok (.iload_n 2, 1) := by decide +kernel
theorem dX12_whatIs_87 : decode cX12_whatIs 87 = .ok (.iconst 0, 1) := by decide +kernel
theorem dX12_whatIs_88 : decode cX12_whatIs 88 = .ok (.invokestatic 64, 3) := by decide +kernel
theorem dX12_whatIs_91 : decode cX12_whatIs 91 = .ok (.iaload, 1) := by decide +kernel
theorem dX12_whatIs_92 : decode cX12_whatIs 92 = .ok (.iload_n 3, 1) := by decide +kernel
theorem dX12_whatIs_93 : decode cX12_whatIs 93 = .ok (.iconst 1, 1) := by decide +kernel
theorem dX12_whatIs_94 : decode cX12_whatIs 94 = .ok (.if_icmp .ne 8, 3) := by decide +kernel
theorem dX12_whatIs_97 : decode cX12_whatIs 97 = .ok (.iload 6, 2) := by decide +kernel
theorem dX12_whatIs_99 : decode cX12_whatIs 99 = .ok (.goto 13, 3) := by decide +kernel
theorem dX12_whatIs_102 : decode cX12_whatIs 102 = .ok (.aload_n 0, 1) := by decide +kernel
theorem dX12_whatIs_103 : decode cX12_whatIs 103 = .ok (.getfield 9, 3) := by decide +kernel
theorem dX12_whatIs_106 : decode cX12_whatIs 106 = .ok (.iload_n 2, 1) := by decide +kernel
theorem dX12_whatIs_107 : decode cX12_whatIs 107 = .ok (.iconst 1, 1) := by decide +kernel
theorem dX12_whatIs_108 : decode cX12_whatIs 108 = .ok (.invokestatic 64, 3) := by decide +kernel
theorem dX12_whatIs_111 : decode cX12_whatIs 111 = .ok (.iaload, 1) := by decide +kernel
theorem dX12_whatIs_112 : decode cX12_whatIs 112 = .ok (.invokestatic 127, 3) := by decide +kernel
theorem dX12_whatIs_115 : decode cX12_whatIs 115 = .ok (.iload 5, 2) := by decide +kernel
theorem dX12_whatIs_117 : decode cX12_whatIs 117 = .ok (.aload_n 0, 1) := by decide +kernel
theorem dX12_whatIs_118 : decode cX12_whatIs 118 = .ok (.iload_n 1, 1) := by decide +kernel
theorem dX12_whatIs_119 : decode cX12_whatIs 119 = .ok (.invokevirtual 233, 3) := by decide +kernel
theorem dX12_whatIs_122 : decode cX12_whatIs 122 = .ok (.ifCond .eq 10, 3) := by decide +kernel
theorem dX12_whatIs_125 : decode cX12_whatIs 125 = .ok (.iconst 1, 1) := by decide +kernel
theorem dX12_whatIs_126 : decode cX12_whatIs 126 = .ok (.iload 6, 2) := by decide +kernel
theorem dX12_whatIs_128 : decode cX12_whatIs 128 = .ok (.ishl, 1) := by decide +kernel
theorem dX12_whatIs_129 : decode cX12_whatIs 129 = .ok (.goto 4, 3) := by decide +kernel
theorem dX12_whatIs_132 : decode cX12_whatIs 132 = .ok (.iconst 0, 1) := by decide +kernel
theorem dX12_whatIs_133 : decode cX12_whatIs 133 = .ok (.ior, 1) := by decide +kernel
theorem dX12_whatIs_134 : decode cX12_whatIs 134 = .ok (.istore 5, 2) := by decide +kernel
theorem dX12_whatIs_136 : decode cX12_whatIs 136 = .ok (.iinc 6 1, 3) := by decide +kernel
theorem dX12_whatIs_139 : decode cX12_whatIs 139 = .ok (.goto (-98), 3) := by decide +kernel
theorem dX12_whatIs_142 : decode cX12_whatIs 142 = .ok (.iload 5, 2) := by decide +kernel
theorem dX12_whatIs_144 : decode cX12_whatIs 144 = .ok (.ireturn, 1) := by decide +kernel
theorem dX12_whoBegan_0 : decode cX12_whoBegan 0 = .ok (.aload_n 0, 1) := by decide +kernel
theorem dX12_whoBegan_1 : decode cX12_whoBegan 1 = .ok (.iload_n 1, 1) := by decide +kernel
theorem dX12_whoBegan_2 : decode cX12_whoBegan 2 = .ok (.iconst (-1), 1) := by decide +kernel
theorem dX12_whoBegan_3 : decode cX12_whoBegan 3 = .ok (.invokevirtual 134, 3) := by decide +kernel
theorem dX12_whoBegan_6 : decode cX12_whoBegan 6 = .ok (.istore_n 2, 1) := by decide +kernel
theorem dX12_whoBegan_7 : decode cX12_whoBegan 7 = .ok (.iload_n 2, 1) := by decide +kernel
theorem dX12_whoBegan_8 : decode cX12_whoBegan 8 = .ok (.ifCond .eq 5, 3) := by decide +kernel
theorem dX12_whoBegan_11 : decode cX12_whoBegan 11 = .ok (.iload_n 2, 1) := by decide +kernel
theorem dX12_whoBegan_12 : decode cX12_whoBegan 12 = .ok (.ireturn, 1) := by decide +kernel
theorem dX12_whoBegan_13 : decode cX12_whoBegan 13 = .ok (.iconst 0, 1) := by decide +kernel
theorem dX12_whoBegan_14 : decode cX12_whoBegan 14 = .ok (.istore_n 3, 1) := by decide +kernel
theorem dX12_whoBegan_15 : decode cX12_whoBegan 15 = .ok (.iconst 0, 1) := by decide +kernel
theorem dX12_whoBegan_16 : decode cX12_whoBegan 16 = .ok (.istore 4, 2) := by decide +kernel
theorem dX12_whoBegan_18 : decode cX12_whoBegan 18 = .ok (.iload 4, 2) := by decide +kernel
theorem dX12_whoBegan_20 : decode cX12_whoBegan 20 = .ok (.aload_n 0, 1) := by decide +kernel
theorem dX12_whoBegan_21 : decode cX12_whoBegan 21 = .ok (.getfield 9, 3) := by decide +kernel
theorem dX12_whoBegan_24 : decode cX12_whoBegan 24 = .ok (.iconst 0, 1) := by decide +kernel
theorem dX12_whoBegan_25 : decode cX12_whoBegan 25 = .ok (.iaload, 1) := by decide +kernel
theorem dX12_whoBegan_26 : decode cX12_whoBegan 26 = .ok (.if_icmp .ge 72, 3) := by decide +kernel
theorem dX12_whoBegan_29 : decode cX12_whoBegan 29 = .ok (.aload_n 0, 1) := by decide +kernel
theorem dX12_whoBegan_30 : decode cX12_whoBegan 30 = .ok (.getfield 9, 3) := by decide +kernel
theorem dX12_whoBegan_33 : decode cX12_whoBegan 33 = .ok (.iload 4, 2) := by decide +kernel
theorem dX12_whoBegan_35 : decode cX12_whoBegan 35 = .ok (.invokestatic 84, 3) := by decide +kernel
theorem dX12_whoBegan_38 : decode cX12_whoBegan 38 = .ok (.ifCond .eq 6, 3) := by decide +kernel
theorem dX12_whoBegan_41 : decode cX12_whoBegan 41 = .ok (.goto 51, 3) := by decide +kernel
theorem dX12_whoBegan_44 : decode cX12_whoBegan 44 = .ok (.aload_n 0, 1) := by decide +kernel
theorem dX12_whoBegan_45 : decode cX12_whoBegan 45 = .ok (.getfield 9, 3) := by decide +kernel
theorem dX12_whoBegan_48 : decode cX12_whoBegan 48 = .ok (.aload_n 0, 1) := by decide +kernel
theorem dX12_whoBegan_49 : decode cX12_whoBegan 49 = .ok (.getfield 13, 3) := by decide +kernel
theorem dX12_whoBegan_52 : decode cX12_whoBegan 52 = .ok (.invokestatic 141, 3) := by decide +kernel
theorem dX12_whoBegan_55 : decode cX12_whoBegan 55 = .ok (.aload_n 0, 1) := by decide +kernel
theorem dX12_whoBegan_56 : decode cX12_whoBegan 56 = .ok (.getfield 13, 3) := by decide +kernel
theorem dX12_whoBegan_59 : decode cX12_whoBegan 59 = .ok (.iconst 2, 1) := by decide +kernel
theorem dX12_whoBegan_60 : decode cX12_whoBegan 60 = .ok (.iconst 1, 1) := by decide +kernel
theorem dX12_whoBegan_61 : decode cX12_whoBegan 61 = .ok (.iload 4, 2) := by decide +kernel
theorem dX12_whoBegan_63 : decode cX12_whoBegan 63 = .ok (.ishl, 1) := by decide +kernel
theorem dX12_whoBegan_64 : decode cX12_whoBegan 64 = .ok (.iastore, 1) := by decide +kernel
theorem dX12_whoBegan_65 : decode cX12_whoBegan 65 = .ok (.aload_n 0, 1) := by decide +kernel
theorem dX12_whoBegan_66 : decode cX12_whoBegan 66 = .ok (.getfield 13, 3) := by decide +kernel
theorem dX12_whoBegan_69 : decode cX12_whoBegan 69 = .ok (.iconst 0, 1) := by decide +kernel
theorem dX12_whoBegan_70 : decode cX12_whoBegan 70 = .ok (.invokestatic 96, 3) := by decide +kernel
theorem dX12_whoBegan_73 : decode cX12_whoBegan 73 = .ok (.iload_n 3, 1) := by decide +kernel
theorem dX12_whoBegan_74 : decode cX12_whoBegan 74 = .ok (.aload_n 0, 1) := by decide +kernel
theorem dX12_whoBegan_75 : decode cX12_whoBegan 75 = .ok (.iload_n 1, 1) := by decide +kernel
theorem dX12_whoBegan_76 : decode cX12_whoBegan 76 = .ok (.invokevirtual 233, 3) := by decide +kernel
theorem dX12_whoBegan_79 : decode cX12_whoBegan 79 = .ok (.ifCond .eq 10, 3) := by decide +kernel
theorem dX12_whoBegan_82 : decode cX12_whoBegan 82 = .ok (.iconst 1, 1) := by decide +kernel
theorem dX12_whoBegan_83 : decode cX12_whoBegan 83 = .ok (.iload 4, 2) := by decide +kernel
theorem dX12_whoBegan_85 : decode cX12_whoBegan 85 = .ok (.ishl, 1) := by decide +kernel
theorem dX12_whoBegan_86 : decode cX12_whoBegan 86 = .ok (.goto 4, 3) := by decide +kernel
theorem dX12_whoBegan_89 : decode cX12_whoBegan 89 = .ok (.iconst 0, 1) := by decide +kernel
theorem dX12_whoBegan_90 : decode cX12_whoBegan 90 = .ok (.ior, 1) := by decide +kernel
theorem dX12_whoBegan_91 : decode cX12_whoBegan 91 = .ok (.istore_n 3, 1) := by decide +kernel
theorem dX12_whoBegan_92 : decode cX12_whoBegan 92 = .ok (.iinc 4 1, 3) := by decide +kernel
theorem dX12_whoBegan_95 : decode cX12_whoBegan 95 = .ok (.goto (-77), 3) := by decide +kernel
theorem dX12_whoBegan_98 : decode cX12_whoBegan 98 = .ok (.iload_n 3, 1) := by decide +kernel
theorem dX12_whoBegan_99 : decode cX12_whoBegan 99 = .ok (.ireturn, 1) := by decide +kernel
theorem dX12_hasBy_0 : decode cX12_hasBy 0 = .ok (.aload_n 0, 1) := by decide +kernel
theorem dX12_hasBy_1 : decode cX12_hasBy 1 = .ok (.getfield 9, 3) := by decide +kernel
theorem dX12_hasBy_4 : decode cX12_hasBy 4 = .ok (.aload_n 0, 1) := by decide +kernel
theorem dX12_hasBy_5 : decode cX12_hasBy 5 = .ok (.getfield 13, 3) := by decide +kernel
theorem dX12_hasBy_8 : decode cX12_hasBy 8 = .ok (.invokestatic 141, 3) := by decide +kernel
theorem dX12_hasBy_11 : decode cX12_hasBy 11 = .ok (.iconst 0, 1) := by decide +kernel
theorem dX12_hasBy_12 : decode cX12_hasBy 12 = .ok (.istore 7, 2) := by decide +kernel
theorem dX12_hasBy_14 : decode cX12_hasBy 14 = .ok (.iload 7, 2) := by decide +kernel
theorem dX12_hasBy_16 : decode cX12_hasBy 16 = .ok (.iload 6, 2) := by decide +kernel
theorem dX12_hasBy_18 : decode cX12_hasBy 18 = .ok (.if_icmp .ge 29, 3) := by decide +kernel
theorem dX12_hasBy_21 : decode cX12_hasBy 21 = .ok (.aload_n 0, 1) := by decide +kernel
theorem dX12_hasBy_22 : decode cX12_hasBy 22 = .ok (.getfield 13, 3) := by decide +kernel
theorem dX12_hasBy_25 : decode cX12_hasBy 25 = .ok (.iconst 1, 1) := by decide +kernel
theorem dX12_hasBy_26 : decode cX12_hasBy 26 = .ok (.iload_n 3, 1) := by decide +kernel
theorem dX12_hasBy_27 : decode cX12_hasBy 27 = .ok (.isub, 1) := by decide +kernel
theorem dX12_hasBy_28 : decode cX12_hasBy 28 = .ok (.iload_n 2, 1) := by decide +kernel
theorem dX12_hasBy_29 : decode cX12_hasBy 29 = .ok (.ishl, 1) := by decide +kernel
theorem dX12_hasBy_30 : decode cX12_hasBy 30 = .ok (.iconst 1, 1) := by decide +kernel
theorem dX12_hasBy_31 : decode cX12_hasBy 31 = .ok (.iload 5, 2) := by decide +kernel
theorem dX12_hasBy_33 : decode cX12_hasBy 33 = .ok (.isub, 1) := by decide +kernel
theorem dX12_hasBy_34 : decode cX12_hasBy 34 = .ok (.iload 4, 2) := by decide +kernel
theorem dX12_hasBy_36 : decode cX12_hasBy 36 = .ok (.ishl, 1) := by decide +kernel
theorem dX12_hasBy_37 : decode cX12_hasBy 37 = .ok (.ior, 1) := by decide +kernel
theorem dX12_hasBy_38 : decode cX12_hasBy 38 = .ok (.invokestatic 96, 3) := by decide +kernel
theorem dX12_hasBy_41 : decode cX12_hasBy 41 = .ok (.iinc 7 1, 3) := by decide +kernel
theorem dX12_hasBy_44 : decode cX12_hasBy 44 = .ok (.goto (-30), 3) := by decide +kernel
theorem dX12_hasBy_47 : decode cX12_hasBy 47 = .ok (.aload_n 0, 1) := by decide +kernel
theorem dX12_hasBy_48 : decode cX12_hasBy 48 = .ok (.getfield 13, 3) := by decide +kernel
theorem dX12_hasBy_51 : decode cX12_hasBy 51 = .ok (.iconst 2, 1) := by decide +kernel
theorem dX12_hasBy_52 : decode cX12_hasBy 52 = .ok (.iaload, 1) := by decide +kernel
theorem dX12_hasBy_53 : decode cX12_hasBy 53 = .ok (.aload_n 0, 1) := by decide +kernel
theorem dX12_hasBy_54 : decode cX12_hasBy 54 = .ok (.getfield 9, 3) := by decide +kernel
theorem dX12_hasBy_57 : decode cX12_hasBy 57 = .ok (.iload_n 1, 1) := by decide +kernel
theorem dX12_hasBy_58 : decode cX12_hasBy 58 = .ok (.iconst 2, 1) := by decide +kernel
theorem dX12_hasBy_59 : decode cX12_hasBy 59 = .ok (.invokestatic 64, 3) := by decide +kernel
theorem dX12_hasBy_62 : decode cX12_hasBy 62 = .ok (.iaload, 1) := by decide +kernel
theorem dX12_hasBy_63 : decode cX12_hasBy 63 = .ok (.iand, 1) := by decide +kernel
theorem dX12_hasBy_64 : decode cX12_hasBy 64 = .ok (.invokestatic 68, 3) := by decide +kernel
theorem dX12_hasBy_67 : decode cX12_hasBy 67 = .ok (.iconst 2, 1) := by decide +kernel
theorem dX12_hasBy_68 : decode cX12_hasBy 68 = .ok (.iload_n 1, 1) := by decide +kernel
theorem dX12_hasBy_69 : decode cX12_hasBy 69 = .ok (.iload_n 2, 1) := by decide +kernel
theorem dX12_hasBy_70 : decode cX12_hasBy 70 = .ok (.if_icmp .ne 7, 3) := by decide +kernel
theorem dX12_hasBy_73 : decode cX12_hasBy 73 = .ok (.iload_n 3, 1) := by decide +kernel
theorem dX12_hasBy_74 : decode cX12_hasBy 74 = .ok (.goto 5, 3) := by decide +kernel
theorem dX12_hasBy_77 : decode cX12_hasBy 77 = .ok (.iload 5, 2) := by decide +kernel
theorem dX12_hasBy_79 : decode cX12_hasBy 79 = .ok (.imul, 1) := by decide +kernel
theorem dX12_hasBy_80 : decode cX12_hasBy 80 = .ok (.isub, 1) := by decide +kernel
theorem dX12_hasBy_81 : decode cX12_hasBy 81 = .ok (.ireturn, 1) := by decide +kernel
theorem dX12_two_0 : decode cX12_two 0 = .ok (.aload_n 0, 1) := by decide +kernel
theorem dX12_two_1 : decode cX12_two 1 = .ok (.iload_n 1, 1) := by decide +kernel
theorem dX12_two_2 : decode cX12_two 2 = .ok (.iload_n 2, 1) := by decide +kernel
theorem dX12_two_3 : decode cX12_two 3 = .ok (.invokevirtual 120, 3) := by decide +kernel
theorem dX12_two_6 : decode cX12_two 6 = .ok (.ifCond .eq 13, 3) := by decide +kernel
theorem dX12_two_9 : decode cX12_two 9 = .ok (.iload_n 3, 1) := by decide +kernel
theorem dX12_two_10 : decode cX12_two 10 = .ok (.iconst 1, 1) := by decide +kernel
theorem dX12_two_11 : decode cX12_two 11 = .ok (.bipush 30, 2) := by decide +kernel
theorem dX12_two_13 : decode cX12_two 13 = .ok (.invokestatic 56, 3) := by decide +kernel
theorem dX12_two_16 : decode cX12_two 16 = .ok (.ifCond .ne 5, 3) := by decide +kernel
theorem dX12_two_19 : decode cX12_two 19 = .ok (.iconst (-1), 1) := by decide +kernel
theorem dX12_two_20 : decode cX12_two 20 = .ok (.ireturn, 1) := by decide +kernel
theorem dX12_two_21 : decode cX12_two 21 = .ok (.aload_n 0, 1) := by decide +kernel
theorem dX12_two_22 : decode cX12_two 22 = .ok (.getfield 9, 3) := by decide +kernel
theorem dX12_two_25 : decode cX12_two 25 = .ok (.iconst 2, 1) := by decide +kernel
theorem dX12_two_26 : decode cX12_two 26 = .ok (.iaload, 1) := by decide +kernel
theorem dX12_two_27 : decode cX12_two 27 = .ok (.iload_n 1, 1) := by decide +kernel
theorem dX12_two_28 : decode cX12_two 28 = .ok (.invokestatic 80, 3) := by decide +kernel
theorem dX12_two_31 : decode cX12_two 31 = .ok (.ifCond .eq 16, 3) := by decide +kernel
theorem dX12_two_34 : decode cX12_two 34 = .ok (.aload_n 0, 1) := by decide +kernel
theorem dX12_two_35 : decode cX12_two 35 = .ok (.getfield 9, 3) := by decide +kernel
theorem dX12_two_38 : decode cX12_two 38 = .ok (.iconst 2, 1) := by decide +kernel
theorem dX12_two_39 : decode cX12_two 39 = .ok (.iaload, 1) := by decide +kernel
theorem dX12_two_40 : decode cX12_two 40 = .ok (.iload_n 2, 1) := by decide +kernel
theorem dX12_two_41 : decode cX12_two 41 = .ok (.invokestatic 80, 3) := by decide +kernel
theorem dX12_two_44 : decode cX12_two 44 = .ok (.ifCond .ne 6, 3) := by decide +kernel
theorem dX12_two_47 : decode cX12_two 47 = .ok (.bipush (-3), 2) := by decide +kernel
theorem dX12_two_49 : decode cX12_two 49 = .ok (.ireturn, 1) := by decide +kernel
theorem dX12_two_50 : decode cX12_two 50 = .ok (.iconst 0, 1) := by decide +kernel
theorem dX12_two_51 : decode cX12_two 51 = .ok (.istore 4, 2) := by decide +kernel
theorem dX12_two_53 : decode cX12_two 53 = .ok (.iload 4, 2) := by decide +kernel
theorem dX12_two_55 : decode cX12_two 55 = .ok (.iconst 4, 1) := by decide +kernel
theorem dX12_two_56 : decode cX12_two 56 = .ok (.if_icmp .ge 88, 3) := by decide +kernel
theorem dX12_two_59 : decode cX12_two 59 = .ok (.iload 4, 2) := by decide +kernel
theorem dX12_two_61 : decode cX12_two 61 = .ok (.iconst 2, 1) := by decide +kernel
theorem dX12_two_62 : decode cX12_two 62 = .ok (.idiv, 1) := by decide +kernel
theorem dX12_two_63 : decode cX12_two 63 = .ok (.istore 5, 2) := by decide +kernel
theorem dX12_two_65 : decode cX12_two 65 = .ok (.iload 4, 2) := by decide +kernel
theorem dX12_two_67 : decode cX12_two 67 = .ok (.iconst 2, 1) := by decide +kernel
theorem dX12_two_68 : decode cX12_two 68 = .ok (.irem, 1) := by decide +kernel
theorem dX12_two_69 : decode cX12_two 69 = .ok (.istore 6, 2) := by decide +kernel
theorem dX12_two_71 : decode cX12_two 71 = .ok (.aload_n 0, 1) := by decide +kernel
theorem dX12_two_72 : decode cX12_two 72 = .ok (.iload_n 1, 1) := by decide +kernel
theorem dX12_two_73 : decode cX12_two 73 = .ok (.iload_n 1, 1) := by decide +kernel
theorem dX12_two_74 : decode cX12_two 74 = .ok (.iconst 1, 1) := by decide +kernel
theorem dX12_two_75 : decode cX12_two 75 = .ok (.iload 5, 2) := by decide +kernel
theorem dX12_two_77 : decode cX12_two 77 = .ok (.isub, 1) := by decide +kernel
theorem dX12_two_78 : decode cX12_two 78 = .ok (.iload_n 2, 1) := by decide +kernel
theorem dX12_two_79 : decode cX12_two 79 = .ok (.iload 6, 2) := by decide +kernel
theorem dX12_two_81 : decode cX12_two 81 = .ok (.iload_n 3, 1) := by decide +kernel
theorem dX12_two_82 : decode cX12_two 82 = .ok (.invokevirtual 236, 3) := by decide +kernel
theorem dX12_two_85 : decode cX12_two 85 = .ok (.aload_n 0, 1) := by decide +kernel
theorem dX12_two_86 : decode cX12_two 86 = .ok (.iload_n 1, 1) := by decide +kernel
theorem dX12_two_87 : decode cX12_two 87 = .ok (.iload_n 1, 1) := by decide +kernel
theorem dX12_two_88 : decode cX12_two 88 = .ok (.iload 5, 2) := by decide +kernel
theorem dX12_two_90 : decode cX12_two 90 = .ok (.iload_n 2, 1) := by decide +kernel
theorem dX12_two_91 : decode cX12_two 91 = .ok (.iload 6, 2) := by decide +kernel
theorem dX12_two_93 : decode cX12_two 93 = .ok (.iload_n 3, 1) := by decide +kernel
theorem dX12_two_94 : decode cX12_two 94 = .ok (.invokevirtual 236, 3) := by decide +kernel
theorem dX12_two_97 : decode cX12_two 97 = .ok (.if_icmp .gt 41, 3) := by decide +kernel
theorem dX12_two_100 : decode cX12_two 100 = .ok (.aload_n 0, 1) := by decide +kernel
theorem dX12_two_101 : decode cX12_two 101 = .ok (.iload_n 2, 1) := by decide +kernel
theorem dX12_two_102 : decode cX12_two 102 = .ok (.iload_n 1, 1) := by decide +kernel
theorem dX12_two_103 : decode cX12_two 103 = .ok (.iload 5, 2) := by decide +kernel
theorem dX12_two_105 : decode cX12_two 105 = .ok (.iload_n 2, 1) := by decide +kernel
theorem dX12_two_106 : decode cX12_two 106 = .ok (.iconst 1, 1) := by decide +kernel
theorem dX12_two_107 : decode cX12_two 107 = .ok (.iload 6, 2) := by decide +kernel
theorem dX12_two_109 : decode cX12_two 109 = .ok (.isub, 1) := by decide +kernel
theorem dX12_two_110 : decode cX12_two 110 = .ok (.iload_n 3, 1) := by decide +kernel
theorem dX12_two_111 : decode cX12_two 111 = .ok (.invokevirtual 236, 3) := by decide +kernel
theorem dX12_two_114 : decode cX12_two 114 = .ok (.aload_n 0, 1) := by decide +kernel
theorem dX12_two_115 : decode cX12_two 115 = .ok (.iload_n 2, 1) := by decide +kernel
theorem dX12_two_116 : decode cX12_two 116 = .ok (.iload_n 1, 1) := by decide +kernel
theorem dX12_two_117 : decode cX12_two 117 = .ok (.iload 5, 2) := by decide +kernel
theorem dX12_two_119 : decode cX12_two 119 = .ok (.iload_n 2, 1) := by decide +kernel
theorem dX12_two_120 : decode cX12_two 120 = .ok (.iload 6, 2) := by decide +kernel
theorem dX12_two_122 : decode cX12_two 122 = .ok (.iload_n 3, 1) := by decide +kernel
theorem dX12_two_123 : decode cX12_two 123 = .ok (.invokevirtual 236, 3) := by decide +kernel
theorem dX12_two_126 : decode cX12_two 126 = .ok (.if_icmp .gt 12, 3) := by decide +kernel
theorem dX12_two_129 : decode cX12_two 129 = .ok (.bipush 10, 2) := by decide +kernel
theorem dX12_two_131 : decode cX12_two 131 = .ok (.iload 5, 2) := by decide +kernel
theorem dX12_two_133 : decode cX12_two 133 = .ok (.imul, 1) := by decide +kernel
theorem dX12_two_134 : decode cX12_two 134 = .ok (.iload 6, 2) := by decide +kernel
theorem dX12_two_136 : decode cX12_two 136 = .ok (.iadd, 1) := by decide +kernel
theorem dX12_two_137 : decode cX12_two 137 = .ok (.ireturn, 1) := by decide +kernel
theorem dX12_two_138 : decode cX12_two 138 = .ok (.iinc 4 1, 3) := by decide +kernel
theorem dX12_two_141 : decode cX12_two 141 = .ok (.goto (-88), 3) := by decide +kernel
theorem dX12_two_144 : decode cX12_two 144 = .ok (.bipush (-4), 2) := by decide +kernel
theorem dX12_two_146 : decode cX12_two 146 = .ok (.ireturn, 1) := by decide +kernel
theorem dX12_storms_0 : decode cX12_storms 0 = .ok (.aload_n 0, 1) := by decide +kernel
theorem dX12_storms_1 : decode cX12_storms 1 = .ok (.iload_n 1, 1) := by decide +kernel
theorem dX12_storms_2 : decode cX12_storms 2 = .ok (.invokevirtual 60, 3) := by decide +kernel
theorem dX12_storms_5 : decode cX12_storms 5 = .ok (.ifCond .eq 33, 3) := by decide +kernel
theorem dX12_storms_8 : decode cX12_storms 8 = .ok (.iload_n 2, 1) := by decide +kernel
theorem dX12_storms_9 : decode cX12_storms 9 = .ok (.iconst 0, 1) := by decide +kernel
theorem dX12_storms_10 : decode cX12_storms 10 = .ok (.bipush 7, 2) := by decide +kernel
theorem dX12_storms_12 : decode cX12_storms 12 = .ok (.invokestatic 56, 3) := by decide +kernel
theorem dX12_storms_15 : decode cX12_storms 15 = .ok (.ifCond .eq 23, 3) := by decide +kernel
theorem dX12_storms_18 : decode cX12_storms 18 = .ok (.iload_n 3, 1) := by decide +kernel
theorem dX12_storms_19 : decode cX12_storms 19 = .ok (.iconst 2, 1) := by decide +kernel
theorem dX12_storms_20 : decode cX12_storms 20 = .ok (.bipush 20, 2) := by decide +kernel
theorem dX12_storms_22 : decode cX12_storms 22 = .ok (.invokestatic 56, 3) := by decide +kernel
theorem dX12_storms_25 : decode cX12_storms 25 = .ok (.ifCond .eq 13, 3) := by decide +kernel
theorem dX12_storms_28 : decode cX12_storms 28 = .ok (.iload 4, 2) := by decide +kernel
theorem dX12_storms_30 : decode cX12_storms 30 = .ok (.iconst 0, 1) := by decide +kernel
theorem dX12_storms_31 : decode cX12_storms 31 = .ok (.iconst 1, 1) := by decide +kernel
theorem dX12_storms_32 : decode cX12_storms 32 = .ok (.invokestatic 56, 3) := by decide +kernel
theorem dX12_storms_35 : decode cX12_storms 35 = .ok (.ifCond .ne 7, 3) := by decide +kernel
theorem dX12_storms_38 : decode cX12_storms 38 = .ok (.ldc2_w 171, 3) := by decide +kernel
theorem dX12_storms_41 : decode cX12_storms 41 = .ok (.lreturn, 1) := by decide +kernel
theorem dX12_storms_42 : decode cX12_storms 42 = .ok (.lconst 0, 1) := by decide +kernel
theorem dX12_storms_43 : decode cX12_storms 43 = .ok (.lstore 5, 2) := by decide +kernel
theorem dX12_storms_45 : decode cX12_storms 45 = .ok (.lconst 1, 1) := by decide +kernel
theorem dX12_storms_46 : decode cX12_storms 46 = .ok (.lstore 7, 2) := by decide +kernel
theorem dX12_storms_48 : decode cX12_storms 48 = .ok (.iconst 0, 1) := by decide +kernel
theorem dX12_storms_49 : decode cX12_storms 49 = .ok (.istore 9, 2) := by decide +kernel
theorem dX12_storms_51 : decode cX12_storms 51 = .ok (.iload 9, 2) := by decide +kernel
theorem dX12_storms_53 : decode cX12_storms 53 = .ok (.iload_n 2, 1) := by decide +kernel
theorem dX12_storms_54 : decode cX12_storms 54 = .ok (.if_icmp .ge 16, 3) := by decide +kernel
theorem dX12_storms_57 : decode cX12_storms 57 = .ok (.lload 7, 2) := by decide +kernel
theorem dX12_storms_59 : decode cX12_storms 59 = .ok (.iload_n 3, 1) := by decide +kernel
theorem dX12_storms_60 : decode cX12_storms 60 = .ok (.i2l, 1) := by decide +kernel
theorem dX12_storms_61 : decode cX12_storms 61 = .ok (.lmul, 1) := by decide +kernel
theorem dX12_storms_62 : decode cX12_storms 62 = .ok (.lstore 7, 2) := by decide +kernel
theorem dX12_storms_64 : decode cX12_storms 64 = .ok (.iinc 9 1, 3) := by decide +kernel
theorem dX12_storms_67 : decode cX12_storms 67 = .ok (.goto (-16), 3) := by decide +kernel
theorem dX12_storms_70 : decode cX12_storms 70 = .ok (.iconst 0, 1) := by decide +kernel
theorem dX12_storms_71 : decode cX12_storms 71 = .ok (.istore 9, 2) := by decide +kernel
theorem dX12_storms_73 : decode cX12_storms 73 = .ok (.iload 9, 2) := by decide +kernel
theorem dX12_storms_75 : decode cX12_storms 75 = .ok (.iconst 1, 1) := by decide +kernel
theorem dX12_storms_76 : decode cX12_storms 76 = .ok (.iload_n 2, 1) := by decide +kernel
theorem dX12_storms_77 : decode cX12_storms 77 = .ok (.ishl, 1) := by decide +kernel
theorem dX12_storms_78 : decode cX12_storms 78 = .ok (.if_icmp .ge 107, 3) := by decide +kernel
theorem dX12_storms_81 : decode cX12_storms 81 = .ok (.lconst 1, 1) := by decide +kernel
theorem dX12_storms_82 : decode cX12_storms 82 = .ok (.lstore 10, 2) := by decide +kernel
theorem dX12_storms_84 : decode cX12_storms 84 = .ok (.aload_n 0, 1) := by decide +kernel
theorem dX12_storms_85 : decode cX12_storms 85 = .ok (.getfield 9, 3) := by decide +kernel
theorem dX12_storms_88 : decode cX12_storms 88 = .ok (.aload_n 0, 1) := by decide +kernel
theorem dX12_storms_89 : decode cX12_storms 89 = .ok (.getfield 13, 3) := by decide +kernel
theorem dX12_storms_92 : decode cX12_storms 92 = .ok (.invokestatic 141, 3) := by decide +kernel
theorem dX12_storms_95 : decode cX12_storms 95 = .ok (.iconst 0, 1) := by decide +kernel
theorem dX12_storms_96 : decode cX12_storms 96 = .ok (.istore 12, 2) := by decide +kernel
theorem dX12_storms_98 : decode cX12_storms 98 = .ok (.iload 12, 2) := by decide +kernel
theorem dX12_storms_100 : decode cX12_storms 100 = .ok (.iload_n 2, 1) := by decide +kernel
theorem dX12_storms_101 : decode cX12_storms 101 = .ok (.if_icmp .ge 54, 3) := by decide +kernel
theorem dX12_storms_104 : decode cX12_storms 104 = .ok (.lload 10, 2) := by decide +kernel
theorem dX12_storms_106 : decode cX12_storms 106 = .ok (.iload 9, 2) := by decide +kernel
theorem dX12_storms_108 : decode cX12_storms 108 = .ok (.iload 12, 2) := by decide +kernel
theorem dX12_storms_110 : decode cX12_storms 110 = .ok (.invokestatic 80, 3) := by decide +kernel
theorem dX12_storms_113 : decode cX12_storms 113 = .ok (.ifCond .eq 7, 3) := by decide +kernel
theorem dX12_storms_116 : decode cX12_storms 116 = .ok (.lconst 1, 1) := by decide +kernel
theorem dX12_storms_117 : decode cX12_storms 117 = .ok (.goto 7, 3) := by decide +kernel
theorem dX12_storms_120 : decode cX12_storms 120 = .ok (.iload_n 3, 1) := by decide +kernel
theorem dX12_storms_121 : decode cX12_storms 121 = .ok (.iconst 1, 1) := by decide +kernel
theorem dX12_storms_122 : decode cX12_storms 122 = .ok (.isub, 1) := by decide +kernel
theorem dX12_storms_123 : decode cX12_storms 123 = .ok (.i2l, 1) := by decide +kernel
theorem dX12_storms_124 : decode cX12_storms 124 = .ok (.lmul, 1) := by decide +kernel
theorem dX12_storms_125 : decode cX12_storms 125 = .ok (.lstore 10, 2) := by decide +kernel
theorem dX12_storms_127 : decode cX12_storms 127 = .ok (.aload_n 0, 1) := by decide +kernel
theorem dX12_storms_128 : decode cX12_storms 128 = .ok (.getfield 13, 3) := by decide +kernel
theorem dX12_storms_131 : decode cX12_storms 131 = .ok (.iload 9, 2) := by decide +kernel
theorem dX12_storms_133 : decode cX12_storms 133 = .ok (.iload 12, 2) := by decide +kernel
theorem dX12_storms_135 : decode cX12_storms 135 = .ok (.invokestatic 80, 3) := by decide +kernel
theorem dX12_storms_138 : decode cX12_storms 138 = .ok (.ifCond .eq 7, 3) := by decide +kernel
theorem dX12_storms_141 : decode cX12_storms 141 = .ok (.iconst (-1), 1) := by decide +kernel
theorem dX12_storms_142 : decode cX12_storms 142 = .ok (.goto 4, 3) := by decide +kernel
theorem dX12_storms_145 : decode cX12_storms 145 = .ok (.iconst 0, 1) := by decide +kernel
theorem dX12_storms_146 : decode cX12_storms 146 = .ok (.invokestatic 96, 3) := by decide +kernel
theorem dX12_storms_149 : decode cX12_storms 149 = .ok (.iinc 12 1, 3) := by decide +kernel
theorem dX12_storms_152 : decode cX12_storms 152 = .ok (.goto (-54), 3) := by decide +kernel
theorem dX12_storms_155 : decode cX12_storms 155 = .ok (.lload 5, 2) := by decide +kernel
theorem dX12_storms_157 : decode cX12_storms 157 = .ok (.aload_n 0, 1) := by decide +kernel
theorem dX12_storms_158 : decode cX12_storms 158 = .ok (.getfield 13, 3) := by decide +kernel
theorem dX12_storms_161 : decode cX12_storms 161 = .ok (.iconst 2, 1) := by decide +kernel
theorem dX12_storms_162 : decode cX12_storms 162 = .ok (.iaload, 1) := by decide +kernel
theorem dX12_storms_163 : decode cX12_storms 163 = .ok (.iload_n 1, 1) := by decide +kernel
theorem dX12_storms_164 : decode cX12_storms 164 = .ok (.invokestatic 80, 3) := by decide +kernel
theorem dX12_storms_167 : decode cX12_storms 167 = .ok (.ifCond .eq 8, 3) := by decide +kernel
theorem dX12_storms_170 : decode cX12_storms 170 = .ok (.lload 10, 2) := by decide +kernel
theorem dX12_storms_172 : decode cX12_storms 172 = .ok (.goto 4, 3) := by decide +kernel
theorem dX12_storms_175 : decode cX12_storms 175 = .ok (.lconst 0, 1) := by decide +kernel
theorem dX12_storms_176 : decode cX12_storms 176 = .ok (.ladd, 1) := by decide +kernel
theorem dX12_storms_177 : decode cX12_storms 177 = .ok (.lstore 5, 2) := by decide +kernel
theorem dX12_storms_179 : decode cX12_storms 179 = .ok (.iinc 9 1, 3) := by decide +kernel
theorem dX12_storms_182 : decode cX12_storms 182 = .ok (.goto (-109), 3) := by decide +kernel
theorem dX12_storms_185 : decode cX12_storms 185 = .ok (.lload 5, 2) := by decide +kernel
theorem dX12_storms_187 : decode cX12_storms 187 = .ok (.lload 7, 2) := by decide +kernel
theorem dX12_storms_189 : decode cX12_storms 189 = .ok (.iload 4, 2) := by decide +kernel
theorem dX12_storms_191 : decode cX12_storms 191 = .ok (.invokestatic 167, 3) := by decide +kernel
theorem dX12_storms_194 : decode cX12_storms 194 = .ok (.lreturn, 1) := by decide +kernel
theorem dX12_forged_0 : decode cX12_forged 0 = .ok (.aload_n 0, 1) := by decide +kernel
theorem dX12_forged_1 : decode cX12_forged 1 = .ok (.iload_n 1, 1) := by decide +kernel
theorem dX12_forged_2 : decode cX12_forged 2 = .ok (.iconst (-1), 1) := by decide +kernel
theorem dX12_forged_3 : decode cX12_forged 3 = .ok (.invokevirtual 134, 3) := by decide +kernel
theorem dX12_forged_6 : decode cX12_forged 6 = .ok (.istore_n 2, 1) := by decide +kernel
theorem dX12_forged_7 : decode cX12_forged 7 = .ok (.iload_n 2, 1) := by decide +kernel
theorem dX12_forged_8 : decode cX12_forged 8 = .ok (.ifCond .eq 5, 3) := by decide +kernel
theorem dX12_forged_11 : decode cX12_forged 11 = .ok (.iload_n 2, 1) := by decide +kernel
theorem dX12_forged_12 : decode cX12_forged 12 = .ok (.ireturn, 1) := by decide +kernel
theorem dX12_forged_13 : decode cX12_forged 13 = .ok (.iconst 0, 1) := by decide +kernel
theorem dX12_forged_14 : decode cX12_forged 14 = .ok (.istore_n 3, 1) := by decide +kernel
theorem dX12_forged_15 : decode cX12_forged 15 = .ok (.iload_n 3, 1) := by decide +kernel
theorem dX12_forged_16 : decode cX12_forged 16 = .ok (.aload_n 0, 1) := by decide +kernel
theorem dX12_forged_17 : decode cX12_forged 17 = .ok (.getfield 50, 3) := by decide +kernel
theorem dX12_forged_20 : decode cX12_forged 20 = .ok (.iload_n 1, 1) := by decide +kernel
theorem dX12_forged_21 : decode cX12_forged 21 = .ok (.iaload, 1) := by decide +kernel
theorem dX12_forged_22 : decode cX12_forged 22 = .ok (.if_icmp .ge 41, 3) := by decide +kernel
theorem dX12_forged_25 : decode cX12_forged 25 = .ok (.aload_n 0, 1) := by decide +kernel
theorem dX12_forged_26 : decode cX12_forged 26 = .ok (.iload_n 3, 1) := by decide +kernel
theorem dX12_forged_27 : decode cX12_forged 27 = .ok (.invokevirtual 60, 3) := by decide +kernel
theorem dX12_forged_30 : decode cX12_forged 30 = .ok (.ifCond .eq 25, 3) := by decide +kernel
theorem dX12_forged_33 : decode cX12_forged 33 = .ok (.aload_n 0, 1) := by decide +kernel
theorem dX12_forged_34 : decode cX12_forged 34 = .ok (.getfield 53, 3) := by decide +kernel
theorem dX12_forged_37 : decode cX12_forged 37 = .ok (.bipush 100, 2) := by decide +kernel
theorem dX12_forged_39 : decode cX12_forged 39 = .ok (.iload_n 1, 1) := by decide +kernel
theorem dX12_forged_40 : decode cX12_forged 40 = .ok (.imul, 1) := by decide +kernel
theorem dX12_forged_41 : decode cX12_forged 41 = .ok (.iload_n 3, 1) := by decide +kernel
theorem dX12_forged_42 : decode cX12_forged 42 = .ok (.iadd, 1) := by decide +kernel
theorem dX12_forged_43 : decode cX12_forged 43 = .ok (.iaload, 1) := by decide +kernel
theorem dX12_forged_44 : decode cX12_forged 44 = .ok (.aload_n 0, 1) := by decide +kernel
theorem dX12_forged_45 : decode cX12_forged 45 = .ok (.getfield 9, 3) := by decide +kernel
theorem dX12_forged_48 : decode cX12_forged 48 = .ok (.iload_n 3, 1) := by decide +kernel
theorem dX12_forged_49 : decode cX12_forged 49 = .ok (.invokestatic 72, 3) := by decide +kernel
theorem dX12_forged_52 : decode cX12_forged 52 = .ok (.if_icmp .eq 5, 3) := by decide +kernel
theorem dX12_forged_55 : decode cX12_forged 55 = .ok (.iload_n 3, 1) := by decide +kernel
theorem dX12_forged_56 : decode cX12_forged 56 = .ok (.ireturn, 1) := by decide +kernel
theorem dX12_forged_57 : decode cX12_forged 57 = .ok (.iinc 3 1, 3) := by decide +kernel
theorem dX12_forged_60 : decode cX12_forged 60 = .ok (.goto (-45), 3) := by decide +kernel
theorem dX12_forged_63 : decode cX12_forged 63 = .ok (.bipush (-4), 2) := by decide +kernel
theorem dX12_forged_65 : decode cX12_forged 65 = .ok (.ireturn, 1) := by decide +kernel
theorem dX12_judge_0 : decode cX12_judge 0 = .ok (.aload_n 0, 1) := by decide +kernel
theorem dX12_judge_1 : decode cX12_judge 1 = .ok (.iload_n 1, 1) := by decide +kernel
theorem dX12_judge_2 : decode cX12_judge 2 = .ok (.iconst (-1), 1) := by decide +kernel
theorem dX12_judge_3 : decode cX12_judge 3 = .ok (.invokevirtual 134, 3) := by decide +kernel
theorem dX12_judge_6 : decode cX12_judge 6 = .ok (.istore_n 2, 1) := by decide +kernel
theorem dX12_judge_7 : decode cX12_judge 7 = .ok (.iload_n 2, 1) := by decide +kernel
theorem dX12_judge_8 : decode cX12_judge 8 = .ok (.ifCond .eq 5, 3) := by decide +kernel
theorem dX12_judge_11 : decode cX12_judge 11 = .ok (.iload_n 2, 1) := by decide +kernel
theorem dX12_judge_12 : decode cX12_judge 12 = .ok (.ireturn, 1) := by decide +kernel
theorem dX12_judge_13 : decode cX12_judge 13 = .ok (.aload_n 0, 1) := by decide +kernel
theorem dX12_judge_14 : decode cX12_judge 14 = .ok (.getfield 9, 3) := by decide +kernel
theorem dX12_judge_17 : decode cX12_judge 17 = .ok (.aload_n 0, 1) := by decide +kernel
theorem dX12_judge_18 : decode cX12_judge 18 = .ok (.getfield 13, 3) := by decide +kernel
theorem dX12_judge_21 : decode cX12_judge 21 = .ok (.invokestatic 141, 3) := by decide +kernel
theorem dX12_judge_24 : decode cX12_judge 24 = .ok (.iconst 0, 1) := by decide +kernel
theorem dX12_judge_25 : decode cX12_judge 25 = .ok (.istore_n 3, 1) := by decide +kernel
theorem dX12_judge_26 : decode cX12_judge 26 = .ok (.iload_n 3, 1) := by decide +kernel
theorem dX12_judge_27 : decode cX12_judge 27 = .ok (.aload_n 0, 1) := by decide +kernel
theorem dX12_judge_28 : decode cX12_judge 28 = .ok (.getfield 50, 3) := by decide +kernel
theorem dX12_judge_31 : decode cX12_judge 31 = .ok (.iload_n 1, 1) := by decide +kernel
theorem dX12_judge_32 : decode cX12_judge 32 = .ok (.iaload, 1) := by decide +kernel
theorem dX12_judge_33 : decode cX12_judge 33 = .ok (.if_icmp .ge 37, 3) := by decide +kernel
theorem dX12_judge_36 : decode cX12_judge 36 = .ok (.aload_n 0, 1) := by decide +kernel
theorem dX12_judge_37 : decode cX12_judge 37 = .ok (.iload_n 1, 1) := by decide +kernel
theorem dX12_judge_38 : decode cX12_judge 38 = .ok (.iload_n 3, 1) := by decide +kernel
theorem dX12_judge_39 : decode cX12_judge 39 = .ok (.aload_n 0, 1) := by decide +kernel
theorem dX12_judge_40 : decode cX12_judge 40 = .ok (.getfield 13, 3) := by decide +kernel
theorem dX12_judge_43 : decode cX12_judge 43 = .ok (.iconst 2, 1) := by decide +kernel
theorem dX12_judge_44 : decode cX12_judge 44 = .ok (.iaload, 1) := by decide +kernel
theorem dX12_judge_45 : decode cX12_judge 45 = .ok (.invokestatic 68, 3) := by decide +kernel
theorem dX12_judge_48 : decode cX12_judge 48 = .ok (.invokevirtual 230, 3) := by decide +kernel
theorem dX12_judge_51 : decode cX12_judge 51 = .ok (.ifCond .ne 5, 3) := by decide +kernel
theorem dX12_judge_54 : decode cX12_judge 54 = .ok (.iload_n 3, 1) := by decide +kernel
theorem dX12_judge_55 : decode cX12_judge 55 = .ok (.ireturn, 1) := by decide +kernel
theorem dX12_judge_56 : decode cX12_judge 56 = .ok (.aload_n 0, 1) := by decide +kernel
theorem dX12_judge_57 : decode cX12_judge 57 = .ok (.getfield 13, 3) := by decide +kernel
theorem dX12_judge_60 : decode cX12_judge 60 = .ok (.iconst 0, 1) := by decide +kernel
theorem dX12_judge_61 : decode cX12_judge 61 = .ok (.invokestatic 96, 3) := by decide +kernel
theorem dX12_judge_64 : decode cX12_judge 64 = .ok (.iinc 3 1, 3) := by decide +kernel
theorem dX12_judge_67 : decode cX12_judge 67 = .ok (.goto (-41), 3) := by decide +kernel
theorem dX12_judge_70 : decode cX12_judge 70 = .ok (.bipush (-4), 2) := by decide +kernel
theorem dX12_judge_72 : decode cX12_judge 72 = .ok (.ireturn, 1) := by decide +kernel
theorem dX12_drawn_0 : decode cX12_drawn 0 = .ok (.aload_n 0, 1) := by decide +kernel
theorem dX12_drawn_1 : decode cX12_drawn 1 = .ok (.aload_n 0, 1) := by decide +kernel
theorem dX12_drawn_2 : decode cX12_drawn 2 = .ok (.getfield 240, 3) := by decide +kernel
theorem dX12_drawn_5 : decode cX12_drawn 5 = .ok (.ldc 243, 2) := by decide +kernel
theorem dX12_drawn_7 : decode cX12_drawn 7 = .ok (.imul, 1) := by decide +kernel
theorem dX12_drawn_8 : decode cX12_drawn 8 = .ok (.sipush 12345, 3) := by decide +kernel
theorem dX12_drawn_11 : decode cX12_drawn 11 = .ok (.iadd, 1) := by decide +kernel
theorem dX12_drawn_12 : decode cX12_drawn 12 = .ok (.putfield 240, 3) := by decide +kernel
theorem dX12_drawn_15 : decode cX12_drawn 15 = .ok (.aload_n 0, 1) := by decide +kernel
theorem dX12_drawn_16 : decode cX12_drawn 16 = .ok (.getfield 240, 3) := by decide +kernel
theorem dX12_drawn_19 : decode cX12_drawn 19 = .ok (.ldc 244, 2) := by decide +kernel
theorem dX12_drawn_21 : decode cX12_drawn 21 = .ok (.iand, 1) := by decide +kernel
theorem dX12_drawn_22 : decode cX12_drawn 22 = .ok (.ldc 245, 2) := by decide +kernel
theorem dX12_drawn_24 : decode cX12_drawn 24 = .ok (.idiv, 1) := by decide +kernel
theorem dX12_drawn_25 : decode cX12_drawn 25 = .ok (.iload_n 1, 1) := by decide +kernel
theorem dX12_drawn_26 : decode cX12_drawn 26 = .ok (.irem, 1) := by decide +kernel
theorem dX12_drawn_27 : decode cX12_drawn 27 = .ok (.ireturn, 1) := by decide +kernel
theorem dX12_years_0 : decode cX12_years 0 = .ok (.iload_n 1, 1) := by decide +kernel
theorem dX12_years_1 : decode cX12_years 1 = .ok (.iconst 1, 1) := by decide +kernel
theorem dX12_years_2 : decode cX12_years 2 = .ok (.bipush 20, 2) := by decide +kernel
theorem dX12_years_4 : decode cX12_years 4 = .ok (.invokestatic 56, 3) := by decide +kernel
theorem dX12_years_7 : decode cX12_years 7 = .ok (.ifCond .eq 12, 3) := by decide +kernel
theorem dX12_years_10 : decode cX12_years 10 = .ok (.iload_n 3, 1) := by decide +kernel
theorem dX12_years_11 : decode cX12_years 11 = .ok (.iconst 0, 1) := by decide +kernel
theorem dX12_years_12 : decode cX12_years 12 = .ok (.iconst 1, 1) := by decide +kernel
theorem dX12_years_13 : decode cX12_years 13 = .ok (.invokestatic 56, 3) := by decide +kernel
theorem dX12_years_16 : decode cX12_years 16 = .ok (.ifCond .ne 5, 3) := by decide +kernel
theorem dX12_years_19 : decode cX12_years 19 = .ok (.iconst (-1), 1) := by decide +kernel
theorem dX12_years_20 : decode cX12_years 20 = .ok (.ireturn, 1) := by decide +kernel
theorem dX12_years_21 : decode cX12_years 21 = .ok (.aload_n 0, 1) := by decide +kernel
theorem dX12_years_22 : decode cX12_years 22 = .ok (.iload_n 2, 1) := by decide +kernel
theorem dX12_years_23 : decode cX12_years 23 = .ok (.putfield 240, 3) := by decide +kernel
theorem dX12_years_26 : decode cX12_years 26 = .ok (.iconst 0, 1) := by decide +kernel
theorem dX12_years_27 : decode cX12_years 27 = .ok (.istore 4, 2) := by decide +kernel
theorem dX12_years_29 : decode cX12_years 29 = .ok (.iconst 0, 1) := by decide +kernel
theorem dX12_years_30 : decode cX12_years 30 = .ok (.istore 5, 2) := by decide +kernel
theorem dX12_years_32 : decode cX12_years 32 = .ok (.iload 5, 2) := by decide +kernel
theorem dX12_years_34 : decode cX12_years 34 = .ok (.iload_n 1, 1) := by decide +kernel
theorem dX12_years_35 : decode cX12_years 35 = .ok (.if_icmp .ge 151, 3) := by decide +kernel
theorem dX12_years_38 : decode cX12_years 38 = .ok (.aload_n 0, 1) := by decide +kernel
theorem dX12_years_39 : decode cX12_years 39 = .ok (.getfield 9, 3) := by decide +kernel
theorem dX12_years_42 : decode cX12_years 42 = .ok (.aload_n 0, 1) := by decide +kernel
theorem dX12_years_43 : decode cX12_years 43 = .ok (.getfield 13, 3) := by decide +kernel
theorem dX12_years_46 : decode cX12_years 46 = .ok (.invokestatic 141, 3) := by decide +kernel
theorem dX12_years_49 : decode cX12_years 49 = .ok (.iconst 0, 1) := by decide +kernel
theorem dX12_years_50 : decode cX12_years 50 = .ok (.istore 6, 2) := by decide +kernel
theorem dX12_years_52 : decode cX12_years 52 = .ok (.iload 6, 2) := by decide +kernel
theorem dX12_years_54 : decode cX12_years 54 = .ok (.aload_n 0, 1) := by decide +kernel
theorem dX12_years_55 : decode cX12_years 55 = .ok (.getfield 9, 3) := by decide +kernel
theorem dX12_years_58 : decode cX12_years 58 = .ok (.iconst 0, 1) := by decide +kernel
theorem dX12_years_59 : decode cX12_years 59 = .ok (.iaload, 1) := by decide +kernel
theorem dX12_years_60 : decode cX12_years 60 = .ok (.if_icmp .ge 21, 3) := by decide +kernel
theorem dX12_years_63 : decode cX12_years 63 = .ok (.aload_n 0, 1) := by decide +kernel
theorem dX12_years_64 : decode cX12_years 64 = .ok (.getfield 13, 3) := by decide +kernel
theorem dX12_years_67 : decode cX12_years 67 = .ok (.iload 6, 2) := by decide +kernel
theorem dX12_years_69 : decode cX12_years 69 = .ok (.iconst 2, 1) := by decide +kernel
theorem dX12_years_70 : decode cX12_years 70 = .ok (.invokestatic 64, 3) := by decide +kernel
theorem dX12_years_73 : decode cX12_years 73 = .ok (.iconst 0, 1) := by decide +kernel
theorem dX12_years_74 : decode cX12_years 74 = .ok (.iastore, 1) := by decide +kernel
theorem dX12_years_75 : decode cX12_years 75 = .ok (.iinc 6 1, 3) := by decide +kernel
theorem dX12_years_78 : decode cX12_years 78 = .ok (.goto (-26), 3) := by decide +kernel
theorem dX12_years_81 : decode cX12_years 81 = .ok (.iconst 0, 1) := by decide +kernel
theorem dX12_years_82 : decode cX12_years 82 = .ok (.istore 6, 2) := by decide +kernel
theorem dX12_years_84 : decode cX12_years 84 = .ok (.iload 6, 2) := by decide +kernel
theorem dX12_years_86 : decode cX12_years 86 = .ok (.aload_n 0, 1) := by decide +kernel
theorem dX12_years_87 : decode cX12_years 87 = .ok (.getfield 9, 3) := by decide +kernel
theorem dX12_years_90 : decode cX12_years 90 = .ok (.iconst 0, 1) := by decide +kernel
theorem dX12_years_91 : decode cX12_years 91 = .ok (.iaload, 1) := by decide +kernel
theorem dX12_years_92 : decode cX12_years 92 = .ok (.if_icmp .ge 51, 3) := by decide +kernel
theorem dX12_years_95 : decode cX12_years 95 = .ok (.iload 6, 2) := by decide +kernel
theorem dX12_years_97 : decode cX12_years 97 = .ok (.iconst 1, 1) := by decide +kernel
theorem dX12_years_98 : decode cX12_years 98 = .ok (.iadd, 1) := by decide +kernel
theorem dX12_years_99 : decode cX12_years 99 = .ok (.istore 7, 2) := by decide +kernel
theorem dX12_years_101 : decode cX12_years 101 = .ok (.iload 7, 2) := by decide +kernel
theorem dX12_years_103 : decode cX12_years 103 = .ok (.aload_n 0, 1) := by decide +kernel
theorem dX12_years_104 : decode cX12_years 104 = .ok (.getfield 9, 3) := by decide +kernel
theorem dX12_years_107 : decode cX12_years 107 = .ok (.iconst 0, 1) := by decide +kernel
theorem dX12_years_108 : decode cX12_years 108 = .ok (.iaload, 1) := by decide +kernel
theorem dX12_years_109 : decode cX12_years 109 = .ok (.if_icmp .ge 28, 3) := by decide +kernel
theorem dX12_years_112 : decode cX12_years 112 = .ok (.aload_n 0, 1) := by decide +kernel
theorem dX12_years_113 : decode cX12_years 113 = .ok (.iconst 3, 1) := by decide +kernel
theorem dX12_years_114 : decode cX12_years 114 = .ok (.invokevirtual 246, 3) := by decide +kernel
theorem dX12_years_117 : decode cX12_years 117 = .ok (.ifCond .ne 14, 3) := by decide +kernel
theorem dX12_years_120 : decode cX12_years 120 = .ok (.aload_n 0, 1) := by decide +kernel
theorem dX12_years_121 : decode cX12_years 121 = .ok (.getfield 13, 3) := by decide +kernel
theorem dX12_years_124 : decode cX12_years 124 = .ok (.iload 6, 2) := by decide +kernel
theorem dX12_years_126 : decode cX12_years 126 = .ok (.iload 7, 2) := by decide +kernel
theorem dX12_years_128 : decode cX12_years 128 = .ok (.invokestatic 123, 3) := by decide +kernel
theorem dX12_years_131 : decode cX12_years 131 = .ok (.iinc 7 1, 3) := by decide +kernel
theorem dX12_years_134 : decode cX12_years 134 = .ok (.goto (-33), 3) := by decide +kernel
theorem dX12_years_137 : decode cX12_years 137 = .ok (.iinc 6 1, 3) := by decide +kernel
theorem dX12_years_140 : decode cX12_years 140 = .ok (.goto (-56), 3) := by decide +kernel
theorem dX12_years_143 : decode cX12_years 143 = .ok (.aload_n 0, 1) := by decide +kernel
theorem dX12_years_144 : decode cX12_years 144 = .ok (.getfield 13, 3) := by decide +kernel
theorem dX12_years_147 : decode cX12_years 147 = .ok (.bipush 9, 2) := by decide +kernel
theorem dX12_years_149 : decode cX12_years 149 = .ok (.invokestatic 131, 3) := by decide +kernel
theorem dX12_years_152 : decode cX12_years 152 = .ok (.iload 4, 2) := by decide +kernel
theorem dX12_years_154 : decode cX12_years 154 = .ok (.iload_n 3, 1) := by decide +kernel
theorem dX12_years_155 : decode cX12_years 155 = .ok (.ifCond .ne 15, 3) := by decide +kernel
theorem dX12_years_158 : decode cX12_years 158 = .ok (.aload_n 0, 1) := by decide +kernel
theorem dX12_years_159 : decode cX12_years 159 = .ok (.getfield 13, 3) := by decide +kernel
theorem dX12_years_162 : decode cX12_years 162 = .ok (.iconst 2, 1) := by decide +kernel
theorem dX12_years_163 : decode cX12_years 163 = .ok (.iaload, 1) := by decide +kernel
theorem dX12_years_164 : decode cX12_years 164 = .ok (.invokestatic 68, 3) := by decide +kernel
theorem dX12_years_167 : decode cX12_years 167 = .ok (.goto 10, 3) := by decide +kernel
theorem dX12_years_170 : decode cX12_years 170 = .ok (.aload_n 0, 1) := by decide +kernel
theorem dX12_years_171 : decode cX12_years 171 = .ok (.getfield 13, 3) := by decide +kernel
theorem dX12_years_174 : decode cX12_years 174 = .ok (.invokestatic 163, 3) := by decide +kernel
theorem dX12_years_177 : decode cX12_years 177 = .ok (.iadd, 1) := by decide +kernel
theorem dX12_years_178 : decode cX12_years 178 = .ok (.istore 4, 2) := by decide +kernel
theorem dX12_years_180 : decode cX12_years 180 = .ok (.iinc 5 1, 3) := by decide +kernel
theorem dX12_years_183 : decode cX12_years 183 = .ok (.goto (-151), 3) := by decide +kernel
theorem dX12_years_186 : decode cX12_years 186 = .ok (.iload 4, 2) := by decide +kernel
theorem dX12_years_188 : decode cX12_years 188 = .ok (.ireturn, 1) := by decide +kernel
theorem dX12_image_0 : decode cX12_image 0 = .ok (.aload_n 0, 1) := by decide +kernel
theorem dX12_image_1 : decode cX12_image 1 = .ok (.getfield 9, 3) := by decide +kernel
theorem dX12_image_4 : decode cX12_image 4 = .ok (.aload_n 0, 1) := by decide +kernel
theorem dX12_image_5 : decode cX12_image 5 = .ok (.getfield 16, 3) := by decide +kernel
theorem dX12_image_8 : decode cX12_image 8 = .ok (.invokestatic 141, 3) := by decide +kernel
theorem dX12_image_11 : decode cX12_image 11 = .ok (.aload_n 0, 1) := by decide +kernel
theorem dX12_image_12 : decode cX12_image 12 = .ok (.iconst 1, 1) := by decide +kernel
theorem dX12_image_13 : decode cX12_image 13 = .ok (.putfield 249, 3) := by decide +kernel
theorem dX12_image_16 : decode cX12_image 16 = .ok (.aload_n 0, 1) := by decide +kernel
theorem dX12_image_17 : decode cX12_image 17 = .ok (.getfield 9, 3) := by decide +kernel
theorem dX12_image_20 : decode cX12_image 20 = .ok (.iconst 1, 1) := by decide +kernel
theorem dX12_image_21 : decode cX12_image 21 = .ok (.iaload, 1) := by decide +kernel
theorem dX12_image_22 : decode cX12_image 22 = .ok (.ireturn, 1) := by decide +kernel
theorem dX12_restore_0 : decode cX12_restore 0 = .ok (.aload_n 0, 1) := by decide +kernel
theorem dX12_restore_1 : decode cX12_restore 1 = .ok (.getfield 249, 3) := by decide +kernel
theorem dX12_restore_4 : decode cX12_restore 4 = .ok (.ifCond .ne 6, 3) := by decide +kernel
theorem dX12_restore_7 : decode cX12_restore 7 = .ok (.bipush (-3), 2) := by decide +kernel
theorem dX12_restore_9 : decode cX12_restore 9 = .ok (.ireturn, 1) := by decide +kernel
theorem dX12_restore_10 : decode cX12_restore 10 = .ok (.aload_n 0, 1) := by decide +kernel
theorem dX12_restore_11 : decode cX12_restore 11 = .ok (.getfield 16, 3) := by decide +kernel
theorem dX12_restore_14 : decode cX12_restore 14 = .ok (.aload_n 0, 1) := by decide +kernel
theorem dX12_restore_15 : decode cX12_restore 15 = .ok (.getfield 9, 3) := by decide +kernel
theorem dX12_restore_18 : decode cX12_restore 18 = .ok (.invokestatic 141, 3) := by decide +kernel
theorem dX12_restore_21 : decode cX12_restore 21 = .ok (.aload_n 0, 1) := by decide +kernel
theorem dX12_restore_22 : decode cX12_restore 22 = .ok (.getfield 9, 3) := by decide +kernel
theorem dX12_restore_25 : decode cX12_restore 25 = .ok (.iconst 1, 1) := by decide +kernel
theorem dX12_restore_26 : decode cX12_restore 26 = .ok (.iaload, 1) := by decide +kernel
theorem dX12_restore_27 : decode cX12_restore 27 = .ok (.ireturn, 1) := by decide +kernel
theorem dX12_count_0 : decode cX12_count 0 = .ok (.iconst 0, 1) := by decide +kernel
theorem dX12_count_1 : decode cX12_count 1 = .ok (.istore_n 2, 1) := by decide +kernel
theorem dX12_count_2 : decode cX12_count 2 = .ok (.iload_n 1, 1) := by decide +kernel
theorem dX12_count_3 : decode cX12_count 3 = .ok (.tableswitch 86 0 4 #[33, 33, 40, 48, 55], 33) := by decide +kernel
theorem dX12_count_36 : decode cX12_count 36 = .ok (.aload_n 0, 1) := by decide +kernel
theorem dX12_count_37 : decode cX12_count 37 = .ok (.getfield 9, 3) := by decide +kernel
theorem dX12_count_40 : decode cX12_count 40 = .ok (.iload_n 1, 1) := by decide +kernel
theorem dX12_count_41 : decode cX12_count 41 = .ok (.iaload, 1) := by decide +kernel
theorem dX12_count_42 : decode cX12_count 42 = .ok (.ireturn, 1) := by decide +kernel
theorem dX12_count_43 : decode cX12_count 43 = .ok (.aload_n 0, 1) := by decide +kernel
theorem dX12_count_44 : decode cX12_count 44 = .ok (.getfield 9, 3) := by decide +kernel
theorem dX12_count_47 : decode cX12_count 47 = .ok (.invokestatic 163, 3) := by decide +kernel
theorem dX12_count_50 : decode cX12_count 50 = .ok (.ireturn, 1) := by decide +kernel
theorem dX12_count_51 : decode cX12_count 51 = .ok (.aload_n 0, 1) := by decide +kernel
theorem dX12_count_52 : decode cX12_count 52 = .ok (.getfield 9, 3) := by decide +kernel
theorem dX12_count_55 : decode cX12_count 55 = .ok (.iconst 2, 1) := by decide +kernel
theorem dX12_count_56 : decode cX12_count 56 = .ok (.iaload, 1) := by decide +kernel
theorem dX12_count_57 : decode cX12_count 57 = .ok (.ireturn, 1) := by decide +kernel
theorem dX12_count_58 : decode cX12_count 58 = .ok (.iconst 0, 1) := by decide +kernel
theorem dX12_count_59 : decode cX12_count 59 = .ok (.istore_n 3, 1) := by decide +kernel
theorem dX12_count_60 : decode cX12_count 60 = .ok (.iload_n 3, 1) := by decide +kernel
theorem dX12_count_61 : decode cX12_count 61 = .ok (.aload_n 0, 1) := by decide +kernel
theorem dX12_count_62 : decode cX12_count 62 = .ok (.getfield 9, 3) := by decide +kernel
theorem dX12_count_65 : decode cX12_count 65 = .ok (.iconst 0, 1) := by decide +kernel
theorem dX12_count_66 : decode cX12_count 66 = .ok (.iaload, 1) := by decide +kernel
theorem dX12_count_67 : decode cX12_count 67 = .ok (.if_icmp .ge 20, 3) := by decide +kernel
theorem dX12_count_70 : decode cX12_count 70 = .ok (.iload_n 2, 1) := by decide +kernel
theorem dX12_count_71 : decode cX12_count 71 = .ok (.aload_n 0, 1) := by decide +kernel
theorem dX12_count_72 : decode cX12_count 72 = .ok (.getfield 9, 3) := by decide +kernel
theorem dX12_count_75 : decode cX12_count 75 = .ok (.iload_n 3, 1) := by decide +kernel
theorem dX12_count_76 : decode cX12_count 76 = .ok (.invokestatic 148, 3) := by decide +kernel
theorem dX12_count_79 : decode cX12_count 79 = .ok (.iadd, 1) := by decide +kernel
theorem dX12_count_80 : decode cX12_count 80 = .ok (.istore_n 2, 1) := by decide +kernel
theorem dX12_count_81 : decode cX12_count 81 = .ok (.iinc 3 1, 3) := by decide +kernel
theorem dX12_count_84 : decode cX12_count 84 = .ok (.goto (-24), 3) := by decide +kernel
theorem dX12_count_87 : decode cX12_count 87 = .ok (.iload_n 2, 1) := by decide +kernel
theorem dX12_count_88 : decode cX12_count 88 = .ok (.ireturn, 1) := by decide +kernel
theorem dX12_count_89 : decode cX12_count 89 = .ok (.iconst (-1), 1) := by decide +kernel
theorem dX12_count_90 : decode cX12_count 90 = .ok (.ireturn, 1) := by decide +kernel
theorem dX12_thrown_0 : decode cX12_thrown 0 = .ok (.aload_n 0, 1) := by decide +kernel
theorem dX12_thrown_1 : decode cX12_thrown 1 = .ok (.getfield 253, 3) := by decide +kernel
theorem dX12_thrown_4 : decode cX12_thrown 4 = .ok (.ireturn, 1) := by decide +kernel
theorem dX12_isShelf_0 : decode cX12_isShelf 0 = .ok (.iload_n 0, 1) := by decide +kernel
theorem dX12_isShelf_1 : decode cX12_isShelf 1 = .ok (.iconst 0, 1) := by decide +kernel
theorem dX12_isShelf_2 : decode cX12_isShelf 2 = .ok (.bipush 7, 2) := by decide +kernel
theorem dX12_isShelf_4 : decode cX12_isShelf 4 = .ok (.invokestatic 56, 3) := by decide +kernel
theorem dX12_isShelf_7 : decode cX12_isShelf 7 = .ok (.ireturn, 1) := by decide +kernel
theorem dX12_wrongRow_0 : decode cX12_wrongRow 0 = .ok (.iload_n 1, 1) := by decide +kernel
theorem dX12_wrongRow_1 : decode cX12_wrongRow 1 = .ok (.invokestatic 256, 3) := by decide +kernel
theorem dX12_wrongRow_4 : decode cX12_wrongRow 4 = .ok (.ifCond .ne 7, 3) := by decide +kernel
theorem dX12_wrongRow_7 : decode cX12_wrongRow 7 = .ok (.iconst (-1), 1) := by decide +kernel
theorem dX12_wrongRow_8 : decode cX12_wrongRow 8 = .ok (.goto 47, 3) := by decide +kernel
theorem dX12_wrongRow_11 : decode cX12_wrongRow 11 = .ok (.aload_n 0, 1) := by decide +kernel
theorem dX12_wrongRow_12 : decode cX12_wrongRow 12 = .ok (.getfield 38, 3) := by decide +kernel
theorem dX12_wrongRow_15 : decode cX12_wrongRow 15 = .ok (.iload_n 1, 1) := by decide +kernel
theorem dX12_wrongRow_16 : decode cX12_wrongRow 16 = .ok (.iaload, 1) := by decide +kernel
theorem dX12_wrongRow_17 : decode cX12_wrongRow 17 = .ok (.ifCond .ne 8, 3) := by decide +kernel
theorem dX12_wrongRow_20 : decode cX12_wrongRow 20 = .ok (.bipush (-11), 2) := by decide +kernel
theorem dX12_wrongRow_22 : decode cX12_wrongRow 22 = .ok (.goto 33, 3) := by decide +kernel
theorem dX12_wrongRow_25 : decode cX12_wrongRow 25 = .ok (.aload_n 0, 1) := by decide +kernel
theorem dX12_wrongRow_26 : decode cX12_wrongRow 26 = .ok (.getfield 38, 3) := by decide +kernel
theorem dX12_wrongRow_29 : decode cX12_wrongRow 29 = .ok (.iload_n 1, 1) := by decide +kernel
theorem dX12_wrongRow_30 : decode cX12_wrongRow 30 = .ok (.iaload, 1) := by decide +kernel
theorem dX12_wrongRow_31 : decode cX12_wrongRow 31 = .ok (.iconst 2, 1) := by decide +kernel
theorem dX12_wrongRow_32 : decode cX12_wrongRow 32 = .ok (.if_icmp .ne 17, 3) := by decide +kernel
theorem dX12_wrongRow_35 : decode cX12_wrongRow 35 = .ok (.iload_n 2, 1) := by decide +kernel
theorem dX12_wrongRow_36 : decode cX12_wrongRow 36 = .ok (.ifCond .lt 18, 3) := by decide +kernel
theorem dX12_wrongRow_39 : decode cX12_wrongRow 39 = .ok (.aload_n 0, 1) := by decide +kernel
theorem dX12_wrongRow_40 : decode cX12_wrongRow 40 = .ok (.getfield 47, 3) := by decide +kernel
theorem dX12_wrongRow_43 : decode cX12_wrongRow 43 = .ok (.iload_n 1, 1) := by decide +kernel
theorem dX12_wrongRow_44 : decode cX12_wrongRow 44 = .ok (.iaload, 1) := by decide +kernel
theorem dX12_wrongRow_45 : decode cX12_wrongRow 45 = .ok (.iload_n 2, 1) := by decide +kernel
theorem dX12_wrongRow_46 : decode cX12_wrongRow 46 = .ok (.if_icmp .eq 8, 3) := by decide +kernel
theorem dX12_wrongRow_49 : decode cX12_wrongRow 49 = .ok (.bipush (-12), 2) := by decide +kernel
theorem dX12_wrongRow_51 : decode cX12_wrongRow 51 = .ok (.goto 4, 3) := by decide +kernel
theorem dX12_wrongRow_54 : decode cX12_wrongRow 54 = .ok (.iconst 0, 1) := by decide +kernel
theorem dX12_wrongRow_55 : decode cX12_wrongRow 55 = .ok (.ireturn, 1) := by decide +kernel
theorem dX12_wrongKept_0 : decode cX12_wrongKept 0 = .ok (.iload_n 1, 1) := by decide +kernel
theorem dX12_wrongKept_1 : decode cX12_wrongKept 1 = .ok (.invokestatic 256, 3) := by decide +kernel
theorem dX12_wrongKept_4 : decode cX12_wrongKept 4 = .ok (.ifCond .ne 7, 3) := by decide +kernel
theorem dX12_wrongKept_7 : decode cX12_wrongKept 7 = .ok (.iconst (-1), 1) := by decide +kernel
theorem dX12_wrongKept_8 : decode cX12_wrongKept 8 = .ok (.goto 33, 3) := by decide +kernel
theorem dX12_wrongKept_11 : decode cX12_wrongKept 11 = .ok (.aload_n 0, 1) := by decide +kernel
theorem dX12_wrongKept_12 : decode cX12_wrongKept 12 = .ok (.getfield 38, 3) := by decide +kernel
theorem dX12_wrongKept_15 : decode cX12_wrongKept 15 = .ok (.iload_n 1, 1) := by decide +kernel
theorem dX12_wrongKept_16 : decode cX12_wrongKept 16 = .ok (.iaload, 1) := by decide +kernel
theorem dX12_wrongKept_17 : decode cX12_wrongKept 17 = .ok (.ifCond .ne 8, 3) := by decide +kernel
theorem dX12_wrongKept_20 : decode cX12_wrongKept 20 = .ok (.bipush (-11), 2) := by decide +kernel
theorem dX12_wrongKept_22 : decode cX12_wrongKept 22 = .ok (.goto 19, 3) := by decide +kernel
theorem dX12_wrongKept_25 : decode cX12_wrongKept 25 = .ok (.aload_n 0, 1) := by decide +kernel
theorem dX12_wrongKept_26 : decode cX12_wrongKept 26 = .ok (.getfield 38, 3) := by decide +kernel
theorem dX12_wrongKept_29 : decode cX12_wrongKept 29 = .ok (.iload_n 1, 1) := by decide +kernel
theorem dX12_wrongKept_30 : decode cX12_wrongKept 30 = .ok (.iaload, 1) := by decide +kernel
theorem dX12_wrongKept_31 : decode cX12_wrongKept 31 = .ok (.iconst 2, 1) := by decide +kernel
theorem dX12_wrongKept_32 : decode cX12_wrongKept 32 = .ok (.if_icmp .ne 8, 3) := by decide +kernel
theorem dX12_wrongKept_35 : decode cX12_wrongKept 35 = .ok (.bipush (-12), 2) := by decide +kernel
theorem dX12_wrongKept_37 : decode cX12_wrongKept 37 = .ok (.goto 4, 3) := by decide +kernel
theorem dX12_wrongKept_40 : decode cX12_wrongKept 40 = .ok (.iconst 0, 1) := by decide +kernel
theorem dX12_wrongKept_41 : decode cX12_wrongKept 41 = .ok (.ireturn, 1) := by decide +kernel
theorem dX12_keep_0 : decode cX12_keep 0 = .ok (.iload_n 1, 1) := by decide +kernel
theorem dX12_keep_1 : decode cX12_keep 1 = .ok (.invokestatic 256, 3) := by decide +kernel
theorem dX12_keep_4 : decode cX12_keep 4 = .ok (.ifCond .eq 38, 3) := by decide +kernel
theorem dX12_keep_7 : decode cX12_keep 7 = .ok (.iload_n 2, 1) := by decide +kernel
theorem dX12_keep_8 : decode cX12_keep 8 = .ok (.iconst 0, 1) := by decide +kernel
theorem dX12_keep_9 : decode cX12_keep 9 = .ok (.iconst 1, 1) := by decide +kernel
theorem dX12_keep_10 : decode cX12_keep 10 = .ok (.invokestatic 56, 3) := by decide +kernel
theorem dX12_keep_13 : decode cX12_keep 13 = .ok (.ifCond .eq 29, 3) := by decide +kernel
theorem dX12_keep_16 : decode cX12_keep 16 = .ok (.iload_n 2, 1) := by decide +kernel
theorem dX12_keep_17 : decode cX12_keep 17 = .ok (.iconst 1, 1) := by decide +kernel
theorem dX12_keep_18 : decode cX12_keep 18 = .ok (.if_icmp .ne 26, 3) := by decide +kernel
theorem dX12_keep_21 : decode cX12_keep 21 = .ok (.iload_n 3, 1) := by decide +kernel
theorem dX12_keep_22 : decode cX12_keep 22 = .ok (.iconst 0, 1) := by decide +kernel
theorem dX12_keep_23 : decode cX12_keep 23 = .ok (.bipush 7, 2) := by decide +kernel
theorem dX12_keep_25 : decode cX12_keep 25 = .ok (.invokestatic 56, 3) := by decide +kernel
theorem dX12_keep_28 : decode cX12_keep 28 = .ok (.ifCond .eq 14, 3) := by decide +kernel
theorem dX12_keep_31 : decode cX12_keep 31 = .ok (.iload 4, 2) := by decide +kernel
theorem dX12_keep_33 : decode cX12_keep 33 = .ok (.iconst 0, 1) := by decide +kernel
theorem dX12_keep_34 : decode cX12_keep 34 = .ok (.bipush 9, 2) := by decide +kernel
theorem dX12_keep_36 : decode cX12_keep 36 = .ok (.invokestatic 56, 3) := by decide +kernel
theorem dX12_keep_39 : decode cX12_keep 39 = .ok (.ifCond .ne 5, 3) := by decide +kernel
theorem dX12_keep_42 : decode cX12_keep 42 = .ok (.iconst (-1), 1) := by decide +kernel
theorem dX12_keep_43 : decode cX12_keep 43 = .ok (.ireturn, 1) := by decide +kernel
theorem dX12_keep_44 : decode cX12_keep 44 = .ok (.aload_n 0, 1) := by decide +kernel
theorem dX12_keep_45 : decode cX12_keep 45 = .ok (.getfield 38, 3) := by decide +kernel
theorem dX12_keep_48 : decode cX12_keep 48 = .ok (.iload_n 1, 1) := by decide +kernel
theorem dX12_keep_49 : decode cX12_keep 49 = .ok (.iload_n 2, 1) := by decide +kernel
theorem dX12_keep_50 : decode cX12_keep 50 = .ok (.iastore, 1) := by decide +kernel
theorem dX12_keep_51 : decode cX12_keep 51 = .ok (.aload_n 0, 1) := by decide +kernel
theorem dX12_keep_52 : decode cX12_keep 52 = .ok (.getfield 41, 3) := by decide +kernel
theorem dX12_keep_55 : decode cX12_keep 55 = .ok (.iload_n 1, 1) := by decide +kernel
theorem dX12_keep_56 : decode cX12_keep 56 = .ok (.iload_n 3, 1) := by decide +kernel
theorem dX12_keep_57 : decode cX12_keep 57 = .ok (.iastore, 1) := by decide +kernel
theorem dX12_keep_58 : decode cX12_keep 58 = .ok (.aload_n 0, 1) := by decide +kernel
theorem dX12_keep_59 : decode cX12_keep 59 = .ok (.getfield 44, 3) := by decide +kernel
theorem dX12_keep_62 : decode cX12_keep 62 = .ok (.iload_n 1, 1) := by decide +kernel
theorem dX12_keep_63 : decode cX12_keep 63 = .ok (.iload 4, 2) := by decide +kernel
theorem dX12_keep_65 : decode cX12_keep 65 = .ok (.iastore, 1) := by decide +kernel
theorem dX12_keep_66 : decode cX12_keep 66 = .ok (.iconst 0, 1) := by decide +kernel
theorem dX12_keep_67 : decode cX12_keep 67 = .ok (.ireturn, 1) := by decide +kernel
theorem dX12_row_0 : decode cX12_row 0 = .ok (.iload_n 1, 1) := by decide +kernel
theorem dX12_row_1 : decode cX12_row 1 = .ok (.invokestatic 256, 3) := by decide +kernel
theorem dX12_row_4 : decode cX12_row 4 = .ok (.ifCond .eq 18, 3) := by decide +kernel
theorem dX12_row_7 : decode cX12_row 7 = .ok (.iload_n 2, 1) := by decide +kernel
theorem dX12_row_8 : decode cX12_row 8 = .ok (.iconst 0, 1) := by decide +kernel
theorem dX12_row_9 : decode cX12_row 9 = .ok (.iconst 2, 1) := by decide +kernel
theorem dX12_row_10 : decode cX12_row 10 = .ok (.invokestatic 56, 3) := by decide +kernel
theorem dX12_row_13 : decode cX12_row 13 = .ok (.ifCond .eq 9, 3) := by decide +kernel
theorem dX12_row_16 : decode cX12_row 16 = .ok (.iload_n 3, 1) := by decide +kernel
theorem dX12_row_17 : decode cX12_row 17 = .ok (.bipush 100, 2) := by decide +kernel
theorem dX12_row_19 : decode cX12_row 19 = .ok (.if_icmp .le 5, 3) := by decide +kernel
theorem dX12_row_22 : decode cX12_row 22 = .ok (.iconst (-1), 1) := by decide +kernel
theorem dX12_row_23 : decode cX12_row 23 = .ok (.ireturn, 1) := by decide +kernel
theorem dX12_row_24 : decode cX12_row 24 = .ok (.iload_n 3, 1) := by decide +kernel
theorem dX12_row_25 : decode cX12_row 25 = .ok (.ifCond .ge 6, 3) := by decide +kernel
theorem dX12_row_28 : decode cX12_row 28 = .ok (.bipush (-14), 2) := by decide +kernel
theorem dX12_row_30 : decode cX12_row 30 = .ok (.ireturn, 1) := by decide +kernel
theorem dX12_row_31 : decode cX12_row 31 = .ok (.aload_n 0, 1) := by decide +kernel
theorem dX12_row_32 : decode cX12_row 32 = .ok (.getfield 38, 3) := by decide +kernel
theorem dX12_row_35 : decode cX12_row 35 = .ok (.iload_n 1, 1) := by decide +kernel
theorem dX12_row_36 : decode cX12_row 36 = .ok (.iconst 2, 1) := by decide +kernel
theorem dX12_row_37 : decode cX12_row 37 = .ok (.iastore, 1) := by decide +kernel
theorem dX12_row_38 : decode cX12_row 38 = .ok (.aload_n 0, 1) := by decide +kernel
theorem dX12_row_39 : decode cX12_row 39 = .ok (.getfield 47, 3) := by decide +kernel
theorem dX12_row_42 : decode cX12_row 42 = .ok (.iload_n 1, 1) := by decide +kernel
theorem dX12_row_43 : decode cX12_row 43 = .ok (.iload_n 2, 1) := by decide +kernel
theorem dX12_row_44 : decode cX12_row 44 = .ok (.iastore, 1) := by decide +kernel
theorem dX12_row_45 : decode cX12_row 45 = .ok (.aload_n 0, 1) := by decide +kernel
theorem dX12_row_46 : decode cX12_row 46 = .ok (.getfield 50, 3) := by decide +kernel
theorem dX12_row_49 : decode cX12_row 49 = .ok (.iload_n 1, 1) := by decide +kernel
theorem dX12_row_50 : decode cX12_row 50 = .ok (.iload_n 3, 1) := by decide +kernel
theorem dX12_row_51 : decode cX12_row 51 = .ok (.iastore, 1) := by decide +kernel
theorem dX12_row_52 : decode cX12_row 52 = .ok (.iconst 0, 1) := by decide +kernel
theorem dX12_row_53 : decode cX12_row 53 = .ok (.istore 4, 2) := by decide +kernel
theorem dX12_row_55 : decode cX12_row 55 = .ok (.iload 4, 2) := by decide +kernel
theorem dX12_row_57 : decode cX12_row 57 = .ok (.bipush 100, 2) := by decide +kernel
theorem dX12_row_59 : decode cX12_row 59 = .ok (.if_icmp .ge 22, 3) := by decide +kernel
theorem dX12_row_62 : decode cX12_row 62 = .ok (.aload_n 0, 1) := by decide +kernel
theorem dX12_row_63 : decode cX12_row 63 = .ok (.getfield 53, 3) := by decide +kernel
theorem dX12_row_66 : decode cX12_row 66 = .ok (.bipush 100, 2) := by decide +kernel
theorem dX12_row_68 : decode cX12_row 68 = .ok (.iload_n 1, 1) := by decide +kernel
theorem dX12_row_69 : decode cX12_row 69 = .ok (.imul, 1) := by decide +kernel
theorem dX12_row_70 : decode cX12_row 70 = .ok (.iload 4, 2) := by decide +kernel
theorem dX12_row_72 : decode cX12_row 72 = .ok (.iadd, 1) := by decide +kernel
theorem dX12_row_73 : decode cX12_row 73 = .ok (.iconst 0, 1) := by decide +kernel
theorem dX12_row_74 : decode cX12_row 74 = .ok (.iastore, 1) := by decide +kernel
theorem dX12_row_75 : decode cX12_row 75 = .ok (.iinc 4 1, 3) := by decide +kernel
theorem dX12_row_78 : decode cX12_row 78 = .ok (.goto (-23), 3) := by decide +kernel
theorem dX12_row_81 : decode cX12_row 81 = .ok (.iconst 0, 1) := by decide +kernel
theorem dX12_row_82 : decode cX12_row 82 = .ok (.ireturn, 1) := by decide +kernel
theorem dX12_put_0 : decode cX12_put 0 = .ok (.aload_n 0, 1) := by decide +kernel
theorem dX12_put_1 : decode cX12_put 1 = .ok (.iload_n 1, 1) := by decide +kernel
theorem dX12_put_2 : decode cX12_put 2 = .ok (.iconst (-1), 1) := by decide +kernel
theorem dX12_put_3 : decode cX12_put 3 = .ok (.invokevirtual 134, 3) := by decide +kernel
theorem dX12_put_6 : decode cX12_put 6 = .ok (.istore 4, 2) := by decide +kernel
theorem dX12_put_8 : decode cX12_put 8 = .ok (.iload 4, 2) := by decide +kernel
theorem dX12_put_10 : decode cX12_put 10 = .ok (.ifCond .eq 6, 3) := by decide +kernel
theorem dX12_put_13 : decode cX12_put 13 = .ok (.iload 4, 2) := by decide +kernel
theorem dX12_put_15 : decode cX12_put 15 = .ok (.ireturn, 1) := by decide +kernel
theorem dX12_put_16 : decode cX12_put 16 = .ok (.iload_n 2, 1) := by decide +kernel
theorem dX12_put_17 : decode cX12_put 17 = .ok (.iconst 0, 1) := by decide +kernel
theorem dX12_put_18 : decode cX12_put 18 = .ok (.aload_n 0, 1) := by decide +kernel
theorem dX12_put_19 : decode cX12_put 19 = .ok (.getfield 50, 3) := by decide +kernel
theorem dX12_put_22 : decode cX12_put 22 = .ok (.iload_n 1, 1) := by decide +kernel
theorem dX12_put_23 : decode cX12_put 23 = .ok (.iaload, 1) := by decide +kernel
theorem dX12_put_24 : decode cX12_put 24 = .ok (.iconst 1, 1) := by decide +kernel
theorem dX12_put_25 : decode cX12_put 25 = .ok (.isub, 1) := by decide +kernel
theorem dX12_put_26 : decode cX12_put 26 = .ok (.invokestatic 56, 3) := by decide +kernel
theorem dX12_put_29 : decode cX12_put 29 = .ok (.ifCond .ne 6, 3) := by decide +kernel
theorem dX12_put_32 : decode cX12_put 32 = .ok (.bipush (-13), 2) := by decide +kernel
theorem dX12_put_34 : decode cX12_put 34 = .ok (.ireturn, 1) := by decide +kernel
theorem dX12_put_35 : decode cX12_put 35 = .ok (.aload_n 0, 1) := by decide +kernel
theorem dX12_put_36 : decode cX12_put 36 = .ok (.getfield 53, 3) := by decide +kernel
theorem dX12_put_39 : decode cX12_put 39 = .ok (.bipush 100, 2) := by decide +kernel
theorem dX12_put_41 : decode cX12_put 41 = .ok (.iload_n 1, 1) := by decide +kernel
theorem dX12_put_42 : decode cX12_put 42 = .ok (.imul, 1) := by decide +kernel
theorem dX12_put_43 : decode cX12_put 43 = .ok (.iload_n 2, 1) := by decide +kernel
theorem dX12_put_44 : decode cX12_put 44 = .ok (.iadd, 1) := by decide +kernel
theorem dX12_put_45 : decode cX12_put 45 = .ok (.aload_n 0, 1) := by decide +kernel
theorem dX12_put_46 : decode cX12_put 46 = .ok (.getfield 47, 3) := by decide +kernel
theorem dX12_put_49 : decode cX12_put 49 = .ok (.iload_n 1, 1) := by decide +kernel
theorem dX12_put_50 : decode cX12_put 50 = .ok (.iaload, 1) := by decide +kernel
theorem dX12_put_51 : decode cX12_put 51 = .ok (.ifCond .ne 8, 3) := by decide +kernel
theorem dX12_put_54 : decode cX12_put 54 = .ok (.iload_n 3, 1) := by decide +kernel
theorem dX12_put_55 : decode cX12_put 55 = .ok (.i2b, 1) := by decide +kernel
theorem dX12_put_56 : decode cX12_put 56 = .ok (.goto 19, 3) := by decide +kernel
theorem dX12_put_59 : decode cX12_put 59 = .ok (.aload_n 0, 1) := by decide +kernel
theorem dX12_put_60 : decode cX12_put 60 = .ok (.getfield 47, 3) := by decide +kernel
theorem dX12_put_63 : decode cX12_put 63 = .ok (.iload_n 1, 1) := by decide +kernel
theorem dX12_put_64 : decode cX12_put 64 = .ok (.iaload, 1) := by decide +kernel
theorem dX12_put_65 : decode cX12_put 65 = .ok (.iconst 1, 1) := by decide +kernel
theorem dX12_put_66 : decode cX12_put 66 = .ok (.if_icmp .ne 8, 3) := by decide +kernel
theorem dX12_put_69 : decode cX12_put 69 = .ok (.iload_n 3, 1) := by decide +kernel
theorem dX12_put_70 : decode cX12_put 70 = .ok (.i2s, 1) := by decide +kernel
theorem dX12_put_71 : decode cX12_put 71 = .ok (.goto 4, 3) := by decide +kernel
theorem dX12_put_74 : decode cX12_put 74 = .ok (.iload_n 3, 1) := by decide +kernel
theorem dX12_put_75 : decode cX12_put 75 = .ok (.iastore, 1) := by decide +kernel
theorem dX12_put_76 : decode cX12_put 76 = .ok (.iconst 0, 1) := by decide +kernel
theorem dX12_put_77 : decode cX12_put 77 = .ok (.ireturn, 1) := by decide +kernel
theorem dX12_element_0 : decode cX12_element 0 = .ok (.aload_n 0, 1) := by decide +kernel
theorem dX12_element_1 : decode cX12_element 1 = .ok (.iload_n 1, 1) := by decide +kernel
theorem dX12_element_2 : decode cX12_element 2 = .ok (.invokestatic 256, 3) := by decide +kernel
theorem dX12_element_5 : decode cX12_element 5 = .ok (.ifCond .ne 7, 3) := by decide +kernel
theorem dX12_element_8 : decode cX12_element 8 = .ok (.iconst 1, 1) := by decide +kernel
theorem dX12_element_9 : decode cX12_element 9 = .ok (.goto 34, 3) := by decide +kernel
theorem dX12_element_12 : decode cX12_element 12 = .ok (.aload_n 0, 1) := by decide +kernel
theorem dX12_element_13 : decode cX12_element 13 = .ok (.getfield 38, 3) := by decide +kernel
theorem dX12_element_16 : decode cX12_element 16 = .ok (.iload_n 1, 1) := by decide +kernel
theorem dX12_element_17 : decode cX12_element 17 = .ok (.iaload, 1) := by decide +kernel
theorem dX12_element_18 : decode cX12_element 18 = .ok (.iconst 2, 1) := by decide +kernel
theorem dX12_element_19 : decode cX12_element 19 = .ok (.if_icmp .ne 19, 3) := by decide +kernel
theorem dX12_element_22 : decode cX12_element 22 = .ok (.iload_n 2, 1) := by decide +kernel
theorem dX12_element_23 : decode cX12_element 23 = .ok (.iconst 0, 1) := by decide +kernel
theorem dX12_element_24 : decode cX12_element 24 = .ok (.aload_n 0, 1) := by decide +kernel
theorem dX12_element_25 : decode cX12_element 25 = .ok (.getfield 50, 3) := by decide +kernel
theorem dX12_element_28 : decode cX12_element 28 = .ok (.iload_n 1, 1) := by decide +kernel
theorem dX12_element_29 : decode cX12_element 29 = .ok (.iaload, 1) := by decide +kernel
theorem dX12_element_30 : decode cX12_element 30 = .ok (.iconst 1, 1) := by decide +kernel
theorem dX12_element_31 : decode cX12_element 31 = .ok (.isub, 1) := by decide +kernel
theorem dX12_element_32 : decode cX12_element 32 = .ok (.invokestatic 56, 3) := by decide +kernel
theorem dX12_element_35 : decode cX12_element 35 = .ok (.ifCond .ne 7, 3) := by decide +kernel
theorem dX12_element_38 : decode cX12_element 38 = .ok (.iconst 2, 1) := by decide +kernel
theorem dX12_element_39 : decode cX12_element 39 = .ok (.goto 4, 3) := by decide +kernel
theorem dX12_element_42 : decode cX12_element 42 = .ok (.iconst 0, 1) := by decide +kernel
theorem dX12_element_43 : decode cX12_element 43 = .ok (.putfield 253, 3) := by decide +kernel
theorem dX12_element_46 : decode cX12_element 46 = .ok (.aload_n 0, 1) := by decide +kernel
theorem dX12_element_47 : decode cX12_element 47 = .ok (.getfield 253, 3) := by decide +kernel
theorem dX12_element_50 : decode cX12_element 50 = .ok (.ifCond .ne 18, 3) := by decide +kernel
theorem dX12_element_53 : decode cX12_element 53 = .ok (.aload_n 0, 1) := by decide +kernel
theorem dX12_element_54 : decode cX12_element 54 = .ok (.getfield 53, 3) := by decide +kernel
theorem dX12_element_57 : decode cX12_element 57 = .ok (.bipush 100, 2) := by decide +kernel
theorem dX12_element_59 : decode cX12_element 59 = .ok (.iload_n 1, 1) := by decide +kernel
theorem dX12_element_60 : decode cX12_element 60 = .ok (.imul, 1) := by decide +kernel
theorem dX12_element_61 : decode cX12_element 61 = .ok (.iload_n 2, 1) := by decide +kernel
theorem dX12_element_62 : decode cX12_element 62 = .ok (.iadd, 1) := by decide +kernel
theorem dX12_element_63 : decode cX12_element 63 = .ok (.iaload, 1) := by decide +kernel
theorem dX12_element_64 : decode cX12_element 64 = .ok (.i2l, 1) := by decide +kernel
theorem dX12_element_65 : decode cX12_element 65 = .ok (.goto 4, 3) := by decide +kernel
theorem dX12_element_68 : decode cX12_element 68 = .ok (.lconst 0, 1) := by decide +kernel
theorem dX12_element_69 : decode cX12_element 69 = .ok (.lreturn, 1) := by decide +kernel
theorem dX12_copy_0 : decode cX12_copy 0 = .ok (.iload_n 1, 1) := by decide +kernel
theorem dX12_copy_1 : decode cX12_copy 1 = .ok (.invokestatic 256, 3) := by decide +kernel
theorem dX12_copy_4 : decode cX12_copy 4 = .ok (.ifCond .eq 10, 3) := by decide +kernel
theorem dX12_copy_7 : decode cX12_copy 7 = .ok (.iload_n 3, 1) := by decide +kernel
theorem dX12_copy_8 : decode cX12_copy 8 = .ok (.invokestatic 256, 3) := by decide +kernel
theorem dX12_copy_11 : decode cX12_copy 11 = .ok (.ifCond .ne 5, 3) := by decide +kernel
theorem dX12_copy_14 : decode cX12_copy 14 = .ok (.iconst (-1), 1) := by decide +kernel
theorem dX12_copy_15 : decode cX12_copy 15 = .ok (.ireturn, 1) := by decide +kernel
theorem dX12_copy_16 : decode cX12_copy 16 = .ok (.aload_n 0, 1) := by decide +kernel
theorem dX12_copy_17 : decode cX12_copy 17 = .ok (.getfield 38, 3) := by decide +kernel
theorem dX12_copy_20 : decode cX12_copy 20 = .ok (.iload_n 1, 1) := by decide +kernel
theorem dX12_copy_21 : decode cX12_copy 21 = .ok (.iaload, 1) := by decide +kernel
theorem dX12_copy_22 : decode cX12_copy 22 = .ok (.ifCond .eq 12, 3) := by decide +kernel
theorem dX12_copy_25 : decode cX12_copy 25 = .ok (.aload_n 0, 1) := by decide +kernel
theorem dX12_copy_26 : decode cX12_copy 26 = .ok (.getfield 38, 3) := by decide +kernel
theorem dX12_copy_29 : decode cX12_copy 29 = .ok (.iload_n 3, 1) := by decide +kernel
theorem dX12_copy_30 : decode cX12_copy 30 = .ok (.iaload, 1) := by decide +kernel
theorem dX12_copy_31 : decode cX12_copy 31 = .ok (.ifCond .ne 6, 3) := by decide +kernel
theorem dX12_copy_34 : decode cX12_copy 34 = .ok (.bipush (-11), 2) := by decide +kernel
theorem dX12_copy_36 : decode cX12_copy 36 = .ok (.ireturn, 1) := by decide +kernel
theorem dX12_copy_37 : decode cX12_copy 37 = .ok (.aload_n 0, 1) := by decide +kernel
theorem dX12_copy_38 : decode cX12_copy 38 = .ok (.getfield 38, 3) := by decide +kernel
theorem dX12_copy_41 : decode cX12_copy 41 = .ok (.iload_n 1, 1) := by decide +kernel
theorem dX12_copy_42 : decode cX12_copy 42 = .ok (.iaload, 1) := by decide +kernel
theorem dX12_copy_43 : decode cX12_copy 43 = .ok (.iconst 2, 1) := by decide +kernel
theorem dX12_copy_44 : decode cX12_copy 44 = .ok (.if_icmp .ne 28, 3) := by decide +kernel
theorem dX12_copy_47 : decode cX12_copy 47 = .ok (.aload_n 0, 1) := by decide +kernel
theorem dX12_copy_48 : decode cX12_copy 48 = .ok (.getfield 38, 3) := by decide +kernel
theorem dX12_copy_51 : decode cX12_copy 51 = .ok (.iload_n 3, 1) := by decide +kernel
theorem dX12_copy_52 : decode cX12_copy 52 = .ok (.iaload, 1) := by decide +kernel
theorem dX12_copy_53 : decode cX12_copy 53 = .ok (.iconst 2, 1) := by decide +kernel
theorem dX12_copy_54 : decode cX12_copy 54 = .ok (.if_icmp .ne 18, 3) := by decide +kernel
theorem dX12_copy_57 : decode cX12_copy 57 = .ok (.aload_n 0, 1) := by decide +kernel
theorem dX12_copy_58 : decode cX12_copy 58 = .ok (.getfield 47, 3) := by decide +kernel
theorem dX12_copy_61 : decode cX12_copy 61 = .ok (.iload_n 1, 1) := by decide +kernel
theorem dX12_copy_62 : decode cX12_copy 62 = .ok (.iaload, 1) := by decide +kernel
theorem dX12_copy_63 : decode cX12_copy 63 = .ok (.aload_n 0, 1) := by decide +kernel
theorem dX12_copy_64 : decode cX12_copy 64 = .ok (.getfield 47, 3) := by decide +kernel
theorem dX12_copy_67 : decode cX12_copy 67 = .ok (.iload_n 3, 1) := by decide +kernel
theorem dX12_copy_68 : decode cX12_copy 68 = .ok (.iaload, 1) := by decide +kernel
theorem dX12_copy_69 : decode cX12_copy 69 = .ok (.if_icmp .eq 6, 3) := by decide +kernel
theorem dX12_copy_72 : decode cX12_copy 72 = .ok (.bipush (-12), 2) := by decide +kernel
theorem dX12_copy_74 : decode cX12_copy 74 = .ok (.ireturn, 1) := by decide +kernel
theorem dX12_copy_75 : decode cX12_copy 75 = .ok (.iload 5, 2) := by decide +kernel
theorem dX12_copy_77 : decode cX12_copy 77 = .ok (.ifCond .lt 39, 3) := by decide +kernel
theorem dX12_copy_80 : decode cX12_copy 80 = .ok (.iload_n 2, 1) := by decide +kernel
theorem dX12_copy_81 : decode cX12_copy 81 = .ok (.ifCond .lt 35, 3) := by decide +kernel
theorem dX12_copy_84 : decode cX12_copy 84 = .ok (.iload 4, 2) := by decide +kernel
theorem dX12_copy_86 : decode cX12_copy 86 = .ok (.ifCond .lt 30, 3) := by decide +kernel
theorem dX12_copy_89 : decode cX12_copy 89 = .ok (.iload 5, 2) := by decide +kernel
theorem dX12_copy_91 : decode cX12_copy 91 = .ok (.aload_n 0, 1) := by decide +kernel
theorem dX12_copy_92 : decode cX12_copy 92 = .ok (.getfield 50, 3) := by decide +kernel
theorem dX12_copy_95 : decode cX12_copy 95 = .ok (.iload_n 1, 1) := by decide +kernel
theorem dX12_copy_96 : decode cX12_copy 96 = .ok (.iaload, 1) := by decide +kernel
theorem dX12_copy_97 : decode cX12_copy 97 = .ok (.iload_n 2, 1) := by decide +kernel
theorem dX12_copy_98 : decode cX12_copy 98 = .ok (.isub, 1) := by decide +kernel
theorem dX12_copy_99 : decode cX12_copy 99 = .ok (.if_icmp .gt 17, 3) := by decide +kernel
theorem dX12_copy_102 : decode cX12_copy 102 = .ok (.iload 5, 2) := by decide +kernel
theorem dX12_copy_104 : decode cX12_copy 104 = .ok (.aload_n 0, 1) := by decide +kernel
theorem dX12_copy_105 : decode cX12_copy 105 = .ok (.getfield 50, 3) := by decide +kernel
theorem dX12_copy_108 : decode cX12_copy 108 = .ok (.iload_n 3, 1) := by decide +kernel
theorem dX12_copy_109 : decode cX12_copy 109 = .ok (.iaload, 1) := by decide +kernel
theorem dX12_copy_110 : decode cX12_copy 110 = .ok (.iload 4, 2) := by decide +kernel
theorem dX12_copy_112 : decode cX12_copy 112 = .ok (.isub, 1) := by decide +kernel
theorem dX12_copy_113 : decode cX12_copy 113 = .ok (.if_icmp .le 6, 3) := by decide +kernel
theorem dX12_copy_116 : decode cX12_copy 116 = .ok (.bipush (-13), 2) := by decide +kernel
theorem dX12_copy_118 : decode cX12_copy 118 = .ok (.ireturn, 1) := by decide +kernel
theorem dX12_copy_119 : decode cX12_copy 119 = .ok (.iconst 0, 1) := by decide +kernel
theorem dX12_copy_120 : decode cX12_copy 120 = .ok (.istore 6, 2) := by decide +kernel
theorem dX12_copy_122 : decode cX12_copy 122 = .ok (.iload 6, 2) := by decide +kernel
theorem dX12_copy_124 : decode cX12_copy 124 = .ok (.iload 5, 2) := by decide +kernel
theorem dX12_copy_126 : decode cX12_copy 126 = .ok (.if_icmp .ge 58, 3) := by decide +kernel
theorem dX12_copy_129 : decode cX12_copy 129 = .ok (.iload_n 2, 1) := by decide +kernel
theorem dX12_copy_130 : decode cX12_copy 130 = .ok (.iload 4, 2) := by decide +kernel
theorem dX12_copy_132 : decode cX12_copy 132 = .ok (.if_icmp .le 8, 3) := by decide +kernel
theorem dX12_copy_135 : decode cX12_copy 135 = .ok (.iload 6, 2) := by decide +kernel
theorem dX12_copy_137 : decode cX12_copy 137 = .ok (.goto 10, 3) := by decide +kernel
theorem dX12_copy_140 : decode cX12_copy 140 = .ok (.iload 5, 2) := by decide +kernel
theorem dX12_copy_142 : decode cX12_copy 142 = .ok (.iconst 1, 1) := by decide +kernel
theorem dX12_copy_143 : decode cX12_copy 143 = .ok (.isub, 1) := by decide +kernel
theorem dX12_copy_144 : decode cX12_copy 144 = .ok (.iload 6, 2) := by decide +kernel
theorem dX12_copy_146 : decode cX12_copy 146 = .ok (.isub, 1) := by decide +kernel
theorem dX12_copy_147 : decode cX12_copy 147 = .ok (.istore 7, 2) := by decide +kernel
theorem dX12_copy_149 : decode cX12_copy 149 = .ok (.aload_n 0, 1) := by decide +kernel
theorem dX12_copy_150 : decode cX12_copy 150 = .ok (.getfield 53, 3) := by decide +kernel
theorem dX12_copy_153 : decode cX12_copy 153 = .ok (.bipush 100, 2) := by decide +kernel
theorem dX12_copy_155 : decode cX12_copy 155 = .ok (.iload_n 3, 1) := by decide +kernel
theorem dX12_copy_156 : decode cX12_copy 156 = .ok (.imul, 1) := by decide +kernel
theorem dX12_copy_157 : decode cX12_copy 157 = .ok (.iload 4, 2) := by decide +kernel
theorem dX12_copy_159 : decode cX12_copy 159 = .ok (.iadd, 1) := by decide +kernel
theorem dX12_copy_160 : decode cX12_copy 160 = .ok (.iload 7, 2) := by decide +kernel
theorem dX12_copy_162 : decode cX12_copy 162 = .ok (.iadd, 1) := by decide +kernel
theorem dX12_copy_163 : decode cX12_copy 163 = .ok (.aload_n 0, 1) := by decide +kernel
theorem dX12_copy_164 : decode cX12_copy 164 = .ok (.getfield 53, 3) := by decide +kernel
theorem dX12_copy_167 : decode cX12_copy 167 = .ok (.bipush 100, 2) := by decide +kernel
theorem dX12_copy_169 : decode cX12_copy 169 = .ok (.iload_n 1, 1) := by decide +kernel
theorem dX12_copy_170 : decode cX12_copy 170 = .ok (.imul, 1) := by decide +kernel
theorem dX12_copy_171 : decode cX12_copy 171 = .ok (.iload_n 2, 1) := by decide +kernel
theorem dX12_copy_172 : decode cX12_copy 172 = .ok (.iadd, 1) := by decide +kernel
theorem dX12_copy_173 : decode cX12_copy 173 = .ok (.iload 7, 2) := by decide +kernel
theorem dX12_copy_175 : decode cX12_copy 175 = .ok (.iadd, 1) := by decide +kernel
theorem dX12_copy_176 : decode cX12_copy 176 = .ok (.iaload, 1) := by decide +kernel
theorem dX12_copy_177 : decode cX12_copy 177 = .ok (.iastore, 1) := by decide +kernel
theorem dX12_copy_178 : decode cX12_copy 178 = .ok (.iinc 6 1, 3) := by decide +kernel
theorem dX12_copy_181 : decode cX12_copy 181 = .ok (.goto (-59), 3) := by decide +kernel
theorem dX12_copy_184 : decode cX12_copy 184 = .ok (.iload 5, 2) := by decide +kernel
theorem dX12_copy_186 : decode cX12_copy 186 = .ok (.ireturn, 1) := by decide +kernel
theorem dX12_costBy_0 : decode cX12_costBy 0 = .ok (.iload_n 0, 1) := by decide +kernel
theorem dX12_costBy_1 : decode cX12_costBy 1 = .ok (.tableswitch 60 1 7 #[43, 45, 49, 51, 60, 57, 49], 43) := by decide +kernel
theorem dX12_costBy_44 : decode cX12_costBy 44 = .ok (.iconst 2, 1) := by decide +kernel
theorem dX12_costBy_45 : decode cX12_costBy 45 = .ok (.ireturn, 1) := by decide +kernel
theorem dX12_costBy_46 : decode cX12_costBy 46 = .ok (.iconst 1, 1) := by decide +kernel
theorem dX12_costBy_47 : decode cX12_costBy 47 = .ok (.iload_n 1, 1) := by decide +kernel
theorem dX12_costBy_48 : decode cX12_costBy 48 = .ok (.iadd, 1) := by decide +kernel
theorem dX12_costBy_49 : decode cX12_costBy 49 = .ok (.ireturn, 1) := by decide +kernel
theorem dX12_costBy_50 : decode cX12_costBy 50 = .ok (.iconst 5, 1) := by decide +kernel
theorem dX12_costBy_51 : decode cX12_costBy 51 = .ok (.ireturn, 1) := by decide +kernel
theorem dX12_costBy_52 : decode cX12_costBy 52 = .ok (.iconst 2, 1) := by decide +kernel
theorem dX12_costBy_53 : decode cX12_costBy 53 = .ok (.iconst 1, 1) := by decide +kernel
theorem dX12_costBy_54 : decode cX12_costBy 54 = .ok (.iload_n 1, 1) := by decide +kernel
theorem dX12_costBy_55 : decode cX12_costBy 55 = .ok (.iadd, 1) := by decide +kernel
theorem dX12_costBy_56 : decode cX12_costBy 56 = .ok (.imul, 1) := by decide +kernel
theorem dX12_costBy_57 : decode cX12_costBy 57 = .ok (.ireturn, 1) := by decide +kernel
theorem dX12_costBy_58 : decode cX12_costBy 58 = .ok (.bipush 11, 2) := by decide +kernel
theorem dX12_costBy_60 : decode cX12_costBy 60 = .ok (.ireturn, 1) := by decide +kernel
theorem dX12_costBy_61 : decode cX12_costBy 61 = .ok (.iconst 1, 1) := by decide +kernel
theorem dX12_costBy_62 : decode cX12_costBy 62 = .ok (.ireturn, 1) := by decide +kernel
theorem dX12_cost_0 : decode cX12_cost 0 = .ok (.aload_n 0, 1) := by decide +kernel
theorem dX12_cost_1 : decode cX12_cost 1 = .ok (.iload_n 1, 1) := by decide +kernel
theorem dX12_cost_2 : decode cX12_cost 2 = .ok (.invokevirtual 154, 3) := by decide +kernel
theorem dX12_cost_5 : decode cX12_cost 5 = .ok (.istore_n 2, 1) := by decide +kernel
theorem dX12_cost_6 : decode cX12_cost 6 = .ok (.iload_n 2, 1) := by decide +kernel
theorem dX12_cost_7 : decode cX12_cost 7 = .ok (.ifCond .eq 7, 3) := by decide +kernel
theorem dX12_cost_10 : decode cX12_cost 10 = .ok (.iload_n 2, 1) := by decide +kernel
theorem dX12_cost_11 : decode cX12_cost 11 = .ok (.goto 18, 3) := by decide +kernel
theorem dX12_cost_14 : decode cX12_cost 14 = .ok (.aload_n 0, 1) := by decide +kernel
theorem dX12_cost_15 : decode cX12_cost 15 = .ok (.getfield 41, 3) := by decide +kernel
theorem dX12_cost_18 : decode cX12_cost 18 = .ok (.iload_n 1, 1) := by decide +kernel
theorem dX12_cost_19 : decode cX12_cost 19 = .ok (.iaload, 1) := by decide +kernel
theorem dX12_cost_20 : decode cX12_cost 20 = .ok (.aload_n 0, 1) := by decide +kernel
theorem dX12_cost_21 : decode cX12_cost 21 = .ok (.getfield 44, 3) := by decide +kernel
theorem dX12_cost_24 : decode cX12_cost 24 = .ok (.iload_n 1, 1) := by decide +kernel
theorem dX12_cost_25 : decode cX12_cost 25 = .ok (.iaload, 1) := by decide +kernel
theorem dX12_cost_26 : decode cX12_cost 26 = .ok (.invokestatic 259, 3) := by decide +kernel
theorem dX12_cost_29 : decode cX12_cost 29 = .ok (.ireturn, 1) := by decide +kernel
theorem dX12_toss_0 : decode cX12_toss 0 = .ok (.aload_n 0, 1) := by decide +kernel
theorem dX12_toss_1 : decode cX12_toss 1 = .ok (.iload_n 1, 1) := by decide +kernel
theorem dX12_toss_2 : decode cX12_toss 2 = .ok (.invokevirtual 154, 3) := by decide +kernel
theorem dX12_toss_5 : decode cX12_toss 5 = .ok (.istore_n 2, 1) := by decide +kernel
theorem dX12_toss_6 : decode cX12_toss 6 = .ok (.iload_n 2, 1) := by decide +kernel
theorem dX12_toss_7 : decode cX12_toss 7 = .ok (.ifCond .eq 5, 3) := by decide +kernel
theorem dX12_toss_10 : decode cX12_toss 10 = .ok (.iload_n 2, 1) := by decide +kernel
theorem dX12_toss_11 : decode cX12_toss 11 = .ok (.ireturn, 1) := by decide +kernel
theorem dX12_toss_12 : decode cX12_toss 12 = .ok (.aload_n 0, 1) := by decide +kernel
theorem dX12_toss_13 : decode cX12_toss 13 = .ok (.getfield 41, 3) := by decide +kernel
theorem dX12_toss_16 : decode cX12_toss 16 = .ok (.iload_n 1, 1) := by decide +kernel
theorem dX12_toss_17 : decode cX12_toss 17 = .ok (.iaload, 1) := by decide +kernel
theorem dX12_toss_18 : decode cX12_toss 18 = .ok (.istore_n 3, 1) := by decide +kernel
theorem dX12_toss_19 : decode cX12_toss 19 = .ok (.aload_n 0, 1) := by decide +kernel
theorem dX12_toss_20 : decode cX12_toss 20 = .ok (.getfield 44, 3) := by decide +kernel
theorem dX12_toss_23 : decode cX12_toss 23 = .ok (.iload_n 1, 1) := by decide +kernel
theorem dX12_toss_24 : decode cX12_toss 24 = .ok (.iaload, 1) := by decide +kernel
theorem dX12_toss_25 : decode cX12_toss 25 = .ok (.istore 4, 2) := by decide +kernel
theorem dX12_toss_27 : decode cX12_toss 27 = .ok (.iload_n 3, 1) := by decide +kernel
theorem dX12_toss_28 : decode cX12_toss 28 = .ok (.iconst 1, 1) := by decide +kernel
theorem dX12_toss_29 : decode cX12_toss 29 = .ok (.if_icmp .eq 24, 3) := by decide +kernel
theorem dX12_toss_32 : decode cX12_toss 32 = .ok (.iload_n 3, 1) := by decide +kernel
theorem dX12_toss_33 : decode cX12_toss 33 = .ok (.iconst 3, 1) := by decide +kernel
theorem dX12_toss_34 : decode cX12_toss 34 = .ok (.if_icmp .eq 19, 3) := by decide +kernel
theorem dX12_toss_37 : decode cX12_toss 37 = .ok (.iload_n 3, 1) := by decide +kernel
theorem dX12_toss_38 : decode cX12_toss 38 = .ok (.iconst 5, 1) := by decide +kernel
theorem dX12_toss_39 : decode cX12_toss 39 = .ok (.if_icmp .eq 14, 3) := by decide +kernel
theorem dX12_toss_42 : decode cX12_toss 42 = .ok (.iload_n 3, 1) := by decide +kernel
theorem dX12_toss_43 : decode cX12_toss 43 = .ok (.bipush 7, 2) := by decide +kernel
theorem dX12_toss_45 : decode cX12_toss 45 = .ok (.if_icmp .eq 8, 3) := by decide +kernel
theorem dX12_toss_48 : decode cX12_toss 48 = .ok (.iload 4, 2) := by decide +kernel
theorem dX12_toss_50 : decode cX12_toss 50 = .ok (.ifCond .ne 6, 3) := by decide +kernel
theorem dX12_toss_53 : decode cX12_toss 53 = .ok (.bipush (-15), 2) := by decide +kernel
theorem dX12_toss_55 : decode cX12_toss 55 = .ok (.ireturn, 1) := by decide +kernel
theorem dX12_toss_56 : decode cX12_toss 56 = .ok (.iload_n 3, 1) := by decide +kernel
theorem dX12_toss_57 : decode cX12_toss 57 = .ok (.bipush 6, 2) := by decide +kernel
theorem dX12_toss_59 : decode cX12_toss 59 = .ok (.if_icmp .ne 16, 3) := by decide +kernel
theorem dX12_toss_62 : decode cX12_toss 62 = .ok (.sipush 200, 3) := by decide +kernel
theorem dX12_toss_65 : decode cX12_toss 65 = .ok (.iload_n 3, 1) := by decide +kernel
theorem dX12_toss_66 : decode cX12_toss 66 = .ok (.iload 4, 2) := by decide +kernel
theorem dX12_toss_68 : decode cX12_toss 68 = .ok (.invokestatic 259, 3) := by decide +kernel
theorem dX12_toss_71 : decode cX12_toss 71 = .ok (.iadd, 1) := by decide +kernel
theorem dX12_toss_72 : decode cX12_toss 72 = .ok (.goto 23, 3) := by decide +kernel
theorem dX12_toss_75 : decode cX12_toss 75 = .ok (.iload_n 3, 1) := by decide +kernel
theorem dX12_toss_76 : decode cX12_toss 76 = .ok (.iconst 2, 1) := by decide +kernel
theorem dX12_toss_77 : decode cX12_toss 77 = .ok (.if_icmp .eq 8, 3) := by decide +kernel
theorem dX12_toss_80 : decode cX12_toss 80 = .ok (.iload_n 3, 1) := by decide +kernel
theorem dX12_toss_81 : decode cX12_toss 81 = .ok (.iconst 4, 1) := by decide +kernel
theorem dX12_toss_82 : decode cX12_toss 82 = .ok (.if_icmp .ne 11, 3) := by decide +kernel
theorem dX12_toss_85 : decode cX12_toss 85 = .ok (.bipush 100, 2) := by decide +kernel
theorem dX12_toss_87 : decode cX12_toss 87 = .ok (.iload 4, 2) := by decide +kernel
theorem dX12_toss_89 : decode cX12_toss 89 = .ok (.iadd, 1) := by decide +kernel
theorem dX12_toss_90 : decode cX12_toss 90 = .ok (.goto 5, 3) := by decide +kernel
theorem dX12_toss_93 : decode cX12_toss 93 = .ok (.iload 4, 2) := by decide +kernel
theorem dX12_toss_95 : decode cX12_toss 95 = .ok (.ireturn, 1) := by decide +kernel
