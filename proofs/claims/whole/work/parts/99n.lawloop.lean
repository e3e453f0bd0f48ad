def R_law : String := "MoreThanSheHasLaw"
def lw_P (b : Addr) (xs : List Int32) (args : Array Value) (s : State) : Prop := args = #[.ref b] ∧ s.IntsAt b xs ∧ xs.length ≤ 3072 ∧ (Jvm.Cond.and given_1 narrow_1).before args s = true
def lw_Q (_ : Array Value) (s : State) (o : Outcome) (t : State) : Prop := o = .returned (some (.int 1)) ∧ Framed s o t [] 601024 7293034
def lw_Z (below : List Frame) (a : Array Value) (s : State) : State → Prop := fun t => ∃ o, t.status = .running ∧ Ended t below o ∧ lw_Q a s o t
/-- the law's own end, with 1 on the stack, nothing written that was there before, its room as the claim has it -/
theorem lw_ret {p : Program} {l : Launch} {e : Env} {s : State} {m : MethodId} {below : List Frame} {meth : Method} {c : Code} {b : Nat} (hx : p.tables.exec = Jvm.exec) (hb : c.code = code) (hr : meth.sig.returnType = ret) (hlocks : meth.locks = false) {pc : Nat} {H : Heap} {ls : Array Slot} (hdg : decode code pc = .ok (.ireturn, 1)) : W p l e room_1 s m #[Value.ref b] below meth c H [] 601024 7293034 (lw_Z below #[Value.ref b] s) (F0 m pc ls [.int 1]) := by
  intro T hT X
  obtain ⟨fs, hret, hrun, hended, hW, hframe⟩ := X.leave (v := some (.int 1)) (hlocks := hlocks) (fun h => by rw [hr] at h; cases h)
  have hmeth' : T.vm.method? m = some meth := X.method'
  refine ⟨T.setFrames fs, ?_, .returned (some (.int 1)), hrun, hended, rfl, ⟨_, rfl⟩, hW, hframe⟩
  jvm_step X.here [X.here.top, hx, hb, hdg, hmeth', hr, ret, narrow_b1]
  (try refine ⟨rfl, ?_⟩); (try refine ⟨rfl, ?_⟩)
  first | (intro acts; rw [hret _ acts rfl rfl rfl]) | rw [hret _ _ rfl rfl rfl]
  exact Steps.refl _
/-- what holds at the law's entry: the machine, the code, the tables' words (any of lw_tbl by 'hts w (by decide +kernel)'), the script of L ints xs at the cell b, what the Statement gives of the start (any of its parts by flat_of_before) -/
def lw_At (p : Program) (s : State) (m : MethodId) (meth : Method) (c : Code) (b L : Nat) (xs : Nat → Int32) : Prop :=
  p.tables.exec = Jvm.exec ∧ c.code = code ∧ meth.sig.returnType = ret ∧ c.maxLocals = 8 ∧ s.vm.findClass R_law = some m.cls ∧ (∀ w ∈ lw_tbl, w.before #[Value.ref b] s = true) ∧ va_X b L xs s s.heap ∧ b < s.heap.size ∧ meth.locks = false ∧ (Jvm.Cond.and given_1 narrow_1).before #[Value.ref b] s = true
theorem head_lt {i L : Nat} (hL : L ≤ 3072) (hi : i < 2147483648) (hn : ¬ (nI L - 6 < nI i)) : i + 6 ≤ L := by
  by_cases c : 6 ≤ L
  · rw [show (6 : Int32) = nI 6 from rfl, pk_sub c, i_lt (by omega) hi] at hn
    omega
  · refine absurd (neg_lt ?_ hi) hn
    rcases (show L = 0 ∨ L = 1 ∨ L = 2 ∨ L = 3 ∨ L = 4 ∨ L = 5 by omega) with rfl | rfl | rfl | rfl | rfl | rfl <;> decide
theorem and_63 (x : Int32) : ∃ j, j < 64 ∧ x &&& 63 = nI j := by
  refine ⟨(x &&& 63).toBitVec.toNat, ?_, ?_⟩
  · show (x.toBitVec &&& 63#32).toNat < 64
    rw [BitVec.toNat_and]
    exact Nat.lt_of_le_of_lt Nat.and_le_right (by decide)
  · apply Int32.toBitVec_inj.mp
    show _ = BitVec.ofNat 32 _
    rw [BitVec.ofNat_toNat]
    simp
set_option maxHeartbeats 4000000 in
set_option maxRecDepth 100000 in
theorem law_head {l : Launch} {p : Program} {e : Env} {s : State} {m : MethodId} {below : List Frame} {meth : Method} {c : Code} {b L i cells slots : Nat} {xs : Nat → Int32} {D : va_G} {a : Nat → Nat} {C : Nat → ClassId} {Q : State → Prop} {H : Heap} {locs : List Loc} {ls : Array Slot} (CC : lwC l p s m c b L xs D a C) (hL : L ≤ 3072) (hi : i ≤ L + 6) (hS : va_S (lwA s) s.heap H locs) (hl : lv_has ls 8 [(0, .ref b), (1, .ref (a 0)), (2, .ref (a 66)), (3, .ref (a 82)), (4, .int (nI i))]) (k1 : W p l e room_1 s m #[Value.ref b] below meth c H locs cells slots Q (F0 m 1506 ls [])) (k2 : i + 6 ≤ L → W p l e room_1 s m #[Value.ref b] below meth c H locs cells slots Q (F0 m 33 ls [])) : W p l e room_1 s m #[Value.ref b] below meth c H locs cells slots Q (F0 m 23 ls []) := by
  obtain ⟨hx, hb, hml, hown, hts, hX, hbl, hK, hN, hT, hZ, ha, hA, hlT⟩ := CC
  have hbA : ¬ lwA s b := Nat.not_le.mpr hbl
  refine lv_iload hx hb dL_law_23 (lv_at hl 4 rfl) ?_
  refine lv_aload_n hx hb dL_law_25 rfl (lv_at hl 0 rfl) ?_
  refine va_slen hx hb hX hbl hbA hS dL_law_26 ?_
  refine lv_bipush (v := 6) hx hb dL_law_27 (by decide) ?_
  refine lv_isub hx hb dL_law_29 ?_
  exact lv_icmp_gt (tgt := 1506) hx hb dL_law_30 (by decide) (fun _ => k1) (fun c => k2 (head_lt hL (by omega) c))
theorem law_exit {l : Launch} {p : Program} {e : Env} {s : State} {m : MethodId} {below : List Frame} {meth : Method} {c : Code} {b L cells slots : Nat} {xs : Nat → Int32} {D : va_G} {a : Nat → Nat} {C : Nat → ClassId} {H : Heap} {locs : List Loc} {ls : Array Slot} (CC : lwC l p s m c b L xs D a C) (hr : meth.sig.returnType = ret) (hlocks : meth.locks = false) (hS : va_S (lwA s) s.heap H locs) (hc : cells ≤ 601024) (hs : slots ≤ 7293034) : W p l e room_1 s m #[Value.ref b] below meth c H locs cells slots (lw_Z below #[Value.ref b] s) (F0 m 1506 ls []) := by
  obtain ⟨hx, hb, -⟩ := CC
  refine lv_iconst (v := 1) hx hb dL_law_1506 (by decide) ?_
  refine va_forget (fun q hq => hS.2.2 q hq) ?_
  refine W.widen (k := 601024) (n := 7293034) hc hs ?_
  exact lw_ret hx hb hr hlocks dL_law_1507
set_option maxHeartbeats 4000000 in
set_option maxRecDepth 100000 in
theorem law_switch {l : Launch} {p : Program} {e : Env} {s : State} {m : MethodId} {below : List Frame} {meth : Method} {c : Code} {b L i cells slots : Nat} {xs : Nat → Int32} {D : va_G} {a : Nat → Nat} {C : Nat → ClassId} {h : HS} {Q : State → Prop} (CC : lwC l p s m c b L xs D a C) (I : Inv h) (hi : i + 6 ≤ L) (hL : L ≤ 3072) (hcs : cells + 1 ≤ 601024 ∧ slots + 6 ≤ 7293034) (kk : ∀ h2, Inv h2 → lwK p l e s m below meth c b i D a C (cells + 1) (slots + 6) Q 1500 h2) : lwK p l e s m below meth c b i D a C cells slots Q 33 h := by
  obtain ⟨hx, hb, hml, hown, hts, hX, hbl, hK, hN, hT, hZ, ha, hA, hlT⟩ := id CC
  intro H locs ls hP hS hl
  have hbA : ¬ lwA s b := Nat.not_le.mpr hbl
  refine lv_aload_n hx hb dL_law_33 rfl (lv_at hl 0 rfl) ?_
  refine lv_iload hx hb dL_law_34 (lv_at hl 4 rfl) ?_
  refine va_sld hx hb hX hbl hbA hS (vp_in_nI (by omega) (by omega)) dL_law_36 ?_
  refine lv_bipush (v := 63) hx hb dL_law_37 (by decide) ?_
  refine lv_iand hx hb dL_law_39 ?_
  obtain ⟨j, hj, e9⟩ := and_63 (xs (nI i).toNatClampNeg)
  rw [e9]
  match j, hj with
  | 0, _ => exact lv_tableIn (off := 164) (tgt := 204) hx hb dL_law_40 (by decide) (by decide) rfl (by decide) (lc_0 CC I hi hL hcs kk H locs ls hP hS hl)
  | 1, _ => exact lv_tableIn (off := 189) (tgt := 229) hx hb dL_law_40 (by decide) (by decide) rfl (by decide) (lc_1 CC I hi hL hcs kk H locs ls hP hS hl)
  | 2, _ => exact lv_tableIn (off := 226) (tgt := 266) hx hb dL_law_40 (by decide) (by decide) rfl (by decide) (lc_2 CC I hi hL hcs kk H locs ls hP hS hl)
  | 3, _ => exact lv_tableIn (off := 251) (tgt := 291) hx hb dL_law_40 (by decide) (by decide) rfl (by decide) (lc_3 CC I hi hL hcs kk H locs ls hP hS hl)
  | 4, _ => exact lv_tableIn (off := 288) (tgt := 328) hx hb dL_law_40 (by decide) (by decide) rfl (by decide) (lc_4 CC I hi hL hcs kk H locs ls hP hS hl)
  | 5, _ => exact lv_tableIn (off := 313) (tgt := 353) hx hb dL_law_40 (by decide) (by decide) rfl (by decide) (lc_5 CC I hi hL hcs kk H locs ls hP hS hl)
  | 6, _ => exact lv_tableIn (off := 338) (tgt := 378) hx hb dL_law_40 (by decide) (by decide) rfl (by decide) (lc_6 CC I hi hL hcs kk H locs ls hP hS hl)
  | 7, _ => exact lv_tableIn (off := 364) (tgt := 404) hx hb dL_law_40 (by decide) (by decide) rfl (by decide) (lc_7 CC I hi hL hcs kk H locs ls hP hS hl)
  | 8, _ => exact lv_tableIn (off := 402) (tgt := 442) hx hb dL_law_40 (by decide) (by decide) rfl (by decide) (lc_8 CC I hi hL hcs kk H locs ls hP hS hl)
  | 9, _ => exact lv_tableIn (off := 415) (tgt := 455) hx hb dL_law_40 (by decide) (by decide) rfl (by decide) (lc_9 CC I hi hL hcs kk H locs ls hP hS hl)
  | 10, _ => exact lv_tableIn (off := 440) (tgt := 480) hx hb dL_law_40 (by decide) (by decide) rfl (by decide) (lc_10 CC I hi hL hcs kk H locs ls hP hS hl)
  | 11, _ => exact lv_tableIn (off := 477) (tgt := 517) hx hb dL_law_40 (by decide) (by decide) rfl (by decide) (lc_11 CC I hi hL hcs kk H locs ls hP hS hl)
  | 12, _ => exact lv_tableIn (off := 502) (tgt := 542) hx hb dL_law_40 (by decide) (by decide) rfl (by decide) (lc_12 CC I hi hL hcs kk H locs ls hP hS hl)
  | 13, _ => exact lv_tableIn (off := 551) (tgt := 591) hx hb dL_law_40 (by decide) (by decide) rfl (by decide) (lc_13 CC I hi hL hcs kk H locs ls hP hS hl)
  | 14, _ => exact lv_tableIn (off := 576) (tgt := 616) hx hb dL_law_40 (by decide) (by decide) rfl (by decide) (lc_14 CC I hi hL hcs kk H locs ls hP hS hl)
  | 15, _ => exact lv_tableIn (off := 601) (tgt := 641) hx hb dL_law_40 (by decide) (by decide) rfl (by decide) (lc_15 CC I hi hL hcs kk H locs ls hP hS hl)
  | 16, _ => exact lv_tableIn (off := 663) (tgt := 703) hx hb dL_law_40 (by decide) (by decide) rfl (by decide) (lc_16 CC I hi hL hcs kk H locs ls hP hS hl)
  | 17, _ => exact lv_tableIn (off := 701) (tgt := 741) hx hb dL_law_40 (by decide) (by decide) rfl (by decide) (lc_17 CC I hi hL hcs kk H locs ls hP hS hl)
  | 18, _ => exact lv_tableIn (off := 726) (tgt := 766) hx hb dL_law_40 (by decide) (by decide) rfl (by decide) (lc_18 CC I hi hL hcs kk H locs ls hP hS hl)
  | 19, _ => exact lv_tableIn (off := 751) (tgt := 791) hx hb dL_law_40 (by decide) (by decide) rfl (by decide) (lc_19 CC I hi hL hcs kk H locs ls hP hS hl)
  | 20, _ => exact lv_tableIn (off := 776) (tgt := 816) hx hb dL_law_40 (by decide) (by decide) rfl (by decide) (lc_20 CC I hi hL hcs kk H locs ls hP hS hl)
  | 21, _ => exact lv_tableIn (off := 825) (tgt := 865) hx hb dL_law_40 (by decide) (by decide) rfl (by decide) (lc_21 CC I hi hL hcs kk H locs ls hP hS hl)
  | 22, _ => exact lv_tableIn (off := 850) (tgt := 890) hx hb dL_law_40 (by decide) (by decide) rfl (by decide) (lc_22 CC I hi hL hcs kk H locs ls hP hS hl)
  | 23, _ => exact lv_tableIn (off := 899) (tgt := 939) hx hb dL_law_40 (by decide) (by decide) rfl (by decide) (lc_23 CC I hi hL hcs kk H locs ls hP hS hl)
  | 24, _ => exact lv_tableIn (off := 961) (tgt := 1001) hx hb dL_law_40 (by decide) (by decide) rfl (by decide) (lc_24 CC I hi hL hcs kk H locs ls hP hS hl)
  | 25, _ => exact lv_tableIn (off := 986) (tgt := 1026) hx hb dL_law_40 (by decide) (by decide) rfl (by decide) (lc_25 CC I hi hL hcs kk H locs ls hP hS hl)
  | 26, _ => exact lv_tableIn (off := 1011) (tgt := 1051) hx hb dL_law_40 (by decide) (by decide) rfl (by decide) (lc_26 CC I hi hL hcs kk H locs ls hP hS hl)
  | 27, _ => exact lv_tableIn (off := 1060) (tgt := 1100) hx hb dL_law_40 (by decide) (by decide) rfl (by decide) (lc_27 CC I hi hL hcs kk H locs ls hP hS hl)
  | 28, _ => exact lv_tableIn (off := 1073) (tgt := 1113) hx hb dL_law_40 (by decide) (by decide) rfl (by decide) (lc_28 CC I hi hL hcs kk H locs ls hP hS hl)
  | 29, _ => exact lv_tableIn (off := 1086) (tgt := 1126) hx hb dL_law_40 (by decide) (by decide) rfl (by decide) (lc_29 CC I hi hL hcs kk H locs ls hP hS hl)
  | 30, _ => exact lv_tableIn (off := 1111) (tgt := 1151) hx hb dL_law_40 (by decide) (by decide) rfl (by decide) (lc_30 CC I hi hL hcs kk H locs ls hP hS hl)
  | 31, _ => exact lv_tableIn (off := 1172) (tgt := 1212) hx hb dL_law_40 (by decide) (by decide) rfl (by decide) (lc_31 CC I hi hL hcs kk H locs ls hP hS hl)
  | 32, _ => exact lv_tableIn (off := 1221) (tgt := 1261) hx hb dL_law_40 (by decide) (by decide) rfl (by decide) (lc_32 CC I hi hL hcs kk H locs ls hP hS hl)
  | 33, _ => exact lv_tableIn (off := 1270) (tgt := 1310) hx hb dL_law_40 (by decide) (by decide) rfl (by decide) (lc_33 CC I hi hL hcs kk H locs ls hP hS hl)
  | 34, _ => exact lv_tableIn (off := 1337) (tgt := 1377) hx hb dL_law_40 (by decide) (by decide) rfl (by decide) (lc_34 CC I hi hL hcs kk H locs ls hP hS hl)
  | 35, _ => exact lv_tableIn (off := 1410) (tgt := 1450) hx hb dL_law_40 (by decide) (by decide) rfl (by decide) (lc_35 CC I hi hL hcs kk H locs ls hP hS hl)
  | 36, _ => exact lv_tableIn (off := 1435) (tgt := 1475) hx hb dL_law_40 (by decide) (by decide) rfl (by decide) (lc_36 CC I hi hL hcs kk H locs ls hP hS hl)
  | j + 37, hj =>
    refine lv_tableOut (tgt := 1500) hx hb dL_law_40 (Or.inr ?_) (by decide) ?_
    · rw [show (nI (j + 37)).toInt = ((j + 37 : Nat) : Int) from nI_toInt (by omega)]
      omega
    · refine W.widen (k := cells + 1) (n := slots + 6) (by omega) (by omega) ?_
      exact kk h I H locs ls hP hS hl
set_option maxHeartbeats 4000000 in
set_option maxRecDepth 100000 in
theorem law_loop {l : Launch} {p : Program} {e : Env} {s : State} {m : MethodId} {below : List Frame} {meth : Method} {c : Code} {b L : Nat} {xs : Nat → Int32} {D : va_G} {a : Nat → Nat} {C : Nat → ClassId} (CC : lwC l p s m c b L xs D a C) (hr : meth.sig.returnType = ret) (hlocks : meth.locks = false) (hL : L ≤ 3072) : ∀ (n i : Nat) (h : HS) (cells slots : Nat), Inv h → L < i + n → i ≤ L + 6 → cells + n ≤ 601024 → slots + 6 * n ≤ 7293034 → lwK p l e s m below meth c b i D a C cells slots (lw_Z below #[Value.ref b] s) 23 h := by
  intro n
  induction n with
  | zero =>
    intro i h cells slots I h1 h2 h3 h4 H locs ls hP hS hl
    exact law_head CC hL h2 hS hl (law_exit CC hr hlocks hS (by omega) (by omega)) (fun q => absurd q (by omega))
  | succ n ih =>
    intro i h cells slots I h1 h2 h3 h4 H locs ls hP hS hl
    refine law_head CC hL h2 hS hl (law_exit CC hr hlocks hS (by omega) (by omega)) (fun q => ?_)
    refine law_switch CC I q hL ⟨by omega, by omega⟩ (fun h2 I2 H locs ls hP hS hl => ?_) H locs ls hP hS hl
    obtain ⟨hx, hb, -⟩ := id CC
    refine lv_iinc (v := nI (i + 6)) (lv' := [(4, .int (nI (i + 6))), (0, .ref b), (1, .ref (a 0)), (2, .ref (a 66)), (3, .ref (a 82))]) hx hb dL_law_1500 hl (k := 4) rfl (nI_add i 6) (by decide) rfl (fun ls hl => ?_)
    refine lv_goto (tgt := 23) hx hb dL_law_1503 (by decide) ?_
    exact ih (i + 6) h2 (cells + 1) (slots + 6) I2 (by omega) (by omega) (by omega) (by omega) H locs ls hP hS (lv_sub hl [1, 2, 3, 4, 0] rfl)
