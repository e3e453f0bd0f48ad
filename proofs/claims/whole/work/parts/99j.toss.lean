set_option maxHeartbeats 4000000 in
set_option maxRecDepth 100000 in
theorem m_X2_fail (l : Launch) (hlT : l.stackTraces = false) (D : va_G) (a : Nat → Nat) (C : Nat → ClassId) (ha : ginj a) (h : HS) (i : Nat) (v : Int32) : vx_Met l yX2_fail wsX2_fail rmFail (va_Pc [.ref (a i), .int v] (tPre a C D h)) (fun aa st o t => v = 0 ∧ gQ none D a C h aa st o t) (gX nIA D a C h (¬ v = 0)) 1 6 (gA a) := by
  refine vx_ofW (cc := cX2_fail) (maxL := 2) (ret := none) (by decide) rfl ?_
  intro p e s m args below meth c s₁ B hml hnt hv
  obtain ⟨rfl, ⟨hP, hK, hN⟩, hT, hZ⟩ := hv
  have hx := B.exec
  have hb := B.bytes
  have hr := B.returns
  have hts := atoms_spec (ws := wsX2_fail) B.pre
  have hown : s.vm.findClass RX2 = some m.cls := findClass_of_methodNamed B.named
  have hlk := B.notSynchronized
  have hS : va_S (gA a) s.heap s.heap [] := va_S.rf
  have hl := lv_entry ([.ref (a i), .int v]) (n := 2) (Nat.le_of_ble_eq_true rfl)
  rw [lg_entry_eq]
  generalize (lg_sl ([.ref (a i), .int v]) ++ List.replicate (2 - (lg_sl ([.ref (a i), .int v])).length) Slot.unset).toArray = ls at hl ⊢
  have hl : lv_has ls 2 [(0, .ref (a i)), (1, .int v)] := hl
  refine lv_iload_n hx hb dX2_fail_0 rfl (lv_at hl 1 rfl) ?_
  refine lv_if_eq (tgt := 14) hx hb dX2_fail_1 (by decide) (fun c1 => ?_) (fun c1 => ?_)
  · refine W.widen (k := 1) (n := 6) (by omega) (by omega) ?_
    refine vx_ret ?_
    exact W.vret hx hb hr (fun t ht _ => ⟨c1, rfl, by rw [ht]; exact hP, hS.F ht⟩) hS.2.2 dX2_fail_14 hlk
  · obtain ⟨sa, hstr⟩ := hT.2.2.2 (RX2, 17, "a gossip's failure") (by decide +kernel)
    exact vx_throwS (cls := nIA) (names := thN) hx hb hlT hown (by decide +kernel) (by decide +kernel) (hts (.classLink RX2 15 nIA) (List.mem_of_getElem? (i := 1) rfl)) (hts (.initialized nIA) (List.mem_of_getElem? (i := 2) rfl)) hstr (vx_hat (B := tBad) (fun w hw => hts w (List.mem_cons_of_mem _ (List.mem_append_right _ hw))) (by decide +kernel) (tBad_ok hT)) (by decide +kernel) hZ.1 hZ.2 hS (hl.1.trans hml.symm) dX2_fail_4 dX2_fail_7 dX2_fail_8 dX2_fail_10 dX2_fail_13 (fun x hx => (hnt x hx).elim) (Nat.le_of_ble_eq_true rfl) (Nat.le_of_ble_eq_true rfl) (Nat.le_of_ble_eq_true rfl) (Nat.le_of_ble_eq_true rfl) hlk (fun t _ hz hk => ⟨rfl, c1, gA_kept ha hP hk, hz, fun q h1 _ => hk q h1⟩) hS.2.2 (by omega) (by omega)
set_option maxHeartbeats 4000000 in
set_option maxRecDepth 100000 in
theorem m_X0_fail (l : Launch) (hlT : l.stackTraces = false) (D : va_G) (a : Nat → Nat) (C : Nat → ClassId) (ha : ginj a) (h : HS) (i : Nat) (v : Int32) : vx_Met l yX0_fail wsX0_fail rmFail (va_Pc [.ref (a i), .int v] (tPre a C D h)) (fun aa st o t => v = 0 ∧ gQ none D a C h aa st o t) (gX nUO D a C h (¬ v = 0)) 1 6 (gA a) := by
  refine vx_ofW (cc := cX0_fail) (maxL := 2) (ret := none) (by decide) rfl ?_
  intro p e s m args below meth c s₁ B hml hnt hv
  obtain ⟨rfl, ⟨hP, hK, hN⟩, hT, hZ⟩ := hv
  have hx := B.exec
  have hb := B.bytes
  have hr := B.returns
  have hts := atoms_spec (ws := wsX0_fail) B.pre
  have hown : s.vm.findClass RX0 = some m.cls := findClass_of_methodNamed B.named
  have hlk := B.notSynchronized
  have hS : va_S (gA a) s.heap s.heap [] := va_S.rf
  have hl := lv_entry ([.ref (a i), .int v]) (n := 2) (Nat.le_of_ble_eq_true rfl)
  rw [lg_entry_eq]
  generalize (lg_sl ([.ref (a i), .int v]) ++ List.replicate (2 - (lg_sl ([.ref (a i), .int v])).length) Slot.unset).toArray = ls at hl ⊢
  have hl : lv_has ls 2 [(0, .ref (a i)), (1, .int v)] := hl
  refine lv_iload_n hx hb dX0_fail_0 rfl (lv_at hl 1 rfl) ?_
  refine lv_if_eq (tgt := 14) hx hb dX0_fail_1 (by decide) (fun c1 => ?_) (fun c1 => ?_)
  · refine W.widen (k := 1) (n := 6) (by omega) (by omega) ?_
    refine vx_ret ?_
    exact W.vret hx hb hr (fun t ht _ => ⟨c1, rfl, by rw [ht]; exact hP, hS.F ht⟩) hS.2.2 dX0_fail_14 hlk
  · obtain ⟨sa, hstr⟩ := hT.2.2.2 (RX0, 16, "a bell's failure") (by decide +kernel)
    exact vx_throwS (cls := nUO) (names := thN) hx hb hlT hown (by decide +kernel) (by decide +kernel) (hts (.classLink RX0 14 nUO) (List.mem_of_getElem? (i := 1) rfl)) (hts (.initialized nUO) (List.mem_of_getElem? (i := 2) rfl)) hstr (vx_hat (B := tBad) (fun w hw => hts w (List.mem_cons_of_mem _ (List.mem_append_right _ hw))) (by decide +kernel) (tBad_ok hT)) (by decide +kernel) hZ.1 hZ.2 hS (hl.1.trans hml.symm) dX0_fail_4 dX0_fail_7 dX0_fail_8 dX0_fail_10 dX0_fail_13 (fun x hx => (hnt x hx).elim) (Nat.le_of_ble_eq_true rfl) (Nat.le_of_ble_eq_true rfl) (Nat.le_of_ble_eq_true rfl) (Nat.le_of_ble_eq_true rfl) hlk (fun t _ hz hk => ⟨rfl, c1, gA_kept ha hP hk, hz, fun q h1 _ => hk q h1⟩) hS.2.2 (by omega) (by omega)
set_option maxHeartbeats 4000000 in
set_option maxRecDepth 100000 in
theorem m_X8_fail (l : Launch) (D : va_G) (a : Nat → Nat) (C : Nat → ClassId) (h : HS) (i : Nat) (v : Int32) : gM l yX8_fail wsX8_fail { frames := 0, cells := 0, slots := 0, locals := 0 } D a C [.ref (a i), .int v] h none h := by
  refine g_start (av := [.ref (a i), .int v]) (cc := cX8_fail) (maxL := 2) (rt := none) (by decide) rfl (Nat.le_of_ble_eq_true rfl) ?_
  intro p e s m below meth c hx hb hr hml hown hlk hts hP hK hN ls hl
  have hS : va_S (gA a) s.heap s.heap [] := va_S.rf
  exact W.vret hx hb hr (fun t ht _ => ⟨rfl, by rw [ht]; exact hP, hS.F ht⟩) hS.2.2 dX8_fail_0 hlk
def tossV (q7 : Nat) (f q8 : Int32) : Int32 := match lay q7 with
  | .inl (ci, _) => if f = 0 then -15 else if ci = 6 then f else if ci = 2 then 100 + f else if ci = 10 then 100 + f else if ci = 0 then 200 + q8 else -15
  | _ => -15
def X11_toss (h : HS) (v1 : Int32) : Option Int32 :=
    (X11_shelfOf h v1).bind fun q1 => oM q1 (
    (X11_oneRefusal h none).bind fun q3 =>
    (if q3 = 0 then
    none
    else
    some q3)) fun t2 =>
    (X11_oneRefusal h (some t2)).bind fun q5 =>
    (if q5 = 0 then
    (X5_kindNamed h 5 (fI h t2 1)).bind fun q7 =>
    (V_price q7 (fI h t2 2)).bind fun q8 =>
    some (tossV q7 (fI h t2 2) q8)
    else
    some q5)
def rmX11_toss : Room := { frames := 7, cells := 1, slots := 6, locals := 120 }
theorem kvfail : ("MoreThanSheHas$Person" : String) ≠ "java/lang/invoke/MethodHandle" ∧ ("MoreThanSheHas$Person" : String) ≠ "java/lang/invoke/VarHandle" ∧ (parseMethodDescriptor "(I)V").map (fun d => d.parameters.length) = some 1 := by decide +kernel
theorem kdX6_fail : yX6_fail.cls = RX6 ∧ yX6_fail.cls ≠ "java/lang/invoke/MethodHandle" ∧ yX6_fail.cls ≠ "java/lang/invoke/VarHandle" ∧ (parseMethodDescriptor yX6_fail.desc).map (fun d => d.parameters.length) = some 1 := by decide +kernel
theorem x_iret {p : Program} {l : Launch} {e : Env} {R : Room} {s : State} {m : MethodId} {args : Array Value} {below : List Frame} {meth : Method} {c : Code} {H : Heap} {locs : List Loc} {cc : ByteArray} {pc : Nat} {ls : Array Slot} {D : va_G} {a : Nat → Nat} {C : Nat → ClassId} {h : HS} {v r : Int32} (hx : p.tables.exec = Jvm.exec) (hb : c.code = cc) (hr : meth.sig.returnType = some .int) (hlk : meth.locks = false) (hP : va_P D vwCl (gw a C h) H) (hS : va_S (gA a) s.heap H locs) (e1 : v = r) (hdg : decode cc pc = .ok (.ireturn, 1)) : W p l e R s m args below meth c H locs 1 6 (vx_MQ below (gQ (some (.int r)) D a C h) gNo args s 1 6 (gA a)) (F0 m pc ls [.int v]) := by
  subst e1
  exact vx_ret (W.iret hx hb hr (fun t ht _ => ⟨rfl, by rw [ht]; exact hP, hS.F ht⟩) hS.2.2 hdg hlk)
theorem tossV_at {q7 ci : Nat} {f q8 : Int32} (ho : gO q7 ci []) : tossV q7 f q8 = if f = 0 then -15 else if ci = 6 then f else if ci = 2 then 100 + f else if ci = 10 then 100 + f else if ci = 0 then 200 + q8 else -15 := by
  unfold tossV
  rw [ho.2]
set_option maxHeartbeats 4000000 in
set_option maxRecDepth 100000 in
theorem m_X11_toss (l : Launch) (hlT : l.stackTraces = false) (D : va_G) (a : Nat → Nat) (C : Nat → ClassId) (ha : ginj a) (h : HS) (v1 : Int32) (r : Int32) (hf : X11_toss h v1 = some r) : vx_Met l yX11_toss wsX11_toss rmX11_toss (va_Pc [.ref (a 0), .int v1] (tPre a C D h)) (gQ (some (.int r)) D a C h) gNo 1 6 (gA a) := by
  refine vx_ofWH (cc := cX11_toss) (maxL := 6) (ret := some .int) (hh := [(30, 39, 42, 320), (30, 39, 58, 278), (30, 39, 68, 289)]) (by decide) rfl ?_
  intro p e s m args below meth c s₁ B hml hv
  obtain ⟨rfl, ⟨hP, hK, hN⟩, hT, hZ⟩ := hv
  have hx := B.exec
  have hb := B.bytes
  have hr := B.returns
  have hts := atoms_spec (ws := wsX11_toss) B.pre
  have htab : c.exceptionTable.toList = [⟨30, 39, 42, 320⟩, ⟨30, 39, 58, 278⟩, ⟨30, 39, 68, 289⟩] := vx_table (x := yX11_toss) B (hts _ List.mem_cons_self)
  have hown : s.vm.findClass RX11 = some m.cls := findClass_of_methodNamed B.named
  have hlk := B.notSynchronized
  have hS : va_S (gA a) s.heap s.heap [] := va_S.rf
  have hA : ∀ q, gA a q → gA a q := fun _ q => q
  have hl := lv_entry ([.ref (a 0), .int v1]) (n := 6) (Nat.le_of_ble_eq_true rfl)
  rw [lg_entry_eq]
  generalize (lg_sl ([.ref (a 0), .int v1]) ++ List.replicate (6 - (lg_sl ([.ref (a 0), .int v1])).length) Slot.unset).toArray = ls at hl ⊢
  have hl : lv_has ls 6 [(0, .ref (a 0)), (1, .int v1)] := hl
  unfold X11_toss at hf
  refine lv_aload_n hx hb dX11_toss_0 rfl (lv_at hl 0 rfl) ?_
  refine lv_iload_n hx hb dX11_toss_1 rfl (lv_at hl 1 rfl) ?_
  obtain ⟨q1, hq1, hf⟩ := bind_s hf
  refine g_callV (As := [.int v1]) (rest := []) hx hb hml hown hts hK hN (m_X11_shelfOf l D a C ha h v1  q1 hq1) (cwV 1 hts gX11_toss_X11_shelfOf rfl rfl rfl kdX11_shelfOf ⟨Nat.le_of_ble_eq_true rfl, Nat.le_of_ble_eq_true rfl⟩) X_O rfl rfl hP hS hA rfl hl.1 rfl (Nat.le_of_ble_eq_true rfl) dX11_toss_2 ⟨Nat.le_of_ble_eq_true rfl, Nat.le_of_ble_eq_true rfl⟩ (fun H locs hP hS => ?_)
  rcases q1 with _ | t2
  · have hf := oM_none hf
    refine W.eq (g2 := F0 m 5 ls [.null]) rfl ?_
    refine lv_astore_nN (lv' := [(2, .null), (0, .ref (a 0)), (1, .int v1)]) hx hb dX11_toss_5 rfl hl (by decide) rfl (fun ls hl => ?_)
    refine lv_aload_nN hx hb dX11_toss_6 rfl (lv_at hl 0 rfl) ?_
    obtain ⟨q3, hq3, hf⟩ := bind_s hf
    refine g_callS (As := [.null]) (rest := []) hx hb hml hown hts hK hN (m_X11_oneRefusal l D a C ha h none isShO_none q3 hq3) (va_cwS 1 hts gX11_toss_X11_oneRefusal rfl rfl rfl kdX11_oneRefusal.2 ⟨Nat.le_of_ble_eq_true rfl, Nat.le_of_ble_eq_true rfl⟩) hP hS hA rfl hl.1 rfl (Nat.le_of_ble_eq_true rfl) dX11_toss_7 ⟨Nat.le_of_ble_eq_true rfl, Nat.le_of_ble_eq_true rfl⟩ (fun H locs hP hS => ?_)
    refine W.eq (g2 := F0 m 10 ls [.int q3]) rfl ?_
    refine lv_istore_n (lv' := [(3, .int q3), (2, .null), (0, .ref (a 0)), (1, .int v1)]) hx hb dX11_toss_10 rfl hl (by decide) rfl (fun ls hl => ?_)
    refine lv_iload_n hx hb dX11_toss_11 rfl (lv_at hl 0 rfl) ?_
    refine lv_if_eq (tgt := 17) hx hb dX11_toss_12 (by decide) (fun c4 => ?_) (fun c4 => ?_)
    · have hf := if_t hf c4
      exact absurd hf (by simp)
    · have hf := if_f hf c4
      refine lv_iload_n hx hb dX11_toss_15 rfl (lv_at hl 0 rfl) ?_
      refine W.widen (k := 1) (n := 6) (by omega) (by omega) ?_
      exact x_iret hx hb hr hlk hP hS (ret1 hf) dX11_toss_16
  · have hf := oM_some hf
    have ht2 : isShf t2 := X11_shelfOf_ok hq1 t2 rfl
    refine W.eq (g2 := F0 m 5 ls [.ref (a t2)]) rfl ?_
    refine lv_astore_n (lv' := [(2, .ref (a t2)), (0, .ref (a 0)), (1, .int v1)]) hx hb dX11_toss_5 rfl hl (by decide) rfl (fun ls hl => ?_)
    refine lv_aload_n hx hb dX11_toss_6 rfl (lv_at hl 0 rfl) ?_
    obtain ⟨q5, hq5, hf⟩ := bind_s hf
    refine g_callS (As := [.ref (a t2)]) (rest := []) hx hb hml hown hts hK hN (m_X11_oneRefusal l D a C ha h (some t2) (isShO_some ht2) q5 hq5) (va_cwS 1 hts gX11_toss_X11_oneRefusal rfl rfl rfl kdX11_oneRefusal.2 ⟨Nat.le_of_ble_eq_true rfl, Nat.le_of_ble_eq_true rfl⟩) hP hS hA rfl hl.1 rfl (Nat.le_of_ble_eq_true rfl) dX11_toss_7 ⟨Nat.le_of_ble_eq_true rfl, Nat.le_of_ble_eq_true rfl⟩ (fun H locs hP hS => ?_)
    refine W.eq (g2 := F0 m 10 ls [.int q5]) rfl ?_
    refine lv_istore_n (lv' := [(3, .int q5), (2, .ref (a t2)), (0, .ref (a 0)), (1, .int v1)]) hx hb dX11_toss_10 rfl hl (by decide) rfl (fun ls hl => ?_)
    refine lv_iload_n hx hb dX11_toss_11 rfl (lv_at hl 0 rfl) ?_
    refine lv_if_eq (tgt := 17) hx hb dX11_toss_12 (by decide) (fun c6 => ?_) (fun c6 => ?_)
    · have hf := if_t hf c6
      refine lv_aload_n hx hb dX11_toss_17 rfl (lv_at hl 2 rfl) ?_
      refine g_get (Cn := RX11) (T := TX11) (N := 8) (v := .ref (a 5)) (own := RX11) hx hb hown hts hK X_O rfl (fun _ hw => List.mem_cons_of_mem _ (List.mem_append_left _ (List.mem_append_left _ (List.mem_append_left _ (List.mem_append_left _ (List.mem_append_left _ (List.mem_append_right _ hw))))))) 0 (by decide) (List.mem_of_getElem? (i := 4) rfl) rfl rfl hP dX11_toss_18 ?_
      refine lv_aload_n hx hb dX11_toss_21 rfl (lv_at hl 1 rfl) ?_
      refine g_getN (Cn := RX7) (T := TX7) (N := 6) (v := .int (fI h t2 1)) (own := RX11) hx hb hown hts hK hN (shf_O ht2) rfl (fun _ hw => List.mem_cons_of_mem _ (List.mem_append_left _ (List.mem_append_left _ (List.mem_append_left _ (List.mem_append_left _ (List.mem_append_right _ hw)))))) 1 (by decide) (List.mem_of_getElem? (i := 1) rfl) rfl rfl hP dX11_toss_22 ?_
      obtain ⟨q7, hq7, hf⟩ := bind_s hf
      refine g_callV (As := [.int (fI h t2 1)]) (rest := []) hx hb hml hown hts hK hN (m_X5_kindNamed l D a C ha h 5 (fI h t2 1) isPar5 q7 hq7) (cwV 1 hts gX11_toss_X5_kindNamed rfl rfl rfl kdX5_kindNamed ⟨Nat.le_of_ble_eq_true rfl, Nat.le_of_ble_eq_true rfl⟩) (par_O isPar5) rfl rfl hP hS hA rfl hl.1 rfl (Nat.le_of_ble_eq_true rfl) dX11_toss_25 ⟨Nat.le_of_ble_eq_true rfl, Nat.le_of_ble_eq_true rfl⟩ (fun H locs hP hS => ?_)
      refine W.eq (g2 := F0 m 28 ls [.ref (a q7)]) rfl ?_
      refine lv_astore (lv' := [(4, .ref (a q7)), (3, .int q5), (2, .ref (a t2)), (0, .ref (a 0)), (1, .int v1)]) hx hb dX11_toss_28 hl (by decide) rfl (fun ls hl => ?_)
      refine lv_aload hx hb dX11_toss_30 (lv_at hl 0 rfl) ?_
      refine lv_aload_n hx hb dX11_toss_32 rfl (lv_at hl 2 rfl) ?_
      refine g_getN (Cn := RX7) (T := TX7) (N := 6) (v := .int (fI h t2 2)) (own := RX11) hx hb hown hts hK hN (shf_O ht2) rfl (fun _ hw => List.mem_cons_of_mem _ (List.mem_append_left _ (List.mem_append_left _ (List.mem_append_left _ (List.mem_append_left _ (List.mem_append_right _ hw)))))) 2 (by decide) (List.mem_of_getElem? (i := 2) rfl) rfl rfl hP dX11_toss_33 ?_
      obtain ⟨q8, hq8, hf⟩ := bind_s hf
      have hr9 := Option.some.inj hf
      have hper := knd_per (X5_kindNamed_ok isPar5 hq7)
      have hZ9 : tZ (gA a) s H := hZ.kept hS.2.1
      have hend : ∀ (H : Heap) (locs : List Loc), va_P D vwCl (gw a C h) H → va_S (gA a) s.heap H locs → -15 = r → W p l e (headSpec wsX11_toss rmX11_toss).room s m ([.ref (a 0), .int v1] : List Value).toArray below meth c H locs 1 6 (vx_MQ below (gQ (some (.int r)) D a C h) gNo ([.ref (a 0), .int v1] : List Value).toArray s 1 6 (gA a)) (F0 m 39 ls []) := by
        intro H locs hP hS e9
        refine lv_goto (tgt := 75) hx hb dX11_toss_39 (by decide) ?_
        refine lv_bipush (v := (-15)) hx hb dX11_toss_75 (by decide) ?_
        exact x_iret hx hb hr hlk hP hS e9 dX11_toss_77
      rcases V_price_cases hper hq8 with ⟨ho, hv⟩ | ⟨ho, hv⟩ | ⟨ho, hv⟩ | ⟨ho, hv⟩ | ⟨ho, hv⟩ | ⟨ho, hv⟩ | ⟨ho, hv⟩ | ⟨ho, hv⟩
      · rw [tossV_at ho] at hr9
        refine g_callX (fun E => E = nIS ∧ ¬ fI h t2 2 = 0) (fI h t2 2 = 0) (vx_runV (As := [.int (fI h t2 2)]) (rest := []) ⟨hx, hb, hml, hown, hts⟩ (m_X6_fail l hlT D a C ha h q7 (fI h t2 2)) (cwV 1 hts gX11_toss_X6_fail rfl rfl rfl kdX6_fail ⟨Nat.le_of_ble_eq_true rfl, Nat.le_of_ble_eq_true rfl⟩) ⟨t_blind, va_recv hK hP (show vwCl[6]? = some _ from rfl) (gw_O ho), t_pre hP hK hN hT hZ9⟩ rfl rfl hl.1 rfl (lv_room (Nat.le_of_ble_eq_true rfl)) dX11_toss_36 ⟨Nat.le_of_ble_eq_true rfl, Nat.le_of_ble_eq_true rfl⟩) (fun st o t q => q) (fun E st t q => ⟨⟨q.1, q.2.1⟩, q.2.2⟩) hS hA (fun E hE ce q9 H locs hP hS hce hcv hcl => ?_) (fun z H locs hP hS => ?_)
        · obtain ⟨rfl, z⟩ := hE
          rw [if_neg z] at hr9
          refine vx_catch (own := RX11) (name := nIS) hown [⟨30, 39, 42, 320⟩, ⟨30, 39, 58, 278⟩] ⟨30, 39, 68, 289⟩ [] htab (fun z hz => by
              rcases List.mem_cons.mp hz with rfl | hz
              · exact Or.inr ⟨by decide, nUO, hts (.classLink RX11 320 nUO) (List.mem_of_getElem? (i := 1) rfl), hT.2.2.1 (nIS, nUO) (by decide +kernel)⟩
              rw [List.mem_singleton.mp hz]
              exact Or.inr ⟨by decide, nIA, hts (.classLink RX11 278 nIA) (List.mem_of_getElem? (i := 2) rfl), hT.2.2.1 (nIS, nIA) (by decide +kernel)⟩) (by decide) (by decide) (hts (.classLink RX11 289 nIS) (List.mem_of_getElem? (i := 3) rfl)) (va_Nw.use rfl (hT.1 nIS (by decide +kernel))) hce hcv hcl ?_
          refine W.eq (g2 := F0 m 68 ls [.ref q9]) rfl ?_
          refine lv_astore (lv' := [(5, .ref q9), (4, .ref (a q7)), (3, .int q5), (2, .ref (a t2)), (0, .ref (a 0)), (1, .int v1)]) hx hb dX11_toss_68 hl (by decide) rfl (fun ls hl => ?_)
          refine lv_aload_n hx hb dX11_toss_70 rfl (lv_at hl 3 rfl) ?_
          refine g_getN (Cn := RX7) (T := TX7) (N := 6) (v := .int (fI h t2 2)) (own := RX11) hx hb hown hts hK hN (shf_O ht2) rfl (fun _ hw => List.mem_cons_of_mem _ (List.mem_append_left _ (List.mem_append_left _ (List.mem_append_left _ (List.mem_append_left _ (List.mem_append_right _ hw)))))) 2 (by decide) (List.mem_of_getElem? (i := 2) rfl) rfl rfl hP dX11_toss_71 ?_
          rw [if_pos rfl] at hr9
          exact x_iret hx hb hr hlk hP hS hr9 dX11_toss_74
        · rw [if_pos z] at hr9
          exact hend H locs hP hS hr9
      · rw [tossV_at ho] at hr9
        refine g_callU (As := [.int (fI h t2 2)]) (rest := []) hx hb hml hown hts hK hN (m_X8_fail l D a C h q7 (fI h t2 2)) (va_cwO 1 hts gX11_toss_X8_fail_u316X8 rfl rfl rfl (List.mem_of_getElem? (i := 39) rfl) kvfail ⟨Nat.le_of_ble_eq_true rfl, Nat.le_of_ble_eq_true rfl⟩) ho rfl rfl hP hS hA rfl hl.1 rfl (Nat.le_of_ble_eq_true rfl) dX11_toss_36 ⟨Nat.le_of_ble_eq_true rfl, Nat.le_of_ble_eq_true rfl⟩ (fun H locs hP hS => ?_)
        refine W.widen (k := 1) (n := 6) (by omega) (by omega) ?_
        refine hend H locs hP hS ?_
        by_cases z : fI h t2 2 = 0
        · rw [if_pos z] at hr9; exact hr9
        · rw [if_neg z] at hr9; exact hr9
      · rw [tossV_at ho] at hr9
        refine g_callX (fun E => E = nIA ∧ ¬ fI h t2 2 = 0) (fI h t2 2 = 0) (xu_runU (As := [.int (fI h t2 2)]) (rest := []) ⟨hx, hb, hml, hown, hts⟩ (m_X2_fail l hlT D a C ha h q7 (fI h t2 2)) (va_cwO 1 hts gX11_toss_X2_fail_u316X2 rfl rfl rfl (List.mem_of_getElem? (i := 39) rfl) kvfail ⟨Nat.le_of_ble_eq_true rfl, Nat.le_of_ble_eq_true rfl⟩) ⟨t_blind, va_recv hK hP (show vwCl[2]? = some _ from rfl) (gw_O ho), t_pre hP hK hN hT hZ9⟩ rfl rfl hl.1 rfl (lv_room (Nat.le_of_ble_eq_true rfl)) dX11_toss_36 ⟨Nat.le_of_ble_eq_true rfl, Nat.le_of_ble_eq_true rfl⟩) (fun st o t q => q) (fun E st t q => ⟨⟨q.1, q.2.1⟩, q.2.2⟩) hS hA (fun E hE ce q9 H locs hP hS hce hcv hcl => ?_) (fun z H locs hP hS => ?_)
        · obtain ⟨rfl, z⟩ := hE
          rw [if_neg z] at hr9
          refine vx_catch (own := RX11) (name := nIA) hown [⟨30, 39, 42, 320⟩] ⟨30, 39, 58, 278⟩ [⟨30, 39, 68, 289⟩] htab (fun z hz => by
              rw [List.mem_singleton.mp hz]
              exact Or.inr ⟨by decide, nUO, hts (.classLink RX11 320 nUO) (List.mem_of_getElem? (i := 1) rfl), hT.2.2.1 (nIA, nUO) (by decide +kernel)⟩) (by decide) (by decide) (hts (.classLink RX11 278 nIA) (List.mem_of_getElem? (i := 2) rfl)) (va_Nw.use rfl (hT.1 nIA (by decide +kernel))) hce hcv hcl ?_
          refine W.eq (g2 := F0 m 58 ls [.ref q9]) rfl ?_
          refine lv_astore (lv' := [(5, .ref q9), (4, .ref (a q7)), (3, .int q5), (2, .ref (a t2)), (0, .ref (a 0)), (1, .int v1)]) hx hb dX11_toss_58 hl (by decide) rfl (fun ls hl => ?_)
          refine lv_bipush (v := 100) hx hb dX11_toss_60 (by decide) ?_
          refine lv_aload_n hx hb dX11_toss_62 rfl (lv_at hl 3 rfl) ?_
          refine g_getN (Cn := RX7) (T := TX7) (N := 6) (v := .int (fI h t2 2)) (own := RX11) hx hb hown hts hK hN (shf_O ht2) rfl (fun _ hw => List.mem_cons_of_mem _ (List.mem_append_left _ (List.mem_append_left _ (List.mem_append_left _ (List.mem_append_left _ (List.mem_append_right _ hw)))))) 2 (by decide) (List.mem_of_getElem? (i := 2) rfl) rfl rfl hP dX11_toss_63 ?_
          refine lv_iadd hx hb dX11_toss_66 ?_
          exact x_iret hx hb hr hlk hP hS hr9 dX11_toss_67
        · rw [if_pos z] at hr9
          exact hend H locs hP hS hr9
      · rw [tossV_at ho] at hr9
        refine g_callU (As := [.int (fI h t2 2)]) (rest := []) hx hb hml hown hts hK hN (m_X8_fail l D a C h q7 (fI h t2 2)) (va_cwO 1 hts gX11_toss_X8_fail_u316X3 rfl rfl rfl (List.mem_of_getElem? (i := 39) rfl) kvfail ⟨Nat.le_of_ble_eq_true rfl, Nat.le_of_ble_eq_true rfl⟩) ho rfl rfl hP hS hA rfl hl.1 rfl (Nat.le_of_ble_eq_true rfl) dX11_toss_36 ⟨Nat.le_of_ble_eq_true rfl, Nat.le_of_ble_eq_true rfl⟩ (fun H locs hP hS => ?_)
        refine W.widen (k := 1) (n := 6) (by omega) (by omega) ?_
        refine hend H locs hP hS ?_
        by_cases z : fI h t2 2 = 0
        · rw [if_pos z] at hr9; exact hr9
        · rw [if_neg z] at hr9; exact hr9
      · rw [tossV_at ho] at hr9
        refine g_callX (fun E => E = nIA ∧ ¬ fI h t2 2 = 0) (fI h t2 2 = 0) (xu_runU (As := [.int (fI h t2 2)]) (rest := []) ⟨hx, hb, hml, hown, hts⟩ (m_X2_fail l hlT D a C ha h q7 (fI h t2 2)) (va_cwO 1 hts gX11_toss_X2_fail_u316X10 rfl rfl rfl (List.mem_of_getElem? (i := 39) rfl) kvfail ⟨Nat.le_of_ble_eq_true rfl, Nat.le_of_ble_eq_true rfl⟩) ⟨t_blind, va_recv hK hP (show vwCl[10]? = some _ from rfl) (gw_O ho), t_pre hP hK hN hT hZ9⟩ rfl rfl hl.1 rfl (lv_room (Nat.le_of_ble_eq_true rfl)) dX11_toss_36 ⟨Nat.le_of_ble_eq_true rfl, Nat.le_of_ble_eq_true rfl⟩) (fun st o t q => q) (fun E st t q => ⟨⟨q.1, q.2.1⟩, q.2.2⟩) hS hA (fun E hE ce q9 H locs hP hS hce hcv hcl => ?_) (fun z H locs hP hS => ?_)
        · obtain ⟨rfl, z⟩ := hE
          rw [if_neg z] at hr9
          refine vx_catch (own := RX11) (name := nIA) hown [⟨30, 39, 42, 320⟩] ⟨30, 39, 58, 278⟩ [⟨30, 39, 68, 289⟩] htab (fun z hz => by
              rw [List.mem_singleton.mp hz]
              exact Or.inr ⟨by decide, nUO, hts (.classLink RX11 320 nUO) (List.mem_of_getElem? (i := 1) rfl), hT.2.2.1 (nIA, nUO) (by decide +kernel)⟩) (by decide) (by decide) (hts (.classLink RX11 278 nIA) (List.mem_of_getElem? (i := 2) rfl)) (va_Nw.use rfl (hT.1 nIA (by decide +kernel))) hce hcv hcl ?_
          refine W.eq (g2 := F0 m 58 ls [.ref q9]) rfl ?_
          refine lv_astore (lv' := [(5, .ref q9), (4, .ref (a q7)), (3, .int q5), (2, .ref (a t2)), (0, .ref (a 0)), (1, .int v1)]) hx hb dX11_toss_58 hl (by decide) rfl (fun ls hl => ?_)
          refine lv_bipush (v := 100) hx hb dX11_toss_60 (by decide) ?_
          refine lv_aload_n hx hb dX11_toss_62 rfl (lv_at hl 3 rfl) ?_
          refine g_getN (Cn := RX7) (T := TX7) (N := 6) (v := .int (fI h t2 2)) (own := RX11) hx hb hown hts hK hN (shf_O ht2) rfl (fun _ hw => List.mem_cons_of_mem _ (List.mem_append_left _ (List.mem_append_left _ (List.mem_append_left _ (List.mem_append_left _ (List.mem_append_right _ hw)))))) 2 (by decide) (List.mem_of_getElem? (i := 2) rfl) rfl rfl hP dX11_toss_63 ?_
          refine lv_iadd hx hb dX11_toss_66 ?_
          exact x_iret hx hb hr hlk hP hS hr9 dX11_toss_67
        · rw [if_pos z] at hr9
          exact hend H locs hP hS hr9
      · rw [tossV_at ho] at hr9
        refine g_callU (As := [.int (fI h t2 2)]) (rest := []) hx hb hml hown hts hK hN (m_X8_fail l D a C h q7 (fI h t2 2)) (va_cwO 1 hts gX11_toss_X8_fail_u316X9 rfl rfl rfl (List.mem_of_getElem? (i := 39) rfl) kvfail ⟨Nat.le_of_ble_eq_true rfl, Nat.le_of_ble_eq_true rfl⟩) ho rfl rfl hP hS hA rfl hl.1 rfl (Nat.le_of_ble_eq_true rfl) dX11_toss_36 ⟨Nat.le_of_ble_eq_true rfl, Nat.le_of_ble_eq_true rfl⟩ (fun H locs hP hS => ?_)
        refine W.widen (k := 1) (n := 6) (by omega) (by omega) ?_
        refine hend H locs hP hS ?_
        by_cases z : fI h t2 2 = 0
        · rw [if_pos z] at hr9; exact hr9
        · rw [if_neg z] at hr9; exact hr9
      · rw [tossV_at ho] at hr9
        refine g_callX (fun E => E = nUO ∧ ¬ fI h t2 2 = 0) (fI h t2 2 = 0) (xu_runU (As := [.int (fI h t2 2)]) (rest := []) ⟨hx, hb, hml, hown, hts⟩ (m_X0_fail l hlT D a C ha h q7 (fI h t2 2)) (va_cwO 1 hts gX11_toss_X0_fail_u316X0 rfl rfl rfl (List.mem_of_getElem? (i := 39) rfl) kvfail ⟨Nat.le_of_ble_eq_true rfl, Nat.le_of_ble_eq_true rfl⟩) ⟨t_blind, va_recv hK hP (show vwCl[0]? = some _ from rfl) (gw_O ho), t_pre hP hK hN hT hZ9⟩ rfl rfl hl.1 rfl (lv_room (Nat.le_of_ble_eq_true rfl)) dX11_toss_36 ⟨Nat.le_of_ble_eq_true rfl, Nat.le_of_ble_eq_true rfl⟩) (fun st o t q => q) (fun E st t q => ⟨⟨q.1, q.2.1⟩, q.2.2⟩) hS hA (fun E hE ce q9 H locs hP hS hce hcv hcl => ?_) (fun z H locs hP hS => ?_)
        · obtain ⟨rfl, z⟩ := hE
          rw [if_neg z] at hr9
          refine vx_catch (own := RX11) (name := nUO) hown [] ⟨30, 39, 42, 320⟩ [⟨30, 39, 58, 278⟩, ⟨30, 39, 68, 289⟩] htab (fun z hz => by cases hz) (by decide) (by decide) (hts (.classLink RX11 320 nUO) (List.mem_of_getElem? (i := 1) rfl)) (va_Nw.use rfl (hT.1 nUO (by decide +kernel))) hce hcv hcl ?_
          refine W.eq (g2 := F0 m 42 ls [.ref q9]) rfl ?_
          refine lv_astore (lv' := [(5, .ref q9), (4, .ref (a q7)), (3, .int q5), (2, .ref (a t2)), (0, .ref (a 0)), (1, .int v1)]) hx hb dX11_toss_42 hl (by decide) rfl (fun ls hl => ?_)
          refine lv_sipush (v := 200) hx hb dX11_toss_44 (by decide) ?_
          refine lv_aload hx hb dX11_toss_47 (lv_at hl 1 rfl) ?_
          refine lv_aload_n hx hb dX11_toss_49 rfl (lv_at hl 3 rfl) ?_
          refine g_getN (Cn := RX7) (T := TX7) (N := 6) (v := .int (fI h t2 2)) (own := RX11) hx hb hown hts hK hN (shf_O ht2) rfl (fun _ hw => List.mem_cons_of_mem _ (List.mem_append_left _ (List.mem_append_left _ (List.mem_append_left _ (List.mem_append_left _ (List.mem_append_right _ hw)))))) 2 (by decide) (List.mem_of_getElem? (i := 2) rfl) rfl rfl hP dX11_toss_50 ?_
          refine g_callU (As := [.int (fI h t2 2)]) (rest := [.int 200]) hx hb hml hown hts hK hN (m_X0_price l D a C ha h q7 hper (fI h t2 2) q8 hv) (va_cwO 1 hts gX11_toss_X0_price_u313X0 rfl rfl rfl (List.mem_of_getElem? (i := 66) rfl) kvprice ⟨Nat.le_of_ble_eq_true rfl, Nat.le_of_ble_eq_true rfl⟩) ho rfl rfl hP hS hA rfl hl.1 rfl (Nat.le_of_ble_eq_true rfl) dX11_toss_53 ⟨Nat.le_of_ble_eq_true rfl, Nat.le_of_ble_eq_true rfl⟩ (fun H locs hP hS => ?_)
          refine lv_iadd hx hb dX11_toss_56 ?_
          exact x_iret hx hb hr hlk hP hS hr9 dX11_toss_57
        · rw [if_pos z] at hr9
          exact hend H locs hP hS hr9
      · rw [tossV_at ho] at hr9
        refine g_callU (As := [.int (fI h t2 2)]) (rest := []) hx hb hml hown hts hK hN (m_X8_fail l D a C h q7 (fI h t2 2)) (va_cwO 1 hts gX11_toss_X8_fail_u316X1 rfl rfl rfl (List.mem_of_getElem? (i := 39) rfl) kvfail ⟨Nat.le_of_ble_eq_true rfl, Nat.le_of_ble_eq_true rfl⟩) ho rfl rfl hP hS hA rfl hl.1 rfl (Nat.le_of_ble_eq_true rfl) dX11_toss_36 ⟨Nat.le_of_ble_eq_true rfl, Nat.le_of_ble_eq_true rfl⟩ (fun H locs hP hS => ?_)
        refine W.widen (k := 1) (n := 6) (by omega) (by omega) ?_
        refine hend H locs hP hS ?_
        by_cases z : fI h t2 2 = 0
        · rw [if_pos z] at hr9; exact hr9
        · rw [if_neg z] at hr9; exact hr9
    · have hf := if_f hf c6
      refine lv_iload_n hx hb dX11_toss_15 rfl (lv_at hl 0 rfl) ?_
      refine W.widen (k := 1) (n := 6) (by omega) (by omega) ?_
      exact x_iret hx hb hr hlk hP hS (ret1 hf) dX11_toss_16
