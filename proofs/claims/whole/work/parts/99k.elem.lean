/-! element: it answers, or throws; the law catches -/
def X11_elemK (h : HS) (v1 v2 : Int32) : Option (Int32 × Int64) :=
    (X11_shelfOf h v1).bind fun q1 => oM q1 (some (1, 0)) fun t2 =>
    (X7_holdsRow h t2).bind fun q3 =>
    (if q3 = 0 then
    some (2, 0)
    else
    (X7_hasPlace h t2 v2).bind fun q4 =>
    (if q4 = 0 then
    some (2, 0)
    else
    (X7_at h t2 v2).bind fun q5 =>
    some (0, q5.toInt64)))
def rmX11_element : Room := { frames := 6, cells := 1, slots := 6, locals := 82 }
theorem kdX11_element : yX11_element.cls = RX11 ∧ yX11_element.cls ≠ "java/lang/invoke/MethodHandle" ∧ yX11_element.cls ≠ "java/lang/invoke/VarHandle" ∧ (parseMethodDescriptor yX11_element.desc).map (fun d => d.parameters.length) = some 2 := by decide +kernel
def gX2 (k : Int32) (D : va_G) (a : Nat → Nat) (C : Nat → ClassId) (h : HS) : String → State → State → Prop := fun E st t => ((E = nIA ∧ k = 1) ∨ (E = nIS ∧ k = 2)) ∧ va_P D vwCl (gw a C h) t.heap ∧ va_F (gA a) st t
theorem pair_s {α β : Type} {a c : α} {b d : β} (h : some (a, b) = some (c, d)) : a = c ∧ b = d := by cases h; exact ⟨rfl, rfl⟩
set_option maxHeartbeats 4000000 in
set_option maxRecDepth 100000 in
theorem m_X11_element (l : Launch) (hlT : l.stackTraces = false) (D : va_G) (a : Nat → Nat) (C : Nat → ClassId) (ha : ginj a) (h : HS) (v1 v2 : Int32) (k : Int32) (r : Int64) (hf : X11_elemK h v1 v2 = some (k, r)) : vx_Met l yX11_element wsX11_element rmX11_element (va_Pc [.ref (a 0), .int v1, .int v2] (tPre a C D h)) (fun aa st o t => k = 0 ∧ gQ (some (.long r)) D a C h aa st o t) (gX2 k D a C h) 1 6 (gA a) := by
  refine vx_ofW (cc := cX11_element) (maxL := 4) (ret := some .long) (by decide) rfl ?_
  intro p e s m args below meth c s₁ B hml hnt hv
  obtain ⟨rfl, ⟨hP, hK, hN⟩, hT, hZ⟩ := hv
  have hx := B.exec
  have hb := B.bytes
  have hr := B.returns
  have hts := atoms_spec (ws := wsX11_element) B.pre
  have hown : s.vm.findClass RX11 = some m.cls := findClass_of_methodNamed B.named
  have hlk := B.notSynchronized
  have hS : va_S (gA a) s.heap s.heap [] := va_S.rf
  have hA : ∀ q, gA a q → gA a q := fun _ q => q
  have hl := lv_entry ([.ref (a 0), .int v1, .int v2]) (n := 4) (Nat.le_of_ble_eq_true rfl)
  rw [lg_entry_eq]
  generalize (lg_sl ([.ref (a 0), .int v1, .int v2]) ++ List.replicate (4 - (lg_sl ([.ref (a 0), .int v1, .int v2])).length) Slot.unset).toArray = ls at hl ⊢
  have hl : lv_has ls 4 [(0, .ref (a 0)), (1, .int v1), (2, .int v2)] := hl
  unfold X11_elemK at hf
  refine lv_aload_n hx hb dX11_element_0 rfl (lv_at hl 0 rfl) ?_
  refine lv_iload_n hx hb dX11_element_1 rfl (lv_at hl 1 rfl) ?_
  obtain ⟨q1, hq1, hf⟩ := bind_s hf
  refine g_callV (As := [.int v1]) (rest := []) hx hb hml hown hts hK hN (m_X11_shelfOf l D a C ha h v1  q1 hq1) (cwV 1 hts gX11_element_X11_shelfOf rfl rfl rfl kdX11_shelfOf ⟨Nat.le_of_ble_eq_true rfl, Nat.le_of_ble_eq_true rfl⟩) X_O rfl rfl hP hS hA rfl hl.1 rfl (Nat.le_of_ble_eq_true rfl) dX11_element_2 ⟨Nat.le_of_ble_eq_true rfl, Nat.le_of_ble_eq_true rfl⟩ (fun H locs hP hS => ?_)
  have hkp : ∀ (H : Heap) (H1 : Heap), va_P D vwCl (gw a C h) H → (∀ q : Nat, q < H.size → H1[q]? = H[q]?) → va_P D vwCl (gw a C h) H1 := fun H H1 hP hk => gA_kept ha hP hk
  have hkF : ∀ (H : Heap) (locs : List Loc) (t : State), va_S (gA a) s.heap H locs → H.size ≤ t.heap.size → (∀ q : Nat, q < H.size → t.heap[q]? = H[q]?) → va_F (gA a) s t := fun H locs t hS hz hk => ⟨Nat.le_trans hS.1 hz, fun q h1 h2 => by rw [hk q (Nat.lt_of_lt_of_le h1 hS.1)]; exact hS.2.1 q h1 h2⟩
  have hthrow : ∀ (H : Heap) (locs : List Loc) (ls : Array Slot), va_P D vwCl (gw a C h) H → va_S (gA a) s.heap H locs → ls.size = c.maxLocals → 2 = k → W p l e (headSpec wsX11_element rmX11_element).room s m ([.ref (a 0), .int v1, .int v2] : List Value).toArray below meth c H locs 0 0 (vx_MQ below (fun aa st o t => k = 0 ∧ gQ (some (.long r)) D a C h aa st o t) (gX2 k D a C h) ([.ref (a 0), .int v1, .int v2] : List Value).toArray s 1 6 (gA a)) (F0 m 36 ls []) := by
    intro H locs ls hP hS hz9 hk2
    obtain ⟨sa, hstr⟩ := hT.2.2.2 (RX11, 291, "no row or no such place") (by decide +kernel)
    exact vx_throwSW (cls := nIS) (names := thN) hx hb hlT hown (by decide +kernel) (by decide +kernel) (hts (.classLink RX11 289 nIS) (List.mem_of_getElem? (i := 3) rfl)) (hts (.initialized nIS) (List.mem_of_getElem? (i := 4) rfl)) hstr (vx_hat (B := tBad) (fun w hw => hts w (List.mem_cons_of_mem _ (List.mem_append_right _ hw))) (by decide +kernel) (tBad_ok hT)) (by decide +kernel) hZ.1 hZ.2 hS hz9 dX11_element_36 dX11_element_39 dX11_element_40 dX11_element_43 dX11_element_46 (fun x hx => (hnt x hx).elim) (Nat.le_of_ble_eq_true rfl) (Nat.le_of_ble_eq_true rfl) (Nat.le_of_ble_eq_true rfl) (Nat.le_of_ble_eq_true rfl) hlk (fun t _ hz hk => ⟨Or.inr ⟨rfl, hk2.symm⟩, hkp H _ hP hk, hkF H locs t hS hz hk⟩) hS.2.2 (by omega) (by omega)
  rcases q1 with _ | t2
  · have hf := oM_none hf
    refine W.eq (g2 := F0 m 5 ls [.null]) rfl ?_
    refine lv_astore_nN (lv' := [(3, .null), (0, .ref (a 0)), (1, .int v1), (2, .int v2)]) hx hb dX11_element_5 rfl hl (by decide) rfl (fun ls hl => ?_)
    refine lv_aload_nN hx hb dX11_element_6 rfl (lv_at hl 0 rfl) ?_
    refine lv_ifnonnullN hx hb dX11_element_7 ?_
    obtain ⟨e1, e2⟩ := pair_s hf
    obtain ⟨sa, hstr⟩ := hT.2.2.2 (RX11, 280, "no such shelf") (by decide +kernel)
    exact vx_throwSW (cls := nIA) (names := thN) hx hb hlT hown (by decide +kernel) (by decide +kernel) (hts (.classLink RX11 278 nIA) (List.mem_of_getElem? (i := 1) rfl)) (hts (.initialized nIA) (List.mem_of_getElem? (i := 2) rfl)) hstr (vx_hat (B := tBad) (fun w hw => hts w (List.mem_cons_of_mem _ (List.mem_append_left _ (List.mem_append_right _ hw)))) (by decide +kernel) (tBad_ok hT)) (by decide +kernel) hZ.1 hZ.2 hS (hl.1.trans hml.symm) dX11_element_10 dX11_element_13 dX11_element_14 dX11_element_17 dX11_element_20 (fun x hx => (hnt x hx).elim) (Nat.le_of_ble_eq_true rfl) (Nat.le_of_ble_eq_true rfl) (Nat.le_of_ble_eq_true rfl) (Nat.le_of_ble_eq_true rfl) hlk (fun t _ hz hk => ⟨Or.inl ⟨rfl, e1.symm⟩, hkp H _ hP hk, hkF H locs t hS hz hk⟩) hS.2.2 (by omega) (by omega)
  · have hf := oM_some hf
    have ht2 : isShf t2 := X11_shelfOf_ok hq1 t2 rfl
    refine W.eq (g2 := F0 m 5 ls [.ref (a t2)]) rfl ?_
    refine lv_astore_n (lv' := [(3, .ref (a t2)), (0, .ref (a 0)), (1, .int v1), (2, .int v2)]) hx hb dX11_element_5 rfl hl (by decide) rfl (fun ls hl => ?_)
    refine lv_aload_n hx hb dX11_element_6 rfl (lv_at hl 0 rfl) ?_
    refine lv_ifnonnull (tgt := 21) hx hb dX11_element_7 (by decide) ?_
    refine lv_aload_n hx hb dX11_element_21 rfl (lv_at hl 0 rfl) ?_
    obtain ⟨q3, hq3, hf⟩ := bind_s hf
    refine g_callV (As := []) (rest := []) hx hb hml hown hts hK hN (m_X7_holdsRow l D a C ha h t2 ht2 q3 hq3) (cwV 0 hts gX11_element_X7_holdsRow rfl rfl rfl kdX7_holdsRow ⟨Nat.le_of_ble_eq_true rfl, Nat.le_of_ble_eq_true rfl⟩) (shf_O ht2) rfl rfl hP hS hA rfl hl.1 rfl (Nat.le_of_ble_eq_true rfl) dX11_element_22 ⟨Nat.le_of_ble_eq_true rfl, Nat.le_of_ble_eq_true rfl⟩ (fun H locs hP hS => ?_)
    refine W.eq (g2 := F0 m 25 ls [.int q3]) rfl ?_
    refine lv_if_eq (tgt := 36) hx hb dX11_element_25 (by decide) (fun c4 => ?_) (fun c4 => ?_)
    · have hf := if_t hf c4
      exact hthrow H locs ls hP hS (hl.1.trans hml.symm) (pair_s hf).1
    have hf := if_f hf c4
    refine lv_aload_n hx hb dX11_element_28 rfl (lv_at hl 0 rfl) ?_
    refine lv_iload_n hx hb dX11_element_29 rfl (lv_at hl 3 rfl) ?_
    obtain ⟨q4, hq4, hf⟩ := bind_s hf
    refine g_callV (As := [.int v2]) (rest := []) hx hb hml hown hts hK hN (m_X7_hasPlace l D a C ha h t2 v2 ht2 q4 hq4) (cwV 1 hts gX11_element_X7_hasPlace rfl rfl rfl kdX7_hasPlace ⟨Nat.le_of_ble_eq_true rfl, Nat.le_of_ble_eq_true rfl⟩) (shf_O ht2) rfl rfl hP hS hA rfl hl.1 rfl (Nat.le_of_ble_eq_true rfl) dX11_element_30 ⟨Nat.le_of_ble_eq_true rfl, Nat.le_of_ble_eq_true rfl⟩ (fun H locs hP hS => ?_)
    refine W.eq (g2 := F0 m 33 ls [.int q4]) rfl ?_
    refine lv_if_ne (tgt := 47) hx hb dX11_element_33 (by decide) (fun c5 => ?_) (fun c5 => ?_)
    · have hf := if_f hf c5
      refine lv_aload_n hx hb dX11_element_47 rfl (lv_at hl 0 rfl) ?_
      refine lv_iload_n hx hb dX11_element_48 rfl (lv_at hl 3 rfl) ?_
      obtain ⟨q5, hq5, hf⟩ := bind_s hf
      refine g_callV (As := [.int v2]) (rest := []) hx hb hml hown hts hK hN (m_X7_at l D a C ha h t2 v2 ht2 q5 hq5) (cwV 1 hts gX11_element_X7_at rfl rfl rfl kdX7_at ⟨Nat.le_of_ble_eq_true rfl, Nat.le_of_ble_eq_true rfl⟩) (shf_O ht2) rfl rfl hP hS hA rfl hl.1 rfl (Nat.le_of_ble_eq_true rfl) dX11_element_49 ⟨Nat.le_of_ble_eq_true rfl, Nat.le_of_ble_eq_true rfl⟩ (fun H locs hP hS => ?_)
      refine W.eq (g2 := F0 m 52 ls [.int q5]) rfl ?_
      obtain ⟨e1, e2⟩ := pair_s hf
      refine lv_i2l hx hb dX11_element_52 rfl ?_
      refine W.widen (k := 1) (n := 6) (by omega) (by omega) ?_
      subst e2
      exact vx_ret (W.lret hx hb hr (fun t ht _ => ⟨e1.symm, rfl, by rw [ht]; exact hP, hS.F ht⟩) hS.2.2 dX11_element_53 hlk)
    · have hf := if_t hf c5
      exact hthrow H locs ls hP hS (hl.1.trans hml.symm) (pair_s hf).1
def elH (h : HS) (k : Int32) (r : Int64) : HS := if k = 0 then sL h 82 (vp_updL (aL h 82) 0 r) else h
def rmL_element : Room := { frames := 7, cells := 1, slots := 6, locals := 120 }
theorem O_AL : gAL 82 1 := ⟨by decide, rfl⟩
set_option maxHeartbeats 4000000 in
set_option maxRecDepth 100000 in
theorem m_L_element (l : Launch) (hlT : l.stackTraces = false) (D : va_G) (a : Nat → Nat) (C : Nat → ClassId) (ha : ginj a) (h : HS) (v1 v2 : Int32) (k : Int32) (r : Int64) (hf : X11_elemK h v1 v2 = some (k, r)) : vx_Met l yL_element wsL_element rmL_element (va_Pc [.ref (a 0), .int v1, .int v2, .ref (a 82)] (tPre a C D h)) (gQ (some (.int k)) D a C (elH h k r)) gNo 1 6 (gA a) := by
  refine vx_ofWH (cc := cL_element) (maxL := 5) (ret := some .int) (hh := [(0, 9, 12, 13), (0, 9, 16, 15)]) (by decide) rfl ?_
  intro p e s m args below meth c s₁ B hml hv
  obtain ⟨rfl, ⟨hP, hK, hN⟩, hT, hZ⟩ := hv
  have hx := B.exec
  have hb := B.bytes
  have hr := B.returns
  have hts := atoms_spec (ws := wsL_element) B.pre
  have htab : c.exceptionTable.toList = [⟨0, 9, 12, 13⟩, ⟨0, 9, 16, 15⟩] := vx_table (x := yL_element) B (hts _ List.mem_cons_self)
  have hown : s.vm.findClass RL = some m.cls := findClass_of_methodNamed B.named
  have hlk := B.notSynchronized
  have hS : va_S (gA a) s.heap s.heap [] := va_S.rf
  have hA : ∀ q, gA a q → gA a q := fun _ q => q
  have hl := lv_entry ([.ref (a 0), .int v1, .int v2, .ref (a 82)]) (n := 5) (Nat.le_of_ble_eq_true rfl)
  rw [lg_entry_eq]
  generalize (lg_sl ([.ref (a 0), .int v1, .int v2, .ref (a 82)]) ++ List.replicate (5 - (lg_sl ([.ref (a 0), .int v1, .int v2, .ref (a 82)])).length) Slot.unset).toArray = ls at hl ⊢
  have hl : lv_has ls 5 [(0, .ref (a 0)), (1, .int v1), (2, .int v2), (3, .ref (a 82))] := hl
  refine lv_aload_n hx hb dL_element_0 rfl (lv_at hl 3 rfl) ?_
  refine lv_iconst (v := 0) hx hb dL_element_1 (by decide) ?_
  refine lv_aload_n hx hb dL_element_2 rfl (lv_at hl 0 rfl) ?_
  refine lv_iload_n hx hb dL_element_3 rfl (lv_at hl 1 rfl) ?_
  refine lv_iload_n hx hb dL_element_4 rfl (lv_at hl 2 rfl) ?_
  refine g_callX (fun E => (E = nIA ∧ k = 1) ∨ (E = nIS ∧ k = 2)) (k = 0) (vx_runV (As := [.int v1, .int v2]) (rest := [.int 0, .ref (a 82)]) ⟨hx, hb, hml, hown, hts⟩ (m_X11_element l hlT D a C ha h v1 v2 k r hf) (cwV 2 hts gL_element_X11_element rfl rfl rfl kdX11_element ⟨Nat.le_of_ble_eq_true rfl, Nat.le_of_ble_eq_true rfl⟩) ⟨t_blind, va_recv hK hP (show vwCl[11]? = some _ from rfl) (gw_O X_O), t_pre hP hK hN hT hZ⟩ rfl rfl hl.1 rfl (lv_room (Nat.le_of_ble_eq_true rfl)) dL_element_5 ⟨Nat.le_of_ble_eq_true rfl, Nat.le_of_ble_eq_true rfl⟩) (fun st o t q => q) (fun E st t q => q) hS hA (fun E hE ce q9 H locs hP hS hce hcv hcl => ?_) (fun z H locs hP hS => ?_)
  · rcases hE with ⟨rfl, z⟩ | ⟨rfl, z⟩
    · have e0 : elH h k r = h := by unfold elH; rw [if_neg (by rw [z]; decide)]
      rw [e0]
      refine vx_catch (own := RL) (name := nIA) hown [] ⟨0, 9, 12, 13⟩ [⟨0, 9, 16, 15⟩] htab (fun z hz => by cases hz) (by decide) (by decide) (hts (.classLink RL 13 nIA) (List.mem_of_getElem? (i := 1) rfl)) (va_Nw.use rfl (hT.1 nIA (by decide +kernel))) hce hcv hcl ?_
      refine W.eq (g2 := F0 m 12 ls [.ref q9]) rfl ?_
      refine lv_astore (lv' := [(4, .ref q9), (0, .ref (a 0)), (1, .int v1), (2, .int v2), (3, .ref (a 82))]) hx hb dL_element_12 hl (by decide) rfl (fun ls hl => ?_)
      refine lv_iconst (v := 1) hx hb dL_element_14 (by decide) ?_
      exact x_iret hx hb hr hlk hP hS z.symm dL_element_15
    · have e0 : elH h k r = h := by unfold elH; rw [if_neg (by rw [z]; decide)]
      rw [e0]
      refine vx_catch (own := RL) (name := nIS) hown [⟨0, 9, 12, 13⟩] ⟨0, 9, 16, 15⟩ [] htab (fun z hz => by
        rw [List.mem_singleton.mp hz]
        exact Or.inr ⟨by decide, nIA, hts (.classLink RL 13 nIA) (List.mem_of_getElem? (i := 1) rfl), hT.2.2.1 (nIS, nIA) (by decide +kernel)⟩) (by decide) (by decide) (hts (.classLink RL 15 nIS) (List.mem_of_getElem? (i := 2) rfl)) (va_Nw.use rfl (hT.1 nIS (by decide +kernel))) hce hcv hcl ?_
      refine W.eq (g2 := F0 m 16 ls [.ref q9]) rfl ?_
      refine lv_astore (lv' := [(4, .ref q9), (0, .ref (a 0)), (1, .int v1), (2, .int v2), (3, .ref (a 82))]) hx hb dL_element_16 hl (by decide) rfl (fun ls hl => ?_)
      refine lv_iconst (v := 2) hx hb dL_element_18 (by decide) ?_
      exact x_iret hx hb hr hlk hP hS z.symm dL_element_19
  · have e0 : elH h k r = sL h 82 (vp_updL (aL h 82) 0 r) := by unfold elH; rw [if_pos z]
    rw [e0]
    refine W.eq (g2 := F0 m 8 ls [.long r, .int 0, .ref (a 82)]) rfl ?_
    refine g_las (i := 82) (n := 1) (j := 0) (v := r) hx hb hK ha hA O_AL (vp_lit (by decide)) hP hS dL_element_8 (fun H locs hP hS => ?_)
    refine lv_goto (tgt := 20) hx hb dL_element_9 (by decide) ?_
    refine lv_iconst (v := 0) hx hb dL_element_20 (by decide) ?_
    exact x_iret hx hb hr hlk hP hS z.symm dL_element_21
/-- toss: the class and the model -/
theorem S_toss {h : HS} (hS : ∀ k, k < 8 → ∃ ho so le el, ShP h k ho so le el) (v : Int32) : ∃ r, X11_toss h v = some r ∧ X12_toss h v = some r := by
  rcases arg_in v 8 with ⟨k, h1, h2, rfl⟩ | hv
  · obtain ⟨ho, so, le, el, S⟩ := hS k h1
    unfold X11_toss X12_toss
    rw [c_shelf_in h1, m_oneRef h1 S]
    show ∃ r, (X11_oneRefusal h (some (50 + 2 * k))).bind _ = _ ∧ _
    rw [c_oneRef S]
    simp only [Option.bind_some]
    by_cases hc : ho = 1
    · obtain ⟨ki, fi, g1, g2, g3, g4, g5, g6⟩ := S.2.1 hc
      rw [if_pos (by rw [hc]; rfl), if_pos (by rw [hc]; rfl), g3, g4, par2 (Or.inl rfl) ki g1, Option.bind_some, price_v (Or.inl rfl) ki g1, Option.bind_some]
      simp (disch := omega) only [gdi_n, i_cl, g5, g6]
      simp only [nm_go]
      match ki, g1 with
      | 0, _ =>
        refine ⟨_, rfl, ?_⟩
        rw [if_neg (by decide), if_neg (by decide), if_neg (by decide), if_neg (by decide)]
        by_cases z : nI fi = 0
        · rw [if_pos z]
          show _ = some (if nI fi = 0 then (-15 : Int32) else _)
          rw [if_pos z]
        · rw [if_neg z, if_neg (by decide), if_neg (by decide), if_neg (by decide)]
          show _ = some (if nI fi = 0 then (-15 : Int32) else nI fi)
          rw [if_neg z]
      | 1, _ =>
        refine ⟨-15, ?_, rfl⟩
        show some (if nI fi = 0 then (-15 : Int32) else -15) = _
        split <;> rfl
      | 2, _ =>
        refine ⟨_, rfl, ?_⟩
        rw [if_neg (by decide), if_neg (by decide), if_neg (by decide), if_neg (by decide)]
        by_cases z : nI fi = 0
        · rw [if_pos z]
          show _ = some (if nI fi = 0 then (-15 : Int32) else _)
          rw [if_pos z]
        · rw [if_neg z, if_neg (by decide), if_pos (by decide)]
          show _ = some (if nI fi = 0 then (-15 : Int32) else 100 + nI fi)
          rw [if_neg z]
      | 3, _ =>
        refine ⟨-15, ?_, rfl⟩
        show some (if nI fi = 0 then (-15 : Int32) else -15) = _
        split <;> rfl
      | 4, _ =>
        refine ⟨_, rfl, ?_⟩
        rw [if_neg (by decide), if_neg (by decide), if_neg (by decide), if_neg (by decide)]
        by_cases z : nI fi = 0
        · rw [if_pos z]
          show _ = some (if nI fi = 0 then (-15 : Int32) else _)
          rw [if_pos z]
        · rw [if_neg z, if_neg (by decide), if_neg (by decide), if_pos (by decide)]
          show _ = some (if nI fi = 0 then (-15 : Int32) else 100 + nI fi)
          rw [if_neg z]
      | 5, _ =>
        refine ⟨-15, ?_, rfl⟩
        show some (if nI fi = 0 then (-15 : Int32) else -15) = _
        split <;> rfl
      | 6, _ =>
        refine ⟨_, rfl, ?_⟩
        rw [if_neg (by decide), if_neg (by decide), if_neg (by decide), if_neg (by decide)]
        by_cases z : nI fi = 0
        · rw [if_pos z]
          show _ = some (if nI fi = 0 then (-15 : Int32) else _)
          rw [if_pos z]
        · rw [if_neg z, if_pos (by decide), costBy_v 6 (by omega)]
          show _ = some (if nI fi = 0 then (-15 : Int32) else 200 + nI (pr 6 fi))
          rw [if_neg z]; rfl
      | 7, _ =>
        refine ⟨-15, ?_, rfl⟩
        show some (if nI fi = 0 then (-15 : Int32) else -15) = _
        split <;> rfl
      | k + 8, hk => exact absurd hk (by omega)
    · have h3 := S.1.2.2
      have hne : ¬ rof ho = 0 := by
        rcases (show ho = 0 ∨ ho = 2 by omega) with q | q <;> rw [q] <;> decide
      exact ⟨rof ho, by rw [if_neg hne], by rw [if_neg hne]⟩
  · refine ⟨-1, ?_, ?_⟩
    · unfold X11_toss
      rw [c_shelf_out hv]; rfl
    · unfold X12_toss
      rw [m_one_out hv]; rfl
