def X4_copyFrom (h : HS) (v0 : Nat) (v1 : Nat) : Option HS :=
    nm (sF h v0 0 (fI h v1 0)) fun h1 =>
    gdc 0 0 9 9 9 <|
    nm (sA h1 (v0 + 1) (va_cpy (aI h1 (v1 + 1)) (aI h1 (v0 + 1)) (0 : Int32).toNatClampNeg (0 : Int32).toNatClampNeg (9 : Int32).toNatClampNeg)) fun h2 =>
    some h2
def rmX4_copyFrom : Room := { frames := 1, cells := 0, slots := 0, locals := 26 }
theorem kdX4_copyFrom : yX4_copyFrom.cls = RX4 ∧ yX4_copyFrom.cls ≠ "java/lang/invoke/MethodHandle" ∧ yX4_copyFrom.cls ≠ "java/lang/invoke/VarHandle" ∧ (parseMethodDescriptor yX4_copyFrom.desc).map (fun d => d.parameters.length) = some 1 := by decide +kernel
set_option maxHeartbeats 4000000 in
set_option maxRecDepth 100000 in
theorem m_X4_copyFrom (l : Launch) (D : va_G) (a : Nat → Nat) (C : Nat → ClassId) (ha : ginj a) (h : HS) (v0 : Nat) (v1 : Nat) (hv0 : isLin v0) (hv1 : isLin v1) (h' : HS) (hf : X4_copyFrom h v0 v1 = some h') : gM l yX4_copyFrom wsX4_copyFrom rmX4_copyFrom D a C [.ref (a v0), .ref (a v1)] h none h' := by
  refine g_start (av := [.ref (a v0), .ref (a v1)]) (cc := cX4_copyFrom) (maxL := 2) (rt := none) (by decide) rfl (Nat.le_of_ble_eq_true rfl) ?_
  intro p e s m below meth c hx hb hr hml hown hlk hts hP hK hN ls hl
  have hA : ∀ q, gA a q → gA a q := fun _ q => q
  have hS : va_S (gA a) s.heap s.heap [] := va_S.rf
  have hl : lv_has ls 2 [(0, .ref (a v0)), (1, .ref (a v1))] := hl
  unfold X4_copyFrom at hf
  refine lv_aload_n hx hb dX4_copyFrom_0 rfl (lv_at hl 0 rfl) ?_
  refine lv_aload_n hx hb dX4_copyFrom_1 rfl (lv_at hl 1 rfl) ?_
  refine g_get (Cn := RX4) (T := TX4) (N := 3) (v := .int (fI h v1 0)) (own := RX4) hx hb hown hts hK (lin_O hv1) rfl (fun _ hw => List.mem_cons_of_mem _ (List.mem_append_right _ hw)) 0 (by decide) (List.mem_of_getElem? (i := 1) rfl) rfl rfl hP dX4_copyFrom_2 ?_
  refine g_put (Cn := RX4) (T := TX4) (N := 3) (ty0 := tyX4) (own := RX4) hx hb hown hts hK ha hA (lin_O hv0) rfl (fun _ hw => List.mem_cons_of_mem _ (List.mem_append_right _ hw)) tyX4_ok nmX4 0 (by decide) (List.mem_of_getElem? (i := 1) rfl) rfl rfl rfl rfl rfl hP hS dX4_copyFrom_5 (fun H locs hP hS => ?_)
  obtain ⟨h1, eh1⟩ : ∃ x, x = (sF h v0 0 (fI h v1 0)) := ⟨_, rfl⟩
  rw [← eh1] at hP
  have hf := nm_s hf eh1
  refine lv_aload_n hx hb dX4_copyFrom_8 rfl (lv_at hl 1 rfl) ?_
  refine g_get (Cn := RX4) (T := TX4) (N := 3) (v := .ref (a (v1 + 1))) (own := RX4) hx hb hown hts hK (lin_O hv1) rfl (fun _ hw => List.mem_cons_of_mem _ (List.mem_append_right _ hw)) 1 (by decide) (List.mem_of_getElem? (i := 2) rfl) rfl rfl hP dX4_copyFrom_9 ?_
  refine lv_iconst (v := 0) hx hb dX4_copyFrom_12 (by decide) ?_
  refine lv_aload_n hx hb dX4_copyFrom_13 rfl (lv_at hl 0 rfl) ?_
  refine g_get (Cn := RX4) (T := TX4) (N := 3) (v := .ref (a (v0 + 1))) (own := RX4) hx hb hown hts hK (lin_O hv0) rfl (fun _ hw => List.mem_cons_of_mem _ (List.mem_append_right _ hw)) 1 (by decide) (List.mem_of_getElem? (i := 2) rfl) rfl rfl hP dX4_copyFrom_14 ?_
  refine lv_iconst (v := 0) hx hb dX4_copyFrom_17 (by decide) ?_
  refine lv_bipush (v := 9) hx hb dX4_copyFrom_18 (by decide) ?_
  obtain ⟨c3, hf⟩ := gdc_s hf
  refine g_copyI hx hb hml hl.1 hown (hts _ (List.mem_of_getElem? (i := 3) rfl)) (hts _ (List.mem_of_getElem? (i := 4) rfl)) (hts _ (List.mem_of_getElem? (i := 5) rfl)) (hts _ (List.mem_of_getElem? (i := 6) rfl)) hK ha hA (lin_kn hv1) (lin_kn hv0) hP hS (Nat.le_of_ble_eq_true rfl) (Nat.le_of_ble_eq_true rfl) (Nat.le_of_ble_eq_true rfl) c3 dX4_copyFrom_20 (fun H locs hP hS => ?_)
  obtain ⟨h2, eh2⟩ : ∃ x, x = (sA h1 (v0 + 1) (va_cpy (aI h1 (v1 + 1)) (aI h1 (v0 + 1)) (0 : Int32).toNatClampNeg (0 : Int32).toNatClampNeg (9 : Int32).toNatClampNeg)) := ⟨_, rfl⟩
  rw [← eh2] at hP
  have hf := nm_s hf eh2
  exact g_vret hx hb hr hlk hP hS (ret1 hf) dX4_copyFrom_23

def X4_around (h : HS) (v0 : Nat) (v1 : Int32) : Option Int32 :=
    (if v1 < 0 then
    some 0
    else
    (if 9 ≤ v1 then
    some 0
    else
    gdi v1 9 <|
    some (aI h (v0 + 1) v1.toNatClampNeg)))
def rmX4_around : Room := { frames := 0, cells := 0, slots := 0, locals := 0 }
theorem kdX4_around : yX4_around.cls = RX4 ∧ yX4_around.cls ≠ "java/lang/invoke/MethodHandle" ∧ yX4_around.cls ≠ "java/lang/invoke/VarHandle" ∧ (parseMethodDescriptor yX4_around.desc).map (fun d => d.parameters.length) = some 1 := by decide +kernel
set_option maxHeartbeats 4000000 in
set_option maxRecDepth 100000 in
theorem m_X4_around (l : Launch) (D : va_G) (a : Nat → Nat) (C : Nat → ClassId) (ha : ginj a) (h : HS) (v0 : Nat) (v1 : Int32) (hv0 : isLin v0) (r : Int32) (hf : X4_around h v0 v1 = some r) : gM l yX4_around wsX4_around rmX4_around D a C [.ref (a v0), .int v1] h (some (.int r)) h := by
  refine g_start (av := [.ref (a v0), .int v1]) (cc := cX4_around) (maxL := 2) (rt := (some .int)) (by decide) rfl (Nat.le_of_ble_eq_true rfl) ?_
  intro p e s m below meth c hx hb hr hml hown hlk hts hP hK hN ls hl
  have hA : ∀ q, gA a q → gA a q := fun _ q => q
  have hS : va_S (gA a) s.heap s.heap [] := va_S.rf
  have hl : lv_has ls 2 [(0, .ref (a v0)), (1, .int v1)] := hl
  unfold X4_around at hf
  refine lv_iload_n hx hb dX4_around_0 rfl (lv_at hl 1 rfl) ?_
  refine lv_if_lt (tgt := 22) hx hb dX4_around_1 (by decide) (fun c1 => ?_) (fun c1 => ?_)
  · have hf := if_t hf c1
    refine lv_iconst (v := 0) hx hb dX4_around_22 (by decide) ?_
    exact g_iret hx hb hr hlk hP hS (ret1 hf) dX4_around_23
  · have hf := if_f hf c1
    refine lv_iload_n hx hb dX4_around_4 rfl (lv_at hl 1 rfl) ?_
    refine lv_aload_n hx hb dX4_around_5 rfl (lv_at hl 0 rfl) ?_
    refine g_get (Cn := RX4) (T := TX4) (N := 3) (v := .ref (a (v0 + 1))) (own := RX4) hx hb hown hts hK (lin_O hv0) rfl (fun _ hw => List.mem_cons_of_mem _ (List.mem_append_right _ hw)) 1 (by decide) (List.mem_of_getElem? (i := 1) rfl) rfl rfl hP dX4_around_6 ?_
    refine g_alenI (v := 9) hx hb hK (lin_kn hv0) rfl hP dX4_around_9 ?_
    refine lv_icmp_ge (tgt := 22) hx hb dX4_around_10 (by decide) (fun c2 => ?_) (fun c2 => ?_)
    · have hf := if_t hf c2
      refine lv_iconst (v := 0) hx hb dX4_around_22 (by decide) ?_
      exact g_iret hx hb hr hlk hP hS (ret1 hf) dX4_around_23
    · have hf := if_f hf c2
      refine lv_aload_n hx hb dX4_around_13 rfl (lv_at hl 0 rfl) ?_
      refine g_get (Cn := RX4) (T := TX4) (N := 3) (v := .ref (a (v0 + 1))) (own := RX4) hx hb hown hts hK (lin_O hv0) rfl (fun _ hw => List.mem_cons_of_mem _ (List.mem_append_right _ hw)) 1 (by decide) (List.mem_of_getElem? (i := 1) rfl) rfl rfl hP dX4_around_14 ?_
      refine lv_iload_n hx hb dX4_around_17 rfl (lv_at hl 1 rfl) ?_
      obtain ⟨c3, hf⟩ := gdi_s hf
      refine g_ial hx hb hK (lin_kn hv0) c3 hP dX4_around_18 ?_
      refine lv_goto (tgt := 23) hx hb dX4_around_19 (by decide) ?_
      exact g_iret hx hb hr hlk hP hS (ret1 hf) dX4_around_23

def X4_number (h : HS) (v0 : Nat) (v1 : Int32) : Option Int32 :=
    (X4_around h v0 v1).bind fun q1 =>
    (J6_bitCount_0f7a4 q1).bind fun q2 =>
    some q2
def rmX4_number : Room := { frames := 1, cells := 0, slots := 0, locals := 21 }
theorem kdX4_number : yX4_number.cls = RX4 ∧ yX4_number.cls ≠ "java/lang/invoke/MethodHandle" ∧ yX4_number.cls ≠ "java/lang/invoke/VarHandle" ∧ (parseMethodDescriptor yX4_number.desc).map (fun d => d.parameters.length) = some 1 := by decide +kernel
set_option maxHeartbeats 4000000 in
set_option maxRecDepth 100000 in
theorem m_X4_number (l : Launch) (D : va_G) (a : Nat → Nat) (C : Nat → ClassId) (ha : ginj a) (h : HS) (v0 : Nat) (v1 : Int32) (hv0 : isLin v0) (r : Int32) (hf : X4_number h v0 v1 = some r) : gM l yX4_number wsX4_number rmX4_number D a C [.ref (a v0), .int v1] h (some (.int r)) h := by
  refine g_start (av := [.ref (a v0), .int v1]) (cc := cX4_number) (maxL := 2) (rt := (some .int)) (by decide) rfl (Nat.le_of_ble_eq_true rfl) ?_
  intro p e s m below meth c hx hb hr hml hown hlk hts hP hK hN ls hl
  have hA : ∀ q, gA a q → gA a q := fun _ q => q
  have hS : va_S (gA a) s.heap s.heap [] := va_S.rf
  have hl : lv_has ls 2 [(0, .ref (a v0)), (1, .int v1)] := hl
  unfold X4_number at hf
  refine lv_aload_n hx hb dX4_number_0 rfl (lv_at hl 0 rfl) ?_
  refine lv_iload_n hx hb dX4_number_1 rfl (lv_at hl 1 rfl) ?_
  obtain ⟨q1, hq1, hf⟩ := bind_s hf
  refine g_callV (As := [.int v1]) (rest := []) hx hb hml hown hts hK hN (m_X4_around l D a C ha h v0 v1 hv0 q1 hq1) (cwV 1 hts gX4_number_X4_around rfl rfl rfl kdX4_around ⟨Nat.le_of_ble_eq_true rfl, Nat.le_of_ble_eq_true rfl⟩) (lin_O hv0) rfl rfl hP hS hA rfl hl.1 rfl (Nat.le_of_ble_eq_true rfl) dX4_number_2 ⟨Nat.le_refl _, Nat.le_refl _⟩ (fun H locs hP hS => ?_)
  refine W.eq (g2 := F0 m 5 ls [.int q1]) rfl ?_
  obtain ⟨q2, hq2, hf⟩ := bind_s hf
  refine g_callS (As := [.int q1]) (rest := []) hx hb hml hown hts hK hN (m_J6_bitCount_0f7a4 l D a C ha h q1  q2 hq2) (va_cwS 1 hts gX4_number_J6_bitCount_0f7a4 rfl rfl rfl kdJ6_bitCount_0f7a4.2 ⟨Nat.le_of_ble_eq_true rfl, Nat.le_of_ble_eq_true rfl⟩) hP hS hA rfl hl.1 rfl (Nat.le_of_ble_eq_true rfl) dX4_number_5 ⟨Nat.le_refl _, Nat.le_refl _⟩ (fun H locs hP hS => ?_)
  refine W.eq (g2 := F0 m 8 ls [.int q2]) rfl ?_
  exact g_iret hx hb hr hlk hP hS (ret1 hf) dX4_number_8

def X4_between (h : HS) (v0 : Nat) (v1 : Int32) (v2 : Int32) : Option Int32 :=
    (X4_around h v0 v1).bind fun q1 =>
    (if ((q1 >>> (v2 &&& 31)) &&& 1) = 0 then
    some 0
    else
    some 1)
def rmX4_between : Room := { frames := 1, cells := 0, slots := 0, locals := 21 }
theorem kdX4_between : yX4_between.cls = RX4 ∧ yX4_between.cls ≠ "java/lang/invoke/MethodHandle" ∧ yX4_between.cls ≠ "java/lang/invoke/VarHandle" ∧ (parseMethodDescriptor yX4_between.desc).map (fun d => d.parameters.length) = some 2 := by decide +kernel
set_option maxHeartbeats 4000000 in
set_option maxRecDepth 100000 in
theorem m_X4_between (l : Launch) (D : va_G) (a : Nat → Nat) (C : Nat → ClassId) (ha : ginj a) (h : HS) (v0 : Nat) (v1 : Int32) (v2 : Int32) (hv0 : isLin v0) (r : Int32) (hf : X4_between h v0 v1 v2 = some r) : gM l yX4_between wsX4_between rmX4_between D a C [.ref (a v0), .int v1, .int v2] h (some (.int r)) h := by
  refine g_start (av := [.ref (a v0), .int v1, .int v2]) (cc := cX4_between) (maxL := 3) (rt := (some .boolean)) (by decide) rfl (Nat.le_of_ble_eq_true rfl) ?_
  intro p e s m below meth c hx hb hr hml hown hlk hts hP hK hN ls hl
  have hA : ∀ q, gA a q → gA a q := fun _ q => q
  have hS : va_S (gA a) s.heap s.heap [] := va_S.rf
  have hl : lv_has ls 3 [(0, .ref (a v0)), (1, .int v1), (2, .int v2)] := hl
  unfold X4_between at hf
  refine lv_aload_n hx hb dX4_between_0 rfl (lv_at hl 0 rfl) ?_
  refine lv_iload_n hx hb dX4_between_1 rfl (lv_at hl 1 rfl) ?_
  obtain ⟨q1, hq1, hf⟩ := bind_s hf
  refine g_callV (As := [.int v1]) (rest := []) hx hb hml hown hts hK hN (m_X4_around l D a C ha h v0 v1 hv0 q1 hq1) (cwV 1 hts gX4_between_X4_around rfl rfl rfl kdX4_around ⟨Nat.le_of_ble_eq_true rfl, Nat.le_of_ble_eq_true rfl⟩) (lin_O hv0) rfl rfl hP hS hA rfl hl.1 rfl (Nat.le_of_ble_eq_true rfl) dX4_between_2 ⟨Nat.le_refl _, Nat.le_refl _⟩ (fun H locs hP hS => ?_)
  refine W.eq (g2 := F0 m 5 ls [.int q1]) rfl ?_
  refine lv_iload_n hx hb dX4_between_5 rfl (lv_at hl 2 rfl) ?_
  refine lv_ishr hx hb dX4_between_6 ?_
  refine lv_iconst (v := 1) hx hb dX4_between_7 (by decide) ?_
  refine lv_iand hx hb dX4_between_8 ?_
  refine lv_if_eq (tgt := 16) hx hb dX4_between_9 (by decide) (fun c2 => ?_) (fun c2 => ?_)
  · have hf := if_t hf c2
    refine lv_iconst (v := 0) hx hb dX4_between_16 (by decide) ?_
    exact g_zret hx hb hr hlk (by decide) hP hS (ret1 hf) dX4_between_17
  · have hf := if_f hf c2
    refine lv_iconst (v := 1) hx hb dX4_between_12 (by decide) ?_
    refine lv_goto (tgt := 17) hx hb dX4_between_13 (by decide) ?_
    exact g_zret hx hb hr hlk (by decide) hP hS (ret1 hf) dX4_between_17

def X4_turn (h : HS) (v0 : Nat) (v1 : Int32) (v2 : Int32) : Option HS :=
    (if v1 < 0 then
    some h
    else
    (if 9 ≤ v1 then
    some h
    else
    (if v2 < 0 then
    some h
    else
    (if 9 ≤ v2 then
    some h
    else
    gdi v1 9 <|
    gdi v1 9 <|
    nm (sA h (v0 + 1) (upd (aI h (v0 + 1)) v1.toNatClampNeg ((aI h (v0 + 1) v1.toNatClampNeg) ^^^ ((1 : Int32) <<< (v2 &&& 31))))) fun h6 =>
    gdi v2 9 <|
    gdi v2 9 <|
    nm (sA h6 (v0 + 1) (upd (aI h6 (v0 + 1)) v2.toNatClampNeg ((aI h6 (v0 + 1) v2.toNatClampNeg) ^^^ ((1 : Int32) <<< (v1 &&& 31))))) fun h9 =>
    some h9))))
def rmX4_turn : Room := { frames := 0, cells := 0, slots := 0, locals := 0 }
theorem kdX4_turn : yX4_turn.cls = RX4 ∧ yX4_turn.cls ≠ "java/lang/invoke/MethodHandle" ∧ yX4_turn.cls ≠ "java/lang/invoke/VarHandle" ∧ (parseMethodDescriptor yX4_turn.desc).map (fun d => d.parameters.length) = some 2 := by decide +kernel
set_option maxHeartbeats 4000000 in
set_option maxRecDepth 100000 in
theorem m_X4_turn (l : Launch) (D : va_G) (a : Nat → Nat) (C : Nat → ClassId) (ha : ginj a) (h : HS) (v0 : Nat) (v1 : Int32) (v2 : Int32) (hv0 : isLin v0) (h' : HS) (hf : X4_turn h v0 v1 v2 = some h') : gM l yX4_turn wsX4_turn rmX4_turn D a C [.ref (a v0), .int v1, .int v2] h none h' := by
  refine g_start (av := [.ref (a v0), .int v1, .int v2]) (cc := cX4_turn) (maxL := 3) (rt := none) (by decide) rfl (Nat.le_of_ble_eq_true rfl) ?_
  intro p e s m below meth c hx hb hr hml hown hlk hts hP hK hN ls hl
  have hA : ∀ q, gA a q → gA a q := fun _ q => q
  have hS : va_S (gA a) s.heap s.heap [] := va_S.rf
  have hl : lv_has ls 3 [(0, .ref (a v0)), (1, .int v1), (2, .int v2)] := hl
  unfold X4_turn at hf
  refine lv_iload_n hx hb dX4_turn_0 rfl (lv_at hl 1 rfl) ?_
  refine lv_if_lt (tgt := 50) hx hb dX4_turn_1 (by decide) (fun c1 => ?_) (fun c1 => ?_)
  · have hf := if_t hf c1
    exact g_vret hx hb hr hlk hP hS (ret1 hf) dX4_turn_50
  · have hf := if_f hf c1
    refine lv_iload_n hx hb dX4_turn_4 rfl (lv_at hl 1 rfl) ?_
    refine lv_aload_n hx hb dX4_turn_5 rfl (lv_at hl 0 rfl) ?_
    refine g_get (Cn := RX4) (T := TX4) (N := 3) (v := .ref (a (v0 + 1))) (own := RX4) hx hb hown hts hK (lin_O hv0) rfl (fun _ hw => List.mem_cons_of_mem _ (List.mem_append_right _ hw)) 1 (by decide) (List.mem_of_getElem? (i := 1) rfl) rfl rfl hP dX4_turn_6 ?_
    refine g_alenI (v := 9) hx hb hK (lin_kn hv0) rfl hP dX4_turn_9 ?_
    refine lv_icmp_ge (tgt := 50) hx hb dX4_turn_10 (by decide) (fun c2 => ?_) (fun c2 => ?_)
    · have hf := if_t hf c2
      exact g_vret hx hb hr hlk hP hS (ret1 hf) dX4_turn_50
    · have hf := if_f hf c2
      refine lv_iload_n hx hb dX4_turn_13 rfl (lv_at hl 2 rfl) ?_
      refine lv_if_lt (tgt := 50) hx hb dX4_turn_14 (by decide) (fun c3 => ?_) (fun c3 => ?_)
      · have hf := if_t hf c3
        exact g_vret hx hb hr hlk hP hS (ret1 hf) dX4_turn_50
      · have hf := if_f hf c3
        refine lv_iload_n hx hb dX4_turn_17 rfl (lv_at hl 2 rfl) ?_
        refine lv_aload_n hx hb dX4_turn_18 rfl (lv_at hl 0 rfl) ?_
        refine g_get (Cn := RX4) (T := TX4) (N := 3) (v := .ref (a (v0 + 1))) (own := RX4) hx hb hown hts hK (lin_O hv0) rfl (fun _ hw => List.mem_cons_of_mem _ (List.mem_append_right _ hw)) 1 (by decide) (List.mem_of_getElem? (i := 1) rfl) rfl rfl hP dX4_turn_19 ?_
        refine g_alenI (v := 9) hx hb hK (lin_kn hv0) rfl hP dX4_turn_22 ?_
        refine lv_icmp_ge (tgt := 50) hx hb dX4_turn_23 (by decide) (fun c4 => ?_) (fun c4 => ?_)
        · have hf := if_t hf c4
          exact g_vret hx hb hr hlk hP hS (ret1 hf) dX4_turn_50
        · have hf := if_f hf c4
          refine lv_aload_n hx hb dX4_turn_26 rfl (lv_at hl 0 rfl) ?_
          refine g_get (Cn := RX4) (T := TX4) (N := 3) (v := .ref (a (v0 + 1))) (own := RX4) hx hb hown hts hK (lin_O hv0) rfl (fun _ hw => List.mem_cons_of_mem _ (List.mem_append_right _ hw)) 1 (by decide) (List.mem_of_getElem? (i := 1) rfl) rfl rfl hP dX4_turn_27 ?_
          refine lv_iload_n hx hb dX4_turn_30 rfl (lv_at hl 1 rfl) ?_
          refine lv_dup2_11 hx hb dX4_turn_31 rfl rfl ?_
          obtain ⟨c5, hf⟩ := gdi_s hf
          refine g_ial hx hb hK (lin_kn hv0) c5 hP dX4_turn_32 ?_
          refine lv_iconst (v := 1) hx hb dX4_turn_33 (by decide) ?_
          refine lv_iload_n hx hb dX4_turn_34 rfl (lv_at hl 2 rfl) ?_
          refine lv_ishl hx hb dX4_turn_35 ?_
          refine lv_ixor hx hb dX4_turn_36 ?_
          obtain ⟨c7, hf⟩ := gdi_s hf
          refine g_ias hx hb hK ha hA (lin_kn hv0) c7 hP hS dX4_turn_37 (fun H locs hP hS => ?_)
          obtain ⟨h6, eh6⟩ : ∃ x, x = (sA h (v0 + 1) (upd (aI h (v0 + 1)) v1.toNatClampNeg ((aI h (v0 + 1) v1.toNatClampNeg) ^^^ ((1 : Int32) <<< (v2 &&& 31))))) := ⟨_, rfl⟩
          rw [← eh6] at hP
          have hf := nm_s hf eh6
          refine lv_aload_n hx hb dX4_turn_38 rfl (lv_at hl 0 rfl) ?_
          refine g_get (Cn := RX4) (T := TX4) (N := 3) (v := .ref (a (v0 + 1))) (own := RX4) hx hb hown hts hK (lin_O hv0) rfl (fun _ hw => List.mem_cons_of_mem _ (List.mem_append_right _ hw)) 1 (by decide) (List.mem_of_getElem? (i := 1) rfl) rfl rfl hP dX4_turn_39 ?_
          refine lv_iload_n hx hb dX4_turn_42 rfl (lv_at hl 2 rfl) ?_
          refine lv_dup2_11 hx hb dX4_turn_43 rfl rfl ?_
          obtain ⟨c8, hf⟩ := gdi_s hf
          refine g_ial hx hb hK (lin_kn hv0) c8 hP dX4_turn_44 ?_
          refine lv_iconst (v := 1) hx hb dX4_turn_45 (by decide) ?_
          refine lv_iload_n hx hb dX4_turn_46 rfl (lv_at hl 1 rfl) ?_
          refine lv_ishl hx hb dX4_turn_47 ?_
          refine lv_ixor hx hb dX4_turn_48 ?_
          obtain ⟨c10, hf⟩ := gdi_s hf
          refine g_ias hx hb hK ha hA (lin_kn hv0) c10 hP hS dX4_turn_49 (fun H locs hP hS => ?_)
          obtain ⟨h9, eh9⟩ : ∃ x, x = (sA h6 (v0 + 1) (upd (aI h6 (v0 + 1)) v2.toNatClampNeg ((aI h6 (v0 + 1) v2.toNatClampNeg) ^^^ ((1 : Int32) <<< (v1 &&& 31))))) := ⟨_, rfl⟩
          rw [← eh9] at hP
          have hf := nm_s hf eh9
          exact g_vret hx hb hr hlk hP hS (ret1 hf) dX4_turn_50

def X4_numbers_B4 (h : HS) (v0 : Nat) : Nat → Int32 → Int32 → Option Int32
  | 0, _, _ => none
  | fu + 1, v1, v2 =>
    (if (fI h v0 0) ≤ v2 then
    some v1
    else
    (X4_number h v0 v2).bind fun q2 =>
    nm (v1 + q2) fun x3 =>
    nm (v2 + 1) fun x4 =>
    (X4_numbers_B4 h v0 fu) x3 x4)
def X4_numbers (h : HS) (v0 : Nat) : Option Int32 :=
    X4_numbers_B4 h v0 FU 0 0
def rmX4_numbers : Room := { frames := 2, cells := 0, slots := 0, locals := 42 }
theorem kdX4_numbers : yX4_numbers.cls = RX4 ∧ yX4_numbers.cls ≠ "java/lang/invoke/MethodHandle" ∧ yX4_numbers.cls ≠ "java/lang/invoke/VarHandle" ∧ (parseMethodDescriptor yX4_numbers.desc).map (fun d => d.parameters.length) = some 0 := by decide +kernel
set_option maxHeartbeats 4000000 in
set_option maxRecDepth 100000 in
theorem m_X4_numbers (l : Launch) (D : va_G) (a : Nat → Nat) (C : Nat → ClassId) (ha : ginj a) (h : HS) (v0 : Nat) (hv0 : isLin v0) (r : Int32) (hf : X4_numbers h v0 = some r) : gM l yX4_numbers wsX4_numbers rmX4_numbers D a C [.ref (a v0)] h (some (.int r)) h := by
  refine g_start (av := [.ref (a v0)]) (cc := cX4_numbers) (maxL := 3) (rt := (some .int)) (by decide) rfl (Nat.le_of_ble_eq_true rfl) ?_
  intro p e s m below meth c hx hb hr hml hown hlk hts hP hK hN ls hl
  have hA : ∀ q, gA a q → gA a q := fun _ q => q
  have hS : va_S (gA a) s.heap s.heap [] := va_S.rf
  have hl : lv_has ls 3 [(0, .ref (a v0))] := hl
  have J4 : ∀ (fu : Nat) (v1 : Int32) (v2 : Int32), X4_numbers_B4 h v0 fu v1 v2 = some r → gG p l e (headSpec wsX4_numbers rmX4_numbers).room s m ([.ref (a v0)] : List Value).toArray below meth c (MQ below (gQ (some (.int r)) D a C h) ([.ref (a v0)] : List Value).toArray s 0 0 (gA a)) D a C 3 h 4 [(0, .ref (a v0)), (1, .int v1), (2, .int v2)] [] := by
    intro fu
    induction fu with
    | zero => intro v1 v2 hf; exact absurd hf (by simp [X4_numbers_B4])
    | succ fu ih =>
      intro v1 v2 hf H locs ls hP hS hl
      rw [X4_numbers_B4] at hf
      refine lv_iload_n hx hb dX4_numbers_4 rfl (lv_at hl 2 rfl) ?_
      refine lv_aload_n hx hb dX4_numbers_5 rfl (lv_at hl 0 rfl) ?_
      refine g_get (Cn := RX4) (T := TX4) (N := 3) (v := .int (fI h v0 0)) (own := RX4) hx hb hown hts hK (lin_O hv0) rfl (fun _ hw => List.mem_cons_of_mem _ (List.mem_append_right _ hw)) 0 (by decide) (List.mem_of_getElem? (i := 1) rfl) rfl rfl hP dX4_numbers_6 ?_
      refine lv_icmp_ge (tgt := 26) hx hb dX4_numbers_9 (by decide) (fun c1 => ?_) (fun c1 => ?_)
      · have hf := if_t hf c1
        refine lv_iload_n hx hb dX4_numbers_26 rfl (lv_at hl 1 rfl) ?_
        exact g_iret hx hb hr hlk hP hS (ret1 hf) dX4_numbers_27
      · have hf := if_f hf c1
        refine lv_iload_n hx hb dX4_numbers_12 rfl (lv_at hl 1 rfl) ?_
        refine lv_aload_n hx hb dX4_numbers_13 rfl (lv_at hl 0 rfl) ?_
        refine lv_iload_n hx hb dX4_numbers_14 rfl (lv_at hl 2 rfl) ?_
        obtain ⟨q2, hq2, hf⟩ := bind_s hf
        refine g_callV (As := [.int v2]) (rest := [.int v1]) hx hb hml hown hts hK hN (m_X4_number l D a C ha h v0 v2 hv0 q2 hq2) (cwV 1 hts gX4_numbers_X4_number rfl rfl rfl kdX4_number ⟨Nat.le_of_ble_eq_true rfl, Nat.le_of_ble_eq_true rfl⟩) (lin_O hv0) rfl rfl hP hS hA rfl hl.1 rfl (Nat.le_of_ble_eq_true rfl) dX4_numbers_15 ⟨Nat.le_refl _, Nat.le_refl _⟩ (fun H locs hP hS => ?_)
        refine W.eq (g2 := F0 m 18 ls [.int q2, .int v1]) rfl ?_
        refine lv_iadd hx hb dX4_numbers_18 ?_
        refine lv_topi (fun x3 ex3 => ?_)
        have hf := nm_s hf ex3
        refine lv_istore_n (lv' := [(1, .int x3), (0, .ref (a v0)), (2, .int v2)]) hx hb dX4_numbers_19 rfl hl (by decide) rfl (fun ls hl => ?_)
        obtain ⟨x4, ex4⟩ : ∃ y : Int32, y = (v2 + 1) := ⟨_, rfl⟩
        have hf := nm_s hf ex4
        refine lv_iinc (v := x4) (lv' := [(2, .int x4), (1, .int x3), (0, .ref (a v0))]) hx hb dX4_numbers_20 hl (k := 2) rfl (by rw [ex4]; rfl) (by decide) rfl (fun ls hl => ?_)
        refine lv_goto (tgt := 4) hx hb dX4_numbers_23 (by decide) ?_
        exact ih x3 x4 hf H locs ls hP hS (lv_sub hl [2, 1, 0] rfl)
  unfold X4_numbers at hf
  suffices hh : ∀ (H : Heap) (locs : List Loc), va_P D vwCl (gw a C h) H → va_S (gA a) s.heap H locs → W p l e (headSpec wsX4_numbers rmX4_numbers).room s m ([.ref (a v0)] : List Value).toArray below meth c H locs 0 0 (MQ below (gQ (some (.int r)) D a C h) ([.ref (a v0)] : List Value).toArray s 0 0 (gA a)) (F0 m 0 ls []) from hh _ _ hP hS
  intro H locs hP hS
  refine lv_iconst (v := 0) hx hb dX4_numbers_0 (by decide) ?_
  refine lv_istore_n (lv' := [(1, .int 0), (0, .ref (a v0))]) hx hb dX4_numbers_1 rfl hl (by decide) rfl (fun ls hl => ?_)
  refine lv_iconst (v := 0) hx hb dX4_numbers_2 (by decide) ?_
  refine lv_istore_n (lv' := [(2, .int 0), (1, .int 0), (0, .ref (a v0))]) hx hb dX4_numbers_3 rfl hl (by decide) rfl (fun ls hl => ?_)
  exact J4 FU 0 0 hf H locs ls hP hS (lv_sub hl [2, 1, 0] rfl)

def X4_total (h : HS) (v0 : Nat) : Option Int32 :=
    (X4_numbers h v0).bind fun q1 =>
    some (q1 / 2)
def rmX4_total : Room := { frames := 3, cells := 0, slots := 0, locals := 64 }
theorem kdX4_total : yX4_total.cls = RX4 ∧ yX4_total.cls ≠ "java/lang/invoke/MethodHandle" ∧ yX4_total.cls ≠ "java/lang/invoke/VarHandle" ∧ (parseMethodDescriptor yX4_total.desc).map (fun d => d.parameters.length) = some 0 := by decide +kernel
set_option maxHeartbeats 4000000 in
set_option maxRecDepth 100000 in
theorem m_X4_total (l : Launch) (D : va_G) (a : Nat → Nat) (C : Nat → ClassId) (ha : ginj a) (h : HS) (v0 : Nat) (hv0 : isLin v0) (r : Int32) (hf : X4_total h v0 = some r) : gM l yX4_total wsX4_total rmX4_total D a C [.ref (a v0)] h (some (.int r)) h := by
  refine g_start (av := [.ref (a v0)]) (cc := cX4_total) (maxL := 1) (rt := (some .int)) (by decide) rfl (Nat.le_of_ble_eq_true rfl) ?_
  intro p e s m below meth c hx hb hr hml hown hlk hts hP hK hN ls hl
  have hA : ∀ q, gA a q → gA a q := fun _ q => q
  have hS : va_S (gA a) s.heap s.heap [] := va_S.rf
  have hl : lv_has ls 1 [(0, .ref (a v0))] := hl
  unfold X4_total at hf
  refine lv_aload_n hx hb dX4_total_0 rfl (lv_at hl 0 rfl) ?_
  obtain ⟨q1, hq1, hf⟩ := bind_s hf
  refine g_callV (As := []) (rest := []) hx hb hml hown hts hK hN (m_X4_numbers l D a C ha h v0 hv0 q1 hq1) (cwV 0 hts gX4_total_X4_numbers rfl rfl rfl kdX4_numbers ⟨Nat.le_of_ble_eq_true rfl, Nat.le_of_ble_eq_true rfl⟩) (lin_O hv0) rfl rfl hP hS hA rfl hl.1 rfl (Nat.le_of_ble_eq_true rfl) dX4_total_1 ⟨Nat.le_refl _, Nat.le_refl _⟩ (fun H locs hP hS => ?_)
  refine W.eq (g2 := F0 m 4 ls [.int q1]) rfl ?_
  refine lv_iconst (v := 2) hx hb dX4_total_4 (by decide) ?_
  refine lv_idiv hx hb dX4_total_5 (by decide) ?_
  exact g_iret hx hb hr hlk hP hS (ret1 hf) dX4_total_6

def X4_numbersOfEnds_B4 (h : HS) (v0 : Nat) : Nat → Int32 → Int32 → Option Int32
  | 0, _, _ => none
  | fu + 1, v1, v2 =>
    (if (fI h v0 0) ≤ v2 then
    some v1
    else
    (X4_number h v0 v2).bind fun q2 =>
    (X4_number h v0 v2).bind fun q3 =>
    nm (v1 + (q2 * q3)) fun x4 =>
    nm (v2 + 1) fun x5 =>
    (X4_numbersOfEnds_B4 h v0 fu) x4 x5)
def X4_numbersOfEnds (h : HS) (v0 : Nat) : Option Int32 :=
    X4_numbersOfEnds_B4 h v0 FU 0 0
def rmX4_numbersOfEnds : Room := { frames := 2, cells := 0, slots := 0, locals := 42 }
theorem kdX4_numbersOfEnds : yX4_numbersOfEnds.cls = RX4 ∧ yX4_numbersOfEnds.cls ≠ "java/lang/invoke/MethodHandle" ∧ yX4_numbersOfEnds.cls ≠ "java/lang/invoke/VarHandle" ∧ (parseMethodDescriptor yX4_numbersOfEnds.desc).map (fun d => d.parameters.length) = some 0 := by decide +kernel
set_option maxHeartbeats 4000000 in
set_option maxRecDepth 100000 in
theorem m_X4_numbersOfEnds (l : Launch) (D : va_G) (a : Nat → Nat) (C : Nat → ClassId) (ha : ginj a) (h : HS) (v0 : Nat) (hv0 : isLin v0) (r : Int32) (hf : X4_numbersOfEnds h v0 = some r) : gM l yX4_numbersOfEnds wsX4_numbersOfEnds rmX4_numbersOfEnds D a C [.ref (a v0)] h (some (.int r)) h := by
  refine g_start (av := [.ref (a v0)]) (cc := cX4_numbersOfEnds) (maxL := 3) (rt := (some .int)) (by decide) rfl (Nat.le_of_ble_eq_true rfl) ?_
  intro p e s m below meth c hx hb hr hml hown hlk hts hP hK hN ls hl
  have hA : ∀ q, gA a q → gA a q := fun _ q => q
  have hS : va_S (gA a) s.heap s.heap [] := va_S.rf
  have hl : lv_has ls 3 [(0, .ref (a v0))] := hl
  have J4 : ∀ (fu : Nat) (v1 : Int32) (v2 : Int32), X4_numbersOfEnds_B4 h v0 fu v1 v2 = some r → gG p l e (headSpec wsX4_numbersOfEnds rmX4_numbersOfEnds).room s m ([.ref (a v0)] : List Value).toArray below meth c (MQ below (gQ (some (.int r)) D a C h) ([.ref (a v0)] : List Value).toArray s 0 0 (gA a)) D a C 3 h 4 [(0, .ref (a v0)), (1, .int v1), (2, .int v2)] [] := by
    intro fu
    induction fu with
    | zero => intro v1 v2 hf; exact absurd hf (by simp [X4_numbersOfEnds_B4])
    | succ fu ih =>
      intro v1 v2 hf H locs ls hP hS hl
      rw [X4_numbersOfEnds_B4] at hf
      refine lv_iload_n hx hb dX4_numbersOfEnds_4 rfl (lv_at hl 2 rfl) ?_
      refine lv_aload_n hx hb dX4_numbersOfEnds_5 rfl (lv_at hl 0 rfl) ?_
      refine g_get (Cn := RX4) (T := TX4) (N := 3) (v := .int (fI h v0 0)) (own := RX4) hx hb hown hts hK (lin_O hv0) rfl (fun _ hw => List.mem_cons_of_mem _ (List.mem_append_right _ hw)) 0 (by decide) (List.mem_of_getElem? (i := 1) rfl) rfl rfl hP dX4_numbersOfEnds_6 ?_
      refine lv_icmp_ge (tgt := 32) hx hb dX4_numbersOfEnds_9 (by decide) (fun c1 => ?_) (fun c1 => ?_)
      · have hf := if_t hf c1
        refine lv_iload_n hx hb dX4_numbersOfEnds_32 rfl (lv_at hl 1 rfl) ?_
        exact g_iret hx hb hr hlk hP hS (ret1 hf) dX4_numbersOfEnds_33
      · have hf := if_f hf c1
        refine lv_iload_n hx hb dX4_numbersOfEnds_12 rfl (lv_at hl 1 rfl) ?_
        refine lv_aload_n hx hb dX4_numbersOfEnds_13 rfl (lv_at hl 0 rfl) ?_
        refine lv_iload_n hx hb dX4_numbersOfEnds_14 rfl (lv_at hl 2 rfl) ?_
        obtain ⟨q2, hq2, hf⟩ := bind_s hf
        refine g_callV (As := [.int v2]) (rest := [.int v1]) hx hb hml hown hts hK hN (m_X4_number l D a C ha h v0 v2 hv0 q2 hq2) (cwV 1 hts gX4_numbersOfEnds_X4_number rfl rfl rfl kdX4_number ⟨Nat.le_of_ble_eq_true rfl, Nat.le_of_ble_eq_true rfl⟩) (lin_O hv0) rfl rfl hP hS hA rfl hl.1 rfl (Nat.le_of_ble_eq_true rfl) dX4_numbersOfEnds_15 ⟨Nat.le_refl _, Nat.le_refl _⟩ (fun H locs hP hS => ?_)
        refine W.eq (g2 := F0 m 18 ls [.int q2, .int v1]) rfl ?_
        refine lv_aload_n hx hb dX4_numbersOfEnds_18 rfl (lv_at hl 0 rfl) ?_
        refine lv_iload_n hx hb dX4_numbersOfEnds_19 rfl (lv_at hl 2 rfl) ?_
        obtain ⟨q3, hq3, hf⟩ := bind_s hf
        refine g_callV (As := [.int v2]) (rest := [.int q2, .int v1]) hx hb hml hown hts hK hN (m_X4_number l D a C ha h v0 v2 hv0 q3 hq3) (cwV 1 hts gX4_numbersOfEnds_X4_number rfl rfl rfl kdX4_number ⟨Nat.le_of_ble_eq_true rfl, Nat.le_of_ble_eq_true rfl⟩) (lin_O hv0) rfl rfl hP hS hA rfl hl.1 rfl (Nat.le_of_ble_eq_true rfl) dX4_numbersOfEnds_20 ⟨Nat.le_refl _, Nat.le_refl _⟩ (fun H locs hP hS => ?_)
        refine W.eq (g2 := F0 m 23 ls [.int q3, .int q2, .int v1]) rfl ?_
        refine lv_imul hx hb dX4_numbersOfEnds_23 ?_
        refine lv_iadd hx hb dX4_numbersOfEnds_24 ?_
        refine lv_topi (fun x4 ex4 => ?_)
        have hf := nm_s hf ex4
        refine lv_istore_n (lv' := [(1, .int x4), (0, .ref (a v0)), (2, .int v2)]) hx hb dX4_numbersOfEnds_25 rfl hl (by decide) rfl (fun ls hl => ?_)
        obtain ⟨x5, ex5⟩ : ∃ y : Int32, y = (v2 + 1) := ⟨_, rfl⟩
        have hf := nm_s hf ex5
        refine lv_iinc (v := x5) (lv' := [(2, .int x5), (1, .int x4), (0, .ref (a v0))]) hx hb dX4_numbersOfEnds_26 hl (k := 2) rfl (by rw [ex5]; rfl) (by decide) rfl (fun ls hl => ?_)
        refine lv_goto (tgt := 4) hx hb dX4_numbersOfEnds_29 (by decide) ?_
        exact ih x4 x5 hf H locs ls hP hS (lv_sub hl [2, 1, 0] rfl)
  unfold X4_numbersOfEnds at hf
  suffices hh : ∀ (H : Heap) (locs : List Loc), va_P D vwCl (gw a C h) H → va_S (gA a) s.heap H locs → W p l e (headSpec wsX4_numbersOfEnds rmX4_numbersOfEnds).room s m ([.ref (a v0)] : List Value).toArray below meth c H locs 0 0 (MQ below (gQ (some (.int r)) D a C h) ([.ref (a v0)] : List Value).toArray s 0 0 (gA a)) (F0 m 0 ls []) from hh _ _ hP hS
  intro H locs hP hS
  refine lv_iconst (v := 0) hx hb dX4_numbersOfEnds_0 (by decide) ?_
  refine lv_istore_n (lv' := [(1, .int 0), (0, .ref (a v0))]) hx hb dX4_numbersOfEnds_1 rfl hl (by decide) rfl (fun ls hl => ?_)
  refine lv_iconst (v := 0) hx hb dX4_numbersOfEnds_2 (by decide) ?_
  refine lv_istore_n (lv' := [(2, .int 0), (1, .int 0), (0, .ref (a v0))]) hx hb dX4_numbersOfEnds_3 rfl hl (by decide) rfl (fun ls hl => ?_)
  exact J4 FU 0 0 hf H locs ls hP hS (lv_sub hl [2, 1, 0] rfl)

def X4_numbersAround_B29 (h : HS) (v0 : Nat) (v1 : Int32) (k4 : Int32 → Int32 → Option Int32) (v2 : Int32) (v3 : Int32) : Option Int32 :=
    nm (v3 + 1) fun x6 =>
    k4 v2 x6
def X4_numbersAround_B4 (h : HS) (v0 : Nat) (v1 : Int32) : Nat → Int32 → Int32 → Option Int32
  | 0, _, _ => none
  | fu + 1, v2, v3 =>
    (if (fI h v0 0) ≤ v3 then
    some v2
    else
    (X4_between h v0 v1 v3).bind fun q2 =>
    (if q2 = 0 then
    X4_numbersAround_B29 h v0 v1 (X4_numbersAround_B4 h v0 v1 fu) v2 v3
    else
    (X4_number h v0 v3).bind fun q4 =>
    nm (v2 + q4) fun x5 =>
    X4_numbersAround_B29 h v0 v1 (X4_numbersAround_B4 h v0 v1 fu) x5 v3))
def X4_numbersAround (h : HS) (v0 : Nat) (v1 : Int32) : Option Int32 :=
    X4_numbersAround_B4 h v0 v1 FU 0 0
def rmX4_numbersAround : Room := { frames := 2, cells := 0, slots := 0, locals := 43 }
theorem kdX4_numbersAround : yX4_numbersAround.cls = RX4 ∧ yX4_numbersAround.cls ≠ "java/lang/invoke/MethodHandle" ∧ yX4_numbersAround.cls ≠ "java/lang/invoke/VarHandle" ∧ (parseMethodDescriptor yX4_numbersAround.desc).map (fun d => d.parameters.length) = some 1 := by decide +kernel
set_option maxHeartbeats 4000000 in
set_option maxRecDepth 100000 in
theorem m_X4_numbersAround (l : Launch) (D : va_G) (a : Nat → Nat) (C : Nat → ClassId) (ha : ginj a) (h : HS) (v0 : Nat) (v1 : Int32) (hv0 : isLin v0) (r : Int32) (hf : X4_numbersAround h v0 v1 = some r) : gM l yX4_numbersAround wsX4_numbersAround rmX4_numbersAround D a C [.ref (a v0), .int v1] h (some (.int r)) h := by
  refine g_start (av := [.ref (a v0), .int v1]) (cc := cX4_numbersAround) (maxL := 4) (rt := (some .int)) (by decide) rfl (Nat.le_of_ble_eq_true rfl) ?_
  intro p e s m below meth c hx hb hr hml hown hlk hts hP hK hN ls hl
  have hA : ∀ q, gA a q → gA a q := fun _ q => q
  have hS : va_S (gA a) s.heap s.heap [] := va_S.rf
  have hl : lv_has ls 4 [(0, .ref (a v0)), (1, .int v1)] := hl
  have J29 : ∀ (k4 : Int32 → Int32 → Option Int32) (hk4 : ∀ (v2 : Int32) (v3 : Int32), k4 v2 v3 = some r → gG p l e (headSpec wsX4_numbersAround rmX4_numbersAround).room s m ([.ref (a v0), .int v1] : List Value).toArray below meth c (MQ below (gQ (some (.int r)) D a C h) ([.ref (a v0), .int v1] : List Value).toArray s 0 0 (gA a)) D a C 4 h 4 [(0, .ref (a v0)), (1, .int v1), (2, .int v2), (3, .int v3)] []) (v2 : Int32) (v3 : Int32) (_ : X4_numbersAround_B29 h v0 v1 k4 v2 v3 = some r), gG p l e (headSpec wsX4_numbersAround rmX4_numbersAround).room s m ([.ref (a v0), .int v1] : List Value).toArray below meth c (MQ below (gQ (some (.int r)) D a C h) ([.ref (a v0), .int v1] : List Value).toArray s 0 0 (gA a)) D a C 4 h 29 [(0, .ref (a v0)), (1, .int v1), (2, .int v2), (3, .int v3)] [] := by
    intro k4 hk4 v2 v3 hf H locs ls hP hS hl
    unfold X4_numbersAround_B29 at hf
    obtain ⟨x6, ex6⟩ : ∃ y : Int32, y = (v3 + 1) := ⟨_, rfl⟩
    have hf := nm_s hf ex6
    refine lv_iinc (v := x6) (lv' := [(3, .int x6), (0, .ref (a v0)), (1, .int v1), (2, .int v2)]) hx hb dX4_numbersAround_29 hl (k := 3) rfl (by rw [ex6]; rfl) (by decide) rfl (fun ls hl => ?_)
    refine lv_goto (tgt := 4) hx hb dX4_numbersAround_32 (by decide) ?_
    exact hk4 v2 x6 hf H locs ls hP hS (lv_sub hl [1, 2, 3, 0] rfl)
  have J4 : ∀ (fu : Nat) (v2 : Int32) (v3 : Int32), X4_numbersAround_B4 h v0 v1 fu v2 v3 = some r → gG p l e (headSpec wsX4_numbersAround rmX4_numbersAround).room s m ([.ref (a v0), .int v1] : List Value).toArray below meth c (MQ below (gQ (some (.int r)) D a C h) ([.ref (a v0), .int v1] : List Value).toArray s 0 0 (gA a)) D a C 4 h 4 [(0, .ref (a v0)), (1, .int v1), (2, .int v2), (3, .int v3)] [] := by
    intro fu
    induction fu with
    | zero => intro v2 v3 hf; exact absurd hf (by simp [X4_numbersAround_B4])
    | succ fu ih =>
      intro v2 v3 hf H locs ls hP hS hl
      rw [X4_numbersAround_B4] at hf
      refine lv_iload_n hx hb dX4_numbersAround_4 rfl (lv_at hl 3 rfl) ?_
      refine lv_aload_n hx hb dX4_numbersAround_5 rfl (lv_at hl 0 rfl) ?_
      refine g_get (Cn := RX4) (T := TX4) (N := 3) (v := .int (fI h v0 0)) (own := RX4) hx hb hown hts hK (lin_O hv0) rfl (fun _ hw => List.mem_cons_of_mem _ (List.mem_append_right _ hw)) 0 (by decide) (List.mem_of_getElem? (i := 1) rfl) rfl rfl hP dX4_numbersAround_6 ?_
      refine lv_icmp_ge (tgt := 35) hx hb dX4_numbersAround_9 (by decide) (fun c1 => ?_) (fun c1 => ?_)
      · have hf := if_t hf c1
        refine lv_iload_n hx hb dX4_numbersAround_35 rfl (lv_at hl 2 rfl) ?_
        exact g_iret hx hb hr hlk hP hS (ret1 hf) dX4_numbersAround_36
      · have hf := if_f hf c1
        refine lv_aload_n hx hb dX4_numbersAround_12 rfl (lv_at hl 0 rfl) ?_
        refine lv_iload_n hx hb dX4_numbersAround_13 rfl (lv_at hl 1 rfl) ?_
        refine lv_iload_n hx hb dX4_numbersAround_14 rfl (lv_at hl 3 rfl) ?_
        obtain ⟨q2, hq2, hf⟩ := bind_s hf
        refine g_callV (As := [.int v1, .int v3]) (rest := []) hx hb hml hown hts hK hN (m_X4_between l D a C ha h v0 v1 v3 hv0 q2 hq2) (cwV 2 hts gX4_numbersAround_X4_between rfl rfl rfl kdX4_between ⟨Nat.le_of_ble_eq_true rfl, Nat.le_of_ble_eq_true rfl⟩) (lin_O hv0) rfl rfl hP hS hA rfl hl.1 rfl (Nat.le_of_ble_eq_true rfl) dX4_numbersAround_15 ⟨Nat.le_refl _, Nat.le_refl _⟩ (fun H locs hP hS => ?_)
        refine W.eq (g2 := F0 m 18 ls [.int q2]) rfl ?_
        refine lv_if_eq (tgt := 29) hx hb dX4_numbersAround_18 (by decide) (fun c3 => ?_) (fun c3 => ?_)
        · have hf := if_t hf c3
          exact J29 (X4_numbersAround_B4 h v0 v1 fu) ih v2 v3 hf H locs ls hP hS (lv_sub hl [0, 1, 2, 3] rfl)
        · have hf := if_f hf c3
          refine lv_iload_n hx hb dX4_numbersAround_21 rfl (lv_at hl 2 rfl) ?_
          refine lv_aload_n hx hb dX4_numbersAround_22 rfl (lv_at hl 0 rfl) ?_
          refine lv_iload_n hx hb dX4_numbersAround_23 rfl (lv_at hl 3 rfl) ?_
          obtain ⟨q4, hq4, hf⟩ := bind_s hf
          refine g_callV (As := [.int v3]) (rest := [.int v2]) hx hb hml hown hts hK hN (m_X4_number l D a C ha h v0 v3 hv0 q4 hq4) (cwV 1 hts gX4_numbersAround_X4_number rfl rfl rfl kdX4_number ⟨Nat.le_of_ble_eq_true rfl, Nat.le_of_ble_eq_true rfl⟩) (lin_O hv0) rfl rfl hP hS hA rfl hl.1 rfl (Nat.le_of_ble_eq_true rfl) dX4_numbersAround_24 ⟨Nat.le_refl _, Nat.le_refl _⟩ (fun H locs hP hS => ?_)
          refine W.eq (g2 := F0 m 27 ls [.int q4, .int v2]) rfl ?_
          refine lv_iadd hx hb dX4_numbersAround_27 ?_
          refine lv_topi (fun x5 ex5 => ?_)
          have hf := nm_s hf ex5
          refine lv_istore_n (lv' := [(2, .int x5), (0, .ref (a v0)), (1, .int v1), (3, .int v3)]) hx hb dX4_numbersAround_28 rfl hl (by decide) rfl (fun ls hl => ?_)
          exact J29 (X4_numbersAround_B4 h v0 v1 fu) ih x5 v3 hf H locs ls hP hS (lv_sub hl [1, 2, 0, 3] rfl)
  unfold X4_numbersAround at hf
  suffices hh : ∀ (H : Heap) (locs : List Loc), va_P D vwCl (gw a C h) H → va_S (gA a) s.heap H locs → W p l e (headSpec wsX4_numbersAround rmX4_numbersAround).room s m ([.ref (a v0), .int v1] : List Value).toArray below meth c H locs 0 0 (MQ below (gQ (some (.int r)) D a C h) ([.ref (a v0), .int v1] : List Value).toArray s 0 0 (gA a)) (F0 m 0 ls []) from hh _ _ hP hS
  intro H locs hP hS
  refine lv_iconst (v := 0) hx hb dX4_numbersAround_0 (by decide) ?_
  refine lv_istore_n (lv' := [(2, .int 0), (0, .ref (a v0)), (1, .int v1)]) hx hb dX4_numbersAround_1 rfl hl (by decide) rfl (fun ls hl => ?_)
  refine lv_iconst (v := 0) hx hb dX4_numbersAround_2 (by decide) ?_
  refine lv_istore_n (lv' := [(3, .int 0), (2, .int 0), (0, .ref (a v0)), (1, .int v1)]) hx hb dX4_numbersAround_3 rfl hl (by decide) rfl (fun ls hl => ?_)
  exact J4 FU 0 0 hf H locs ls hP hS (lv_sub hl [2, 3, 1, 0] rfl)

def X4_sociable_B23 (h : HS) (v0 : Nat) (k4 : Int32 → Int32 → Option Int32) (v1 : Int32) (v2 : Int32) : Option Int32 :=
    nm (v2 + 1) fun x5 =>
    k4 v1 x5
def X4_sociable_B4 (h : HS) (v0 : Nat) : Nat → Int32 → Int32 → Option Int32
  | 0, _, _ => none
  | fu + 1, v1, v2 =>
    (if (fI h v0 0) ≤ v2 then
    some v1
    else
    (X4_number h v0 v2).bind fun q2 =>
    (if q2 ≤ 0 then
    X4_sociable_B23 h v0 (X4_sociable_B4 h v0 fu) v1 v2
    else
    nm (v1 + 1) fun x4 =>
    X4_sociable_B23 h v0 (X4_sociable_B4 h v0 fu) x4 v2))
def X4_sociable (h : HS) (v0 : Nat) : Option Int32 :=
    X4_sociable_B4 h v0 FU 0 0
def rmX4_sociable : Room := { frames := 2, cells := 0, slots := 0, locals := 42 }
theorem kdX4_sociable : yX4_sociable.cls = RX4 ∧ yX4_sociable.cls ≠ "java/lang/invoke/MethodHandle" ∧ yX4_sociable.cls ≠ "java/lang/invoke/VarHandle" ∧ (parseMethodDescriptor yX4_sociable.desc).map (fun d => d.parameters.length) = some 0 := by decide +kernel
set_option maxHeartbeats 4000000 in
set_option maxRecDepth 100000 in
theorem m_X4_sociable (l : Launch) (D : va_G) (a : Nat → Nat) (C : Nat → ClassId) (ha : ginj a) (h : HS) (v0 : Nat) (hv0 : isLin v0) (r : Int32) (hf : X4_sociable h v0 = some r) : gM l yX4_sociable wsX4_sociable rmX4_sociable D a C [.ref (a v0)] h (some (.int r)) h := by
  refine g_start (av := [.ref (a v0)]) (cc := cX4_sociable) (maxL := 3) (rt := (some .int)) (by decide) rfl (Nat.le_of_ble_eq_true rfl) ?_
  intro p e s m below meth c hx hb hr hml hown hlk hts hP hK hN ls hl
  have hA : ∀ q, gA a q → gA a q := fun _ q => q
  have hS : va_S (gA a) s.heap s.heap [] := va_S.rf
  have hl : lv_has ls 3 [(0, .ref (a v0))] := hl
  have J23 : ∀ (k4 : Int32 → Int32 → Option Int32) (hk4 : ∀ (v1 : Int32) (v2 : Int32), k4 v1 v2 = some r → gG p l e (headSpec wsX4_sociable rmX4_sociable).room s m ([.ref (a v0)] : List Value).toArray below meth c (MQ below (gQ (some (.int r)) D a C h) ([.ref (a v0)] : List Value).toArray s 0 0 (gA a)) D a C 3 h 4 [(0, .ref (a v0)), (1, .int v1), (2, .int v2)] []) (v1 : Int32) (v2 : Int32) (_ : X4_sociable_B23 h v0 k4 v1 v2 = some r), gG p l e (headSpec wsX4_sociable rmX4_sociable).room s m ([.ref (a v0)] : List Value).toArray below meth c (MQ below (gQ (some (.int r)) D a C h) ([.ref (a v0)] : List Value).toArray s 0 0 (gA a)) D a C 3 h 23 [(0, .ref (a v0)), (1, .int v1), (2, .int v2)] [] := by
    intro k4 hk4 v1 v2 hf H locs ls hP hS hl
    unfold X4_sociable_B23 at hf
    obtain ⟨x5, ex5⟩ : ∃ y : Int32, y = (v2 + 1) := ⟨_, rfl⟩
    have hf := nm_s hf ex5
    refine lv_iinc (v := x5) (lv' := [(2, .int x5), (0, .ref (a v0)), (1, .int v1)]) hx hb dX4_sociable_23 hl (k := 2) rfl (by rw [ex5]; rfl) (by decide) rfl (fun ls hl => ?_)
    refine lv_goto (tgt := 4) hx hb dX4_sociable_26 (by decide) ?_
    exact hk4 v1 x5 hf H locs ls hP hS (lv_sub hl [1, 2, 0] rfl)
  have J4 : ∀ (fu : Nat) (v1 : Int32) (v2 : Int32), X4_sociable_B4 h v0 fu v1 v2 = some r → gG p l e (headSpec wsX4_sociable rmX4_sociable).room s m ([.ref (a v0)] : List Value).toArray below meth c (MQ below (gQ (some (.int r)) D a C h) ([.ref (a v0)] : List Value).toArray s 0 0 (gA a)) D a C 3 h 4 [(0, .ref (a v0)), (1, .int v1), (2, .int v2)] [] := by
    intro fu
    induction fu with
    | zero => intro v1 v2 hf; exact absurd hf (by simp [X4_sociable_B4])
    | succ fu ih =>
      intro v1 v2 hf H locs ls hP hS hl
      rw [X4_sociable_B4] at hf
      refine lv_iload_n hx hb dX4_sociable_4 rfl (lv_at hl 2 rfl) ?_
      refine lv_aload_n hx hb dX4_sociable_5 rfl (lv_at hl 0 rfl) ?_
      refine g_get (Cn := RX4) (T := TX4) (N := 3) (v := .int (fI h v0 0)) (own := RX4) hx hb hown hts hK (lin_O hv0) rfl (fun _ hw => List.mem_cons_of_mem _ (List.mem_append_right _ hw)) 0 (by decide) (List.mem_of_getElem? (i := 1) rfl) rfl rfl hP dX4_sociable_6 ?_
      refine lv_icmp_ge (tgt := 29) hx hb dX4_sociable_9 (by decide) (fun c1 => ?_) (fun c1 => ?_)
      · have hf := if_t hf c1
        refine lv_iload_n hx hb dX4_sociable_29 rfl (lv_at hl 1 rfl) ?_
        exact g_iret hx hb hr hlk hP hS (ret1 hf) dX4_sociable_30
      · have hf := if_f hf c1
        refine lv_aload_n hx hb dX4_sociable_12 rfl (lv_at hl 0 rfl) ?_
        refine lv_iload_n hx hb dX4_sociable_13 rfl (lv_at hl 2 rfl) ?_
        obtain ⟨q2, hq2, hf⟩ := bind_s hf
        refine g_callV (As := [.int v2]) (rest := []) hx hb hml hown hts hK hN (m_X4_number l D a C ha h v0 v2 hv0 q2 hq2) (cwV 1 hts gX4_sociable_X4_number rfl rfl rfl kdX4_number ⟨Nat.le_of_ble_eq_true rfl, Nat.le_of_ble_eq_true rfl⟩) (lin_O hv0) rfl rfl hP hS hA rfl hl.1 rfl (Nat.le_of_ble_eq_true rfl) dX4_sociable_14 ⟨Nat.le_refl _, Nat.le_refl _⟩ (fun H locs hP hS => ?_)
        refine W.eq (g2 := F0 m 17 ls [.int q2]) rfl ?_
        refine lv_if_le (tgt := 23) hx hb dX4_sociable_17 (by decide) (fun c3 => ?_) (fun c3 => ?_)
        · have hf := if_t hf c3
          exact J23 (X4_sociable_B4 h v0 fu) ih v1 v2 hf H locs ls hP hS (lv_sub hl [0, 1, 2] rfl)
        · have hf := if_f hf c3
          obtain ⟨x4, ex4⟩ : ∃ y : Int32, y = (v1 + 1) := ⟨_, rfl⟩
          have hf := nm_s hf ex4
          refine lv_iinc (v := x4) (lv' := [(1, .int x4), (0, .ref (a v0)), (2, .int v2)]) hx hb dX4_sociable_20 hl (k := 1) rfl (by rw [ex4]; rfl) (by decide) rfl (fun ls hl => ?_)
          exact J23 (X4_sociable_B4 h v0 fu) ih x4 v2 hf H locs ls hP hS (lv_sub hl [1, 0, 2] rfl)
  unfold X4_sociable at hf
  suffices hh : ∀ (H : Heap) (locs : List Loc), va_P D vwCl (gw a C h) H → va_S (gA a) s.heap H locs → W p l e (headSpec wsX4_sociable rmX4_sociable).room s m ([.ref (a v0)] : List Value).toArray below meth c H locs 0 0 (MQ below (gQ (some (.int r)) D a C h) ([.ref (a v0)] : List Value).toArray s 0 0 (gA a)) (F0 m 0 ls []) from hh _ _ hP hS
  intro H locs hP hS
  refine lv_iconst (v := 0) hx hb dX4_sociable_0 (by decide) ?_
  refine lv_istore_n (lv' := [(1, .int 0), (0, .ref (a v0))]) hx hb dX4_sociable_1 rfl hl (by decide) rfl (fun ls hl => ?_)
  refine lv_iconst (v := 0) hx hb dX4_sociable_2 (by decide) ?_
  refine lv_istore_n (lv' := [(2, .int 0), (1, .int 0), (0, .ref (a v0))]) hx hb dX4_sociable_3 rfl hl (by decide) rfl (fun ls hl => ?_)
  exact J4 FU 0 0 hf H locs ls hP hS (lv_sub hl [2, 1, 0] rfl)

def X4_feelers_B37 (h : HS) (v0 : Nat) (k4 : Int32 → Int32 → Option Int32) (v1 : Int32) (v2 : Int32) : Option Int32 :=
    nm (v2 + 1) fun x7 =>
    k4 v1 x7
def X4_feelers_B4 (h : HS) (v0 : Nat) : Nat → Int32 → Int32 → Option Int32
  | 0, _, _ => none
  | fu + 1, v1, v2 =>
    (if (fI h v0 0) ≤ v2 then
    some v1
    else
    (X4_number h v0 v2).bind fun q2 =>
    (X4_number h v0 v2).bind fun q3 =>
    (X4_numbersAround h v0 v2).bind fun q4 =>
    (if q4 ≤ (q2 * q3) then
    X4_feelers_B37 h v0 (X4_feelers_B4 h v0 fu) v1 v2
    else
    nm (v1 ||| ((1 : Int32) <<< (v2 &&& 31))) fun x6 =>
    X4_feelers_B37 h v0 (X4_feelers_B4 h v0 fu) x6 v2))
def X4_feelers (h : HS) (v0 : Nat) : Option Int32 :=
    X4_feelers_B4 h v0 FU 0 0
def rmX4_feelers : Room := { frames := 3, cells := 0, slots := 0, locals := 66 }
theorem kdX4_feelers : yX4_feelers.cls = RX4 ∧ yX4_feelers.cls ≠ "java/lang/invoke/MethodHandle" ∧ yX4_feelers.cls ≠ "java/lang/invoke/VarHandle" ∧ (parseMethodDescriptor yX4_feelers.desc).map (fun d => d.parameters.length) = some 0 := by decide +kernel
set_option maxHeartbeats 4000000 in
set_option maxRecDepth 100000 in
theorem m_X4_feelers (l : Launch) (D : va_G) (a : Nat → Nat) (C : Nat → ClassId) (ha : ginj a) (h : HS) (v0 : Nat) (hv0 : isLin v0) (r : Int32) (hf : X4_feelers h v0 = some r) : gM l yX4_feelers wsX4_feelers rmX4_feelers D a C [.ref (a v0)] h (some (.int r)) h := by
  refine g_start (av := [.ref (a v0)]) (cc := cX4_feelers) (maxL := 3) (rt := (some .int)) (by decide) rfl (Nat.le_of_ble_eq_true rfl) ?_
  intro p e s m below meth c hx hb hr hml hown hlk hts hP hK hN ls hl
  have hA : ∀ q, gA a q → gA a q := fun _ q => q
  have hS : va_S (gA a) s.heap s.heap [] := va_S.rf
  have hl : lv_has ls 3 [(0, .ref (a v0))] := hl
  have J37 : ∀ (k4 : Int32 → Int32 → Option Int32) (hk4 : ∀ (v1 : Int32) (v2 : Int32), k4 v1 v2 = some r → gG p l e (headSpec wsX4_feelers rmX4_feelers).room s m ([.ref (a v0)] : List Value).toArray below meth c (MQ below (gQ (some (.int r)) D a C h) ([.ref (a v0)] : List Value).toArray s 0 0 (gA a)) D a C 3 h 4 [(0, .ref (a v0)), (1, .int v1), (2, .int v2)] []) (v1 : Int32) (v2 : Int32) (_ : X4_feelers_B37 h v0 k4 v1 v2 = some r), gG p l e (headSpec wsX4_feelers rmX4_feelers).room s m ([.ref (a v0)] : List Value).toArray below meth c (MQ below (gQ (some (.int r)) D a C h) ([.ref (a v0)] : List Value).toArray s 0 0 (gA a)) D a C 3 h 37 [(0, .ref (a v0)), (1, .int v1), (2, .int v2)] [] := by
    intro k4 hk4 v1 v2 hf H locs ls hP hS hl
    unfold X4_feelers_B37 at hf
    obtain ⟨x7, ex7⟩ : ∃ y : Int32, y = (v2 + 1) := ⟨_, rfl⟩
    have hf := nm_s hf ex7
    refine lv_iinc (v := x7) (lv' := [(2, .int x7), (0, .ref (a v0)), (1, .int v1)]) hx hb dX4_feelers_37 hl (k := 2) rfl (by rw [ex7]; rfl) (by decide) rfl (fun ls hl => ?_)
    refine lv_goto (tgt := 4) hx hb dX4_feelers_40 (by decide) ?_
    exact hk4 v1 x7 hf H locs ls hP hS (lv_sub hl [1, 2, 0] rfl)
  have J4 : ∀ (fu : Nat) (v1 : Int32) (v2 : Int32), X4_feelers_B4 h v0 fu v1 v2 = some r → gG p l e (headSpec wsX4_feelers rmX4_feelers).room s m ([.ref (a v0)] : List Value).toArray below meth c (MQ below (gQ (some (.int r)) D a C h) ([.ref (a v0)] : List Value).toArray s 0 0 (gA a)) D a C 3 h 4 [(0, .ref (a v0)), (1, .int v1), (2, .int v2)] [] := by
    intro fu
    induction fu with
    | zero => intro v1 v2 hf; exact absurd hf (by simp [X4_feelers_B4])
    | succ fu ih =>
      intro v1 v2 hf H locs ls hP hS hl
      rw [X4_feelers_B4] at hf
      refine lv_iload_n hx hb dX4_feelers_4 rfl (lv_at hl 2 rfl) ?_
      refine lv_aload_n hx hb dX4_feelers_5 rfl (lv_at hl 0 rfl) ?_
      refine g_get (Cn := RX4) (T := TX4) (N := 3) (v := .int (fI h v0 0)) (own := RX4) hx hb hown hts hK (lin_O hv0) rfl (fun _ hw => List.mem_cons_of_mem _ (List.mem_append_right _ hw)) 0 (by decide) (List.mem_of_getElem? (i := 1) rfl) rfl rfl hP dX4_feelers_6 ?_
      refine lv_icmp_ge (tgt := 43) hx hb dX4_feelers_9 (by decide) (fun c1 => ?_) (fun c1 => ?_)
      · have hf := if_t hf c1
        refine lv_iload_n hx hb dX4_feelers_43 rfl (lv_at hl 1 rfl) ?_
        exact g_iret hx hb hr hlk hP hS (ret1 hf) dX4_feelers_44
      · have hf := if_f hf c1
        refine lv_aload_n hx hb dX4_feelers_12 rfl (lv_at hl 0 rfl) ?_
        refine lv_iload_n hx hb dX4_feelers_13 rfl (lv_at hl 2 rfl) ?_
        obtain ⟨q2, hq2, hf⟩ := bind_s hf
        refine g_callV (As := [.int v2]) (rest := []) hx hb hml hown hts hK hN (m_X4_number l D a C ha h v0 v2 hv0 q2 hq2) (cwV 1 hts gX4_feelers_X4_number rfl rfl rfl kdX4_number ⟨Nat.le_of_ble_eq_true rfl, Nat.le_of_ble_eq_true rfl⟩) (lin_O hv0) rfl rfl hP hS hA rfl hl.1 rfl (Nat.le_of_ble_eq_true rfl) dX4_feelers_14 ⟨Nat.le_refl _, Nat.le_refl _⟩ (fun H locs hP hS => ?_)
        refine W.eq (g2 := F0 m 17 ls [.int q2]) rfl ?_
        refine lv_aload_n hx hb dX4_feelers_17 rfl (lv_at hl 0 rfl) ?_
        refine lv_iload_n hx hb dX4_feelers_18 rfl (lv_at hl 2 rfl) ?_
        obtain ⟨q3, hq3, hf⟩ := bind_s hf
        refine g_callV (As := [.int v2]) (rest := [.int q2]) hx hb hml hown hts hK hN (m_X4_number l D a C ha h v0 v2 hv0 q3 hq3) (cwV 1 hts gX4_feelers_X4_number rfl rfl rfl kdX4_number ⟨Nat.le_of_ble_eq_true rfl, Nat.le_of_ble_eq_true rfl⟩) (lin_O hv0) rfl rfl hP hS hA rfl hl.1 rfl (Nat.le_of_ble_eq_true rfl) dX4_feelers_19 ⟨Nat.le_refl _, Nat.le_refl _⟩ (fun H locs hP hS => ?_)
        refine W.eq (g2 := F0 m 22 ls [.int q3, .int q2]) rfl ?_
        refine lv_imul hx hb dX4_feelers_22 ?_
        refine lv_aload_n hx hb dX4_feelers_23 rfl (lv_at hl 0 rfl) ?_
        refine lv_iload_n hx hb dX4_feelers_24 rfl (lv_at hl 2 rfl) ?_
        obtain ⟨q4, hq4, hf⟩ := bind_s hf
        refine g_callV (As := [.int v2]) (rest := [.int (q2 * q3)]) hx hb hml hown hts hK hN (m_X4_numbersAround l D a C ha h v0 v2 hv0 q4 hq4) (cwV 1 hts gX4_feelers_X4_numbersAround rfl rfl rfl kdX4_numbersAround ⟨Nat.le_of_ble_eq_true rfl, Nat.le_of_ble_eq_true rfl⟩) (lin_O hv0) rfl rfl hP hS hA rfl hl.1 rfl (Nat.le_of_ble_eq_true rfl) dX4_feelers_25 ⟨Nat.le_refl _, Nat.le_refl _⟩ (fun H locs hP hS => ?_)
        refine W.eq (g2 := F0 m 28 ls [.int q4, .int (q2 * q3)]) rfl ?_
        refine lv_icmp_ge (tgt := 37) hx hb dX4_feelers_28 (by decide) (fun c5 => ?_) (fun c5 => ?_)
        · have hf := if_t hf c5
          exact J37 (X4_feelers_B4 h v0 fu) ih v1 v2 hf H locs ls hP hS (lv_sub hl [0, 1, 2] rfl)
        · have hf := if_f hf c5
          refine lv_iload_n hx hb dX4_feelers_31 rfl (lv_at hl 1 rfl) ?_
          refine lv_iconst (v := 1) hx hb dX4_feelers_32 (by decide) ?_
          refine lv_iload_n hx hb dX4_feelers_33 rfl (lv_at hl 2 rfl) ?_
          refine lv_ishl hx hb dX4_feelers_34 ?_
          refine lv_ior hx hb dX4_feelers_35 ?_
          refine lv_topi (fun x6 ex6 => ?_)
          have hf := nm_s hf ex6
          refine lv_istore_n (lv' := [(1, .int x6), (0, .ref (a v0)), (2, .int v2)]) hx hb dX4_feelers_36 rfl hl (by decide) rfl (fun ls hl => ?_)
          exact J37 (X4_feelers_B4 h v0 fu) ih x6 v2 hf H locs ls hP hS (lv_sub hl [1, 0, 2] rfl)
  unfold X4_feelers at hf
  suffices hh : ∀ (H : Heap) (locs : List Loc), va_P D vwCl (gw a C h) H → va_S (gA a) s.heap H locs → W p l e (headSpec wsX4_feelers rmX4_feelers).room s m ([.ref (a v0)] : List Value).toArray below meth c H locs 0 0 (MQ below (gQ (some (.int r)) D a C h) ([.ref (a v0)] : List Value).toArray s 0 0 (gA a)) (F0 m 0 ls []) from hh _ _ hP hS
  intro H locs hP hS
  refine lv_iconst (v := 0) hx hb dX4_feelers_0 (by decide) ?_
  refine lv_istore_n (lv' := [(1, .int 0), (0, .ref (a v0))]) hx hb dX4_feelers_1 rfl hl (by decide) rfl (fun ls hl => ?_)
  refine lv_iconst (v := 0) hx hb dX4_feelers_2 (by decide) ?_
  refine lv_istore_n (lv' := [(2, .int 0), (1, .int 0), (0, .ref (a v0))]) hx hb dX4_feelers_3 rfl hl (by decide) rfl (fun ls hl => ?_)
  exact J4 FU 0 0 hf H locs ls hP hS (lv_sub hl [2, 1, 0] rfl)

def X4_bestTurn_B93 (v0 : Nat) (v1 : Int32) (k14 : Int32 → Int32 → Int32 → HS → Option (Int32 × HS)) (k29 : Int32 → Int32 → Int32 → Int32 → HS → Option (Int32 × HS)) (v2 : Int32) (v3 : Int32) (v4 : Int32) (v5 : Int32) (h : HS) : Option (Int32 × HS) :=
    nm (v5 + 1) fun x15 =>
    k29 v2 v3 v4 x15 h
def X4_bestTurn_B29 (v0 : Nat) (v1 : Int32) (k14 : Int32 → Int32 → Int32 → HS → Option (Int32 × HS)) : Nat → Int32 → Int32 → Int32 → Int32 → HS → Option (Int32 × HS)
  | 0, _, _, _, _, _ => none
  | fu + 1, v2, v3, v4, v5, h =>
    (if (fI h v0 0) ≤ v5 then
    nm (v4 + 1) fun x6 =>
    k14 v2 v3 x6 h
    else
    (X4_between h v0 v4 v5).bind fun q7 =>
    (if q7 = v1 then
    (X4_turn h v0 v4 v5).bind fun q9 =>
    (X4_feelers q9 v0).bind fun q10 =>
    (J6_bitCount_0f7a4 q10).bind fun q11 =>
    (X4_turn q9 v0 v4 v5).bind fun q12 =>
    (if v2 ≤ q11 then
    X4_bestTurn_B93 v0 v1 k14 (X4_bestTurn_B29 v0 v1 k14 fu) v2 v3 v4 v5 q12
    else
    nm ((10 * v4) + v5) fun x14 =>
    X4_bestTurn_B93 v0 v1 k14 (X4_bestTurn_B29 v0 v1 k14 fu) q11 x14 v4 v5 q12)
    else
    X4_bestTurn_B93 v0 v1 k14 (X4_bestTurn_B29 v0 v1 k14 fu) v2 v3 v4 v5 h))
def X4_bestTurn_B14 (v0 : Nat) (v1 : Int32) : Nat → Int32 → Int32 → Int32 → HS → Option (Int32 × HS)
  | 0, _, _, _, _ => none
  | fu + 1, v2, v3, v4, h =>
    (if (fI h v0 0) ≤ v4 then
    some (v3, h)
    else
    nm (v4 + 1) fun x4 =>
    X4_bestTurn_B29 v0 v1 (X4_bestTurn_B14 v0 v1 fu) FU v2 v3 v4 x4 h)
def X4_bestTurn (h : HS) (v0 : Nat) (v1 : Int32) : Option (Int32 × HS) :=
    (X4_feelers h v0).bind fun q1 =>
    (J6_bitCount_0f7a4 q1).bind fun q2 =>
    X4_bestTurn_B14 v0 v1 FU q2 (-4) 0 h
def rmX4_bestTurn : Room := { frames := 4, cells := 0, slots := 0, locals := 88 }
theorem kdX4_bestTurn : yX4_bestTurn.cls = RX4 ∧ yX4_bestTurn.cls ≠ "java/lang/invoke/MethodHandle" ∧ yX4_bestTurn.cls ≠ "java/lang/invoke/VarHandle" ∧ (parseMethodDescriptor yX4_bestTurn.desc).map (fun d => d.parameters.length) = some 1 := by decide +kernel
set_option maxHeartbeats 4000000 in
set_option maxRecDepth 100000 in
theorem m_X4_bestTurn (l : Launch) (D : va_G) (a : Nat → Nat) (C : Nat → ClassId) (ha : ginj a) (h : HS) (v0 : Nat) (v1 : Int32) (hv0 : isLin v0) (r : Int32) (h' : HS) (hf : X4_bestTurn h v0 v1 = some (r, h')) : gM l yX4_bestTurn wsX4_bestTurn rmX4_bestTurn D a C [.ref (a v0), .int v1] h (some (.int r)) h' := by
  refine g_start (av := [.ref (a v0), .int v1]) (cc := cX4_bestTurn) (maxL := 7) (rt := (some .int)) (by decide) rfl (Nat.le_of_ble_eq_true rfl) ?_
  intro p e s m below meth c hx hb hr hml hown hlk hts hP hK hN ls hl
  have hA : ∀ q, gA a q → gA a q := fun _ q => q
  have hS : va_S (gA a) s.heap s.heap [] := va_S.rf
  have hl : lv_has ls 7 [(0, .ref (a v0)), (1, .int v1)] := hl
  have J93 : ∀ (k14 : Int32 → Int32 → Int32 → HS → Option (Int32 × HS)) (hk14 : ∀ (v2 : Int32) (v3 : Int32) (v4 : Int32) (h : HS), k14 v2 v3 v4 h = some (r, h') → gG p l e (headSpec wsX4_bestTurn rmX4_bestTurn).room s m ([.ref (a v0), .int v1] : List Value).toArray below meth c (MQ below (gQ (some (.int r)) D a C h') ([.ref (a v0), .int v1] : List Value).toArray s 0 0 (gA a)) D a C 7 h 14 [(0, .ref (a v0)), (1, .int v1), (2, .int v2), (3, .int v3), (4, .int v4)] []) (k29 : Int32 → Int32 → Int32 → Int32 → HS → Option (Int32 × HS)) (hk29 : ∀ (v2 : Int32) (v3 : Int32) (v4 : Int32) (v5 : Int32) (h : HS), k29 v2 v3 v4 v5 h = some (r, h') → gG p l e (headSpec wsX4_bestTurn rmX4_bestTurn).room s m ([.ref (a v0), .int v1] : List Value).toArray below meth c (MQ below (gQ (some (.int r)) D a C h') ([.ref (a v0), .int v1] : List Value).toArray s 0 0 (gA a)) D a C 7 h 29 [(0, .ref (a v0)), (1, .int v1), (2, .int v2), (3, .int v3), (4, .int v4), (5, .int v5)] []) (v2 : Int32) (v3 : Int32) (v4 : Int32) (v5 : Int32) (h : HS) (_ : X4_bestTurn_B93 v0 v1 k14 k29 v2 v3 v4 v5 h = some (r, h')), gG p l e (headSpec wsX4_bestTurn rmX4_bestTurn).room s m ([.ref (a v0), .int v1] : List Value).toArray below meth c (MQ below (gQ (some (.int r)) D a C h') ([.ref (a v0), .int v1] : List Value).toArray s 0 0 (gA a)) D a C 7 h 93 [(0, .ref (a v0)), (1, .int v1), (2, .int v2), (3, .int v3), (4, .int v4), (5, .int v5)] [] := by
    intro k14 hk14 k29 hk29 v2 v3 v4 v5 h hf H locs ls hP hS hl
    unfold X4_bestTurn_B93 at hf
    obtain ⟨x15, ex15⟩ : ∃ y : Int32, y = (v5 + 1) := ⟨_, rfl⟩
    have hf := nm_s hf ex15
    refine lv_iinc (v := x15) (lv' := [(5, .int x15), (0, .ref (a v0)), (1, .int v1), (2, .int v2), (3, .int v3), (4, .int v4)]) hx hb dX4_bestTurn_93 hl (k := 5) rfl (by rw [ex15]; rfl) (by decide) rfl (fun ls hl => ?_)
    refine lv_goto (tgt := 29) hx hb dX4_bestTurn_96 (by decide) ?_
    exact hk29 v2 v3 v4 x15 h hf H locs ls hP hS (lv_sub hl [1, 2, 3, 4, 5, 0] rfl)
  have J29 : ∀ (k14 : Int32 → Int32 → Int32 → HS → Option (Int32 × HS)) (hk14 : ∀ (v2 : Int32) (v3 : Int32) (v4 : Int32) (h : HS), k14 v2 v3 v4 h = some (r, h') → gG p l e (headSpec wsX4_bestTurn rmX4_bestTurn).room s m ([.ref (a v0), .int v1] : List Value).toArray below meth c (MQ below (gQ (some (.int r)) D a C h') ([.ref (a v0), .int v1] : List Value).toArray s 0 0 (gA a)) D a C 7 h 14 [(0, .ref (a v0)), (1, .int v1), (2, .int v2), (3, .int v3), (4, .int v4)] []) (fu : Nat) (v2 : Int32) (v3 : Int32) (v4 : Int32) (v5 : Int32) (h : HS), X4_bestTurn_B29 v0 v1 k14 fu v2 v3 v4 v5 h = some (r, h') → gG p l e (headSpec wsX4_bestTurn rmX4_bestTurn).room s m ([.ref (a v0), .int v1] : List Value).toArray below meth c (MQ below (gQ (some (.int r)) D a C h') ([.ref (a v0), .int v1] : List Value).toArray s 0 0 (gA a)) D a C 7 h 29 [(0, .ref (a v0)), (1, .int v1), (2, .int v2), (3, .int v3), (4, .int v4), (5, .int v5)] [] := by
    intro k14 hk14 fu
    induction fu with
    | zero => intro v2 v3 v4 v5 h hf; exact absurd hf (by simp [X4_bestTurn_B29])
    | succ fu ih =>
      intro v2 v3 v4 v5 h hf H locs ls hP hS hl
      rw [X4_bestTurn_B29] at hf
      refine lv_iload hx hb dX4_bestTurn_29 (lv_at hl 5 rfl) ?_
      refine lv_aload_n hx hb dX4_bestTurn_31 rfl (lv_at hl 0 rfl) ?_
      refine g_get (Cn := RX4) (T := TX4) (N := 3) (v := .int (fI h v0 0)) (own := RX4) hx hb hown hts hK (lin_O hv0) rfl (fun _ hw => List.mem_cons_of_mem _ (List.mem_append_right _ hw)) 0 (by decide) (List.mem_of_getElem? (i := 1) rfl) rfl rfl hP dX4_bestTurn_32 ?_
      refine lv_icmp_ge (tgt := 99) hx hb dX4_bestTurn_35 (by decide) (fun c5 => ?_) (fun c5 => ?_)
      · have hf := if_t hf c5
        obtain ⟨x6, ex6⟩ : ∃ y : Int32, y = (v4 + 1) := ⟨_, rfl⟩
        have hf := nm_s hf ex6
        refine lv_iinc (v := x6) (lv' := [(4, .int x6), (0, .ref (a v0)), (1, .int v1), (2, .int v2), (3, .int v3), (5, .int v5)]) hx hb dX4_bestTurn_99 hl (k := 4) rfl (by rw [ex6]; rfl) (by decide) rfl (fun ls hl => ?_)
        refine lv_goto (tgt := 14) hx hb dX4_bestTurn_102 (by decide) ?_
        exact hk14 v2 v3 x6 h hf H locs ls hP hS (lv_sub hl [1, 2, 3, 4, 0] rfl)
      · have hf := if_f hf c5
        refine lv_aload_n hx hb dX4_bestTurn_38 rfl (lv_at hl 0 rfl) ?_
        refine lv_iload hx hb dX4_bestTurn_39 (lv_at hl 4 rfl) ?_
        refine lv_iload hx hb dX4_bestTurn_41 (lv_at hl 5 rfl) ?_
        obtain ⟨q7, hq7, hf⟩ := bind_s hf
        refine g_callV (As := [.int v4, .int v5]) (rest := []) hx hb hml hown hts hK hN (m_X4_between l D a C ha h v0 v4 v5 hv0 q7 hq7) (cwV 2 hts gX4_bestTurn_X4_between rfl rfl rfl kdX4_between ⟨Nat.le_of_ble_eq_true rfl, Nat.le_of_ble_eq_true rfl⟩) (lin_O hv0) rfl rfl hP hS hA rfl hl.1 rfl (Nat.le_of_ble_eq_true rfl) dX4_bestTurn_43 ⟨Nat.le_refl _, Nat.le_refl _⟩ (fun H locs hP hS => ?_)
        refine W.eq (g2 := F0 m 46 ls [.int q7]) rfl ?_
        refine lv_iload_n hx hb dX4_bestTurn_46 rfl (lv_at hl 1 rfl) ?_
        refine lv_icmp_ne (tgt := 93) hx hb dX4_bestTurn_47 (by decide) (fun c8 => ?_) (fun c8 => ?_)
        · have hf := if_f hf c8
          exact J93 k14 hk14 (X4_bestTurn_B29 v0 v1 k14 fu) ih v2 v3 v4 v5 h hf H locs ls hP hS (lv_sub hl [0, 1, 2, 3, 4, 5] rfl)
        · have hf := if_t hf c8
          refine lv_aload_n hx hb dX4_bestTurn_50 rfl (lv_at hl 0 rfl) ?_
          refine lv_iload hx hb dX4_bestTurn_51 (lv_at hl 4 rfl) ?_
          refine lv_iload hx hb dX4_bestTurn_53 (lv_at hl 5 rfl) ?_
          obtain ⟨q9, hq9, hf⟩ := bind_s hf
          refine g_callV (As := [.int v4, .int v5]) (rest := []) hx hb hml hown hts hK hN (m_X4_turn l D a C ha h v0 v4 v5 hv0 q9 hq9) (cwV 2 hts gX4_bestTurn_X4_turn rfl rfl rfl kdX4_turn ⟨Nat.le_of_ble_eq_true rfl, Nat.le_of_ble_eq_true rfl⟩) (lin_O hv0) rfl rfl hP hS hA rfl hl.1 rfl (Nat.le_of_ble_eq_true rfl) dX4_bestTurn_55 ⟨Nat.le_refl _, Nat.le_refl _⟩ (fun H locs hP hS => ?_)
          refine W.eq (g2 := F0 m 58 ls []) rfl ?_
          refine lv_aload_n hx hb dX4_bestTurn_58 rfl (lv_at hl 0 rfl) ?_
          obtain ⟨q10, hq10, hf⟩ := bind_s hf
          refine g_callV (As := []) (rest := []) hx hb hml hown hts hK hN (m_X4_feelers l D a C ha q9 v0 hv0 q10 hq10) (cwV 0 hts gX4_bestTurn_X4_feelers rfl rfl rfl kdX4_feelers ⟨Nat.le_of_ble_eq_true rfl, Nat.le_of_ble_eq_true rfl⟩) (lin_O hv0) rfl rfl hP hS hA rfl hl.1 rfl (Nat.le_of_ble_eq_true rfl) dX4_bestTurn_59 ⟨Nat.le_refl _, Nat.le_refl _⟩ (fun H locs hP hS => ?_)
          refine W.eq (g2 := F0 m 62 ls [.int q10]) rfl ?_
          obtain ⟨q11, hq11, hf⟩ := bind_s hf
          refine g_callS (As := [.int q10]) (rest := []) hx hb hml hown hts hK hN (m_J6_bitCount_0f7a4 l D a C ha q9 q10  q11 hq11) (va_cwS 1 hts gX4_bestTurn_J6_bitCount_0f7a4 rfl rfl rfl kdJ6_bitCount_0f7a4.2 ⟨Nat.le_of_ble_eq_true rfl, Nat.le_of_ble_eq_true rfl⟩) hP hS hA rfl hl.1 rfl (Nat.le_of_ble_eq_true rfl) dX4_bestTurn_62 ⟨Nat.le_refl _, Nat.le_refl _⟩ (fun H locs hP hS => ?_)
          refine W.eq (g2 := F0 m 65 ls [.int q11]) rfl ?_
          refine lv_istore (lv' := [(6, .int q11), (0, .ref (a v0)), (1, .int v1), (2, .int v2), (3, .int v3), (4, .int v4), (5, .int v5)]) hx hb dX4_bestTurn_65 hl (by decide) rfl (fun ls hl => ?_)
          refine lv_aload_n hx hb dX4_bestTurn_67 rfl (lv_at hl 1 rfl) ?_
          refine lv_iload hx hb dX4_bestTurn_68 (lv_at hl 5 rfl) ?_
          refine lv_iload hx hb dX4_bestTurn_70 (lv_at hl 6 rfl) ?_
          obtain ⟨q12, hq12, hf⟩ := bind_s hf
          refine g_callV (As := [.int v4, .int v5]) (rest := []) hx hb hml hown hts hK hN (m_X4_turn l D a C ha q9 v0 v4 v5 hv0 q12 hq12) (cwV 2 hts gX4_bestTurn_X4_turn rfl rfl rfl kdX4_turn ⟨Nat.le_of_ble_eq_true rfl, Nat.le_of_ble_eq_true rfl⟩) (lin_O hv0) rfl rfl hP hS hA rfl hl.1 rfl (Nat.le_of_ble_eq_true rfl) dX4_bestTurn_72 ⟨Nat.le_refl _, Nat.le_refl _⟩ (fun H locs hP hS => ?_)
          refine W.eq (g2 := F0 m 75 ls []) rfl ?_
          refine lv_iload hx hb dX4_bestTurn_75 (lv_at hl 0 rfl) ?_
          refine lv_iload_n hx hb dX4_bestTurn_77 rfl (lv_at hl 3 rfl) ?_
          refine lv_icmp_ge (tgt := 93) hx hb dX4_bestTurn_78 (by decide) (fun c13 => ?_) (fun c13 => ?_)
          · have hf := if_t hf c13
            exact J93 k14 hk14 (X4_bestTurn_B29 v0 v1 k14 fu) ih v2 v3 v4 v5 q12 hf H locs ls hP hS (lv_sub hl [1, 2, 3, 4, 5, 6] rfl)
          · have hf := if_f hf c13
            refine lv_iload hx hb dX4_bestTurn_81 (lv_at hl 0 rfl) ?_
            refine lv_istore_n (lv' := [(2, .int q11), (6, .int q11), (0, .ref (a v0)), (1, .int v1), (3, .int v3), (4, .int v4), (5, .int v5)]) hx hb dX4_bestTurn_83 rfl hl (by decide) rfl (fun ls hl => ?_)
            refine lv_bipush (v := 10) hx hb dX4_bestTurn_84 (by decide) ?_
            refine lv_iload hx hb dX4_bestTurn_86 (lv_at hl 5 rfl) ?_
            refine lv_imul hx hb dX4_bestTurn_88 ?_
            refine lv_iload hx hb dX4_bestTurn_89 (lv_at hl 6 rfl) ?_
            refine lv_iadd hx hb dX4_bestTurn_91 ?_
            refine lv_topi (fun x14 ex14 => ?_)
            have hf := nm_s hf ex14
            refine lv_istore_n (lv' := [(3, .int x14), (2, .int q11), (6, .int q11), (0, .ref (a v0)), (1, .int v1), (4, .int v4), (5, .int v5)]) hx hb dX4_bestTurn_92 rfl hl (by decide) rfl (fun ls hl => ?_)
            exact J93 k14 hk14 (X4_bestTurn_B29 v0 v1 k14 fu) ih q11 x14 v4 v5 q12 hf H locs ls hP hS (lv_sub hl [3, 4, 1, 0, 5, 6] rfl)
  have J14 : ∀ (fu : Nat) (v2 : Int32) (v3 : Int32) (v4 : Int32) (h : HS), X4_bestTurn_B14 v0 v1 fu v2 v3 v4 h = some (r, h') → gG p l e (headSpec wsX4_bestTurn rmX4_bestTurn).room s m ([.ref (a v0), .int v1] : List Value).toArray below meth c (MQ below (gQ (some (.int r)) D a C h') ([.ref (a v0), .int v1] : List Value).toArray s 0 0 (gA a)) D a C 7 h 14 [(0, .ref (a v0)), (1, .int v1), (2, .int v2), (3, .int v3), (4, .int v4)] [] := by
    intro fu
    induction fu with
    | zero => intro v2 v3 v4 h hf; exact absurd hf (by simp [X4_bestTurn_B14])
    | succ fu ih =>
      intro v2 v3 v4 h hf H locs ls hP hS hl
      rw [X4_bestTurn_B14] at hf
      refine lv_iload hx hb dX4_bestTurn_14 (lv_at hl 4 rfl) ?_
      refine lv_aload_n hx hb dX4_bestTurn_16 rfl (lv_at hl 0 rfl) ?_
      refine g_get (Cn := RX4) (T := TX4) (N := 3) (v := .int (fI h v0 0)) (own := RX4) hx hb hown hts hK (lin_O hv0) rfl (fun _ hw => List.mem_cons_of_mem _ (List.mem_append_right _ hw)) 0 (by decide) (List.mem_of_getElem? (i := 1) rfl) rfl rfl hP dX4_bestTurn_17 ?_
      refine lv_icmp_ge (tgt := 105) hx hb dX4_bestTurn_20 (by decide) (fun c3 => ?_) (fun c3 => ?_)
      · have hf := if_t hf c3
        refine lv_iload_n hx hb dX4_bestTurn_105 rfl (lv_at hl 3 rfl) ?_
        exact g_iretW hx hb hr hlk hP hS (ret2 hf) dX4_bestTurn_106
      · have hf := if_f hf c3
        refine lv_iload hx hb dX4_bestTurn_23 (lv_at hl 4 rfl) ?_
        refine lv_iconst (v := 1) hx hb dX4_bestTurn_25 (by decide) ?_
        refine lv_iadd hx hb dX4_bestTurn_26 ?_
        refine lv_topi (fun x4 ex4 => ?_)
        have hf := nm_s hf ex4
        refine lv_istore (lv' := [(5, .int x4), (0, .ref (a v0)), (1, .int v1), (2, .int v2), (3, .int v3), (4, .int v4)]) hx hb dX4_bestTurn_27 hl (by decide) rfl (fun ls hl => ?_)
        exact J29 (X4_bestTurn_B14 v0 v1 fu) ih FU v2 v3 v4 x4 h hf H locs ls hP hS (lv_sub hl [1, 2, 3, 4, 5, 0] rfl)
  unfold X4_bestTurn at hf
  suffices hh : ∀ (H : Heap) (locs : List Loc), va_P D vwCl (gw a C h) H → va_S (gA a) s.heap H locs → W p l e (headSpec wsX4_bestTurn rmX4_bestTurn).room s m ([.ref (a v0), .int v1] : List Value).toArray below meth c H locs 0 0 (MQ below (gQ (some (.int r)) D a C h') ([.ref (a v0), .int v1] : List Value).toArray s 0 0 (gA a)) (F0 m 0 ls []) from hh _ _ hP hS
  intro H locs hP hS
  refine lv_aload_n hx hb dX4_bestTurn_0 rfl (lv_at hl 0 rfl) ?_
  obtain ⟨q1, hq1, hf⟩ := bind_s hf
  refine g_callV (As := []) (rest := []) hx hb hml hown hts hK hN (m_X4_feelers l D a C ha h v0 hv0 q1 hq1) (cwV 0 hts gX4_bestTurn_X4_feelers rfl rfl rfl kdX4_feelers ⟨Nat.le_of_ble_eq_true rfl, Nat.le_of_ble_eq_true rfl⟩) (lin_O hv0) rfl rfl hP hS hA rfl hl.1 rfl (Nat.le_of_ble_eq_true rfl) dX4_bestTurn_1 ⟨Nat.le_refl _, Nat.le_refl _⟩ (fun H locs hP hS => ?_)
  refine W.eq (g2 := F0 m 4 ls [.int q1]) rfl ?_
  obtain ⟨q2, hq2, hf⟩ := bind_s hf
  refine g_callS (As := [.int q1]) (rest := []) hx hb hml hown hts hK hN (m_J6_bitCount_0f7a4 l D a C ha h q1  q2 hq2) (va_cwS 1 hts gX4_bestTurn_J6_bitCount_0f7a4 rfl rfl rfl kdJ6_bitCount_0f7a4.2 ⟨Nat.le_of_ble_eq_true rfl, Nat.le_of_ble_eq_true rfl⟩) hP hS hA rfl hl.1 rfl (Nat.le_of_ble_eq_true rfl) dX4_bestTurn_4 ⟨Nat.le_refl _, Nat.le_refl _⟩ (fun H locs hP hS => ?_)
  refine W.eq (g2 := F0 m 7 ls [.int q2]) rfl ?_
  refine lv_istore_n (lv' := [(2, .int q2), (0, .ref (a v0)), (1, .int v1)]) hx hb dX4_bestTurn_7 rfl hl (by decide) rfl (fun ls hl => ?_)
  refine lv_bipush (v := (-4)) hx hb dX4_bestTurn_8 (by decide) ?_
  refine lv_istore_n (lv' := [(3, .int (-4)), (2, .int q2), (0, .ref (a v0)), (1, .int v1)]) hx hb dX4_bestTurn_10 rfl hl (by decide) rfl (fun ls hl => ?_)
  refine lv_iconst (v := 0) hx hb dX4_bestTurn_11 (by decide) ?_
  refine lv_istore (lv' := [(4, .int 0), (3, .int (-4)), (2, .int q2), (0, .ref (a v0)), (1, .int v1)]) hx hb dX4_bestTurn_12 hl (by decide) rfl (fun ls hl => ?_)
  exact J14 FU q2 (-4) 0 h hf H locs ls hP hS (lv_sub hl [3, 4, 2, 1, 0] rfl)

def X4_widened_B28 (h : HS) (v0 : Nat) (v1 : Int32) (k4 : Int32 → Int32 → Option Int32) (v2 : Int32) (v3 : Int32) : Option Int32 :=
    nm (v3 + 1) fun x5 =>
    k4 v2 x5
def X4_widened_B4 (h : HS) (v0 : Nat) (v1 : Int32) : Nat → Int32 → Int32 → Option Int32
  | 0, _, _ => none
  | fu + 1, v2, v3 =>
    (if (fI h v0 0) ≤ v3 then
    some v2
    else
    (if ((v1 >>> (v3 &&& 31)) &&& 1) = 0 then
    X4_widened_B28 h v0 v1 (X4_widened_B4 h v0 v1 fu) v2 v3
    else
    (X4_around h v0 v3).bind fun q3 =>
    nm (v2 ||| q3) fun x4 =>
    X4_widened_B28 h v0 v1 (X4_widened_B4 h v0 v1 fu) x4 v3))
def X4_widened (h : HS) (v0 : Nat) (v1 : Int32) : Option Int32 :=
    X4_widened_B4 h v0 v1 FU v1 0
def rmX4_widened : Room := { frames := 1, cells := 0, slots := 0, locals := 21 }
theorem kdX4_widened : yX4_widened.cls = RX4 ∧ yX4_widened.cls ≠ "java/lang/invoke/MethodHandle" ∧ yX4_widened.cls ≠ "java/lang/invoke/VarHandle" ∧ (parseMethodDescriptor yX4_widened.desc).map (fun d => d.parameters.length) = some 1 := by decide +kernel
set_option maxHeartbeats 4000000 in
set_option maxRecDepth 100000 in
theorem m_X4_widened (l : Launch) (D : va_G) (a : Nat → Nat) (C : Nat → ClassId) (ha : ginj a) (h : HS) (v0 : Nat) (v1 : Int32) (hv0 : isLin v0) (r : Int32) (hf : X4_widened h v0 v1 = some r) : gM l yX4_widened wsX4_widened rmX4_widened D a C [.ref (a v0), .int v1] h (some (.int r)) h := by
  refine g_start (av := [.ref (a v0), .int v1]) (cc := cX4_widened) (maxL := 4) (rt := (some .int)) (by decide) rfl (Nat.le_of_ble_eq_true rfl) ?_
  intro p e s m below meth c hx hb hr hml hown hlk hts hP hK hN ls hl
  have hA : ∀ q, gA a q → gA a q := fun _ q => q
  have hS : va_S (gA a) s.heap s.heap [] := va_S.rf
  have hl : lv_has ls 4 [(0, .ref (a v0)), (1, .int v1)] := hl
  have J28 : ∀ (k4 : Int32 → Int32 → Option Int32) (hk4 : ∀ (v2 : Int32) (v3 : Int32), k4 v2 v3 = some r → gG p l e (headSpec wsX4_widened rmX4_widened).room s m ([.ref (a v0), .int v1] : List Value).toArray below meth c (MQ below (gQ (some (.int r)) D a C h) ([.ref (a v0), .int v1] : List Value).toArray s 0 0 (gA a)) D a C 4 h 4 [(0, .ref (a v0)), (1, .int v1), (2, .int v2), (3, .int v3)] []) (v2 : Int32) (v3 : Int32) (_ : X4_widened_B28 h v0 v1 k4 v2 v3 = some r), gG p l e (headSpec wsX4_widened rmX4_widened).room s m ([.ref (a v0), .int v1] : List Value).toArray below meth c (MQ below (gQ (some (.int r)) D a C h) ([.ref (a v0), .int v1] : List Value).toArray s 0 0 (gA a)) D a C 4 h 28 [(0, .ref (a v0)), (1, .int v1), (2, .int v2), (3, .int v3)] [] := by
    intro k4 hk4 v2 v3 hf H locs ls hP hS hl
    unfold X4_widened_B28 at hf
    obtain ⟨x5, ex5⟩ : ∃ y : Int32, y = (v3 + 1) := ⟨_, rfl⟩
    have hf := nm_s hf ex5
    refine lv_iinc (v := x5) (lv' := [(3, .int x5), (0, .ref (a v0)), (1, .int v1), (2, .int v2)]) hx hb dX4_widened_28 hl (k := 3) rfl (by rw [ex5]; rfl) (by decide) rfl (fun ls hl => ?_)
    refine lv_goto (tgt := 4) hx hb dX4_widened_31 (by decide) ?_
    exact hk4 v2 x5 hf H locs ls hP hS (lv_sub hl [1, 2, 3, 0] rfl)
  have J4 : ∀ (fu : Nat) (v2 : Int32) (v3 : Int32), X4_widened_B4 h v0 v1 fu v2 v3 = some r → gG p l e (headSpec wsX4_widened rmX4_widened).room s m ([.ref (a v0), .int v1] : List Value).toArray below meth c (MQ below (gQ (some (.int r)) D a C h) ([.ref (a v0), .int v1] : List Value).toArray s 0 0 (gA a)) D a C 4 h 4 [(0, .ref (a v0)), (1, .int v1), (2, .int v2), (3, .int v3)] [] := by
    intro fu
    induction fu with
    | zero => intro v2 v3 hf; exact absurd hf (by simp [X4_widened_B4])
    | succ fu ih =>
      intro v2 v3 hf H locs ls hP hS hl
      rw [X4_widened_B4] at hf
      refine lv_iload_n hx hb dX4_widened_4 rfl (lv_at hl 3 rfl) ?_
      refine lv_aload_n hx hb dX4_widened_5 rfl (lv_at hl 0 rfl) ?_
      refine g_get (Cn := RX4) (T := TX4) (N := 3) (v := .int (fI h v0 0)) (own := RX4) hx hb hown hts hK (lin_O hv0) rfl (fun _ hw => List.mem_cons_of_mem _ (List.mem_append_right _ hw)) 0 (by decide) (List.mem_of_getElem? (i := 1) rfl) rfl rfl hP dX4_widened_6 ?_
      refine lv_icmp_ge (tgt := 34) hx hb dX4_widened_9 (by decide) (fun c1 => ?_) (fun c1 => ?_)
      · have hf := if_t hf c1
        refine lv_iload_n hx hb dX4_widened_34 rfl (lv_at hl 2 rfl) ?_
        exact g_iret hx hb hr hlk hP hS (ret1 hf) dX4_widened_35
      · have hf := if_f hf c1
        refine lv_iload_n hx hb dX4_widened_12 rfl (lv_at hl 1 rfl) ?_
        refine lv_iload_n hx hb dX4_widened_13 rfl (lv_at hl 3 rfl) ?_
        refine lv_ishr hx hb dX4_widened_14 ?_
        refine lv_iconst (v := 1) hx hb dX4_widened_15 (by decide) ?_
        refine lv_iand hx hb dX4_widened_16 ?_
        refine lv_if_eq (tgt := 28) hx hb dX4_widened_17 (by decide) (fun c2 => ?_) (fun c2 => ?_)
        · have hf := if_t hf c2
          exact J28 (X4_widened_B4 h v0 v1 fu) ih v2 v3 hf H locs ls hP hS (lv_sub hl [0, 1, 2, 3] rfl)
        · have hf := if_f hf c2
          refine lv_iload_n hx hb dX4_widened_20 rfl (lv_at hl 2 rfl) ?_
          refine lv_aload_n hx hb dX4_widened_21 rfl (lv_at hl 0 rfl) ?_
          refine lv_iload_n hx hb dX4_widened_22 rfl (lv_at hl 3 rfl) ?_
          obtain ⟨q3, hq3, hf⟩ := bind_s hf
          refine g_callV (As := [.int v3]) (rest := [.int v2]) hx hb hml hown hts hK hN (m_X4_around l D a C ha h v0 v3 hv0 q3 hq3) (cwV 1 hts gX4_widened_X4_around rfl rfl rfl kdX4_around ⟨Nat.le_of_ble_eq_true rfl, Nat.le_of_ble_eq_true rfl⟩) (lin_O hv0) rfl rfl hP hS hA rfl hl.1 rfl (Nat.le_of_ble_eq_true rfl) dX4_widened_23 ⟨Nat.le_refl _, Nat.le_refl _⟩ (fun H locs hP hS => ?_)
          refine W.eq (g2 := F0 m 26 ls [.int q3, .int v2]) rfl ?_
          refine lv_ior hx hb dX4_widened_26 ?_
          refine lv_topi (fun x4 ex4 => ?_)
          have hf := nm_s hf ex4
          refine lv_istore_n (lv' := [(2, .int x4), (0, .ref (a v0)), (1, .int v1), (3, .int v3)]) hx hb dX4_widened_27 rfl hl (by decide) rfl (fun ls hl => ?_)
          exact J28 (X4_widened_B4 h v0 v1 fu) ih x4 v3 hf H locs ls hP hS (lv_sub hl [1, 2, 0, 3] rfl)
  unfold X4_widened at hf
  suffices hh : ∀ (H : Heap) (locs : List Loc), va_P D vwCl (gw a C h) H → va_S (gA a) s.heap H locs → W p l e (headSpec wsX4_widened rmX4_widened).room s m ([.ref (a v0), .int v1] : List Value).toArray below meth c H locs 0 0 (MQ below (gQ (some (.int r)) D a C h) ([.ref (a v0), .int v1] : List Value).toArray s 0 0 (gA a)) (F0 m 0 ls []) from hh _ _ hP hS
  intro H locs hP hS
  refine lv_iload_n hx hb dX4_widened_0 rfl (lv_at hl 1 rfl) ?_
  refine lv_istore_n (lv' := [(2, .int v1), (0, .ref (a v0)), (1, .int v1)]) hx hb dX4_widened_1 rfl hl (by decide) rfl (fun ls hl => ?_)
  refine lv_iconst (v := 0) hx hb dX4_widened_2 (by decide) ?_
  refine lv_istore_n (lv' := [(3, .int 0), (2, .int v1), (0, .ref (a v0)), (1, .int v1)]) hx hb dX4_widened_3 rfl hl (by decide) rfl (fun ls hl => ?_)
  exact J4 FU v1 0 hf H locs ls hP hS (lv_sub hl [2, 3, 1, 0] rfl)

def X4_way_B7 (h : HS) (v0 : Nat) (v1 : Int32) (v2 : Int32) : Nat → Int32 → Int32 → Option Int32
  | 0, _, _ => none
  | fu + 1, v3, v4 =>
    (if 9 ≤ v4 then
    some (-4)
    else
    (if ((v3 >>> (v2 &&& 31)) &&& 1) = 0 then
    (X4_widened h v0 v3).bind fun q4 =>
    nm (v4 + 1) fun x5 =>
    (X4_way_B7 h v0 v1 v2 fu) q4 x5
    else
    some v4))
def X4_way (h : HS) (v0 : Nat) (v1 : Int32) (v2 : Int32) : Option Int32 :=
    nm ((1 : Int32) <<< (v1 &&& 31)) fun x1 =>
    X4_way_B7 h v0 v1 v2 FU x1 0
def rmX4_way : Room := { frames := 2, cells := 0, slots := 0, locals := 44 }
theorem kdX4_way : yX4_way.cls = RX4 ∧ yX4_way.cls ≠ "java/lang/invoke/MethodHandle" ∧ yX4_way.cls ≠ "java/lang/invoke/VarHandle" ∧ (parseMethodDescriptor yX4_way.desc).map (fun d => d.parameters.length) = some 2 := by decide +kernel
set_option maxHeartbeats 4000000 in
set_option maxRecDepth 100000 in
theorem m_X4_way (l : Launch) (D : va_G) (a : Nat → Nat) (C : Nat → ClassId) (ha : ginj a) (h : HS) (v0 : Nat) (v1 : Int32) (v2 : Int32) (hv0 : isLin v0) (r : Int32) (hf : X4_way h v0 v1 v2 = some r) : gM l yX4_way wsX4_way rmX4_way D a C [.ref (a v0), .int v1, .int v2] h (some (.int r)) h := by
  refine g_start (av := [.ref (a v0), .int v1, .int v2]) (cc := cX4_way) (maxL := 5) (rt := (some .int)) (by decide) rfl (Nat.le_of_ble_eq_true rfl) ?_
  intro p e s m below meth c hx hb hr hml hown hlk hts hP hK hN ls hl
  have hA : ∀ q, gA a q → gA a q := fun _ q => q
  have hS : va_S (gA a) s.heap s.heap [] := va_S.rf
  have hl : lv_has ls 5 [(0, .ref (a v0)), (1, .int v1), (2, .int v2)] := hl
  have J7 : ∀ (fu : Nat) (v3 : Int32) (v4 : Int32), X4_way_B7 h v0 v1 v2 fu v3 v4 = some r → gG p l e (headSpec wsX4_way rmX4_way).room s m ([.ref (a v0), .int v1, .int v2] : List Value).toArray below meth c (MQ below (gQ (some (.int r)) D a C h) ([.ref (a v0), .int v1, .int v2] : List Value).toArray s 0 0 (gA a)) D a C 5 h 7 [(0, .ref (a v0)), (2, .int v2), (3, .int v3), (4, .int v4)] [] := by
    intro fu
    induction fu with
    | zero => intro v3 v4 hf; exact absurd hf (by simp [X4_way_B7])
    | succ fu ih =>
      intro v3 v4 hf H locs ls hP hS hl
      rw [X4_way_B7] at hf
      refine lv_iload hx hb dX4_way_7 (lv_at hl 3 rfl) ?_
      refine lv_bipush (v := 9) hx hb dX4_way_9 (by decide) ?_
      refine lv_icmp_ge (tgt := 37) hx hb dX4_way_11 (by decide) (fun c2 => ?_) (fun c2 => ?_)
      · have hf := if_t hf c2
        refine lv_bipush (v := (-4)) hx hb dX4_way_37 (by decide) ?_
        exact g_iret hx hb hr hlk hP hS (ret1 hf) dX4_way_39
      · have hf := if_f hf c2
        refine lv_iload_n hx hb dX4_way_14 rfl (lv_at hl 2 rfl) ?_
        refine lv_iload_n hx hb dX4_way_15 rfl (lv_at hl 1 rfl) ?_
        refine lv_ishr hx hb dX4_way_16 ?_
        refine lv_iconst (v := 1) hx hb dX4_way_17 (by decide) ?_
        refine lv_iand hx hb dX4_way_18 ?_
        refine lv_if_eq (tgt := 25) hx hb dX4_way_19 (by decide) (fun c3 => ?_) (fun c3 => ?_)
        · have hf := if_t hf c3
          refine lv_aload_n hx hb dX4_way_25 rfl (lv_at hl 0 rfl) ?_
          refine lv_iload_n hx hb dX4_way_26 rfl (lv_at hl 2 rfl) ?_
          obtain ⟨q4, hq4, hf⟩ := bind_s hf
          refine g_callV (As := [.int v3]) (rest := []) hx hb hml hown hts hK hN (m_X4_widened l D a C ha h v0 v3 hv0 q4 hq4) (cwV 1 hts gX4_way_X4_widened rfl rfl rfl kdX4_widened ⟨Nat.le_of_ble_eq_true rfl, Nat.le_of_ble_eq_true rfl⟩) (lin_O hv0) rfl rfl hP hS hA rfl hl.1 rfl (Nat.le_of_ble_eq_true rfl) dX4_way_27 ⟨Nat.le_refl _, Nat.le_refl _⟩ (fun H locs hP hS => ?_)
          refine W.eq (g2 := F0 m 30 ls [.int q4]) rfl ?_
          refine lv_istore_n (lv' := [(3, .int q4), (0, .ref (a v0)), (2, .int v2), (4, .int v4)]) hx hb dX4_way_30 rfl hl (by decide) rfl (fun ls hl => ?_)
          obtain ⟨x5, ex5⟩ : ∃ y : Int32, y = (v4 + 1) := ⟨_, rfl⟩
          have hf := nm_s hf ex5
          refine lv_iinc (v := x5) (lv' := [(4, .int x5), (3, .int q4), (0, .ref (a v0)), (2, .int v2)]) hx hb dX4_way_31 hl (k := 3) rfl (by rw [ex5]; rfl) (by decide) rfl (fun ls hl => ?_)
          refine lv_goto (tgt := 7) hx hb dX4_way_34 (by decide) ?_
          exact ih q4 x5 hf H locs ls hP hS (lv_sub hl [2, 3, 1, 0] rfl)
        · have hf := if_f hf c3
          refine lv_iload hx hb dX4_way_22 (lv_at hl 3 rfl) ?_
          exact g_iret hx hb hr hlk hP hS (ret1 hf) dX4_way_24
  unfold X4_way at hf
  suffices hh : ∀ (H : Heap) (locs : List Loc), va_P D vwCl (gw a C h) H → va_S (gA a) s.heap H locs → W p l e (headSpec wsX4_way rmX4_way).room s m ([.ref (a v0), .int v1, .int v2] : List Value).toArray below meth c H locs 0 0 (MQ below (gQ (some (.int r)) D a C h) ([.ref (a v0), .int v1, .int v2] : List Value).toArray s 0 0 (gA a)) (F0 m 0 ls []) from hh _ _ hP hS
  intro H locs hP hS
  refine lv_iconst (v := 1) hx hb dX4_way_0 (by decide) ?_
  refine lv_iload_n hx hb dX4_way_1 rfl (lv_at hl 1 rfl) ?_
  refine lv_ishl hx hb dX4_way_2 ?_
  refine lv_topi (fun x1 ex1 => ?_)
  have hf := nm_s hf ex1
  refine lv_istore_n (lv' := [(3, .int x1), (0, .ref (a v0)), (1, .int v1), (2, .int v2)]) hx hb dX4_way_3 rfl hl (by decide) rfl (fun ls hl => ?_)
  refine lv_iconst (v := 0) hx hb dX4_way_4 (by decide) ?_
  refine lv_istore (lv' := [(4, .int 0), (3, .int x1), (0, .ref (a v0)), (1, .int v1), (2, .int v2)]) hx hb dX4_way_5 hl (by decide) rfl (fun ls hl => ?_)
  exact J7 FU x1 0 hf H locs ls hP hS (lv_sub hl [2, 4, 1, 0] rfl)

def X4_widest_B16 (h : HS) (v0 : Nat) (k4 : Int32 → Int32 → Option Int32) : Nat → Int32 → Int32 → Int32 → Option Int32
  | 0, _, _, _ => none
  | fu + 1, v1, v2, v3 =>
    (if (fI h v0 0) ≤ v3 then
    nm (v2 + 1) fun x4 =>
    k4 v1 x4
    else
    (X4_way h v0 v2 v3).bind fun q5 =>
    nm (if v1 < q5 then q5 else v1) fun x6 =>
    nm (v3 + 1) fun x7 =>
    (X4_widest_B16 h v0 k4 fu) x6 v2 x7)
def X4_widest_B4 (h : HS) (v0 : Nat) : Nat → Int32 → Int32 → Option Int32
  | 0, _, _ => none
  | fu + 1, v1, v2 =>
    (if (fI h v0 0) ≤ v2 then
    some v1
    else
    nm (v2 + 1) fun x2 =>
    X4_widest_B16 h v0 (X4_widest_B4 h v0 fu) FU v1 v2 x2)
def X4_widest (h : HS) (v0 : Nat) : Option Int32 :=
    X4_widest_B4 h v0 FU 0 0
def rmX4_widest : Room := { frames := 3, cells := 0, slots := 0, locals := 68 }
theorem kdX4_widest : yX4_widest.cls = RX4 ∧ yX4_widest.cls ≠ "java/lang/invoke/MethodHandle" ∧ yX4_widest.cls ≠ "java/lang/invoke/VarHandle" ∧ (parseMethodDescriptor yX4_widest.desc).map (fun d => d.parameters.length) = some 0 := by decide +kernel
set_option maxHeartbeats 4000000 in
set_option maxRecDepth 100000 in
theorem m_X4_widest (l : Launch) (D : va_G) (a : Nat → Nat) (C : Nat → ClassId) (ha : ginj a) (h : HS) (v0 : Nat) (hv0 : isLin v0) (r : Int32) (hf : X4_widest h v0 = some r) : gM l yX4_widest wsX4_widest rmX4_widest D a C [.ref (a v0)] h (some (.int r)) h := by
  refine g_start (av := [.ref (a v0)]) (cc := cX4_widest) (maxL := 4) (rt := (some .int)) (by decide) rfl (Nat.le_of_ble_eq_true rfl) ?_
  intro p e s m below meth c hx hb hr hml hown hlk hts hP hK hN ls hl
  have hA : ∀ q, gA a q → gA a q := fun _ q => q
  have hS : va_S (gA a) s.heap s.heap [] := va_S.rf
  have hl : lv_has ls 4 [(0, .ref (a v0))] := hl
  have J16 : ∀ (k4 : Int32 → Int32 → Option Int32) (hk4 : ∀ (v1 : Int32) (v2 : Int32), k4 v1 v2 = some r → gG p l e (headSpec wsX4_widest rmX4_widest).room s m ([.ref (a v0)] : List Value).toArray below meth c (MQ below (gQ (some (.int r)) D a C h) ([.ref (a v0)] : List Value).toArray s 0 0 (gA a)) D a C 4 h 4 [(0, .ref (a v0)), (1, .int v1), (2, .int v2)] []) (fu : Nat) (v1 : Int32) (v2 : Int32) (v3 : Int32), X4_widest_B16 h v0 k4 fu v1 v2 v3 = some r → gG p l e (headSpec wsX4_widest rmX4_widest).room s m ([.ref (a v0)] : List Value).toArray below meth c (MQ below (gQ (some (.int r)) D a C h) ([.ref (a v0)] : List Value).toArray s 0 0 (gA a)) D a C 4 h 16 [(0, .ref (a v0)), (1, .int v1), (2, .int v2), (3, .int v3)] [] := by
    intro k4 hk4 fu
    induction fu with
    | zero => intro v1 v2 v3 hf; exact absurd hf (by simp [X4_widest_B16])
    | succ fu ih =>
      intro v1 v2 v3 hf H locs ls hP hS hl
      rw [X4_widest_B16] at hf
      refine lv_iload_n hx hb dX4_widest_16 rfl (lv_at hl 3 rfl) ?_
      refine lv_aload_n hx hb dX4_widest_17 rfl (lv_at hl 0 rfl) ?_
      refine g_get (Cn := RX4) (T := TX4) (N := 3) (v := .int (fI h v0 0)) (own := RX4) hx hb hown hts hK (lin_O hv0) rfl (fun _ hw => List.mem_cons_of_mem _ (List.mem_append_right _ hw)) 0 (by decide) (List.mem_of_getElem? (i := 1) rfl) rfl rfl hP dX4_widest_18 ?_
      refine lv_icmp_ge (tgt := 41) hx hb dX4_widest_21 (by decide) (fun c3 => ?_) (fun c3 => ?_)
      · have hf := if_t hf c3
        obtain ⟨x4, ex4⟩ : ∃ y : Int32, y = (v2 + 1) := ⟨_, rfl⟩
        have hf := nm_s hf ex4
        refine lv_iinc (v := x4) (lv' := [(2, .int x4), (0, .ref (a v0)), (1, .int v1), (3, .int v3)]) hx hb dX4_widest_41 hl (k := 2) rfl (by rw [ex4]; rfl) (by decide) rfl (fun ls hl => ?_)
        refine lv_goto (tgt := 4) hx hb dX4_widest_44 (by decide) ?_
        exact hk4 v1 x4 hf H locs ls hP hS (lv_sub hl [1, 2, 0] rfl)
      · have hf := if_f hf c3
        refine lv_iload_n hx hb dX4_widest_24 rfl (lv_at hl 1 rfl) ?_
        refine lv_aload_n hx hb dX4_widest_25 rfl (lv_at hl 0 rfl) ?_
        refine lv_iload_n hx hb dX4_widest_26 rfl (lv_at hl 2 rfl) ?_
        refine lv_iload_n hx hb dX4_widest_27 rfl (lv_at hl 3 rfl) ?_
        obtain ⟨q5, hq5, hf⟩ := bind_s hf
        refine g_callV (As := [.int v2, .int v3]) (rest := [.int v1]) hx hb hml hown hts hK hN (m_X4_way l D a C ha h v0 v2 v3 hv0 q5 hq5) (cwV 2 hts gX4_widest_X4_way rfl rfl rfl kdX4_way ⟨Nat.le_of_ble_eq_true rfl, Nat.le_of_ble_eq_true rfl⟩) (lin_O hv0) rfl rfl hP hS hA rfl hl.1 rfl (Nat.le_of_ble_eq_true rfl) dX4_widest_28 ⟨Nat.le_refl _, Nat.le_refl _⟩ (fun H locs hP hS => ?_)
        refine W.eq (g2 := F0 m 31 ls [.int q5, .int v1]) rfl ?_
        refine va_mmax hx hb (by rw [hml]; exact hl.1.symm) hown (hts _ (List.mem_of_getElem? (i := 2) rfl)) (hts _ (List.mem_of_getElem? (i := 3) rfl)) (hts _ (List.mem_of_getElem? (i := 4) rfl)) (hts _ (List.mem_of_getElem? (i := 5) rfl)) (Nat.le_of_ble_eq_true rfl) (Nat.le_of_ble_eq_true rfl) (Nat.zero_le _) (Nat.zero_le _) dX4_widest_31 ?_
        refine lv_topi (fun x6 ex6 => ?_)
        have hf := nm_s hf ex6
        refine lv_istore_n (lv' := [(1, .int x6), (0, .ref (a v0)), (2, .int v2), (3, .int v3)]) hx hb dX4_widest_34 rfl hl (by decide) rfl (fun ls hl => ?_)
        obtain ⟨x7, ex7⟩ : ∃ y : Int32, y = (v3 + 1) := ⟨_, rfl⟩
        have hf := nm_s hf ex7
        refine lv_iinc (v := x7) (lv' := [(3, .int x7), (1, .int x6), (0, .ref (a v0)), (2, .int v2)]) hx hb dX4_widest_35 hl (k := 3) rfl (by rw [ex7]; rfl) (by decide) rfl (fun ls hl => ?_)
        refine lv_goto (tgt := 16) hx hb dX4_widest_38 (by decide) ?_
        exact ih x6 v2 x7 hf H locs ls hP hS (lv_sub hl [2, 1, 3, 0] rfl)
  have J4 : ∀ (fu : Nat) (v1 : Int32) (v2 : Int32), X4_widest_B4 h v0 fu v1 v2 = some r → gG p l e (headSpec wsX4_widest rmX4_widest).room s m ([.ref (a v0)] : List Value).toArray below meth c (MQ below (gQ (some (.int r)) D a C h) ([.ref (a v0)] : List Value).toArray s 0 0 (gA a)) D a C 4 h 4 [(0, .ref (a v0)), (1, .int v1), (2, .int v2)] [] := by
    intro fu
    induction fu with
    | zero => intro v1 v2 hf; exact absurd hf (by simp [X4_widest_B4])
    | succ fu ih =>
      intro v1 v2 hf H locs ls hP hS hl
      rw [X4_widest_B4] at hf
      refine lv_iload_n hx hb dX4_widest_4 rfl (lv_at hl 2 rfl) ?_
      refine lv_aload_n hx hb dX4_widest_5 rfl (lv_at hl 0 rfl) ?_
      refine g_get (Cn := RX4) (T := TX4) (N := 3) (v := .int (fI h v0 0)) (own := RX4) hx hb hown hts hK (lin_O hv0) rfl (fun _ hw => List.mem_cons_of_mem _ (List.mem_append_right _ hw)) 0 (by decide) (List.mem_of_getElem? (i := 1) rfl) rfl rfl hP dX4_widest_6 ?_
      refine lv_icmp_ge (tgt := 47) hx hb dX4_widest_9 (by decide) (fun c1 => ?_) (fun c1 => ?_)
      · have hf := if_t hf c1
        refine lv_iload_n hx hb dX4_widest_47 rfl (lv_at hl 1 rfl) ?_
        exact g_iret hx hb hr hlk hP hS (ret1 hf) dX4_widest_48
      · have hf := if_f hf c1
        refine lv_iload_n hx hb dX4_widest_12 rfl (lv_at hl 2 rfl) ?_
        refine lv_iconst (v := 1) hx hb dX4_widest_13 (by decide) ?_
        refine lv_iadd hx hb dX4_widest_14 ?_
        refine lv_topi (fun x2 ex2 => ?_)
        have hf := nm_s hf ex2
        refine lv_istore_n (lv' := [(3, .int x2), (0, .ref (a v0)), (1, .int v1), (2, .int v2)]) hx hb dX4_widest_15 rfl hl (by decide) rfl (fun ls hl => ?_)
        exact J16 (X4_widest_B4 h v0 fu) ih FU v1 v2 x2 hf H locs ls hP hS (lv_sub hl [1, 2, 3, 0] rfl)
  unfold X4_widest at hf
  suffices hh : ∀ (H : Heap) (locs : List Loc), va_P D vwCl (gw a C h) H → va_S (gA a) s.heap H locs → W p l e (headSpec wsX4_widest rmX4_widest).room s m ([.ref (a v0)] : List Value).toArray below meth c H locs 0 0 (MQ below (gQ (some (.int r)) D a C h) ([.ref (a v0)] : List Value).toArray s 0 0 (gA a)) (F0 m 0 ls []) from hh _ _ hP hS
  intro H locs hP hS
  refine lv_iconst (v := 0) hx hb dX4_widest_0 (by decide) ?_
  refine lv_istore_n (lv' := [(1, .int 0), (0, .ref (a v0))]) hx hb dX4_widest_1 rfl hl (by decide) rfl (fun ls hl => ?_)
  refine lv_iconst (v := 0) hx hb dX4_widest_2 (by decide) ?_
  refine lv_istore_n (lv' := [(2, .int 0), (1, .int 0), (0, .ref (a v0))]) hx hb dX4_widest_3 rfl hl (by decide) rfl (fun ls hl => ?_)
  exact J4 FU 0 0 hf H locs ls hP hS (lv_sub hl [2, 1, 0] rfl)

def X4_parts_B59 (h : HS) (v0 : Nat) (k6 : Int32 → Int32 → Int32 → Option Int32) (v1 : Int32) (v2 : Int32) (v3 : Int32) : Option Int32 :=
    nm (v3 + 1) fun x9 =>
    k6 v1 v2 x9
def X4_parts_B33 (h : HS) (v0 : Nat) (k6 : Int32 → Int32 → Int32 → Option Int32) : Nat → Int32 → Int32 → Int32 → Int32 → Int32 → Option Int32
  | 0, _, _, _, _, _ => none
  | fu + 1, v1, v2, v3, v4, v5 =>
    (if 9 ≤ v5 then
    nm (v1 ||| v4) fun x6 =>
    X4_parts_B59 h v0 k6 x6 v2 v3
    else
    (X4_widened h v0 v4).bind fun q7 =>
    nm (v5 + 1) fun x8 =>
    (X4_parts_B33 h v0 k6 fu) v1 v2 v3 q7 x8)
def X4_parts_B6 (h : HS) (v0 : Nat) : Nat → Int32 → Int32 → Int32 → Option Int32
  | 0, _, _, _ => none
  | fu + 1, v1, v2, v3 =>
    (if (fI h v0 0) ≤ v3 then
    some v2
    else
    (if ((v1 >>> (v3 &&& 31)) &&& 1) = 0 then
    nm (v2 + 1) fun x3 =>
    nm ((1 : Int32) <<< (v3 &&& 31)) fun x4 =>
    X4_parts_B33 h v0 (X4_parts_B6 h v0 fu) FU v1 x3 v3 x4 0
    else
    X4_parts_B59 h v0 (X4_parts_B6 h v0 fu) v1 v2 v3))
def X4_parts (h : HS) (v0 : Nat) : Option Int32 :=
    X4_parts_B6 h v0 FU 0 0 0
def rmX4_parts : Room := { frames := 2, cells := 0, slots := 0, locals := 44 }
theorem kdX4_parts : yX4_parts.cls = RX4 ∧ yX4_parts.cls ≠ "java/lang/invoke/MethodHandle" ∧ yX4_parts.cls ≠ "java/lang/invoke/VarHandle" ∧ (parseMethodDescriptor yX4_parts.desc).map (fun d => d.parameters.length) = some 0 := by decide +kernel
set_option maxHeartbeats 4000000 in
set_option maxRecDepth 100000 in
theorem m_X4_parts (l : Launch) (D : va_G) (a : Nat → Nat) (C : Nat → ClassId) (ha : ginj a) (h : HS) (v0 : Nat) (hv0 : isLin v0) (r : Int32) (hf : X4_parts h v0 = some r) : gM l yX4_parts wsX4_parts rmX4_parts D a C [.ref (a v0)] h (some (.int r)) h := by
  refine g_start (av := [.ref (a v0)]) (cc := cX4_parts) (maxL := 6) (rt := (some .int)) (by decide) rfl (Nat.le_of_ble_eq_true rfl) ?_
  intro p e s m below meth c hx hb hr hml hown hlk hts hP hK hN ls hl
  have hA : ∀ q, gA a q → gA a q := fun _ q => q
  have hS : va_S (gA a) s.heap s.heap [] := va_S.rf
  have hl : lv_has ls 6 [(0, .ref (a v0))] := hl
  have J59 : ∀ (k6 : Int32 → Int32 → Int32 → Option Int32) (hk6 : ∀ (v1 : Int32) (v2 : Int32) (v3 : Int32), k6 v1 v2 v3 = some r → gG p l e (headSpec wsX4_parts rmX4_parts).room s m ([.ref (a v0)] : List Value).toArray below meth c (MQ below (gQ (some (.int r)) D a C h) ([.ref (a v0)] : List Value).toArray s 0 0 (gA a)) D a C 6 h 6 [(0, .ref (a v0)), (1, .int v1), (2, .int v2), (3, .int v3)] []) (v1 : Int32) (v2 : Int32) (v3 : Int32) (_ : X4_parts_B59 h v0 k6 v1 v2 v3 = some r), gG p l e (headSpec wsX4_parts rmX4_parts).room s m ([.ref (a v0)] : List Value).toArray below meth c (MQ below (gQ (some (.int r)) D a C h) ([.ref (a v0)] : List Value).toArray s 0 0 (gA a)) D a C 6 h 59 [(0, .ref (a v0)), (1, .int v1), (2, .int v2), (3, .int v3)] [] := by
    intro k6 hk6 v1 v2 v3 hf H locs ls hP hS hl
    unfold X4_parts_B59 at hf
    obtain ⟨x9, ex9⟩ : ∃ y : Int32, y = (v3 + 1) := ⟨_, rfl⟩
    have hf := nm_s hf ex9
    refine lv_iinc (v := x9) (lv' := [(3, .int x9), (0, .ref (a v0)), (1, .int v1), (2, .int v2)]) hx hb dX4_parts_59 hl (k := 3) rfl (by rw [ex9]; rfl) (by decide) rfl (fun ls hl => ?_)
    refine lv_goto (tgt := 6) hx hb dX4_parts_62 (by decide) ?_
    exact hk6 v1 v2 x9 hf H locs ls hP hS (lv_sub hl [1, 2, 3, 0] rfl)
  have J33 : ∀ (k6 : Int32 → Int32 → Int32 → Option Int32) (hk6 : ∀ (v1 : Int32) (v2 : Int32) (v3 : Int32), k6 v1 v2 v3 = some r → gG p l e (headSpec wsX4_parts rmX4_parts).room s m ([.ref (a v0)] : List Value).toArray below meth c (MQ below (gQ (some (.int r)) D a C h) ([.ref (a v0)] : List Value).toArray s 0 0 (gA a)) D a C 6 h 6 [(0, .ref (a v0)), (1, .int v1), (2, .int v2), (3, .int v3)] []) (fu : Nat) (v1 : Int32) (v2 : Int32) (v3 : Int32) (v4 : Int32) (v5 : Int32), X4_parts_B33 h v0 k6 fu v1 v2 v3 v4 v5 = some r → gG p l e (headSpec wsX4_parts rmX4_parts).room s m ([.ref (a v0)] : List Value).toArray below meth c (MQ below (gQ (some (.int r)) D a C h) ([.ref (a v0)] : List Value).toArray s 0 0 (gA a)) D a C 6 h 33 [(0, .ref (a v0)), (1, .int v1), (2, .int v2), (3, .int v3), (4, .int v4), (5, .int v5)] [] := by
    intro k6 hk6 fu
    induction fu with
    | zero => intro v1 v2 v3 v4 v5 hf; exact absurd hf (by simp [X4_parts_B33])
    | succ fu ih =>
      intro v1 v2 v3 v4 v5 hf H locs ls hP hS hl
      rw [X4_parts_B33] at hf
      refine lv_iload hx hb dX4_parts_33 (lv_at hl 5 rfl) ?_
      refine lv_bipush (v := 9) hx hb dX4_parts_35 (by decide) ?_
      refine lv_icmp_ge (tgt := 54) hx hb dX4_parts_37 (by decide) (fun c5 => ?_) (fun c5 => ?_)
      · have hf := if_t hf c5
        refine lv_iload_n hx hb dX4_parts_54 rfl (lv_at hl 1 rfl) ?_
        refine lv_iload hx hb dX4_parts_55 (lv_at hl 4 rfl) ?_
        refine lv_ior hx hb dX4_parts_57 ?_
        refine lv_topi (fun x6 ex6 => ?_)
        have hf := nm_s hf ex6
        refine lv_istore_n (lv' := [(1, .int x6), (0, .ref (a v0)), (2, .int v2), (3, .int v3), (4, .int v4), (5, .int v5)]) hx hb dX4_parts_58 rfl hl (by decide) rfl (fun ls hl => ?_)
        exact J59 k6 hk6 x6 v2 v3 hf H locs ls hP hS (lv_sub hl [1, 0, 2, 3] rfl)
      · have hf := if_f hf c5
        refine lv_aload_n hx hb dX4_parts_40 rfl (lv_at hl 0 rfl) ?_
        refine lv_iload hx hb dX4_parts_41 (lv_at hl 4 rfl) ?_
        obtain ⟨q7, hq7, hf⟩ := bind_s hf
        refine g_callV (As := [.int v4]) (rest := []) hx hb hml hown hts hK hN (m_X4_widened l D a C ha h v0 v4 hv0 q7 hq7) (cwV 1 hts gX4_parts_X4_widened rfl rfl rfl kdX4_widened ⟨Nat.le_of_ble_eq_true rfl, Nat.le_of_ble_eq_true rfl⟩) (lin_O hv0) rfl rfl hP hS hA rfl hl.1 rfl (Nat.le_of_ble_eq_true rfl) dX4_parts_43 ⟨Nat.le_refl _, Nat.le_refl _⟩ (fun H locs hP hS => ?_)
        refine W.eq (g2 := F0 m 46 ls [.int q7]) rfl ?_
        refine lv_istore (lv' := [(4, .int q7), (0, .ref (a v0)), (1, .int v1), (2, .int v2), (3, .int v3), (5, .int v5)]) hx hb dX4_parts_46 hl (by decide) rfl (fun ls hl => ?_)
        obtain ⟨x8, ex8⟩ : ∃ y : Int32, y = (v5 + 1) := ⟨_, rfl⟩
        have hf := nm_s hf ex8
        refine lv_iinc (v := x8) (lv' := [(5, .int x8), (4, .int q7), (0, .ref (a v0)), (1, .int v1), (2, .int v2), (3, .int v3)]) hx hb dX4_parts_48 hl (k := 5) rfl (by rw [ex8]; rfl) (by decide) rfl (fun ls hl => ?_)
        refine lv_goto (tgt := 33) hx hb dX4_parts_51 (by decide) ?_
        exact ih v1 v2 v3 q7 x8 hf H locs ls hP hS (lv_sub hl [2, 3, 4, 5, 1, 0] rfl)
  have J6 : ∀ (fu : Nat) (v1 : Int32) (v2 : Int32) (v3 : Int32), X4_parts_B6 h v0 fu v1 v2 v3 = some r → gG p l e (headSpec wsX4_parts rmX4_parts).room s m ([.ref (a v0)] : List Value).toArray below meth c (MQ below (gQ (some (.int r)) D a C h) ([.ref (a v0)] : List Value).toArray s 0 0 (gA a)) D a C 6 h 6 [(0, .ref (a v0)), (1, .int v1), (2, .int v2), (3, .int v3)] [] := by
    intro fu
    induction fu with
    | zero => intro v1 v2 v3 hf; exact absurd hf (by simp [X4_parts_B6])
    | succ fu ih =>
      intro v1 v2 v3 hf H locs ls hP hS hl
      rw [X4_parts_B6] at hf
      refine lv_iload_n hx hb dX4_parts_6 rfl (lv_at hl 3 rfl) ?_
      refine lv_aload_n hx hb dX4_parts_7 rfl (lv_at hl 0 rfl) ?_
      refine g_get (Cn := RX4) (T := TX4) (N := 3) (v := .int (fI h v0 0)) (own := RX4) hx hb hown hts hK (lin_O hv0) rfl (fun _ hw => List.mem_cons_of_mem _ (List.mem_append_right _ hw)) 0 (by decide) (List.mem_of_getElem? (i := 1) rfl) rfl rfl hP dX4_parts_8 ?_
      refine lv_icmp_ge (tgt := 65) hx hb dX4_parts_11 (by decide) (fun c1 => ?_) (fun c1 => ?_)
      · have hf := if_t hf c1
        refine lv_iload_n hx hb dX4_parts_65 rfl (lv_at hl 2 rfl) ?_
        exact g_iret hx hb hr hlk hP hS (ret1 hf) dX4_parts_66
      · have hf := if_f hf c1
        refine lv_iload_n hx hb dX4_parts_14 rfl (lv_at hl 1 rfl) ?_
        refine lv_iload_n hx hb dX4_parts_15 rfl (lv_at hl 3 rfl) ?_
        refine lv_ishr hx hb dX4_parts_16 ?_
        refine lv_iconst (v := 1) hx hb dX4_parts_17 (by decide) ?_
        refine lv_iand hx hb dX4_parts_18 ?_
        refine lv_if_ne (tgt := 59) hx hb dX4_parts_19 (by decide) (fun c2 => ?_) (fun c2 => ?_)
        · have hf := if_f hf c2
          exact J59 (X4_parts_B6 h v0 fu) ih v1 v2 v3 hf H locs ls hP hS (lv_sub hl [0, 1, 2, 3] rfl)
        · have hf := if_t hf c2
          obtain ⟨x3, ex3⟩ : ∃ y : Int32, y = (v2 + 1) := ⟨_, rfl⟩
          have hf := nm_s hf ex3
          refine lv_iinc (v := x3) (lv' := [(2, .int x3), (0, .ref (a v0)), (1, .int v1), (3, .int v3)]) hx hb dX4_parts_22 hl (k := 2) rfl (by rw [ex3]; rfl) (by decide) rfl (fun ls hl => ?_)
          refine lv_iconst (v := 1) hx hb dX4_parts_25 (by decide) ?_
          refine lv_iload_n hx hb dX4_parts_26 rfl (lv_at hl 3 rfl) ?_
          refine lv_ishl hx hb dX4_parts_27 ?_
          refine lv_topi (fun x4 ex4 => ?_)
          have hf := nm_s hf ex4
          refine lv_istore (lv' := [(4, .int x4), (2, .int x3), (0, .ref (a v0)), (1, .int v1), (3, .int v3)]) hx hb dX4_parts_28 hl (by decide) rfl (fun ls hl => ?_)
          refine lv_iconst (v := 0) hx hb dX4_parts_30 (by decide) ?_
          refine lv_istore (lv' := [(5, .int 0), (4, .int x4), (2, .int x3), (0, .ref (a v0)), (1, .int v1), (3, .int v3)]) hx hb dX4_parts_31 hl (by decide) rfl (fun ls hl => ?_)
          exact J33 (X4_parts_B6 h v0 fu) ih FU v1 x3 v3 x4 0 hf H locs ls hP hS (lv_sub hl [3, 4, 2, 5, 1, 0] rfl)
  unfold X4_parts at hf
  suffices hh : ∀ (H : Heap) (locs : List Loc), va_P D vwCl (gw a C h) H → va_S (gA a) s.heap H locs → W p l e (headSpec wsX4_parts rmX4_parts).room s m ([.ref (a v0)] : List Value).toArray below meth c H locs 0 0 (MQ below (gQ (some (.int r)) D a C h) ([.ref (a v0)] : List Value).toArray s 0 0 (gA a)) (F0 m 0 ls []) from hh _ _ hP hS
  intro H locs hP hS
  refine lv_iconst (v := 0) hx hb dX4_parts_0 (by decide) ?_
  refine lv_istore_n (lv' := [(1, .int 0), (0, .ref (a v0))]) hx hb dX4_parts_1 rfl hl (by decide) rfl (fun ls hl => ?_)
  refine lv_iconst (v := 0) hx hb dX4_parts_2 (by decide) ?_
  refine lv_istore_n (lv' := [(2, .int 0), (1, .int 0), (0, .ref (a v0))]) hx hb dX4_parts_3 rfl hl (by decide) rfl (fun ls hl => ?_)
  refine lv_iconst (v := 0) hx hb dX4_parts_4 (by decide) ?_
  refine lv_istore_n (lv' := [(3, .int 0), (2, .int 0), (1, .int 0), (0, .ref (a v0))]) hx hb dX4_parts_5 rfl hl (by decide) rfl (fun ls hl => ?_)
  exact J6 FU 0 0 0 hf H locs ls hP hS (lv_sub hl [3, 2, 1, 0] rfl)

def X4_bridges_B66 (v0 : Nat) (k9 : Int32 → Int32 → Int32 → HS → Option (Int32 × HS)) (k22 : Int32 → Int32 → Int32 → Int32 → HS → Option (Int32 × HS)) (v1 : Int32) (v2 : Int32) (v3 : Int32) (v4 : Int32) (h : HS) : Option (Int32 × HS) :=
    nm (v4 + 1) fun x13 =>
    k22 v1 v2 v3 x13 h
def X4_bridges_B59 (v0 : Nat) (k9 : Int32 → Int32 → Int32 → HS → Option (Int32 × HS)) (k22 : Int32 → Int32 → Int32 → Int32 → HS → Option (Int32 × HS)) (v1 : Int32) (v2 : Int32) (v3 : Int32) (v4 : Int32) (h : HS) : Option (Int32 × HS) :=
    (X4_turn h v0 v3 v4).bind fun q12 =>
    X4_bridges_B66 v0 k9 k22 v1 v2 v3 v4 q12
def X4_bridges_B22 (v0 : Nat) (k9 : Int32 → Int32 → Int32 → HS → Option (Int32 × HS)) : Nat → Int32 → Int32 → Int32 → Int32 → HS → Option (Int32 × HS)
  | 0, _, _, _, _, _ => none
  | fu + 1, v1, v2, v3, v4, h =>
    (if (fI h v0 0) ≤ v4 then
    nm (v3 + 1) fun x5 =>
    k9 v1 v2 x5 h
    else
    (X4_between h v0 v3 v4).bind fun q6 =>
    (if q6 = 0 then
    X4_bridges_B66 v0 k9 (X4_bridges_B22 v0 k9 fu) v1 v2 v3 v4 h
    else
    (X4_turn h v0 v3 v4).bind fun q8 =>
    (X4_parts q8 v0).bind fun q9 =>
    (if q9 ≤ v1 then
    X4_bridges_B59 v0 k9 (X4_bridges_B22 v0 k9 fu) v1 v2 v3 v4 q8
    else
    nm (v2 + 1) fun x11 =>
    X4_bridges_B59 v0 k9 (X4_bridges_B22 v0 k9 fu) v1 x11 v3 v4 q8)))
def X4_bridges_B9 (v0 : Nat) : Nat → Int32 → Int32 → Int32 → HS → Option (Int32 × HS)
  | 0, _, _, _, _ => none
  | fu + 1, v1, v2, v3, h =>
    (if (fI h v0 0) ≤ v3 then
    some (v2, h)
    else
    nm (v3 + 1) fun x3 =>
    X4_bridges_B22 v0 (X4_bridges_B9 v0 fu) FU v1 v2 v3 x3 h)
def X4_bridges (h : HS) (v0 : Nat) : Option (Int32 × HS) :=
    (X4_parts h v0).bind fun q1 =>
    X4_bridges_B9 v0 FU q1 0 0 h
def rmX4_bridges : Room := { frames := 3, cells := 0, slots := 0, locals := 69 }
theorem kdX4_bridges : yX4_bridges.cls = RX4 ∧ yX4_bridges.cls ≠ "java/lang/invoke/MethodHandle" ∧ yX4_bridges.cls ≠ "java/lang/invoke/VarHandle" ∧ (parseMethodDescriptor yX4_bridges.desc).map (fun d => d.parameters.length) = some 0 := by decide +kernel
set_option maxHeartbeats 4000000 in
set_option maxRecDepth 100000 in
theorem m_X4_bridges (l : Launch) (D : va_G) (a : Nat → Nat) (C : Nat → ClassId) (ha : ginj a) (h : HS) (v0 : Nat) (hv0 : isLin v0) (r : Int32) (h' : HS) (hf : X4_bridges h v0 = some (r, h')) : gM l yX4_bridges wsX4_bridges rmX4_bridges D a C [.ref (a v0)] h (some (.int r)) h' := by
  refine g_start (av := [.ref (a v0)]) (cc := cX4_bridges) (maxL := 5) (rt := (some .int)) (by decide) rfl (Nat.le_of_ble_eq_true rfl) ?_
  intro p e s m below meth c hx hb hr hml hown hlk hts hP hK hN ls hl
  have hA : ∀ q, gA a q → gA a q := fun _ q => q
  have hS : va_S (gA a) s.heap s.heap [] := va_S.rf
  have hl : lv_has ls 5 [(0, .ref (a v0))] := hl
  have J66 : ∀ (k9 : Int32 → Int32 → Int32 → HS → Option (Int32 × HS)) (hk9 : ∀ (v1 : Int32) (v2 : Int32) (v3 : Int32) (h : HS), k9 v1 v2 v3 h = some (r, h') → gG p l e (headSpec wsX4_bridges rmX4_bridges).room s m ([.ref (a v0)] : List Value).toArray below meth c (MQ below (gQ (some (.int r)) D a C h') ([.ref (a v0)] : List Value).toArray s 0 0 (gA a)) D a C 5 h 9 [(0, .ref (a v0)), (1, .int v1), (2, .int v2), (3, .int v3)] []) (k22 : Int32 → Int32 → Int32 → Int32 → HS → Option (Int32 × HS)) (hk22 : ∀ (v1 : Int32) (v2 : Int32) (v3 : Int32) (v4 : Int32) (h : HS), k22 v1 v2 v3 v4 h = some (r, h') → gG p l e (headSpec wsX4_bridges rmX4_bridges).room s m ([.ref (a v0)] : List Value).toArray below meth c (MQ below (gQ (some (.int r)) D a C h') ([.ref (a v0)] : List Value).toArray s 0 0 (gA a)) D a C 5 h 22 [(0, .ref (a v0)), (1, .int v1), (2, .int v2), (3, .int v3), (4, .int v4)] []) (v1 : Int32) (v2 : Int32) (v3 : Int32) (v4 : Int32) (h : HS) (_ : X4_bridges_B66 v0 k9 k22 v1 v2 v3 v4 h = some (r, h')), gG p l e (headSpec wsX4_bridges rmX4_bridges).room s m ([.ref (a v0)] : List Value).toArray below meth c (MQ below (gQ (some (.int r)) D a C h') ([.ref (a v0)] : List Value).toArray s 0 0 (gA a)) D a C 5 h 66 [(0, .ref (a v0)), (1, .int v1), (2, .int v2), (3, .int v3), (4, .int v4)] [] := by
    intro k9 hk9 k22 hk22 v1 v2 v3 v4 h hf H locs ls hP hS hl
    unfold X4_bridges_B66 at hf
    obtain ⟨x13, ex13⟩ : ∃ y : Int32, y = (v4 + 1) := ⟨_, rfl⟩
    have hf := nm_s hf ex13
    refine lv_iinc (v := x13) (lv' := [(4, .int x13), (0, .ref (a v0)), (1, .int v1), (2, .int v2), (3, .int v3)]) hx hb dX4_bridges_66 hl (k := 4) rfl (by rw [ex13]; rfl) (by decide) rfl (fun ls hl => ?_)
    refine lv_goto (tgt := 22) hx hb dX4_bridges_69 (by decide) ?_
    exact hk22 v1 v2 v3 x13 h hf H locs ls hP hS (lv_sub hl [1, 2, 3, 4, 0] rfl)
  have J59 : ∀ (k9 : Int32 → Int32 → Int32 → HS → Option (Int32 × HS)) (hk9 : ∀ (v1 : Int32) (v2 : Int32) (v3 : Int32) (h : HS), k9 v1 v2 v3 h = some (r, h') → gG p l e (headSpec wsX4_bridges rmX4_bridges).room s m ([.ref (a v0)] : List Value).toArray below meth c (MQ below (gQ (some (.int r)) D a C h') ([.ref (a v0)] : List Value).toArray s 0 0 (gA a)) D a C 5 h 9 [(0, .ref (a v0)), (1, .int v1), (2, .int v2), (3, .int v3)] []) (k22 : Int32 → Int32 → Int32 → Int32 → HS → Option (Int32 × HS)) (hk22 : ∀ (v1 : Int32) (v2 : Int32) (v3 : Int32) (v4 : Int32) (h : HS), k22 v1 v2 v3 v4 h = some (r, h') → gG p l e (headSpec wsX4_bridges rmX4_bridges).room s m ([.ref (a v0)] : List Value).toArray below meth c (MQ below (gQ (some (.int r)) D a C h') ([.ref (a v0)] : List Value).toArray s 0 0 (gA a)) D a C 5 h 22 [(0, .ref (a v0)), (1, .int v1), (2, .int v2), (3, .int v3), (4, .int v4)] []) (v1 : Int32) (v2 : Int32) (v3 : Int32) (v4 : Int32) (h : HS) (_ : X4_bridges_B59 v0 k9 k22 v1 v2 v3 v4 h = some (r, h')), gG p l e (headSpec wsX4_bridges rmX4_bridges).room s m ([.ref (a v0)] : List Value).toArray below meth c (MQ below (gQ (some (.int r)) D a C h') ([.ref (a v0)] : List Value).toArray s 0 0 (gA a)) D a C 5 h 59 [(0, .ref (a v0)), (1, .int v1), (2, .int v2), (3, .int v3), (4, .int v4)] [] := by
    intro k9 hk9 k22 hk22 v1 v2 v3 v4 h hf H locs ls hP hS hl
    unfold X4_bridges_B59 at hf
    refine lv_aload_n hx hb dX4_bridges_59 rfl (lv_at hl 0 rfl) ?_
    refine lv_iload_n hx hb dX4_bridges_60 rfl (lv_at hl 3 rfl) ?_
    refine lv_iload hx hb dX4_bridges_61 (lv_at hl 4 rfl) ?_
    obtain ⟨q12, hq12, hf⟩ := bind_s hf
    refine g_callV (As := [.int v3, .int v4]) (rest := []) hx hb hml hown hts hK hN (m_X4_turn l D a C ha h v0 v3 v4 hv0 q12 hq12) (cwV 2 hts gX4_bridges_X4_turn rfl rfl rfl kdX4_turn ⟨Nat.le_of_ble_eq_true rfl, Nat.le_of_ble_eq_true rfl⟩) (lin_O hv0) rfl rfl hP hS hA rfl hl.1 rfl (Nat.le_of_ble_eq_true rfl) dX4_bridges_63 ⟨Nat.le_refl _, Nat.le_refl _⟩ (fun H locs hP hS => ?_)
    refine W.eq (g2 := F0 m 66 ls []) rfl ?_
    exact J66 k9 hk9 k22 hk22 v1 v2 v3 v4 q12 hf H locs ls hP hS (lv_sub hl [0, 1, 2, 3, 4] rfl)
  have J22 : ∀ (k9 : Int32 → Int32 → Int32 → HS → Option (Int32 × HS)) (hk9 : ∀ (v1 : Int32) (v2 : Int32) (v3 : Int32) (h : HS), k9 v1 v2 v3 h = some (r, h') → gG p l e (headSpec wsX4_bridges rmX4_bridges).room s m ([.ref (a v0)] : List Value).toArray below meth c (MQ below (gQ (some (.int r)) D a C h') ([.ref (a v0)] : List Value).toArray s 0 0 (gA a)) D a C 5 h 9 [(0, .ref (a v0)), (1, .int v1), (2, .int v2), (3, .int v3)] []) (fu : Nat) (v1 : Int32) (v2 : Int32) (v3 : Int32) (v4 : Int32) (h : HS), X4_bridges_B22 v0 k9 fu v1 v2 v3 v4 h = some (r, h') → gG p l e (headSpec wsX4_bridges rmX4_bridges).room s m ([.ref (a v0)] : List Value).toArray below meth c (MQ below (gQ (some (.int r)) D a C h') ([.ref (a v0)] : List Value).toArray s 0 0 (gA a)) D a C 5 h 22 [(0, .ref (a v0)), (1, .int v1), (2, .int v2), (3, .int v3), (4, .int v4)] [] := by
    intro k9 hk9 fu
    induction fu with
    | zero => intro v1 v2 v3 v4 h hf; exact absurd hf (by simp [X4_bridges_B22])
    | succ fu ih =>
      intro v1 v2 v3 v4 h hf H locs ls hP hS hl
      rw [X4_bridges_B22] at hf
      refine lv_iload hx hb dX4_bridges_22 (lv_at hl 4 rfl) ?_
      refine lv_aload_n hx hb dX4_bridges_24 rfl (lv_at hl 0 rfl) ?_
      refine g_get (Cn := RX4) (T := TX4) (N := 3) (v := .int (fI h v0 0)) (own := RX4) hx hb hown hts hK (lin_O hv0) rfl (fun _ hw => List.mem_cons_of_mem _ (List.mem_append_right _ hw)) 0 (by decide) (List.mem_of_getElem? (i := 1) rfl) rfl rfl hP dX4_bridges_25 ?_
      refine lv_icmp_ge (tgt := 72) hx hb dX4_bridges_28 (by decide) (fun c4 => ?_) (fun c4 => ?_)
      · have hf := if_t hf c4
        obtain ⟨x5, ex5⟩ : ∃ y : Int32, y = (v3 + 1) := ⟨_, rfl⟩
        have hf := nm_s hf ex5
        refine lv_iinc (v := x5) (lv' := [(3, .int x5), (0, .ref (a v0)), (1, .int v1), (2, .int v2), (4, .int v4)]) hx hb dX4_bridges_72 hl (k := 3) rfl (by rw [ex5]; rfl) (by decide) rfl (fun ls hl => ?_)
        refine lv_goto (tgt := 9) hx hb dX4_bridges_75 (by decide) ?_
        exact hk9 v1 v2 x5 h hf H locs ls hP hS (lv_sub hl [1, 2, 3, 0] rfl)
      · have hf := if_f hf c4
        refine lv_aload_n hx hb dX4_bridges_31 rfl (lv_at hl 0 rfl) ?_
        refine lv_iload_n hx hb dX4_bridges_32 rfl (lv_at hl 3 rfl) ?_
        refine lv_iload hx hb dX4_bridges_33 (lv_at hl 4 rfl) ?_
        obtain ⟨q6, hq6, hf⟩ := bind_s hf
        refine g_callV (As := [.int v3, .int v4]) (rest := []) hx hb hml hown hts hK hN (m_X4_between l D a C ha h v0 v3 v4 hv0 q6 hq6) (cwV 2 hts gX4_bridges_X4_between rfl rfl rfl kdX4_between ⟨Nat.le_of_ble_eq_true rfl, Nat.le_of_ble_eq_true rfl⟩) (lin_O hv0) rfl rfl hP hS hA rfl hl.1 rfl (Nat.le_of_ble_eq_true rfl) dX4_bridges_35 ⟨Nat.le_refl _, Nat.le_refl _⟩ (fun H locs hP hS => ?_)
        refine W.eq (g2 := F0 m 38 ls [.int q6]) rfl ?_
        refine lv_if_eq (tgt := 66) hx hb dX4_bridges_38 (by decide) (fun c7 => ?_) (fun c7 => ?_)
        · have hf := if_t hf c7
          exact J66 k9 hk9 (X4_bridges_B22 v0 k9 fu) ih v1 v2 v3 v4 h hf H locs ls hP hS (lv_sub hl [0, 1, 2, 3, 4] rfl)
        · have hf := if_f hf c7
          refine lv_aload_n hx hb dX4_bridges_41 rfl (lv_at hl 0 rfl) ?_
          refine lv_iload_n hx hb dX4_bridges_42 rfl (lv_at hl 3 rfl) ?_
          refine lv_iload hx hb dX4_bridges_43 (lv_at hl 4 rfl) ?_
          obtain ⟨q8, hq8, hf⟩ := bind_s hf
          refine g_callV (As := [.int v3, .int v4]) (rest := []) hx hb hml hown hts hK hN (m_X4_turn l D a C ha h v0 v3 v4 hv0 q8 hq8) (cwV 2 hts gX4_bridges_X4_turn rfl rfl rfl kdX4_turn ⟨Nat.le_of_ble_eq_true rfl, Nat.le_of_ble_eq_true rfl⟩) (lin_O hv0) rfl rfl hP hS hA rfl hl.1 rfl (Nat.le_of_ble_eq_true rfl) dX4_bridges_45 ⟨Nat.le_refl _, Nat.le_refl _⟩ (fun H locs hP hS => ?_)
          refine W.eq (g2 := F0 m 48 ls []) rfl ?_
          refine lv_aload_n hx hb dX4_bridges_48 rfl (lv_at hl 0 rfl) ?_
          obtain ⟨q9, hq9, hf⟩ := bind_s hf
          refine g_callV (As := []) (rest := []) hx hb hml hown hts hK hN (m_X4_parts l D a C ha q8 v0 hv0 q9 hq9) (cwV 0 hts gX4_bridges_X4_parts rfl rfl rfl kdX4_parts ⟨Nat.le_of_ble_eq_true rfl, Nat.le_of_ble_eq_true rfl⟩) (lin_O hv0) rfl rfl hP hS hA rfl hl.1 rfl (Nat.le_of_ble_eq_true rfl) dX4_bridges_49 ⟨Nat.le_refl _, Nat.le_refl _⟩ (fun H locs hP hS => ?_)
          refine W.eq (g2 := F0 m 52 ls [.int q9]) rfl ?_
          refine lv_iload_n hx hb dX4_bridges_52 rfl (lv_at hl 1 rfl) ?_
          refine lv_icmp_le (tgt := 59) hx hb dX4_bridges_53 (by decide) (fun c10 => ?_) (fun c10 => ?_)
          · have hf := if_t hf c10
            exact J59 k9 hk9 (X4_bridges_B22 v0 k9 fu) ih v1 v2 v3 v4 q8 hf H locs ls hP hS (lv_sub hl [0, 1, 2, 3, 4] rfl)
          · have hf := if_f hf c10
            obtain ⟨x11, ex11⟩ : ∃ y : Int32, y = (v2 + 1) := ⟨_, rfl⟩
            have hf := nm_s hf ex11
            refine lv_iinc (v := x11) (lv' := [(2, .int x11), (0, .ref (a v0)), (1, .int v1), (3, .int v3), (4, .int v4)]) hx hb dX4_bridges_56 hl (k := 2) rfl (by rw [ex11]; rfl) (by decide) rfl (fun ls hl => ?_)
            exact J59 k9 hk9 (X4_bridges_B22 v0 k9 fu) ih v1 x11 v3 v4 q8 hf H locs ls hP hS (lv_sub hl [1, 2, 0, 3, 4] rfl)
  have J9 : ∀ (fu : Nat) (v1 : Int32) (v2 : Int32) (v3 : Int32) (h : HS), X4_bridges_B9 v0 fu v1 v2 v3 h = some (r, h') → gG p l e (headSpec wsX4_bridges rmX4_bridges).room s m ([.ref (a v0)] : List Value).toArray below meth c (MQ below (gQ (some (.int r)) D a C h') ([.ref (a v0)] : List Value).toArray s 0 0 (gA a)) D a C 5 h 9 [(0, .ref (a v0)), (1, .int v1), (2, .int v2), (3, .int v3)] [] := by
    intro fu
    induction fu with
    | zero => intro v1 v2 v3 h hf; exact absurd hf (by simp [X4_bridges_B9])
    | succ fu ih =>
      intro v1 v2 v3 h hf H locs ls hP hS hl
      rw [X4_bridges_B9] at hf
      refine lv_iload_n hx hb dX4_bridges_9 rfl (lv_at hl 3 rfl) ?_
      refine lv_aload_n hx hb dX4_bridges_10 rfl (lv_at hl 0 rfl) ?_
      refine g_get (Cn := RX4) (T := TX4) (N := 3) (v := .int (fI h v0 0)) (own := RX4) hx hb hown hts hK (lin_O hv0) rfl (fun _ hw => List.mem_cons_of_mem _ (List.mem_append_right _ hw)) 0 (by decide) (List.mem_of_getElem? (i := 1) rfl) rfl rfl hP dX4_bridges_11 ?_
      refine lv_icmp_ge (tgt := 78) hx hb dX4_bridges_14 (by decide) (fun c2 => ?_) (fun c2 => ?_)
      · have hf := if_t hf c2
        refine lv_iload_n hx hb dX4_bridges_78 rfl (lv_at hl 2 rfl) ?_
        exact g_iretW hx hb hr hlk hP hS (ret2 hf) dX4_bridges_79
      · have hf := if_f hf c2
        refine lv_iload_n hx hb dX4_bridges_17 rfl (lv_at hl 3 rfl) ?_
        refine lv_iconst (v := 1) hx hb dX4_bridges_18 (by decide) ?_
        refine lv_iadd hx hb dX4_bridges_19 ?_
        refine lv_topi (fun x3 ex3 => ?_)
        have hf := nm_s hf ex3
        refine lv_istore (lv' := [(4, .int x3), (0, .ref (a v0)), (1, .int v1), (2, .int v2), (3, .int v3)]) hx hb dX4_bridges_20 hl (by decide) rfl (fun ls hl => ?_)
        exact J22 (X4_bridges_B9 v0 fu) ih FU v1 v2 v3 x3 h hf H locs ls hP hS (lv_sub hl [1, 2, 3, 4, 0] rfl)
  unfold X4_bridges at hf
  suffices hh : ∀ (H : Heap) (locs : List Loc), va_P D vwCl (gw a C h) H → va_S (gA a) s.heap H locs → W p l e (headSpec wsX4_bridges rmX4_bridges).room s m ([.ref (a v0)] : List Value).toArray below meth c H locs 0 0 (MQ below (gQ (some (.int r)) D a C h') ([.ref (a v0)] : List Value).toArray s 0 0 (gA a)) (F0 m 0 ls []) from hh _ _ hP hS
  intro H locs hP hS
  refine lv_aload_n hx hb dX4_bridges_0 rfl (lv_at hl 0 rfl) ?_
  obtain ⟨q1, hq1, hf⟩ := bind_s hf
  refine g_callV (As := []) (rest := []) hx hb hml hown hts hK hN (m_X4_parts l D a C ha h v0 hv0 q1 hq1) (cwV 0 hts gX4_bridges_X4_parts rfl rfl rfl kdX4_parts ⟨Nat.le_of_ble_eq_true rfl, Nat.le_of_ble_eq_true rfl⟩) (lin_O hv0) rfl rfl hP hS hA rfl hl.1 rfl (Nat.le_of_ble_eq_true rfl) dX4_bridges_1 ⟨Nat.le_refl _, Nat.le_refl _⟩ (fun H locs hP hS => ?_)
  refine W.eq (g2 := F0 m 4 ls [.int q1]) rfl ?_
  refine lv_istore_n (lv' := [(1, .int q1), (0, .ref (a v0))]) hx hb dX4_bridges_4 rfl hl (by decide) rfl (fun ls hl => ?_)
  refine lv_iconst (v := 0) hx hb dX4_bridges_5 (by decide) ?_
  refine lv_istore_n (lv' := [(2, .int 0), (1, .int q1), (0, .ref (a v0))]) hx hb dX4_bridges_6 rfl hl (by decide) rfl (fun ls hl => ?_)
  refine lv_iconst (v := 0) hx hb dX4_bridges_7 (by decide) ?_
  refine lv_istore_n (lv' := [(3, .int 0), (2, .int 0), (1, .int q1), (0, .ref (a v0))]) hx hb dX4_bridges_8 rfl hl (by decide) rfl (fun ls hl => ?_)
  exact J9 FU q1 0 0 h hf H locs ls hP hS (lv_sub hl [3, 2, 1, 0] rfl)

def X4_alike_B50 (h : HS) (v0 : Nat) (v1 : Int32) (v2 : Int32) (k2 : Int32 → Option Int32) (v3 : Int32) : Option Int32 :=
    nm (v3 + 1) fun x7 =>
    k2 x7
def X4_alike_B45 (h : HS) (v0 : Nat) (v1 : Int32) (v2 : Int32) (k2 : Int32 → Option Int32) (v3 : Int32) (s0 : Int32) (s1 : Int32) : Option Int32 :=
    (if s1 = s0 then
    X4_alike_B50 h v0 v1 v2 k2 v3
    else
    some 0)
def X4_alike_B2 (h : HS) (v0 : Nat) (v1 : Int32) (v2 : Int32) : Nat → Int32 → Option Int32
  | 0, _ => none
  | fu + 1, v3 =>
    (if (fI h v0 0) ≤ v3 then
    some 1
    else
    (if ((v1 >>> (v3 &&& 31)) &&& 1) = 0 then
    X4_alike_B50 h v0 v1 v2 (X4_alike_B2 h v0 v1 v2 fu) v3
    else
    nm (v1 &&& (((1 : Int32) <<< (v3 &&& 31)) ^^^ (-1))) fun x3 =>
    (X4_around h v0 v3).bind fun q4 =>
    (if v2 = 0 then
    X4_alike_B45 h v0 v1 v2 (X4_alike_B2 h v0 v1 v2 fu) v3 0 (x3 &&& q4)
    else
    X4_alike_B45 h v0 v1 v2 (X4_alike_B2 h v0 v1 v2 fu) v3 x3 (x3 &&& q4))))
def X4_alike (h : HS) (v0 : Nat) (v1 : Int32) (v2 : Int32) : Option Int32 :=
    X4_alike_B2 h v0 v1 v2 FU 0
def rmX4_alike : Room := { frames := 1, cells := 0, slots := 0, locals := 21 }
theorem kdX4_alike : yX4_alike.cls = RX4 ∧ yX4_alike.cls ≠ "java/lang/invoke/MethodHandle" ∧ yX4_alike.cls ≠ "java/lang/invoke/VarHandle" ∧ (parseMethodDescriptor yX4_alike.desc).map (fun d => d.parameters.length) = some 2 := by decide +kernel
set_option maxHeartbeats 4000000 in
set_option maxRecDepth 100000 in
theorem m_X4_alike (l : Launch) (D : va_G) (a : Nat → Nat) (C : Nat → ClassId) (ha : ginj a) (h : HS) (v0 : Nat) (v1 : Int32) (v2 : Int32) (hv0 : isLin v0) (r : Int32) (hf : X4_alike h v0 v1 v2 = some r) : gM l yX4_alike wsX4_alike rmX4_alike D a C [.ref (a v0), .int v1, .int v2] h (some (.int r)) h := by
  refine g_start (av := [.ref (a v0), .int v1, .int v2]) (cc := cX4_alike) (maxL := 5) (rt := (some .boolean)) (by decide) rfl (Nat.le_of_ble_eq_true rfl) ?_
  intro p e s m below meth c hx hb hr hml hown hlk hts hP hK hN ls hl
  have hA : ∀ q, gA a q → gA a q := fun _ q => q
  have hS : va_S (gA a) s.heap s.heap [] := va_S.rf
  have hl : lv_has ls 5 [(0, .ref (a v0)), (1, .int v1), (2, .int v2)] := hl
  have J50 : ∀ (k2 : Int32 → Option Int32) (hk2 : ∀ (v3 : Int32), k2 v3 = some r → gG p l e (headSpec wsX4_alike rmX4_alike).room s m ([.ref (a v0), .int v1, .int v2] : List Value).toArray below meth c (MQ below (gQ (some (.int r)) D a C h) ([.ref (a v0), .int v1, .int v2] : List Value).toArray s 0 0 (gA a)) D a C 5 h 2 [(0, .ref (a v0)), (1, .int v1), (2, .int v2), (3, .int v3)] []) (v3 : Int32) (_ : X4_alike_B50 h v0 v1 v2 k2 v3 = some r), gG p l e (headSpec wsX4_alike rmX4_alike).room s m ([.ref (a v0), .int v1, .int v2] : List Value).toArray below meth c (MQ below (gQ (some (.int r)) D a C h) ([.ref (a v0), .int v1, .int v2] : List Value).toArray s 0 0 (gA a)) D a C 5 h 50 [(0, .ref (a v0)), (1, .int v1), (2, .int v2), (3, .int v3)] [] := by
    intro k2 hk2 v3 hf H locs ls hP hS hl
    unfold X4_alike_B50 at hf
    obtain ⟨x7, ex7⟩ : ∃ y : Int32, y = (v3 + 1) := ⟨_, rfl⟩
    have hf := nm_s hf ex7
    refine lv_iinc (v := x7) (lv' := [(3, .int x7), (0, .ref (a v0)), (1, .int v1), (2, .int v2)]) hx hb dX4_alike_50 hl (k := 3) rfl (by rw [ex7]; rfl) (by decide) rfl (fun ls hl => ?_)
    refine lv_goto (tgt := 2) hx hb dX4_alike_53 (by decide) ?_
    exact hk2 x7 hf H locs ls hP hS (lv_sub hl [1, 2, 3, 0] rfl)
  have J45 : ∀ (k2 : Int32 → Option Int32) (hk2 : ∀ (v3 : Int32), k2 v3 = some r → gG p l e (headSpec wsX4_alike rmX4_alike).room s m ([.ref (a v0), .int v1, .int v2] : List Value).toArray below meth c (MQ below (gQ (some (.int r)) D a C h) ([.ref (a v0), .int v1, .int v2] : List Value).toArray s 0 0 (gA a)) D a C 5 h 2 [(0, .ref (a v0)), (1, .int v1), (2, .int v2), (3, .int v3)] []) (v3 : Int32) (s0 : Int32) (s1 : Int32) (_ : X4_alike_B45 h v0 v1 v2 k2 v3 s0 s1 = some r), gG p l e (headSpec wsX4_alike rmX4_alike).room s m ([.ref (a v0), .int v1, .int v2] : List Value).toArray below meth c (MQ below (gQ (some (.int r)) D a C h) ([.ref (a v0), .int v1, .int v2] : List Value).toArray s 0 0 (gA a)) D a C 5 h 45 [(0, .ref (a v0)), (1, .int v1), (2, .int v2), (3, .int v3)] [.int s0, .int s1] := by
    intro k2 hk2 v3 s0 s1 hf H locs ls hP hS hl
    unfold X4_alike_B45 at hf
    refine lv_icmp_eq (tgt := 50) hx hb dX4_alike_45 (by decide) (fun c6 => ?_) (fun c6 => ?_)
    · have hf := if_t hf c6
      exact J50 k2 hk2 v3 hf H locs ls hP hS (lv_sub hl [0, 1, 2, 3] rfl)
    · have hf := if_f hf c6
      refine lv_iconst (v := 0) hx hb dX4_alike_48 (by decide) ?_
      exact g_zret hx hb hr hlk (by decide) hP hS (ret1 hf) dX4_alike_49
  have J2 : ∀ (fu : Nat) (v3 : Int32), X4_alike_B2 h v0 v1 v2 fu v3 = some r → gG p l e (headSpec wsX4_alike rmX4_alike).room s m ([.ref (a v0), .int v1, .int v2] : List Value).toArray below meth c (MQ below (gQ (some (.int r)) D a C h) ([.ref (a v0), .int v1, .int v2] : List Value).toArray s 0 0 (gA a)) D a C 5 h 2 [(0, .ref (a v0)), (1, .int v1), (2, .int v2), (3, .int v3)] [] := by
    intro fu
    induction fu with
    | zero => intro v3 hf; exact absurd hf (by simp [X4_alike_B2])
    | succ fu ih =>
      intro v3 hf H locs ls hP hS hl
      rw [X4_alike_B2] at hf
      refine lv_iload_n hx hb dX4_alike_2 rfl (lv_at hl 3 rfl) ?_
      refine lv_aload_n hx hb dX4_alike_3 rfl (lv_at hl 0 rfl) ?_
      refine g_get (Cn := RX4) (T := TX4) (N := 3) (v := .int (fI h v0 0)) (own := RX4) hx hb hown hts hK (lin_O hv0) rfl (fun _ hw => List.mem_cons_of_mem _ (List.mem_append_right _ hw)) 0 (by decide) (List.mem_of_getElem? (i := 1) rfl) rfl rfl hP dX4_alike_4 ?_
      refine lv_icmp_ge (tgt := 56) hx hb dX4_alike_7 (by decide) (fun c1 => ?_) (fun c1 => ?_)
      · have hf := if_t hf c1
        refine lv_iconst (v := 1) hx hb dX4_alike_56 (by decide) ?_
        exact g_zret hx hb hr hlk (by decide) hP hS (ret1 hf) dX4_alike_57
      · have hf := if_f hf c1
        refine lv_iload_n hx hb dX4_alike_10 rfl (lv_at hl 1 rfl) ?_
        refine lv_iload_n hx hb dX4_alike_11 rfl (lv_at hl 3 rfl) ?_
        refine lv_ishr hx hb dX4_alike_12 ?_
        refine lv_iconst (v := 1) hx hb dX4_alike_13 (by decide) ?_
        refine lv_iand hx hb dX4_alike_14 ?_
        refine lv_if_eq (tgt := 50) hx hb dX4_alike_15 (by decide) (fun c2 => ?_) (fun c2 => ?_)
        · have hf := if_t hf c2
          exact J50 (X4_alike_B2 h v0 v1 v2 fu) ih v3 hf H locs ls hP hS (lv_sub hl [0, 1, 2, 3] rfl)
        · have hf := if_f hf c2
          refine lv_iload_n hx hb dX4_alike_18 rfl (lv_at hl 1 rfl) ?_
          refine lv_iconst (v := 1) hx hb dX4_alike_19 (by decide) ?_
          refine lv_iload_n hx hb dX4_alike_20 rfl (lv_at hl 3 rfl) ?_
          refine lv_ishl hx hb dX4_alike_21 ?_
          refine lv_iconst (v := (-1)) hx hb dX4_alike_22 (by decide) ?_
          refine lv_ixor hx hb dX4_alike_23 ?_
          refine lv_iand hx hb dX4_alike_24 ?_
          refine lv_topi (fun x3 ex3 => ?_)
          have hf := nm_s hf ex3
          refine lv_istore (lv' := [(4, .int x3), (0, .ref (a v0)), (1, .int v1), (2, .int v2), (3, .int v3)]) hx hb dX4_alike_25 hl (by decide) rfl (fun ls hl => ?_)
          refine lv_iload hx hb dX4_alike_27 (lv_at hl 0 rfl) ?_
          refine lv_aload_n hx hb dX4_alike_29 rfl (lv_at hl 1 rfl) ?_
          refine lv_iload_n hx hb dX4_alike_30 rfl (lv_at hl 4 rfl) ?_
          obtain ⟨q4, hq4, hf⟩ := bind_s hf
          refine g_callV (As := [.int v3]) (rest := [.int x3]) hx hb hml hown hts hK hN (m_X4_around l D a C ha h v0 v3 hv0 q4 hq4) (cwV 1 hts gX4_alike_X4_around rfl rfl rfl kdX4_around ⟨Nat.le_of_ble_eq_true rfl, Nat.le_of_ble_eq_true rfl⟩) (lin_O hv0) rfl rfl hP hS hA rfl hl.1 rfl (Nat.le_of_ble_eq_true rfl) dX4_alike_31 ⟨Nat.le_refl _, Nat.le_refl _⟩ (fun H locs hP hS => ?_)
          refine W.eq (g2 := F0 m 34 ls [.int q4, .int x3]) rfl ?_
          refine lv_iand hx hb dX4_alike_34 ?_
          refine lv_iload_n hx hb dX4_alike_35 rfl (lv_at hl 3 rfl) ?_
          refine lv_if_eq (tgt := 44) hx hb dX4_alike_36 (by decide) (fun c5 => ?_) (fun c5 => ?_)
          · have hf := if_t hf c5
            refine lv_iconst (v := 0) hx hb dX4_alike_44 (by decide) ?_
            exact J45 (X4_alike_B2 h v0 v1 v2 fu) ih v3 0 (x3 &&& q4) hf H locs ls hP hS (lv_sub hl [1, 2, 3, 4] rfl)
          · have hf := if_f hf c5
            refine lv_iload hx hb dX4_alike_39 (lv_at hl 0 rfl) ?_
            refine lv_goto (tgt := 45) hx hb dX4_alike_41 (by decide) ?_
            exact J45 (X4_alike_B2 h v0 v1 v2 fu) ih v3 x3 (x3 &&& q4) hf H locs ls hP hS (lv_sub hl [1, 2, 3, 4] rfl)
  unfold X4_alike at hf
  suffices hh : ∀ (H : Heap) (locs : List Loc), va_P D vwCl (gw a C h) H → va_S (gA a) s.heap H locs → W p l e (headSpec wsX4_alike rmX4_alike).room s m ([.ref (a v0), .int v1, .int v2] : List Value).toArray below meth c H locs 0 0 (MQ below (gQ (some (.int r)) D a C h) ([.ref (a v0), .int v1, .int v2] : List Value).toArray s 0 0 (gA a)) (F0 m 0 ls []) from hh _ _ hP hS
  intro H locs hP hS
  refine lv_iconst (v := 0) hx hb dX4_alike_0 (by decide) ?_
  refine lv_istore_n (lv' := [(3, .int 0), (0, .ref (a v0)), (1, .int v1), (2, .int v2)]) hx hb dX4_alike_1 rfl hl (by decide) rfl (fun ls hl => ?_)
  exact J2 FU 0 hf H locs ls hP hS (lv_sub hl [1, 2, 3, 0] rfl)

def X4_mostAlike_B36 (h : HS) (v0 : Nat) (v1 : Int32) (k4 : Int32 → Int32 → Option Int32) (v2 : Int32) (v3 : Int32) : Option Int32 :=
    nm (v3 + 1) fun x7 =>
    k4 v2 x7
def X4_mostAlike_B4 (h : HS) (v0 : Nat) (v1 : Int32) : Nat → Int32 → Int32 → Option Int32
  | 0, _, _ => none
  | fu + 1, v2, v3 =>
    (if ((1 : Int32) <<< ((fI h v0 0) &&& 31)) ≤ v3 then
    some v2
    else
    (J6_bitCount_0f7a4 v3).bind fun q2 =>
    (J6_bitCount_0f7a4 v2).bind fun q3 =>
    (if q2 ≤ q3 then
    X4_mostAlike_B36 h v0 v1 (X4_mostAlike_B4 h v0 v1 fu) v2 v3
    else
    (X4_alike h v0 v3 v1).bind fun q5 =>
    (if q5 = 0 then
    X4_mostAlike_B36 h v0 v1 (X4_mostAlike_B4 h v0 v1 fu) v2 v3
    else
    X4_mostAlike_B36 h v0 v1 (X4_mostAlike_B4 h v0 v1 fu) v3 v3)))
def X4_mostAlike (h : HS) (v0 : Nat) (v1 : Int32) : Option Int32 :=
    X4_mostAlike_B4 h v0 v1 FU 0 1
def rmX4_mostAlike : Room := { frames := 2, cells := 0, slots := 0, locals := 45 }
theorem kdX4_mostAlike : yX4_mostAlike.cls = RX4 ∧ yX4_mostAlike.cls ≠ "java/lang/invoke/MethodHandle" ∧ yX4_mostAlike.cls ≠ "java/lang/invoke/VarHandle" ∧ (parseMethodDescriptor yX4_mostAlike.desc).map (fun d => d.parameters.length) = some 1 := by decide +kernel
set_option maxHeartbeats 4000000 in
set_option maxRecDepth 100000 in
theorem m_X4_mostAlike (l : Launch) (D : va_G) (a : Nat → Nat) (C : Nat → ClassId) (ha : ginj a) (h : HS) (v0 : Nat) (v1 : Int32) (hv0 : isLin v0) (r : Int32) (hf : X4_mostAlike h v0 v1 = some r) : gM l yX4_mostAlike wsX4_mostAlike rmX4_mostAlike D a C [.ref (a v0), .int v1] h (some (.int r)) h := by
  refine g_start (av := [.ref (a v0), .int v1]) (cc := cX4_mostAlike) (maxL := 4) (rt := (some .int)) (by decide) rfl (Nat.le_of_ble_eq_true rfl) ?_
  intro p e s m below meth c hx hb hr hml hown hlk hts hP hK hN ls hl
  have hA : ∀ q, gA a q → gA a q := fun _ q => q
  have hS : va_S (gA a) s.heap s.heap [] := va_S.rf
  have hl : lv_has ls 4 [(0, .ref (a v0)), (1, .int v1)] := hl
  have J36 : ∀ (k4 : Int32 → Int32 → Option Int32) (hk4 : ∀ (v2 : Int32) (v3 : Int32), k4 v2 v3 = some r → gG p l e (headSpec wsX4_mostAlike rmX4_mostAlike).room s m ([.ref (a v0), .int v1] : List Value).toArray below meth c (MQ below (gQ (some (.int r)) D a C h) ([.ref (a v0), .int v1] : List Value).toArray s 0 0 (gA a)) D a C 4 h 4 [(0, .ref (a v0)), (1, .int v1), (2, .int v2), (3, .int v3)] []) (v2 : Int32) (v3 : Int32) (_ : X4_mostAlike_B36 h v0 v1 k4 v2 v3 = some r), gG p l e (headSpec wsX4_mostAlike rmX4_mostAlike).room s m ([.ref (a v0), .int v1] : List Value).toArray below meth c (MQ below (gQ (some (.int r)) D a C h) ([.ref (a v0), .int v1] : List Value).toArray s 0 0 (gA a)) D a C 4 h 36 [(0, .ref (a v0)), (1, .int v1), (2, .int v2), (3, .int v3)] [] := by
    intro k4 hk4 v2 v3 hf H locs ls hP hS hl
    unfold X4_mostAlike_B36 at hf
    obtain ⟨x7, ex7⟩ : ∃ y : Int32, y = (v3 + 1) := ⟨_, rfl⟩
    have hf := nm_s hf ex7
    refine lv_iinc (v := x7) (lv' := [(3, .int x7), (0, .ref (a v0)), (1, .int v1), (2, .int v2)]) hx hb dX4_mostAlike_36 hl (k := 3) rfl (by rw [ex7]; rfl) (by decide) rfl (fun ls hl => ?_)
    refine lv_goto (tgt := 4) hx hb dX4_mostAlike_39 (by decide) ?_
    exact hk4 v2 x7 hf H locs ls hP hS (lv_sub hl [1, 2, 3, 0] rfl)
  have J4 : ∀ (fu : Nat) (v2 : Int32) (v3 : Int32), X4_mostAlike_B4 h v0 v1 fu v2 v3 = some r → gG p l e (headSpec wsX4_mostAlike rmX4_mostAlike).room s m ([.ref (a v0), .int v1] : List Value).toArray below meth c (MQ below (gQ (some (.int r)) D a C h) ([.ref (a v0), .int v1] : List Value).toArray s 0 0 (gA a)) D a C 4 h 4 [(0, .ref (a v0)), (1, .int v1), (2, .int v2), (3, .int v3)] [] := by
    intro fu
    induction fu with
    | zero => intro v2 v3 hf; exact absurd hf (by simp [X4_mostAlike_B4])
    | succ fu ih =>
      intro v2 v3 hf H locs ls hP hS hl
      rw [X4_mostAlike_B4] at hf
      refine lv_iload_n hx hb dX4_mostAlike_4 rfl (lv_at hl 3 rfl) ?_
      refine lv_iconst (v := 1) hx hb dX4_mostAlike_5 (by decide) ?_
      refine lv_aload_n hx hb dX4_mostAlike_6 rfl (lv_at hl 0 rfl) ?_
      refine g_get (Cn := RX4) (T := TX4) (N := 3) (v := .int (fI h v0 0)) (own := RX4) hx hb hown hts hK (lin_O hv0) rfl (fun _ hw => List.mem_cons_of_mem _ (List.mem_append_right _ hw)) 0 (by decide) (List.mem_of_getElem? (i := 1) rfl) rfl rfl hP dX4_mostAlike_7 ?_
      refine lv_ishl hx hb dX4_mostAlike_10 ?_
      refine lv_icmp_ge (tgt := 42) hx hb dX4_mostAlike_11 (by decide) (fun c1 => ?_) (fun c1 => ?_)
      · have hf := if_t hf c1
        refine lv_iload_n hx hb dX4_mostAlike_42 rfl (lv_at hl 2 rfl) ?_
        exact g_iret hx hb hr hlk hP hS (ret1 hf) dX4_mostAlike_43
      · have hf := if_f hf c1
        refine lv_iload_n hx hb dX4_mostAlike_14 rfl (lv_at hl 3 rfl) ?_
        obtain ⟨q2, hq2, hf⟩ := bind_s hf
        refine g_callS (As := [.int v3]) (rest := []) hx hb hml hown hts hK hN (m_J6_bitCount_0f7a4 l D a C ha h v3  q2 hq2) (va_cwS 1 hts gX4_mostAlike_J6_bitCount_0f7a4 rfl rfl rfl kdJ6_bitCount_0f7a4.2 ⟨Nat.le_of_ble_eq_true rfl, Nat.le_of_ble_eq_true rfl⟩) hP hS hA rfl hl.1 rfl (Nat.le_of_ble_eq_true rfl) dX4_mostAlike_15 ⟨Nat.le_refl _, Nat.le_refl _⟩ (fun H locs hP hS => ?_)
        refine W.eq (g2 := F0 m 18 ls [.int q2]) rfl ?_
        refine lv_iload_n hx hb dX4_mostAlike_18 rfl (lv_at hl 2 rfl) ?_
        obtain ⟨q3, hq3, hf⟩ := bind_s hf
        refine g_callS (As := [.int v2]) (rest := [.int q2]) hx hb hml hown hts hK hN (m_J6_bitCount_0f7a4 l D a C ha h v2  q3 hq3) (va_cwS 1 hts gX4_mostAlike_J6_bitCount_0f7a4 rfl rfl rfl kdJ6_bitCount_0f7a4.2 ⟨Nat.le_of_ble_eq_true rfl, Nat.le_of_ble_eq_true rfl⟩) hP hS hA rfl hl.1 rfl (Nat.le_of_ble_eq_true rfl) dX4_mostAlike_19 ⟨Nat.le_refl _, Nat.le_refl _⟩ (fun H locs hP hS => ?_)
        refine W.eq (g2 := F0 m 22 ls [.int q3, .int q2]) rfl ?_
        refine lv_icmp_le (tgt := 36) hx hb dX4_mostAlike_22 (by decide) (fun c4 => ?_) (fun c4 => ?_)
        · have hf := if_t hf c4
          exact J36 (X4_mostAlike_B4 h v0 v1 fu) ih v2 v3 hf H locs ls hP hS (lv_sub hl [0, 1, 2, 3] rfl)
        · have hf := if_f hf c4
          refine lv_aload_n hx hb dX4_mostAlike_25 rfl (lv_at hl 0 rfl) ?_
          refine lv_iload_n hx hb dX4_mostAlike_26 rfl (lv_at hl 3 rfl) ?_
          refine lv_iload_n hx hb dX4_mostAlike_27 rfl (lv_at hl 1 rfl) ?_
          obtain ⟨q5, hq5, hf⟩ := bind_s hf
          refine g_callV (As := [.int v3, .int v1]) (rest := []) hx hb hml hown hts hK hN (m_X4_alike l D a C ha h v0 v3 v1 hv0 q5 hq5) (cwV 2 hts gX4_mostAlike_X4_alike rfl rfl rfl kdX4_alike ⟨Nat.le_of_ble_eq_true rfl, Nat.le_of_ble_eq_true rfl⟩) (lin_O hv0) rfl rfl hP hS hA rfl hl.1 rfl (Nat.le_of_ble_eq_true rfl) dX4_mostAlike_28 ⟨Nat.le_refl _, Nat.le_refl _⟩ (fun H locs hP hS => ?_)
          refine W.eq (g2 := F0 m 31 ls [.int q5]) rfl ?_
          refine lv_if_eq (tgt := 36) hx hb dX4_mostAlike_31 (by decide) (fun c6 => ?_) (fun c6 => ?_)
          · have hf := if_t hf c6
            exact J36 (X4_mostAlike_B4 h v0 v1 fu) ih v2 v3 hf H locs ls hP hS (lv_sub hl [0, 1, 2, 3] rfl)
          · have hf := if_f hf c6
            refine lv_iload_n hx hb dX4_mostAlike_34 rfl (lv_at hl 3 rfl) ?_
            refine lv_istore_n (lv' := [(2, .int v3), (0, .ref (a v0)), (1, .int v1), (3, .int v3)]) hx hb dX4_mostAlike_35 rfl hl (by decide) rfl (fun ls hl => ?_)
            exact J36 (X4_mostAlike_B4 h v0 v1 fu) ih v3 v3 hf H locs ls hP hS (lv_sub hl [1, 2, 0, 3] rfl)
  unfold X4_mostAlike at hf
  suffices hh : ∀ (H : Heap) (locs : List Loc), va_P D vwCl (gw a C h) H → va_S (gA a) s.heap H locs → W p l e (headSpec wsX4_mostAlike rmX4_mostAlike).room s m ([.ref (a v0), .int v1] : List Value).toArray below meth c H locs 0 0 (MQ below (gQ (some (.int r)) D a C h) ([.ref (a v0), .int v1] : List Value).toArray s 0 0 (gA a)) (F0 m 0 ls []) from hh _ _ hP hS
  intro H locs hP hS
  refine lv_iconst (v := 0) hx hb dX4_mostAlike_0 (by decide) ?_
  refine lv_istore_n (lv' := [(2, .int 0), (0, .ref (a v0)), (1, .int v1)]) hx hb dX4_mostAlike_1 rfl hl (by decide) rfl (fun ls hl => ?_)
  refine lv_iconst (v := 1) hx hb dX4_mostAlike_2 (by decide) ?_
  refine lv_istore_n (lv' := [(3, .int 1), (2, .int 0), (0, .ref (a v0)), (1, .int v1)]) hx hb dX4_mostAlike_3 rfl hl (by decide) rfl (fun ls hl => ?_)
  exact J4 FU 0 1 hf H locs ls hP hS (lv_sub hl [2, 3, 1, 0] rfl)

def X4_bestOf (h : HS) (v0 : Nat) (v1 : Int32) : Option Int32 :=
    (if v1 < 0 then
    some 0
    else
    (if 512 ≤ v1 then
    some 0
    else
    gdi v1 512 <|
    some (aI h (v0 + 2) v1.toNatClampNeg)))
def rmX4_bestOf : Room := { frames := 0, cells := 0, slots := 0, locals := 0 }
theorem kdX4_bestOf : yX4_bestOf.cls = RX4 ∧ yX4_bestOf.cls ≠ "java/lang/invoke/MethodHandle" ∧ yX4_bestOf.cls ≠ "java/lang/invoke/VarHandle" ∧ (parseMethodDescriptor yX4_bestOf.desc).map (fun d => d.parameters.length) = some 1 := by decide +kernel
set_option maxHeartbeats 4000000 in
set_option maxRecDepth 100000 in
theorem m_X4_bestOf (l : Launch) (D : va_G) (a : Nat → Nat) (C : Nat → ClassId) (ha : ginj a) (h : HS) (v0 : Nat) (v1 : Int32) (hv0 : isLin v0) (r : Int32) (hf : X4_bestOf h v0 v1 = some r) : gM l yX4_bestOf wsX4_bestOf rmX4_bestOf D a C [.ref (a v0), .int v1] h (some (.int r)) h := by
  refine g_start (av := [.ref (a v0), .int v1]) (cc := cX4_bestOf) (maxL := 2) (rt := (some .int)) (by decide) rfl (Nat.le_of_ble_eq_true rfl) ?_
  intro p e s m below meth c hx hb hr hml hown hlk hts hP hK hN ls hl
  have hA : ∀ q, gA a q → gA a q := fun _ q => q
  have hS : va_S (gA a) s.heap s.heap [] := va_S.rf
  have hl : lv_has ls 2 [(0, .ref (a v0)), (1, .int v1)] := hl
  unfold X4_bestOf at hf
  refine lv_iload_n hx hb dX4_bestOf_0 rfl (lv_at hl 1 rfl) ?_
  refine lv_if_lt (tgt := 22) hx hb dX4_bestOf_1 (by decide) (fun c1 => ?_) (fun c1 => ?_)
  · have hf := if_t hf c1
    refine lv_iconst (v := 0) hx hb dX4_bestOf_22 (by decide) ?_
    exact g_iret hx hb hr hlk hP hS (ret1 hf) dX4_bestOf_23
  · have hf := if_f hf c1
    refine lv_iload_n hx hb dX4_bestOf_4 rfl (lv_at hl 1 rfl) ?_
    refine lv_aload_n hx hb dX4_bestOf_5 rfl (lv_at hl 0 rfl) ?_
    refine g_get (Cn := RX4) (T := TX4) (N := 3) (v := .ref (a (v0 + 2))) (own := RX4) hx hb hown hts hK (lin_O hv0) rfl (fun _ hw => List.mem_cons_of_mem _ (List.mem_append_right _ hw)) 2 (by decide) (List.mem_of_getElem? (i := 1) rfl) rfl rfl hP dX4_bestOf_6 ?_
    refine g_alenI (v := 512) hx hb hK (lin_be hv0) rfl hP dX4_bestOf_9 ?_
    refine lv_icmp_ge (tgt := 22) hx hb dX4_bestOf_10 (by decide) (fun c2 => ?_) (fun c2 => ?_)
    · have hf := if_t hf c2
      refine lv_iconst (v := 0) hx hb dX4_bestOf_22 (by decide) ?_
      exact g_iret hx hb hr hlk hP hS (ret1 hf) dX4_bestOf_23
    · have hf := if_f hf c2
      refine lv_aload_n hx hb dX4_bestOf_13 rfl (lv_at hl 0 rfl) ?_
      refine g_get (Cn := RX4) (T := TX4) (N := 3) (v := .ref (a (v0 + 2))) (own := RX4) hx hb hown hts hK (lin_O hv0) rfl (fun _ hw => List.mem_cons_of_mem _ (List.mem_append_right _ hw)) 2 (by decide) (List.mem_of_getElem? (i := 1) rfl) rfl rfl hP dX4_bestOf_14 ?_
      refine lv_iload_n hx hb dX4_bestOf_17 rfl (lv_at hl 1 rfl) ?_
      obtain ⟨c3, hf⟩ := gdi_s hf
      refine g_ial hx hb hK (lin_be hv0) c3 hP dX4_bestOf_18 ?_
      refine lv_goto (tgt := 23) hx hb dX4_bestOf_19 (by decide) ?_
      exact g_iret hx hb hr hlk hP hS (ret1 hf) dX4_bestOf_23

def X4_setBest (h : HS) (v0 : Nat) (v1 : Int32) (v2 : Int32) : Option HS :=
    (if v1 < 0 then
    some h
    else
    (if 512 ≤ v1 then
    some h
    else
    gdi v1 512 <|
    nm (sA h (v0 + 2) (upd (aI h (v0 + 2)) v1.toNatClampNeg v2)) fun h3 =>
    some h3))
def rmX4_setBest : Room := { frames := 0, cells := 0, slots := 0, locals := 0 }
theorem kdX4_setBest : yX4_setBest.cls = RX4 ∧ yX4_setBest.cls ≠ "java/lang/invoke/MethodHandle" ∧ yX4_setBest.cls ≠ "java/lang/invoke/VarHandle" ∧ (parseMethodDescriptor yX4_setBest.desc).map (fun d => d.parameters.length) = some 2 := by decide +kernel
set_option maxHeartbeats 4000000 in
set_option maxRecDepth 100000 in
theorem m_X4_setBest (l : Launch) (D : va_G) (a : Nat → Nat) (C : Nat → ClassId) (ha : ginj a) (h : HS) (v0 : Nat) (v1 : Int32) (v2 : Int32) (hv0 : isLin v0) (h' : HS) (hf : X4_setBest h v0 v1 v2 = some h') : gM l yX4_setBest wsX4_setBest rmX4_setBest D a C [.ref (a v0), .int v1, .int v2] h none h' := by
  refine g_start (av := [.ref (a v0), .int v1, .int v2]) (cc := cX4_setBest) (maxL := 3) (rt := none) (by decide) rfl (Nat.le_of_ble_eq_true rfl) ?_
  intro p e s m below meth c hx hb hr hml hown hlk hts hP hK hN ls hl
  have hA : ∀ q, gA a q → gA a q := fun _ q => q
  have hS : va_S (gA a) s.heap s.heap [] := va_S.rf
  have hl : lv_has ls 3 [(0, .ref (a v0)), (1, .int v1), (2, .int v2)] := hl
  unfold X4_setBest at hf
  refine lv_iload_n hx hb dX4_setBest_0 rfl (lv_at hl 1 rfl) ?_
  refine lv_if_lt (tgt := 20) hx hb dX4_setBest_1 (by decide) (fun c1 => ?_) (fun c1 => ?_)
  · have hf := if_t hf c1
    exact g_vret hx hb hr hlk hP hS (ret1 hf) dX4_setBest_20
  · have hf := if_f hf c1
    refine lv_iload_n hx hb dX4_setBest_4 rfl (lv_at hl 1 rfl) ?_
    refine lv_aload_n hx hb dX4_setBest_5 rfl (lv_at hl 0 rfl) ?_
    refine g_get (Cn := RX4) (T := TX4) (N := 3) (v := .ref (a (v0 + 2))) (own := RX4) hx hb hown hts hK (lin_O hv0) rfl (fun _ hw => List.mem_cons_of_mem _ (List.mem_append_right _ hw)) 2 (by decide) (List.mem_of_getElem? (i := 1) rfl) rfl rfl hP dX4_setBest_6 ?_
    refine g_alenI (v := 512) hx hb hK (lin_be hv0) rfl hP dX4_setBest_9 ?_
    refine lv_icmp_ge (tgt := 20) hx hb dX4_setBest_10 (by decide) (fun c2 => ?_) (fun c2 => ?_)
    · have hf := if_t hf c2
      exact g_vret hx hb hr hlk hP hS (ret1 hf) dX4_setBest_20
    · have hf := if_f hf c2
      refine lv_aload_n hx hb dX4_setBest_13 rfl (lv_at hl 0 rfl) ?_
      refine g_get (Cn := RX4) (T := TX4) (N := 3) (v := .ref (a (v0 + 2))) (own := RX4) hx hb hown hts hK (lin_O hv0) rfl (fun _ hw => List.mem_cons_of_mem _ (List.mem_append_right _ hw)) 2 (by decide) (List.mem_of_getElem? (i := 1) rfl) rfl rfl hP dX4_setBest_14 ?_
      refine lv_iload_n hx hb dX4_setBest_17 rfl (lv_at hl 1 rfl) ?_
      refine lv_iload_n hx hb dX4_setBest_18 rfl (lv_at hl 2 rfl) ?_
      obtain ⟨c4, hf⟩ := gdi_s hf
      refine g_ias hx hb hK ha hA (lin_be hv0) c4 hP hS dX4_setBest_19 (fun H locs hP hS => ?_)
      obtain ⟨h3, eh3⟩ : ∃ x, x = (sA h (v0 + 2) (upd (aI h (v0 + 2)) v1.toNatClampNeg v2)) := ⟨_, rfl⟩
      rw [← eh3] at hP
      have hf := nm_s hf eh3
      exact g_vret hx hb hr hlk hP hS (ret1 hf) dX4_setBest_20

def X4_pewsWith_B52 (h : HS) (v0 : Nat) (v1 : Int32) (v2 : Int32) (k6 : Int32 → Int32 → Option Int32) (v3 : Int32) (v4 : Int32) : Option Int32 :=
    nm (v4 + 1) fun x7 =>
    k6 v3 x7
def X4_pewsWith_B6 (h : HS) (v0 : Nat) (v1 : Int32) (v2 : Int32) : Nat → Int32 → Int32 → Option Int32
  | 0, _, _ => none
  | fu + 1, v3, v4 =>
    (if v2 < v4 then
    some v3
    else
    (if (v4 &&& (v2 ^^^ (-1))) = 0 then
    (X4_alike h v0 (v4 ||| ((1 : Int32) <<< (v1 &&& 31))) 0).bind fun q3 =>
    (if q3 = 0 then
    X4_pewsWith_B52 h v0 v1 v2 (X4_pewsWith_B6 h v0 v1 v2 fu) v3 v4
    else
    (X4_bestOf h v0 (v2 &&& (v4 ^^^ (-1)))).bind fun q5 =>
    nm (if (1 + q5) < v3 then (1 + q5) else v3) fun x6 =>
    X4_pewsWith_B52 h v0 v1 v2 (X4_pewsWith_B6 h v0 v1 v2 fu) x6 v4)
    else
    X4_pewsWith_B52 h v0 v1 v2 (X4_pewsWith_B6 h v0 v1 v2 fu) v3 v4))
def X4_pewsWith (h : HS) (v0 : Nat) (v1 : Int32) (v2 : Int32) : Option Int32 :=
    X4_pewsWith_B6 h v0 v1 v2 FU 9 0
def rmX4_pewsWith : Room := { frames := 2, cells := 0, slots := 0, locals := 45 }
theorem kdX4_pewsWith : yX4_pewsWith.cls = RX4 ∧ yX4_pewsWith.cls ≠ "java/lang/invoke/MethodHandle" ∧ yX4_pewsWith.cls ≠ "java/lang/invoke/VarHandle" ∧ (parseMethodDescriptor yX4_pewsWith.desc).map (fun d => d.parameters.length) = some 2 := by decide +kernel
set_option maxHeartbeats 4000000 in
set_option maxRecDepth 100000 in
theorem m_X4_pewsWith (l : Launch) (D : va_G) (a : Nat → Nat) (C : Nat → ClassId) (ha : ginj a) (h : HS) (v0 : Nat) (v1 : Int32) (v2 : Int32) (hv0 : isLin v0) (r : Int32) (hf : X4_pewsWith h v0 v1 v2 = some r) : gM l yX4_pewsWith wsX4_pewsWith rmX4_pewsWith D a C [.ref (a v0), .int v1, .int v2] h (some (.int r)) h := by
  refine g_start (av := [.ref (a v0), .int v1, .int v2]) (cc := cX4_pewsWith) (maxL := 5) (rt := (some .int)) (by decide) rfl (Nat.le_of_ble_eq_true rfl) ?_
  intro p e s m below meth c hx hb hr hml hown hlk hts hP hK hN ls hl
  have hA : ∀ q, gA a q → gA a q := fun _ q => q
  have hS : va_S (gA a) s.heap s.heap [] := va_S.rf
  have hl : lv_has ls 5 [(0, .ref (a v0)), (1, .int v1), (2, .int v2)] := hl
  have J52 : ∀ (k6 : Int32 → Int32 → Option Int32) (hk6 : ∀ (v3 : Int32) (v4 : Int32), k6 v3 v4 = some r → gG p l e (headSpec wsX4_pewsWith rmX4_pewsWith).room s m ([.ref (a v0), .int v1, .int v2] : List Value).toArray below meth c (MQ below (gQ (some (.int r)) D a C h) ([.ref (a v0), .int v1, .int v2] : List Value).toArray s 0 0 (gA a)) D a C 5 h 6 [(0, .ref (a v0)), (1, .int v1), (2, .int v2), (3, .int v3), (4, .int v4)] []) (v3 : Int32) (v4 : Int32) (_ : X4_pewsWith_B52 h v0 v1 v2 k6 v3 v4 = some r), gG p l e (headSpec wsX4_pewsWith rmX4_pewsWith).room s m ([.ref (a v0), .int v1, .int v2] : List Value).toArray below meth c (MQ below (gQ (some (.int r)) D a C h) ([.ref (a v0), .int v1, .int v2] : List Value).toArray s 0 0 (gA a)) D a C 5 h 52 [(0, .ref (a v0)), (1, .int v1), (2, .int v2), (3, .int v3), (4, .int v4)] [] := by
    intro k6 hk6 v3 v4 hf H locs ls hP hS hl
    unfold X4_pewsWith_B52 at hf
    obtain ⟨x7, ex7⟩ : ∃ y : Int32, y = (v4 + 1) := ⟨_, rfl⟩
    have hf := nm_s hf ex7
    refine lv_iinc (v := x7) (lv' := [(4, .int x7), (0, .ref (a v0)), (1, .int v1), (2, .int v2), (3, .int v3)]) hx hb dX4_pewsWith_52 hl (k := 4) rfl (by rw [ex7]; rfl) (by decide) rfl (fun ls hl => ?_)
    refine lv_goto (tgt := 6) hx hb dX4_pewsWith_55 (by decide) ?_
    exact hk6 v3 x7 hf H locs ls hP hS (lv_sub hl [1, 2, 3, 4, 0] rfl)
  have J6 : ∀ (fu : Nat) (v3 : Int32) (v4 : Int32), X4_pewsWith_B6 h v0 v1 v2 fu v3 v4 = some r → gG p l e (headSpec wsX4_pewsWith rmX4_pewsWith).room s m ([.ref (a v0), .int v1, .int v2] : List Value).toArray below meth c (MQ below (gQ (some (.int r)) D a C h) ([.ref (a v0), .int v1, .int v2] : List Value).toArray s 0 0 (gA a)) D a C 5 h 6 [(0, .ref (a v0)), (1, .int v1), (2, .int v2), (3, .int v3), (4, .int v4)] [] := by
    intro fu
    induction fu with
    | zero => intro v3 v4 hf; exact absurd hf (by simp [X4_pewsWith_B6])
    | succ fu ih =>
      intro v3 v4 hf H locs ls hP hS hl
      rw [X4_pewsWith_B6] at hf
      refine lv_iload hx hb dX4_pewsWith_6 (lv_at hl 4 rfl) ?_
      refine lv_iload_n hx hb dX4_pewsWith_8 rfl (lv_at hl 2 rfl) ?_
      refine lv_icmp_gt (tgt := 58) hx hb dX4_pewsWith_9 (by decide) (fun c1 => ?_) (fun c1 => ?_)
      · have hf := if_t hf c1
        refine lv_iload_n hx hb dX4_pewsWith_58 rfl (lv_at hl 3 rfl) ?_
        exact g_iret hx hb hr hlk hP hS (ret1 hf) dX4_pewsWith_59
      · have hf := if_f hf c1
        refine lv_iload hx hb dX4_pewsWith_12 (lv_at hl 4 rfl) ?_
        refine lv_iload_n hx hb dX4_pewsWith_14 rfl (lv_at hl 2 rfl) ?_
        refine lv_iconst (v := (-1)) hx hb dX4_pewsWith_15 (by decide) ?_
        refine lv_ixor hx hb dX4_pewsWith_16 ?_
        refine lv_iand hx hb dX4_pewsWith_17 ?_
        refine lv_if_ne (tgt := 52) hx hb dX4_pewsWith_18 (by decide) (fun c2 => ?_) (fun c2 => ?_)
        · have hf := if_f hf c2
          exact J52 (X4_pewsWith_B6 h v0 v1 v2 fu) ih v3 v4 hf H locs ls hP hS (lv_sub hl [0, 1, 2, 3, 4] rfl)
        · have hf := if_t hf c2
          refine lv_aload_n hx hb dX4_pewsWith_21 rfl (lv_at hl 0 rfl) ?_
          refine lv_iload hx hb dX4_pewsWith_22 (lv_at hl 4 rfl) ?_
          refine lv_iconst (v := 1) hx hb dX4_pewsWith_24 (by decide) ?_
          refine lv_iload_n hx hb dX4_pewsWith_25 rfl (lv_at hl 1 rfl) ?_
          refine lv_ishl hx hb dX4_pewsWith_26 ?_
          refine lv_ior hx hb dX4_pewsWith_27 ?_
          refine lv_iconst (v := 0) hx hb dX4_pewsWith_28 (by decide) ?_
          obtain ⟨q3, hq3, hf⟩ := bind_s hf
          refine g_callV (As := [.int (v4 ||| ((1 : Int32) <<< (v1 &&& 31))), .int 0]) (rest := []) hx hb hml hown hts hK hN (m_X4_alike l D a C ha h v0 (v4 ||| ((1 : Int32) <<< (v1 &&& 31))) 0 hv0 q3 hq3) (cwV 2 hts gX4_pewsWith_X4_alike rfl rfl rfl kdX4_alike ⟨Nat.le_of_ble_eq_true rfl, Nat.le_of_ble_eq_true rfl⟩) (lin_O hv0) rfl rfl hP hS hA rfl hl.1 rfl (Nat.le_of_ble_eq_true rfl) dX4_pewsWith_29 ⟨Nat.le_refl _, Nat.le_refl _⟩ (fun H locs hP hS => ?_)
          refine W.eq (g2 := F0 m 32 ls [.int q3]) rfl ?_
          refine lv_if_eq (tgt := 52) hx hb dX4_pewsWith_32 (by decide) (fun c4 => ?_) (fun c4 => ?_)
          · have hf := if_t hf c4
            exact J52 (X4_pewsWith_B6 h v0 v1 v2 fu) ih v3 v4 hf H locs ls hP hS (lv_sub hl [0, 1, 2, 3, 4] rfl)
          · have hf := if_f hf c4
            refine lv_iload_n hx hb dX4_pewsWith_35 rfl (lv_at hl 3 rfl) ?_
            refine lv_iconst (v := 1) hx hb dX4_pewsWith_36 (by decide) ?_
            refine lv_aload_n hx hb dX4_pewsWith_37 rfl (lv_at hl 0 rfl) ?_
            refine lv_iload_n hx hb dX4_pewsWith_38 rfl (lv_at hl 2 rfl) ?_
            refine lv_iload hx hb dX4_pewsWith_39 (lv_at hl 4 rfl) ?_
            refine lv_iconst (v := (-1)) hx hb dX4_pewsWith_41 (by decide) ?_
            refine lv_ixor hx hb dX4_pewsWith_42 ?_
            refine lv_iand hx hb dX4_pewsWith_43 ?_
            obtain ⟨q5, hq5, hf⟩ := bind_s hf
            refine g_callV (As := [.int (v2 &&& (v4 ^^^ (-1)))]) (rest := [.int 1, .int v3]) hx hb hml hown hts hK hN (m_X4_bestOf l D a C ha h v0 (v2 &&& (v4 ^^^ (-1))) hv0 q5 hq5) (cwV 1 hts gX4_pewsWith_X4_bestOf rfl rfl rfl kdX4_bestOf ⟨Nat.le_of_ble_eq_true rfl, Nat.le_of_ble_eq_true rfl⟩) (lin_O hv0) rfl rfl hP hS hA rfl hl.1 rfl (Nat.le_of_ble_eq_true rfl) dX4_pewsWith_44 ⟨Nat.le_refl _, Nat.le_refl _⟩ (fun H locs hP hS => ?_)
            refine W.eq (g2 := F0 m 47 ls [.int q5, .int 1, .int v3]) rfl ?_
            refine lv_iadd hx hb dX4_pewsWith_47 ?_
            refine va_mmin hx hb (by rw [hml]; exact hl.1.symm) hown (hts _ (List.mem_of_getElem? (i := 1) rfl)) (hts _ (List.mem_of_getElem? (i := 2) rfl)) (hts _ (List.mem_of_getElem? (i := 3) rfl)) (hts _ (List.mem_of_getElem? (i := 4) rfl)) (Nat.le_of_ble_eq_true rfl) (Nat.le_of_ble_eq_true rfl) (Nat.zero_le _) (Nat.zero_le _) dX4_pewsWith_48 ?_
            refine lv_topi (fun x6 ex6 => ?_)
            have hf := nm_s hf ex6
            refine lv_istore_n (lv' := [(3, .int x6), (0, .ref (a v0)), (1, .int v1), (2, .int v2), (4, .int v4)]) hx hb dX4_pewsWith_51 rfl hl (by decide) rfl (fun ls hl => ?_)
            exact J52 (X4_pewsWith_B6 h v0 v1 v2 fu) ih x6 v4 hf H locs ls hP hS (lv_sub hl [1, 2, 3, 0, 4] rfl)
  unfold X4_pewsWith at hf
  suffices hh : ∀ (H : Heap) (locs : List Loc), va_P D vwCl (gw a C h) H → va_S (gA a) s.heap H locs → W p l e (headSpec wsX4_pewsWith rmX4_pewsWith).room s m ([.ref (a v0), .int v1, .int v2] : List Value).toArray below meth c H locs 0 0 (MQ below (gQ (some (.int r)) D a C h) ([.ref (a v0), .int v1, .int v2] : List Value).toArray s 0 0 (gA a)) (F0 m 0 ls []) from hh _ _ hP hS
  intro H locs hP hS
  refine lv_bipush (v := 9) hx hb dX4_pewsWith_0 (by decide) ?_
  refine lv_istore_n (lv' := [(3, .int 9), (0, .ref (a v0)), (1, .int v1), (2, .int v2)]) hx hb dX4_pewsWith_2 rfl hl (by decide) rfl (fun ls hl => ?_)
  refine lv_iconst (v := 0) hx hb dX4_pewsWith_3 (by decide) ?_
  refine lv_istore (lv' := [(4, .int 0), (3, .int 9), (0, .ref (a v0)), (1, .int v1), (2, .int v2)]) hx hb dX4_pewsWith_4 hl (by decide) rfl (fun ls hl => ?_)
  exact J6 FU 9 0 hf H locs ls hP hS (lv_sub hl [2, 3, 4, 1, 0] rfl)

def X4_fewestPews_B12 (v0 : Nat) (k2 : Int32 → HS → Option (Int32 × HS)) : Nat → Int32 → Int32 → HS → Option (Int32 × HS)
  | 0, _, _, _ => none
  | fu + 1, v1, v2, h =>
    (if ((1 : Int32) <<< (v1 &&& 31)) ≤ v2 then
    nm (v1 + 1) fun x4 =>
    k2 x4 h
    else
    (X4_pewsWith h v0 v1 v2).bind fun q5 =>
    (X4_setBest h v0 (v2 ||| ((1 : Int32) <<< (v1 &&& 31))) q5).bind fun q6 =>
    nm (v2 + 1) fun x7 =>
    (X4_fewestPews_B12 v0 k2 fu) v1 x7 q6)
def X4_fewestPews_B2 (v0 : Nat) : Nat → Int32 → HS → Option (Int32 × HS)
  | 0, _, _ => none
  | fu + 1, v1, h =>
    (if (fI h v0 0) ≤ v1 then
    (X4_bestOf h v0 (((1 : Int32) <<< ((fI h v0 0) &&& 31)) - 1)).bind fun q2 =>
    some (q2, h)
    else
    X4_fewestPews_B12 v0 (X4_fewestPews_B2 v0 fu) FU v1 0 h)
def X4_fewestPews (h : HS) (v0 : Nat) : Option (Int32 × HS) :=
    X4_fewestPews_B2 v0 FU 0 h
def rmX4_fewestPews : Room := { frames := 3, cells := 0, slots := 0, locals := 69 }
theorem kdX4_fewestPews : yX4_fewestPews.cls = RX4 ∧ yX4_fewestPews.cls ≠ "java/lang/invoke/MethodHandle" ∧ yX4_fewestPews.cls ≠ "java/lang/invoke/VarHandle" ∧ (parseMethodDescriptor yX4_fewestPews.desc).map (fun d => d.parameters.length) = some 0 := by decide +kernel
set_option maxHeartbeats 4000000 in
set_option maxRecDepth 100000 in
theorem m_X4_fewestPews (l : Launch) (D : va_G) (a : Nat → Nat) (C : Nat → ClassId) (ha : ginj a) (h : HS) (v0 : Nat) (hv0 : isLin v0) (r : Int32) (h' : HS) (hf : X4_fewestPews h v0 = some (r, h')) : gM l yX4_fewestPews wsX4_fewestPews rmX4_fewestPews D a C [.ref (a v0)] h (some (.int r)) h' := by
  refine g_start (av := [.ref (a v0)]) (cc := cX4_fewestPews) (maxL := 3) (rt := (some .int)) (by decide) rfl (Nat.le_of_ble_eq_true rfl) ?_
  intro p e s m below meth c hx hb hr hml hown hlk hts hP hK hN ls hl
  have hA : ∀ q, gA a q → gA a q := fun _ q => q
  have hS : va_S (gA a) s.heap s.heap [] := va_S.rf
  have hl : lv_has ls 3 [(0, .ref (a v0))] := hl
  have J12 : ∀ (k2 : Int32 → HS → Option (Int32 × HS)) (hk2 : ∀ (v1 : Int32) (h : HS), k2 v1 h = some (r, h') → gG p l e (headSpec wsX4_fewestPews rmX4_fewestPews).room s m ([.ref (a v0)] : List Value).toArray below meth c (MQ below (gQ (some (.int r)) D a C h') ([.ref (a v0)] : List Value).toArray s 0 0 (gA a)) D a C 3 h 2 [(0, .ref (a v0)), (1, .int v1)] []) (fu : Nat) (v1 : Int32) (v2 : Int32) (h : HS), X4_fewestPews_B12 v0 k2 fu v1 v2 h = some (r, h') → gG p l e (headSpec wsX4_fewestPews rmX4_fewestPews).room s m ([.ref (a v0)] : List Value).toArray below meth c (MQ below (gQ (some (.int r)) D a C h') ([.ref (a v0)] : List Value).toArray s 0 0 (gA a)) D a C 3 h 12 [(0, .ref (a v0)), (1, .int v1), (2, .int v2)] [] := by
    intro k2 hk2 fu
    induction fu with
    | zero => intro v1 v2 h hf; exact absurd hf (by simp [X4_fewestPews_B12])
    | succ fu ih =>
      intro v1 v2 h hf H locs ls hP hS hl
      rw [X4_fewestPews_B12] at hf
      refine lv_iload_n hx hb dX4_fewestPews_12 rfl (lv_at hl 2 rfl) ?_
      refine lv_iconst (v := 1) hx hb dX4_fewestPews_13 (by decide) ?_
      refine lv_iload_n hx hb dX4_fewestPews_14 rfl (lv_at hl 1 rfl) ?_
      refine lv_ishl hx hb dX4_fewestPews_15 ?_
      refine lv_icmp_ge (tgt := 40) hx hb dX4_fewestPews_16 (by decide) (fun c3 => ?_) (fun c3 => ?_)
      · have hf := if_t hf c3
        obtain ⟨x4, ex4⟩ : ∃ y : Int32, y = (v1 + 1) := ⟨_, rfl⟩
        have hf := nm_s hf ex4
        refine lv_iinc (v := x4) (lv' := [(1, .int x4), (0, .ref (a v0)), (2, .int v2)]) hx hb dX4_fewestPews_40 hl (k := 1) rfl (by rw [ex4]; rfl) (by decide) rfl (fun ls hl => ?_)
        refine lv_goto (tgt := 2) hx hb dX4_fewestPews_43 (by decide) ?_
        exact hk2 x4 h hf H locs ls hP hS (lv_sub hl [1, 0] rfl)
      · have hf := if_f hf c3
        refine lv_aload_n hx hb dX4_fewestPews_19 rfl (lv_at hl 0 rfl) ?_
        refine lv_iload_n hx hb dX4_fewestPews_20 rfl (lv_at hl 2 rfl) ?_
        refine lv_iconst (v := 1) hx hb dX4_fewestPews_21 (by decide) ?_
        refine lv_iload_n hx hb dX4_fewestPews_22 rfl (lv_at hl 1 rfl) ?_
        refine lv_ishl hx hb dX4_fewestPews_23 ?_
        refine lv_ior hx hb dX4_fewestPews_24 ?_
        refine lv_aload_n hx hb dX4_fewestPews_25 rfl (lv_at hl 0 rfl) ?_
        refine lv_iload_n hx hb dX4_fewestPews_26 rfl (lv_at hl 1 rfl) ?_
        refine lv_iload_n hx hb dX4_fewestPews_27 rfl (lv_at hl 2 rfl) ?_
        obtain ⟨q5, hq5, hf⟩ := bind_s hf
        refine g_callV (As := [.int v1, .int v2]) (rest := [.int (v2 ||| ((1 : Int32) <<< (v1 &&& 31))), .ref (a v0)]) hx hb hml hown hts hK hN (m_X4_pewsWith l D a C ha h v0 v1 v2 hv0 q5 hq5) (cwV 2 hts gX4_fewestPews_X4_pewsWith rfl rfl rfl kdX4_pewsWith ⟨Nat.le_of_ble_eq_true rfl, Nat.le_of_ble_eq_true rfl⟩) (lin_O hv0) rfl rfl hP hS hA rfl hl.1 rfl (Nat.le_of_ble_eq_true rfl) dX4_fewestPews_28 ⟨Nat.le_refl _, Nat.le_refl _⟩ (fun H locs hP hS => ?_)
        refine W.eq (g2 := F0 m 31 ls [.int q5, .int (v2 ||| ((1 : Int32) <<< (v1 &&& 31))), .ref (a v0)]) rfl ?_
        obtain ⟨q6, hq6, hf⟩ := bind_s hf
        refine g_callV (As := [.int (v2 ||| ((1 : Int32) <<< (v1 &&& 31))), .int q5]) (rest := []) hx hb hml hown hts hK hN (m_X4_setBest l D a C ha h v0 (v2 ||| ((1 : Int32) <<< (v1 &&& 31))) q5 hv0 q6 hq6) (cwV 2 hts gX4_fewestPews_X4_setBest rfl rfl rfl kdX4_setBest ⟨Nat.le_of_ble_eq_true rfl, Nat.le_of_ble_eq_true rfl⟩) (lin_O hv0) rfl rfl hP hS hA rfl hl.1 rfl (Nat.le_of_ble_eq_true rfl) dX4_fewestPews_31 ⟨Nat.le_refl _, Nat.le_refl _⟩ (fun H locs hP hS => ?_)
        refine W.eq (g2 := F0 m 34 ls []) rfl ?_
        obtain ⟨x7, ex7⟩ : ∃ y : Int32, y = (v2 + 1) := ⟨_, rfl⟩
        have hf := nm_s hf ex7
        refine lv_iinc (v := x7) (lv' := [(2, .int x7), (0, .ref (a v0)), (1, .int v1)]) hx hb dX4_fewestPews_34 hl (k := 2) rfl (by rw [ex7]; rfl) (by decide) rfl (fun ls hl => ?_)
        refine lv_goto (tgt := 12) hx hb dX4_fewestPews_37 (by decide) ?_
        exact ih v1 x7 q6 hf H locs ls hP hS (lv_sub hl [1, 2, 0] rfl)
  have J2 : ∀ (fu : Nat) (v1 : Int32) (h : HS), X4_fewestPews_B2 v0 fu v1 h = some (r, h') → gG p l e (headSpec wsX4_fewestPews rmX4_fewestPews).room s m ([.ref (a v0)] : List Value).toArray below meth c (MQ below (gQ (some (.int r)) D a C h') ([.ref (a v0)] : List Value).toArray s 0 0 (gA a)) D a C 3 h 2 [(0, .ref (a v0)), (1, .int v1)] [] := by
    intro fu
    induction fu with
    | zero => intro v1 h hf; exact absurd hf (by simp [X4_fewestPews_B2])
    | succ fu ih =>
      intro v1 h hf H locs ls hP hS hl
      rw [X4_fewestPews_B2] at hf
      refine lv_iload_n hx hb dX4_fewestPews_2 rfl (lv_at hl 1 rfl) ?_
      refine lv_aload_n hx hb dX4_fewestPews_3 rfl (lv_at hl 0 rfl) ?_
      refine g_get (Cn := RX4) (T := TX4) (N := 3) (v := .int (fI h v0 0)) (own := RX4) hx hb hown hts hK (lin_O hv0) rfl (fun _ hw => List.mem_cons_of_mem _ (List.mem_append_right _ hw)) 0 (by decide) (List.mem_of_getElem? (i := 1) rfl) rfl rfl hP dX4_fewestPews_4 ?_
      refine lv_icmp_ge (tgt := 46) hx hb dX4_fewestPews_7 (by decide) (fun c1 => ?_) (fun c1 => ?_)
      · have hf := if_t hf c1
        refine lv_aload_n hx hb dX4_fewestPews_46 rfl (lv_at hl 0 rfl) ?_
        refine lv_iconst (v := 1) hx hb dX4_fewestPews_47 (by decide) ?_
        refine lv_aload_n hx hb dX4_fewestPews_48 rfl (lv_at hl 0 rfl) ?_
        refine g_get (Cn := RX4) (T := TX4) (N := 3) (v := .int (fI h v0 0)) (own := RX4) hx hb hown hts hK (lin_O hv0) rfl (fun _ hw => List.mem_cons_of_mem _ (List.mem_append_right _ hw)) 0 (by decide) (List.mem_of_getElem? (i := 1) rfl) rfl rfl hP dX4_fewestPews_49 ?_
        refine lv_ishl hx hb dX4_fewestPews_52 ?_
        refine lv_iconst (v := 1) hx hb dX4_fewestPews_53 (by decide) ?_
        refine lv_isub hx hb dX4_fewestPews_54 ?_
        obtain ⟨q2, hq2, hf⟩ := bind_s hf
        refine g_callV (As := [.int (((1 : Int32) <<< ((fI h v0 0) &&& 31)) - 1)]) (rest := []) hx hb hml hown hts hK hN (m_X4_bestOf l D a C ha h v0 (((1 : Int32) <<< ((fI h v0 0) &&& 31)) - 1) hv0 q2 hq2) (cwV 1 hts gX4_fewestPews_X4_bestOf rfl rfl rfl kdX4_bestOf ⟨Nat.le_of_ble_eq_true rfl, Nat.le_of_ble_eq_true rfl⟩) (lin_O hv0) rfl rfl hP hS hA rfl hl.1 rfl (Nat.le_of_ble_eq_true rfl) dX4_fewestPews_55 ⟨Nat.le_refl _, Nat.le_refl _⟩ (fun H locs hP hS => ?_)
        refine W.eq (g2 := F0 m 58 ls [.int q2]) rfl ?_
        exact g_iretW hx hb hr hlk hP hS (ret2 hf) dX4_fewestPews_58
      · have hf := if_f hf c1
        refine lv_iconst (v := 0) hx hb dX4_fewestPews_10 (by decide) ?_
        refine lv_istore_n (lv' := [(2, .int 0), (0, .ref (a v0)), (1, .int v1)]) hx hb dX4_fewestPews_11 rfl hl (by decide) rfl (fun ls hl => ?_)
        exact J12 (X4_fewestPews_B2 v0 fu) ih FU v1 0 h hf H locs ls hP hS (lv_sub hl [1, 2, 0] rfl)
  unfold X4_fewestPews at hf
  suffices hh : ∀ (H : Heap) (locs : List Loc), va_P D vwCl (gw a C h) H → va_S (gA a) s.heap H locs → W p l e (headSpec wsX4_fewestPews rmX4_fewestPews).room s m ([.ref (a v0)] : List Value).toArray below meth c H locs 0 0 (MQ below (gQ (some (.int r)) D a C h') ([.ref (a v0)] : List Value).toArray s 0 0 (gA a)) (F0 m 0 ls []) from hh _ _ hP hS
  intro H locs hP hS
  refine lv_iconst (v := 0) hx hb dX4_fewestPews_0 (by decide) ?_
  refine lv_istore_n (lv' := [(1, .int 0), (0, .ref (a v0))]) hx hb dX4_fewestPews_1 rfl hl (by decide) rfl (fun ls hl => ?_)
  exact J2 FU 0 h hf H locs ls hP hS (lv_sub hl [1, 0] rfl)

def X4_twosWith_B49 (h : HS) (v0 : Nat) (v1 : Int32) (v2 : Int32) (k9 : Int32 → Int32 → Option Int32) (v3 : Int32) (v4 : Int32) : Option Int32 :=
    nm (v4 + 1) fun x7 =>
    k9 v3 x7
def X4_twosWith_B9 (h : HS) (v0 : Nat) (v1 : Int32) (v2 : Int32) : Nat → Int32 → Int32 → Option Int32
  | 0, _, _ => none
  | fu + 1, v3, v4 =>
    (if v1 ≤ v4 then
    some v3
    else
    (X4_around h v0 v1).bind fun q3 =>
    (if ((v2 &&& q3) &&& ((1 : Int32) <<< (v4 &&& 31))) = 0 then
    X4_twosWith_B49 h v0 v1 v2 (X4_twosWith_B9 h v0 v1 v2 fu) v3 v4
    else
    (X4_bestOf h v0 (v2 &&& (((1 : Int32) <<< (v4 &&& 31)) ^^^ (-1)))).bind fun q5 =>
    nm (if v3 < (1 + q5) then (1 + q5) else v3) fun x6 =>
    X4_twosWith_B49 h v0 v1 v2 (X4_twosWith_B9 h v0 v1 v2 fu) x6 v4))
def X4_twosWith (h : HS) (v0 : Nat) (v1 : Int32) (v2 : Int32) : Option Int32 :=
    (X4_bestOf h v0 v2).bind fun q1 =>
    X4_twosWith_B9 h v0 v1 v2 FU q1 0
def rmX4_twosWith : Room := { frames := 1, cells := 0, slots := 0, locals := 21 }
theorem kdX4_twosWith : yX4_twosWith.cls = RX4 ∧ yX4_twosWith.cls ≠ "java/lang/invoke/MethodHandle" ∧ yX4_twosWith.cls ≠ "java/lang/invoke/VarHandle" ∧ (parseMethodDescriptor yX4_twosWith.desc).map (fun d => d.parameters.length) = some 2 := by decide +kernel
set_option maxHeartbeats 4000000 in
set_option maxRecDepth 100000 in
theorem m_X4_twosWith (l : Launch) (D : va_G) (a : Nat → Nat) (C : Nat → ClassId) (ha : ginj a) (h : HS) (v0 : Nat) (v1 : Int32) (v2 : Int32) (hv0 : isLin v0) (r : Int32) (hf : X4_twosWith h v0 v1 v2 = some r) : gM l yX4_twosWith wsX4_twosWith rmX4_twosWith D a C [.ref (a v0), .int v1, .int v2] h (some (.int r)) h := by
  refine g_start (av := [.ref (a v0), .int v1, .int v2]) (cc := cX4_twosWith) (maxL := 5) (rt := (some .int)) (by decide) rfl (Nat.le_of_ble_eq_true rfl) ?_
  intro p e s m below meth c hx hb hr hml hown hlk hts hP hK hN ls hl
  have hA : ∀ q, gA a q → gA a q := fun _ q => q
  have hS : va_S (gA a) s.heap s.heap [] := va_S.rf
  have hl : lv_has ls 5 [(0, .ref (a v0)), (1, .int v1), (2, .int v2)] := hl
  have J49 : ∀ (k9 : Int32 → Int32 → Option Int32) (hk9 : ∀ (v3 : Int32) (v4 : Int32), k9 v3 v4 = some r → gG p l e (headSpec wsX4_twosWith rmX4_twosWith).room s m ([.ref (a v0), .int v1, .int v2] : List Value).toArray below meth c (MQ below (gQ (some (.int r)) D a C h) ([.ref (a v0), .int v1, .int v2] : List Value).toArray s 0 0 (gA a)) D a C 5 h 9 [(0, .ref (a v0)), (1, .int v1), (2, .int v2), (3, .int v3), (4, .int v4)] []) (v3 : Int32) (v4 : Int32) (_ : X4_twosWith_B49 h v0 v1 v2 k9 v3 v4 = some r), gG p l e (headSpec wsX4_twosWith rmX4_twosWith).room s m ([.ref (a v0), .int v1, .int v2] : List Value).toArray below meth c (MQ below (gQ (some (.int r)) D a C h) ([.ref (a v0), .int v1, .int v2] : List Value).toArray s 0 0 (gA a)) D a C 5 h 49 [(0, .ref (a v0)), (1, .int v1), (2, .int v2), (3, .int v3), (4, .int v4)] [] := by
    intro k9 hk9 v3 v4 hf H locs ls hP hS hl
    unfold X4_twosWith_B49 at hf
    obtain ⟨x7, ex7⟩ : ∃ y : Int32, y = (v4 + 1) := ⟨_, rfl⟩
    have hf := nm_s hf ex7
    refine lv_iinc (v := x7) (lv' := [(4, .int x7), (0, .ref (a v0)), (1, .int v1), (2, .int v2), (3, .int v3)]) hx hb dX4_twosWith_49 hl (k := 4) rfl (by rw [ex7]; rfl) (by decide) rfl (fun ls hl => ?_)
    refine lv_goto (tgt := 9) hx hb dX4_twosWith_52 (by decide) ?_
    exact hk9 v3 x7 hf H locs ls hP hS (lv_sub hl [1, 2, 3, 4, 0] rfl)
  have J9 : ∀ (fu : Nat) (v3 : Int32) (v4 : Int32), X4_twosWith_B9 h v0 v1 v2 fu v3 v4 = some r → gG p l e (headSpec wsX4_twosWith rmX4_twosWith).room s m ([.ref (a v0), .int v1, .int v2] : List Value).toArray below meth c (MQ below (gQ (some (.int r)) D a C h) ([.ref (a v0), .int v1, .int v2] : List Value).toArray s 0 0 (gA a)) D a C 5 h 9 [(0, .ref (a v0)), (1, .int v1), (2, .int v2), (3, .int v3), (4, .int v4)] [] := by
    intro fu
    induction fu with
    | zero => intro v3 v4 hf; exact absurd hf (by simp [X4_twosWith_B9])
    | succ fu ih =>
      intro v3 v4 hf H locs ls hP hS hl
      rw [X4_twosWith_B9] at hf
      refine lv_iload hx hb dX4_twosWith_9 (lv_at hl 4 rfl) ?_
      refine lv_iload_n hx hb dX4_twosWith_11 rfl (lv_at hl 1 rfl) ?_
      refine lv_icmp_ge (tgt := 55) hx hb dX4_twosWith_12 (by decide) (fun c2 => ?_) (fun c2 => ?_)
      · have hf := if_t hf c2
        refine lv_iload_n hx hb dX4_twosWith_55 rfl (lv_at hl 3 rfl) ?_
        exact g_iret hx hb hr hlk hP hS (ret1 hf) dX4_twosWith_56
      · have hf := if_f hf c2
        refine lv_iload_n hx hb dX4_twosWith_15 rfl (lv_at hl 2 rfl) ?_
        refine lv_aload_n hx hb dX4_twosWith_16 rfl (lv_at hl 0 rfl) ?_
        refine lv_iload_n hx hb dX4_twosWith_17 rfl (lv_at hl 1 rfl) ?_
        obtain ⟨q3, hq3, hf⟩ := bind_s hf
        refine g_callV (As := [.int v1]) (rest := [.int v2]) hx hb hml hown hts hK hN (m_X4_around l D a C ha h v0 v1 hv0 q3 hq3) (cwV 1 hts gX4_twosWith_X4_around rfl rfl rfl kdX4_around ⟨Nat.le_of_ble_eq_true rfl, Nat.le_of_ble_eq_true rfl⟩) (lin_O hv0) rfl rfl hP hS hA rfl hl.1 rfl (Nat.le_of_ble_eq_true rfl) dX4_twosWith_18 ⟨Nat.le_refl _, Nat.le_refl _⟩ (fun H locs hP hS => ?_)
        refine W.eq (g2 := F0 m 21 ls [.int q3, .int v2]) rfl ?_
        refine lv_iand hx hb dX4_twosWith_21 ?_
        refine lv_iconst (v := 1) hx hb dX4_twosWith_22 (by decide) ?_
        refine lv_iload hx hb dX4_twosWith_23 (lv_at hl 4 rfl) ?_
        refine lv_ishl hx hb dX4_twosWith_25 ?_
        refine lv_iand hx hb dX4_twosWith_26 ?_
        refine lv_if_eq (tgt := 49) hx hb dX4_twosWith_27 (by decide) (fun c4 => ?_) (fun c4 => ?_)
        · have hf := if_t hf c4
          exact J49 (X4_twosWith_B9 h v0 v1 v2 fu) ih v3 v4 hf H locs ls hP hS (lv_sub hl [0, 1, 2, 3, 4] rfl)
        · have hf := if_f hf c4
          refine lv_iload_n hx hb dX4_twosWith_30 rfl (lv_at hl 3 rfl) ?_
          refine lv_iconst (v := 1) hx hb dX4_twosWith_31 (by decide) ?_
          refine lv_aload_n hx hb dX4_twosWith_32 rfl (lv_at hl 0 rfl) ?_
          refine lv_iload_n hx hb dX4_twosWith_33 rfl (lv_at hl 2 rfl) ?_
          refine lv_iconst (v := 1) hx hb dX4_twosWith_34 (by decide) ?_
          refine lv_iload hx hb dX4_twosWith_35 (lv_at hl 4 rfl) ?_
          refine lv_ishl hx hb dX4_twosWith_37 ?_
          refine lv_iconst (v := (-1)) hx hb dX4_twosWith_38 (by decide) ?_
          refine lv_ixor hx hb dX4_twosWith_39 ?_
          refine lv_iand hx hb dX4_twosWith_40 ?_
          obtain ⟨q5, hq5, hf⟩ := bind_s hf
          refine g_callV (As := [.int (v2 &&& (((1 : Int32) <<< (v4 &&& 31)) ^^^ (-1)))]) (rest := [.int 1, .int v3]) hx hb hml hown hts hK hN (m_X4_bestOf l D a C ha h v0 (v2 &&& (((1 : Int32) <<< (v4 &&& 31)) ^^^ (-1))) hv0 q5 hq5) (cwV 1 hts gX4_twosWith_X4_bestOf rfl rfl rfl kdX4_bestOf ⟨Nat.le_of_ble_eq_true rfl, Nat.le_of_ble_eq_true rfl⟩) (lin_O hv0) rfl rfl hP hS hA rfl hl.1 rfl (Nat.le_of_ble_eq_true rfl) dX4_twosWith_41 ⟨Nat.le_refl _, Nat.le_refl _⟩ (fun H locs hP hS => ?_)
          refine W.eq (g2 := F0 m 44 ls [.int q5, .int 1, .int v3]) rfl ?_
          refine lv_iadd hx hb dX4_twosWith_44 ?_
          refine va_mmax hx hb (by rw [hml]; exact hl.1.symm) hown (hts _ (List.mem_of_getElem? (i := 1) rfl)) (hts _ (List.mem_of_getElem? (i := 2) rfl)) (hts _ (List.mem_of_getElem? (i := 3) rfl)) (hts _ (List.mem_of_getElem? (i := 4) rfl)) (Nat.le_of_ble_eq_true rfl) (Nat.le_of_ble_eq_true rfl) (Nat.zero_le _) (Nat.zero_le _) dX4_twosWith_45 ?_
          refine lv_topi (fun x6 ex6 => ?_)
          have hf := nm_s hf ex6
          refine lv_istore_n (lv' := [(3, .int x6), (0, .ref (a v0)), (1, .int v1), (2, .int v2), (4, .int v4)]) hx hb dX4_twosWith_48 rfl hl (by decide) rfl (fun ls hl => ?_)
          exact J49 (X4_twosWith_B9 h v0 v1 v2 fu) ih x6 v4 hf H locs ls hP hS (lv_sub hl [1, 2, 3, 0, 4] rfl)
  unfold X4_twosWith at hf
  suffices hh : ∀ (H : Heap) (locs : List Loc), va_P D vwCl (gw a C h) H → va_S (gA a) s.heap H locs → W p l e (headSpec wsX4_twosWith rmX4_twosWith).room s m ([.ref (a v0), .int v1, .int v2] : List Value).toArray below meth c H locs 0 0 (MQ below (gQ (some (.int r)) D a C h) ([.ref (a v0), .int v1, .int v2] : List Value).toArray s 0 0 (gA a)) (F0 m 0 ls []) from hh _ _ hP hS
  intro H locs hP hS
  refine lv_aload_n hx hb dX4_twosWith_0 rfl (lv_at hl 0 rfl) ?_
  refine lv_iload_n hx hb dX4_twosWith_1 rfl (lv_at hl 2 rfl) ?_
  obtain ⟨q1, hq1, hf⟩ := bind_s hf
  refine g_callV (As := [.int v2]) (rest := []) hx hb hml hown hts hK hN (m_X4_bestOf l D a C ha h v0 v2 hv0 q1 hq1) (cwV 1 hts gX4_twosWith_X4_bestOf rfl rfl rfl kdX4_bestOf ⟨Nat.le_of_ble_eq_true rfl, Nat.le_of_ble_eq_true rfl⟩) (lin_O hv0) rfl rfl hP hS hA rfl hl.1 rfl (Nat.le_of_ble_eq_true rfl) dX4_twosWith_2 ⟨Nat.le_refl _, Nat.le_refl _⟩ (fun H locs hP hS => ?_)
  refine W.eq (g2 := F0 m 5 ls [.int q1]) rfl ?_
  refine lv_istore_n (lv' := [(3, .int q1), (0, .ref (a v0)), (1, .int v1), (2, .int v2)]) hx hb dX4_twosWith_5 rfl hl (by decide) rfl (fun ls hl => ?_)
  refine lv_iconst (v := 0) hx hb dX4_twosWith_6 (by decide) ?_
  refine lv_istore (lv' := [(4, .int 0), (3, .int q1), (0, .ref (a v0)), (1, .int v1), (2, .int v2)]) hx hb dX4_twosWith_7 hl (by decide) rfl (fun ls hl => ?_)
  exact J9 FU q1 0 hf H locs ls hP hS (lv_sub hl [2, 3, 4, 1, 0] rfl)

def X4_mostTwos_B12 (v0 : Nat) (k2 : Int32 → HS → Option (Int32 × HS)) : Nat → Int32 → Int32 → HS → Option (Int32 × HS)
  | 0, _, _, _ => none
  | fu + 1, v1, v2, h =>
    (if ((1 : Int32) <<< (v1 &&& 31)) ≤ v2 then
    nm (v1 + 1) fun x4 =>
    k2 x4 h
    else
    (X4_twosWith h v0 v1 v2).bind fun q5 =>
    (X4_setBest h v0 (v2 ||| ((1 : Int32) <<< (v1 &&& 31))) q5).bind fun q6 =>
    nm (v2 + 1) fun x7 =>
    (X4_mostTwos_B12 v0 k2 fu) v1 x7 q6)
def X4_mostTwos_B2 (v0 : Nat) : Nat → Int32 → HS → Option (Int32 × HS)
  | 0, _, _ => none
  | fu + 1, v1, h =>
    (if (fI h v0 0) ≤ v1 then
    (X4_bestOf h v0 (((1 : Int32) <<< ((fI h v0 0) &&& 31)) - 1)).bind fun q2 =>
    some (q2, h)
    else
    X4_mostTwos_B12 v0 (X4_mostTwos_B2 v0 fu) FU v1 0 h)
def X4_mostTwos (h : HS) (v0 : Nat) : Option (Int32 × HS) :=
    X4_mostTwos_B2 v0 FU 0 h
def rmX4_mostTwos : Room := { frames := 2, cells := 0, slots := 0, locals := 45 }
theorem kdX4_mostTwos : yX4_mostTwos.cls = RX4 ∧ yX4_mostTwos.cls ≠ "java/lang/invoke/MethodHandle" ∧ yX4_mostTwos.cls ≠ "java/lang/invoke/VarHandle" ∧ (parseMethodDescriptor yX4_mostTwos.desc).map (fun d => d.parameters.length) = some 0 := by decide +kernel
set_option maxHeartbeats 4000000 in
set_option maxRecDepth 100000 in
theorem m_X4_mostTwos (l : Launch) (D : va_G) (a : Nat → Nat) (C : Nat → ClassId) (ha : ginj a) (h : HS) (v0 : Nat) (hv0 : isLin v0) (r : Int32) (h' : HS) (hf : X4_mostTwos h v0 = some (r, h')) : gM l yX4_mostTwos wsX4_mostTwos rmX4_mostTwos D a C [.ref (a v0)] h (some (.int r)) h' := by
  refine g_start (av := [.ref (a v0)]) (cc := cX4_mostTwos) (maxL := 3) (rt := (some .int)) (by decide) rfl (Nat.le_of_ble_eq_true rfl) ?_
  intro p e s m below meth c hx hb hr hml hown hlk hts hP hK hN ls hl
  have hA : ∀ q, gA a q → gA a q := fun _ q => q
  have hS : va_S (gA a) s.heap s.heap [] := va_S.rf
  have hl : lv_has ls 3 [(0, .ref (a v0))] := hl
  have J12 : ∀ (k2 : Int32 → HS → Option (Int32 × HS)) (hk2 : ∀ (v1 : Int32) (h : HS), k2 v1 h = some (r, h') → gG p l e (headSpec wsX4_mostTwos rmX4_mostTwos).room s m ([.ref (a v0)] : List Value).toArray below meth c (MQ below (gQ (some (.int r)) D a C h') ([.ref (a v0)] : List Value).toArray s 0 0 (gA a)) D a C 3 h 2 [(0, .ref (a v0)), (1, .int v1)] []) (fu : Nat) (v1 : Int32) (v2 : Int32) (h : HS), X4_mostTwos_B12 v0 k2 fu v1 v2 h = some (r, h') → gG p l e (headSpec wsX4_mostTwos rmX4_mostTwos).room s m ([.ref (a v0)] : List Value).toArray below meth c (MQ below (gQ (some (.int r)) D a C h') ([.ref (a v0)] : List Value).toArray s 0 0 (gA a)) D a C 3 h 12 [(0, .ref (a v0)), (1, .int v1), (2, .int v2)] [] := by
    intro k2 hk2 fu
    induction fu with
    | zero => intro v1 v2 h hf; exact absurd hf (by simp [X4_mostTwos_B12])
    | succ fu ih =>
      intro v1 v2 h hf H locs ls hP hS hl
      rw [X4_mostTwos_B12] at hf
      refine lv_iload_n hx hb dX4_mostTwos_12 rfl (lv_at hl 2 rfl) ?_
      refine lv_iconst (v := 1) hx hb dX4_mostTwos_13 (by decide) ?_
      refine lv_iload_n hx hb dX4_mostTwos_14 rfl (lv_at hl 1 rfl) ?_
      refine lv_ishl hx hb dX4_mostTwos_15 ?_
      refine lv_icmp_ge (tgt := 40) hx hb dX4_mostTwos_16 (by decide) (fun c3 => ?_) (fun c3 => ?_)
      · have hf := if_t hf c3
        obtain ⟨x4, ex4⟩ : ∃ y : Int32, y = (v1 + 1) := ⟨_, rfl⟩
        have hf := nm_s hf ex4
        refine lv_iinc (v := x4) (lv' := [(1, .int x4), (0, .ref (a v0)), (2, .int v2)]) hx hb dX4_mostTwos_40 hl (k := 1) rfl (by rw [ex4]; rfl) (by decide) rfl (fun ls hl => ?_)
        refine lv_goto (tgt := 2) hx hb dX4_mostTwos_43 (by decide) ?_
        exact hk2 x4 h hf H locs ls hP hS (lv_sub hl [1, 0] rfl)
      · have hf := if_f hf c3
        refine lv_aload_n hx hb dX4_mostTwos_19 rfl (lv_at hl 0 rfl) ?_
        refine lv_iload_n hx hb dX4_mostTwos_20 rfl (lv_at hl 2 rfl) ?_
        refine lv_iconst (v := 1) hx hb dX4_mostTwos_21 (by decide) ?_
        refine lv_iload_n hx hb dX4_mostTwos_22 rfl (lv_at hl 1 rfl) ?_
        refine lv_ishl hx hb dX4_mostTwos_23 ?_
        refine lv_ior hx hb dX4_mostTwos_24 ?_
        refine lv_aload_n hx hb dX4_mostTwos_25 rfl (lv_at hl 0 rfl) ?_
        refine lv_iload_n hx hb dX4_mostTwos_26 rfl (lv_at hl 1 rfl) ?_
        refine lv_iload_n hx hb dX4_mostTwos_27 rfl (lv_at hl 2 rfl) ?_
        obtain ⟨q5, hq5, hf⟩ := bind_s hf
        refine g_callV (As := [.int v1, .int v2]) (rest := [.int (v2 ||| ((1 : Int32) <<< (v1 &&& 31))), .ref (a v0)]) hx hb hml hown hts hK hN (m_X4_twosWith l D a C ha h v0 v1 v2 hv0 q5 hq5) (cwV 2 hts gX4_mostTwos_X4_twosWith rfl rfl rfl kdX4_twosWith ⟨Nat.le_of_ble_eq_true rfl, Nat.le_of_ble_eq_true rfl⟩) (lin_O hv0) rfl rfl hP hS hA rfl hl.1 rfl (Nat.le_of_ble_eq_true rfl) dX4_mostTwos_28 ⟨Nat.le_refl _, Nat.le_refl _⟩ (fun H locs hP hS => ?_)
        refine W.eq (g2 := F0 m 31 ls [.int q5, .int (v2 ||| ((1 : Int32) <<< (v1 &&& 31))), .ref (a v0)]) rfl ?_
        obtain ⟨q6, hq6, hf⟩ := bind_s hf
        refine g_callV (As := [.int (v2 ||| ((1 : Int32) <<< (v1 &&& 31))), .int q5]) (rest := []) hx hb hml hown hts hK hN (m_X4_setBest l D a C ha h v0 (v2 ||| ((1 : Int32) <<< (v1 &&& 31))) q5 hv0 q6 hq6) (cwV 2 hts gX4_mostTwos_X4_setBest rfl rfl rfl kdX4_setBest ⟨Nat.le_of_ble_eq_true rfl, Nat.le_of_ble_eq_true rfl⟩) (lin_O hv0) rfl rfl hP hS hA rfl hl.1 rfl (Nat.le_of_ble_eq_true rfl) dX4_mostTwos_31 ⟨Nat.le_refl _, Nat.le_refl _⟩ (fun H locs hP hS => ?_)
        refine W.eq (g2 := F0 m 34 ls []) rfl ?_
        obtain ⟨x7, ex7⟩ : ∃ y : Int32, y = (v2 + 1) := ⟨_, rfl⟩
        have hf := nm_s hf ex7
        refine lv_iinc (v := x7) (lv' := [(2, .int x7), (0, .ref (a v0)), (1, .int v1)]) hx hb dX4_mostTwos_34 hl (k := 2) rfl (by rw [ex7]; rfl) (by decide) rfl (fun ls hl => ?_)
        refine lv_goto (tgt := 12) hx hb dX4_mostTwos_37 (by decide) ?_
        exact ih v1 x7 q6 hf H locs ls hP hS (lv_sub hl [1, 2, 0] rfl)
  have J2 : ∀ (fu : Nat) (v1 : Int32) (h : HS), X4_mostTwos_B2 v0 fu v1 h = some (r, h') → gG p l e (headSpec wsX4_mostTwos rmX4_mostTwos).room s m ([.ref (a v0)] : List Value).toArray below meth c (MQ below (gQ (some (.int r)) D a C h') ([.ref (a v0)] : List Value).toArray s 0 0 (gA a)) D a C 3 h 2 [(0, .ref (a v0)), (1, .int v1)] [] := by
    intro fu
    induction fu with
    | zero => intro v1 h hf; exact absurd hf (by simp [X4_mostTwos_B2])
    | succ fu ih =>
      intro v1 h hf H locs ls hP hS hl
      rw [X4_mostTwos_B2] at hf
      refine lv_iload_n hx hb dX4_mostTwos_2 rfl (lv_at hl 1 rfl) ?_
      refine lv_aload_n hx hb dX4_mostTwos_3 rfl (lv_at hl 0 rfl) ?_
      refine g_get (Cn := RX4) (T := TX4) (N := 3) (v := .int (fI h v0 0)) (own := RX4) hx hb hown hts hK (lin_O hv0) rfl (fun _ hw => List.mem_cons_of_mem _ (List.mem_append_right _ hw)) 0 (by decide) (List.mem_of_getElem? (i := 1) rfl) rfl rfl hP dX4_mostTwos_4 ?_
      refine lv_icmp_ge (tgt := 46) hx hb dX4_mostTwos_7 (by decide) (fun c1 => ?_) (fun c1 => ?_)
      · have hf := if_t hf c1
        refine lv_aload_n hx hb dX4_mostTwos_46 rfl (lv_at hl 0 rfl) ?_
        refine lv_iconst (v := 1) hx hb dX4_mostTwos_47 (by decide) ?_
        refine lv_aload_n hx hb dX4_mostTwos_48 rfl (lv_at hl 0 rfl) ?_
        refine g_get (Cn := RX4) (T := TX4) (N := 3) (v := .int (fI h v0 0)) (own := RX4) hx hb hown hts hK (lin_O hv0) rfl (fun _ hw => List.mem_cons_of_mem _ (List.mem_append_right _ hw)) 0 (by decide) (List.mem_of_getElem? (i := 1) rfl) rfl rfl hP dX4_mostTwos_49 ?_
        refine lv_ishl hx hb dX4_mostTwos_52 ?_
        refine lv_iconst (v := 1) hx hb dX4_mostTwos_53 (by decide) ?_
        refine lv_isub hx hb dX4_mostTwos_54 ?_
        obtain ⟨q2, hq2, hf⟩ := bind_s hf
        refine g_callV (As := [.int (((1 : Int32) <<< ((fI h v0 0) &&& 31)) - 1)]) (rest := []) hx hb hml hown hts hK hN (m_X4_bestOf l D a C ha h v0 (((1 : Int32) <<< ((fI h v0 0) &&& 31)) - 1) hv0 q2 hq2) (cwV 1 hts gX4_mostTwos_X4_bestOf rfl rfl rfl kdX4_bestOf ⟨Nat.le_of_ble_eq_true rfl, Nat.le_of_ble_eq_true rfl⟩) (lin_O hv0) rfl rfl hP hS hA rfl hl.1 rfl (Nat.le_of_ble_eq_true rfl) dX4_mostTwos_55 ⟨Nat.le_refl _, Nat.le_refl _⟩ (fun H locs hP hS => ?_)
        refine W.eq (g2 := F0 m 58 ls [.int q2]) rfl ?_
        exact g_iretW hx hb hr hlk hP hS (ret2 hf) dX4_mostTwos_58
      · have hf := if_f hf c1
        refine lv_iconst (v := 0) hx hb dX4_mostTwos_10 (by decide) ?_
        refine lv_istore_n (lv' := [(2, .int 0), (0, .ref (a v0)), (1, .int v1)]) hx hb dX4_mostTwos_11 rfl hl (by decide) rfl (fun ls hl => ?_)
        exact J12 (X4_mostTwos_B2 v0 fu) ih FU v1 0 h hf H locs ls hP hS (lv_sub hl [1, 2, 0] rfl)
  unfold X4_mostTwos at hf
  suffices hh : ∀ (H : Heap) (locs : List Loc), va_P D vwCl (gw a C h) H → va_S (gA a) s.heap H locs → W p l e (headSpec wsX4_mostTwos rmX4_mostTwos).room s m ([.ref (a v0)] : List Value).toArray below meth c H locs 0 0 (MQ below (gQ (some (.int r)) D a C h') ([.ref (a v0)] : List Value).toArray s 0 0 (gA a)) (F0 m 0 ls []) from hh _ _ hP hS
  intro H locs hP hS
  refine lv_iconst (v := 0) hx hb dX4_mostTwos_0 (by decide) ?_
  refine lv_istore_n (lv' := [(1, .int 0), (0, .ref (a v0))]) hx hb dX4_mostTwos_1 rfl hl (by decide) rfl (fun ls hl => ?_)
  exact J2 FU 0 h hf H locs ls hP hS (lv_sub hl [1, 0] rfl)

def X4_firstMate_B57 (h : HS) (v0 : Nat) (v1 : Int32) (v2 : Int32) (k4 : Int32 → Option Int32) (v3 : Int32) : Option Int32 :=
    nm (v3 + 1) fun x9 =>
    k4 x9
def X4_firstMate_B4 (h : HS) (v0 : Nat) (v1 : Int32) (v2 : Int32) : Nat → Int32 → Option Int32
  | 0, _ => none
  | fu + 1, v3 =>
    (if (fI h v0 0) ≤ v3 then
    some (-4)
    else
    nm (((1 : Int32) <<< (v1 &&& 31)) ||| ((1 : Int32) <<< (v3 &&& 31))) fun x3 =>
    (X4_around h v0 v1).bind fun q4 =>
    (if ((v2 &&& q4) &&& ((1 : Int32) <<< (v3 &&& 31))) = 0 then
    X4_firstMate_B57 h v0 v1 v2 (X4_firstMate_B4 h v0 v1 v2 fu) v3
    else
    (X4_bestOf h v0 (v2 &&& (x3 ^^^ (-1)))).bind fun q6 =>
    (X4_bestOf h v0 v2).bind fun q7 =>
    (if (1 + q6) = q7 then
    some v3
    else
    X4_firstMate_B57 h v0 v1 v2 (X4_firstMate_B4 h v0 v1 v2 fu) v3)))
def X4_firstMate (h : HS) (v0 : Nat) (v1 : Int32) (v2 : Int32) : Option Int32 :=
    nm (v1 + 1) fun x1 =>
    X4_firstMate_B4 h v0 v1 v2 FU x1
def rmX4_firstMate : Room := { frames := 1, cells := 0, slots := 0, locals := 21 }
theorem kdX4_firstMate : yX4_firstMate.cls = RX4 ∧ yX4_firstMate.cls ≠ "java/lang/invoke/MethodHandle" ∧ yX4_firstMate.cls ≠ "java/lang/invoke/VarHandle" ∧ (parseMethodDescriptor yX4_firstMate.desc).map (fun d => d.parameters.length) = some 2 := by decide +kernel
set_option maxHeartbeats 4000000 in
set_option maxRecDepth 100000 in
theorem m_X4_firstMate (l : Launch) (D : va_G) (a : Nat → Nat) (C : Nat → ClassId) (ha : ginj a) (h : HS) (v0 : Nat) (v1 : Int32) (v2 : Int32) (hv0 : isLin v0) (r : Int32) (hf : X4_firstMate h v0 v1 v2 = some r) : gM l yX4_firstMate wsX4_firstMate rmX4_firstMate D a C [.ref (a v0), .int v1, .int v2] h (some (.int r)) h := by
  refine g_start (av := [.ref (a v0), .int v1, .int v2]) (cc := cX4_firstMate) (maxL := 5) (rt := (some .int)) (by decide) rfl (Nat.le_of_ble_eq_true rfl) ?_
  intro p e s m below meth c hx hb hr hml hown hlk hts hP hK hN ls hl
  have hA : ∀ q, gA a q → gA a q := fun _ q => q
  have hS : va_S (gA a) s.heap s.heap [] := va_S.rf
  have hl : lv_has ls 5 [(0, .ref (a v0)), (1, .int v1), (2, .int v2)] := hl
  have J57 : ∀ (k4 : Int32 → Option Int32) (hk4 : ∀ (v3 : Int32), k4 v3 = some r → gG p l e (headSpec wsX4_firstMate rmX4_firstMate).room s m ([.ref (a v0), .int v1, .int v2] : List Value).toArray below meth c (MQ below (gQ (some (.int r)) D a C h) ([.ref (a v0), .int v1, .int v2] : List Value).toArray s 0 0 (gA a)) D a C 5 h 4 [(0, .ref (a v0)), (1, .int v1), (2, .int v2), (3, .int v3)] []) (v3 : Int32) (_ : X4_firstMate_B57 h v0 v1 v2 k4 v3 = some r), gG p l e (headSpec wsX4_firstMate rmX4_firstMate).room s m ([.ref (a v0), .int v1, .int v2] : List Value).toArray below meth c (MQ below (gQ (some (.int r)) D a C h) ([.ref (a v0), .int v1, .int v2] : List Value).toArray s 0 0 (gA a)) D a C 5 h 57 [(0, .ref (a v0)), (1, .int v1), (2, .int v2), (3, .int v3)] [] := by
    intro k4 hk4 v3 hf H locs ls hP hS hl
    unfold X4_firstMate_B57 at hf
    obtain ⟨x9, ex9⟩ : ∃ y : Int32, y = (v3 + 1) := ⟨_, rfl⟩
    have hf := nm_s hf ex9
    refine lv_iinc (v := x9) (lv' := [(3, .int x9), (0, .ref (a v0)), (1, .int v1), (2, .int v2)]) hx hb dX4_firstMate_57 hl (k := 3) rfl (by rw [ex9]; rfl) (by decide) rfl (fun ls hl => ?_)
    refine lv_goto (tgt := 4) hx hb dX4_firstMate_60 (by decide) ?_
    exact hk4 x9 hf H locs ls hP hS (lv_sub hl [1, 2, 3, 0] rfl)
  have J4 : ∀ (fu : Nat) (v3 : Int32), X4_firstMate_B4 h v0 v1 v2 fu v3 = some r → gG p l e (headSpec wsX4_firstMate rmX4_firstMate).room s m ([.ref (a v0), .int v1, .int v2] : List Value).toArray below meth c (MQ below (gQ (some (.int r)) D a C h) ([.ref (a v0), .int v1, .int v2] : List Value).toArray s 0 0 (gA a)) D a C 5 h 4 [(0, .ref (a v0)), (1, .int v1), (2, .int v2), (3, .int v3)] [] := by
    intro fu
    induction fu with
    | zero => intro v3 hf; exact absurd hf (by simp [X4_firstMate_B4])
    | succ fu ih =>
      intro v3 hf H locs ls hP hS hl
      rw [X4_firstMate_B4] at hf
      refine lv_iload_n hx hb dX4_firstMate_4 rfl (lv_at hl 3 rfl) ?_
      refine lv_aload_n hx hb dX4_firstMate_5 rfl (lv_at hl 0 rfl) ?_
      refine g_get (Cn := RX4) (T := TX4) (N := 3) (v := .int (fI h v0 0)) (own := RX4) hx hb hown hts hK (lin_O hv0) rfl (fun _ hw => List.mem_cons_of_mem _ (List.mem_append_right _ hw)) 0 (by decide) (List.mem_of_getElem? (i := 1) rfl) rfl rfl hP dX4_firstMate_6 ?_
      refine lv_icmp_ge (tgt := 63) hx hb dX4_firstMate_9 (by decide) (fun c2 => ?_) (fun c2 => ?_)
      · have hf := if_t hf c2
        refine lv_bipush (v := (-4)) hx hb dX4_firstMate_63 (by decide) ?_
        exact g_iret hx hb hr hlk hP hS (ret1 hf) dX4_firstMate_65
      · have hf := if_f hf c2
        refine lv_iconst (v := 1) hx hb dX4_firstMate_12 (by decide) ?_
        refine lv_iload_n hx hb dX4_firstMate_13 rfl (lv_at hl 1 rfl) ?_
        refine lv_ishl hx hb dX4_firstMate_14 ?_
        refine lv_iconst (v := 1) hx hb dX4_firstMate_15 (by decide) ?_
        refine lv_iload_n hx hb dX4_firstMate_16 rfl (lv_at hl 3 rfl) ?_
        refine lv_ishl hx hb dX4_firstMate_17 ?_
        refine lv_ior hx hb dX4_firstMate_18 ?_
        refine lv_topi (fun x3 ex3 => ?_)
        have hf := nm_s hf ex3
        refine lv_istore (lv' := [(4, .int x3), (0, .ref (a v0)), (1, .int v1), (2, .int v2), (3, .int v3)]) hx hb dX4_firstMate_19 hl (by decide) rfl (fun ls hl => ?_)
        refine lv_iload_n hx hb dX4_firstMate_21 rfl (lv_at hl 3 rfl) ?_
        refine lv_aload_n hx hb dX4_firstMate_22 rfl (lv_at hl 1 rfl) ?_
        refine lv_iload_n hx hb dX4_firstMate_23 rfl (lv_at hl 2 rfl) ?_
        obtain ⟨q4, hq4, hf⟩ := bind_s hf
        refine g_callV (As := [.int v1]) (rest := [.int v2]) hx hb hml hown hts hK hN (m_X4_around l D a C ha h v0 v1 hv0 q4 hq4) (cwV 1 hts gX4_firstMate_X4_around rfl rfl rfl kdX4_around ⟨Nat.le_of_ble_eq_true rfl, Nat.le_of_ble_eq_true rfl⟩) (lin_O hv0) rfl rfl hP hS hA rfl hl.1 rfl (Nat.le_of_ble_eq_true rfl) dX4_firstMate_24 ⟨Nat.le_refl _, Nat.le_refl _⟩ (fun H locs hP hS => ?_)
        refine W.eq (g2 := F0 m 27 ls [.int q4, .int v2]) rfl ?_
        refine lv_iand hx hb dX4_firstMate_27 ?_
        refine lv_iconst (v := 1) hx hb dX4_firstMate_28 (by decide) ?_
        refine lv_iload_n hx hb dX4_firstMate_29 rfl (lv_at hl 4 rfl) ?_
        refine lv_ishl hx hb dX4_firstMate_30 ?_
        refine lv_iand hx hb dX4_firstMate_31 ?_
        refine lv_if_eq (tgt := 57) hx hb dX4_firstMate_32 (by decide) (fun c5 => ?_) (fun c5 => ?_)
        · have hf := if_t hf c5
          exact J57 (X4_firstMate_B4 h v0 v1 v2 fu) ih v3 hf H locs ls hP hS (lv_sub hl [1, 2, 3, 4] rfl)
        · have hf := if_f hf c5
          refine lv_iconst (v := 1) hx hb dX4_firstMate_35 (by decide) ?_
          refine lv_aload_n hx hb dX4_firstMate_36 rfl (lv_at hl 1 rfl) ?_
          refine lv_iload_n hx hb dX4_firstMate_37 rfl (lv_at hl 3 rfl) ?_
          refine lv_iload hx hb dX4_firstMate_38 (lv_at hl 0 rfl) ?_
          refine lv_iconst (v := (-1)) hx hb dX4_firstMate_40 (by decide) ?_
          refine lv_ixor hx hb dX4_firstMate_41 ?_
          refine lv_iand hx hb dX4_firstMate_42 ?_
          obtain ⟨q6, hq6, hf⟩ := bind_s hf
          refine g_callV (As := [.int (v2 &&& (x3 ^^^ (-1)))]) (rest := [.int 1]) hx hb hml hown hts hK hN (m_X4_bestOf l D a C ha h v0 (v2 &&& (x3 ^^^ (-1))) hv0 q6 hq6) (cwV 1 hts gX4_firstMate_X4_bestOf rfl rfl rfl kdX4_bestOf ⟨Nat.le_of_ble_eq_true rfl, Nat.le_of_ble_eq_true rfl⟩) (lin_O hv0) rfl rfl hP hS hA rfl hl.1 rfl (Nat.le_of_ble_eq_true rfl) dX4_firstMate_43 ⟨Nat.le_refl _, Nat.le_refl _⟩ (fun H locs hP hS => ?_)
          refine W.eq (g2 := F0 m 46 ls [.int q6, .int 1]) rfl ?_
          refine lv_iadd hx hb dX4_firstMate_46 ?_
          refine lv_aload_n hx hb dX4_firstMate_47 rfl (lv_at hl 1 rfl) ?_
          refine lv_iload_n hx hb dX4_firstMate_48 rfl (lv_at hl 3 rfl) ?_
          obtain ⟨q7, hq7, hf⟩ := bind_s hf
          refine g_callV (As := [.int v2]) (rest := [.int (1 + q6)]) hx hb hml hown hts hK hN (m_X4_bestOf l D a C ha h v0 v2 hv0 q7 hq7) (cwV 1 hts gX4_firstMate_X4_bestOf rfl rfl rfl kdX4_bestOf ⟨Nat.le_of_ble_eq_true rfl, Nat.le_of_ble_eq_true rfl⟩) (lin_O hv0) rfl rfl hP hS hA rfl hl.1 rfl (Nat.le_of_ble_eq_true rfl) dX4_firstMate_49 ⟨Nat.le_refl _, Nat.le_refl _⟩ (fun H locs hP hS => ?_)
          refine W.eq (g2 := F0 m 52 ls [.int q7, .int (1 + q6)]) rfl ?_
          refine lv_icmp_ne (tgt := 57) hx hb dX4_firstMate_52 (by decide) (fun c8 => ?_) (fun c8 => ?_)
          · have hf := if_f hf c8
            exact J57 (X4_firstMate_B4 h v0 v1 v2 fu) ih v3 hf H locs ls hP hS (lv_sub hl [1, 2, 3, 4] rfl)
          · have hf := if_t hf c8
            refine lv_iload_n hx hb dX4_firstMate_55 rfl (lv_at hl 4 rfl) ?_
            exact g_iret hx hb hr hlk hP hS (ret1 hf) dX4_firstMate_56
  unfold X4_firstMate at hf
  suffices hh : ∀ (H : Heap) (locs : List Loc), va_P D vwCl (gw a C h) H → va_S (gA a) s.heap H locs → W p l e (headSpec wsX4_firstMate rmX4_firstMate).room s m ([.ref (a v0), .int v1, .int v2] : List Value).toArray below meth c H locs 0 0 (MQ below (gQ (some (.int r)) D a C h) ([.ref (a v0), .int v1, .int v2] : List Value).toArray s 0 0 (gA a)) (F0 m 0 ls []) from hh _ _ hP hS
  intro H locs hP hS
  refine lv_iload_n hx hb dX4_firstMate_0 rfl (lv_at hl 1 rfl) ?_
  refine lv_iconst (v := 1) hx hb dX4_firstMate_1 (by decide) ?_
  refine lv_iadd hx hb dX4_firstMate_2 ?_
  refine lv_topi (fun x1 ex1 => ?_)
  have hf := nm_s hf ex1
  refine lv_istore_n (lv' := [(3, .int x1), (0, .ref (a v0)), (1, .int v1), (2, .int v2)]) hx hb dX4_firstMate_3 rfl hl (by decide) rfl (fun ls hl => ?_)
  exact J4 FU x1 hf H locs ls hP hS (lv_sub hl [1, 2, 3, 0] rfl)

def X4_mateOf_B78 (v0 : Nat) (v1 : Int32) (k16 : Int32 → Int32 → HS → Option (Int32 × HS)) (v2 : Int32) (v3 : Int32) (h : HS) : Option (Int32 × HS) :=
    nm (v3 + 1) fun x11 =>
    k16 v2 x11 h
def X4_mateOf_B16 (v0 : Nat) (v1 : Int32) : Nat → Int32 → Int32 → HS → Option (Int32 × HS)
  | 0, _, _, _ => none
  | fu + 1, v2, v3, h =>
    (if (fI h v0 0) ≤ v3 then
    some ((-4), h)
    else
    (if ((v2 >>> (v3 &&& 31)) &&& 1) = 0 then
    X4_mateOf_B78 v0 v1 (X4_mateOf_B16 v0 v1 fu) v2 v3 h
    else
    (X4_firstMate h v0 v3 v2).bind fun q5 =>
    (if v3 = v1 then
    some (q5, h)
    else
    (if q5 = v1 then
    some (v3, h)
    else
    nm (v2 &&& (((1 : Int32) <<< (v3 &&& 31)) ^^^ (-1))) fun x8 =>
    (if q5 < 0 then
    X4_mateOf_B78 v0 v1 (X4_mateOf_B16 v0 v1 fu) x8 v3 h
    else
    nm (x8 &&& (((1 : Int32) <<< (q5 &&& 31)) ^^^ (-1))) fun x10 =>
    X4_mateOf_B78 v0 v1 (X4_mateOf_B16 v0 v1 fu) x10 v3 h)))))
def X4_mateOf (h : HS) (v0 : Nat) (v1 : Int32) : Option (Int32 × HS) :=
    (X4_mostTwos h v0).bind fun q1 =>
    nm (((1 : Int32) <<< ((fI q1.2 v0 0) &&& 31)) - 1) fun x2 =>
    X4_mateOf_B16 v0 v1 FU x2 0 q1.2
def rmX4_mateOf : Room := { frames := 3, cells := 0, slots := 0, locals := 67 }
theorem kdX4_mateOf : yX4_mateOf.cls = RX4 ∧ yX4_mateOf.cls ≠ "java/lang/invoke/MethodHandle" ∧ yX4_mateOf.cls ≠ "java/lang/invoke/VarHandle" ∧ (parseMethodDescriptor yX4_mateOf.desc).map (fun d => d.parameters.length) = some 1 := by decide +kernel
set_option maxHeartbeats 4000000 in
set_option maxRecDepth 100000 in
theorem m_X4_mateOf (l : Launch) (D : va_G) (a : Nat → Nat) (C : Nat → ClassId) (ha : ginj a) (h : HS) (v0 : Nat) (v1 : Int32) (hv0 : isLin v0) (r : Int32) (h' : HS) (hf : X4_mateOf h v0 v1 = some (r, h')) : gM l yX4_mateOf wsX4_mateOf rmX4_mateOf D a C [.ref (a v0), .int v1] h (some (.int r)) h' := by
  refine g_start (av := [.ref (a v0), .int v1]) (cc := cX4_mateOf) (maxL := 5) (rt := (some .int)) (by decide) rfl (Nat.le_of_ble_eq_true rfl) ?_
  intro p e s m below meth c hx hb hr hml hown hlk hts hP hK hN ls hl
  have hA : ∀ q, gA a q → gA a q := fun _ q => q
  have hS : va_S (gA a) s.heap s.heap [] := va_S.rf
  have hl : lv_has ls 5 [(0, .ref (a v0)), (1, .int v1)] := hl
  have J78 : ∀ (k16 : Int32 → Int32 → HS → Option (Int32 × HS)) (hk16 : ∀ (v2 : Int32) (v3 : Int32) (h : HS), k16 v2 v3 h = some (r, h') → gG p l e (headSpec wsX4_mateOf rmX4_mateOf).room s m ([.ref (a v0), .int v1] : List Value).toArray below meth c (MQ below (gQ (some (.int r)) D a C h') ([.ref (a v0), .int v1] : List Value).toArray s 0 0 (gA a)) D a C 5 h 16 [(0, .ref (a v0)), (1, .int v1), (2, .int v2), (3, .int v3)] []) (v2 : Int32) (v3 : Int32) (h : HS) (_ : X4_mateOf_B78 v0 v1 k16 v2 v3 h = some (r, h')), gG p l e (headSpec wsX4_mateOf rmX4_mateOf).room s m ([.ref (a v0), .int v1] : List Value).toArray below meth c (MQ below (gQ (some (.int r)) D a C h') ([.ref (a v0), .int v1] : List Value).toArray s 0 0 (gA a)) D a C 5 h 78 [(0, .ref (a v0)), (1, .int v1), (2, .int v2), (3, .int v3)] [] := by
    intro k16 hk16 v2 v3 h hf H locs ls hP hS hl
    unfold X4_mateOf_B78 at hf
    obtain ⟨x11, ex11⟩ : ∃ y : Int32, y = (v3 + 1) := ⟨_, rfl⟩
    have hf := nm_s hf ex11
    refine lv_iinc (v := x11) (lv' := [(3, .int x11), (0, .ref (a v0)), (1, .int v1), (2, .int v2)]) hx hb dX4_mateOf_78 hl (k := 3) rfl (by rw [ex11]; rfl) (by decide) rfl (fun ls hl => ?_)
    refine lv_goto (tgt := 16) hx hb dX4_mateOf_81 (by decide) ?_
    exact hk16 v2 x11 h hf H locs ls hP hS (lv_sub hl [1, 2, 3, 0] rfl)
  have J16 : ∀ (fu : Nat) (v2 : Int32) (v3 : Int32) (h : HS), X4_mateOf_B16 v0 v1 fu v2 v3 h = some (r, h') → gG p l e (headSpec wsX4_mateOf rmX4_mateOf).room s m ([.ref (a v0), .int v1] : List Value).toArray below meth c (MQ below (gQ (some (.int r)) D a C h') ([.ref (a v0), .int v1] : List Value).toArray s 0 0 (gA a)) D a C 5 h 16 [(0, .ref (a v0)), (1, .int v1), (2, .int v2), (3, .int v3)] [] := by
    intro fu
    induction fu with
    | zero => intro v2 v3 h hf; exact absurd hf (by simp [X4_mateOf_B16])
    | succ fu ih =>
      intro v2 v3 h hf H locs ls hP hS hl
      rw [X4_mateOf_B16] at hf
      refine lv_iload_n hx hb dX4_mateOf_16 rfl (lv_at hl 3 rfl) ?_
      refine lv_aload_n hx hb dX4_mateOf_17 rfl (lv_at hl 0 rfl) ?_
      refine g_get (Cn := RX4) (T := TX4) (N := 3) (v := .int (fI h v0 0)) (own := RX4) hx hb hown hts hK (lin_O hv0) rfl (fun _ hw => List.mem_cons_of_mem _ (List.mem_append_right _ hw)) 0 (by decide) (List.mem_of_getElem? (i := 1) rfl) rfl rfl hP dX4_mateOf_18 ?_
      refine lv_icmp_ge (tgt := 84) hx hb dX4_mateOf_21 (by decide) (fun c3 => ?_) (fun c3 => ?_)
      · have hf := if_t hf c3
        refine lv_bipush (v := (-4)) hx hb dX4_mateOf_84 (by decide) ?_
        exact g_iretW hx hb hr hlk hP hS (ret2 hf) dX4_mateOf_86
      · have hf := if_f hf c3
        refine lv_iload_n hx hb dX4_mateOf_24 rfl (lv_at hl 2 rfl) ?_
        refine lv_iload_n hx hb dX4_mateOf_25 rfl (lv_at hl 3 rfl) ?_
        refine lv_ishr hx hb dX4_mateOf_26 ?_
        refine lv_iconst (v := 1) hx hb dX4_mateOf_27 (by decide) ?_
        refine lv_iand hx hb dX4_mateOf_28 ?_
        refine lv_if_eq (tgt := 78) hx hb dX4_mateOf_29 (by decide) (fun c4 => ?_) (fun c4 => ?_)
        · have hf := if_t hf c4
          exact J78 (X4_mateOf_B16 v0 v1 fu) ih v2 v3 h hf H locs ls hP hS (lv_sub hl [0, 1, 2, 3] rfl)
        · have hf := if_f hf c4
          refine lv_aload_n hx hb dX4_mateOf_32 rfl (lv_at hl 0 rfl) ?_
          refine lv_iload_n hx hb dX4_mateOf_33 rfl (lv_at hl 3 rfl) ?_
          refine lv_iload_n hx hb dX4_mateOf_34 rfl (lv_at hl 2 rfl) ?_
          obtain ⟨q5, hq5, hf⟩ := bind_s hf
          refine g_callV (As := [.int v3, .int v2]) (rest := []) hx hb hml hown hts hK hN (m_X4_firstMate l D a C ha h v0 v3 v2 hv0 q5 hq5) (cwV 2 hts gX4_mateOf_X4_firstMate rfl rfl rfl kdX4_firstMate ⟨Nat.le_of_ble_eq_true rfl, Nat.le_of_ble_eq_true rfl⟩) (lin_O hv0) rfl rfl hP hS hA rfl hl.1 rfl (Nat.le_of_ble_eq_true rfl) dX4_mateOf_35 ⟨Nat.le_refl _, Nat.le_refl _⟩ (fun H locs hP hS => ?_)
          refine W.eq (g2 := F0 m 38 ls [.int q5]) rfl ?_
          refine lv_istore (lv' := [(4, .int q5), (0, .ref (a v0)), (1, .int v1), (2, .int v2), (3, .int v3)]) hx hb dX4_mateOf_38 hl (by decide) rfl (fun ls hl => ?_)
          refine lv_iload_n hx hb dX4_mateOf_40 rfl (lv_at hl 4 rfl) ?_
          refine lv_iload_n hx hb dX4_mateOf_41 rfl (lv_at hl 2 rfl) ?_
          refine lv_icmp_ne (tgt := 48) hx hb dX4_mateOf_42 (by decide) (fun c6 => ?_) (fun c6 => ?_)
          · have hf := if_f hf c6
            refine lv_iload hx hb dX4_mateOf_48 (lv_at hl 0 rfl) ?_
            refine lv_iload_n hx hb dX4_mateOf_50 rfl (lv_at hl 2 rfl) ?_
            refine lv_icmp_ne (tgt := 56) hx hb dX4_mateOf_51 (by decide) (fun c7 => ?_) (fun c7 => ?_)
            · have hf := if_f hf c7
              refine lv_iload_n hx hb dX4_mateOf_56 rfl (lv_at hl 3 rfl) ?_
              refine lv_iconst (v := 1) hx hb dX4_mateOf_57 (by decide) ?_
              refine lv_iload_n hx hb dX4_mateOf_58 rfl (lv_at hl 4 rfl) ?_
              refine lv_ishl hx hb dX4_mateOf_59 ?_
              refine lv_iconst (v := (-1)) hx hb dX4_mateOf_60 (by decide) ?_
              refine lv_ixor hx hb dX4_mateOf_61 ?_
              refine lv_iand hx hb dX4_mateOf_62 ?_
              refine lv_topi (fun x8 ex8 => ?_)
              have hf := nm_s hf ex8
              refine lv_istore_n (lv' := [(2, .int x8), (4, .int q5), (0, .ref (a v0)), (1, .int v1), (3, .int v3)]) hx hb dX4_mateOf_63 rfl hl (by decide) rfl (fun ls hl => ?_)
              refine lv_iload hx hb dX4_mateOf_64 (lv_at hl 1 rfl) ?_
              refine lv_if_lt (tgt := 78) hx hb dX4_mateOf_66 (by decide) (fun c9 => ?_) (fun c9 => ?_)
              · have hf := if_t hf c9
                exact J78 (X4_mateOf_B16 v0 v1 fu) ih x8 v3 h hf H locs ls hP hS (lv_sub hl [2, 3, 0, 4] rfl)
              · have hf := if_f hf c9
                refine lv_iload_n hx hb dX4_mateOf_69 rfl (lv_at hl 0 rfl) ?_
                refine lv_iconst (v := 1) hx hb dX4_mateOf_70 (by decide) ?_
                refine lv_iload hx hb dX4_mateOf_71 (lv_at hl 1 rfl) ?_
                refine lv_ishl hx hb dX4_mateOf_73 ?_
                refine lv_iconst (v := (-1)) hx hb dX4_mateOf_74 (by decide) ?_
                refine lv_ixor hx hb dX4_mateOf_75 ?_
                refine lv_iand hx hb dX4_mateOf_76 ?_
                refine lv_topi (fun x10 ex10 => ?_)
                have hf := nm_s hf ex10
                refine lv_istore_n (lv' := [(2, .int x10), (4, .int q5), (0, .ref (a v0)), (1, .int v1), (3, .int v3)]) hx hb dX4_mateOf_77 rfl hl (by decide) rfl (fun ls hl => ?_)
                exact J78 (X4_mateOf_B16 v0 v1 fu) ih x10 v3 h hf H locs ls hP hS (lv_sub hl [2, 3, 0, 4] rfl)
            · have hf := if_t hf c7
              refine lv_iload_n hx hb dX4_mateOf_54 rfl (lv_at hl 4 rfl) ?_
              exact g_iretW hx hb hr hlk hP hS (ret2 hf) dX4_mateOf_55
          · have hf := if_t hf c6
            refine lv_iload hx hb dX4_mateOf_45 (lv_at hl 0 rfl) ?_
            exact g_iretW hx hb hr hlk hP hS (ret2 hf) dX4_mateOf_47
  unfold X4_mateOf at hf
  suffices hh : ∀ (H : Heap) (locs : List Loc), va_P D vwCl (gw a C h) H → va_S (gA a) s.heap H locs → W p l e (headSpec wsX4_mateOf rmX4_mateOf).room s m ([.ref (a v0), .int v1] : List Value).toArray below meth c H locs 0 0 (MQ below (gQ (some (.int r)) D a C h') ([.ref (a v0), .int v1] : List Value).toArray s 0 0 (gA a)) (F0 m 0 ls []) from hh _ _ hP hS
  intro H locs hP hS
  refine lv_aload_n hx hb dX4_mateOf_0 rfl (lv_at hl 0 rfl) ?_
  obtain ⟨q1, hq1, hf⟩ := bind_s hf
  refine g_callV (As := []) (rest := []) hx hb hml hown hts hK hN (m_X4_mostTwos l D a C ha h v0 hv0 q1.1 q1.2 hq1) (cwV 0 hts gX4_mateOf_X4_mostTwos rfl rfl rfl kdX4_mostTwos ⟨Nat.le_of_ble_eq_true rfl, Nat.le_of_ble_eq_true rfl⟩) (lin_O hv0) rfl rfl hP hS hA rfl hl.1 rfl (Nat.le_of_ble_eq_true rfl) dX4_mateOf_1 ⟨Nat.le_refl _, Nat.le_refl _⟩ (fun H locs hP hS => ?_)
  refine W.eq (g2 := F0 m 4 ls [.int q1.1]) rfl ?_
  refine lv_pop hx hb dX4_mateOf_4 rfl ?_
  refine lv_iconst (v := 1) hx hb dX4_mateOf_5 (by decide) ?_
  refine lv_aload_n hx hb dX4_mateOf_6 rfl (lv_at hl 0 rfl) ?_
  refine g_get (Cn := RX4) (T := TX4) (N := 3) (v := .int (fI q1.2 v0 0)) (own := RX4) hx hb hown hts hK (lin_O hv0) rfl (fun _ hw => List.mem_cons_of_mem _ (List.mem_append_right _ hw)) 0 (by decide) (List.mem_of_getElem? (i := 1) rfl) rfl rfl hP dX4_mateOf_7 ?_
  refine lv_ishl hx hb dX4_mateOf_10 ?_
  refine lv_iconst (v := 1) hx hb dX4_mateOf_11 (by decide) ?_
  refine lv_isub hx hb dX4_mateOf_12 ?_
  refine lv_topi (fun x2 ex2 => ?_)
  have hf := nm_s hf ex2
  refine lv_istore_n (lv' := [(2, .int x2), (0, .ref (a v0)), (1, .int v1)]) hx hb dX4_mateOf_13 rfl hl (by decide) rfl (fun ls hl => ?_)
  refine lv_iconst (v := 0) hx hb dX4_mateOf_14 (by decide) ?_
  refine lv_istore_n (lv' := [(3, .int 0), (2, .int x2), (0, .ref (a v0)), (1, .int v1)]) hx hb dX4_mateOf_15 rfl hl (by decide) rfl (fun ls hl => ?_)
  exact J16 FU x2 0 q1.2 hf H locs ls hP hS (lv_sub hl [2, 3, 1, 0] rfl)

def X4_draw_B73 (v0 : Nat) (v1 : Int32) (k4 : Int32 → Int32 → HS → Option (Int32 × HS)) (k17 : Int32 → Int32 → Int32 → HS → Option (Int32 × HS)) (v2 : Int32) (v3 : Int32) (v4 : Int32) (h : HS) : Option (Int32 × HS) :=
    nm (v4 + 1) fun x10 =>
    k17 v2 v3 x10 h
def X4_draw_B52 (v0 : Nat) (v1 : Int32) (k4 : Int32 → Int32 → HS → Option (Int32 × HS)) (k17 : Int32 → Int32 → Int32 → HS → Option (Int32 × HS)) (v2 : Int32) (v3 : Int32) (v4 : Int32) (s0 : Int32) (h : HS) : Option (Int32 × HS) :=
    (X4_between h v0 v3 v4).bind fun q7 =>
    (if q7 = s0 then
    X4_draw_B73 v0 v1 k4 k17 v2 v3 v4 h
    else
    (X4_turn h v0 v3 v4).bind fun q9 =>
    X4_draw_B73 v0 v1 k4 k17 v2 v3 v4 q9)
def X4_draw_B17 (v0 : Nat) (v1 : Int32) (k4 : Int32 → Int32 → HS → Option (Int32 × HS)) : Nat → Int32 → Int32 → Int32 → HS → Option (Int32 × HS)
  | 0, _, _, _, _ => none
  | fu + 1, v2, v3, v4, h =>
    (if (fI h v0 0) ≤ v4 then
    nm (v3 + 1) fun x4 =>
    k4 v2 x4 h
    else
    nm ((v2 * 1103515245) + 12345) fun x5 =>
    (if (((x5 &&& 2147483647) / 65536) - ((x5 &&& 2147483647) / 65536) / 3 * 3) = 0 then
    X4_draw_B52 v0 v1 k4 (X4_draw_B17 v0 v1 k4 fu) x5 v3 v4 1 h
    else
    X4_draw_B52 v0 v1 k4 (X4_draw_B17 v0 v1 k4 fu) x5 v3 v4 0 h))
def X4_draw_B4 (v0 : Nat) (v1 : Int32) : Nat → Int32 → Int32 → HS → Option (Int32 × HS)
  | 0, _, _, _ => none
  | fu + 1, v2, v3, h =>
    (if (fI h v0 0) ≤ v3 then
    some (v2, h)
    else
    nm (v3 + 1) fun x2 =>
    X4_draw_B17 v0 v1 (X4_draw_B4 v0 v1 fu) FU v2 v3 x2 h)
def X4_draw (h : HS) (v0 : Nat) (v1 : Int32) : Option (Int32 × HS) :=
    X4_draw_B4 v0 v1 FU v1 0 h
def rmX4_draw : Room := { frames := 2, cells := 0, slots := 0, locals := 43 }
theorem kdX4_draw : yX4_draw.cls = RX4 ∧ yX4_draw.cls ≠ "java/lang/invoke/MethodHandle" ∧ yX4_draw.cls ≠ "java/lang/invoke/VarHandle" ∧ (parseMethodDescriptor yX4_draw.desc).map (fun d => d.parameters.length) = some 1 := by decide +kernel
set_option maxHeartbeats 4000000 in
set_option maxRecDepth 100000 in
theorem m_X4_draw (l : Launch) (D : va_G) (a : Nat → Nat) (C : Nat → ClassId) (ha : ginj a) (h : HS) (v0 : Nat) (v1 : Int32) (hv0 : isLin v0) (r : Int32) (h' : HS) (hf : X4_draw h v0 v1 = some (r, h')) : gM l yX4_draw wsX4_draw rmX4_draw D a C [.ref (a v0), .int v1] h (some (.int r)) h' := by
  refine g_start (av := [.ref (a v0), .int v1]) (cc := cX4_draw) (maxL := 6) (rt := (some .int)) (by decide) rfl (Nat.le_of_ble_eq_true rfl) ?_
  intro p e s m below meth c hx hb hr hml hown hlk hts hP hK hN ls hl
  have hA : ∀ q, gA a q → gA a q := fun _ q => q
  have hS : va_S (gA a) s.heap s.heap [] := va_S.rf
  have hl : lv_has ls 6 [(0, .ref (a v0)), (1, .int v1)] := hl
  have J73 : ∀ (k4 : Int32 → Int32 → HS → Option (Int32 × HS)) (hk4 : ∀ (v2 : Int32) (v3 : Int32) (h : HS), k4 v2 v3 h = some (r, h') → gG p l e (headSpec wsX4_draw rmX4_draw).room s m ([.ref (a v0), .int v1] : List Value).toArray below meth c (MQ below (gQ (some (.int r)) D a C h') ([.ref (a v0), .int v1] : List Value).toArray s 0 0 (gA a)) D a C 6 h 4 [(0, .ref (a v0)), (2, .int v2), (3, .int v3)] []) (k17 : Int32 → Int32 → Int32 → HS → Option (Int32 × HS)) (hk17 : ∀ (v2 : Int32) (v3 : Int32) (v4 : Int32) (h : HS), k17 v2 v3 v4 h = some (r, h') → gG p l e (headSpec wsX4_draw rmX4_draw).room s m ([.ref (a v0), .int v1] : List Value).toArray below meth c (MQ below (gQ (some (.int r)) D a C h') ([.ref (a v0), .int v1] : List Value).toArray s 0 0 (gA a)) D a C 6 h 17 [(0, .ref (a v0)), (2, .int v2), (3, .int v3), (4, .int v4)] []) (v2 : Int32) (v3 : Int32) (v4 : Int32) (h : HS) (_ : X4_draw_B73 v0 v1 k4 k17 v2 v3 v4 h = some (r, h')), gG p l e (headSpec wsX4_draw rmX4_draw).room s m ([.ref (a v0), .int v1] : List Value).toArray below meth c (MQ below (gQ (some (.int r)) D a C h') ([.ref (a v0), .int v1] : List Value).toArray s 0 0 (gA a)) D a C 6 h 73 [(0, .ref (a v0)), (2, .int v2), (3, .int v3), (4, .int v4)] [] := by
    intro k4 hk4 k17 hk17 v2 v3 v4 h hf H locs ls hP hS hl
    unfold X4_draw_B73 at hf
    obtain ⟨x10, ex10⟩ : ∃ y : Int32, y = (v4 + 1) := ⟨_, rfl⟩
    have hf := nm_s hf ex10
    refine lv_iinc (v := x10) (lv' := [(4, .int x10), (0, .ref (a v0)), (2, .int v2), (3, .int v3)]) hx hb dX4_draw_73 hl (k := 3) rfl (by rw [ex10]; rfl) (by decide) rfl (fun ls hl => ?_)
    refine lv_goto (tgt := 17) hx hb dX4_draw_76 (by decide) ?_
    exact hk17 v2 v3 x10 h hf H locs ls hP hS (lv_sub hl [1, 2, 3, 0] rfl)
  have J52 : ∀ (k4 : Int32 → Int32 → HS → Option (Int32 × HS)) (hk4 : ∀ (v2 : Int32) (v3 : Int32) (h : HS), k4 v2 v3 h = some (r, h') → gG p l e (headSpec wsX4_draw rmX4_draw).room s m ([.ref (a v0), .int v1] : List Value).toArray below meth c (MQ below (gQ (some (.int r)) D a C h') ([.ref (a v0), .int v1] : List Value).toArray s 0 0 (gA a)) D a C 6 h 4 [(0, .ref (a v0)), (2, .int v2), (3, .int v3)] []) (k17 : Int32 → Int32 → Int32 → HS → Option (Int32 × HS)) (hk17 : ∀ (v2 : Int32) (v3 : Int32) (v4 : Int32) (h : HS), k17 v2 v3 v4 h = some (r, h') → gG p l e (headSpec wsX4_draw rmX4_draw).room s m ([.ref (a v0), .int v1] : List Value).toArray below meth c (MQ below (gQ (some (.int r)) D a C h') ([.ref (a v0), .int v1] : List Value).toArray s 0 0 (gA a)) D a C 6 h 17 [(0, .ref (a v0)), (2, .int v2), (3, .int v3), (4, .int v4)] []) (v2 : Int32) (v3 : Int32) (v4 : Int32) (s0 : Int32) (h : HS) (_ : X4_draw_B52 v0 v1 k4 k17 v2 v3 v4 s0 h = some (r, h')), gG p l e (headSpec wsX4_draw rmX4_draw).room s m ([.ref (a v0), .int v1] : List Value).toArray below meth c (MQ below (gQ (some (.int r)) D a C h') ([.ref (a v0), .int v1] : List Value).toArray s 0 0 (gA a)) D a C 6 h 52 [(0, .ref (a v0)), (2, .int v2), (3, .int v3), (4, .int v4)] [.int s0] := by
    intro k4 hk4 k17 hk17 v2 v3 v4 s0 h hf H locs ls hP hS hl
    unfold X4_draw_B52 at hf
    refine lv_istore (lv' := [(5, .int s0), (0, .ref (a v0)), (2, .int v2), (3, .int v3), (4, .int v4)]) hx hb dX4_draw_52 hl (by decide) rfl (fun ls hl => ?_)
    refine lv_aload_n hx hb dX4_draw_54 rfl (lv_at hl 1 rfl) ?_
    refine lv_iload_n hx hb dX4_draw_55 rfl (lv_at hl 3 rfl) ?_
    refine lv_iload hx hb dX4_draw_56 (lv_at hl 4 rfl) ?_
    obtain ⟨q7, hq7, hf⟩ := bind_s hf
    refine g_callV (As := [.int v3, .int v4]) (rest := []) hx hb hml hown hts hK hN (m_X4_between l D a C ha h v0 v3 v4 hv0 q7 hq7) (cwV 2 hts gX4_draw_X4_between rfl rfl rfl kdX4_between ⟨Nat.le_of_ble_eq_true rfl, Nat.le_of_ble_eq_true rfl⟩) (lin_O hv0) rfl rfl hP hS hA rfl hl.1 rfl (Nat.le_of_ble_eq_true rfl) dX4_draw_58 ⟨Nat.le_refl _, Nat.le_refl _⟩ (fun H locs hP hS => ?_)
    refine W.eq (g2 := F0 m 61 ls [.int q7]) rfl ?_
    refine lv_iload hx hb dX4_draw_61 (lv_at hl 0 rfl) ?_
    refine lv_icmp_eq (tgt := 73) hx hb dX4_draw_63 (by decide) (fun c8 => ?_) (fun c8 => ?_)
    · have hf := if_t hf c8
      exact J73 k4 hk4 k17 hk17 v2 v3 v4 h hf H locs ls hP hS (lv_sub hl [1, 2, 3, 4] rfl)
    · have hf := if_f hf c8
      refine lv_aload_n hx hb dX4_draw_66 rfl (lv_at hl 1 rfl) ?_
      refine lv_iload_n hx hb dX4_draw_67 rfl (lv_at hl 3 rfl) ?_
      refine lv_iload hx hb dX4_draw_68 (lv_at hl 4 rfl) ?_
      obtain ⟨q9, hq9, hf⟩ := bind_s hf
      refine g_callV (As := [.int v3, .int v4]) (rest := []) hx hb hml hown hts hK hN (m_X4_turn l D a C ha h v0 v3 v4 hv0 q9 hq9) (cwV 2 hts gX4_draw_X4_turn rfl rfl rfl kdX4_turn ⟨Nat.le_of_ble_eq_true rfl, Nat.le_of_ble_eq_true rfl⟩) (lin_O hv0) rfl rfl hP hS hA rfl hl.1 rfl (Nat.le_of_ble_eq_true rfl) dX4_draw_70 ⟨Nat.le_refl _, Nat.le_refl _⟩ (fun H locs hP hS => ?_)
      refine W.eq (g2 := F0 m 73 ls []) rfl ?_
      exact J73 k4 hk4 k17 hk17 v2 v3 v4 q9 hf H locs ls hP hS (lv_sub hl [1, 2, 3, 4] rfl)
  have J17 : ∀ (k4 : Int32 → Int32 → HS → Option (Int32 × HS)) (hk4 : ∀ (v2 : Int32) (v3 : Int32) (h : HS), k4 v2 v3 h = some (r, h') → gG p l e (headSpec wsX4_draw rmX4_draw).room s m ([.ref (a v0), .int v1] : List Value).toArray below meth c (MQ below (gQ (some (.int r)) D a C h') ([.ref (a v0), .int v1] : List Value).toArray s 0 0 (gA a)) D a C 6 h 4 [(0, .ref (a v0)), (2, .int v2), (3, .int v3)] []) (fu : Nat) (v2 : Int32) (v3 : Int32) (v4 : Int32) (h : HS), X4_draw_B17 v0 v1 k4 fu v2 v3 v4 h = some (r, h') → gG p l e (headSpec wsX4_draw rmX4_draw).room s m ([.ref (a v0), .int v1] : List Value).toArray below meth c (MQ below (gQ (some (.int r)) D a C h') ([.ref (a v0), .int v1] : List Value).toArray s 0 0 (gA a)) D a C 6 h 17 [(0, .ref (a v0)), (2, .int v2), (3, .int v3), (4, .int v4)] [] := by
    intro k4 hk4 fu
    induction fu with
    | zero => intro v2 v3 v4 h hf; exact absurd hf (by simp [X4_draw_B17])
    | succ fu ih =>
      intro v2 v3 v4 h hf H locs ls hP hS hl
      rw [X4_draw_B17] at hf
      refine lv_iload hx hb dX4_draw_17 (lv_at hl 3 rfl) ?_
      refine lv_aload_n hx hb dX4_draw_19 rfl (lv_at hl 0 rfl) ?_
      refine g_get (Cn := RX4) (T := TX4) (N := 3) (v := .int (fI h v0 0)) (own := RX4) hx hb hown hts hK (lin_O hv0) rfl (fun _ hw => List.mem_cons_of_mem _ (List.mem_append_right _ hw)) 0 (by decide) (List.mem_of_getElem? (i := 1) rfl) rfl rfl hP dX4_draw_20 ?_
      refine lv_icmp_ge (tgt := 79) hx hb dX4_draw_23 (by decide) (fun c3 => ?_) (fun c3 => ?_)
      · have hf := if_t hf c3
        obtain ⟨x4, ex4⟩ : ∃ y : Int32, y = (v3 + 1) := ⟨_, rfl⟩
        have hf := nm_s hf ex4
        refine lv_iinc (v := x4) (lv' := [(3, .int x4), (0, .ref (a v0)), (2, .int v2), (4, .int v4)]) hx hb dX4_draw_79 hl (k := 2) rfl (by rw [ex4]; rfl) (by decide) rfl (fun ls hl => ?_)
        refine lv_goto (tgt := 4) hx hb dX4_draw_82 (by decide) ?_
        exact hk4 v2 x4 h hf H locs ls hP hS (lv_sub hl [1, 2, 0] rfl)
      · have hf := if_f hf c3
        refine lv_iload_n hx hb dX4_draw_26 rfl (lv_at hl 1 rfl) ?_
        refine lv_ldc (v := 1103515245) hx hb hown (hts _ (List.mem_of_getElem? (i := 2) rfl)) dX4_draw_27 ?_
        refine lv_imul hx hb dX4_draw_29 ?_
        refine lv_sipush (v := 12345) hx hb dX4_draw_30 (by decide) ?_
        refine lv_iadd hx hb dX4_draw_33 ?_
        refine lv_topi (fun x5 ex5 => ?_)
        have hf := nm_s hf ex5
        refine lv_istore_n (lv' := [(2, .int x5), (0, .ref (a v0)), (3, .int v3), (4, .int v4)]) hx hb dX4_draw_34 rfl hl (by decide) rfl (fun ls hl => ?_)
        refine lv_iload_n hx hb dX4_draw_35 rfl (lv_at hl 0 rfl) ?_
        refine lv_ldc (v := 2147483647) hx hb hown (hts _ (List.mem_of_getElem? (i := 3) rfl)) dX4_draw_36 ?_
        refine lv_iand hx hb dX4_draw_38 ?_
        refine lv_ldc (v := 65536) hx hb hown (hts _ (List.mem_of_getElem? (i := 4) rfl)) dX4_draw_39 ?_
        refine lv_idiv hx hb dX4_draw_41 (by decide) ?_
        refine lv_iconst (v := 3) hx hb dX4_draw_42 (by decide) ?_
        refine lv_irem hx hb dX4_draw_43 (by decide) ?_
        refine lv_if_ne (tgt := 51) hx hb dX4_draw_44 (by decide) (fun c6 => ?_) (fun c6 => ?_)
        · have hf := if_f hf c6
          refine lv_iconst (v := 0) hx hb dX4_draw_51 (by decide) ?_
          exact J52 k4 hk4 (X4_draw_B17 v0 v1 k4 fu) ih x5 v3 v4 0 h hf H locs ls hP hS (lv_sub hl [1, 0, 2, 3] rfl)
        · have hf := if_t hf c6
          refine lv_iconst (v := 1) hx hb dX4_draw_47 (by decide) ?_
          refine lv_goto (tgt := 52) hx hb dX4_draw_48 (by decide) ?_
          exact J52 k4 hk4 (X4_draw_B17 v0 v1 k4 fu) ih x5 v3 v4 1 h hf H locs ls hP hS (lv_sub hl [1, 0, 2, 3] rfl)
  have J4 : ∀ (fu : Nat) (v2 : Int32) (v3 : Int32) (h : HS), X4_draw_B4 v0 v1 fu v2 v3 h = some (r, h') → gG p l e (headSpec wsX4_draw rmX4_draw).room s m ([.ref (a v0), .int v1] : List Value).toArray below meth c (MQ below (gQ (some (.int r)) D a C h') ([.ref (a v0), .int v1] : List Value).toArray s 0 0 (gA a)) D a C 6 h 4 [(0, .ref (a v0)), (2, .int v2), (3, .int v3)] [] := by
    intro fu
    induction fu with
    | zero => intro v2 v3 h hf; exact absurd hf (by simp [X4_draw_B4])
    | succ fu ih =>
      intro v2 v3 h hf H locs ls hP hS hl
      rw [X4_draw_B4] at hf
      refine lv_iload_n hx hb dX4_draw_4 rfl (lv_at hl 2 rfl) ?_
      refine lv_aload_n hx hb dX4_draw_5 rfl (lv_at hl 0 rfl) ?_
      refine g_get (Cn := RX4) (T := TX4) (N := 3) (v := .int (fI h v0 0)) (own := RX4) hx hb hown hts hK (lin_O hv0) rfl (fun _ hw => List.mem_cons_of_mem _ (List.mem_append_right _ hw)) 0 (by decide) (List.mem_of_getElem? (i := 1) rfl) rfl rfl hP dX4_draw_6 ?_
      refine lv_icmp_ge (tgt := 85) hx hb dX4_draw_9 (by decide) (fun c1 => ?_) (fun c1 => ?_)
      · have hf := if_t hf c1
        refine lv_iload_n hx hb dX4_draw_85 rfl (lv_at hl 1 rfl) ?_
        exact g_iretW hx hb hr hlk hP hS (ret2 hf) dX4_draw_86
      · have hf := if_f hf c1
        refine lv_iload_n hx hb dX4_draw_12 rfl (lv_at hl 2 rfl) ?_
        refine lv_iconst (v := 1) hx hb dX4_draw_13 (by decide) ?_
        refine lv_iadd hx hb dX4_draw_14 ?_
        refine lv_topi (fun x2 ex2 => ?_)
        have hf := nm_s hf ex2
        refine lv_istore (lv' := [(4, .int x2), (0, .ref (a v0)), (2, .int v2), (3, .int v3)]) hx hb dX4_draw_15 hl (by decide) rfl (fun ls hl => ?_)
        exact J17 (X4_draw_B4 v0 v1 fu) ih FU v2 v3 x2 h hf H locs ls hP hS (lv_sub hl [1, 2, 3, 0] rfl)
  unfold X4_draw at hf
  suffices hh : ∀ (H : Heap) (locs : List Loc), va_P D vwCl (gw a C h) H → va_S (gA a) s.heap H locs → W p l e (headSpec wsX4_draw rmX4_draw).room s m ([.ref (a v0), .int v1] : List Value).toArray below meth c H locs 0 0 (MQ below (gQ (some (.int r)) D a C h') ([.ref (a v0), .int v1] : List Value).toArray s 0 0 (gA a)) (F0 m 0 ls []) from hh _ _ hP hS
  intro H locs hP hS
  refine lv_iload_n hx hb dX4_draw_0 rfl (lv_at hl 1 rfl) ?_
  refine lv_istore_n (lv' := [(2, .int v1), (0, .ref (a v0)), (1, .int v1)]) hx hb dX4_draw_1 rfl hl (by decide) rfl (fun ls hl => ?_)
  refine lv_iconst (v := 0) hx hb dX4_draw_2 (by decide) ?_
  refine lv_istore_n (lv' := [(3, .int 0), (2, .int v1), (0, .ref (a v0)), (1, .int v1)]) hx hb dX4_draw_3 rfl hl (by decide) rfl (fun ls hl => ?_)
  exact J4 FU v1 0 h hf H locs ls hP hS (lv_sub hl [2, 1, 0] rfl)

