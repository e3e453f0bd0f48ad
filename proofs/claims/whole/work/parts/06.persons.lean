def X2_tellsAtMost (v1 : Int32) (v2 : Int32) : Option Int32 :=
    some 3
def rmX2_tellsAtMost : Room := { frames := 0, cells := 0, slots := 0, locals := 0 }
theorem kdX2_tellsAtMost : yX2_tellsAtMost.cls = RX2 ∧ yX2_tellsAtMost.cls ≠ "java/lang/invoke/MethodHandle" ∧ yX2_tellsAtMost.cls ≠ "java/lang/invoke/VarHandle" ∧ (parseMethodDescriptor yX2_tellsAtMost.desc).map (fun d => d.parameters.length) = some 2 := by decide +kernel
theorem ksX2_tellsAtMost : yX2_tellsAtMost.name ≠ "<init>" ∧ (parseMethodDescriptor yX2_tellsAtMost.desc).map (fun d => d.parameters.length) = some 2 := by decide +kernel
set_option maxHeartbeats 4000000 in
set_option maxRecDepth 100000 in
theorem m_X2_tellsAtMost (l : Launch) (D : va_G) (a : Nat → Nat) (C : Nat → ClassId) (ha : ginj a) (h : HS) (v0 : Nat) (hv0 : isPer v0) (v1 : Int32) (v2 : Int32)  (r : Int32) (hf : X2_tellsAtMost v1 v2 = some r) : gM l yX2_tellsAtMost wsX2_tellsAtMost rmX2_tellsAtMost D a C [.ref (a v0), .int v1, .int v2] h (some (.int r)) h := by
  refine g_start (av := [.ref (a v0), .int v1, .int v2]) (cc := cX2_tellsAtMost) (maxL := 3) (rt := (some .int)) (by decide) rfl (Nat.le_of_ble_eq_true rfl) ?_
  intro p e s m below meth c hx hb hr hml hown hlk hts hP hK hN ls hl
  have hA : ∀ q, gA a q → gA a q := fun _ q => q
  have hS : va_S (gA a) s.heap s.heap [] := va_S.rf
  have hl : lv_has ls 3 [(0, .ref (a v0)), (1, .int v1), (2, .int v2)] := hl
  unfold X2_tellsAtMost at hf
  refine lv_iconst (v := 3) hx hb dX2_tellsAtMost_0 (by decide) ?_
  exact g_iret hx hb hr hlk hP hS (ret1 hf) dX2_tellsAtMost_1

def X10_tellsAtMost (v1 : Int32) (v2 : Int32) : Option Int32 :=
    (X2_tellsAtMost v1 v2).bind fun q1 =>
    some (q1 - 1)
def rmX10_tellsAtMost : Room := { frames := 1, cells := 0, slots := 0, locals := 22 }
theorem kdX10_tellsAtMost : yX10_tellsAtMost.cls = RX10 ∧ yX10_tellsAtMost.cls ≠ "java/lang/invoke/MethodHandle" ∧ yX10_tellsAtMost.cls ≠ "java/lang/invoke/VarHandle" ∧ (parseMethodDescriptor yX10_tellsAtMost.desc).map (fun d => d.parameters.length) = some 2 := by decide +kernel
theorem ksX10_tellsAtMost : yX10_tellsAtMost.name ≠ "<init>" ∧ (parseMethodDescriptor yX10_tellsAtMost.desc).map (fun d => d.parameters.length) = some 2 := by decide +kernel
set_option maxHeartbeats 4000000 in
set_option maxRecDepth 100000 in
theorem m_X10_tellsAtMost (l : Launch) (D : va_G) (a : Nat → Nat) (C : Nat → ClassId) (ha : ginj a) (h : HS) (v0 : Nat) (hv0 : isPer v0) (v1 : Int32) (v2 : Int32)  (r : Int32) (hf : X10_tellsAtMost v1 v2 = some r) : gM l yX10_tellsAtMost wsX10_tellsAtMost rmX10_tellsAtMost D a C [.ref (a v0), .int v1, .int v2] h (some (.int r)) h := by
  refine g_start (av := [.ref (a v0), .int v1, .int v2]) (cc := cX10_tellsAtMost) (maxL := 3) (rt := (some .int)) (by decide) rfl (Nat.le_of_ble_eq_true rfl) ?_
  intro p e s m below meth c hx hb hr hml hown hlk hts hP hK hN ls hl
  have hA : ∀ q, gA a q → gA a q := fun _ q => q
  have hS : va_S (gA a) s.heap s.heap [] := va_S.rf
  have hl : lv_has ls 3 [(0, .ref (a v0)), (1, .int v1), (2, .int v2)] := hl
  unfold X10_tellsAtMost at hf
  refine lv_aload_n hx hb dX10_tellsAtMost_0 rfl (lv_at hl 0 rfl) ?_
  refine lv_iload_n hx hb dX10_tellsAtMost_1 rfl (lv_at hl 1 rfl) ?_
  refine lv_iload_n hx hb dX10_tellsAtMost_2 rfl (lv_at hl 2 rfl) ?_
  obtain ⟨q1, hq1, hf⟩ := bind_s hf
  obtain ⟨ci, hci, hoc⟩ := id hv0
  obtain ⟨qc, hqc⟩ : ∃ z, vwCl[ci]? = some z := ⟨_, List.getElem?_eq_getElem (Nat.lt_of_lt_of_le hci (by decide))⟩
  refine g_callSU (As := [.int v1, .int v2]) (rest := []) (q := qc) hx hb hml hown hts hK hN (m_X2_tellsAtMost l D a C ha h v0 hv0 v1 v2 q1 hq1) (va_cwSU 2 hts gX10_tellsAtMost_X2_tellsAtMost_s7 rfl rfl rfl ksX2_tellsAtMost ⟨Nat.le_of_ble_eq_true rfl, Nat.le_of_ble_eq_true rfl⟩) hoc hqc hP hS hA rfl hl.1 rfl (Nat.le_of_ble_eq_true rfl) dX10_tellsAtMost_3 ⟨Nat.le_refl _, Nat.le_refl _⟩ (fun H locs hP hS => ?_)
  refine W.eq (g2 := F0 m 6 ls [.int q1]) rfl ?_
  refine lv_iconst (v := 1) hx hb dX10_tellsAtMost_6 (by decide) ?_
  refine lv_isub hx hb dX10_tellsAtMost_7 ?_
  exact g_iret hx hb hr hlk hP hS (ret1 hf) dX10_tellsAtMost_8

def X0_tellsAtMost (v1 : Int32) (v2 : Int32) : Option Int32 :=
    (X10_tellsAtMost v1 v2).bind fun q1 =>
    some (q1 + v1)
def rmX0_tellsAtMost : Room := { frames := 2, cells := 0, slots := 0, locals := 44 }
theorem kdX0_tellsAtMost : yX0_tellsAtMost.cls = RX0 ∧ yX0_tellsAtMost.cls ≠ "java/lang/invoke/MethodHandle" ∧ yX0_tellsAtMost.cls ≠ "java/lang/invoke/VarHandle" ∧ (parseMethodDescriptor yX0_tellsAtMost.desc).map (fun d => d.parameters.length) = some 2 := by decide +kernel
theorem ksX0_tellsAtMost : yX0_tellsAtMost.name ≠ "<init>" ∧ (parseMethodDescriptor yX0_tellsAtMost.desc).map (fun d => d.parameters.length) = some 2 := by decide +kernel
set_option maxHeartbeats 4000000 in
set_option maxRecDepth 100000 in
theorem m_X0_tellsAtMost (l : Launch) (D : va_G) (a : Nat → Nat) (C : Nat → ClassId) (ha : ginj a) (h : HS) (v0 : Nat) (hv0 : isPer v0) (v1 : Int32) (v2 : Int32)  (r : Int32) (hf : X0_tellsAtMost v1 v2 = some r) : gM l yX0_tellsAtMost wsX0_tellsAtMost rmX0_tellsAtMost D a C [.ref (a v0), .int v1, .int v2] h (some (.int r)) h := by
  refine g_start (av := [.ref (a v0), .int v1, .int v2]) (cc := cX0_tellsAtMost) (maxL := 3) (rt := (some .int)) (by decide) rfl (Nat.le_of_ble_eq_true rfl) ?_
  intro p e s m below meth c hx hb hr hml hown hlk hts hP hK hN ls hl
  have hA : ∀ q, gA a q → gA a q := fun _ q => q
  have hS : va_S (gA a) s.heap s.heap [] := va_S.rf
  have hl : lv_has ls 3 [(0, .ref (a v0)), (1, .int v1), (2, .int v2)] := hl
  unfold X0_tellsAtMost at hf
  refine lv_aload_n hx hb dX0_tellsAtMost_0 rfl (lv_at hl 0 rfl) ?_
  refine lv_iload_n hx hb dX0_tellsAtMost_1 rfl (lv_at hl 1 rfl) ?_
  refine lv_iload_n hx hb dX0_tellsAtMost_2 rfl (lv_at hl 2 rfl) ?_
  obtain ⟨q1, hq1, hf⟩ := bind_s hf
  obtain ⟨ci, hci, hoc⟩ := id hv0
  obtain ⟨qc, hqc⟩ : ∃ z, vwCl[ci]? = some z := ⟨_, List.getElem?_eq_getElem (Nat.lt_of_lt_of_le hci (by decide))⟩
  refine g_callSU (As := [.int v1, .int v2]) (rest := []) (q := qc) hx hb hml hown hts hK hN (m_X10_tellsAtMost l D a C ha h v0 hv0 v1 v2 q1 hq1) (va_cwSU 2 hts gX0_tellsAtMost_X10_tellsAtMost_s7 rfl rfl rfl ksX10_tellsAtMost ⟨Nat.le_of_ble_eq_true rfl, Nat.le_of_ble_eq_true rfl⟩) hoc hqc hP hS hA rfl hl.1 rfl (Nat.le_of_ble_eq_true rfl) dX0_tellsAtMost_3 ⟨Nat.le_refl _, Nat.le_refl _⟩ (fun H locs hP hS => ?_)
  refine W.eq (g2 := F0 m 6 ls [.int q1]) rfl ?_
  refine lv_iload_n hx hb dX0_tellsAtMost_6 rfl (lv_at hl 1 rfl) ?_
  refine lv_iadd hx hb dX0_tellsAtMost_7 ?_
  exact g_iret hx hb hr hlk hP hS (ret1 hf) dX0_tellsAtMost_8

def X6_cards (v1 : Int32) (v2 : Int32) : Option Int32 :=
    some v2
def rmX6_cards : Room := { frames := 0, cells := 0, slots := 0, locals := 0 }
theorem kdX6_cards : yX6_cards.cls = RX6 ∧ yX6_cards.cls ≠ "java/lang/invoke/MethodHandle" ∧ yX6_cards.cls ≠ "java/lang/invoke/VarHandle" ∧ (parseMethodDescriptor yX6_cards.desc).map (fun d => d.parameters.length) = some 2 := by decide +kernel
theorem ksX6_cards : yX6_cards.name ≠ "<init>" ∧ (parseMethodDescriptor yX6_cards.desc).map (fun d => d.parameters.length) = some 2 := by decide +kernel
set_option maxHeartbeats 4000000 in
set_option maxRecDepth 100000 in
theorem m_X6_cards (l : Launch) (D : va_G) (a : Nat → Nat) (C : Nat → ClassId) (ha : ginj a) (h : HS) (v0 : Nat) (hv0 : isPer v0) (v1 : Int32) (v2 : Int32)  (r : Int32) (hf : X6_cards v1 v2 = some r) : gM l yX6_cards wsX6_cards rmX6_cards D a C [.ref (a v0), .int v1, .int v2] h (some (.int r)) h := by
  refine g_start (av := [.ref (a v0), .int v1, .int v2]) (cc := cX6_cards) (maxL := 3) (rt := (some .int)) (by decide) rfl (Nat.le_of_ble_eq_true rfl) ?_
  intro p e s m below meth c hx hb hr hml hown hlk hts hP hK hN ls hl
  have hA : ∀ q, gA a q → gA a q := fun _ q => q
  have hS : va_S (gA a) s.heap s.heap [] := va_S.rf
  have hl : lv_has ls 3 [(0, .ref (a v0)), (1, .int v1), (2, .int v2)] := hl
  unfold X6_cards at hf
  refine lv_iload_n hx hb dX6_cards_0 rfl (lv_at hl 2 rfl) ?_
  exact g_iret hx hb hr hlk hP hS (ret1 hf) dX6_cards_1

def X2_cards (v1 : Int32) (v2 : Int32) : Option Int32 :=
    (X6_cards v1 v2).bind fun q1 =>
    some (q1 + v1)
def rmX2_cards : Room := { frames := 1, cells := 0, slots := 0, locals := 22 }
theorem kdX2_cards : yX2_cards.cls = RX2 ∧ yX2_cards.cls ≠ "java/lang/invoke/MethodHandle" ∧ yX2_cards.cls ≠ "java/lang/invoke/VarHandle" ∧ (parseMethodDescriptor yX2_cards.desc).map (fun d => d.parameters.length) = some 2 := by decide +kernel
theorem ksX2_cards : yX2_cards.name ≠ "<init>" ∧ (parseMethodDescriptor yX2_cards.desc).map (fun d => d.parameters.length) = some 2 := by decide +kernel
set_option maxHeartbeats 4000000 in
set_option maxRecDepth 100000 in
theorem m_X2_cards (l : Launch) (D : va_G) (a : Nat → Nat) (C : Nat → ClassId) (ha : ginj a) (h : HS) (v0 : Nat) (hv0 : isPer v0) (v1 : Int32) (v2 : Int32)  (r : Int32) (hf : X2_cards v1 v2 = some r) : gM l yX2_cards wsX2_cards rmX2_cards D a C [.ref (a v0), .int v1, .int v2] h (some (.int r)) h := by
  refine g_start (av := [.ref (a v0), .int v1, .int v2]) (cc := cX2_cards) (maxL := 3) (rt := (some .int)) (by decide) rfl (Nat.le_of_ble_eq_true rfl) ?_
  intro p e s m below meth c hx hb hr hml hown hlk hts hP hK hN ls hl
  have hA : ∀ q, gA a q → gA a q := fun _ q => q
  have hS : va_S (gA a) s.heap s.heap [] := va_S.rf
  have hl : lv_has ls 3 [(0, .ref (a v0)), (1, .int v1), (2, .int v2)] := hl
  unfold X2_cards at hf
  refine lv_aload_n hx hb dX2_cards_0 rfl (lv_at hl 0 rfl) ?_
  refine lv_iload_n hx hb dX2_cards_1 rfl (lv_at hl 1 rfl) ?_
  refine lv_iload_n hx hb dX2_cards_2 rfl (lv_at hl 2 rfl) ?_
  obtain ⟨q1, hq1, hf⟩ := bind_s hf
  obtain ⟨ci, hci, hoc⟩ := id hv0
  obtain ⟨qc, hqc⟩ : ∃ z, vwCl[ci]? = some z := ⟨_, List.getElem?_eq_getElem (Nat.lt_of_lt_of_le hci (by decide))⟩
  refine g_callSU (As := [.int v1, .int v2]) (rest := []) (q := qc) hx hb hml hown hts hK hN (m_X6_cards l D a C ha h v0 hv0 v1 v2 q1 hq1) (va_cwSU 2 hts gX2_cards_X6_cards_s7 rfl rfl rfl ksX6_cards ⟨Nat.le_of_ble_eq_true rfl, Nat.le_of_ble_eq_true rfl⟩) hoc hqc hP hS hA rfl hl.1 rfl (Nat.le_of_ble_eq_true rfl) dX2_cards_3 ⟨Nat.le_refl _, Nat.le_refl _⟩ (fun H locs hP hS => ?_)
  refine W.eq (g2 := F0 m 6 ls [.int q1]) rfl ?_
  refine lv_iload_n hx hb dX2_cards_6 rfl (lv_at hl 1 rfl) ?_
  refine lv_iadd hx hb dX2_cards_7 ?_
  exact g_iret hx hb hr hlk hP hS (ret1 hf) dX2_cards_8

def X10_cards (v1 : Int32) (v2 : Int32) : Option Int32 :=
    (X2_cards v1 v2).bind fun q1 =>
    some (2 * q1)
def rmX10_cards : Room := { frames := 2, cells := 0, slots := 0, locals := 44 }
theorem kdX10_cards : yX10_cards.cls = RX10 ∧ yX10_cards.cls ≠ "java/lang/invoke/MethodHandle" ∧ yX10_cards.cls ≠ "java/lang/invoke/VarHandle" ∧ (parseMethodDescriptor yX10_cards.desc).map (fun d => d.parameters.length) = some 2 := by decide +kernel
theorem ksX10_cards : yX10_cards.name ≠ "<init>" ∧ (parseMethodDescriptor yX10_cards.desc).map (fun d => d.parameters.length) = some 2 := by decide +kernel
set_option maxHeartbeats 4000000 in
set_option maxRecDepth 100000 in
theorem m_X10_cards (l : Launch) (D : va_G) (a : Nat → Nat) (C : Nat → ClassId) (ha : ginj a) (h : HS) (v0 : Nat) (hv0 : isPer v0) (v1 : Int32) (v2 : Int32)  (r : Int32) (hf : X10_cards v1 v2 = some r) : gM l yX10_cards wsX10_cards rmX10_cards D a C [.ref (a v0), .int v1, .int v2] h (some (.int r)) h := by
  refine g_start (av := [.ref (a v0), .int v1, .int v2]) (cc := cX10_cards) (maxL := 3) (rt := (some .int)) (by decide) rfl (Nat.le_of_ble_eq_true rfl) ?_
  intro p e s m below meth c hx hb hr hml hown hlk hts hP hK hN ls hl
  have hA : ∀ q, gA a q → gA a q := fun _ q => q
  have hS : va_S (gA a) s.heap s.heap [] := va_S.rf
  have hl : lv_has ls 3 [(0, .ref (a v0)), (1, .int v1), (2, .int v2)] := hl
  unfold X10_cards at hf
  refine lv_iconst (v := 2) hx hb dX10_cards_0 (by decide) ?_
  refine lv_aload_n hx hb dX10_cards_1 rfl (lv_at hl 0 rfl) ?_
  refine lv_iload_n hx hb dX10_cards_2 rfl (lv_at hl 1 rfl) ?_
  refine lv_iload_n hx hb dX10_cards_3 rfl (lv_at hl 2 rfl) ?_
  obtain ⟨q1, hq1, hf⟩ := bind_s hf
  obtain ⟨ci, hci, hoc⟩ := id hv0
  obtain ⟨qc, hqc⟩ : ∃ z, vwCl[ci]? = some z := ⟨_, List.getElem?_eq_getElem (Nat.lt_of_lt_of_le hci (by decide))⟩
  refine g_callSU (As := [.int v1, .int v2]) (rest := [.int 2]) (q := qc) hx hb hml hown hts hK hN (m_X2_cards l D a C ha h v0 hv0 v1 v2 q1 hq1) (va_cwSU 2 hts gX10_cards_X2_cards_s11 rfl rfl rfl ksX2_cards ⟨Nat.le_of_ble_eq_true rfl, Nat.le_of_ble_eq_true rfl⟩) hoc hqc hP hS hA rfl hl.1 rfl (Nat.le_of_ble_eq_true rfl) dX10_cards_4 ⟨Nat.le_refl _, Nat.le_refl _⟩ (fun H locs hP hS => ?_)
  refine W.eq (g2 := F0 m 7 ls [.int q1, .int 2]) rfl ?_
  refine lv_imul hx hb dX10_cards_7 ?_
  exact g_iret hx hb hr hlk hP hS (ret1 hf) dX10_cards_8

def X0_cards (v1 : Int32) (v2 : Int32) : Option Int32 :=
    (X10_cards v1 v2).bind fun q1 =>
    some (q1 + 11)
def rmX0_cards : Room := { frames := 3, cells := 0, slots := 0, locals := 66 }
theorem kdX0_cards : yX0_cards.cls = RX0 ∧ yX0_cards.cls ≠ "java/lang/invoke/MethodHandle" ∧ yX0_cards.cls ≠ "java/lang/invoke/VarHandle" ∧ (parseMethodDescriptor yX0_cards.desc).map (fun d => d.parameters.length) = some 2 := by decide +kernel
theorem ksX0_cards : yX0_cards.name ≠ "<init>" ∧ (parseMethodDescriptor yX0_cards.desc).map (fun d => d.parameters.length) = some 2 := by decide +kernel
set_option maxHeartbeats 4000000 in
set_option maxRecDepth 100000 in
theorem m_X0_cards (l : Launch) (D : va_G) (a : Nat → Nat) (C : Nat → ClassId) (ha : ginj a) (h : HS) (v0 : Nat) (hv0 : isPer v0) (v1 : Int32) (v2 : Int32)  (r : Int32) (hf : X0_cards v1 v2 = some r) : gM l yX0_cards wsX0_cards rmX0_cards D a C [.ref (a v0), .int v1, .int v2] h (some (.int r)) h := by
  refine g_start (av := [.ref (a v0), .int v1, .int v2]) (cc := cX0_cards) (maxL := 3) (rt := (some .int)) (by decide) rfl (Nat.le_of_ble_eq_true rfl) ?_
  intro p e s m below meth c hx hb hr hml hown hlk hts hP hK hN ls hl
  have hA : ∀ q, gA a q → gA a q := fun _ q => q
  have hS : va_S (gA a) s.heap s.heap [] := va_S.rf
  have hl : lv_has ls 3 [(0, .ref (a v0)), (1, .int v1), (2, .int v2)] := hl
  unfold X0_cards at hf
  refine lv_aload_n hx hb dX0_cards_0 rfl (lv_at hl 0 rfl) ?_
  refine lv_iload_n hx hb dX0_cards_1 rfl (lv_at hl 1 rfl) ?_
  refine lv_iload_n hx hb dX0_cards_2 rfl (lv_at hl 2 rfl) ?_
  obtain ⟨q1, hq1, hf⟩ := bind_s hf
  obtain ⟨ci, hci, hoc⟩ := id hv0
  obtain ⟨qc, hqc⟩ : ∃ z, vwCl[ci]? = some z := ⟨_, List.getElem?_eq_getElem (Nat.lt_of_lt_of_le hci (by decide))⟩
  refine g_callSU (As := [.int v1, .int v2]) (rest := []) (q := qc) hx hb hml hown hts hK hN (m_X10_cards l D a C ha h v0 hv0 v1 v2 q1 hq1) (va_cwSU 2 hts gX0_cards_X10_cards_s11 rfl rfl rfl ksX10_cards ⟨Nat.le_of_ble_eq_true rfl, Nat.le_of_ble_eq_true rfl⟩) hoc hqc hP hS hA rfl hl.1 rfl (Nat.le_of_ble_eq_true rfl) dX0_cards_3 ⟨Nat.le_refl _, Nat.le_refl _⟩ (fun H locs hP hS => ?_)
  refine W.eq (g2 := F0 m 6 ls [.int q1]) rfl ?_
  refine lv_bipush (v := 11) hx hb dX0_cards_6 (by decide) ?_
  refine lv_iadd hx hb dX0_cards_8 ?_
  exact g_iret hx hb hr hlk hP hS (ret1 hf) dX0_cards_9

def X0_price (v1 : Int32) : Option Int32 :=
    some 11
def rmX0_price : Room := { frames := 0, cells := 0, slots := 0, locals := 0 }
theorem kdX0_price : yX0_price.cls = RX0 ∧ yX0_price.cls ≠ "java/lang/invoke/MethodHandle" ∧ yX0_price.cls ≠ "java/lang/invoke/VarHandle" ∧ (parseMethodDescriptor yX0_price.desc).map (fun d => d.parameters.length) = some 1 := by decide +kernel
theorem ksX0_price : yX0_price.name ≠ "<init>" ∧ (parseMethodDescriptor yX0_price.desc).map (fun d => d.parameters.length) = some 1 := by decide +kernel
set_option maxHeartbeats 4000000 in
set_option maxRecDepth 100000 in
theorem m_X0_price (l : Launch) (D : va_G) (a : Nat → Nat) (C : Nat → ClassId) (ha : ginj a) (h : HS) (v0 : Nat) (hv0 : isPer v0) (v1 : Int32)  (r : Int32) (hf : X0_price v1 = some r) : gM l yX0_price wsX0_price rmX0_price D a C [.ref (a v0), .int v1] h (some (.int r)) h := by
  refine g_start (av := [.ref (a v0), .int v1]) (cc := cX0_price) (maxL := 2) (rt := (some .int)) (by decide) rfl (Nat.le_of_ble_eq_true rfl) ?_
  intro p e s m below meth c hx hb hr hml hown hlk hts hP hK hN ls hl
  have hA : ∀ q, gA a q → gA a q := fun _ q => q
  have hS : va_S (gA a) s.heap s.heap [] := va_S.rf
  have hl : lv_has ls 2 [(0, .ref (a v0)), (1, .int v1)] := hl
  unfold X0_price at hf
  refine lv_bipush (v := 11) hx hb dX0_price_0 (by decide) ?_
  exact g_iret hx hb hr hlk hP hS (ret1 hf) dX0_price_2

def X1_hearsNothing  : Option Int32 :=
    some 1
def rmX1_hearsNothing : Room := { frames := 0, cells := 0, slots := 0, locals := 0 }
theorem kdX1_hearsNothing : yX1_hearsNothing.cls = RX1 ∧ yX1_hearsNothing.cls ≠ "java/lang/invoke/MethodHandle" ∧ yX1_hearsNothing.cls ≠ "java/lang/invoke/VarHandle" ∧ (parseMethodDescriptor yX1_hearsNothing.desc).map (fun d => d.parameters.length) = some 0 := by decide +kernel
theorem ksX1_hearsNothing : yX1_hearsNothing.name ≠ "<init>" ∧ (parseMethodDescriptor yX1_hearsNothing.desc).map (fun d => d.parameters.length) = some 0 := by decide +kernel
set_option maxHeartbeats 4000000 in
set_option maxRecDepth 100000 in
theorem m_X1_hearsNothing (l : Launch) (D : va_G) (a : Nat → Nat) (C : Nat → ClassId) (ha : ginj a) (h : HS) (v0 : Nat) (hv0 : isPer v0)   (r : Int32) (hf : X1_hearsNothing = some r) : gM l yX1_hearsNothing wsX1_hearsNothing rmX1_hearsNothing D a C [.ref (a v0)] h (some (.int r)) h := by
  refine g_start (av := [.ref (a v0)]) (cc := cX1_hearsNothing) (maxL := 1) (rt := (some .boolean)) (by decide) rfl (Nat.le_of_ble_eq_true rfl) ?_
  intro p e s m below meth c hx hb hr hml hown hlk hts hP hK hN ls hl
  have hA : ∀ q, gA a q → gA a q := fun _ q => q
  have hS : va_S (gA a) s.heap s.heap [] := va_S.rf
  have hl : lv_has ls 1 [(0, .ref (a v0))] := hl
  unfold X1_hearsNothing at hf
  refine lv_iconst (v := 1) hx hb dX1_hearsNothing_0 (by decide) ?_
  exact g_zret hx hb hr hlk (by decide) hP hS (ret1 hf) dX1_hearsNothing_1

def X6_price (v1 : Int32) : Option Int32 :=
    some 1
def rmX6_price : Room := { frames := 0, cells := 0, slots := 0, locals := 0 }
theorem kdX6_price : yX6_price.cls = RX6 ∧ yX6_price.cls ≠ "java/lang/invoke/MethodHandle" ∧ yX6_price.cls ≠ "java/lang/invoke/VarHandle" ∧ (parseMethodDescriptor yX6_price.desc).map (fun d => d.parameters.length) = some 1 := by decide +kernel
theorem ksX6_price : yX6_price.name ≠ "<init>" ∧ (parseMethodDescriptor yX6_price.desc).map (fun d => d.parameters.length) = some 1 := by decide +kernel
set_option maxHeartbeats 4000000 in
set_option maxRecDepth 100000 in
theorem m_X6_price (l : Launch) (D : va_G) (a : Nat → Nat) (C : Nat → ClassId) (ha : ginj a) (h : HS) (v0 : Nat) (hv0 : isPer v0) (v1 : Int32)  (r : Int32) (hf : X6_price v1 = some r) : gM l yX6_price wsX6_price rmX6_price D a C [.ref (a v0), .int v1] h (some (.int r)) h := by
  refine g_start (av := [.ref (a v0), .int v1]) (cc := cX6_price) (maxL := 2) (rt := (some .int)) (by decide) rfl (Nat.le_of_ble_eq_true rfl) ?_
  intro p e s m below meth c hx hb hr hml hown hlk hts hP hK hN ls hl
  have hA : ∀ q, gA a q → gA a q := fun _ q => q
  have hS : va_S (gA a) s.heap s.heap [] := va_S.rf
  have hl : lv_has ls 2 [(0, .ref (a v0)), (1, .int v1)] := hl
  unfold X6_price at hf
  refine lv_iconst (v := 1) hx hb dX6_price_0 (by decide) ?_
  exact g_iret hx hb hr hlk hP hS (ret1 hf) dX6_price_1

def X2_price (v1 : Int32) : Option Int32 :=
    (X6_price v1).bind fun q1 =>
    some (q1 + v1)
def rmX2_price : Room := { frames := 1, cells := 0, slots := 0, locals := 21 }
theorem kdX2_price : yX2_price.cls = RX2 ∧ yX2_price.cls ≠ "java/lang/invoke/MethodHandle" ∧ yX2_price.cls ≠ "java/lang/invoke/VarHandle" ∧ (parseMethodDescriptor yX2_price.desc).map (fun d => d.parameters.length) = some 1 := by decide +kernel
theorem ksX2_price : yX2_price.name ≠ "<init>" ∧ (parseMethodDescriptor yX2_price.desc).map (fun d => d.parameters.length) = some 1 := by decide +kernel
set_option maxHeartbeats 4000000 in
set_option maxRecDepth 100000 in
theorem m_X2_price (l : Launch) (D : va_G) (a : Nat → Nat) (C : Nat → ClassId) (ha : ginj a) (h : HS) (v0 : Nat) (hv0 : isPer v0) (v1 : Int32)  (r : Int32) (hf : X2_price v1 = some r) : gM l yX2_price wsX2_price rmX2_price D a C [.ref (a v0), .int v1] h (some (.int r)) h := by
  refine g_start (av := [.ref (a v0), .int v1]) (cc := cX2_price) (maxL := 2) (rt := (some .int)) (by decide) rfl (Nat.le_of_ble_eq_true rfl) ?_
  intro p e s m below meth c hx hb hr hml hown hlk hts hP hK hN ls hl
  have hA : ∀ q, gA a q → gA a q := fun _ q => q
  have hS : va_S (gA a) s.heap s.heap [] := va_S.rf
  have hl : lv_has ls 2 [(0, .ref (a v0)), (1, .int v1)] := hl
  unfold X2_price at hf
  refine lv_aload_n hx hb dX2_price_0 rfl (lv_at hl 0 rfl) ?_
  refine lv_iload_n hx hb dX2_price_1 rfl (lv_at hl 1 rfl) ?_
  obtain ⟨q1, hq1, hf⟩ := bind_s hf
  obtain ⟨ci, hci, hoc⟩ := id hv0
  obtain ⟨qc, hqc⟩ : ∃ z, vwCl[ci]? = some z := ⟨_, List.getElem?_eq_getElem (Nat.lt_of_lt_of_le hci (by decide))⟩
  refine g_callSU (As := [.int v1]) (rest := []) (q := qc) hx hb hml hown hts hK hN (m_X6_price l D a C ha h v0 hv0 v1 q1 hq1) (va_cwSU 1 hts gX2_price_X6_price_s11 rfl rfl rfl ksX6_price ⟨Nat.le_of_ble_eq_true rfl, Nat.le_of_ble_eq_true rfl⟩) hoc hqc hP hS hA rfl hl.1 rfl (Nat.le_of_ble_eq_true rfl) dX2_price_2 ⟨Nat.le_refl _, Nat.le_refl _⟩ (fun H locs hP hS => ?_)
  refine W.eq (g2 := F0 m 5 ls [.int q1]) rfl ?_
  refine lv_iload_n hx hb dX2_price_5 rfl (lv_at hl 1 rfl) ?_
  refine lv_iadd hx hb dX2_price_6 ?_
  exact g_iret hx hb hr hlk hP hS (ret1 hf) dX2_price_7

def X3_tellsAtMost (v1 : Int32) (v2 : Int32) : Option Int32 :=
    some 0
def rmX3_tellsAtMost : Room := { frames := 0, cells := 0, slots := 0, locals := 0 }
theorem kdX3_tellsAtMost : yX3_tellsAtMost.cls = RX3 ∧ yX3_tellsAtMost.cls ≠ "java/lang/invoke/MethodHandle" ∧ yX3_tellsAtMost.cls ≠ "java/lang/invoke/VarHandle" ∧ (parseMethodDescriptor yX3_tellsAtMost.desc).map (fun d => d.parameters.length) = some 2 := by decide +kernel
theorem ksX3_tellsAtMost : yX3_tellsAtMost.name ≠ "<init>" ∧ (parseMethodDescriptor yX3_tellsAtMost.desc).map (fun d => d.parameters.length) = some 2 := by decide +kernel
set_option maxHeartbeats 4000000 in
set_option maxRecDepth 100000 in
theorem m_X3_tellsAtMost (l : Launch) (D : va_G) (a : Nat → Nat) (C : Nat → ClassId) (ha : ginj a) (h : HS) (v0 : Nat) (hv0 : isPer v0) (v1 : Int32) (v2 : Int32)  (r : Int32) (hf : X3_tellsAtMost v1 v2 = some r) : gM l yX3_tellsAtMost wsX3_tellsAtMost rmX3_tellsAtMost D a C [.ref (a v0), .int v1, .int v2] h (some (.int r)) h := by
  refine g_start (av := [.ref (a v0), .int v1, .int v2]) (cc := cX3_tellsAtMost) (maxL := 3) (rt := (some .int)) (by decide) rfl (Nat.le_of_ble_eq_true rfl) ?_
  intro p e s m below meth c hx hb hr hml hown hlk hts hP hK hN ls hl
  have hA : ∀ q, gA a q → gA a q := fun _ q => q
  have hS : va_S (gA a) s.heap s.heap [] := va_S.rf
  have hl : lv_has ls 3 [(0, .ref (a v0)), (1, .int v1), (2, .int v2)] := hl
  unfold X3_tellsAtMost at hf
  refine lv_iconst (v := 0) hx hb dX3_tellsAtMost_0 (by decide) ?_
  exact g_iret hx hb hr hlk hP hS (ret1 hf) dX3_tellsAtMost_1

def X3_cards (v1 : Int32) (v2 : Int32) : Option Int32 :=
    some 0
def rmX3_cards : Room := { frames := 0, cells := 0, slots := 0, locals := 0 }
theorem kdX3_cards : yX3_cards.cls = RX3 ∧ yX3_cards.cls ≠ "java/lang/invoke/MethodHandle" ∧ yX3_cards.cls ≠ "java/lang/invoke/VarHandle" ∧ (parseMethodDescriptor yX3_cards.desc).map (fun d => d.parameters.length) = some 2 := by decide +kernel
theorem ksX3_cards : yX3_cards.name ≠ "<init>" ∧ (parseMethodDescriptor yX3_cards.desc).map (fun d => d.parameters.length) = some 2 := by decide +kernel
set_option maxHeartbeats 4000000 in
set_option maxRecDepth 100000 in
theorem m_X3_cards (l : Launch) (D : va_G) (a : Nat → Nat) (C : Nat → ClassId) (ha : ginj a) (h : HS) (v0 : Nat) (hv0 : isPer v0) (v1 : Int32) (v2 : Int32)  (r : Int32) (hf : X3_cards v1 v2 = some r) : gM l yX3_cards wsX3_cards rmX3_cards D a C [.ref (a v0), .int v1, .int v2] h (some (.int r)) h := by
  refine g_start (av := [.ref (a v0), .int v1, .int v2]) (cc := cX3_cards) (maxL := 3) (rt := (some .int)) (by decide) rfl (Nat.le_of_ble_eq_true rfl) ?_
  intro p e s m below meth c hx hb hr hml hown hlk hts hP hK hN ls hl
  have hA : ∀ q, gA a q → gA a q := fun _ q => q
  have hS : va_S (gA a) s.heap s.heap [] := va_S.rf
  have hl : lv_has ls 3 [(0, .ref (a v0)), (1, .int v1), (2, .int v2)] := hl
  unfold X3_cards at hf
  refine lv_iconst (v := 0) hx hb dX3_cards_0 (by decide) ?_
  exact g_iret hx hb hr hlk hP hS (ret1 hf) dX3_cards_1

def X8_price (v1 : Int32) : Option Int32 :=
    some 2
def rmX8_price : Room := { frames := 0, cells := 0, slots := 0, locals := 0 }
theorem kdX8_price : yX8_price.cls = RX8 ∧ yX8_price.cls ≠ "java/lang/invoke/MethodHandle" ∧ yX8_price.cls ≠ "java/lang/invoke/VarHandle" ∧ (parseMethodDescriptor yX8_price.desc).map (fun d => d.parameters.length) = some 1 := by decide +kernel
theorem ksX8_price : yX8_price.name ≠ "<init>" ∧ (parseMethodDescriptor yX8_price.desc).map (fun d => d.parameters.length) = some 1 := by decide +kernel
set_option maxHeartbeats 4000000 in
set_option maxRecDepth 100000 in
theorem m_X8_price (l : Launch) (D : va_G) (a : Nat → Nat) (C : Nat → ClassId) (ha : ginj a) (h : HS) (v0 : Nat) (hv0 : isPer v0) (v1 : Int32)  (r : Int32) (hf : X8_price v1 = some r) : gM l yX8_price wsX8_price rmX8_price D a C [.ref (a v0), .int v1] h (some (.int r)) h := by
  refine g_start (av := [.ref (a v0), .int v1]) (cc := cX8_price) (maxL := 2) (rt := (some .int)) (by decide) rfl (Nat.le_of_ble_eq_true rfl) ?_
  intro p e s m below meth c hx hb hr hml hown hlk hts hP hK hN ls hl
  have hA : ∀ q, gA a q → gA a q := fun _ q => q
  have hS : va_S (gA a) s.heap s.heap [] := va_S.rf
  have hl : lv_has ls 2 [(0, .ref (a v0)), (1, .int v1)] := hl
  unfold X8_price at hf
  refine lv_iconst (v := 2) hx hb dX8_price_0 (by decide) ?_
  exact g_iret hx hb hr hlk hP hS (ret1 hf) dX8_price_1

def X3_price (v1 : Int32) : Option Int32 :=
    (X8_price v1).bind fun q1 =>
    some (q1 + 3)
def rmX3_price : Room := { frames := 1, cells := 0, slots := 0, locals := 21 }
theorem kdX3_price : yX3_price.cls = RX3 ∧ yX3_price.cls ≠ "java/lang/invoke/MethodHandle" ∧ yX3_price.cls ≠ "java/lang/invoke/VarHandle" ∧ (parseMethodDescriptor yX3_price.desc).map (fun d => d.parameters.length) = some 1 := by decide +kernel
theorem ksX3_price : yX3_price.name ≠ "<init>" ∧ (parseMethodDescriptor yX3_price.desc).map (fun d => d.parameters.length) = some 1 := by decide +kernel
set_option maxHeartbeats 4000000 in
set_option maxRecDepth 100000 in
theorem m_X3_price (l : Launch) (D : va_G) (a : Nat → Nat) (C : Nat → ClassId) (ha : ginj a) (h : HS) (v0 : Nat) (hv0 : isPer v0) (v1 : Int32)  (r : Int32) (hf : X3_price v1 = some r) : gM l yX3_price wsX3_price rmX3_price D a C [.ref (a v0), .int v1] h (some (.int r)) h := by
  refine g_start (av := [.ref (a v0), .int v1]) (cc := cX3_price) (maxL := 2) (rt := (some .int)) (by decide) rfl (Nat.le_of_ble_eq_true rfl) ?_
  intro p e s m below meth c hx hb hr hml hown hlk hts hP hK hN ls hl
  have hA : ∀ q, gA a q → gA a q := fun _ q => q
  have hS : va_S (gA a) s.heap s.heap [] := va_S.rf
  have hl : lv_has ls 2 [(0, .ref (a v0)), (1, .int v1)] := hl
  unfold X3_price at hf
  refine lv_aload_n hx hb dX3_price_0 rfl (lv_at hl 0 rfl) ?_
  refine lv_iload_n hx hb dX3_price_1 rfl (lv_at hl 1 rfl) ?_
  obtain ⟨q1, hq1, hf⟩ := bind_s hf
  obtain ⟨ci, hci, hoc⟩ := id hv0
  obtain ⟨qc, hqc⟩ : ∃ z, vwCl[ci]? = some z := ⟨_, List.getElem?_eq_getElem (Nat.lt_of_lt_of_le hci (by decide))⟩
  refine g_callSU (As := [.int v1]) (rest := []) (q := qc) hx hb hml hown hts hK hN (m_X8_price l D a C ha h v0 hv0 v1 q1 hq1) (va_cwSU 1 hts gX3_price_X8_price_s7 rfl rfl rfl ksX8_price ⟨Nat.le_of_ble_eq_true rfl, Nat.le_of_ble_eq_true rfl⟩) hoc hqc hP hS hA rfl hl.1 rfl (Nat.le_of_ble_eq_true rfl) dX3_price_2 ⟨Nat.le_refl _, Nat.le_refl _⟩ (fun H locs hP hS => ?_)
  refine W.eq (g2 := F0 m 5 ls [.int q1]) rfl ?_
  refine lv_iconst (v := 3) hx hb dX3_price_5 (by decide) ?_
  refine lv_iadd hx hb dX3_price_6 ?_
  exact g_iret hx hb hr hlk hP hS (ret1 hf) dX3_price_7

def X8_cards (v1 : Int32) (v2 : Int32) : Option Int32 :=
    (X6_cards v1 v2).bind fun q1 =>
    some (q1 / 2)
def rmX8_cards : Room := { frames := 1, cells := 0, slots := 0, locals := 22 }
theorem kdX8_cards : yX8_cards.cls = RX8 ∧ yX8_cards.cls ≠ "java/lang/invoke/MethodHandle" ∧ yX8_cards.cls ≠ "java/lang/invoke/VarHandle" ∧ (parseMethodDescriptor yX8_cards.desc).map (fun d => d.parameters.length) = some 2 := by decide +kernel
theorem ksX8_cards : yX8_cards.name ≠ "<init>" ∧ (parseMethodDescriptor yX8_cards.desc).map (fun d => d.parameters.length) = some 2 := by decide +kernel
set_option maxHeartbeats 4000000 in
set_option maxRecDepth 100000 in
theorem m_X8_cards (l : Launch) (D : va_G) (a : Nat → Nat) (C : Nat → ClassId) (ha : ginj a) (h : HS) (v0 : Nat) (hv0 : isPer v0) (v1 : Int32) (v2 : Int32)  (r : Int32) (hf : X8_cards v1 v2 = some r) : gM l yX8_cards wsX8_cards rmX8_cards D a C [.ref (a v0), .int v1, .int v2] h (some (.int r)) h := by
  refine g_start (av := [.ref (a v0), .int v1, .int v2]) (cc := cX8_cards) (maxL := 3) (rt := (some .int)) (by decide) rfl (Nat.le_of_ble_eq_true rfl) ?_
  intro p e s m below meth c hx hb hr hml hown hlk hts hP hK hN ls hl
  have hA : ∀ q, gA a q → gA a q := fun _ q => q
  have hS : va_S (gA a) s.heap s.heap [] := va_S.rf
  have hl : lv_has ls 3 [(0, .ref (a v0)), (1, .int v1), (2, .int v2)] := hl
  unfold X8_cards at hf
  refine lv_aload_n hx hb dX8_cards_0 rfl (lv_at hl 0 rfl) ?_
  refine lv_iload_n hx hb dX8_cards_1 rfl (lv_at hl 1 rfl) ?_
  refine lv_iload_n hx hb dX8_cards_2 rfl (lv_at hl 2 rfl) ?_
  obtain ⟨q1, hq1, hf⟩ := bind_s hf
  obtain ⟨ci, hci, hoc⟩ := id hv0
  obtain ⟨qc, hqc⟩ : ∃ z, vwCl[ci]? = some z := ⟨_, List.getElem?_eq_getElem (Nat.lt_of_lt_of_le hci (by decide))⟩
  refine g_callSU (As := [.int v1, .int v2]) (rest := []) (q := qc) hx hb hml hown hts hK hN (m_X6_cards l D a C ha h v0 hv0 v1 v2 q1 hq1) (va_cwSU 2 hts gX8_cards_X6_cards_s7 rfl rfl rfl ksX6_cards ⟨Nat.le_of_ble_eq_true rfl, Nat.le_of_ble_eq_true rfl⟩) hoc hqc hP hS hA rfl hl.1 rfl (Nat.le_of_ble_eq_true rfl) dX8_cards_3 ⟨Nat.le_refl _, Nat.le_refl _⟩ (fun H locs hP hS => ?_)
  refine W.eq (g2 := F0 m 6 ls [.int q1]) rfl ?_
  refine lv_iconst (v := 2) hx hb dX8_cards_6 (by decide) ?_
  refine lv_idiv hx hb dX8_cards_7 (by decide) ?_
  exact g_iret hx hb hr hlk hP hS (ret1 hf) dX8_cards_8

def X9_cards (v1 : Int32) (v2 : Int32) : Option Int32 :=
    (X8_cards v1 v2).bind fun q1 =>
    some (q1 + 1)
def rmX9_cards : Room := { frames := 2, cells := 0, slots := 0, locals := 44 }
theorem kdX9_cards : yX9_cards.cls = RX9 ∧ yX9_cards.cls ≠ "java/lang/invoke/MethodHandle" ∧ yX9_cards.cls ≠ "java/lang/invoke/VarHandle" ∧ (parseMethodDescriptor yX9_cards.desc).map (fun d => d.parameters.length) = some 2 := by decide +kernel
theorem ksX9_cards : yX9_cards.name ≠ "<init>" ∧ (parseMethodDescriptor yX9_cards.desc).map (fun d => d.parameters.length) = some 2 := by decide +kernel
set_option maxHeartbeats 4000000 in
set_option maxRecDepth 100000 in
theorem m_X9_cards (l : Launch) (D : va_G) (a : Nat → Nat) (C : Nat → ClassId) (ha : ginj a) (h : HS) (v0 : Nat) (hv0 : isPer v0) (v1 : Int32) (v2 : Int32)  (r : Int32) (hf : X9_cards v1 v2 = some r) : gM l yX9_cards wsX9_cards rmX9_cards D a C [.ref (a v0), .int v1, .int v2] h (some (.int r)) h := by
  refine g_start (av := [.ref (a v0), .int v1, .int v2]) (cc := cX9_cards) (maxL := 3) (rt := (some .int)) (by decide) rfl (Nat.le_of_ble_eq_true rfl) ?_
  intro p e s m below meth c hx hb hr hml hown hlk hts hP hK hN ls hl
  have hA : ∀ q, gA a q → gA a q := fun _ q => q
  have hS : va_S (gA a) s.heap s.heap [] := va_S.rf
  have hl : lv_has ls 3 [(0, .ref (a v0)), (1, .int v1), (2, .int v2)] := hl
  unfold X9_cards at hf
  refine lv_aload_n hx hb dX9_cards_0 rfl (lv_at hl 0 rfl) ?_
  refine lv_iload_n hx hb dX9_cards_1 rfl (lv_at hl 1 rfl) ?_
  refine lv_iload_n hx hb dX9_cards_2 rfl (lv_at hl 2 rfl) ?_
  obtain ⟨q1, hq1, hf⟩ := bind_s hf
  obtain ⟨ci, hci, hoc⟩ := id hv0
  obtain ⟨qc, hqc⟩ : ∃ z, vwCl[ci]? = some z := ⟨_, List.getElem?_eq_getElem (Nat.lt_of_lt_of_le hci (by decide))⟩
  refine g_callSU (As := [.int v1, .int v2]) (rest := []) (q := qc) hx hb hml hown hts hK hN (m_X8_cards l D a C ha h v0 hv0 v1 v2 q1 hq1) (va_cwSU 2 hts gX9_cards_X8_cards_s11 rfl rfl rfl ksX8_cards ⟨Nat.le_of_ble_eq_true rfl, Nat.le_of_ble_eq_true rfl⟩) hoc hqc hP hS hA rfl hl.1 rfl (Nat.le_of_ble_eq_true rfl) dX9_cards_3 ⟨Nat.le_refl _, Nat.le_refl _⟩ (fun H locs hP hS => ?_)
  refine W.eq (g2 := F0 m 6 ls [.int q1]) rfl ?_
  refine lv_iconst (v := 1) hx hb dX9_cards_6 (by decide) ?_
  refine lv_iadd hx hb dX9_cards_7 ?_
  exact g_iret hx hb hr hlk hP hS (ret1 hf) dX9_cards_8

def X6_hearsNothing  : Option Int32 :=
    some 0
def rmX6_hearsNothing : Room := { frames := 0, cells := 0, slots := 0, locals := 0 }
theorem kdX6_hearsNothing : yX6_hearsNothing.cls = RX6 ∧ yX6_hearsNothing.cls ≠ "java/lang/invoke/MethodHandle" ∧ yX6_hearsNothing.cls ≠ "java/lang/invoke/VarHandle" ∧ (parseMethodDescriptor yX6_hearsNothing.desc).map (fun d => d.parameters.length) = some 0 := by decide +kernel
theorem ksX6_hearsNothing : yX6_hearsNothing.name ≠ "<init>" ∧ (parseMethodDescriptor yX6_hearsNothing.desc).map (fun d => d.parameters.length) = some 0 := by decide +kernel
set_option maxHeartbeats 4000000 in
set_option maxRecDepth 100000 in
theorem m_X6_hearsNothing (l : Launch) (D : va_G) (a : Nat → Nat) (C : Nat → ClassId) (ha : ginj a) (h : HS) (v0 : Nat) (hv0 : isPer v0)   (r : Int32) (hf : X6_hearsNothing = some r) : gM l yX6_hearsNothing wsX6_hearsNothing rmX6_hearsNothing D a C [.ref (a v0)] h (some (.int r)) h := by
  refine g_start (av := [.ref (a v0)]) (cc := cX6_hearsNothing) (maxL := 1) (rt := (some .boolean)) (by decide) rfl (Nat.le_of_ble_eq_true rfl) ?_
  intro p e s m below meth c hx hb hr hml hown hlk hts hP hK hN ls hl
  have hA : ∀ q, gA a q → gA a q := fun _ q => q
  have hS : va_S (gA a) s.heap s.heap [] := va_S.rf
  have hl : lv_has ls 1 [(0, .ref (a v0))] := hl
  unfold X6_hearsNothing at hf
  refine lv_iconst (v := 0) hx hb dX6_hearsNothing_0 (by decide) ?_
  exact g_zret hx hb hr hlk (by decide) hP hS (ret1 hf) dX6_hearsNothing_1

def X6_tellsAtMost (v1 : Int32) (v2 : Int32) : Option Int32 :=
    some 1
def rmX6_tellsAtMost : Room := { frames := 0, cells := 0, slots := 0, locals := 0 }
theorem kdX6_tellsAtMost : yX6_tellsAtMost.cls = RX6 ∧ yX6_tellsAtMost.cls ≠ "java/lang/invoke/MethodHandle" ∧ yX6_tellsAtMost.cls ≠ "java/lang/invoke/VarHandle" ∧ (parseMethodDescriptor yX6_tellsAtMost.desc).map (fun d => d.parameters.length) = some 2 := by decide +kernel
theorem ksX6_tellsAtMost : yX6_tellsAtMost.name ≠ "<init>" ∧ (parseMethodDescriptor yX6_tellsAtMost.desc).map (fun d => d.parameters.length) = some 2 := by decide +kernel
set_option maxHeartbeats 4000000 in
set_option maxRecDepth 100000 in
theorem m_X6_tellsAtMost (l : Launch) (D : va_G) (a : Nat → Nat) (C : Nat → ClassId) (ha : ginj a) (h : HS) (v0 : Nat) (hv0 : isPer v0) (v1 : Int32) (v2 : Int32)  (r : Int32) (hf : X6_tellsAtMost v1 v2 = some r) : gM l yX6_tellsAtMost wsX6_tellsAtMost rmX6_tellsAtMost D a C [.ref (a v0), .int v1, .int v2] h (some (.int r)) h := by
  refine g_start (av := [.ref (a v0), .int v1, .int v2]) (cc := cX6_tellsAtMost) (maxL := 3) (rt := (some .int)) (by decide) rfl (Nat.le_of_ble_eq_true rfl) ?_
  intro p e s m below meth c hx hb hr hml hown hlk hts hP hK hN ls hl
  have hA : ∀ q, gA a q → gA a q := fun _ q => q
  have hS : va_S (gA a) s.heap s.heap [] := va_S.rf
  have hl : lv_has ls 3 [(0, .ref (a v0)), (1, .int v1), (2, .int v2)] := hl
  unfold X6_tellsAtMost at hf
  refine lv_iconst (v := 1) hx hb dX6_tellsAtMost_0 (by decide) ?_
  exact g_iret hx hb hr hlk hP hS (ret1 hf) dX6_tellsAtMost_1

def X8_tellsAtMost (v1 : Int32) (v2 : Int32) : Option Int32 :=
    (if (v2 - v2 / 2 * 2) = 0 then
    some 1
    else
    some 0)
def rmX8_tellsAtMost : Room := { frames := 0, cells := 0, slots := 0, locals := 0 }
theorem kdX8_tellsAtMost : yX8_tellsAtMost.cls = RX8 ∧ yX8_tellsAtMost.cls ≠ "java/lang/invoke/MethodHandle" ∧ yX8_tellsAtMost.cls ≠ "java/lang/invoke/VarHandle" ∧ (parseMethodDescriptor yX8_tellsAtMost.desc).map (fun d => d.parameters.length) = some 2 := by decide +kernel
theorem ksX8_tellsAtMost : yX8_tellsAtMost.name ≠ "<init>" ∧ (parseMethodDescriptor yX8_tellsAtMost.desc).map (fun d => d.parameters.length) = some 2 := by decide +kernel
set_option maxHeartbeats 4000000 in
set_option maxRecDepth 100000 in
theorem m_X8_tellsAtMost (l : Launch) (D : va_G) (a : Nat → Nat) (C : Nat → ClassId) (ha : ginj a) (h : HS) (v0 : Nat) (hv0 : isPer v0) (v1 : Int32) (v2 : Int32)  (r : Int32) (hf : X8_tellsAtMost v1 v2 = some r) : gM l yX8_tellsAtMost wsX8_tellsAtMost rmX8_tellsAtMost D a C [.ref (a v0), .int v1, .int v2] h (some (.int r)) h := by
  refine g_start (av := [.ref (a v0), .int v1, .int v2]) (cc := cX8_tellsAtMost) (maxL := 3) (rt := (some .int)) (by decide) rfl (Nat.le_of_ble_eq_true rfl) ?_
  intro p e s m below meth c hx hb hr hml hown hlk hts hP hK hN ls hl
  have hA : ∀ q, gA a q → gA a q := fun _ q => q
  have hS : va_S (gA a) s.heap s.heap [] := va_S.rf
  have hl : lv_has ls 3 [(0, .ref (a v0)), (1, .int v1), (2, .int v2)] := hl
  unfold X8_tellsAtMost at hf
  refine lv_iload_n hx hb dX8_tellsAtMost_0 rfl (lv_at hl 2 rfl) ?_
  refine lv_iconst (v := 2) hx hb dX8_tellsAtMost_1 (by decide) ?_
  refine lv_irem hx hb dX8_tellsAtMost_2 (by decide) ?_
  refine lv_if_ne (tgt := 10) hx hb dX8_tellsAtMost_3 (by decide) (fun c1 => ?_) (fun c1 => ?_)
  · have hf := if_f hf c1
    refine lv_iconst (v := 0) hx hb dX8_tellsAtMost_10 (by decide) ?_
    exact g_iret hx hb hr hlk hP hS (ret1 hf) dX8_tellsAtMost_11
  · have hf := if_t hf c1
    refine lv_iconst (v := 1) hx hb dX8_tellsAtMost_6 (by decide) ?_
    refine lv_goto (tgt := 11) hx hb dX8_tellsAtMost_7 (by decide) ?_
    exact g_iret hx hb hr hlk hP hS (ret1 hf) dX8_tellsAtMost_11

def X9_tellsAtMost (v1 : Int32) (v2 : Int32) : Option Int32 :=
    (X8_tellsAtMost v1 v2).bind fun q1 =>
    some (q1 + 1)
def rmX9_tellsAtMost : Room := { frames := 1, cells := 0, slots := 0, locals := 22 }
theorem kdX9_tellsAtMost : yX9_tellsAtMost.cls = RX9 ∧ yX9_tellsAtMost.cls ≠ "java/lang/invoke/MethodHandle" ∧ yX9_tellsAtMost.cls ≠ "java/lang/invoke/VarHandle" ∧ (parseMethodDescriptor yX9_tellsAtMost.desc).map (fun d => d.parameters.length) = some 2 := by decide +kernel
theorem ksX9_tellsAtMost : yX9_tellsAtMost.name ≠ "<init>" ∧ (parseMethodDescriptor yX9_tellsAtMost.desc).map (fun d => d.parameters.length) = some 2 := by decide +kernel
set_option maxHeartbeats 4000000 in
set_option maxRecDepth 100000 in
theorem m_X9_tellsAtMost (l : Launch) (D : va_G) (a : Nat → Nat) (C : Nat → ClassId) (ha : ginj a) (h : HS) (v0 : Nat) (hv0 : isPer v0) (v1 : Int32) (v2 : Int32)  (r : Int32) (hf : X9_tellsAtMost v1 v2 = some r) : gM l yX9_tellsAtMost wsX9_tellsAtMost rmX9_tellsAtMost D a C [.ref (a v0), .int v1, .int v2] h (some (.int r)) h := by
  refine g_start (av := [.ref (a v0), .int v1, .int v2]) (cc := cX9_tellsAtMost) (maxL := 3) (rt := (some .int)) (by decide) rfl (Nat.le_of_ble_eq_true rfl) ?_
  intro p e s m below meth c hx hb hr hml hown hlk hts hP hK hN ls hl
  have hA : ∀ q, gA a q → gA a q := fun _ q => q
  have hS : va_S (gA a) s.heap s.heap [] := va_S.rf
  have hl : lv_has ls 3 [(0, .ref (a v0)), (1, .int v1), (2, .int v2)] := hl
  unfold X9_tellsAtMost at hf
  refine lv_aload_n hx hb dX9_tellsAtMost_0 rfl (lv_at hl 0 rfl) ?_
  refine lv_iload_n hx hb dX9_tellsAtMost_1 rfl (lv_at hl 1 rfl) ?_
  refine lv_iload_n hx hb dX9_tellsAtMost_2 rfl (lv_at hl 2 rfl) ?_
  obtain ⟨q1, hq1, hf⟩ := bind_s hf
  obtain ⟨ci, hci, hoc⟩ := id hv0
  obtain ⟨qc, hqc⟩ : ∃ z, vwCl[ci]? = some z := ⟨_, List.getElem?_eq_getElem (Nat.lt_of_lt_of_le hci (by decide))⟩
  refine g_callSU (As := [.int v1, .int v2]) (rest := []) (q := qc) hx hb hml hown hts hK hN (m_X8_tellsAtMost l D a C ha h v0 hv0 v1 v2 q1 hq1) (va_cwSU 2 hts gX9_tellsAtMost_X8_tellsAtMost_s7 rfl rfl rfl ksX8_tellsAtMost ⟨Nat.le_of_ble_eq_true rfl, Nat.le_of_ble_eq_true rfl⟩) hoc hqc hP hS hA rfl hl.1 rfl (Nat.le_of_ble_eq_true rfl) dX9_tellsAtMost_3 ⟨Nat.le_refl _, Nat.le_refl _⟩ (fun H locs hP hS => ?_)
  refine W.eq (g2 := F0 m 6 ls [.int q1]) rfl ?_
  refine lv_iconst (v := 1) hx hb dX9_tellsAtMost_6 (by decide) ?_
  refine lv_iadd hx hb dX9_tellsAtMost_7 ?_
  exact g_iret hx hb hr hlk hP hS (ret1 hf) dX9_tellsAtMost_8

def X6_likes (v1 : Int32) (v2 : Int32) : Option Int32 :=
    some 1
def rmX6_likes : Room := { frames := 0, cells := 0, slots := 0, locals := 0 }
theorem kdX6_likes : yX6_likes.cls = RX6 ∧ yX6_likes.cls ≠ "java/lang/invoke/MethodHandle" ∧ yX6_likes.cls ≠ "java/lang/invoke/VarHandle" ∧ (parseMethodDescriptor yX6_likes.desc).map (fun d => d.parameters.length) = some 2 := by decide +kernel
theorem ksX6_likes : yX6_likes.name ≠ "<init>" ∧ (parseMethodDescriptor yX6_likes.desc).map (fun d => d.parameters.length) = some 2 := by decide +kernel
set_option maxHeartbeats 4000000 in
set_option maxRecDepth 100000 in
theorem m_X6_likes (l : Launch) (D : va_G) (a : Nat → Nat) (C : Nat → ClassId) (ha : ginj a) (h : HS) (v0 : Nat) (hv0 : isPer v0) (v1 : Int32) (v2 : Int32)  (r : Int32) (hf : X6_likes v1 v2 = some r) : gM l yX6_likes wsX6_likes rmX6_likes D a C [.ref (a v0), .int v1, .int v2] h (some (.int r)) h := by
  refine g_start (av := [.ref (a v0), .int v1, .int v2]) (cc := cX6_likes) (maxL := 3) (rt := (some .boolean)) (by decide) rfl (Nat.le_of_ble_eq_true rfl) ?_
  intro p e s m below meth c hx hb hr hml hown hlk hts hP hK hN ls hl
  have hA : ∀ q, gA a q → gA a q := fun _ q => q
  have hS : va_S (gA a) s.heap s.heap [] := va_S.rf
  have hl : lv_has ls 3 [(0, .ref (a v0)), (1, .int v1), (2, .int v2)] := hl
  unfold X6_likes at hf
  refine lv_iconst (v := 1) hx hb dX6_likes_0 (by decide) ?_
  exact g_zret hx hb hr hlk (by decide) hP hS (ret1 hf) dX6_likes_1

def X8_likes (v1 : Int32) (v2 : Int32) : Option Int32 :=
    (if v1 < v2 then
    some 0
    else
    some 1)
def rmX8_likes : Room := { frames := 0, cells := 0, slots := 0, locals := 0 }
theorem kdX8_likes : yX8_likes.cls = RX8 ∧ yX8_likes.cls ≠ "java/lang/invoke/MethodHandle" ∧ yX8_likes.cls ≠ "java/lang/invoke/VarHandle" ∧ (parseMethodDescriptor yX8_likes.desc).map (fun d => d.parameters.length) = some 2 := by decide +kernel
theorem ksX8_likes : yX8_likes.name ≠ "<init>" ∧ (parseMethodDescriptor yX8_likes.desc).map (fun d => d.parameters.length) = some 2 := by decide +kernel
set_option maxHeartbeats 4000000 in
set_option maxRecDepth 100000 in
theorem m_X8_likes (l : Launch) (D : va_G) (a : Nat → Nat) (C : Nat → ClassId) (ha : ginj a) (h : HS) (v0 : Nat) (hv0 : isPer v0) (v1 : Int32) (v2 : Int32)  (r : Int32) (hf : X8_likes v1 v2 = some r) : gM l yX8_likes wsX8_likes rmX8_likes D a C [.ref (a v0), .int v1, .int v2] h (some (.int r)) h := by
  refine g_start (av := [.ref (a v0), .int v1, .int v2]) (cc := cX8_likes) (maxL := 3) (rt := (some .boolean)) (by decide) rfl (Nat.le_of_ble_eq_true rfl) ?_
  intro p e s m below meth c hx hb hr hml hown hlk hts hP hK hN ls hl
  have hA : ∀ q, gA a q → gA a q := fun _ q => q
  have hS : va_S (gA a) s.heap s.heap [] := va_S.rf
  have hl : lv_has ls 3 [(0, .ref (a v0)), (1, .int v1), (2, .int v2)] := hl
  unfold X8_likes at hf
  refine lv_iload_n hx hb dX8_likes_0 rfl (lv_at hl 2 rfl) ?_
  refine lv_iload_n hx hb dX8_likes_1 rfl (lv_at hl 1 rfl) ?_
  refine lv_icmp_gt (tgt := 9) hx hb dX8_likes_2 (by decide) (fun c1 => ?_) (fun c1 => ?_)
  · have hf := if_t hf c1
    refine lv_iconst (v := 0) hx hb dX8_likes_9 (by decide) ?_
    exact g_zret hx hb hr hlk (by decide) hP hS (ret1 hf) dX8_likes_10
  · have hf := if_f hf c1
    refine lv_iconst (v := 1) hx hb dX8_likes_5 (by decide) ?_
    refine lv_goto (tgt := 10) hx hb dX8_likes_6 (by decide) ?_
    exact g_zret hx hb hr hlk (by decide) hP hS (ret1 hf) dX8_likes_10

def X9_likes (v1 : Int32) (v2 : Int32) : Option Int32 :=
    (if v2 ≤ v1 then
    some 0
    else
    some 1)
def rmX9_likes : Room := { frames := 0, cells := 0, slots := 0, locals := 0 }
theorem kdX9_likes : yX9_likes.cls = RX9 ∧ yX9_likes.cls ≠ "java/lang/invoke/MethodHandle" ∧ yX9_likes.cls ≠ "java/lang/invoke/VarHandle" ∧ (parseMethodDescriptor yX9_likes.desc).map (fun d => d.parameters.length) = some 2 := by decide +kernel
theorem ksX9_likes : yX9_likes.name ≠ "<init>" ∧ (parseMethodDescriptor yX9_likes.desc).map (fun d => d.parameters.length) = some 2 := by decide +kernel
set_option maxHeartbeats 4000000 in
set_option maxRecDepth 100000 in
theorem m_X9_likes (l : Launch) (D : va_G) (a : Nat → Nat) (C : Nat → ClassId) (ha : ginj a) (h : HS) (v0 : Nat) (hv0 : isPer v0) (v1 : Int32) (v2 : Int32)  (r : Int32) (hf : X9_likes v1 v2 = some r) : gM l yX9_likes wsX9_likes rmX9_likes D a C [.ref (a v0), .int v1, .int v2] h (some (.int r)) h := by
  refine g_start (av := [.ref (a v0), .int v1, .int v2]) (cc := cX9_likes) (maxL := 3) (rt := (some .boolean)) (by decide) rfl (Nat.le_of_ble_eq_true rfl) ?_
  intro p e s m below meth c hx hb hr hml hown hlk hts hP hK hN ls hl
  have hA : ∀ q, gA a q → gA a q := fun _ q => q
  have hS : va_S (gA a) s.heap s.heap [] := va_S.rf
  have hl : lv_has ls 3 [(0, .ref (a v0)), (1, .int v1), (2, .int v2)] := hl
  unfold X9_likes at hf
  refine lv_iload_n hx hb dX9_likes_0 rfl (lv_at hl 2 rfl) ?_
  refine lv_iload_n hx hb dX9_likes_1 rfl (lv_at hl 1 rfl) ?_
  refine lv_icmp_le (tgt := 9) hx hb dX9_likes_2 (by decide) (fun c1 => ?_) (fun c1 => ?_)
  · have hf := if_t hf c1
    refine lv_iconst (v := 0) hx hb dX9_likes_9 (by decide) ?_
    exact g_zret hx hb hr hlk (by decide) hP hS (ret1 hf) dX9_likes_10
  · have hf := if_f hf c1
    refine lv_iconst (v := 1) hx hb dX9_likes_5 (by decide) ?_
    refine lv_goto (tgt := 10) hx hb dX9_likes_6 (by decide) ?_
    exact g_zret hx hb hr hlk (by decide) hP hS (ret1 hf) dX9_likes_10

def X9_price (v1 : Int32) : Option Int32 :=
    (X8_price v1).bind fun q1 =>
    some (q1 / 2)
def rmX9_price : Room := { frames := 1, cells := 0, slots := 0, locals := 21 }
theorem kdX9_price : yX9_price.cls = RX9 ∧ yX9_price.cls ≠ "java/lang/invoke/MethodHandle" ∧ yX9_price.cls ≠ "java/lang/invoke/VarHandle" ∧ (parseMethodDescriptor yX9_price.desc).map (fun d => d.parameters.length) = some 1 := by decide +kernel
theorem ksX9_price : yX9_price.name ≠ "<init>" ∧ (parseMethodDescriptor yX9_price.desc).map (fun d => d.parameters.length) = some 1 := by decide +kernel
set_option maxHeartbeats 4000000 in
set_option maxRecDepth 100000 in
theorem m_X9_price (l : Launch) (D : va_G) (a : Nat → Nat) (C : Nat → ClassId) (ha : ginj a) (h : HS) (v0 : Nat) (hv0 : isPer v0) (v1 : Int32)  (r : Int32) (hf : X9_price v1 = some r) : gM l yX9_price wsX9_price rmX9_price D a C [.ref (a v0), .int v1] h (some (.int r)) h := by
  refine g_start (av := [.ref (a v0), .int v1]) (cc := cX9_price) (maxL := 2) (rt := (some .int)) (by decide) rfl (Nat.le_of_ble_eq_true rfl) ?_
  intro p e s m below meth c hx hb hr hml hown hlk hts hP hK hN ls hl
  have hA : ∀ q, gA a q → gA a q := fun _ q => q
  have hS : va_S (gA a) s.heap s.heap [] := va_S.rf
  have hl : lv_has ls 2 [(0, .ref (a v0)), (1, .int v1)] := hl
  unfold X9_price at hf
  refine lv_aload_n hx hb dX9_price_0 rfl (lv_at hl 0 rfl) ?_
  refine lv_iload_n hx hb dX9_price_1 rfl (lv_at hl 1 rfl) ?_
  obtain ⟨q1, hq1, hf⟩ := bind_s hf
  obtain ⟨ci, hci, hoc⟩ := id hv0
  obtain ⟨qc, hqc⟩ : ∃ z, vwCl[ci]? = some z := ⟨_, List.getElem?_eq_getElem (Nat.lt_of_lt_of_le hci (by decide))⟩
  refine g_callSU (As := [.int v1]) (rest := []) (q := qc) hx hb hml hown hts hK hN (m_X8_price l D a C ha h v0 hv0 v1 q1 hq1) (va_cwSU 1 hts gX9_price_X8_price_s14 rfl rfl rfl ksX8_price ⟨Nat.le_of_ble_eq_true rfl, Nat.le_of_ble_eq_true rfl⟩) hoc hqc hP hS hA rfl hl.1 rfl (Nat.le_of_ble_eq_true rfl) dX9_price_2 ⟨Nat.le_refl _, Nat.le_refl _⟩ (fun H locs hP hS => ?_)
  refine W.eq (g2 := F0 m 5 ls [.int q1]) rfl ?_
  refine lv_iconst (v := 2) hx hb dX9_price_5 (by decide) ?_
  refine lv_idiv hx hb dX9_price_6 (by decide) ?_
  exact g_iret hx hb hr hlk hP hS (ret1 hf) dX9_price_7

def X10_price (v1 : Int32) : Option Int32 :=
    (X2_price v1).bind fun q1 =>
    some (2 * q1)
def rmX10_price : Room := { frames := 2, cells := 0, slots := 0, locals := 42 }
theorem kdX10_price : yX10_price.cls = RX10 ∧ yX10_price.cls ≠ "java/lang/invoke/MethodHandle" ∧ yX10_price.cls ≠ "java/lang/invoke/VarHandle" ∧ (parseMethodDescriptor yX10_price.desc).map (fun d => d.parameters.length) = some 1 := by decide +kernel
theorem ksX10_price : yX10_price.name ≠ "<init>" ∧ (parseMethodDescriptor yX10_price.desc).map (fun d => d.parameters.length) = some 1 := by decide +kernel
set_option maxHeartbeats 4000000 in
set_option maxRecDepth 100000 in
theorem m_X10_price (l : Launch) (D : va_G) (a : Nat → Nat) (C : Nat → ClassId) (ha : ginj a) (h : HS) (v0 : Nat) (hv0 : isPer v0) (v1 : Int32)  (r : Int32) (hf : X10_price v1 = some r) : gM l yX10_price wsX10_price rmX10_price D a C [.ref (a v0), .int v1] h (some (.int r)) h := by
  refine g_start (av := [.ref (a v0), .int v1]) (cc := cX10_price) (maxL := 2) (rt := (some .int)) (by decide) rfl (Nat.le_of_ble_eq_true rfl) ?_
  intro p e s m below meth c hx hb hr hml hown hlk hts hP hK hN ls hl
  have hA : ∀ q, gA a q → gA a q := fun _ q => q
  have hS : va_S (gA a) s.heap s.heap [] := va_S.rf
  have hl : lv_has ls 2 [(0, .ref (a v0)), (1, .int v1)] := hl
  unfold X10_price at hf
  refine lv_iconst (v := 2) hx hb dX10_price_0 (by decide) ?_
  refine lv_aload_n hx hb dX10_price_1 rfl (lv_at hl 0 rfl) ?_
  refine lv_iload_n hx hb dX10_price_2 rfl (lv_at hl 1 rfl) ?_
  obtain ⟨q1, hq1, hf⟩ := bind_s hf
  obtain ⟨ci, hci, hoc⟩ := id hv0
  obtain ⟨qc, hqc⟩ : ∃ z, vwCl[ci]? = some z := ⟨_, List.getElem?_eq_getElem (Nat.lt_of_lt_of_le hci (by decide))⟩
  refine g_callSU (As := [.int v1]) (rest := [.int 2]) (q := qc) hx hb hml hown hts hK hN (m_X2_price l D a C ha h v0 hv0 v1 q1 hq1) (va_cwSU 1 hts gX10_price_X2_price_s14 rfl rfl rfl ksX2_price ⟨Nat.le_of_ble_eq_true rfl, Nat.le_of_ble_eq_true rfl⟩) hoc hqc hP hS hA rfl hl.1 rfl (Nat.le_of_ble_eq_true rfl) dX10_price_3 ⟨Nat.le_refl _, Nat.le_refl _⟩ (fun H locs hP hS => ?_)
  refine W.eq (g2 := F0 m 6 ls [.int q1, .int 2]) rfl ?_
  refine lv_imul hx hb dX10_price_6 ?_
  exact g_iret hx hb hr hlk hP hS (ret1 hf) dX10_price_7

def X11_isKind (v0 : Int32) : Option Int32 :=
    (if v0 < 0 then
    some 0
    else
    (if 8 ≤ v0 then
    some 0
    else
    some 1))
def rmX11_isKind : Room := { frames := 0, cells := 0, slots := 0, locals := 0 }
theorem kdX11_isKind : yX11_isKind.cls = RX11 ∧ yX11_isKind.cls ≠ "java/lang/invoke/MethodHandle" ∧ yX11_isKind.cls ≠ "java/lang/invoke/VarHandle" ∧ (parseMethodDescriptor yX11_isKind.desc).map (fun d => d.parameters.length) = some 1 := by decide +kernel
set_option maxHeartbeats 4000000 in
set_option maxRecDepth 100000 in
theorem m_X11_isKind (l : Launch) (D : va_G) (a : Nat → Nat) (C : Nat → ClassId) (ha : ginj a) (h : HS) (v0 : Int32)  (r : Int32) (hf : X11_isKind v0 = some r) : gM l yX11_isKind wsX11_isKind rmX11_isKind D a C [.int v0] h (some (.int r)) h := by
  refine g_start (av := [.int v0]) (cc := cX11_isKind) (maxL := 1) (rt := (some .boolean)) (by decide) rfl (Nat.le_of_ble_eq_true rfl) ?_
  intro p e s m below meth c hx hb hr hml hown hlk hts hP hK hN ls hl
  have hA : ∀ q, gA a q → gA a q := fun _ q => q
  have hS : va_S (gA a) s.heap s.heap [] := va_S.rf
  have hl : lv_has ls 1 [(0, .int v0)] := hl
  unfold X11_isKind at hf
  refine lv_iload_n hx hb dX11_isKind_0 rfl (lv_at hl 0 rfl) ?_
  refine lv_if_lt (tgt := 14) hx hb dX11_isKind_1 (by decide) (fun c1 => ?_) (fun c1 => ?_)
  · have hf := if_t hf c1
    refine lv_iconst (v := 0) hx hb dX11_isKind_14 (by decide) ?_
    exact g_zret hx hb hr hlk (by decide) hP hS (ret1 hf) dX11_isKind_15
  · have hf := if_f hf c1
    refine lv_iload_n hx hb dX11_isKind_4 rfl (lv_at hl 0 rfl) ?_
    refine lv_bipush (v := 8) hx hb dX11_isKind_5 (by decide) ?_
    refine lv_icmp_ge (tgt := 14) hx hb dX11_isKind_7 (by decide) (fun c2 => ?_) (fun c2 => ?_)
    · have hf := if_t hf c2
      refine lv_iconst (v := 0) hx hb dX11_isKind_14 (by decide) ?_
      exact g_zret hx hb hr hlk (by decide) hP hS (ret1 hf) dX11_isKind_15
    · have hf := if_f hf c2
      refine lv_iconst (v := 1) hx hb dX11_isKind_10 (by decide) ?_
      refine lv_goto (tgt := 15) hx hb dX11_isKind_11 (by decide) ?_
      exact g_zret hx hb hr hlk (by decide) hP hS (ret1 hf) dX11_isKind_15

def X11_isFigure (v0 : Int32) : Option Int32 :=
    (if v0 < 0 then
    some 0
    else
    (if 10 ≤ v0 then
    some 0
    else
    some 1))
def rmX11_isFigure : Room := { frames := 0, cells := 0, slots := 0, locals := 0 }
theorem kdX11_isFigure : yX11_isFigure.cls = RX11 ∧ yX11_isFigure.cls ≠ "java/lang/invoke/MethodHandle" ∧ yX11_isFigure.cls ≠ "java/lang/invoke/VarHandle" ∧ (parseMethodDescriptor yX11_isFigure.desc).map (fun d => d.parameters.length) = some 1 := by decide +kernel
set_option maxHeartbeats 4000000 in
set_option maxRecDepth 100000 in
theorem m_X11_isFigure (l : Launch) (D : va_G) (a : Nat → Nat) (C : Nat → ClassId) (ha : ginj a) (h : HS) (v0 : Int32)  (r : Int32) (hf : X11_isFigure v0 = some r) : gM l yX11_isFigure wsX11_isFigure rmX11_isFigure D a C [.int v0] h (some (.int r)) h := by
  refine g_start (av := [.int v0]) (cc := cX11_isFigure) (maxL := 1) (rt := (some .boolean)) (by decide) rfl (Nat.le_of_ble_eq_true rfl) ?_
  intro p e s m below meth c hx hb hr hml hown hlk hts hP hK hN ls hl
  have hA : ∀ q, gA a q → gA a q := fun _ q => q
  have hS : va_S (gA a) s.heap s.heap [] := va_S.rf
  have hl : lv_has ls 1 [(0, .int v0)] := hl
  unfold X11_isFigure at hf
  refine lv_iload_n hx hb dX11_isFigure_0 rfl (lv_at hl 0 rfl) ?_
  refine lv_if_lt (tgt := 14) hx hb dX11_isFigure_1 (by decide) (fun c1 => ?_) (fun c1 => ?_)
  · have hf := if_t hf c1
    refine lv_iconst (v := 0) hx hb dX11_isFigure_14 (by decide) ?_
    exact g_zret hx hb hr hlk (by decide) hP hS (ret1 hf) dX11_isFigure_15
  · have hf := if_f hf c1
    refine lv_iload_n hx hb dX11_isFigure_4 rfl (lv_at hl 0 rfl) ?_
    refine lv_bipush (v := 10) hx hb dX11_isFigure_5 (by decide) ?_
    refine lv_icmp_ge (tgt := 14) hx hb dX11_isFigure_7 (by decide) (fun c2 => ?_) (fun c2 => ?_)
    · have hf := if_t hf c2
      refine lv_iconst (v := 0) hx hb dX11_isFigure_14 (by decide) ?_
      exact g_zret hx hb hr hlk (by decide) hP hS (ret1 hf) dX11_isFigure_15
    · have hf := if_f hf c2
      refine lv_iconst (v := 1) hx hb dX11_isFigure_10 (by decide) ?_
      refine lv_goto (tgt := 15) hx hb dX11_isFigure_11 (by decide) ?_
      exact g_zret hx hb hr hlk (by decide) hP hS (ret1 hf) dX11_isFigure_15

def V_tellsAtMost (r : Nat) (x0 : Int32) (x1 : Int32) : Option Int32 :=
    match lay r with
    | .inl (ci, _) =>
      if ci = 6 then X6_tellsAtMost x0 x1 else
      if ci = 8 then X8_tellsAtMost x0 x1 else
      if ci = 2 then X2_tellsAtMost x0 x1 else
      if ci = 3 then X3_tellsAtMost x0 x1 else
      if ci = 10 then X10_tellsAtMost x0 x1 else
      if ci = 9 then X9_tellsAtMost x0 x1 else
      if ci = 0 then X0_tellsAtMost x0 x1 else
      if ci = 1 then X3_tellsAtMost x0 x1 else
      none
    | _ => none
theorem V_tellsAtMost_cases {r : Nat} {x0 x1 : Int32} {v : Int32} (hp : isPer r) (hv : V_tellsAtMost r x0 x1 = some v) : (gO r 6 [] ∧ X6_tellsAtMost x0 x1 = some v) ∨ (gO r 8 [] ∧ X8_tellsAtMost x0 x1 = some v) ∨ (gO r 2 [] ∧ X2_tellsAtMost x0 x1 = some v) ∨ (gO r 3 [] ∧ X3_tellsAtMost x0 x1 = some v) ∨ (gO r 10 [] ∧ X10_tellsAtMost x0 x1 = some v) ∨ (gO r 9 [] ∧ X9_tellsAtMost x0 x1 = some v) ∨ (gO r 0 [] ∧ X0_tellsAtMost x0 x1 = some v) ∨ (gO r 1 [] ∧ X3_tellsAtMost x0 x1 = some v) := by
  obtain ⟨ci, hci, ho⟩ := hp
  unfold V_tellsAtMost at hv
  rw [ho.2] at hv
  simp only at hv
  by_cases c : ci = 6
  · rw [if_pos c] at hv; exact Or.inl ⟨c ▸ ho, hv⟩
  rw [if_neg c] at hv
  by_cases c : ci = 8
  · rw [if_pos c] at hv; exact Or.inr (Or.inl ⟨c ▸ ho, hv⟩)
  rw [if_neg c] at hv
  by_cases c : ci = 2
  · rw [if_pos c] at hv; exact Or.inr (Or.inr (Or.inl ⟨c ▸ ho, hv⟩))
  rw [if_neg c] at hv
  by_cases c : ci = 3
  · rw [if_pos c] at hv; exact Or.inr (Or.inr (Or.inr (Or.inl ⟨c ▸ ho, hv⟩)))
  rw [if_neg c] at hv
  by_cases c : ci = 10
  · rw [if_pos c] at hv; exact Or.inr (Or.inr (Or.inr (Or.inr (Or.inl ⟨c ▸ ho, hv⟩))))
  rw [if_neg c] at hv
  by_cases c : ci = 9
  · rw [if_pos c] at hv; exact Or.inr (Or.inr (Or.inr (Or.inr (Or.inr (Or.inl ⟨c ▸ ho, hv⟩)))))
  rw [if_neg c] at hv
  by_cases c : ci = 0
  · rw [if_pos c] at hv; exact Or.inr (Or.inr (Or.inr (Or.inr (Or.inr (Or.inr (Or.inl ⟨c ▸ ho, hv⟩))))))
  rw [if_neg c] at hv
  by_cases c : ci = 1
  · rw [if_pos c] at hv; exact Or.inr (Or.inr (Or.inr (Or.inr (Or.inr (Or.inr (Or.inr (⟨c ▸ ho, hv⟩)))))))
  rw [if_neg c] at hv
  cases hv
theorem kvtellsAtMost : ("MoreThanSheHas$Person" : String) ≠ "java/lang/invoke/MethodHandle" ∧ ("MoreThanSheHas$Person" : String) ≠ "java/lang/invoke/VarHandle" ∧ (parseMethodDescriptor "(II)I").map (fun d => d.parameters.length) = some 2 := by decide +kernel
def V_likes (r : Nat) (x0 : Int32) (x1 : Int32) : Option Int32 :=
    match lay r with
    | .inl (ci, _) =>
      if ci = 6 then X6_likes x0 x1 else
      if ci = 8 then X8_likes x0 x1 else
      if ci = 2 then X6_likes x0 x1 else
      if ci = 3 then X8_likes x0 x1 else
      if ci = 10 then X6_likes x0 x1 else
      if ci = 9 then X9_likes x0 x1 else
      if ci = 0 then X6_likes x0 x1 else
      if ci = 1 then X8_likes x0 x1 else
      none
    | _ => none
theorem V_likes_cases {r : Nat} {x0 x1 : Int32} {v : Int32} (hp : isPer r) (hv : V_likes r x0 x1 = some v) : (gO r 6 [] ∧ X6_likes x0 x1 = some v) ∨ (gO r 8 [] ∧ X8_likes x0 x1 = some v) ∨ (gO r 2 [] ∧ X6_likes x0 x1 = some v) ∨ (gO r 3 [] ∧ X8_likes x0 x1 = some v) ∨ (gO r 10 [] ∧ X6_likes x0 x1 = some v) ∨ (gO r 9 [] ∧ X9_likes x0 x1 = some v) ∨ (gO r 0 [] ∧ X6_likes x0 x1 = some v) ∨ (gO r 1 [] ∧ X8_likes x0 x1 = some v) := by
  obtain ⟨ci, hci, ho⟩ := hp
  unfold V_likes at hv
  rw [ho.2] at hv
  simp only at hv
  by_cases c : ci = 6
  · rw [if_pos c] at hv; exact Or.inl ⟨c ▸ ho, hv⟩
  rw [if_neg c] at hv
  by_cases c : ci = 8
  · rw [if_pos c] at hv; exact Or.inr (Or.inl ⟨c ▸ ho, hv⟩)
  rw [if_neg c] at hv
  by_cases c : ci = 2
  · rw [if_pos c] at hv; exact Or.inr (Or.inr (Or.inl ⟨c ▸ ho, hv⟩))
  rw [if_neg c] at hv
  by_cases c : ci = 3
  · rw [if_pos c] at hv; exact Or.inr (Or.inr (Or.inr (Or.inl ⟨c ▸ ho, hv⟩)))
  rw [if_neg c] at hv
  by_cases c : ci = 10
  · rw [if_pos c] at hv; exact Or.inr (Or.inr (Or.inr (Or.inr (Or.inl ⟨c ▸ ho, hv⟩))))
  rw [if_neg c] at hv
  by_cases c : ci = 9
  · rw [if_pos c] at hv; exact Or.inr (Or.inr (Or.inr (Or.inr (Or.inr (Or.inl ⟨c ▸ ho, hv⟩)))))
  rw [if_neg c] at hv
  by_cases c : ci = 0
  · rw [if_pos c] at hv; exact Or.inr (Or.inr (Or.inr (Or.inr (Or.inr (Or.inr (Or.inl ⟨c ▸ ho, hv⟩))))))
  rw [if_neg c] at hv
  by_cases c : ci = 1
  · rw [if_pos c] at hv; exact Or.inr (Or.inr (Or.inr (Or.inr (Or.inr (Or.inr (Or.inr (⟨c ▸ ho, hv⟩)))))))
  rw [if_neg c] at hv
  cases hv
theorem kvlikes : ("MoreThanSheHas$Person" : String) ≠ "java/lang/invoke/MethodHandle" ∧ ("MoreThanSheHas$Person" : String) ≠ "java/lang/invoke/VarHandle" ∧ (parseMethodDescriptor "(II)Z").map (fun d => d.parameters.length) = some 2 := by decide +kernel
def V_cards (r : Nat) (x0 : Int32) (x1 : Int32) : Option Int32 :=
    match lay r with
    | .inl (ci, _) =>
      if ci = 6 then X6_cards x0 x1 else
      if ci = 8 then X8_cards x0 x1 else
      if ci = 2 then X2_cards x0 x1 else
      if ci = 3 then X3_cards x0 x1 else
      if ci = 10 then X10_cards x0 x1 else
      if ci = 9 then X9_cards x0 x1 else
      if ci = 0 then X0_cards x0 x1 else
      if ci = 1 then X3_cards x0 x1 else
      none
    | _ => none
theorem V_cards_cases {r : Nat} {x0 x1 : Int32} {v : Int32} (hp : isPer r) (hv : V_cards r x0 x1 = some v) : (gO r 6 [] ∧ X6_cards x0 x1 = some v) ∨ (gO r 8 [] ∧ X8_cards x0 x1 = some v) ∨ (gO r 2 [] ∧ X2_cards x0 x1 = some v) ∨ (gO r 3 [] ∧ X3_cards x0 x1 = some v) ∨ (gO r 10 [] ∧ X10_cards x0 x1 = some v) ∨ (gO r 9 [] ∧ X9_cards x0 x1 = some v) ∨ (gO r 0 [] ∧ X0_cards x0 x1 = some v) ∨ (gO r 1 [] ∧ X3_cards x0 x1 = some v) := by
  obtain ⟨ci, hci, ho⟩ := hp
  unfold V_cards at hv
  rw [ho.2] at hv
  simp only at hv
  by_cases c : ci = 6
  · rw [if_pos c] at hv; exact Or.inl ⟨c ▸ ho, hv⟩
  rw [if_neg c] at hv
  by_cases c : ci = 8
  · rw [if_pos c] at hv; exact Or.inr (Or.inl ⟨c ▸ ho, hv⟩)
  rw [if_neg c] at hv
  by_cases c : ci = 2
  · rw [if_pos c] at hv; exact Or.inr (Or.inr (Or.inl ⟨c ▸ ho, hv⟩))
  rw [if_neg c] at hv
  by_cases c : ci = 3
  · rw [if_pos c] at hv; exact Or.inr (Or.inr (Or.inr (Or.inl ⟨c ▸ ho, hv⟩)))
  rw [if_neg c] at hv
  by_cases c : ci = 10
  · rw [if_pos c] at hv; exact Or.inr (Or.inr (Or.inr (Or.inr (Or.inl ⟨c ▸ ho, hv⟩))))
  rw [if_neg c] at hv
  by_cases c : ci = 9
  · rw [if_pos c] at hv; exact Or.inr (Or.inr (Or.inr (Or.inr (Or.inr (Or.inl ⟨c ▸ ho, hv⟩)))))
  rw [if_neg c] at hv
  by_cases c : ci = 0
  · rw [if_pos c] at hv; exact Or.inr (Or.inr (Or.inr (Or.inr (Or.inr (Or.inr (Or.inl ⟨c ▸ ho, hv⟩))))))
  rw [if_neg c] at hv
  by_cases c : ci = 1
  · rw [if_pos c] at hv; exact Or.inr (Or.inr (Or.inr (Or.inr (Or.inr (Or.inr (Or.inr (⟨c ▸ ho, hv⟩)))))))
  rw [if_neg c] at hv
  cases hv
theorem kvcards : ("MoreThanSheHas$Person" : String) ≠ "java/lang/invoke/MethodHandle" ∧ ("MoreThanSheHas$Person" : String) ≠ "java/lang/invoke/VarHandle" ∧ (parseMethodDescriptor "(II)I").map (fun d => d.parameters.length) = some 2 := by decide +kernel
def V_price (r : Nat) (x0 : Int32) : Option Int32 :=
    match lay r with
    | .inl (ci, _) =>
      if ci = 6 then X6_price x0 else
      if ci = 8 then X8_price x0 else
      if ci = 2 then X2_price x0 else
      if ci = 3 then X3_price x0 else
      if ci = 10 then X10_price x0 else
      if ci = 9 then X9_price x0 else
      if ci = 0 then X0_price x0 else
      if ci = 1 then X3_price x0 else
      none
    | _ => none
theorem V_price_cases {r : Nat} {x0 : Int32} {v : Int32} (hp : isPer r) (hv : V_price r x0 = some v) : (gO r 6 [] ∧ X6_price x0 = some v) ∨ (gO r 8 [] ∧ X8_price x0 = some v) ∨ (gO r 2 [] ∧ X2_price x0 = some v) ∨ (gO r 3 [] ∧ X3_price x0 = some v) ∨ (gO r 10 [] ∧ X10_price x0 = some v) ∨ (gO r 9 [] ∧ X9_price x0 = some v) ∨ (gO r 0 [] ∧ X0_price x0 = some v) ∨ (gO r 1 [] ∧ X3_price x0 = some v) := by
  obtain ⟨ci, hci, ho⟩ := hp
  unfold V_price at hv
  rw [ho.2] at hv
  simp only at hv
  by_cases c : ci = 6
  · rw [if_pos c] at hv; exact Or.inl ⟨c ▸ ho, hv⟩
  rw [if_neg c] at hv
  by_cases c : ci = 8
  · rw [if_pos c] at hv; exact Or.inr (Or.inl ⟨c ▸ ho, hv⟩)
  rw [if_neg c] at hv
  by_cases c : ci = 2
  · rw [if_pos c] at hv; exact Or.inr (Or.inr (Or.inl ⟨c ▸ ho, hv⟩))
  rw [if_neg c] at hv
  by_cases c : ci = 3
  · rw [if_pos c] at hv; exact Or.inr (Or.inr (Or.inr (Or.inl ⟨c ▸ ho, hv⟩)))
  rw [if_neg c] at hv
  by_cases c : ci = 10
  · rw [if_pos c] at hv; exact Or.inr (Or.inr (Or.inr (Or.inr (Or.inl ⟨c ▸ ho, hv⟩))))
  rw [if_neg c] at hv
  by_cases c : ci = 9
  · rw [if_pos c] at hv; exact Or.inr (Or.inr (Or.inr (Or.inr (Or.inr (Or.inl ⟨c ▸ ho, hv⟩)))))
  rw [if_neg c] at hv
  by_cases c : ci = 0
  · rw [if_pos c] at hv; exact Or.inr (Or.inr (Or.inr (Or.inr (Or.inr (Or.inr (Or.inl ⟨c ▸ ho, hv⟩))))))
  rw [if_neg c] at hv
  by_cases c : ci = 1
  · rw [if_pos c] at hv; exact Or.inr (Or.inr (Or.inr (Or.inr (Or.inr (Or.inr (Or.inr (⟨c ▸ ho, hv⟩)))))))
  rw [if_neg c] at hv
  cases hv
theorem kvprice : ("MoreThanSheHas$Person" : String) ≠ "java/lang/invoke/MethodHandle" ∧ ("MoreThanSheHas$Person" : String) ≠ "java/lang/invoke/VarHandle" ∧ (parseMethodDescriptor "(I)I").map (fun d => d.parameters.length) = some 1 := by decide +kernel
def V_hearsNothing (r : Nat)  : Option Int32 :=
    match lay r with
    | .inl (ci, _) =>
      if ci = 6 then X6_hearsNothing else
      if ci = 8 then X6_hearsNothing else
      if ci = 2 then X6_hearsNothing else
      if ci = 3 then X6_hearsNothing else
      if ci = 10 then X6_hearsNothing else
      if ci = 9 then X6_hearsNothing else
      if ci = 0 then X6_hearsNothing else
      if ci = 1 then X1_hearsNothing else
      none
    | _ => none
theorem V_hearsNothing_cases {r : Nat} {v : Int32} (hp : isPer r) (hv : V_hearsNothing r = some v) : (gO r 6 [] ∧ X6_hearsNothing = some v) ∨ (gO r 8 [] ∧ X6_hearsNothing = some v) ∨ (gO r 2 [] ∧ X6_hearsNothing = some v) ∨ (gO r 3 [] ∧ X6_hearsNothing = some v) ∨ (gO r 10 [] ∧ X6_hearsNothing = some v) ∨ (gO r 9 [] ∧ X6_hearsNothing = some v) ∨ (gO r 0 [] ∧ X6_hearsNothing = some v) ∨ (gO r 1 [] ∧ X1_hearsNothing = some v) := by
  obtain ⟨ci, hci, ho⟩ := hp
  unfold V_hearsNothing at hv
  rw [ho.2] at hv
  simp only at hv
  by_cases c : ci = 6
  · rw [if_pos c] at hv; exact Or.inl ⟨c ▸ ho, hv⟩
  rw [if_neg c] at hv
  by_cases c : ci = 8
  · rw [if_pos c] at hv; exact Or.inr (Or.inl ⟨c ▸ ho, hv⟩)
  rw [if_neg c] at hv
  by_cases c : ci = 2
  · rw [if_pos c] at hv; exact Or.inr (Or.inr (Or.inl ⟨c ▸ ho, hv⟩))
  rw [if_neg c] at hv
  by_cases c : ci = 3
  · rw [if_pos c] at hv; exact Or.inr (Or.inr (Or.inr (Or.inl ⟨c ▸ ho, hv⟩)))
  rw [if_neg c] at hv
  by_cases c : ci = 10
  · rw [if_pos c] at hv; exact Or.inr (Or.inr (Or.inr (Or.inr (Or.inl ⟨c ▸ ho, hv⟩))))
  rw [if_neg c] at hv
  by_cases c : ci = 9
  · rw [if_pos c] at hv; exact Or.inr (Or.inr (Or.inr (Or.inr (Or.inr (Or.inl ⟨c ▸ ho, hv⟩)))))
  rw [if_neg c] at hv
  by_cases c : ci = 0
  · rw [if_pos c] at hv; exact Or.inr (Or.inr (Or.inr (Or.inr (Or.inr (Or.inr (Or.inl ⟨c ▸ ho, hv⟩))))))
  rw [if_neg c] at hv
  by_cases c : ci = 1
  · rw [if_pos c] at hv; exact Or.inr (Or.inr (Or.inr (Or.inr (Or.inr (Or.inr (Or.inr (⟨c ▸ ho, hv⟩)))))))
  rw [if_neg c] at hv
  cases hv
theorem kvhearsNothing : ("MoreThanSheHas$Person" : String) ≠ "java/lang/invoke/MethodHandle" ∧ ("MoreThanSheHas$Person" : String) ≠ "java/lang/invoke/VarHandle" ∧ (parseMethodDescriptor "()Z").map (fun d => d.parameters.length) = some 0 := by decide +kernel
