def X7_holdNothing (h : HS) (v0 : Nat) : Option HS :=
    nm (sF h v0 0 0) fun h1 =>
    some h1
def rmX7_holdNothing : Room := { frames := 0, cells := 0, slots := 0, locals := 0 }
theorem kdX7_holdNothing : yX7_holdNothing.cls = RX7 ∧ yX7_holdNothing.cls ≠ "java/lang/invoke/MethodHandle" ∧ yX7_holdNothing.cls ≠ "java/lang/invoke/VarHandle" ∧ (parseMethodDescriptor yX7_holdNothing.desc).map (fun d => d.parameters.length) = some 0 := by decide +kernel
set_option maxHeartbeats 4000000 in
set_option maxRecDepth 100000 in
theorem m_X7_holdNothing (l : Launch) (D : va_G) (a : Nat → Nat) (C : Nat → ClassId) (ha : ginj a) (h : HS) (v0 : Nat) (hv0 : isShf v0) (h' : HS) (hf : X7_holdNothing h v0 = some h') : gM l yX7_holdNothing wsX7_holdNothing rmX7_holdNothing D a C [.ref (a v0)] h none h' := by
  refine g_start (av := [.ref (a v0)]) (cc := cX7_holdNothing) (maxL := 1) (rt := none) (by decide) rfl (Nat.le_of_ble_eq_true rfl) ?_
  intro p e s m below meth c hx hb hr hml hown hlk hts hP hK hN ls hl
  have hA : ∀ q, gA a q → gA a q := fun _ q => q
  have hS : va_S (gA a) s.heap s.heap [] := va_S.rf
  have hl : lv_has ls 1 [(0, .ref (a v0))] := hl
  unfold X7_holdNothing at hf
  refine lv_aload_n hx hb dX7_holdNothing_0 rfl (lv_at hl 0 rfl) ?_
  refine lv_iconst (v := 0) hx hb dX7_holdNothing_1 (by decide) ?_
  refine g_put (Cn := RX7) (T := TX7) (N := 6) (ty0 := tyX7) (own := RX7) hx hb hown hts hK ha hA (shf_O hv0) rfl (fun _ hw => List.mem_cons_of_mem _ (List.mem_append_right _ hw)) tyX7_ok nmX7 0 (by decide) (List.mem_of_getElem? (i := 1) rfl) rfl rfl rfl rfl rfl hP hS dX7_holdNothing_2 (fun H locs hP hS => ?_)
  obtain ⟨h1, eh1⟩ : ∃ x, x = (sF h v0 0 0) := ⟨_, rfl⟩
  rw [← eh1] at hP
  have hf := nm_s hf eh1
  exact g_vret hx hb hr hlk hP hS (ret1 hf) dX7_holdNothing_5

def X7_holdOne (h : HS) (v0 : Nat) (v1 : Int32) (v2 : Int32) : Option HS :=
    nm (sF h v0 0 1) fun h1 =>
    nm (sF h1 v0 1 v1) fun h2 =>
    nm (sF h2 v0 2 v2) fun h3 =>
    some h3
def rmX7_holdOne : Room := { frames := 0, cells := 0, slots := 0, locals := 0 }
theorem kdX7_holdOne : yX7_holdOne.cls = RX7 ∧ yX7_holdOne.cls ≠ "java/lang/invoke/MethodHandle" ∧ yX7_holdOne.cls ≠ "java/lang/invoke/VarHandle" ∧ (parseMethodDescriptor yX7_holdOne.desc).map (fun d => d.parameters.length) = some 2 := by decide +kernel
set_option maxHeartbeats 4000000 in
set_option maxRecDepth 100000 in
theorem m_X7_holdOne (l : Launch) (D : va_G) (a : Nat → Nat) (C : Nat → ClassId) (ha : ginj a) (h : HS) (v0 : Nat) (v1 : Int32) (v2 : Int32) (hv0 : isShf v0) (h' : HS) (hf : X7_holdOne h v0 v1 v2 = some h') : gM l yX7_holdOne wsX7_holdOne rmX7_holdOne D a C [.ref (a v0), .int v1, .int v2] h none h' := by
  refine g_start (av := [.ref (a v0), .int v1, .int v2]) (cc := cX7_holdOne) (maxL := 3) (rt := none) (by decide) rfl (Nat.le_of_ble_eq_true rfl) ?_
  intro p e s m below meth c hx hb hr hml hown hlk hts hP hK hN ls hl
  have hA : ∀ q, gA a q → gA a q := fun _ q => q
  have hS : va_S (gA a) s.heap s.heap [] := va_S.rf
  have hl : lv_has ls 3 [(0, .ref (a v0)), (1, .int v1), (2, .int v2)] := hl
  unfold X7_holdOne at hf
  refine lv_aload_n hx hb dX7_holdOne_0 rfl (lv_at hl 0 rfl) ?_
  refine lv_iconst (v := 1) hx hb dX7_holdOne_1 (by decide) ?_
  refine g_put (Cn := RX7) (T := TX7) (N := 6) (ty0 := tyX7) (own := RX7) hx hb hown hts hK ha hA (shf_O hv0) rfl (fun _ hw => List.mem_cons_of_mem _ (List.mem_append_right _ hw)) tyX7_ok nmX7 0 (by decide) (List.mem_of_getElem? (i := 1) rfl) rfl rfl rfl rfl rfl hP hS dX7_holdOne_2 (fun H locs hP hS => ?_)
  obtain ⟨h1, eh1⟩ : ∃ x, x = (sF h v0 0 1) := ⟨_, rfl⟩
  rw [← eh1] at hP
  have hf := nm_s hf eh1
  refine lv_aload_n hx hb dX7_holdOne_5 rfl (lv_at hl 0 rfl) ?_
  refine lv_iload_n hx hb dX7_holdOne_6 rfl (lv_at hl 1 rfl) ?_
  refine g_put (Cn := RX7) (T := TX7) (N := 6) (ty0 := tyX7) (own := RX7) hx hb hown hts hK ha hA (shf_O hv0) rfl (fun _ hw => List.mem_cons_of_mem _ (List.mem_append_right _ hw)) tyX7_ok nmX7 1 (by decide) (List.mem_of_getElem? (i := 2) rfl) rfl rfl rfl rfl rfl hP hS dX7_holdOne_7 (fun H locs hP hS => ?_)
  obtain ⟨h2, eh2⟩ : ∃ x, x = (sF h1 v0 1 v1) := ⟨_, rfl⟩
  rw [← eh2] at hP
  have hf := nm_s hf eh2
  refine lv_aload_n hx hb dX7_holdOne_10 rfl (lv_at hl 0 rfl) ?_
  refine lv_iload_n hx hb dX7_holdOne_11 rfl (lv_at hl 2 rfl) ?_
  refine g_put (Cn := RX7) (T := TX7) (N := 6) (ty0 := tyX7) (own := RX7) hx hb hown hts hK ha hA (shf_O hv0) rfl (fun _ hw => List.mem_cons_of_mem _ (List.mem_append_right _ hw)) tyX7_ok nmX7 2 (by decide) (List.mem_of_getElem? (i := 3) rfl) rfl rfl rfl rfl rfl hP hS dX7_holdOne_12 (fun H locs hP hS => ?_)
  obtain ⟨h3, eh3⟩ : ∃ x, x = (sF h2 v0 2 v2) := ⟨_, rfl⟩
  rw [← eh3] at hP
  have hf := nm_s hf eh3
  exact g_vret hx hb hr hlk hP hS (ret1 hf) dX7_holdOne_15

def X7_holdRow (h : HS) (v0 : Nat) (v1 : Int32) (v2 : Int32) : Option HS :=
    nm (sF h v0 0 2) fun h1 =>
    nm (sF h1 v0 3 v1) fun h2 =>
    nm (sF h2 v0 4 v2) fun h3 =>
    (J7_fill_53178 h3 (v0 + 1) 100 0).bind fun q4 =>
    some q4
def rmX7_holdRow : Room := { frames := 1, cells := 0, slots := 0, locals := 23 }
theorem kdX7_holdRow : yX7_holdRow.cls = RX7 ∧ yX7_holdRow.cls ≠ "java/lang/invoke/MethodHandle" ∧ yX7_holdRow.cls ≠ "java/lang/invoke/VarHandle" ∧ (parseMethodDescriptor yX7_holdRow.desc).map (fun d => d.parameters.length) = some 2 := by decide +kernel
set_option maxHeartbeats 4000000 in
set_option maxRecDepth 100000 in
theorem m_X7_holdRow (l : Launch) (D : va_G) (a : Nat → Nat) (C : Nat → ClassId) (ha : ginj a) (h : HS) (v0 : Nat) (v1 : Int32) (v2 : Int32) (hv0 : isShf v0) (h' : HS) (hf : X7_holdRow h v0 v1 v2 = some h') : gM l yX7_holdRow wsX7_holdRow rmX7_holdRow D a C [.ref (a v0), .int v1, .int v2] h none h' := by
  refine g_start (av := [.ref (a v0), .int v1, .int v2]) (cc := cX7_holdRow) (maxL := 3) (rt := none) (by decide) rfl (Nat.le_of_ble_eq_true rfl) ?_
  intro p e s m below meth c hx hb hr hml hown hlk hts hP hK hN ls hl
  have hA : ∀ q, gA a q → gA a q := fun _ q => q
  have hS : va_S (gA a) s.heap s.heap [] := va_S.rf
  have hl : lv_has ls 3 [(0, .ref (a v0)), (1, .int v1), (2, .int v2)] := hl
  unfold X7_holdRow at hf
  refine lv_aload_n hx hb dX7_holdRow_0 rfl (lv_at hl 0 rfl) ?_
  refine lv_iconst (v := 2) hx hb dX7_holdRow_1 (by decide) ?_
  refine g_put (Cn := RX7) (T := TX7) (N := 6) (ty0 := tyX7) (own := RX7) hx hb hown hts hK ha hA (shf_O hv0) rfl (fun _ hw => List.mem_cons_of_mem _ (List.mem_append_right _ hw)) tyX7_ok nmX7 0 (by decide) (List.mem_of_getElem? (i := 1) rfl) rfl rfl rfl rfl rfl hP hS dX7_holdRow_2 (fun H locs hP hS => ?_)
  obtain ⟨h1, eh1⟩ : ∃ x, x = (sF h v0 0 2) := ⟨_, rfl⟩
  rw [← eh1] at hP
  have hf := nm_s hf eh1
  refine lv_aload_n hx hb dX7_holdRow_5 rfl (lv_at hl 0 rfl) ?_
  refine lv_iload_n hx hb dX7_holdRow_6 rfl (lv_at hl 1 rfl) ?_
  refine g_put (Cn := RX7) (T := TX7) (N := 6) (ty0 := tyX7) (own := RX7) hx hb hown hts hK ha hA (shf_O hv0) rfl (fun _ hw => List.mem_cons_of_mem _ (List.mem_append_right _ hw)) tyX7_ok nmX7 3 (by decide) (List.mem_of_getElem? (i := 2) rfl) rfl rfl rfl rfl rfl hP hS dX7_holdRow_7 (fun H locs hP hS => ?_)
  obtain ⟨h2, eh2⟩ : ∃ x, x = (sF h1 v0 3 v1) := ⟨_, rfl⟩
  rw [← eh2] at hP
  have hf := nm_s hf eh2
  refine lv_aload_n hx hb dX7_holdRow_10 rfl (lv_at hl 0 rfl) ?_
  refine lv_iload_n hx hb dX7_holdRow_11 rfl (lv_at hl 2 rfl) ?_
  refine g_put (Cn := RX7) (T := TX7) (N := 6) (ty0 := tyX7) (own := RX7) hx hb hown hts hK ha hA (shf_O hv0) rfl (fun _ hw => List.mem_cons_of_mem _ (List.mem_append_right _ hw)) tyX7_ok nmX7 4 (by decide) (List.mem_of_getElem? (i := 3) rfl) rfl rfl rfl rfl rfl hP hS dX7_holdRow_12 (fun H locs hP hS => ?_)
  obtain ⟨h3, eh3⟩ : ∃ x, x = (sF h2 v0 4 v2) := ⟨_, rfl⟩
  rw [← eh3] at hP
  have hf := nm_s hf eh3
  refine lv_aload_n hx hb dX7_holdRow_15 rfl (lv_at hl 0 rfl) ?_
  refine g_get (Cn := RX7) (T := TX7) (N := 6) (v := .ref (a (v0 + 1))) (own := RX7) hx hb hown hts hK (shf_O hv0) rfl (fun _ hw => List.mem_cons_of_mem _ (List.mem_append_right _ hw)) 5 (by decide) (List.mem_of_getElem? (i := 4) rfl) rfl rfl hP dX7_holdRow_16 ?_
  refine lv_iconst (v := 0) hx hb dX7_holdRow_19 (by decide) ?_
  obtain ⟨q4, hq4, hf⟩ := bind_s hf
  refine g_callS (As := [.ref (a (v0 + 1)), .int 0]) (rest := []) hx hb hml hown hts hK hN (m_J7_fill_53178 l D a C ha h3 (v0 + 1) 100 0 (shf_el hv0) q4 hq4) (va_cwS 2 hts gX7_holdRow_J7_fill_53178 rfl rfl rfl kdJ7_fill_53178.2 ⟨Nat.le_of_ble_eq_true rfl, Nat.le_of_ble_eq_true rfl⟩) hP hS hA rfl hl.1 rfl (Nat.le_of_ble_eq_true rfl) dX7_holdRow_20 ⟨Nat.le_refl _, Nat.le_refl _⟩ (fun H locs hP hS => ?_)
  refine W.eq (g2 := F0 m 23 ls []) rfl ?_
  exact g_vret hx hb hr hlk hP hS (ret1 hf) dX7_holdRow_23

def X7_isEmpty (h : HS) (v0 : Nat) : Option Int32 :=
    (if (fI h v0 0) = 0 then
    some 1
    else
    some 0)
def rmX7_isEmpty : Room := { frames := 0, cells := 0, slots := 0, locals := 0 }
theorem kdX7_isEmpty : yX7_isEmpty.cls = RX7 ∧ yX7_isEmpty.cls ≠ "java/lang/invoke/MethodHandle" ∧ yX7_isEmpty.cls ≠ "java/lang/invoke/VarHandle" ∧ (parseMethodDescriptor yX7_isEmpty.desc).map (fun d => d.parameters.length) = some 0 := by decide +kernel
set_option maxHeartbeats 4000000 in
set_option maxRecDepth 100000 in
theorem m_X7_isEmpty (l : Launch) (D : va_G) (a : Nat → Nat) (C : Nat → ClassId) (ha : ginj a) (h : HS) (v0 : Nat) (hv0 : isShf v0) (r : Int32) (hf : X7_isEmpty h v0 = some r) : gM l yX7_isEmpty wsX7_isEmpty rmX7_isEmpty D a C [.ref (a v0)] h (some (.int r)) h := by
  refine g_start (av := [.ref (a v0)]) (cc := cX7_isEmpty) (maxL := 1) (rt := (some .boolean)) (by decide) rfl (Nat.le_of_ble_eq_true rfl) ?_
  intro p e s m below meth c hx hb hr hml hown hlk hts hP hK hN ls hl
  have hA : ∀ q, gA a q → gA a q := fun _ q => q
  have hS : va_S (gA a) s.heap s.heap [] := va_S.rf
  have hl : lv_has ls 1 [(0, .ref (a v0))] := hl
  unfold X7_isEmpty at hf
  refine lv_aload_n hx hb dX7_isEmpty_0 rfl (lv_at hl 0 rfl) ?_
  refine g_get (Cn := RX7) (T := TX7) (N := 6) (v := .int (fI h v0 0)) (own := RX7) hx hb hown hts hK (shf_O hv0) rfl (fun _ hw => List.mem_cons_of_mem _ (List.mem_append_right _ hw)) 0 (by decide) (List.mem_of_getElem? (i := 1) rfl) rfl rfl hP dX7_isEmpty_1 ?_
  refine lv_if_ne (tgt := 11) hx hb dX7_isEmpty_4 (by decide) (fun c1 => ?_) (fun c1 => ?_)
  · have hf := if_f hf c1
    refine lv_iconst (v := 0) hx hb dX7_isEmpty_11 (by decide) ?_
    exact g_zret hx hb hr hlk (by decide) hP hS (ret1 hf) dX7_isEmpty_12
  · have hf := if_t hf c1
    refine lv_iconst (v := 1) hx hb dX7_isEmpty_7 (by decide) ?_
    refine lv_goto (tgt := 12) hx hb dX7_isEmpty_8 (by decide) ?_
    exact g_zret hx hb hr hlk (by decide) hP hS (ret1 hf) dX7_isEmpty_12

def X7_holdsRow (h : HS) (v0 : Nat) : Option Int32 :=
    (if (fI h v0 0) = 2 then
    some 1
    else
    some 0)
def rmX7_holdsRow : Room := { frames := 0, cells := 0, slots := 0, locals := 0 }
theorem kdX7_holdsRow : yX7_holdsRow.cls = RX7 ∧ yX7_holdsRow.cls ≠ "java/lang/invoke/MethodHandle" ∧ yX7_holdsRow.cls ≠ "java/lang/invoke/VarHandle" ∧ (parseMethodDescriptor yX7_holdsRow.desc).map (fun d => d.parameters.length) = some 0 := by decide +kernel
set_option maxHeartbeats 4000000 in
set_option maxRecDepth 100000 in
theorem m_X7_holdsRow (l : Launch) (D : va_G) (a : Nat → Nat) (C : Nat → ClassId) (ha : ginj a) (h : HS) (v0 : Nat) (hv0 : isShf v0) (r : Int32) (hf : X7_holdsRow h v0 = some r) : gM l yX7_holdsRow wsX7_holdsRow rmX7_holdsRow D a C [.ref (a v0)] h (some (.int r)) h := by
  refine g_start (av := [.ref (a v0)]) (cc := cX7_holdsRow) (maxL := 1) (rt := (some .boolean)) (by decide) rfl (Nat.le_of_ble_eq_true rfl) ?_
  intro p e s m below meth c hx hb hr hml hown hlk hts hP hK hN ls hl
  have hA : ∀ q, gA a q → gA a q := fun _ q => q
  have hS : va_S (gA a) s.heap s.heap [] := va_S.rf
  have hl : lv_has ls 1 [(0, .ref (a v0))] := hl
  unfold X7_holdsRow at hf
  refine lv_aload_n hx hb dX7_holdsRow_0 rfl (lv_at hl 0 rfl) ?_
  refine g_get (Cn := RX7) (T := TX7) (N := 6) (v := .int (fI h v0 0)) (own := RX7) hx hb hown hts hK (shf_O hv0) rfl (fun _ hw => List.mem_cons_of_mem _ (List.mem_append_right _ hw)) 0 (by decide) (List.mem_of_getElem? (i := 1) rfl) rfl rfl hP dX7_holdsRow_1 ?_
  refine lv_iconst (v := 2) hx hb dX7_holdsRow_4 (by decide) ?_
  refine lv_icmp_ne (tgt := 12) hx hb dX7_holdsRow_5 (by decide) (fun c1 => ?_) (fun c1 => ?_)
  · have hf := if_f hf c1
    refine lv_iconst (v := 0) hx hb dX7_holdsRow_12 (by decide) ?_
    exact g_zret hx hb hr hlk (by decide) hP hS (ret1 hf) dX7_holdsRow_13
  · have hf := if_t hf c1
    refine lv_iconst (v := 1) hx hb dX7_holdsRow_8 (by decide) ?_
    refine lv_goto (tgt := 13) hx hb dX7_holdsRow_9 (by decide) ?_
    exact g_zret hx hb hr hlk (by decide) hP hS (ret1 hf) dX7_holdsRow_13

def X7_holdsBytes (h : HS) (v0 : Nat) : Option Int32 :=
    (if (fI h v0 0) = 2 then
    (if (fI h v0 3) = 0 then
    some 1
    else
    some 0)
    else
    some 0)
def rmX7_holdsBytes : Room := { frames := 0, cells := 0, slots := 0, locals := 0 }
theorem kdX7_holdsBytes : yX7_holdsBytes.cls = RX7 ∧ yX7_holdsBytes.cls ≠ "java/lang/invoke/MethodHandle" ∧ yX7_holdsBytes.cls ≠ "java/lang/invoke/VarHandle" ∧ (parseMethodDescriptor yX7_holdsBytes.desc).map (fun d => d.parameters.length) = some 0 := by decide +kernel
set_option maxHeartbeats 4000000 in
set_option maxRecDepth 100000 in
theorem m_X7_holdsBytes (l : Launch) (D : va_G) (a : Nat → Nat) (C : Nat → ClassId) (ha : ginj a) (h : HS) (v0 : Nat) (hv0 : isShf v0) (r : Int32) (hf : X7_holdsBytes h v0 = some r) : gM l yX7_holdsBytes wsX7_holdsBytes rmX7_holdsBytes D a C [.ref (a v0)] h (some (.int r)) h := by
  refine g_start (av := [.ref (a v0)]) (cc := cX7_holdsBytes) (maxL := 1) (rt := (some .boolean)) (by decide) rfl (Nat.le_of_ble_eq_true rfl) ?_
  intro p e s m below meth c hx hb hr hml hown hlk hts hP hK hN ls hl
  have hA : ∀ q, gA a q → gA a q := fun _ q => q
  have hS : va_S (gA a) s.heap s.heap [] := va_S.rf
  have hl : lv_has ls 1 [(0, .ref (a v0))] := hl
  unfold X7_holdsBytes at hf
  refine lv_aload_n hx hb dX7_holdsBytes_0 rfl (lv_at hl 0 rfl) ?_
  refine g_get (Cn := RX7) (T := TX7) (N := 6) (v := .int (fI h v0 0)) (own := RX7) hx hb hown hts hK (shf_O hv0) rfl (fun _ hw => List.mem_cons_of_mem _ (List.mem_append_right _ hw)) 0 (by decide) (List.mem_of_getElem? (i := 1) rfl) rfl rfl hP dX7_holdsBytes_1 ?_
  refine lv_iconst (v := 2) hx hb dX7_holdsBytes_4 (by decide) ?_
  refine lv_icmp_ne (tgt := 19) hx hb dX7_holdsBytes_5 (by decide) (fun c1 => ?_) (fun c1 => ?_)
  · have hf := if_f hf c1
    refine lv_iconst (v := 0) hx hb dX7_holdsBytes_19 (by decide) ?_
    exact g_zret hx hb hr hlk (by decide) hP hS (ret1 hf) dX7_holdsBytes_20
  · have hf := if_t hf c1
    refine lv_aload_n hx hb dX7_holdsBytes_8 rfl (lv_at hl 0 rfl) ?_
    refine g_get (Cn := RX7) (T := TX7) (N := 6) (v := .int (fI h v0 3)) (own := RX7) hx hb hown hts hK (shf_O hv0) rfl (fun _ hw => List.mem_cons_of_mem _ (List.mem_append_right _ hw)) 3 (by decide) (List.mem_of_getElem? (i := 2) rfl) rfl rfl hP dX7_holdsBytes_9 ?_
    refine lv_if_ne (tgt := 19) hx hb dX7_holdsBytes_12 (by decide) (fun c2 => ?_) (fun c2 => ?_)
    · have hf := if_f hf c2
      refine lv_iconst (v := 0) hx hb dX7_holdsBytes_19 (by decide) ?_
      exact g_zret hx hb hr hlk (by decide) hP hS (ret1 hf) dX7_holdsBytes_20
    · have hf := if_t hf c2
      refine lv_iconst (v := 1) hx hb dX7_holdsBytes_15 (by decide) ?_
      refine lv_goto (tgt := 20) hx hb dX7_holdsBytes_16 (by decide) ?_
      exact g_zret hx hb hr hlk (by decide) hP hS (ret1 hf) dX7_holdsBytes_20

def X7_size (h : HS) (v0 : Nat) : Option Int32 :=
    some (fI h v0 4)
def rmX7_size : Room := { frames := 0, cells := 0, slots := 0, locals := 0 }
theorem kdX7_size : yX7_size.cls = RX7 ∧ yX7_size.cls ≠ "java/lang/invoke/MethodHandle" ∧ yX7_size.cls ≠ "java/lang/invoke/VarHandle" ∧ (parseMethodDescriptor yX7_size.desc).map (fun d => d.parameters.length) = some 0 := by decide +kernel
set_option maxHeartbeats 4000000 in
set_option maxRecDepth 100000 in
theorem m_X7_size (l : Launch) (D : va_G) (a : Nat → Nat) (C : Nat → ClassId) (ha : ginj a) (h : HS) (v0 : Nat) (hv0 : isShf v0) (r : Int32) (hf : X7_size h v0 = some r) : gM l yX7_size wsX7_size rmX7_size D a C [.ref (a v0)] h (some (.int r)) h := by
  refine g_start (av := [.ref (a v0)]) (cc := cX7_size) (maxL := 1) (rt := (some .int)) (by decide) rfl (Nat.le_of_ble_eq_true rfl) ?_
  intro p e s m below meth c hx hb hr hml hown hlk hts hP hK hN ls hl
  have hA : ∀ q, gA a q → gA a q := fun _ q => q
  have hS : va_S (gA a) s.heap s.heap [] := va_S.rf
  have hl : lv_has ls 1 [(0, .ref (a v0))] := hl
  unfold X7_size at hf
  refine lv_aload_n hx hb dX7_size_0 rfl (lv_at hl 0 rfl) ?_
  refine g_get (Cn := RX7) (T := TX7) (N := 6) (v := .int (fI h v0 4)) (own := RX7) hx hb hown hts hK (shf_O hv0) rfl (fun _ hw => List.mem_cons_of_mem _ (List.mem_append_right _ hw)) 4 (by decide) (List.mem_of_getElem? (i := 1) rfl) rfl rfl hP dX7_size_1 ?_
  exact g_iret hx hb hr hlk hP hS (ret1 hf) dX7_size_4

def X7_hasPlace (h : HS) (v0 : Nat) (v1 : Int32) : Option Int32 :=
    (if v1 < 0 then
    some 0
    else
    (if (fI h v0 4) ≤ v1 then
    some 0
    else
    some 1))
def rmX7_hasPlace : Room := { frames := 0, cells := 0, slots := 0, locals := 0 }
theorem kdX7_hasPlace : yX7_hasPlace.cls = RX7 ∧ yX7_hasPlace.cls ≠ "java/lang/invoke/MethodHandle" ∧ yX7_hasPlace.cls ≠ "java/lang/invoke/VarHandle" ∧ (parseMethodDescriptor yX7_hasPlace.desc).map (fun d => d.parameters.length) = some 1 := by decide +kernel
set_option maxHeartbeats 4000000 in
set_option maxRecDepth 100000 in
theorem m_X7_hasPlace (l : Launch) (D : va_G) (a : Nat → Nat) (C : Nat → ClassId) (ha : ginj a) (h : HS) (v0 : Nat) (v1 : Int32) (hv0 : isShf v0) (r : Int32) (hf : X7_hasPlace h v0 v1 = some r) : gM l yX7_hasPlace wsX7_hasPlace rmX7_hasPlace D a C [.ref (a v0), .int v1] h (some (.int r)) h := by
  refine g_start (av := [.ref (a v0), .int v1]) (cc := cX7_hasPlace) (maxL := 2) (rt := (some .boolean)) (by decide) rfl (Nat.le_of_ble_eq_true rfl) ?_
  intro p e s m below meth c hx hb hr hml hown hlk hts hP hK hN ls hl
  have hA : ∀ q, gA a q → gA a q := fun _ q => q
  have hS : va_S (gA a) s.heap s.heap [] := va_S.rf
  have hl : lv_has ls 2 [(0, .ref (a v0)), (1, .int v1)] := hl
  unfold X7_hasPlace at hf
  refine lv_iload_n hx hb dX7_hasPlace_0 rfl (lv_at hl 1 rfl) ?_
  refine lv_if_lt (tgt := 16) hx hb dX7_hasPlace_1 (by decide) (fun c1 => ?_) (fun c1 => ?_)
  · have hf := if_t hf c1
    refine lv_iconst (v := 0) hx hb dX7_hasPlace_16 (by decide) ?_
    exact g_zret hx hb hr hlk (by decide) hP hS (ret1 hf) dX7_hasPlace_17
  · have hf := if_f hf c1
    refine lv_iload_n hx hb dX7_hasPlace_4 rfl (lv_at hl 1 rfl) ?_
    refine lv_aload_n hx hb dX7_hasPlace_5 rfl (lv_at hl 0 rfl) ?_
    refine g_get (Cn := RX7) (T := TX7) (N := 6) (v := .int (fI h v0 4)) (own := RX7) hx hb hown hts hK (shf_O hv0) rfl (fun _ hw => List.mem_cons_of_mem _ (List.mem_append_right _ hw)) 4 (by decide) (List.mem_of_getElem? (i := 1) rfl) rfl rfl hP dX7_hasPlace_6 ?_
    refine lv_icmp_ge (tgt := 16) hx hb dX7_hasPlace_9 (by decide) (fun c2 => ?_) (fun c2 => ?_)
    · have hf := if_t hf c2
      refine lv_iconst (v := 0) hx hb dX7_hasPlace_16 (by decide) ?_
      exact g_zret hx hb hr hlk (by decide) hP hS (ret1 hf) dX7_hasPlace_17
    · have hf := if_f hf c2
      refine lv_iconst (v := 1) hx hb dX7_hasPlace_12 (by decide) ?_
      refine lv_goto (tgt := 17) hx hb dX7_hasPlace_13 (by decide) ?_
      exact g_zret hx hb hr hlk (by decide) hP hS (ret1 hf) dX7_hasPlace_17

def X7_hasPlaces (h : HS) (v0 : Nat) (v1 : Int32) (v2 : Int32) : Option Int32 :=
    (if v1 < 0 then
    some 0
    else
    (if v2 < 0 then
    some 0
    else
    (if (fI h v0 4) < v2 then
    some 0
    else
    (if ((fI h v0 4) - v2) < v1 then
    some 0
    else
    some 1))))
def rmX7_hasPlaces : Room := { frames := 0, cells := 0, slots := 0, locals := 0 }
theorem kdX7_hasPlaces : yX7_hasPlaces.cls = RX7 ∧ yX7_hasPlaces.cls ≠ "java/lang/invoke/MethodHandle" ∧ yX7_hasPlaces.cls ≠ "java/lang/invoke/VarHandle" ∧ (parseMethodDescriptor yX7_hasPlaces.desc).map (fun d => d.parameters.length) = some 2 := by decide +kernel
set_option maxHeartbeats 4000000 in
set_option maxRecDepth 100000 in
theorem m_X7_hasPlaces (l : Launch) (D : va_G) (a : Nat → Nat) (C : Nat → ClassId) (ha : ginj a) (h : HS) (v0 : Nat) (v1 : Int32) (v2 : Int32) (hv0 : isShf v0) (r : Int32) (hf : X7_hasPlaces h v0 v1 v2 = some r) : gM l yX7_hasPlaces wsX7_hasPlaces rmX7_hasPlaces D a C [.ref (a v0), .int v1, .int v2] h (some (.int r)) h := by
  refine g_start (av := [.ref (a v0), .int v1, .int v2]) (cc := cX7_hasPlaces) (maxL := 3) (rt := (some .boolean)) (by decide) rfl (Nat.le_of_ble_eq_true rfl) ?_
  intro p e s m below meth c hx hb hr hml hown hlk hts hP hK hN ls hl
  have hA : ∀ q, gA a q → gA a q := fun _ q => q
  have hS : va_S (gA a) s.heap s.heap [] := va_S.rf
  have hl : lv_has ls 3 [(0, .ref (a v0)), (1, .int v1), (2, .int v2)] := hl
  unfold X7_hasPlaces at hf
  refine lv_iload_n hx hb dX7_hasPlaces_0 rfl (lv_at hl 1 rfl) ?_
  refine lv_if_lt (tgt := 30) hx hb dX7_hasPlaces_1 (by decide) (fun c1 => ?_) (fun c1 => ?_)
  · have hf := if_t hf c1
    refine lv_iconst (v := 0) hx hb dX7_hasPlaces_30 (by decide) ?_
    exact g_zret hx hb hr hlk (by decide) hP hS (ret1 hf) dX7_hasPlaces_31
  · have hf := if_f hf c1
    refine lv_iload_n hx hb dX7_hasPlaces_4 rfl (lv_at hl 2 rfl) ?_
    refine lv_if_lt (tgt := 30) hx hb dX7_hasPlaces_5 (by decide) (fun c2 => ?_) (fun c2 => ?_)
    · have hf := if_t hf c2
      refine lv_iconst (v := 0) hx hb dX7_hasPlaces_30 (by decide) ?_
      exact g_zret hx hb hr hlk (by decide) hP hS (ret1 hf) dX7_hasPlaces_31
    · have hf := if_f hf c2
      refine lv_iload_n hx hb dX7_hasPlaces_8 rfl (lv_at hl 2 rfl) ?_
      refine lv_aload_n hx hb dX7_hasPlaces_9 rfl (lv_at hl 0 rfl) ?_
      refine g_get (Cn := RX7) (T := TX7) (N := 6) (v := .int (fI h v0 4)) (own := RX7) hx hb hown hts hK (shf_O hv0) rfl (fun _ hw => List.mem_cons_of_mem _ (List.mem_append_right _ hw)) 4 (by decide) (List.mem_of_getElem? (i := 1) rfl) rfl rfl hP dX7_hasPlaces_10 ?_
      refine lv_icmp_gt (tgt := 30) hx hb dX7_hasPlaces_13 (by decide) (fun c3 => ?_) (fun c3 => ?_)
      · have hf := if_t hf c3
        refine lv_iconst (v := 0) hx hb dX7_hasPlaces_30 (by decide) ?_
        exact g_zret hx hb hr hlk (by decide) hP hS (ret1 hf) dX7_hasPlaces_31
      · have hf := if_f hf c3
        refine lv_iload_n hx hb dX7_hasPlaces_16 rfl (lv_at hl 1 rfl) ?_
        refine lv_aload_n hx hb dX7_hasPlaces_17 rfl (lv_at hl 0 rfl) ?_
        refine g_get (Cn := RX7) (T := TX7) (N := 6) (v := .int (fI h v0 4)) (own := RX7) hx hb hown hts hK (shf_O hv0) rfl (fun _ hw => List.mem_cons_of_mem _ (List.mem_append_right _ hw)) 4 (by decide) (List.mem_of_getElem? (i := 1) rfl) rfl rfl hP dX7_hasPlaces_18 ?_
        refine lv_iload_n hx hb dX7_hasPlaces_21 rfl (lv_at hl 2 rfl) ?_
        refine lv_isub hx hb dX7_hasPlaces_22 ?_
        refine lv_icmp_gt (tgt := 30) hx hb dX7_hasPlaces_23 (by decide) (fun c4 => ?_) (fun c4 => ?_)
        · have hf := if_t hf c4
          refine lv_iconst (v := 0) hx hb dX7_hasPlaces_30 (by decide) ?_
          exact g_zret hx hb hr hlk (by decide) hP hS (ret1 hf) dX7_hasPlaces_31
        · have hf := if_f hf c4
          refine lv_iconst (v := 1) hx hb dX7_hasPlaces_26 (by decide) ?_
          refine lv_goto (tgt := 31) hx hb dX7_hasPlaces_27 (by decide) ?_
          exact g_zret hx hb hr hlk (by decide) hP hS (ret1 hf) dX7_hasPlaces_31

def X7_at (h : HS) (v0 : Nat) (v1 : Int32) : Option Int32 :=
    (X7_hasPlace h v0 v1).bind fun q1 =>
    (if q1 = 0 then
    some 0
    else
    gdi v1 100 <|
    some (aI h (v0 + 1) v1.toNatClampNeg))
def rmX7_at : Room := { frames := 1, cells := 0, slots := 0, locals := 21 }
theorem kdX7_at : yX7_at.cls = RX7 ∧ yX7_at.cls ≠ "java/lang/invoke/MethodHandle" ∧ yX7_at.cls ≠ "java/lang/invoke/VarHandle" ∧ (parseMethodDescriptor yX7_at.desc).map (fun d => d.parameters.length) = some 1 := by decide +kernel
set_option maxHeartbeats 4000000 in
set_option maxRecDepth 100000 in
theorem m_X7_at (l : Launch) (D : va_G) (a : Nat → Nat) (C : Nat → ClassId) (ha : ginj a) (h : HS) (v0 : Nat) (v1 : Int32) (hv0 : isShf v0) (r : Int32) (hf : X7_at h v0 v1 = some r) : gM l yX7_at wsX7_at rmX7_at D a C [.ref (a v0), .int v1] h (some (.int r)) h := by
  refine g_start (av := [.ref (a v0), .int v1]) (cc := cX7_at) (maxL := 2) (rt := (some .int)) (by decide) rfl (Nat.le_of_ble_eq_true rfl) ?_
  intro p e s m below meth c hx hb hr hml hown hlk hts hP hK hN ls hl
  have hA : ∀ q, gA a q → gA a q := fun _ q => q
  have hS : va_S (gA a) s.heap s.heap [] := va_S.rf
  have hl : lv_has ls 2 [(0, .ref (a v0)), (1, .int v1)] := hl
  unfold X7_at at hf
  refine lv_aload_n hx hb dX7_at_0 rfl (lv_at hl 0 rfl) ?_
  refine lv_iload_n hx hb dX7_at_1 rfl (lv_at hl 1 rfl) ?_
  obtain ⟨q1, hq1, hf⟩ := bind_s hf
  refine g_callV (As := [.int v1]) (rest := []) hx hb hml hown hts hK hN (m_X7_hasPlace l D a C ha h v0 v1 hv0 q1 hq1) (cwV 1 hts gX7_at_X7_hasPlace rfl rfl rfl kdX7_hasPlace ⟨Nat.le_of_ble_eq_true rfl, Nat.le_of_ble_eq_true rfl⟩) (shf_O hv0) rfl rfl hP hS hA rfl hl.1 rfl (Nat.le_of_ble_eq_true rfl) dX7_at_2 ⟨Nat.le_refl _, Nat.le_refl _⟩ (fun H locs hP hS => ?_)
  refine W.eq (g2 := F0 m 5 ls [.int q1]) rfl ?_
  refine lv_if_eq (tgt := 17) hx hb dX7_at_5 (by decide) (fun c2 => ?_) (fun c2 => ?_)
  · have hf := if_t hf c2
    refine lv_iconst (v := 0) hx hb dX7_at_17 (by decide) ?_
    exact g_iret hx hb hr hlk hP hS (ret1 hf) dX7_at_18
  · have hf := if_f hf c2
    refine lv_aload_n hx hb dX7_at_8 rfl (lv_at hl 0 rfl) ?_
    refine g_get (Cn := RX7) (T := TX7) (N := 6) (v := .ref (a (v0 + 1))) (own := RX7) hx hb hown hts hK (shf_O hv0) rfl (fun _ hw => List.mem_cons_of_mem _ (List.mem_append_right _ hw)) 5 (by decide) (List.mem_of_getElem? (i := 1) rfl) rfl rfl hP dX7_at_9 ?_
    refine lv_iload_n hx hb dX7_at_12 rfl (lv_at hl 1 rfl) ?_
    obtain ⟨c3, hf⟩ := gdi_s hf
    refine g_ial hx hb hK (shf_el hv0) c3 hP dX7_at_13 ?_
    refine lv_goto (tgt := 18) hx hb dX7_at_14 (by decide) ?_
    exact g_iret hx hb hr hlk hP hS (ret1 hf) dX7_at_18

def X7_set_B39 (v0 : Nat) (v1 : Int32) (v2 : Int32) (s0 : Int32) (s1 : Int32) (h : HS) : Option HS :=
    gdi s1 100 <|
    nm (sA h (v0 + 1) (upd (aI h (v0 + 1)) s1.toNatClampNeg s0)) fun h5 =>
    some h5
def X7_set (h : HS) (v0 : Nat) (v1 : Int32) (v2 : Int32) : Option HS :=
    (X7_hasPlace h v0 v1).bind fun q1 =>
    (if q1 = 0 then
    some h
    else
    (if (fI h v0 3) = 0 then
    X7_set_B39 v0 v1 v2 v2.toInt8.toInt32 v1 h
    else
    (if (fI h v0 3) = 1 then
    X7_set_B39 v0 v1 v2 v2.toInt16.toInt32 v1 h
    else
    X7_set_B39 v0 v1 v2 v2 v1 h)))
def rmX7_set : Room := { frames := 1, cells := 0, slots := 0, locals := 21 }
theorem kdX7_set : yX7_set.cls = RX7 ∧ yX7_set.cls ≠ "java/lang/invoke/MethodHandle" ∧ yX7_set.cls ≠ "java/lang/invoke/VarHandle" ∧ (parseMethodDescriptor yX7_set.desc).map (fun d => d.parameters.length) = some 2 := by decide +kernel
set_option maxHeartbeats 4000000 in
set_option maxRecDepth 100000 in
theorem m_X7_set (l : Launch) (D : va_G) (a : Nat → Nat) (C : Nat → ClassId) (ha : ginj a) (h : HS) (v0 : Nat) (v1 : Int32) (v2 : Int32) (hv0 : isShf v0) (h' : HS) (hf : X7_set h v0 v1 v2 = some h') : gM l yX7_set wsX7_set rmX7_set D a C [.ref (a v0), .int v1, .int v2] h none h' := by
  refine g_start (av := [.ref (a v0), .int v1, .int v2]) (cc := cX7_set) (maxL := 3) (rt := none) (by decide) rfl (Nat.le_of_ble_eq_true rfl) ?_
  intro p e s m below meth c hx hb hr hml hown hlk hts hP hK hN ls hl
  have hA : ∀ q, gA a q → gA a q := fun _ q => q
  have hS : va_S (gA a) s.heap s.heap [] := va_S.rf
  have hl : lv_has ls 3 [(0, .ref (a v0)), (1, .int v1), (2, .int v2)] := hl
  have J39 : ∀ (s0 : Int32) (s1 : Int32) (h : HS) (_ : X7_set_B39 v0 v1 v2 s0 s1 h = some h'), gG p l e (headSpec wsX7_set rmX7_set).room s m ([.ref (a v0), .int v1, .int v2] : List Value).toArray below meth c (MQ below (gQ none D a C h') ([.ref (a v0), .int v1, .int v2] : List Value).toArray s 0 0 (gA a)) D a C 3 h 39 [] [.int s0, .int s1, .ref (a (v0 + 1))] := by
    intro s0 s1 h hf H locs ls hP hS hl
    unfold X7_set_B39 at hf
    obtain ⟨c6, hf⟩ := gdi_s hf
    refine g_ias hx hb hK ha hA (shf_el hv0) c6 hP hS dX7_set_39 (fun H locs hP hS => ?_)
    obtain ⟨h5, eh5⟩ : ∃ x, x = (sA h (v0 + 1) (upd (aI h (v0 + 1)) s1.toNatClampNeg s0)) := ⟨_, rfl⟩
    rw [← eh5] at hP
    have hf := nm_s hf eh5
    exact g_vret hx hb hr hlk hP hS (ret1 hf) dX7_set_40
  unfold X7_set at hf
  suffices hh : ∀ (H : Heap) (locs : List Loc), va_P D vwCl (gw a C h) H → va_S (gA a) s.heap H locs → W p l e (headSpec wsX7_set rmX7_set).room s m ([.ref (a v0), .int v1, .int v2] : List Value).toArray below meth c H locs 0 0 (MQ below (gQ none D a C h') ([.ref (a v0), .int v1, .int v2] : List Value).toArray s 0 0 (gA a)) (F0 m 0 ls []) from hh _ _ hP hS
  intro H locs hP hS
  refine lv_aload_n hx hb dX7_set_0 rfl (lv_at hl 0 rfl) ?_
  refine lv_iload_n hx hb dX7_set_1 rfl (lv_at hl 1 rfl) ?_
  obtain ⟨q1, hq1, hf⟩ := bind_s hf
  refine g_callV (As := [.int v1]) (rest := []) hx hb hml hown hts hK hN (m_X7_hasPlace l D a C ha h v0 v1 hv0 q1 hq1) (cwV 1 hts gX7_set_X7_hasPlace rfl rfl rfl kdX7_hasPlace ⟨Nat.le_of_ble_eq_true rfl, Nat.le_of_ble_eq_true rfl⟩) (shf_O hv0) rfl rfl hP hS hA rfl hl.1 rfl (Nat.le_of_ble_eq_true rfl) dX7_set_2 ⟨Nat.le_refl _, Nat.le_refl _⟩ (fun H locs hP hS => ?_)
  refine W.eq (g2 := F0 m 5 ls [.int q1]) rfl ?_
  refine lv_if_eq (tgt := 40) hx hb dX7_set_5 (by decide) (fun c2 => ?_) (fun c2 => ?_)
  · have hf := if_t hf c2
    exact g_vret hx hb hr hlk hP hS (ret1 hf) dX7_set_40
  · have hf := if_f hf c2
    refine lv_aload_n hx hb dX7_set_8 rfl (lv_at hl 0 rfl) ?_
    refine g_get (Cn := RX7) (T := TX7) (N := 6) (v := .ref (a (v0 + 1))) (own := RX7) hx hb hown hts hK (shf_O hv0) rfl (fun _ hw => List.mem_cons_of_mem _ (List.mem_append_right _ hw)) 5 (by decide) (List.mem_of_getElem? (i := 1) rfl) rfl rfl hP dX7_set_9 ?_
    refine lv_iload_n hx hb dX7_set_12 rfl (lv_at hl 1 rfl) ?_
    refine lv_aload_n hx hb dX7_set_13 rfl (lv_at hl 0 rfl) ?_
    refine g_get (Cn := RX7) (T := TX7) (N := 6) (v := .int (fI h v0 3)) (own := RX7) hx hb hown hts hK (shf_O hv0) rfl (fun _ hw => List.mem_cons_of_mem _ (List.mem_append_right _ hw)) 3 (by decide) (List.mem_of_getElem? (i := 2) rfl) rfl rfl hP dX7_set_14 ?_
    refine lv_if_ne (tgt := 25) hx hb dX7_set_17 (by decide) (fun c3 => ?_) (fun c3 => ?_)
    · have hf := if_f hf c3
      refine lv_aload_n hx hb dX7_set_25 rfl (lv_at hl 0 rfl) ?_
      refine g_get (Cn := RX7) (T := TX7) (N := 6) (v := .int (fI h v0 3)) (own := RX7) hx hb hown hts hK (shf_O hv0) rfl (fun _ hw => List.mem_cons_of_mem _ (List.mem_append_right _ hw)) 3 (by decide) (List.mem_of_getElem? (i := 2) rfl) rfl rfl hP dX7_set_26 ?_
      refine lv_iconst (v := 1) hx hb dX7_set_29 (by decide) ?_
      refine lv_icmp_ne (tgt := 38) hx hb dX7_set_30 (by decide) (fun c4 => ?_) (fun c4 => ?_)
      · have hf := if_f hf c4
        refine lv_iload_n hx hb dX7_set_38 rfl (lv_at hl 2 rfl) ?_
        exact J39 v2 v1 h hf H locs ls hP hS (lv_sub hl [] rfl)
      · have hf := if_t hf c4
        refine lv_iload_n hx hb dX7_set_33 rfl (lv_at hl 2 rfl) ?_
        refine lv_i2s hx hb dX7_set_34 rfl ?_
        refine lv_goto (tgt := 39) hx hb dX7_set_35 (by decide) ?_
        exact J39 v2.toInt16.toInt32 v1 h hf H locs ls hP hS (lv_sub hl [] rfl)
    · have hf := if_t hf c3
      refine lv_iload_n hx hb dX7_set_20 rfl (lv_at hl 2 rfl) ?_
      refine lv_i2b hx hb dX7_set_21 rfl ?_
      refine lv_goto (tgt := 39) hx hb dX7_set_22 (by decide) ?_
      exact J39 v2.toInt8.toInt32 v1 h hf H locs ls hP hS (lv_sub hl [] rfl)

def X7_isSkipped_B33 (h : HS) (v0 : Nat) (v1 : Int32) (s0 : Int32) (s1 : Int32) : Option Int32 :=
    (if s1 = s0 then
    some 1
    else
    some 0)
def X7_isSkipped (h : HS) (v0 : Nat) (v1 : Int32) : Option Int32 :=
    (X7_at h v0 v1).bind fun q1 =>
    (if (fI h v0 3) = 0 then
    X7_isSkipped_B33 h v0 v1 (-128) q1
    else
    (if (fI h v0 3) = 1 then
    X7_isSkipped_B33 h v0 v1 (-32768) q1
    else
    X7_isSkipped_B33 h v0 v1 (-2147483648) q1))
def rmX7_isSkipped : Room := { frames := 2, cells := 0, slots := 0, locals := 42 }
theorem kdX7_isSkipped : yX7_isSkipped.cls = RX7 ∧ yX7_isSkipped.cls ≠ "java/lang/invoke/MethodHandle" ∧ yX7_isSkipped.cls ≠ "java/lang/invoke/VarHandle" ∧ (parseMethodDescriptor yX7_isSkipped.desc).map (fun d => d.parameters.length) = some 1 := by decide +kernel
set_option maxHeartbeats 4000000 in
set_option maxRecDepth 100000 in
theorem m_X7_isSkipped (l : Launch) (D : va_G) (a : Nat → Nat) (C : Nat → ClassId) (ha : ginj a) (h : HS) (v0 : Nat) (v1 : Int32) (hv0 : isShf v0) (r : Int32) (hf : X7_isSkipped h v0 v1 = some r) : gM l yX7_isSkipped wsX7_isSkipped rmX7_isSkipped D a C [.ref (a v0), .int v1] h (some (.int r)) h := by
  refine g_start (av := [.ref (a v0), .int v1]) (cc := cX7_isSkipped) (maxL := 2) (rt := (some .boolean)) (by decide) rfl (Nat.le_of_ble_eq_true rfl) ?_
  intro p e s m below meth c hx hb hr hml hown hlk hts hP hK hN ls hl
  have hA : ∀ q, gA a q → gA a q := fun _ q => q
  have hS : va_S (gA a) s.heap s.heap [] := va_S.rf
  have hl : lv_has ls 2 [(0, .ref (a v0)), (1, .int v1)] := hl
  have J33 : ∀ (s0 : Int32) (s1 : Int32) (_ : X7_isSkipped_B33 h v0 v1 s0 s1 = some r), gG p l e (headSpec wsX7_isSkipped rmX7_isSkipped).room s m ([.ref (a v0), .int v1] : List Value).toArray below meth c (MQ below (gQ (some (.int r)) D a C h) ([.ref (a v0), .int v1] : List Value).toArray s 0 0 (gA a)) D a C 2 h 33 [] [.int s0, .int s1] := by
    intro s0 s1 hf H locs ls hP hS hl
    unfold X7_isSkipped_B33 at hf
    refine lv_icmp_ne (tgt := 40) hx hb dX7_isSkipped_33 (by decide) (fun c4 => ?_) (fun c4 => ?_)
    · have hf := if_f hf c4
      refine lv_iconst (v := 0) hx hb dX7_isSkipped_40 (by decide) ?_
      exact g_zret hx hb hr hlk (by decide) hP hS (ret1 hf) dX7_isSkipped_41
    · have hf := if_t hf c4
      refine lv_iconst (v := 1) hx hb dX7_isSkipped_36 (by decide) ?_
      refine lv_goto (tgt := 41) hx hb dX7_isSkipped_37 (by decide) ?_
      exact g_zret hx hb hr hlk (by decide) hP hS (ret1 hf) dX7_isSkipped_41
  unfold X7_isSkipped at hf
  suffices hh : ∀ (H : Heap) (locs : List Loc), va_P D vwCl (gw a C h) H → va_S (gA a) s.heap H locs → W p l e (headSpec wsX7_isSkipped rmX7_isSkipped).room s m ([.ref (a v0), .int v1] : List Value).toArray below meth c H locs 0 0 (MQ below (gQ (some (.int r)) D a C h) ([.ref (a v0), .int v1] : List Value).toArray s 0 0 (gA a)) (F0 m 0 ls []) from hh _ _ hP hS
  intro H locs hP hS
  refine lv_aload_n hx hb dX7_isSkipped_0 rfl (lv_at hl 0 rfl) ?_
  refine lv_iload_n hx hb dX7_isSkipped_1 rfl (lv_at hl 1 rfl) ?_
  obtain ⟨q1, hq1, hf⟩ := bind_s hf
  refine g_callV (As := [.int v1]) (rest := []) hx hb hml hown hts hK hN (m_X7_at l D a C ha h v0 v1 hv0 q1 hq1) (cwV 1 hts gX7_isSkipped_X7_at rfl rfl rfl kdX7_at ⟨Nat.le_of_ble_eq_true rfl, Nat.le_of_ble_eq_true rfl⟩) (shf_O hv0) rfl rfl hP hS hA rfl hl.1 rfl (Nat.le_of_ble_eq_true rfl) dX7_isSkipped_2 ⟨Nat.le_refl _, Nat.le_refl _⟩ (fun H locs hP hS => ?_)
  refine W.eq (g2 := F0 m 5 ls [.int q1]) rfl ?_
  refine lv_aload_n hx hb dX7_isSkipped_5 rfl (lv_at hl 0 rfl) ?_
  refine g_get (Cn := RX7) (T := TX7) (N := 6) (v := .int (fI h v0 3)) (own := RX7) hx hb hown hts hK (shf_O hv0) rfl (fun _ hw => List.mem_cons_of_mem _ (List.mem_append_right _ hw)) 3 (by decide) (List.mem_of_getElem? (i := 1) rfl) rfl rfl hP dX7_isSkipped_6 ?_
  refine lv_if_ne (tgt := 17) hx hb dX7_isSkipped_9 (by decide) (fun c2 => ?_) (fun c2 => ?_)
  · have hf := if_f hf c2
    refine lv_aload_n hx hb dX7_isSkipped_17 rfl (lv_at hl 0 rfl) ?_
    refine g_get (Cn := RX7) (T := TX7) (N := 6) (v := .int (fI h v0 3)) (own := RX7) hx hb hown hts hK (shf_O hv0) rfl (fun _ hw => List.mem_cons_of_mem _ (List.mem_append_right _ hw)) 3 (by decide) (List.mem_of_getElem? (i := 1) rfl) rfl rfl hP dX7_isSkipped_18 ?_
    refine lv_iconst (v := 1) hx hb dX7_isSkipped_21 (by decide) ?_
    refine lv_icmp_ne (tgt := 31) hx hb dX7_isSkipped_22 (by decide) (fun c3 => ?_) (fun c3 => ?_)
    · have hf := if_f hf c3
      refine lv_ldc (v := (-2147483648)) hx hb hown (hts _ (List.mem_of_getElem? (i := 2) rfl)) dX7_isSkipped_31 ?_
      exact J33 (-2147483648) q1 hf H locs ls hP hS (lv_sub hl [] rfl)
    · have hf := if_t hf c3
      refine lv_sipush (v := (-32768)) hx hb dX7_isSkipped_25 (by decide) ?_
      refine lv_goto (tgt := 33) hx hb dX7_isSkipped_28 (by decide) ?_
      exact J33 (-32768) q1 hf H locs ls hP hS (lv_sub hl [] rfl)
  · have hf := if_t hf c2
    refine lv_bipush (v := (-128)) hx hb dX7_isSkipped_12 (by decide) ?_
    refine lv_goto (tgt := 33) hx hb dX7_isSkipped_14 (by decide) ?_
    exact J33 (-128) q1 hf H locs ls hP hS (lv_sub hl [] rfl)

