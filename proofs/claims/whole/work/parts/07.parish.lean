def X5_become (h : HS) (v0 : Nat) (v1 : Nat) : Option HS :=
    (X4_copyFrom h (v0 + 1) (v1 + 1)).bind fun q1 =>
    gdc 0 0 9 9 9 <|
    nm (sA q1 (v0 + 13) (va_cpy (aI q1 (v1 + 13)) (aI q1 (v0 + 13)) (0 : Int32).toNatClampNeg (0 : Int32).toNatClampNeg (9 : Int32).toNatClampNeg)) fun h2 =>
    gdc 0 0 9 9 9 <|
    nm (sA h2 (v0 + 14) (va_cpy (aI h2 (v1 + 14)) (aI h2 (v0 + 14)) (0 : Int32).toNatClampNeg (0 : Int32).toNatClampNeg (9 : Int32).toNatClampNeg)) fun h4 =>
    nm (sF h4 v0 4 (fI h4 v1 4)) fun h6 =>
    nm (sF h6 v0 5 (fI h6 v1 5)) fun h7 =>
    nm (sF h7 v0 6 (fI h7 v1 6)) fun h8 =>
    some h8
def rmX5_become : Room := { frames := 2, cells := 0, slots := 0, locals := 47 }
theorem kdX5_become : yX5_become.cls = RX5 ∧ yX5_become.cls ≠ "java/lang/invoke/MethodHandle" ∧ yX5_become.cls ≠ "java/lang/invoke/VarHandle" ∧ (parseMethodDescriptor yX5_become.desc).map (fun d => d.parameters.length) = some 1 := by decide +kernel
set_option maxHeartbeats 4000000 in
set_option maxRecDepth 100000 in
theorem m_X5_become (l : Launch) (D : va_G) (a : Nat → Nat) (C : Nat → ClassId) (ha : ginj a) (h : HS) (v0 : Nat) (v1 : Nat) (hv0 : isPar v0) (hv1 : isPar v1) (h' : HS) (hf : X5_become h v0 v1 = some h') : gM l yX5_become wsX5_become rmX5_become D a C [.ref (a v0), .ref (a v1)] h none h' := by
  refine g_start (av := [.ref (a v0), .ref (a v1)]) (cc := cX5_become) (maxL := 2) (rt := none) (by decide) rfl (Nat.le_of_ble_eq_true rfl) ?_
  intro p e s m below meth c hx hb hr hml hown hlk hts hP hK hN ls hl
  have hA : ∀ q, gA a q → gA a q := fun _ q => q
  have hS : va_S (gA a) s.heap s.heap [] := va_S.rf
  have hl : lv_has ls 2 [(0, .ref (a v0)), (1, .ref (a v1))] := hl
  unfold X5_become at hf
  refine lv_aload_n hx hb dX5_become_0 rfl (lv_at hl 0 rfl) ?_
  refine g_get (Cn := RX5) (T := TX5) (N := 7) (v := .ref (a (v0 + 1))) (own := RX5) hx hb hown hts hK (par_O hv0) rfl (fun _ hw => List.mem_cons_of_mem _ (List.mem_append_left _ (List.mem_append_right _ hw))) 0 (by decide) (List.mem_of_getElem? (i := 1) rfl) rfl rfl hP dX5_become_1 ?_
  refine lv_aload_n hx hb dX5_become_4 rfl (lv_at hl 1 rfl) ?_
  refine g_get (Cn := RX5) (T := TX5) (N := 7) (v := .ref (a (v1 + 1))) (own := RX5) hx hb hown hts hK (par_O hv1) rfl (fun _ hw => List.mem_cons_of_mem _ (List.mem_append_left _ (List.mem_append_right _ hw))) 0 (by decide) (List.mem_of_getElem? (i := 1) rfl) rfl rfl hP dX5_become_5 ?_
  obtain ⟨q1, hq1, hf⟩ := bind_s hf
  refine g_callV (As := [.ref (a (v1 + 1))]) (rest := []) hx hb hml hown hts hK hN (m_X4_copyFrom l D a C ha h (v0 + 1) (v1 + 1) (par_lin hv0) (par_lin hv1) q1 hq1) (cwV 1 hts gX5_become_X4_copyFrom rfl rfl rfl kdX4_copyFrom ⟨Nat.le_of_ble_eq_true rfl, Nat.le_of_ble_eq_true rfl⟩) (lin_O (par_lin hv0)) rfl rfl hP hS hA rfl hl.1 rfl (Nat.le_of_ble_eq_true rfl) dX5_become_8 ⟨Nat.le_refl _, Nat.le_refl _⟩ (fun H locs hP hS => ?_)
  refine W.eq (g2 := F0 m 11 ls []) rfl ?_
  refine lv_aload_n hx hb dX5_become_11 rfl (lv_at hl 1 rfl) ?_
  refine g_get (Cn := RX5) (T := TX5) (N := 7) (v := .ref (a (v1 + 13))) (own := RX5) hx hb hown hts hK (par_O hv1) rfl (fun _ hw => List.mem_cons_of_mem _ (List.mem_append_left _ (List.mem_append_right _ hw))) 2 (by decide) (List.mem_of_getElem? (i := 2) rfl) rfl rfl hP dX5_become_12 ?_
  refine lv_iconst (v := 0) hx hb dX5_become_15 (by decide) ?_
  refine lv_aload_n hx hb dX5_become_16 rfl (lv_at hl 0 rfl) ?_
  refine g_get (Cn := RX5) (T := TX5) (N := 7) (v := .ref (a (v0 + 13))) (own := RX5) hx hb hown hts hK (par_O hv0) rfl (fun _ hw => List.mem_cons_of_mem _ (List.mem_append_left _ (List.mem_append_right _ hw))) 2 (by decide) (List.mem_of_getElem? (i := 2) rfl) rfl rfl hP dX5_become_17 ?_
  refine lv_iconst (v := 0) hx hb dX5_become_20 (by decide) ?_
  refine lv_bipush (v := 9) hx hb dX5_become_21 (by decide) ?_
  obtain ⟨c3, hf⟩ := gdc_s hf
  refine g_copyI hx hb hml hl.1 hown (hts _ (List.mem_of_getElem? (i := 3) rfl)) (hts _ (List.mem_of_getElem? (i := 4) rfl)) (hts _ (List.mem_of_getElem? (i := 5) rfl)) (hts _ (List.mem_of_getElem? (i := 6) rfl)) hK ha hA (par_kd hv1) (par_kd hv0) hP hS (Nat.le_of_ble_eq_true rfl) (Nat.le_of_ble_eq_true rfl) (Nat.le_of_ble_eq_true rfl) c3 dX5_become_23 (fun H locs hP hS => ?_)
  obtain ⟨h2, eh2⟩ : ∃ x, x = (sA q1 (v0 + 13) (va_cpy (aI q1 (v1 + 13)) (aI q1 (v0 + 13)) (0 : Int32).toNatClampNeg (0 : Int32).toNatClampNeg (9 : Int32).toNatClampNeg)) := ⟨_, rfl⟩
  rw [← eh2] at hP
  have hf := nm_s hf eh2
  refine lv_aload_n hx hb dX5_become_26 rfl (lv_at hl 1 rfl) ?_
  refine g_get (Cn := RX5) (T := TX5) (N := 7) (v := .ref (a (v1 + 14))) (own := RX5) hx hb hown hts hK (par_O hv1) rfl (fun _ hw => List.mem_cons_of_mem _ (List.mem_append_left _ (List.mem_append_right _ hw))) 3 (by decide) (List.mem_of_getElem? (i := 7) rfl) rfl rfl hP dX5_become_27 ?_
  refine lv_iconst (v := 0) hx hb dX5_become_30 (by decide) ?_
  refine lv_aload_n hx hb dX5_become_31 rfl (lv_at hl 0 rfl) ?_
  refine g_get (Cn := RX5) (T := TX5) (N := 7) (v := .ref (a (v0 + 14))) (own := RX5) hx hb hown hts hK (par_O hv0) rfl (fun _ hw => List.mem_cons_of_mem _ (List.mem_append_left _ (List.mem_append_right _ hw))) 3 (by decide) (List.mem_of_getElem? (i := 7) rfl) rfl rfl hP dX5_become_32 ?_
  refine lv_iconst (v := 0) hx hb dX5_become_35 (by decide) ?_
  refine lv_bipush (v := 9) hx hb dX5_become_36 (by decide) ?_
  obtain ⟨c5, hf⟩ := gdc_s hf
  refine g_copyI hx hb hml hl.1 hown (hts _ (List.mem_of_getElem? (i := 3) rfl)) (hts _ (List.mem_of_getElem? (i := 4) rfl)) (hts _ (List.mem_of_getElem? (i := 5) rfl)) (hts _ (List.mem_of_getElem? (i := 6) rfl)) hK ha hA (par_fg hv1) (par_fg hv0) hP hS (Nat.le_of_ble_eq_true rfl) (Nat.le_of_ble_eq_true rfl) (Nat.le_of_ble_eq_true rfl) c5 dX5_become_38 (fun H locs hP hS => ?_)
  obtain ⟨h4, eh4⟩ : ∃ x, x = (sA h2 (v0 + 14) (va_cpy (aI h2 (v1 + 14)) (aI h2 (v0 + 14)) (0 : Int32).toNatClampNeg (0 : Int32).toNatClampNeg (9 : Int32).toNatClampNeg)) := ⟨_, rfl⟩
  rw [← eh4] at hP
  have hf := nm_s hf eh4
  refine lv_aload_n hx hb dX5_become_41 rfl (lv_at hl 0 rfl) ?_
  refine lv_aload_n hx hb dX5_become_42 rfl (lv_at hl 1 rfl) ?_
  refine g_get (Cn := RX5) (T := TX5) (N := 7) (v := .int (fI h4 v1 4)) (own := RX5) hx hb hown hts hK (par_O hv1) rfl (fun _ hw => List.mem_cons_of_mem _ (List.mem_append_left _ (List.mem_append_right _ hw))) 4 (by decide) (List.mem_of_getElem? (i := 8) rfl) rfl rfl hP dX5_become_43 ?_
  refine g_put (Cn := RX5) (T := TX5) (N := 7) (ty0 := tyX5) (own := RX5) hx hb hown hts hK ha hA (par_O hv0) rfl (fun _ hw => List.mem_cons_of_mem _ (List.mem_append_left _ (List.mem_append_right _ hw))) tyX5_ok nmX5 4 (by decide) (List.mem_of_getElem? (i := 8) rfl) rfl rfl rfl rfl rfl hP hS dX5_become_46 (fun H locs hP hS => ?_)
  obtain ⟨h6, eh6⟩ : ∃ x, x = (sF h4 v0 4 (fI h4 v1 4)) := ⟨_, rfl⟩
  rw [← eh6] at hP
  have hf := nm_s hf eh6
  refine lv_aload_n hx hb dX5_become_49 rfl (lv_at hl 0 rfl) ?_
  refine lv_aload_n hx hb dX5_become_50 rfl (lv_at hl 1 rfl) ?_
  refine g_get (Cn := RX5) (T := TX5) (N := 7) (v := .int (fI h6 v1 5)) (own := RX5) hx hb hown hts hK (par_O hv1) rfl (fun _ hw => List.mem_cons_of_mem _ (List.mem_append_left _ (List.mem_append_right _ hw))) 5 (by decide) (List.mem_of_getElem? (i := 9) rfl) rfl rfl hP dX5_become_51 ?_
  refine g_put (Cn := RX5) (T := TX5) (N := 7) (ty0 := tyX5) (own := RX5) hx hb hown hts hK ha hA (par_O hv0) rfl (fun _ hw => List.mem_cons_of_mem _ (List.mem_append_left _ (List.mem_append_right _ hw))) tyX5_ok nmX5 5 (by decide) (List.mem_of_getElem? (i := 9) rfl) rfl rfl rfl rfl rfl hP hS dX5_become_54 (fun H locs hP hS => ?_)
  obtain ⟨h7, eh7⟩ : ∃ x, x = (sF h6 v0 5 (fI h6 v1 5)) := ⟨_, rfl⟩
  rw [← eh7] at hP
  have hf := nm_s hf eh7
  refine lv_aload_n hx hb dX5_become_57 rfl (lv_at hl 0 rfl) ?_
  refine lv_aload_n hx hb dX5_become_58 rfl (lv_at hl 1 rfl) ?_
  refine g_get (Cn := RX5) (T := TX5) (N := 7) (v := .int (fI h7 v1 6)) (own := RX5) hx hb hown hts hK (par_O hv1) rfl (fun _ hw => List.mem_cons_of_mem _ (List.mem_append_left _ (List.mem_append_right _ hw))) 6 (by decide) (List.mem_of_getElem? (i := 10) rfl) rfl rfl hP dX5_become_59 ?_
  refine g_put (Cn := RX5) (T := TX5) (N := 7) (ty0 := tyX5) (own := RX5) hx hb hown hts hK ha hA (par_O hv0) rfl (fun _ hw => List.mem_cons_of_mem _ (List.mem_append_left _ (List.mem_append_right _ hw))) tyX5_ok nmX5 6 (by decide) (List.mem_of_getElem? (i := 10) rfl) rfl rfl rfl rfl rfl hP hS dX5_become_62 (fun H locs hP hS => ?_)
  obtain ⟨h8, eh8⟩ : ∃ x, x = (sF h7 v0 6 (fI h7 v1 6)) := ⟨_, rfl⟩
  rw [← eh8] at hP
  have hf := nm_s hf eh8
  exact g_vret hx hb hr hlk hP hS (ret1 hf) dX5_become_65

def X5_people (h : HS) (v0 : Nat) : Option Int32 :=
    some (fI h (v0 + 1) 0)
def rmX5_people : Room := { frames := 0, cells := 0, slots := 0, locals := 0 }
theorem kdX5_people : yX5_people.cls = RX5 ∧ yX5_people.cls ≠ "java/lang/invoke/MethodHandle" ∧ yX5_people.cls ≠ "java/lang/invoke/VarHandle" ∧ (parseMethodDescriptor yX5_people.desc).map (fun d => d.parameters.length) = some 0 := by decide +kernel
set_option maxHeartbeats 4000000 in
set_option maxRecDepth 100000 in
theorem m_X5_people (l : Launch) (D : va_G) (a : Nat → Nat) (C : Nat → ClassId) (ha : ginj a) (h : HS) (v0 : Nat) (hv0 : isPar v0) (r : Int32) (hf : X5_people h v0 = some r) : gM l yX5_people wsX5_people rmX5_people D a C [.ref (a v0)] h (some (.int r)) h := by
  refine g_start (av := [.ref (a v0)]) (cc := cX5_people) (maxL := 1) (rt := (some .int)) (by decide) rfl (Nat.le_of_ble_eq_true rfl) ?_
  intro p e s m below meth c hx hb hr hml hown hlk hts hP hK hN ls hl
  have hA : ∀ q, gA a q → gA a q := fun _ q => q
  have hS : va_S (gA a) s.heap s.heap [] := va_S.rf
  have hl : lv_has ls 1 [(0, .ref (a v0))] := hl
  unfold X5_people at hf
  refine lv_aload_n hx hb dX5_people_0 rfl (lv_at hl 0 rfl) ?_
  refine g_get (Cn := RX5) (T := TX5) (N := 7) (v := .ref (a (v0 + 1))) (own := RX5) hx hb hown hts hK (par_O hv0) rfl (fun _ hw => List.mem_cons_of_mem _ (List.mem_append_left _ (List.mem_append_right _ hw))) 0 (by decide) (List.mem_of_getElem? (i := 1) rfl) rfl rfl hP dX5_people_1 ?_
  refine g_getN (Cn := RX4) (T := TX4) (N := 3) (v := .int (fI h (v0 + 1) 0)) (own := RX5) hx hb hown hts hK hN (lin_O (par_lin hv0)) rfl (fun _ hw => List.mem_cons_of_mem _ (List.mem_append_right _ hw)) 0 (by decide) (List.mem_of_getElem? (i := 8) rfl) rfl rfl hP dX5_people_4 ?_
  exact g_iret hx hb hr hlk hP hS (ret1 hf) dX5_people_7

def X5_has (h : HS) (v0 : Nat) (v1 : Int32) : Option Int32 :=
    (if v1 < 0 then
    some 0
    else
    (if 9 ≤ v1 then
    some 0
    else
    (if (fI h (v0 + 1) 0) ≤ v1 then
    some 0
    else
    some 1)))
def rmX5_has : Room := { frames := 0, cells := 0, slots := 0, locals := 0 }
theorem kdX5_has : yX5_has.cls = RX5 ∧ yX5_has.cls ≠ "java/lang/invoke/MethodHandle" ∧ yX5_has.cls ≠ "java/lang/invoke/VarHandle" ∧ (parseMethodDescriptor yX5_has.desc).map (fun d => d.parameters.length) = some 1 := by decide +kernel
set_option maxHeartbeats 4000000 in
set_option maxRecDepth 100000 in
theorem m_X5_has (l : Launch) (D : va_G) (a : Nat → Nat) (C : Nat → ClassId) (ha : ginj a) (h : HS) (v0 : Nat) (v1 : Int32) (hv0 : isPar v0) (r : Int32) (hf : X5_has h v0 v1 = some r) : gM l yX5_has wsX5_has rmX5_has D a C [.ref (a v0), .int v1] h (some (.int r)) h := by
  refine g_start (av := [.ref (a v0), .int v1]) (cc := cX5_has) (maxL := 2) (rt := (some .boolean)) (by decide) rfl (Nat.le_of_ble_eq_true rfl) ?_
  intro p e s m below meth c hx hb hr hml hown hlk hts hP hK hN ls hl
  have hA : ∀ q, gA a q → gA a q := fun _ q => q
  have hS : va_S (gA a) s.heap s.heap [] := va_S.rf
  have hl : lv_has ls 2 [(0, .ref (a v0)), (1, .int v1)] := hl
  unfold X5_has at hf
  refine lv_iload_n hx hb dX5_has_0 rfl (lv_at hl 1 rfl) ?_
  refine lv_if_lt (tgt := 25) hx hb dX5_has_1 (by decide) (fun c1 => ?_) (fun c1 => ?_)
  · have hf := if_t hf c1
    refine lv_iconst (v := 0) hx hb dX5_has_25 (by decide) ?_
    exact g_zret hx hb hr hlk (by decide) hP hS (ret1 hf) dX5_has_26
  · have hf := if_f hf c1
    refine lv_iload_n hx hb dX5_has_4 rfl (lv_at hl 1 rfl) ?_
    refine lv_bipush (v := 9) hx hb dX5_has_5 (by decide) ?_
    refine lv_icmp_ge (tgt := 25) hx hb dX5_has_7 (by decide) (fun c2 => ?_) (fun c2 => ?_)
    · have hf := if_t hf c2
      refine lv_iconst (v := 0) hx hb dX5_has_25 (by decide) ?_
      exact g_zret hx hb hr hlk (by decide) hP hS (ret1 hf) dX5_has_26
    · have hf := if_f hf c2
      refine lv_iload_n hx hb dX5_has_10 rfl (lv_at hl 1 rfl) ?_
      refine lv_aload_n hx hb dX5_has_11 rfl (lv_at hl 0 rfl) ?_
      refine g_get (Cn := RX5) (T := TX5) (N := 7) (v := .ref (a (v0 + 1))) (own := RX5) hx hb hown hts hK (par_O hv0) rfl (fun _ hw => List.mem_cons_of_mem _ (List.mem_append_left _ (List.mem_append_right _ hw))) 0 (by decide) (List.mem_of_getElem? (i := 1) rfl) rfl rfl hP dX5_has_12 ?_
      refine g_getN (Cn := RX4) (T := TX4) (N := 3) (v := .int (fI h (v0 + 1) 0)) (own := RX5) hx hb hown hts hK hN (lin_O (par_lin hv0)) rfl (fun _ hw => List.mem_cons_of_mem _ (List.mem_append_right _ hw)) 0 (by decide) (List.mem_of_getElem? (i := 8) rfl) rfl rfl hP dX5_has_15 ?_
      refine lv_icmp_ge (tgt := 25) hx hb dX5_has_18 (by decide) (fun c3 => ?_) (fun c3 => ?_)
      · have hf := if_t hf c3
        refine lv_iconst (v := 0) hx hb dX5_has_25 (by decide) ?_
        exact g_zret hx hb hr hlk (by decide) hP hS (ret1 hf) dX5_has_26
      · have hf := if_f hf c3
        refine lv_iconst (v := 1) hx hb dX5_has_21 (by decide) ?_
        refine lv_goto (tgt := 26) hx hb dX5_has_22 (by decide) ?_
        exact g_zret hx hb hr hlk (by decide) hP hS (ret1 hf) dX5_has_26

def X5_kindOf (h : HS) (v0 : Nat) (v1 : Int32) : Option Int32 :=
    (if v1 < 0 then
    some 0
    else
    (if 9 ≤ v1 then
    some 0
    else
    gdi v1 9 <|
    some (aI h (v0 + 13) v1.toNatClampNeg)))
def rmX5_kindOf : Room := { frames := 0, cells := 0, slots := 0, locals := 0 }
theorem kdX5_kindOf : yX5_kindOf.cls = RX5 ∧ yX5_kindOf.cls ≠ "java/lang/invoke/MethodHandle" ∧ yX5_kindOf.cls ≠ "java/lang/invoke/VarHandle" ∧ (parseMethodDescriptor yX5_kindOf.desc).map (fun d => d.parameters.length) = some 1 := by decide +kernel
set_option maxHeartbeats 4000000 in
set_option maxRecDepth 100000 in
theorem m_X5_kindOf (l : Launch) (D : va_G) (a : Nat → Nat) (C : Nat → ClassId) (ha : ginj a) (h : HS) (v0 : Nat) (v1 : Int32) (hv0 : isPar v0) (r : Int32) (hf : X5_kindOf h v0 v1 = some r) : gM l yX5_kindOf wsX5_kindOf rmX5_kindOf D a C [.ref (a v0), .int v1] h (some (.int r)) h := by
  refine g_start (av := [.ref (a v0), .int v1]) (cc := cX5_kindOf) (maxL := 2) (rt := (some .int)) (by decide) rfl (Nat.le_of_ble_eq_true rfl) ?_
  intro p e s m below meth c hx hb hr hml hown hlk hts hP hK hN ls hl
  have hA : ∀ q, gA a q → gA a q := fun _ q => q
  have hS : va_S (gA a) s.heap s.heap [] := va_S.rf
  have hl : lv_has ls 2 [(0, .ref (a v0)), (1, .int v1)] := hl
  unfold X5_kindOf at hf
  refine lv_iload_n hx hb dX5_kindOf_0 rfl (lv_at hl 1 rfl) ?_
  refine lv_if_lt (tgt := 22) hx hb dX5_kindOf_1 (by decide) (fun c1 => ?_) (fun c1 => ?_)
  · have hf := if_t hf c1
    refine lv_iconst (v := 0) hx hb dX5_kindOf_22 (by decide) ?_
    exact g_iret hx hb hr hlk hP hS (ret1 hf) dX5_kindOf_23
  · have hf := if_f hf c1
    refine lv_iload_n hx hb dX5_kindOf_4 rfl (lv_at hl 1 rfl) ?_
    refine lv_aload_n hx hb dX5_kindOf_5 rfl (lv_at hl 0 rfl) ?_
    refine g_get (Cn := RX5) (T := TX5) (N := 7) (v := .ref (a (v0 + 13))) (own := RX5) hx hb hown hts hK (par_O hv0) rfl (fun _ hw => List.mem_cons_of_mem _ (List.mem_append_right _ hw)) 2 (by decide) (List.mem_of_getElem? (i := 1) rfl) rfl rfl hP dX5_kindOf_6 ?_
    refine g_alenI (v := 9) hx hb hK (par_kd hv0) rfl hP dX5_kindOf_9 ?_
    refine lv_icmp_ge (tgt := 22) hx hb dX5_kindOf_10 (by decide) (fun c2 => ?_) (fun c2 => ?_)
    · have hf := if_t hf c2
      refine lv_iconst (v := 0) hx hb dX5_kindOf_22 (by decide) ?_
      exact g_iret hx hb hr hlk hP hS (ret1 hf) dX5_kindOf_23
    · have hf := if_f hf c2
      refine lv_aload_n hx hb dX5_kindOf_13 rfl (lv_at hl 0 rfl) ?_
      refine g_get (Cn := RX5) (T := TX5) (N := 7) (v := .ref (a (v0 + 13))) (own := RX5) hx hb hown hts hK (par_O hv0) rfl (fun _ hw => List.mem_cons_of_mem _ (List.mem_append_right _ hw)) 2 (by decide) (List.mem_of_getElem? (i := 1) rfl) rfl rfl hP dX5_kindOf_14 ?_
      refine lv_iload_n hx hb dX5_kindOf_17 rfl (lv_at hl 1 rfl) ?_
      obtain ⟨c3, hf⟩ := gdi_s hf
      refine g_ial hx hb hK (par_kd hv0) c3 hP dX5_kindOf_18 ?_
      refine lv_goto (tgt := 23) hx hb dX5_kindOf_19 (by decide) ?_
      exact g_iret hx hb hr hlk hP hS (ret1 hf) dX5_kindOf_23

def X5_figureOf (h : HS) (v0 : Nat) (v1 : Int32) : Option Int32 :=
    (if v1 < 0 then
    some 0
    else
    (if 9 ≤ v1 then
    some 0
    else
    gdi v1 9 <|
    some (aI h (v0 + 14) v1.toNatClampNeg)))
def rmX5_figureOf : Room := { frames := 0, cells := 0, slots := 0, locals := 0 }
theorem kdX5_figureOf : yX5_figureOf.cls = RX5 ∧ yX5_figureOf.cls ≠ "java/lang/invoke/MethodHandle" ∧ yX5_figureOf.cls ≠ "java/lang/invoke/VarHandle" ∧ (parseMethodDescriptor yX5_figureOf.desc).map (fun d => d.parameters.length) = some 1 := by decide +kernel
set_option maxHeartbeats 4000000 in
set_option maxRecDepth 100000 in
theorem m_X5_figureOf (l : Launch) (D : va_G) (a : Nat → Nat) (C : Nat → ClassId) (ha : ginj a) (h : HS) (v0 : Nat) (v1 : Int32) (hv0 : isPar v0) (r : Int32) (hf : X5_figureOf h v0 v1 = some r) : gM l yX5_figureOf wsX5_figureOf rmX5_figureOf D a C [.ref (a v0), .int v1] h (some (.int r)) h := by
  refine g_start (av := [.ref (a v0), .int v1]) (cc := cX5_figureOf) (maxL := 2) (rt := (some .int)) (by decide) rfl (Nat.le_of_ble_eq_true rfl) ?_
  intro p e s m below meth c hx hb hr hml hown hlk hts hP hK hN ls hl
  have hA : ∀ q, gA a q → gA a q := fun _ q => q
  have hS : va_S (gA a) s.heap s.heap [] := va_S.rf
  have hl : lv_has ls 2 [(0, .ref (a v0)), (1, .int v1)] := hl
  unfold X5_figureOf at hf
  refine lv_iload_n hx hb dX5_figureOf_0 rfl (lv_at hl 1 rfl) ?_
  refine lv_if_lt (tgt := 22) hx hb dX5_figureOf_1 (by decide) (fun c1 => ?_) (fun c1 => ?_)
  · have hf := if_t hf c1
    refine lv_iconst (v := 0) hx hb dX5_figureOf_22 (by decide) ?_
    exact g_iret hx hb hr hlk hP hS (ret1 hf) dX5_figureOf_23
  · have hf := if_f hf c1
    refine lv_iload_n hx hb dX5_figureOf_4 rfl (lv_at hl 1 rfl) ?_
    refine lv_aload_n hx hb dX5_figureOf_5 rfl (lv_at hl 0 rfl) ?_
    refine g_get (Cn := RX5) (T := TX5) (N := 7) (v := .ref (a (v0 + 14))) (own := RX5) hx hb hown hts hK (par_O hv0) rfl (fun _ hw => List.mem_cons_of_mem _ (List.mem_append_right _ hw)) 3 (by decide) (List.mem_of_getElem? (i := 1) rfl) rfl rfl hP dX5_figureOf_6 ?_
    refine g_alenI (v := 9) hx hb hK (par_fg hv0) rfl hP dX5_figureOf_9 ?_
    refine lv_icmp_ge (tgt := 22) hx hb dX5_figureOf_10 (by decide) (fun c2 => ?_) (fun c2 => ?_)
    · have hf := if_t hf c2
      refine lv_iconst (v := 0) hx hb dX5_figureOf_22 (by decide) ?_
      exact g_iret hx hb hr hlk hP hS (ret1 hf) dX5_figureOf_23
    · have hf := if_f hf c2
      refine lv_aload_n hx hb dX5_figureOf_13 rfl (lv_at hl 0 rfl) ?_
      refine g_get (Cn := RX5) (T := TX5) (N := 7) (v := .ref (a (v0 + 14))) (own := RX5) hx hb hown hts hK (par_O hv0) rfl (fun _ hw => List.mem_cons_of_mem _ (List.mem_append_right _ hw)) 3 (by decide) (List.mem_of_getElem? (i := 1) rfl) rfl rfl hP dX5_figureOf_14 ?_
      refine lv_iload_n hx hb dX5_figureOf_17 rfl (lv_at hl 1 rfl) ?_
      obtain ⟨c3, hf⟩ := gdi_s hf
      refine g_ial hx hb hK (par_fg hv0) c3 hP dX5_figureOf_18 ?_
      refine lv_goto (tgt := 23) hx hb dX5_figureOf_19 (by decide) ?_
      exact g_iret hx hb hr hlk hP hS (ret1 hf) dX5_figureOf_23

def X5_kindNamed (h : HS) (v0 : Nat) (v1 : Int32) : Option Nat :=
    (if v1 < 0 then
    gdi 0 8 <|
    some (v0 + 5 + (0 : Int32).toNatClampNeg)
    else
    (if 8 ≤ v1 then
    gdi 0 8 <|
    some (v0 + 5 + (0 : Int32).toNatClampNeg)
    else
    gdi v1 8 <|
    some (v0 + 5 + v1.toNatClampNeg)))
def rmX5_kindNamed : Room := { frames := 0, cells := 0, slots := 0, locals := 0 }
theorem kdX5_kindNamed : yX5_kindNamed.cls = RX5 ∧ yX5_kindNamed.cls ≠ "java/lang/invoke/MethodHandle" ∧ yX5_kindNamed.cls ≠ "java/lang/invoke/VarHandle" ∧ (parseMethodDescriptor yX5_kindNamed.desc).map (fun d => d.parameters.length) = some 1 := by decide +kernel
set_option maxHeartbeats 4000000 in
set_option maxRecDepth 100000 in
theorem m_X5_kindNamed (l : Launch) (D : va_G) (a : Nat → Nat) (C : Nat → ClassId) (ha : ginj a) (h : HS) (v0 : Nat) (v1 : Int32) (hv0 : isPar v0) (r : Nat) (hf : X5_kindNamed h v0 v1 = some r) : gM l yX5_kindNamed wsX5_kindNamed rmX5_kindNamed D a C [.ref (a v0), .int v1] h (some (.ref (a r))) h := by
  refine g_start (av := [.ref (a v0), .int v1]) (cc := cX5_kindNamed) (maxL := 2) (rt := (some (.object "MoreThanSheHas$Person"))) (by decide) rfl (Nat.le_of_ble_eq_true rfl) ?_
  intro p e s m below meth c hx hb hr hml hown hlk hts hP hK hN ls hl
  have hA : ∀ q, gA a q → gA a q := fun _ q => q
  have hS : va_S (gA a) s.heap s.heap [] := va_S.rf
  have hl : lv_has ls 2 [(0, .ref (a v0)), (1, .int v1)] := hl
  unfold X5_kindNamed at hf
  refine lv_iload_n hx hb dX5_kindNamed_0 rfl (lv_at hl 1 rfl) ?_
  refine lv_if_lt (tgt := 22) hx hb dX5_kindNamed_1 (by decide) (fun c1 => ?_) (fun c1 => ?_)
  · have hf := if_t hf c1
    refine lv_aload_n hx hb dX5_kindNamed_22 rfl (lv_at hl 0 rfl) ?_
    refine g_get (Cn := RX5) (T := TX5) (N := 7) (v := .ref (a (v0 + 4))) (own := RX5) hx hb hown hts hK (par_O hv0) rfl (fun _ hw => List.mem_cons_of_mem _ (List.mem_append_right _ hw)) 1 (by decide) (List.mem_of_getElem? (i := 1) rfl) rfl rfl hP dX5_kindNamed_23 ?_
    refine lv_iconst (v := 0) hx hb dX5_kindNamed_26 (by decide) ?_
    obtain ⟨c2, hf⟩ := gdi_s hf
    refine g_aalK (r := (v0 + 5 + (0 : Int32).toNatClampNeg)) hx hb hK (par_ks hv0) c2 (kn_at c2) hP dX5_kindNamed_27 ?_
    exact g_aretK hx hb hr hlk hP hS (ret1 hf) dX5_kindNamed_28
  · have hf := if_f hf c1
    refine lv_iload_n hx hb dX5_kindNamed_4 rfl (lv_at hl 1 rfl) ?_
    refine lv_aload_n hx hb dX5_kindNamed_5 rfl (lv_at hl 0 rfl) ?_
    refine g_get (Cn := RX5) (T := TX5) (N := 7) (v := .ref (a (v0 + 4))) (own := RX5) hx hb hown hts hK (par_O hv0) rfl (fun _ hw => List.mem_cons_of_mem _ (List.mem_append_right _ hw)) 1 (by decide) (List.mem_of_getElem? (i := 1) rfl) rfl rfl hP dX5_kindNamed_6 ?_
    refine g_alenK (v := 8) hx hb hK (par_ks hv0) rfl hP dX5_kindNamed_9 ?_
    refine lv_icmp_ge (tgt := 22) hx hb dX5_kindNamed_10 (by decide) (fun c3 => ?_) (fun c3 => ?_)
    · have hf := if_t hf c3
      refine lv_aload_n hx hb dX5_kindNamed_22 rfl (lv_at hl 0 rfl) ?_
      refine g_get (Cn := RX5) (T := TX5) (N := 7) (v := .ref (a (v0 + 4))) (own := RX5) hx hb hown hts hK (par_O hv0) rfl (fun _ hw => List.mem_cons_of_mem _ (List.mem_append_right _ hw)) 1 (by decide) (List.mem_of_getElem? (i := 1) rfl) rfl rfl hP dX5_kindNamed_23 ?_
      refine lv_iconst (v := 0) hx hb dX5_kindNamed_26 (by decide) ?_
      obtain ⟨c4, hf⟩ := gdi_s hf
      refine g_aalK (r := (v0 + 5 + (0 : Int32).toNatClampNeg)) hx hb hK (par_ks hv0) c4 (kn_at c4) hP dX5_kindNamed_27 ?_
      exact g_aretK hx hb hr hlk hP hS (ret1 hf) dX5_kindNamed_28
    · have hf := if_f hf c3
      refine lv_aload_n hx hb dX5_kindNamed_13 rfl (lv_at hl 0 rfl) ?_
      refine g_get (Cn := RX5) (T := TX5) (N := 7) (v := .ref (a (v0 + 4))) (own := RX5) hx hb hown hts hK (par_O hv0) rfl (fun _ hw => List.mem_cons_of_mem _ (List.mem_append_right _ hw)) 1 (by decide) (List.mem_of_getElem? (i := 1) rfl) rfl rfl hP dX5_kindNamed_14 ?_
      refine lv_iload_n hx hb dX5_kindNamed_17 rfl (lv_at hl 1 rfl) ?_
      obtain ⟨c5, hf⟩ := gdi_s hf
      refine g_aalK (r := (v0 + 5 + v1.toNatClampNeg)) hx hb hK (par_ks hv0) c5 (kn_at c5) hP dX5_kindNamed_18 ?_
      refine lv_goto (tgt := 28) hx hb dX5_kindNamed_19 (by decide) ?_
      exact g_aretK hx hb hr hlk hP hS (ret1 hf) dX5_kindNamed_28

theorem X5_kindNamed_ok {h : HS} {v0 : Nat} {v1 : Int32} {r : Nat} (hb : isPar v0) (hq : X5_kindNamed h v0 v1 = some r) : isKnd r := by
  unfold X5_kindNamed at hq
  by_cases c1 : v1 < 0
  · rw [if_pos c1] at hq
    obtain ⟨c3, hq⟩ := gdi_s hq
    rw [← Option.some.inj hq]; exact knd_of hb c3
  · rw [if_neg c1] at hq
    by_cases c2 : (8 : Int32) ≤ v1
    · rw [if_pos c2] at hq
      obtain ⟨c3, hq⟩ := gdi_s hq
      rw [← Option.some.inj hq]; exact knd_of hb c3
    · rw [if_neg c2] at hq
      obtain ⟨c3, hq⟩ := gdi_s hq
      rw [← Option.some.inj hq]; exact knd_of hb c3

def X5_isDeaf (h : HS) (v0 : Nat) (v1 : Int32) : Option Int32 :=
    (if (((fI h v0 5) >>> (v1 &&& 31)) &&& 1) = 0 then
    some 0
    else
    some 1)
def rmX5_isDeaf : Room := { frames := 0, cells := 0, slots := 0, locals := 0 }
theorem kdX5_isDeaf : yX5_isDeaf.cls = RX5 ∧ yX5_isDeaf.cls ≠ "java/lang/invoke/MethodHandle" ∧ yX5_isDeaf.cls ≠ "java/lang/invoke/VarHandle" ∧ (parseMethodDescriptor yX5_isDeaf.desc).map (fun d => d.parameters.length) = some 1 := by decide +kernel
set_option maxHeartbeats 4000000 in
set_option maxRecDepth 100000 in
theorem m_X5_isDeaf (l : Launch) (D : va_G) (a : Nat → Nat) (C : Nat → ClassId) (ha : ginj a) (h : HS) (v0 : Nat) (v1 : Int32) (hv0 : isPar v0) (r : Int32) (hf : X5_isDeaf h v0 v1 = some r) : gM l yX5_isDeaf wsX5_isDeaf rmX5_isDeaf D a C [.ref (a v0), .int v1] h (some (.int r)) h := by
  refine g_start (av := [.ref (a v0), .int v1]) (cc := cX5_isDeaf) (maxL := 2) (rt := (some .boolean)) (by decide) rfl (Nat.le_of_ble_eq_true rfl) ?_
  intro p e s m below meth c hx hb hr hml hown hlk hts hP hK hN ls hl
  have hA : ∀ q, gA a q → gA a q := fun _ q => q
  have hS : va_S (gA a) s.heap s.heap [] := va_S.rf
  have hl : lv_has ls 2 [(0, .ref (a v0)), (1, .int v1)] := hl
  unfold X5_isDeaf at hf
  refine lv_aload_n hx hb dX5_isDeaf_0 rfl (lv_at hl 0 rfl) ?_
  refine g_get (Cn := RX5) (T := TX5) (N := 7) (v := .int (fI h v0 5)) (own := RX5) hx hb hown hts hK (par_O hv0) rfl (fun _ hw => List.mem_cons_of_mem _ (List.mem_append_right _ hw)) 5 (by decide) (List.mem_of_getElem? (i := 1) rfl) rfl rfl hP dX5_isDeaf_1 ?_
  refine lv_iload_n hx hb dX5_isDeaf_4 rfl (lv_at hl 1 rfl) ?_
  refine lv_ishr hx hb dX5_isDeaf_5 ?_
  refine lv_iconst (v := 1) hx hb dX5_isDeaf_6 (by decide) ?_
  refine lv_iand hx hb dX5_isDeaf_7 ?_
  refine lv_if_eq (tgt := 15) hx hb dX5_isDeaf_8 (by decide) (fun c1 => ?_) (fun c1 => ?_)
  · have hf := if_t hf c1
    refine lv_iconst (v := 0) hx hb dX5_isDeaf_15 (by decide) ?_
    exact g_zret hx hb hr hlk (by decide) hP hS (ret1 hf) dX5_isDeaf_16
  · have hf := if_f hf c1
    refine lv_iconst (v := 1) hx hb dX5_isDeaf_11 (by decide) ?_
    refine lv_goto (tgt := 16) hx hb dX5_isDeaf_12 (by decide) ?_
    exact g_zret hx hb hr hlk (by decide) hP hS (ret1 hf) dX5_isDeaf_16

def X5_cardsOf (h : HS) (v0 : Nat) (v1 : Int32) : Option Int32 :=
    (X5_kindOf h v0 v1).bind fun q1 =>
    (X5_kindNamed h v0 q1).bind fun q2 =>
    (X5_figureOf h v0 v1).bind fun q3 =>
    (X4_number h (v0 + 1) v1).bind fun q4 =>
    (V_cards q2 q3 q4).bind fun q5 =>
    some q5
def rmX5_cardsOf : Room := { frames := 4, cells := 0, slots := 0, locals := 88 }
theorem kdX5_cardsOf : yX5_cardsOf.cls = RX5 ∧ yX5_cardsOf.cls ≠ "java/lang/invoke/MethodHandle" ∧ yX5_cardsOf.cls ≠ "java/lang/invoke/VarHandle" ∧ (parseMethodDescriptor yX5_cardsOf.desc).map (fun d => d.parameters.length) = some 1 := by decide +kernel
set_option maxHeartbeats 4000000 in
set_option maxRecDepth 100000 in
theorem m_X5_cardsOf (l : Launch) (D : va_G) (a : Nat → Nat) (C : Nat → ClassId) (ha : ginj a) (h : HS) (v0 : Nat) (v1 : Int32) (hv0 : isPar v0) (r : Int32) (hf : X5_cardsOf h v0 v1 = some r) : gM l yX5_cardsOf wsX5_cardsOf rmX5_cardsOf D a C [.ref (a v0), .int v1] h (some (.int r)) h := by
  refine g_start (av := [.ref (a v0), .int v1]) (cc := cX5_cardsOf) (maxL := 2) (rt := (some .int)) (by decide) rfl (Nat.le_of_ble_eq_true rfl) ?_
  intro p e s m below meth c hx hb hr hml hown hlk hts hP hK hN ls hl
  have hA : ∀ q, gA a q → gA a q := fun _ q => q
  have hS : va_S (gA a) s.heap s.heap [] := va_S.rf
  have hl : lv_has ls 2 [(0, .ref (a v0)), (1, .int v1)] := hl
  unfold X5_cardsOf at hf
  refine lv_aload_n hx hb dX5_cardsOf_0 rfl (lv_at hl 0 rfl) ?_
  refine lv_aload_n hx hb dX5_cardsOf_1 rfl (lv_at hl 0 rfl) ?_
  refine lv_iload_n hx hb dX5_cardsOf_2 rfl (lv_at hl 1 rfl) ?_
  obtain ⟨q1, hq1, hf⟩ := bind_s hf
  refine g_callV (As := [.int v1]) (rest := [.ref (a v0)]) hx hb hml hown hts hK hN (m_X5_kindOf l D a C ha h v0 v1 hv0 q1 hq1) (cwV 1 hts gX5_cardsOf_X5_kindOf rfl rfl rfl kdX5_kindOf ⟨Nat.le_of_ble_eq_true rfl, Nat.le_of_ble_eq_true rfl⟩) (par_O hv0) rfl rfl hP hS hA rfl hl.1 rfl (Nat.le_of_ble_eq_true rfl) dX5_cardsOf_3 ⟨Nat.le_refl _, Nat.le_refl _⟩ (fun H locs hP hS => ?_)
  refine W.eq (g2 := F0 m 6 ls [.int q1, .ref (a v0)]) rfl ?_
  obtain ⟨q2, hq2, hf⟩ := bind_s hf
  refine g_callV (As := [.int q1]) (rest := []) hx hb hml hown hts hK hN (m_X5_kindNamed l D a C ha h v0 q1 hv0 q2 hq2) (cwV 1 hts gX5_cardsOf_X5_kindNamed rfl rfl rfl kdX5_kindNamed ⟨Nat.le_of_ble_eq_true rfl, Nat.le_of_ble_eq_true rfl⟩) (par_O hv0) rfl rfl hP hS hA rfl hl.1 rfl (Nat.le_of_ble_eq_true rfl) dX5_cardsOf_6 ⟨Nat.le_refl _, Nat.le_refl _⟩ (fun H locs hP hS => ?_)
  refine W.eq (g2 := F0 m 9 ls [.ref (a q2)]) rfl ?_
  refine lv_aload_n hx hb dX5_cardsOf_9 rfl (lv_at hl 0 rfl) ?_
  refine lv_iload_n hx hb dX5_cardsOf_10 rfl (lv_at hl 1 rfl) ?_
  obtain ⟨q3, hq3, hf⟩ := bind_s hf
  refine g_callV (As := [.int v1]) (rest := [.ref (a q2)]) hx hb hml hown hts hK hN (m_X5_figureOf l D a C ha h v0 v1 hv0 q3 hq3) (cwV 1 hts gX5_cardsOf_X5_figureOf rfl rfl rfl kdX5_figureOf ⟨Nat.le_of_ble_eq_true rfl, Nat.le_of_ble_eq_true rfl⟩) (par_O hv0) rfl rfl hP hS hA rfl hl.1 rfl (Nat.le_of_ble_eq_true rfl) dX5_cardsOf_11 ⟨Nat.le_refl _, Nat.le_refl _⟩ (fun H locs hP hS => ?_)
  refine W.eq (g2 := F0 m 14 ls [.int q3, .ref (a q2)]) rfl ?_
  refine lv_aload_n hx hb dX5_cardsOf_14 rfl (lv_at hl 0 rfl) ?_
  refine g_get (Cn := RX5) (T := TX5) (N := 7) (v := .ref (a (v0 + 1))) (own := RX5) hx hb hown hts hK (par_O hv0) rfl (fun _ hw => List.mem_cons_of_mem _ (List.mem_append_left _ (List.mem_append_right _ hw))) 0 (by decide) (List.mem_of_getElem? (i := 1) rfl) rfl rfl hP dX5_cardsOf_15 ?_
  refine lv_iload_n hx hb dX5_cardsOf_18 rfl (lv_at hl 1 rfl) ?_
  obtain ⟨q4, hq4, hf⟩ := bind_s hf
  refine g_callV (As := [.int v1]) (rest := [.int q3, .ref (a q2)]) hx hb hml hown hts hK hN (m_X4_number l D a C ha h (v0 + 1) v1 (par_lin hv0) q4 hq4) (cwV 1 hts gX5_cardsOf_X4_number rfl rfl rfl kdX4_number ⟨Nat.le_of_ble_eq_true rfl, Nat.le_of_ble_eq_true rfl⟩) (lin_O (par_lin hv0)) rfl rfl hP hS hA rfl hl.1 rfl (Nat.le_of_ble_eq_true rfl) dX5_cardsOf_19 ⟨Nat.le_refl _, Nat.le_refl _⟩ (fun H locs hP hS => ?_)
  refine W.eq (g2 := F0 m 22 ls [.int q4, .int q3, .ref (a q2)]) rfl ?_
  obtain ⟨q5, hq5, hf⟩ := bind_s hf
  have kk : ∀ (H : Heap) (locs : List Loc), va_P D vwCl (gw a C h) H → va_S (gA a) s.heap H locs → W p l e (headSpec wsX5_cardsOf rmX5_cardsOf).room s m ([.ref (a v0), .int v1] : List Value).toArray below meth c H locs 0 0 (MQ below (gQ (some (.int r)) D a C h) ([.ref (a v0), .int v1] : List Value).toArray s 0 0 (gA a)) (F0 m 25 ls [.int q5]) := by
    intro H locs hP hS
    exact g_iret hx hb hr hlk hP hS (ret1 hf) dX5_cardsOf_25
  have hper := knd_per (X5_kindNamed_ok hv0 hq2)
  rcases V_cards_cases hper hq5 with ⟨ho, hv⟩ | ⟨ho, hv⟩ | ⟨ho, hv⟩ | ⟨ho, hv⟩ | ⟨ho, hv⟩ | ⟨ho, hv⟩ | ⟨ho, hv⟩ | ⟨ho, hv⟩
  · exact g_callV (As := [.int q3, .int q4]) (rest := []) hx hb hml hown hts hK hN (m_X6_cards l D a C ha h q2 hper q3 q4 q5 hv) (cwV 2 hts gX5_cardsOf_X6_cards rfl rfl rfl kdX6_cards ⟨Nat.le_of_ble_eq_true rfl, Nat.le_of_ble_eq_true rfl⟩) ho rfl rfl hP hS hA rfl hl.1 rfl (Nat.le_of_ble_eq_true rfl) dX5_cardsOf_22 ⟨Nat.le_refl _, Nat.le_refl _⟩ kk
  · exact g_callU (As := [.int q3, .int q4]) (rest := []) hx hb hml hown hts hK hN (m_X8_cards l D a C ha h q2 hper q3 q4 q5 hv) (va_cwO 2 hts gX5_cardsOf_X8_cards_u90X8 rfl rfl rfl (List.mem_of_getElem? (i := 58) rfl) kvcards ⟨Nat.le_of_ble_eq_true rfl, Nat.le_of_ble_eq_true rfl⟩) ho rfl rfl hP hS hA rfl hl.1 rfl (Nat.le_of_ble_eq_true rfl) dX5_cardsOf_22 ⟨Nat.le_refl _, Nat.le_refl _⟩ kk
  · exact g_callU (As := [.int q3, .int q4]) (rest := []) hx hb hml hown hts hK hN (m_X2_cards l D a C ha h q2 hper q3 q4 q5 hv) (va_cwO 2 hts gX5_cardsOf_X2_cards_u90X2 rfl rfl rfl (List.mem_of_getElem? (i := 58) rfl) kvcards ⟨Nat.le_of_ble_eq_true rfl, Nat.le_of_ble_eq_true rfl⟩) ho rfl rfl hP hS hA rfl hl.1 rfl (Nat.le_of_ble_eq_true rfl) dX5_cardsOf_22 ⟨Nat.le_refl _, Nat.le_refl _⟩ kk
  · exact g_callU (As := [.int q3, .int q4]) (rest := []) hx hb hml hown hts hK hN (m_X3_cards l D a C ha h q2 hper q3 q4 q5 hv) (va_cwO 2 hts gX5_cardsOf_X3_cards_u90X3 rfl rfl rfl (List.mem_of_getElem? (i := 58) rfl) kvcards ⟨Nat.le_of_ble_eq_true rfl, Nat.le_of_ble_eq_true rfl⟩) ho rfl rfl hP hS hA rfl hl.1 rfl (Nat.le_of_ble_eq_true rfl) dX5_cardsOf_22 ⟨Nat.le_refl _, Nat.le_refl _⟩ kk
  · exact g_callU (As := [.int q3, .int q4]) (rest := []) hx hb hml hown hts hK hN (m_X10_cards l D a C ha h q2 hper q3 q4 q5 hv) (va_cwO 2 hts gX5_cardsOf_X10_cards_u90X10 rfl rfl rfl (List.mem_of_getElem? (i := 58) rfl) kvcards ⟨Nat.le_of_ble_eq_true rfl, Nat.le_of_ble_eq_true rfl⟩) ho rfl rfl hP hS hA rfl hl.1 rfl (Nat.le_of_ble_eq_true rfl) dX5_cardsOf_22 ⟨Nat.le_refl _, Nat.le_refl _⟩ kk
  · exact g_callU (As := [.int q3, .int q4]) (rest := []) hx hb hml hown hts hK hN (m_X9_cards l D a C ha h q2 hper q3 q4 q5 hv) (va_cwO 2 hts gX5_cardsOf_X9_cards_u90X9 rfl rfl rfl (List.mem_of_getElem? (i := 58) rfl) kvcards ⟨Nat.le_of_ble_eq_true rfl, Nat.le_of_ble_eq_true rfl⟩) ho rfl rfl hP hS hA rfl hl.1 rfl (Nat.le_of_ble_eq_true rfl) dX5_cardsOf_22 ⟨Nat.le_refl _, Nat.le_refl _⟩ kk
  · exact g_callU (As := [.int q3, .int q4]) (rest := []) hx hb hml hown hts hK hN (m_X0_cards l D a C ha h q2 hper q3 q4 q5 hv) (va_cwO 2 hts gX5_cardsOf_X0_cards_u90X0 rfl rfl rfl (List.mem_of_getElem? (i := 58) rfl) kvcards ⟨Nat.le_of_ble_eq_true rfl, Nat.le_of_ble_eq_true rfl⟩) ho rfl rfl hP hS hA rfl hl.1 rfl (Nat.le_of_ble_eq_true rfl) dX5_cardsOf_22 ⟨Nat.le_refl _, Nat.le_refl _⟩ kk
  · exact g_callU (As := [.int q3, .int q4]) (rest := []) hx hb hml hown hts hK hN (m_X3_cards l D a C ha h q2 hper q3 q4 q5 hv) (va_cwO 2 hts gX5_cardsOf_X3_cards_u90X1 rfl rfl rfl (List.mem_of_getElem? (i := 58) rfl) kvcards ⟨Nat.le_of_ble_eq_true rfl, Nat.le_of_ble_eq_true rfl⟩) ho rfl rfl hP hS hA rfl hl.1 rfl (Nat.le_of_ble_eq_true rfl) dX5_cardsOf_22 ⟨Nat.le_refl _, Nat.le_refl _⟩ kk

def X5_allCards_B4 (h : HS) (v0 : Nat) : Nat → Int32 → Int32 → Option Int32
  | 0, _, _ => none
  | fu + 1, v1, v2 =>
    (X5_people h v0).bind fun q1 =>
    (if q1 ≤ v2 then
    some v1
    else
    (X5_cardsOf h v0 v2).bind fun q3 =>
    nm (v1 + q3) fun x4 =>
    nm (v2 + 1) fun x5 =>
    (X5_allCards_B4 h v0 fu) x4 x5)
def X5_allCards (h : HS) (v0 : Nat) : Option Int32 :=
    X5_allCards_B4 h v0 FU 0 0
def rmX5_allCards : Room := { frames := 5, cells := 0, slots := 0, locals := 109 }
theorem kdX5_allCards : yX5_allCards.cls = RX5 ∧ yX5_allCards.cls ≠ "java/lang/invoke/MethodHandle" ∧ yX5_allCards.cls ≠ "java/lang/invoke/VarHandle" ∧ (parseMethodDescriptor yX5_allCards.desc).map (fun d => d.parameters.length) = some 0 := by decide +kernel
set_option maxHeartbeats 4000000 in
set_option maxRecDepth 100000 in
theorem m_X5_allCards (l : Launch) (D : va_G) (a : Nat → Nat) (C : Nat → ClassId) (ha : ginj a) (h : HS) (v0 : Nat) (hv0 : isPar v0) (r : Int32) (hf : X5_allCards h v0 = some r) : gM l yX5_allCards wsX5_allCards rmX5_allCards D a C [.ref (a v0)] h (some (.int r)) h := by
  refine g_start (av := [.ref (a v0)]) (cc := cX5_allCards) (maxL := 3) (rt := (some .int)) (by decide) rfl (Nat.le_of_ble_eq_true rfl) ?_
  intro p e s m below meth c hx hb hr hml hown hlk hts hP hK hN ls hl
  have hA : ∀ q, gA a q → gA a q := fun _ q => q
  have hS : va_S (gA a) s.heap s.heap [] := va_S.rf
  have hl : lv_has ls 3 [(0, .ref (a v0))] := hl
  have J4 : ∀ (fu : Nat) (v1 : Int32) (v2 : Int32), X5_allCards_B4 h v0 fu v1 v2 = some r → gG p l e (headSpec wsX5_allCards rmX5_allCards).room s m ([.ref (a v0)] : List Value).toArray below meth c (MQ below (gQ (some (.int r)) D a C h) ([.ref (a v0)] : List Value).toArray s 0 0 (gA a)) D a C 3 h 4 [(0, .ref (a v0)), (1, .int v1), (2, .int v2)] [] := by
    intro fu
    induction fu with
    | zero => intro v1 v2 hf; exact absurd hf (by simp [X5_allCards_B4])
    | succ fu ih =>
      intro v1 v2 hf H locs ls hP hS hl
      rw [X5_allCards_B4] at hf
      refine lv_iload_n hx hb dX5_allCards_4 rfl (lv_at hl 2 rfl) ?_
      refine lv_aload_n hx hb dX5_allCards_5 rfl (lv_at hl 0 rfl) ?_
      obtain ⟨q1, hq1, hf⟩ := bind_s hf
      refine g_callV (As := []) (rest := [.int v2]) hx hb hml hown hts hK hN (m_X5_people l D a C ha h v0 hv0 q1 hq1) (cwV 0 hts gX5_allCards_X5_people rfl rfl rfl kdX5_people ⟨Nat.le_of_ble_eq_true rfl, Nat.le_of_ble_eq_true rfl⟩) (par_O hv0) rfl rfl hP hS hA rfl hl.1 rfl (Nat.le_of_ble_eq_true rfl) dX5_allCards_6 ⟨Nat.le_refl _, Nat.le_refl _⟩ (fun H locs hP hS => ?_)
      refine W.eq (g2 := F0 m 9 ls [.int q1, .int v2]) rfl ?_
      refine lv_icmp_ge (tgt := 26) hx hb dX5_allCards_9 (by decide) (fun c2 => ?_) (fun c2 => ?_)
      · have hf := if_t hf c2
        refine lv_iload_n hx hb dX5_allCards_26 rfl (lv_at hl 1 rfl) ?_
        exact g_iret hx hb hr hlk hP hS (ret1 hf) dX5_allCards_27
      · have hf := if_f hf c2
        refine lv_iload_n hx hb dX5_allCards_12 rfl (lv_at hl 1 rfl) ?_
        refine lv_aload_n hx hb dX5_allCards_13 rfl (lv_at hl 0 rfl) ?_
        refine lv_iload_n hx hb dX5_allCards_14 rfl (lv_at hl 2 rfl) ?_
        obtain ⟨q3, hq3, hf⟩ := bind_s hf
        refine g_callV (As := [.int v2]) (rest := [.int v1]) hx hb hml hown hts hK hN (m_X5_cardsOf l D a C ha h v0 v2 hv0 q3 hq3) (cwV 1 hts gX5_allCards_X5_cardsOf rfl rfl rfl kdX5_cardsOf ⟨Nat.le_of_ble_eq_true rfl, Nat.le_of_ble_eq_true rfl⟩) (par_O hv0) rfl rfl hP hS hA rfl hl.1 rfl (Nat.le_of_ble_eq_true rfl) dX5_allCards_15 ⟨Nat.le_refl _, Nat.le_refl _⟩ (fun H locs hP hS => ?_)
        refine W.eq (g2 := F0 m 18 ls [.int q3, .int v1]) rfl ?_
        refine lv_iadd hx hb dX5_allCards_18 ?_
        refine lv_topi (fun x4 ex4 => ?_)
        have hf := nm_s hf ex4
        refine lv_istore_n (lv' := [(1, .int x4), (0, .ref (a v0)), (2, .int v2)]) hx hb dX5_allCards_19 rfl hl (by decide) rfl (fun ls hl => ?_)
        obtain ⟨x5, ex5⟩ : ∃ y : Int32, y = (v2 + 1) := ⟨_, rfl⟩
        have hf := nm_s hf ex5
        refine lv_iinc (v := x5) (lv' := [(2, .int x5), (1, .int x4), (0, .ref (a v0))]) hx hb dX5_allCards_20 hl (k := 2) rfl (by rw [ex5]; rfl) (by decide) rfl (fun ls hl => ?_)
        refine lv_goto (tgt := 4) hx hb dX5_allCards_23 (by decide) ?_
        exact ih x4 x5 hf H locs ls hP hS (lv_sub hl [2, 1, 0] rfl)
  unfold X5_allCards at hf
  suffices hh : ∀ (H : Heap) (locs : List Loc), va_P D vwCl (gw a C h) H → va_S (gA a) s.heap H locs → W p l e (headSpec wsX5_allCards rmX5_allCards).room s m ([.ref (a v0)] : List Value).toArray below meth c H locs 0 0 (MQ below (gQ (some (.int r)) D a C h) ([.ref (a v0)] : List Value).toArray s 0 0 (gA a)) (F0 m 0 ls []) from hh _ _ hP hS
  intro H locs hP hS
  refine lv_iconst (v := 0) hx hb dX5_allCards_0 (by decide) ?_
  refine lv_istore_n (lv' := [(1, .int 0), (0, .ref (a v0))]) hx hb dX5_allCards_1 rfl hl (by decide) rfl (fun ls hl => ?_)
  refine lv_iconst (v := 0) hx hb dX5_allCards_2 (by decide) ?_
  refine lv_istore_n (lv' := [(2, .int 0), (1, .int 0), (0, .ref (a v0))]) hx hb dX5_allCards_3 rfl hl (by decide) rfl (fun ls hl => ?_)
  exact J4 FU 0 0 hf H locs ls hP hS (lv_sub hl [2, 1, 0] rfl)

def X5_change (h : HS) (v0 : Nat) (v1 : Int32) (v2 : Int32) (v3 : Int32) : Option (Int32 × HS) :=
    (X5_has h v0 v1).bind fun q1 =>
    (if q1 = 0 then
    some ((-1), h)
    else
    (X11_isKind v2).bind fun q3 =>
    (if q3 = 0 then
    some ((-1), h)
    else
    (X11_isFigure v3).bind fun q5 =>
    (if q5 = 0 then
    some ((-1), h)
    else
    gdi v1 9 <|
    nm (sA h (v0 + 13) (upd (aI h (v0 + 13)) v1.toNatClampNeg v2)) fun h7 =>
    gdi v1 9 <|
    nm (sA h7 (v0 + 14) (upd (aI h7 (v0 + 14)) v1.toNatClampNeg v3)) fun h9 =>
    nm (sF h9 v0 5 ((fI h9 v0 5) &&& (((1 : Int32) <<< (v1 &&& 31)) ^^^ (-1)))) fun h11 =>
    (X5_kindNamed h11 v0 v2).bind fun q12 =>
    (V_hearsNothing q12).bind fun q13 =>
    (if q13 = 0 then
    some (0, h11)
    else
    nm (sF h11 v0 5 ((fI h11 v0 5) ||| ((1 : Int32) <<< (v1 &&& 31)))) fun h15 =>
    nm (sF h15 v0 4 ((fI h15 v0 4) &&& (((1 : Int32) <<< (v1 &&& 31)) ^^^ (-1)))) fun h16 =>
    some (0, h16)))))
def rmX5_change : Room := { frames := 1, cells := 0, slots := 0, locals := 21 }
theorem kdX5_change : yX5_change.cls = RX5 ∧ yX5_change.cls ≠ "java/lang/invoke/MethodHandle" ∧ yX5_change.cls ≠ "java/lang/invoke/VarHandle" ∧ (parseMethodDescriptor yX5_change.desc).map (fun d => d.parameters.length) = some 3 := by decide +kernel
set_option maxHeartbeats 4000000 in
set_option maxRecDepth 100000 in
theorem m_X5_change (l : Launch) (D : va_G) (a : Nat → Nat) (C : Nat → ClassId) (ha : ginj a) (h : HS) (v0 : Nat) (v1 : Int32) (v2 : Int32) (v3 : Int32) (hv0 : isPar v0) (r : Int32) (h' : HS) (hf : X5_change h v0 v1 v2 v3 = some (r, h')) : gM l yX5_change wsX5_change rmX5_change D a C [.ref (a v0), .int v1, .int v2, .int v3] h (some (.int r)) h' := by
  refine g_start (av := [.ref (a v0), .int v1, .int v2, .int v3]) (cc := cX5_change) (maxL := 4) (rt := (some .int)) (by decide) rfl (Nat.le_of_ble_eq_true rfl) ?_
  intro p e s m below meth c hx hb hr hml hown hlk hts hP hK hN ls hl
  have hA : ∀ q, gA a q → gA a q := fun _ q => q
  have hS : va_S (gA a) s.heap s.heap [] := va_S.rf
  have hl : lv_has ls 4 [(0, .ref (a v0)), (1, .int v1), (2, .int v2), (3, .int v3)] := hl
  unfold X5_change at hf
  refine lv_aload_n hx hb dX5_change_0 rfl (lv_at hl 0 rfl) ?_
  refine lv_iload_n hx hb dX5_change_1 rfl (lv_at hl 1 rfl) ?_
  obtain ⟨q1, hq1, hf⟩ := bind_s hf
  refine g_callV (As := [.int v1]) (rest := []) hx hb hml hown hts hK hN (m_X5_has l D a C ha h v0 v1 hv0 q1 hq1) (cwV 1 hts gX5_change_X5_has rfl rfl rfl kdX5_has ⟨Nat.le_of_ble_eq_true rfl, Nat.le_of_ble_eq_true rfl⟩) (par_O hv0) rfl rfl hP hS hA rfl hl.1 rfl (Nat.le_of_ble_eq_true rfl) dX5_change_2 ⟨Nat.le_refl _, Nat.le_refl _⟩ (fun H locs hP hS => ?_)
  refine W.eq (g2 := F0 m 5 ls [.int q1]) rfl ?_
  refine lv_if_eq (tgt := 22) hx hb dX5_change_5 (by decide) (fun c2 => ?_) (fun c2 => ?_)
  · have hf := if_t hf c2
    refine lv_iconst (v := (-1)) hx hb dX5_change_22 (by decide) ?_
    exact g_iretW hx hb hr hlk hP hS (ret2 hf) dX5_change_23
  · have hf := if_f hf c2
    refine lv_iload_n hx hb dX5_change_8 rfl (lv_at hl 2 rfl) ?_
    obtain ⟨q3, hq3, hf⟩ := bind_s hf
    refine g_callSN (As := [.int v2]) (rest := []) hx hb hml hown hts hK hN (m_X11_isKind l D a C ha h v2  q3 hq3) (va_cnB 1 hts gX5_change_X11_isKind_n100 rfl rfl rfl (hN.2 _ (List.mem_of_getElem? (i := 6) rfl)) (hts _ (List.mem_of_getElem? (i := 12) rfl)) kdX11_isKind.2 ⟨Nat.le_of_ble_eq_true rfl, Nat.le_of_ble_eq_true rfl⟩) (hts _ (List.mem_of_getElem? (i := 11) rfl)) hP hS hA rfl hl.1 rfl (Nat.le_of_ble_eq_true rfl) dX5_change_9 ⟨Nat.le_refl _, Nat.le_refl _⟩ (fun H locs hP hS => ?_)
    refine W.eq (g2 := F0 m 12 ls [.int q3]) rfl ?_
    refine lv_if_eq (tgt := 22) hx hb dX5_change_12 (by decide) (fun c4 => ?_) (fun c4 => ?_)
    · have hf := if_t hf c4
      refine lv_iconst (v := (-1)) hx hb dX5_change_22 (by decide) ?_
      exact g_iretW hx hb hr hlk hP hS (ret2 hf) dX5_change_23
    · have hf := if_f hf c4
      refine lv_iload_n hx hb dX5_change_15 rfl (lv_at hl 3 rfl) ?_
      obtain ⟨q5, hq5, hf⟩ := bind_s hf
      refine g_callSN (As := [.int v3]) (rest := []) hx hb hml hown hts hK hN (m_X11_isFigure l D a C ha h v3  q5 hq5) (va_cnB 1 hts gX5_change_X11_isFigure_n104 rfl rfl rfl (hN.2 _ (List.mem_of_getElem? (i := 7) rfl)) (hts _ (List.mem_of_getElem? (i := 12) rfl)) kdX11_isFigure.2 ⟨Nat.le_of_ble_eq_true rfl, Nat.le_of_ble_eq_true rfl⟩) (hts _ (List.mem_of_getElem? (i := 14) rfl)) hP hS hA rfl hl.1 rfl (Nat.le_of_ble_eq_true rfl) dX5_change_16 ⟨Nat.le_refl _, Nat.le_refl _⟩ (fun H locs hP hS => ?_)
      refine W.eq (g2 := F0 m 19 ls [.int q5]) rfl ?_
      refine lv_if_ne (tgt := 24) hx hb dX5_change_19 (by decide) (fun c6 => ?_) (fun c6 => ?_)
      · have hf := if_f hf c6
        refine lv_aload_n hx hb dX5_change_24 rfl (lv_at hl 0 rfl) ?_
        refine g_get (Cn := RX5) (T := TX5) (N := 7) (v := .ref (a (v0 + 13))) (own := RX5) hx hb hown hts hK (par_O hv0) rfl (fun _ hw => List.mem_cons_of_mem _ (List.mem_append_left _ (List.mem_append_right _ hw))) 2 (by decide) (List.mem_of_getElem? (i := 1) rfl) rfl rfl hP dX5_change_25 ?_
        refine lv_iload_n hx hb dX5_change_28 rfl (lv_at hl 1 rfl) ?_
        refine lv_iload_n hx hb dX5_change_29 rfl (lv_at hl 2 rfl) ?_
        obtain ⟨c8, hf⟩ := gdi_s hf
        refine g_ias hx hb hK ha hA (par_kd hv0) c8 hP hS dX5_change_30 (fun H locs hP hS => ?_)
        obtain ⟨h7, eh7⟩ : ∃ x, x = (sA h (v0 + 13) (upd (aI h (v0 + 13)) v1.toNatClampNeg v2)) := ⟨_, rfl⟩
        rw [← eh7] at hP
        have hf := nm_s hf eh7
        refine lv_aload_n hx hb dX5_change_31 rfl (lv_at hl 0 rfl) ?_
        refine g_get (Cn := RX5) (T := TX5) (N := 7) (v := .ref (a (v0 + 14))) (own := RX5) hx hb hown hts hK (par_O hv0) rfl (fun _ hw => List.mem_cons_of_mem _ (List.mem_append_left _ (List.mem_append_right _ hw))) 3 (by decide) (List.mem_of_getElem? (i := 2) rfl) rfl rfl hP dX5_change_32 ?_
        refine lv_iload_n hx hb dX5_change_35 rfl (lv_at hl 1 rfl) ?_
        refine lv_iload_n hx hb dX5_change_36 rfl (lv_at hl 3 rfl) ?_
        obtain ⟨c10, hf⟩ := gdi_s hf
        refine g_ias hx hb hK ha hA (par_fg hv0) c10 hP hS dX5_change_37 (fun H locs hP hS => ?_)
        obtain ⟨h9, eh9⟩ : ∃ x, x = (sA h7 (v0 + 14) (upd (aI h7 (v0 + 14)) v1.toNatClampNeg v3)) := ⟨_, rfl⟩
        rw [← eh9] at hP
        have hf := nm_s hf eh9
        refine lv_aload_n hx hb dX5_change_38 rfl (lv_at hl 0 rfl) ?_
        refine lv_dup hx hb dX5_change_39 rfl ?_
        refine g_get (Cn := RX5) (T := TX5) (N := 7) (v := .int (fI h9 v0 5)) (own := RX5) hx hb hown hts hK (par_O hv0) rfl (fun _ hw => List.mem_cons_of_mem _ (List.mem_append_left _ (List.mem_append_right _ hw))) 5 (by decide) (List.mem_of_getElem? (i := 3) rfl) rfl rfl hP dX5_change_40 ?_
        refine lv_iconst (v := 1) hx hb dX5_change_43 (by decide) ?_
        refine lv_iload_n hx hb dX5_change_44 rfl (lv_at hl 1 rfl) ?_
        refine lv_ishl hx hb dX5_change_45 ?_
        refine lv_iconst (v := (-1)) hx hb dX5_change_46 (by decide) ?_
        refine lv_ixor hx hb dX5_change_47 ?_
        refine lv_iand hx hb dX5_change_48 ?_
        refine g_put (Cn := RX5) (T := TX5) (N := 7) (ty0 := tyX5) (own := RX5) hx hb hown hts hK ha hA (par_O hv0) rfl (fun _ hw => List.mem_cons_of_mem _ (List.mem_append_left _ (List.mem_append_right _ hw))) tyX5_ok nmX5 5 (by decide) (List.mem_of_getElem? (i := 3) rfl) rfl rfl rfl rfl rfl hP hS dX5_change_49 (fun H locs hP hS => ?_)
        obtain ⟨h11, eh11⟩ : ∃ x, x = (sF h9 v0 5 ((fI h9 v0 5) &&& (((1 : Int32) <<< (v1 &&& 31)) ^^^ (-1)))) := ⟨_, rfl⟩
        rw [← eh11] at hP
        have hf := nm_s hf eh11
        refine lv_aload_n hx hb dX5_change_52 rfl (lv_at hl 0 rfl) ?_
        refine lv_iload_n hx hb dX5_change_53 rfl (lv_at hl 2 rfl) ?_
        obtain ⟨q12, hq12, hf⟩ := bind_s hf
        refine g_callV (As := [.int v2]) (rest := []) hx hb hml hown hts hK hN (m_X5_kindNamed l D a C ha h11 v0 v2 hv0 q12 hq12) (cwV 1 hts gX5_change_X5_kindNamed rfl rfl rfl kdX5_kindNamed ⟨Nat.le_of_ble_eq_true rfl, Nat.le_of_ble_eq_true rfl⟩) (par_O hv0) rfl rfl hP hS hA rfl hl.1 rfl (Nat.le_of_ble_eq_true rfl) dX5_change_54 ⟨Nat.le_refl _, Nat.le_refl _⟩ (fun H locs hP hS => ?_)
        refine W.eq (g2 := F0 m 57 ls [.ref (a q12)]) rfl ?_
        obtain ⟨q13, hq13, hf⟩ := bind_s hf
        have kk : ∀ (H : Heap) (locs : List Loc), va_P D vwCl (gw a C h11) H → va_S (gA a) s.heap H locs → W p l e (headSpec wsX5_change rmX5_change).room s m ([.ref (a v0), .int v1, .int v2, .int v3] : List Value).toArray below meth c H locs 0 0 (MQ below (gQ (some (.int r)) D a C h') ([.ref (a v0), .int v1, .int v2, .int v3] : List Value).toArray s 0 0 (gA a)) (F0 m 60 ls [.int q13]) := by
          intro H locs hP hS
          refine lv_if_eq (tgt := 89) hx hb dX5_change_60 (by decide) (fun c14 => ?_) (fun c14 => ?_)
          · have hf := if_t hf c14
            refine lv_iconst (v := 0) hx hb dX5_change_89 (by decide) ?_
            exact g_iretW hx hb hr hlk hP hS (ret2 hf) dX5_change_90
          · have hf := if_f hf c14
            refine lv_aload_n hx hb dX5_change_63 rfl (lv_at hl 0 rfl) ?_
            refine lv_dup hx hb dX5_change_64 rfl ?_
            refine g_get (Cn := RX5) (T := TX5) (N := 7) (v := .int (fI h11 v0 5)) (own := RX5) hx hb hown hts hK (par_O hv0) rfl (fun _ hw => List.mem_cons_of_mem _ (List.mem_append_left _ (List.mem_append_right _ hw))) 5 (by decide) (List.mem_of_getElem? (i := 3) rfl) rfl rfl hP dX5_change_65 ?_
            refine lv_iconst (v := 1) hx hb dX5_change_68 (by decide) ?_
            refine lv_iload_n hx hb dX5_change_69 rfl (lv_at hl 1 rfl) ?_
            refine lv_ishl hx hb dX5_change_70 ?_
            refine lv_ior hx hb dX5_change_71 ?_
            refine g_put (Cn := RX5) (T := TX5) (N := 7) (ty0 := tyX5) (own := RX5) hx hb hown hts hK ha hA (par_O hv0) rfl (fun _ hw => List.mem_cons_of_mem _ (List.mem_append_left _ (List.mem_append_right _ hw))) tyX5_ok nmX5 5 (by decide) (List.mem_of_getElem? (i := 3) rfl) rfl rfl rfl rfl rfl hP hS dX5_change_72 (fun H locs hP hS => ?_)
            obtain ⟨h15, eh15⟩ : ∃ x, x = (sF h11 v0 5 ((fI h11 v0 5) ||| ((1 : Int32) <<< (v1 &&& 31)))) := ⟨_, rfl⟩
            rw [← eh15] at hP
            have hf := nm_s hf eh15
            refine lv_aload_n hx hb dX5_change_75 rfl (lv_at hl 0 rfl) ?_
            refine lv_dup hx hb dX5_change_76 rfl ?_
            refine g_get (Cn := RX5) (T := TX5) (N := 7) (v := .int (fI h15 v0 4)) (own := RX5) hx hb hown hts hK (par_O hv0) rfl (fun _ hw => List.mem_cons_of_mem _ (List.mem_append_left _ (List.mem_append_right _ hw))) 4 (by decide) (List.mem_of_getElem? (i := 4) rfl) rfl rfl hP dX5_change_77 ?_
            refine lv_iconst (v := 1) hx hb dX5_change_80 (by decide) ?_
            refine lv_iload_n hx hb dX5_change_81 rfl (lv_at hl 1 rfl) ?_
            refine lv_ishl hx hb dX5_change_82 ?_
            refine lv_iconst (v := (-1)) hx hb dX5_change_83 (by decide) ?_
            refine lv_ixor hx hb dX5_change_84 ?_
            refine lv_iand hx hb dX5_change_85 ?_
            refine g_put (Cn := RX5) (T := TX5) (N := 7) (ty0 := tyX5) (own := RX5) hx hb hown hts hK ha hA (par_O hv0) rfl (fun _ hw => List.mem_cons_of_mem _ (List.mem_append_left _ (List.mem_append_right _ hw))) tyX5_ok nmX5 4 (by decide) (List.mem_of_getElem? (i := 4) rfl) rfl rfl rfl rfl rfl hP hS dX5_change_86 (fun H locs hP hS => ?_)
            obtain ⟨h16, eh16⟩ : ∃ x, x = (sF h15 v0 4 ((fI h15 v0 4) &&& (((1 : Int32) <<< (v1 &&& 31)) ^^^ (-1)))) := ⟨_, rfl⟩
            rw [← eh16] at hP
            have hf := nm_s hf eh16
            refine lv_iconst (v := 0) hx hb dX5_change_89 (by decide) ?_
            exact g_iretW hx hb hr hlk hP hS (ret2 hf) dX5_change_90
        have hper := knd_per (X5_kindNamed_ok hv0 hq12)
        rcases V_hearsNothing_cases hper hq13 with ⟨ho, hv⟩ | ⟨ho, hv⟩ | ⟨ho, hv⟩ | ⟨ho, hv⟩ | ⟨ho, hv⟩ | ⟨ho, hv⟩ | ⟨ho, hv⟩ | ⟨ho, hv⟩
        · exact g_callV (As := []) (rest := []) hx hb hml hown hts hK hN (m_X6_hearsNothing l D a C ha h11 q12 hper  q13 hv) (cwV 0 hts gX5_change_X6_hearsNothing rfl rfl rfl kdX6_hearsNothing ⟨Nat.le_of_ble_eq_true rfl, Nat.le_of_ble_eq_true rfl⟩) ho rfl rfl hP hS hA rfl hl.1 rfl (Nat.le_of_ble_eq_true rfl) dX5_change_57 ⟨Nat.le_refl _, Nat.le_refl _⟩ kk
        · exact g_callU (As := []) (rest := []) hx hb hml hown hts hK hN (m_X6_hearsNothing l D a C ha h11 q12 hper  q13 hv) (va_cwU 0 hts gX5_change_X6_hearsNothing_u114X8 rfl rfl rfl rfl kvhearsNothing ⟨Nat.le_of_ble_eq_true rfl, Nat.le_of_ble_eq_true rfl⟩) ho rfl rfl hP hS hA rfl hl.1 rfl (Nat.le_of_ble_eq_true rfl) dX5_change_57 ⟨Nat.le_refl _, Nat.le_refl _⟩ kk
        · exact g_callU (As := []) (rest := []) hx hb hml hown hts hK hN (m_X6_hearsNothing l D a C ha h11 q12 hper  q13 hv) (va_cwU 0 hts gX5_change_X6_hearsNothing_u114X2 rfl rfl rfl rfl kvhearsNothing ⟨Nat.le_of_ble_eq_true rfl, Nat.le_of_ble_eq_true rfl⟩) ho rfl rfl hP hS hA rfl hl.1 rfl (Nat.le_of_ble_eq_true rfl) dX5_change_57 ⟨Nat.le_refl _, Nat.le_refl _⟩ kk
        · exact g_callU (As := []) (rest := []) hx hb hml hown hts hK hN (m_X6_hearsNothing l D a C ha h11 q12 hper  q13 hv) (va_cwU 0 hts gX5_change_X6_hearsNothing_u114X3 rfl rfl rfl rfl kvhearsNothing ⟨Nat.le_of_ble_eq_true rfl, Nat.le_of_ble_eq_true rfl⟩) ho rfl rfl hP hS hA rfl hl.1 rfl (Nat.le_of_ble_eq_true rfl) dX5_change_57 ⟨Nat.le_refl _, Nat.le_refl _⟩ kk
        · exact g_callU (As := []) (rest := []) hx hb hml hown hts hK hN (m_X6_hearsNothing l D a C ha h11 q12 hper  q13 hv) (va_cwU 0 hts gX5_change_X6_hearsNothing_u114X10 rfl rfl rfl rfl kvhearsNothing ⟨Nat.le_of_ble_eq_true rfl, Nat.le_of_ble_eq_true rfl⟩) ho rfl rfl hP hS hA rfl hl.1 rfl (Nat.le_of_ble_eq_true rfl) dX5_change_57 ⟨Nat.le_refl _, Nat.le_refl _⟩ kk
        · exact g_callU (As := []) (rest := []) hx hb hml hown hts hK hN (m_X6_hearsNothing l D a C ha h11 q12 hper  q13 hv) (va_cwU 0 hts gX5_change_X6_hearsNothing_u114X9 rfl rfl rfl rfl kvhearsNothing ⟨Nat.le_of_ble_eq_true rfl, Nat.le_of_ble_eq_true rfl⟩) ho rfl rfl hP hS hA rfl hl.1 rfl (Nat.le_of_ble_eq_true rfl) dX5_change_57 ⟨Nat.le_refl _, Nat.le_refl _⟩ kk
        · exact g_callU (As := []) (rest := []) hx hb hml hown hts hK hN (m_X6_hearsNothing l D a C ha h11 q12 hper  q13 hv) (va_cwU 0 hts gX5_change_X6_hearsNothing_u114X0 rfl rfl rfl rfl kvhearsNothing ⟨Nat.le_of_ble_eq_true rfl, Nat.le_of_ble_eq_true rfl⟩) ho rfl rfl hP hS hA rfl hl.1 rfl (Nat.le_of_ble_eq_true rfl) dX5_change_57 ⟨Nat.le_refl _, Nat.le_refl _⟩ kk
        · exact g_callU (As := []) (rest := []) hx hb hml hown hts hK hN (m_X1_hearsNothing l D a C ha h11 q12 hper  q13 hv) (va_cwO 0 hts gX5_change_X1_hearsNothing_u114X1 rfl rfl rfl (List.mem_of_getElem? (i := 26) rfl) kvhearsNothing ⟨Nat.le_of_ble_eq_true rfl, Nat.le_of_ble_eq_true rfl⟩) ho rfl rfl hP hS hA rfl hl.1 rfl (Nat.le_of_ble_eq_true rfl) dX5_change_57 ⟨Nat.le_refl _, Nat.le_refl _⟩ kk
      · have hf := if_t hf c6
        refine lv_iconst (v := (-1)) hx hb dX5_change_22 (by decide) ?_
        exact g_iretW hx hb hr hlk hP hS (ret2 hf) dX5_change_23

def X5_arrive (h : HS) (v0 : Nat) (v1 : Int32) (v2 : Int32) : Option (Int32 × HS) :=
    (X11_isKind v1).bind fun q1 =>
    (if q1 = 0 then
    some ((-1), h)
    else
    (X11_isFigure v2).bind fun q3 =>
    (if q3 = 0 then
    some ((-1), h)
    else
    (if (fI h (v0 + 1) 0) < 9 then
    nm (fI h (v0 + 1) 0) fun x6 =>
    nm (sF h (v0 + 1) 0 ((fI h (v0 + 1) 0) + 1)) fun h7 =>
    (X5_change h7 v0 x6 v1 v2).bind fun q8 =>
    some (x6, q8.2)
    else
    some ((-2), h))))
def rmX5_arrive : Room := { frames := 2, cells := 0, slots := 0, locals := 44 }
theorem kdX5_arrive : yX5_arrive.cls = RX5 ∧ yX5_arrive.cls ≠ "java/lang/invoke/MethodHandle" ∧ yX5_arrive.cls ≠ "java/lang/invoke/VarHandle" ∧ (parseMethodDescriptor yX5_arrive.desc).map (fun d => d.parameters.length) = some 2 := by decide +kernel
set_option maxHeartbeats 4000000 in
set_option maxRecDepth 100000 in
theorem m_X5_arrive (l : Launch) (D : va_G) (a : Nat → Nat) (C : Nat → ClassId) (ha : ginj a) (h : HS) (v0 : Nat) (v1 : Int32) (v2 : Int32) (hv0 : isPar v0) (r : Int32) (h' : HS) (hf : X5_arrive h v0 v1 v2 = some (r, h')) : gM l yX5_arrive wsX5_arrive rmX5_arrive D a C [.ref (a v0), .int v1, .int v2] h (some (.int r)) h' := by
  refine g_start (av := [.ref (a v0), .int v1, .int v2]) (cc := cX5_arrive) (maxL := 4) (rt := (some .int)) (by decide) rfl (Nat.le_of_ble_eq_true rfl) ?_
  intro p e s m below meth c hx hb hr hml hown hlk hts hP hK hN ls hl
  have hA : ∀ q, gA a q → gA a q := fun _ q => q
  have hS : va_S (gA a) s.heap s.heap [] := va_S.rf
  have hl : lv_has ls 4 [(0, .ref (a v0)), (1, .int v1), (2, .int v2)] := hl
  unfold X5_arrive at hf
  refine lv_iload_n hx hb dX5_arrive_0 rfl (lv_at hl 1 rfl) ?_
  obtain ⟨q1, hq1, hf⟩ := bind_s hf
  refine g_callSN (As := [.int v1]) (rest := []) hx hb hml hown hts hK hN (m_X11_isKind l D a C ha h v1  q1 hq1) (va_cnB 1 hts gX5_arrive_X11_isKind_n100 rfl rfl rfl (hN.2 _ (List.mem_of_getElem? (i := 6) rfl)) (hts _ (List.mem_of_getElem? (i := 3) rfl)) kdX11_isKind.2 ⟨Nat.le_of_ble_eq_true rfl, Nat.le_of_ble_eq_true rfl⟩) (hts _ (List.mem_of_getElem? (i := 2) rfl)) hP hS hA rfl hl.1 rfl (Nat.le_of_ble_eq_true rfl) dX5_arrive_1 ⟨Nat.le_refl _, Nat.le_refl _⟩ (fun H locs hP hS => ?_)
  refine W.eq (g2 := F0 m 4 ls [.int q1]) rfl ?_
  refine lv_if_eq (tgt := 14) hx hb dX5_arrive_4 (by decide) (fun c2 => ?_) (fun c2 => ?_)
  · have hf := if_t hf c2
    refine lv_iconst (v := (-1)) hx hb dX5_arrive_14 (by decide) ?_
    exact g_iretW hx hb hr hlk hP hS (ret2 hf) dX5_arrive_15
  · have hf := if_f hf c2
    refine lv_iload_n hx hb dX5_arrive_7 rfl (lv_at hl 2 rfl) ?_
    obtain ⟨q3, hq3, hf⟩ := bind_s hf
    refine g_callSN (As := [.int v2]) (rest := []) hx hb hml hown hts hK hN (m_X11_isFigure l D a C ha h v2  q3 hq3) (va_cnB 1 hts gX5_arrive_X11_isFigure_n104 rfl rfl rfl (hN.2 _ (List.mem_of_getElem? (i := 7) rfl)) (hts _ (List.mem_of_getElem? (i := 3) rfl)) kdX11_isFigure.2 ⟨Nat.le_of_ble_eq_true rfl, Nat.le_of_ble_eq_true rfl⟩) (hts _ (List.mem_of_getElem? (i := 5) rfl)) hP hS hA rfl hl.1 rfl (Nat.le_of_ble_eq_true rfl) dX5_arrive_8 ⟨Nat.le_refl _, Nat.le_refl _⟩ (fun H locs hP hS => ?_)
    refine W.eq (g2 := F0 m 11 ls [.int q3]) rfl ?_
    refine lv_if_ne (tgt := 16) hx hb dX5_arrive_11 (by decide) (fun c4 => ?_) (fun c4 => ?_)
    · have hf := if_f hf c4
      refine lv_aload_n hx hb dX5_arrive_16 rfl (lv_at hl 0 rfl) ?_
      refine g_get (Cn := RX5) (T := TX5) (N := 7) (v := .ref (a (v0 + 1))) (own := RX5) hx hb hown hts hK (par_O hv0) rfl (fun _ hw => List.mem_cons_of_mem _ (List.mem_append_left _ (List.mem_append_right _ hw))) 0 (by decide) (List.mem_of_getElem? (i := 1) rfl) rfl rfl hP dX5_arrive_17 ?_
      refine g_getN (Cn := RX4) (T := TX4) (N := 3) (v := .int (fI h (v0 + 1) 0)) (own := RX5) hx hb hown hts hK hN (lin_O (par_lin hv0)) rfl (fun _ hw => List.mem_cons_of_mem _ (List.mem_append_right _ hw)) 0 (by decide) (List.mem_of_getElem? (i := 8) rfl) rfl rfl hP dX5_arrive_20 ?_
      refine lv_bipush (v := 9) hx hb dX5_arrive_23 (by decide) ?_
      refine lv_icmp_lt (tgt := 31) hx hb dX5_arrive_25 (by decide) (fun c5 => ?_) (fun c5 => ?_)
      · have hf := if_t hf c5
        refine lv_aload_n hx hb dX5_arrive_31 rfl (lv_at hl 0 rfl) ?_
        refine g_get (Cn := RX5) (T := TX5) (N := 7) (v := .ref (a (v0 + 1))) (own := RX5) hx hb hown hts hK (par_O hv0) rfl (fun _ hw => List.mem_cons_of_mem _ (List.mem_append_left _ (List.mem_append_right _ hw))) 0 (by decide) (List.mem_of_getElem? (i := 1) rfl) rfl rfl hP dX5_arrive_32 ?_
        refine g_getN (Cn := RX4) (T := TX4) (N := 3) (v := .int (fI h (v0 + 1) 0)) (own := RX5) hx hb hown hts hK hN (lin_O (par_lin hv0)) rfl (fun _ hw => List.mem_cons_of_mem _ (List.mem_append_right _ hw)) 0 (by decide) (List.mem_of_getElem? (i := 8) rfl) rfl rfl hP dX5_arrive_35 ?_
        refine lv_topi (fun x6 ex6 => ?_)
        have hf := nm_s hf ex6
        refine lv_istore_n (lv' := [(3, .int x6), (0, .ref (a v0)), (1, .int v1), (2, .int v2)]) hx hb dX5_arrive_38 rfl hl (by decide) rfl (fun ls hl => ?_)
        refine lv_aload_n hx hb dX5_arrive_39 rfl (lv_at hl 1 rfl) ?_
        refine g_get (Cn := RX5) (T := TX5) (N := 7) (v := .ref (a (v0 + 1))) (own := RX5) hx hb hown hts hK (par_O hv0) rfl (fun _ hw => List.mem_cons_of_mem _ (List.mem_append_left _ (List.mem_append_right _ hw))) 0 (by decide) (List.mem_of_getElem? (i := 1) rfl) rfl rfl hP dX5_arrive_40 ?_
        refine lv_dup hx hb dX5_arrive_43 rfl ?_
        refine g_getN (Cn := RX4) (T := TX4) (N := 3) (v := .int (fI h (v0 + 1) 0)) (own := RX5) hx hb hown hts hK hN (lin_O (par_lin hv0)) rfl (fun _ hw => List.mem_cons_of_mem _ (List.mem_append_right _ hw)) 0 (by decide) (List.mem_of_getElem? (i := 8) rfl) rfl rfl hP dX5_arrive_44 ?_
        refine lv_iconst (v := 1) hx hb dX5_arrive_47 (by decide) ?_
        refine lv_iadd hx hb dX5_arrive_48 ?_
        refine g_putN (Cn := RX4) (T := TX4) (N := 3) (ty0 := tyX4) (own := RX5) hx hb hown hts hK hN ha hA (lin_O (par_lin hv0)) rfl (fun _ hw => List.mem_cons_of_mem _ (List.mem_append_right _ hw)) tyX4_ok nmX4 0 (by decide) (List.mem_of_getElem? (i := 8) rfl) rfl rfl rfl rfl rfl hP hS dX5_arrive_49 (fun H locs hP hS => ?_)
        obtain ⟨h7, eh7⟩ : ∃ x, x = (sF h (v0 + 1) 0 ((fI h (v0 + 1) 0) + 1)) := ⟨_, rfl⟩
        rw [← eh7] at hP
        have hf := nm_s hf eh7
        refine lv_aload_n hx hb dX5_arrive_52 rfl (lv_at hl 1 rfl) ?_
        refine lv_iload_n hx hb dX5_arrive_53 rfl (lv_at hl 0 rfl) ?_
        refine lv_iload_n hx hb dX5_arrive_54 rfl (lv_at hl 2 rfl) ?_
        refine lv_iload_n hx hb dX5_arrive_55 rfl (lv_at hl 3 rfl) ?_
        obtain ⟨q8, hq8, hf⟩ := bind_s hf
        refine g_callV (As := [.int x6, .int v1, .int v2]) (rest := []) hx hb hml hown hts hK hN (m_X5_change l D a C ha h7 v0 x6 v1 v2 hv0 q8.1 q8.2 hq8) (cwV 3 hts gX5_arrive_X5_change rfl rfl rfl kdX5_change ⟨Nat.le_of_ble_eq_true rfl, Nat.le_of_ble_eq_true rfl⟩) (par_O hv0) rfl rfl hP hS hA rfl hl.1 rfl (Nat.le_of_ble_eq_true rfl) dX5_arrive_56 ⟨Nat.le_refl _, Nat.le_refl _⟩ (fun H locs hP hS => ?_)
        refine W.eq (g2 := F0 m 59 ls [.int q8.1]) rfl ?_
        refine lv_pop hx hb dX5_arrive_59 rfl ?_
        refine lv_iload_n hx hb dX5_arrive_60 rfl (lv_at hl 0 rfl) ?_
        exact g_iretW hx hb hr hlk hP hS (ret2 hf) dX5_arrive_61
      · have hf := if_f hf c5
        refine lv_bipush (v := (-2)) hx hb dX5_arrive_28 (by decide) ?_
        exact g_iretW hx hb hr hlk hP hS (ret2 hf) dX5_arrive_30
    · have hf := if_t hf c4
      refine lv_iconst (v := (-1)) hx hb dX5_arrive_14 (by decide) ?_
      exact g_iretW hx hb hr hlk hP hS (ret2 hf) dX5_arrive_15

def X5_join (h : HS) (v0 : Nat) (v1 : Int32) (v2 : Int32) : Option (Int32 × HS) :=
    (X5_has h v0 v1).bind fun q1 =>
    (if q1 = 0 then
    some ((-1), h)
    else
    (X5_has h v0 v2).bind fun q3 =>
    (if q3 = 0 then
    some ((-1), h)
    else
    (if v1 = v2 then
    some ((-1), h)
    else
    (X4_turn h (v0 + 1) v1 v2).bind fun q6 =>
    (X4_between q6 (v0 + 1) v1 v2).bind fun q7 =>
    (if q7 = 0 then
    some (0, q6)
    else
    some (1, q6)))))
def rmX5_join : Room := { frames := 2, cells := 0, slots := 0, locals := 43 }
theorem kdX5_join : yX5_join.cls = RX5 ∧ yX5_join.cls ≠ "java/lang/invoke/MethodHandle" ∧ yX5_join.cls ≠ "java/lang/invoke/VarHandle" ∧ (parseMethodDescriptor yX5_join.desc).map (fun d => d.parameters.length) = some 2 := by decide +kernel
set_option maxHeartbeats 4000000 in
set_option maxRecDepth 100000 in
theorem m_X5_join (l : Launch) (D : va_G) (a : Nat → Nat) (C : Nat → ClassId) (ha : ginj a) (h : HS) (v0 : Nat) (v1 : Int32) (v2 : Int32) (hv0 : isPar v0) (r : Int32) (h' : HS) (hf : X5_join h v0 v1 v2 = some (r, h')) : gM l yX5_join wsX5_join rmX5_join D a C [.ref (a v0), .int v1, .int v2] h (some (.int r)) h' := by
  refine g_start (av := [.ref (a v0), .int v1, .int v2]) (cc := cX5_join) (maxL := 3) (rt := (some .int)) (by decide) rfl (Nat.le_of_ble_eq_true rfl) ?_
  intro p e s m below meth c hx hb hr hml hown hlk hts hP hK hN ls hl
  have hA : ∀ q, gA a q → gA a q := fun _ q => q
  have hS : va_S (gA a) s.heap s.heap [] := va_S.rf
  have hl : lv_has ls 3 [(0, .ref (a v0)), (1, .int v1), (2, .int v2)] := hl
  unfold X5_join at hf
  refine lv_aload_n hx hb dX5_join_0 rfl (lv_at hl 0 rfl) ?_
  refine lv_iload_n hx hb dX5_join_1 rfl (lv_at hl 1 rfl) ?_
  obtain ⟨q1, hq1, hf⟩ := bind_s hf
  refine g_callV (As := [.int v1]) (rest := []) hx hb hml hown hts hK hN (m_X5_has l D a C ha h v0 v1 hv0 q1 hq1) (cwV 1 hts gX5_join_X5_has rfl rfl rfl kdX5_has ⟨Nat.le_of_ble_eq_true rfl, Nat.le_of_ble_eq_true rfl⟩) (par_O hv0) rfl rfl hP hS hA rfl hl.1 rfl (Nat.le_of_ble_eq_true rfl) dX5_join_2 ⟨Nat.le_refl _, Nat.le_refl _⟩ (fun H locs hP hS => ?_)
  refine W.eq (g2 := F0 m 5 ls [.int q1]) rfl ?_
  refine lv_if_eq (tgt := 21) hx hb dX5_join_5 (by decide) (fun c2 => ?_) (fun c2 => ?_)
  · have hf := if_t hf c2
    refine lv_iconst (v := (-1)) hx hb dX5_join_21 (by decide) ?_
    exact g_iretW hx hb hr hlk hP hS (ret2 hf) dX5_join_22
  · have hf := if_f hf c2
    refine lv_aload_n hx hb dX5_join_8 rfl (lv_at hl 0 rfl) ?_
    refine lv_iload_n hx hb dX5_join_9 rfl (lv_at hl 2 rfl) ?_
    obtain ⟨q3, hq3, hf⟩ := bind_s hf
    refine g_callV (As := [.int v2]) (rest := []) hx hb hml hown hts hK hN (m_X5_has l D a C ha h v0 v2 hv0 q3 hq3) (cwV 1 hts gX5_join_X5_has rfl rfl rfl kdX5_has ⟨Nat.le_of_ble_eq_true rfl, Nat.le_of_ble_eq_true rfl⟩) (par_O hv0) rfl rfl hP hS hA rfl hl.1 rfl (Nat.le_of_ble_eq_true rfl) dX5_join_10 ⟨Nat.le_refl _, Nat.le_refl _⟩ (fun H locs hP hS => ?_)
    refine W.eq (g2 := F0 m 13 ls [.int q3]) rfl ?_
    refine lv_if_eq (tgt := 21) hx hb dX5_join_13 (by decide) (fun c4 => ?_) (fun c4 => ?_)
    · have hf := if_t hf c4
      refine lv_iconst (v := (-1)) hx hb dX5_join_21 (by decide) ?_
      exact g_iretW hx hb hr hlk hP hS (ret2 hf) dX5_join_22
    · have hf := if_f hf c4
      refine lv_iload_n hx hb dX5_join_16 rfl (lv_at hl 1 rfl) ?_
      refine lv_iload_n hx hb dX5_join_17 rfl (lv_at hl 2 rfl) ?_
      refine lv_icmp_ne (tgt := 23) hx hb dX5_join_18 (by decide) (fun c5 => ?_) (fun c5 => ?_)
      · have hf := if_f hf c5
        refine lv_aload_n hx hb dX5_join_23 rfl (lv_at hl 0 rfl) ?_
        refine g_get (Cn := RX5) (T := TX5) (N := 7) (v := .ref (a (v0 + 1))) (own := RX5) hx hb hown hts hK (par_O hv0) rfl (fun _ hw => List.mem_cons_of_mem _ (List.mem_append_left _ (List.mem_append_right _ hw))) 0 (by decide) (List.mem_of_getElem? (i := 1) rfl) rfl rfl hP dX5_join_24 ?_
        refine lv_iload_n hx hb dX5_join_27 rfl (lv_at hl 1 rfl) ?_
        refine lv_iload_n hx hb dX5_join_28 rfl (lv_at hl 2 rfl) ?_
        obtain ⟨q6, hq6, hf⟩ := bind_s hf
        refine g_callV (As := [.int v1, .int v2]) (rest := []) hx hb hml hown hts hK hN (m_X4_turn l D a C ha h (v0 + 1) v1 v2 (par_lin hv0) q6 hq6) (cwV 2 hts gX5_join_X4_turn rfl rfl rfl kdX4_turn ⟨Nat.le_of_ble_eq_true rfl, Nat.le_of_ble_eq_true rfl⟩) (lin_O (par_lin hv0)) rfl rfl hP hS hA rfl hl.1 rfl (Nat.le_of_ble_eq_true rfl) dX5_join_29 ⟨Nat.le_refl _, Nat.le_refl _⟩ (fun H locs hP hS => ?_)
        refine W.eq (g2 := F0 m 32 ls []) rfl ?_
        refine lv_aload_n hx hb dX5_join_32 rfl (lv_at hl 0 rfl) ?_
        refine g_get (Cn := RX5) (T := TX5) (N := 7) (v := .ref (a (v0 + 1))) (own := RX5) hx hb hown hts hK (par_O hv0) rfl (fun _ hw => List.mem_cons_of_mem _ (List.mem_append_left _ (List.mem_append_right _ hw))) 0 (by decide) (List.mem_of_getElem? (i := 1) rfl) rfl rfl hP dX5_join_33 ?_
        refine lv_iload_n hx hb dX5_join_36 rfl (lv_at hl 1 rfl) ?_
        refine lv_iload_n hx hb dX5_join_37 rfl (lv_at hl 2 rfl) ?_
        obtain ⟨q7, hq7, hf⟩ := bind_s hf
        refine g_callV (As := [.int v1, .int v2]) (rest := []) hx hb hml hown hts hK hN (m_X4_between l D a C ha q6 (v0 + 1) v1 v2 (par_lin hv0) q7 hq7) (cwV 2 hts gX5_join_X4_between rfl rfl rfl kdX4_between ⟨Nat.le_of_ble_eq_true rfl, Nat.le_of_ble_eq_true rfl⟩) (lin_O (par_lin hv0)) rfl rfl hP hS hA rfl hl.1 rfl (Nat.le_of_ble_eq_true rfl) dX5_join_38 ⟨Nat.le_refl _, Nat.le_refl _⟩ (fun H locs hP hS => ?_)
        refine W.eq (g2 := F0 m 41 ls [.int q7]) rfl ?_
        refine lv_if_eq (tgt := 48) hx hb dX5_join_41 (by decide) (fun c8 => ?_) (fun c8 => ?_)
        · have hf := if_t hf c8
          refine lv_iconst (v := 0) hx hb dX5_join_48 (by decide) ?_
          exact g_iretW hx hb hr hlk hP hS (ret2 hf) dX5_join_49
        · have hf := if_f hf c8
          refine lv_iconst (v := 1) hx hb dX5_join_44 (by decide) ?_
          refine lv_goto (tgt := 49) hx hb dX5_join_45 (by decide) ?_
          exact g_iretW hx hb hr hlk hP hS (ret2 hf) dX5_join_49
      · have hf := if_t hf c5
        refine lv_iconst (v := (-1)) hx hb dX5_join_21 (by decide) ?_
        exact g_iretW hx hb hr hlk hP hS (ret2 hf) dX5_join_22

def X5_inform (h : HS) (v0 : Nat) (v1 : Int32) : Option (Int32 × HS) :=
    (X5_has h v0 v1).bind fun q1 =>
    (if q1 = 0 then
    some ((-1), h)
    else
    (X5_isDeaf h v0 v1).bind fun q3 =>
    (if q3 = 0 then
    nm (sF h v0 4 ((fI h v0 4) ^^^ ((1 : Int32) <<< (v1 &&& 31)))) fun h5 =>
    some ((((fI h5 v0 4) >>> (v1 &&& 31)) &&& 1), h5)
    else
    some ((-3), h)))
def rmX5_inform : Room := { frames := 1, cells := 0, slots := 0, locals := 21 }
theorem kdX5_inform : yX5_inform.cls = RX5 ∧ yX5_inform.cls ≠ "java/lang/invoke/MethodHandle" ∧ yX5_inform.cls ≠ "java/lang/invoke/VarHandle" ∧ (parseMethodDescriptor yX5_inform.desc).map (fun d => d.parameters.length) = some 1 := by decide +kernel
set_option maxHeartbeats 4000000 in
set_option maxRecDepth 100000 in
theorem m_X5_inform (l : Launch) (D : va_G) (a : Nat → Nat) (C : Nat → ClassId) (ha : ginj a) (h : HS) (v0 : Nat) (v1 : Int32) (hv0 : isPar v0) (r : Int32) (h' : HS) (hf : X5_inform h v0 v1 = some (r, h')) : gM l yX5_inform wsX5_inform rmX5_inform D a C [.ref (a v0), .int v1] h (some (.int r)) h' := by
  refine g_start (av := [.ref (a v0), .int v1]) (cc := cX5_inform) (maxL := 2) (rt := (some .int)) (by decide) rfl (Nat.le_of_ble_eq_true rfl) ?_
  intro p e s m below meth c hx hb hr hml hown hlk hts hP hK hN ls hl
  have hA : ∀ q, gA a q → gA a q := fun _ q => q
  have hS : va_S (gA a) s.heap s.heap [] := va_S.rf
  have hl : lv_has ls 2 [(0, .ref (a v0)), (1, .int v1)] := hl
  unfold X5_inform at hf
  refine lv_aload_n hx hb dX5_inform_0 rfl (lv_at hl 0 rfl) ?_
  refine lv_iload_n hx hb dX5_inform_1 rfl (lv_at hl 1 rfl) ?_
  obtain ⟨q1, hq1, hf⟩ := bind_s hf
  refine g_callV (As := [.int v1]) (rest := []) hx hb hml hown hts hK hN (m_X5_has l D a C ha h v0 v1 hv0 q1 hq1) (cwV 1 hts gX5_inform_X5_has rfl rfl rfl kdX5_has ⟨Nat.le_of_ble_eq_true rfl, Nat.le_of_ble_eq_true rfl⟩) (par_O hv0) rfl rfl hP hS hA rfl hl.1 rfl (Nat.le_of_ble_eq_true rfl) dX5_inform_2 ⟨Nat.le_refl _, Nat.le_refl _⟩ (fun H locs hP hS => ?_)
  refine W.eq (g2 := F0 m 5 ls [.int q1]) rfl ?_
  refine lv_if_ne (tgt := 10) hx hb dX5_inform_5 (by decide) (fun c2 => ?_) (fun c2 => ?_)
  · have hf := if_f hf c2
    refine lv_aload_n hx hb dX5_inform_10 rfl (lv_at hl 0 rfl) ?_
    refine lv_iload_n hx hb dX5_inform_11 rfl (lv_at hl 1 rfl) ?_
    obtain ⟨q3, hq3, hf⟩ := bind_s hf
    refine g_callV (As := [.int v1]) (rest := []) hx hb hml hown hts hK hN (m_X5_isDeaf l D a C ha h v0 v1 hv0 q3 hq3) (cwV 1 hts gX5_inform_X5_isDeaf rfl rfl rfl kdX5_isDeaf ⟨Nat.le_of_ble_eq_true rfl, Nat.le_of_ble_eq_true rfl⟩) (par_O hv0) rfl rfl hP hS hA rfl hl.1 rfl (Nat.le_of_ble_eq_true rfl) dX5_inform_12 ⟨Nat.le_refl _, Nat.le_refl _⟩ (fun H locs hP hS => ?_)
    refine W.eq (g2 := F0 m 15 ls [.int q3]) rfl ?_
    refine lv_if_eq (tgt := 21) hx hb dX5_inform_15 (by decide) (fun c4 => ?_) (fun c4 => ?_)
    · have hf := if_t hf c4
      refine lv_aload_n hx hb dX5_inform_21 rfl (lv_at hl 0 rfl) ?_
      refine lv_dup hx hb dX5_inform_22 rfl ?_
      refine g_get (Cn := RX5) (T := TX5) (N := 7) (v := .int (fI h v0 4)) (own := RX5) hx hb hown hts hK (par_O hv0) rfl (fun _ hw => List.mem_cons_of_mem _ (List.mem_append_left _ (List.mem_append_right _ hw))) 4 (by decide) (List.mem_of_getElem? (i := 1) rfl) rfl rfl hP dX5_inform_23 ?_
      refine lv_iconst (v := 1) hx hb dX5_inform_26 (by decide) ?_
      refine lv_iload_n hx hb dX5_inform_27 rfl (lv_at hl 1 rfl) ?_
      refine lv_ishl hx hb dX5_inform_28 ?_
      refine lv_ixor hx hb dX5_inform_29 ?_
      refine g_put (Cn := RX5) (T := TX5) (N := 7) (ty0 := tyX5) (own := RX5) hx hb hown hts hK ha hA (par_O hv0) rfl (fun _ hw => List.mem_cons_of_mem _ (List.mem_append_left _ (List.mem_append_right _ hw))) tyX5_ok nmX5 4 (by decide) (List.mem_of_getElem? (i := 1) rfl) rfl rfl rfl rfl rfl hP hS dX5_inform_30 (fun H locs hP hS => ?_)
      obtain ⟨h5, eh5⟩ : ∃ x, x = (sF h v0 4 ((fI h v0 4) ^^^ ((1 : Int32) <<< (v1 &&& 31)))) := ⟨_, rfl⟩
      rw [← eh5] at hP
      have hf := nm_s hf eh5
      refine lv_aload_n hx hb dX5_inform_33 rfl (lv_at hl 0 rfl) ?_
      refine g_get (Cn := RX5) (T := TX5) (N := 7) (v := .int (fI h5 v0 4)) (own := RX5) hx hb hown hts hK (par_O hv0) rfl (fun _ hw => List.mem_cons_of_mem _ (List.mem_append_left _ (List.mem_append_right _ hw))) 4 (by decide) (List.mem_of_getElem? (i := 1) rfl) rfl rfl hP dX5_inform_34 ?_
      refine lv_iload_n hx hb dX5_inform_37 rfl (lv_at hl 1 rfl) ?_
      refine lv_ishr hx hb dX5_inform_38 ?_
      refine lv_iconst (v := 1) hx hb dX5_inform_39 (by decide) ?_
      refine lv_iand hx hb dX5_inform_40 ?_
      exact g_iretW hx hb hr hlk hP hS (ret2 hf) dX5_inform_41
    · have hf := if_f hf c4
      refine lv_bipush (v := (-3)) hx hb dX5_inform_18 (by decide) ?_
      exact g_iretW hx hb hr hlk hP hS (ret2 hf) dX5_inform_20
  · have hf := if_t hf c2
    refine lv_iconst (v := (-1)) hx hb dX5_inform_8 (by decide) ?_
    exact g_iretW hx hb hr hlk hP hS (ret2 hf) dX5_inform_9

def X5_toldBy_B90 (h : HS) (v0 : Nat) (v1 : Int32) (v2 : Int32) (v3 : Int32) (k30 : Nat → Int32 → Int32 → Int32 → Option Int32) (v4 : Nat) (v5 : Int32) (v6 : Int32) (v7 : Int32) : Option Int32 :=
    nm (v7 + 1) fun x15 =>
    k30 v4 v5 v6 x15
def X5_toldBy_B30 (h : HS) (v0 : Nat) (v1 : Int32) (v2 : Int32) (v3 : Int32) : Nat → Nat → Int32 → Int32 → Int32 → Option Int32
  | 0, _, _, _, _ => none
  | fu + 1, v4, v5, v6, v7 =>
    (X5_people h v0).bind fun q5 =>
    (if q5 ≤ v7 then
    some v6
    else
    (if v5 ≤ 0 then
    some v6
    else
    (if ((v2 >>> (v7 &&& 31)) &&& 1) = 0 then
    X5_toldBy_B90 h v0 v1 v2 v3 (X5_toldBy_B30 h v0 v1 v2 v3 fu) v4 v5 v6 v7
    else
    (X4_number h (v0 + 1) v1).bind fun q9 =>
    (X4_number h (v0 + 1) v7).bind fun q10 =>
    (V_likes v4 q9 q10).bind fun q11 =>
    (if q11 = 0 then
    X5_toldBy_B90 h v0 v1 v2 v3 (X5_toldBy_B30 h v0 v1 v2 v3 fu) v4 v5 v6 v7
    else
    nm (v6 ||| ((1 : Int32) <<< (v7 &&& 31))) fun x13 =>
    nm (v5 + (-1)) fun x14 =>
    X5_toldBy_B90 h v0 v1 v2 v3 (X5_toldBy_B30 h v0 v1 v2 v3 fu) v4 x14 x13 v7))))
def X5_toldBy (h : HS) (v0 : Nat) (v1 : Int32) (v2 : Int32) (v3 : Int32) : Option Int32 :=
    (X5_kindOf h v0 v1).bind fun q1 =>
    (X5_kindNamed h v0 q1).bind fun q2 =>
    (X5_figureOf h v0 v1).bind fun q3 =>
    (V_tellsAtMost q2 q3 v3).bind fun q4 =>
    X5_toldBy_B30 h v0 v1 v2 v3 FU q2 q4 0 0
def rmX5_toldBy : Room := { frames := 3, cells := 0, slots := 0, locals := 66 }
theorem kdX5_toldBy : yX5_toldBy.cls = RX5 ∧ yX5_toldBy.cls ≠ "java/lang/invoke/MethodHandle" ∧ yX5_toldBy.cls ≠ "java/lang/invoke/VarHandle" ∧ (parseMethodDescriptor yX5_toldBy.desc).map (fun d => d.parameters.length) = some 3 := by decide +kernel
set_option maxHeartbeats 4000000 in
set_option maxRecDepth 100000 in
theorem m_X5_toldBy (l : Launch) (D : va_G) (a : Nat → Nat) (C : Nat → ClassId) (ha : ginj a) (h : HS) (v0 : Nat) (v1 : Int32) (v2 : Int32) (v3 : Int32) (hv0 : isPar v0) (r : Int32) (hf : X5_toldBy h v0 v1 v2 v3 = some r) : gM l yX5_toldBy wsX5_toldBy rmX5_toldBy D a C [.ref (a v0), .int v1, .int v2, .int v3] h (some (.int r)) h := by
  refine g_start (av := [.ref (a v0), .int v1, .int v2, .int v3]) (cc := cX5_toldBy) (maxL := 8) (rt := (some .int)) (by decide) rfl (Nat.le_of_ble_eq_true rfl) ?_
  intro p e s m below meth c hx hb hr hml hown hlk hts hP hK hN ls hl
  have hA : ∀ q, gA a q → gA a q := fun _ q => q
  have hS : va_S (gA a) s.heap s.heap [] := va_S.rf
  have hl : lv_has ls 8 [(0, .ref (a v0)), (1, .int v1), (2, .int v2), (3, .int v3)] := hl
  have J90 : ∀ (k30 : Nat → Int32 → Int32 → Int32 → Option Int32) (hk30 : ∀ (v4 : Nat) (v5 : Int32) (v6 : Int32) (v7 : Int32), isKnd v4 → k30 v4 v5 v6 v7 = some r → gG p l e (headSpec wsX5_toldBy rmX5_toldBy).room s m ([.ref (a v0), .int v1, .int v2, .int v3] : List Value).toArray below meth c (MQ below (gQ (some (.int r)) D a C h) ([.ref (a v0), .int v1, .int v2, .int v3] : List Value).toArray s 0 0 (gA a)) D a C 8 h 30 [(0, .ref (a v0)), (1, .int v1), (2, .int v2), (4, .ref (a v4)), (5, .int v5), (6, .int v6), (7, .int v7)] []) (v4 : Nat) (v5 : Int32) (v6 : Int32) (v7 : Int32) (hv4 : isKnd v4) (_ : X5_toldBy_B90 h v0 v1 v2 v3 k30 v4 v5 v6 v7 = some r), gG p l e (headSpec wsX5_toldBy rmX5_toldBy).room s m ([.ref (a v0), .int v1, .int v2, .int v3] : List Value).toArray below meth c (MQ below (gQ (some (.int r)) D a C h) ([.ref (a v0), .int v1, .int v2, .int v3] : List Value).toArray s 0 0 (gA a)) D a C 8 h 90 [(0, .ref (a v0)), (1, .int v1), (2, .int v2), (4, .ref (a v4)), (5, .int v5), (6, .int v6), (7, .int v7)] [] := by
    intro k30 hk30 v4 v5 v6 v7 hv4 hf H locs ls hP hS hl
    unfold X5_toldBy_B90 at hf
    obtain ⟨x15, ex15⟩ : ∃ y : Int32, y = (v7 + 1) := ⟨_, rfl⟩
    have hf := nm_s hf ex15
    refine lv_iinc (v := x15) (lv' := [(7, .int x15), (0, .ref (a v0)), (1, .int v1), (2, .int v2), (4, .ref (a v4)), (5, .int v5), (6, .int v6)]) hx hb dX5_toldBy_90 hl (k := 6) rfl (by rw [ex15]; rfl) (by decide) rfl (fun ls hl => ?_)
    refine lv_goto (tgt := 30) hx hb dX5_toldBy_93 (by decide) ?_
    exact hk30 v4 v5 v6 x15 hv4 hf H locs ls hP hS (lv_sub hl [1, 2, 3, 4, 5, 6, 0] rfl)
  have J30 : ∀ (fu : Nat) (v4 : Nat) (v5 : Int32) (v6 : Int32) (v7 : Int32) (hv4 : isKnd v4), X5_toldBy_B30 h v0 v1 v2 v3 fu v4 v5 v6 v7 = some r → gG p l e (headSpec wsX5_toldBy rmX5_toldBy).room s m ([.ref (a v0), .int v1, .int v2, .int v3] : List Value).toArray below meth c (MQ below (gQ (some (.int r)) D a C h) ([.ref (a v0), .int v1, .int v2, .int v3] : List Value).toArray s 0 0 (gA a)) D a C 8 h 30 [(0, .ref (a v0)), (1, .int v1), (2, .int v2), (4, .ref (a v4)), (5, .int v5), (6, .int v6), (7, .int v7)] [] := by
    intro fu
    induction fu with
    | zero => intro v4 v5 v6 v7 hv4 hf; exact absurd hf (by simp [X5_toldBy_B30])
    | succ fu ih =>
      intro v4 v5 v6 v7 hv4 hf H locs ls hP hS hl
      rw [X5_toldBy_B30] at hf
      refine lv_iload hx hb dX5_toldBy_30 (lv_at hl 6 rfl) ?_
      refine lv_aload_n hx hb dX5_toldBy_32 rfl (lv_at hl 0 rfl) ?_
      obtain ⟨q5, hq5, hf⟩ := bind_s hf
      refine g_callV (As := []) (rest := [.int v7]) hx hb hml hown hts hK hN (m_X5_people l D a C ha h v0 hv0 q5 hq5) (cwV 0 hts gX5_toldBy_X5_people rfl rfl rfl kdX5_people ⟨Nat.le_of_ble_eq_true rfl, Nat.le_of_ble_eq_true rfl⟩) (par_O hv0) rfl rfl hP hS hA rfl hl.1 rfl (Nat.le_of_ble_eq_true rfl) dX5_toldBy_33 ⟨Nat.le_refl _, Nat.le_refl _⟩ (fun H locs hP hS => ?_)
      refine W.eq (g2 := F0 m 36 ls [.int q5, .int v7]) rfl ?_
      refine lv_icmp_ge (tgt := 96) hx hb dX5_toldBy_36 (by decide) (fun c6 => ?_) (fun c6 => ?_)
      · have hf := if_t hf c6
        refine lv_iload hx hb dX5_toldBy_96 (lv_at hl 5 rfl) ?_
        exact g_iret hx hb hr hlk hP hS (ret1 hf) dX5_toldBy_98
      · have hf := if_f hf c6
        refine lv_iload hx hb dX5_toldBy_39 (lv_at hl 4 rfl) ?_
        refine lv_if_le (tgt := 96) hx hb dX5_toldBy_41 (by decide) (fun c7 => ?_) (fun c7 => ?_)
        · have hf := if_t hf c7
          refine lv_iload hx hb dX5_toldBy_96 (lv_at hl 5 rfl) ?_
          exact g_iret hx hb hr hlk hP hS (ret1 hf) dX5_toldBy_98
        · have hf := if_f hf c7
          refine lv_iload_n hx hb dX5_toldBy_44 rfl (lv_at hl 2 rfl) ?_
          refine lv_iload hx hb dX5_toldBy_45 (lv_at hl 6 rfl) ?_
          refine lv_ishr hx hb dX5_toldBy_47 ?_
          refine lv_iconst (v := 1) hx hb dX5_toldBy_48 (by decide) ?_
          refine lv_iand hx hb dX5_toldBy_49 ?_
          refine lv_if_eq (tgt := 90) hx hb dX5_toldBy_50 (by decide) (fun c8 => ?_) (fun c8 => ?_)
          · have hf := if_t hf c8
            exact J90 (X5_toldBy_B30 h v0 v1 v2 v3 fu) ih v4 v5 v6 v7 hv4 hf H locs ls hP hS (lv_sub hl [0, 1, 2, 3, 4, 5, 6] rfl)
          · have hf := if_f hf c8
            refine lv_aload hx hb dX5_toldBy_53 (lv_at hl 3 rfl) ?_
            refine lv_aload_n hx hb dX5_toldBy_55 rfl (lv_at hl 0 rfl) ?_
            refine g_get (Cn := RX5) (T := TX5) (N := 7) (v := .ref (a (v0 + 1))) (own := RX5) hx hb hown hts hK (par_O hv0) rfl (fun _ hw => List.mem_cons_of_mem _ (List.mem_append_left _ (List.mem_append_right _ hw))) 0 (by decide) (List.mem_of_getElem? (i := 1) rfl) rfl rfl hP dX5_toldBy_56 ?_
            refine lv_iload_n hx hb dX5_toldBy_59 rfl (lv_at hl 1 rfl) ?_
            obtain ⟨q9, hq9, hf⟩ := bind_s hf
            refine g_callV (As := [.int v1]) (rest := [.ref (a v4)]) hx hb hml hown hts hK hN (m_X4_number l D a C ha h (v0 + 1) v1 (par_lin hv0) q9 hq9) (cwV 1 hts gX5_toldBy_X4_number rfl rfl rfl kdX4_number ⟨Nat.le_of_ble_eq_true rfl, Nat.le_of_ble_eq_true rfl⟩) (lin_O (par_lin hv0)) rfl rfl hP hS hA rfl hl.1 rfl (Nat.le_of_ble_eq_true rfl) dX5_toldBy_60 ⟨Nat.le_refl _, Nat.le_refl _⟩ (fun H locs hP hS => ?_)
            refine W.eq (g2 := F0 m 63 ls [.int q9, .ref (a v4)]) rfl ?_
            refine lv_aload_n hx hb dX5_toldBy_63 rfl (lv_at hl 0 rfl) ?_
            refine g_get (Cn := RX5) (T := TX5) (N := 7) (v := .ref (a (v0 + 1))) (own := RX5) hx hb hown hts hK (par_O hv0) rfl (fun _ hw => List.mem_cons_of_mem _ (List.mem_append_left _ (List.mem_append_right _ hw))) 0 (by decide) (List.mem_of_getElem? (i := 1) rfl) rfl rfl hP dX5_toldBy_64 ?_
            refine lv_iload hx hb dX5_toldBy_67 (lv_at hl 6 rfl) ?_
            obtain ⟨q10, hq10, hf⟩ := bind_s hf
            refine g_callV (As := [.int v7]) (rest := [.int q9, .ref (a v4)]) hx hb hml hown hts hK hN (m_X4_number l D a C ha h (v0 + 1) v7 (par_lin hv0) q10 hq10) (cwV 1 hts gX5_toldBy_X4_number rfl rfl rfl kdX4_number ⟨Nat.le_of_ble_eq_true rfl, Nat.le_of_ble_eq_true rfl⟩) (lin_O (par_lin hv0)) rfl rfl hP hS hA rfl hl.1 rfl (Nat.le_of_ble_eq_true rfl) dX5_toldBy_69 ⟨Nat.le_refl _, Nat.le_refl _⟩ (fun H locs hP hS => ?_)
            refine W.eq (g2 := F0 m 72 ls [.int q10, .int q9, .ref (a v4)]) rfl ?_
            obtain ⟨q11, hq11, hf⟩ := bind_s hf
            have kk : ∀ (H : Heap) (locs : List Loc), va_P D vwCl (gw a C h) H → va_S (gA a) s.heap H locs → W p l e (headSpec wsX5_toldBy rmX5_toldBy).room s m ([.ref (a v0), .int v1, .int v2, .int v3] : List Value).toArray below meth c H locs 0 0 (MQ below (gQ (some (.int r)) D a C h) ([.ref (a v0), .int v1, .int v2, .int v3] : List Value).toArray s 0 0 (gA a)) (F0 m 75 ls [.int q11]) := by
              intro H locs hP hS
              refine lv_if_eq (tgt := 90) hx hb dX5_toldBy_75 (by decide) (fun c12 => ?_) (fun c12 => ?_)
              · have hf := if_t hf c12
                exact J90 (X5_toldBy_B30 h v0 v1 v2 v3 fu) ih v4 v5 v6 v7 hv4 hf H locs ls hP hS (lv_sub hl [0, 1, 2, 3, 4, 5, 6] rfl)
              · have hf := if_f hf c12
                refine lv_iload hx hb dX5_toldBy_78 (lv_at hl 5 rfl) ?_
                refine lv_iconst (v := 1) hx hb dX5_toldBy_80 (by decide) ?_
                refine lv_iload hx hb dX5_toldBy_81 (lv_at hl 6 rfl) ?_
                refine lv_ishl hx hb dX5_toldBy_83 ?_
                refine lv_ior hx hb dX5_toldBy_84 ?_
                refine lv_topi (fun x13 ex13 => ?_)
                have hf := nm_s hf ex13
                refine lv_istore (lv' := [(6, .int x13), (0, .ref (a v0)), (1, .int v1), (2, .int v2), (4, .ref (a v4)), (5, .int v5), (7, .int v7)]) hx hb dX5_toldBy_85 hl (by decide) rfl (fun ls hl => ?_)
                obtain ⟨x14, ex14⟩ : ∃ y : Int32, y = (v5 + (-1)) := ⟨_, rfl⟩
                have hf := nm_s hf ex14
                refine lv_iinc (v := x14) (lv' := [(5, .int x14), (6, .int x13), (0, .ref (a v0)), (1, .int v1), (2, .int v2), (4, .ref (a v4)), (7, .int v7)]) hx hb dX5_toldBy_87 hl (k := 5) rfl (by rw [ex14]; rfl) (by decide) rfl (fun ls hl => ?_)
                exact J90 (X5_toldBy_B30 h v0 v1 v2 v3 fu) ih v4 x14 x13 v7 hv4 hf H locs ls hP hS (lv_sub hl [2, 3, 4, 5, 0, 1, 6] rfl)
            have hper := knd_per hv4
            rcases V_likes_cases hper hq11 with ⟨ho, hv⟩ | ⟨ho, hv⟩ | ⟨ho, hv⟩ | ⟨ho, hv⟩ | ⟨ho, hv⟩ | ⟨ho, hv⟩ | ⟨ho, hv⟩ | ⟨ho, hv⟩
            · exact g_callV (As := [.int q9, .int q10]) (rest := []) hx hb hml hown hts hK hN (m_X6_likes l D a C ha h v4 hper q9 q10 q11 hv) (cwV 2 hts gX5_toldBy_X6_likes rfl rfl rfl kdX6_likes ⟨Nat.le_of_ble_eq_true rfl, Nat.le_of_ble_eq_true rfl⟩) ho rfl rfl hP hS hA rfl hl.1 rfl (Nat.le_of_ble_eq_true rfl) dX5_toldBy_72 ⟨Nat.le_refl _, Nat.le_refl _⟩ kk
            · exact g_callU (As := [.int q9, .int q10]) (rest := []) hx hb hml hown hts hK hN (m_X8_likes l D a C ha h v4 hper q9 q10 q11 hv) (va_cwO 2 hts gX5_toldBy_X8_likes_u146X8 rfl rfl rfl (List.mem_of_getElem? (i := 85) rfl) kvlikes ⟨Nat.le_of_ble_eq_true rfl, Nat.le_of_ble_eq_true rfl⟩) ho rfl rfl hP hS hA rfl hl.1 rfl (Nat.le_of_ble_eq_true rfl) dX5_toldBy_72 ⟨Nat.le_refl _, Nat.le_refl _⟩ kk
            · exact g_callU (As := [.int q9, .int q10]) (rest := []) hx hb hml hown hts hK hN (m_X6_likes l D a C ha h v4 hper q9 q10 q11 hv) (va_cwU 2 hts gX5_toldBy_X6_likes_u146X2 rfl rfl rfl rfl kvlikes ⟨Nat.le_of_ble_eq_true rfl, Nat.le_of_ble_eq_true rfl⟩) ho rfl rfl hP hS hA rfl hl.1 rfl (Nat.le_of_ble_eq_true rfl) dX5_toldBy_72 ⟨Nat.le_refl _, Nat.le_refl _⟩ kk
            · exact g_callU (As := [.int q9, .int q10]) (rest := []) hx hb hml hown hts hK hN (m_X8_likes l D a C ha h v4 hper q9 q10 q11 hv) (va_cwO 2 hts gX5_toldBy_X8_likes_u146X3 rfl rfl rfl (List.mem_of_getElem? (i := 85) rfl) kvlikes ⟨Nat.le_of_ble_eq_true rfl, Nat.le_of_ble_eq_true rfl⟩) ho rfl rfl hP hS hA rfl hl.1 rfl (Nat.le_of_ble_eq_true rfl) dX5_toldBy_72 ⟨Nat.le_refl _, Nat.le_refl _⟩ kk
            · exact g_callU (As := [.int q9, .int q10]) (rest := []) hx hb hml hown hts hK hN (m_X6_likes l D a C ha h v4 hper q9 q10 q11 hv) (va_cwU 2 hts gX5_toldBy_X6_likes_u146X10 rfl rfl rfl rfl kvlikes ⟨Nat.le_of_ble_eq_true rfl, Nat.le_of_ble_eq_true rfl⟩) ho rfl rfl hP hS hA rfl hl.1 rfl (Nat.le_of_ble_eq_true rfl) dX5_toldBy_72 ⟨Nat.le_refl _, Nat.le_refl _⟩ kk
            · exact g_callU (As := [.int q9, .int q10]) (rest := []) hx hb hml hown hts hK hN (m_X9_likes l D a C ha h v4 hper q9 q10 q11 hv) (va_cwO 2 hts gX5_toldBy_X9_likes_u146X9 rfl rfl rfl (List.mem_of_getElem? (i := 85) rfl) kvlikes ⟨Nat.le_of_ble_eq_true rfl, Nat.le_of_ble_eq_true rfl⟩) ho rfl rfl hP hS hA rfl hl.1 rfl (Nat.le_of_ble_eq_true rfl) dX5_toldBy_72 ⟨Nat.le_refl _, Nat.le_refl _⟩ kk
            · exact g_callU (As := [.int q9, .int q10]) (rest := []) hx hb hml hown hts hK hN (m_X6_likes l D a C ha h v4 hper q9 q10 q11 hv) (va_cwU 2 hts gX5_toldBy_X6_likes_u146X0 rfl rfl rfl rfl kvlikes ⟨Nat.le_of_ble_eq_true rfl, Nat.le_of_ble_eq_true rfl⟩) ho rfl rfl hP hS hA rfl hl.1 rfl (Nat.le_of_ble_eq_true rfl) dX5_toldBy_72 ⟨Nat.le_refl _, Nat.le_refl _⟩ kk
            · exact g_callU (As := [.int q9, .int q10]) (rest := []) hx hb hml hown hts hK hN (m_X8_likes l D a C ha h v4 hper q9 q10 q11 hv) (va_cwO 2 hts gX5_toldBy_X8_likes_u146X1 rfl rfl rfl (List.mem_of_getElem? (i := 85) rfl) kvlikes ⟨Nat.le_of_ble_eq_true rfl, Nat.le_of_ble_eq_true rfl⟩) ho rfl rfl hP hS hA rfl hl.1 rfl (Nat.le_of_ble_eq_true rfl) dX5_toldBy_72 ⟨Nat.le_refl _, Nat.le_refl _⟩ kk
  unfold X5_toldBy at hf
  suffices hh : ∀ (H : Heap) (locs : List Loc), va_P D vwCl (gw a C h) H → va_S (gA a) s.heap H locs → W p l e (headSpec wsX5_toldBy rmX5_toldBy).room s m ([.ref (a v0), .int v1, .int v2, .int v3] : List Value).toArray below meth c H locs 0 0 (MQ below (gQ (some (.int r)) D a C h) ([.ref (a v0), .int v1, .int v2, .int v3] : List Value).toArray s 0 0 (gA a)) (F0 m 0 ls []) from hh _ _ hP hS
  intro H locs hP hS
  refine lv_aload_n hx hb dX5_toldBy_0 rfl (lv_at hl 0 rfl) ?_
  refine lv_aload_n hx hb dX5_toldBy_1 rfl (lv_at hl 0 rfl) ?_
  refine lv_iload_n hx hb dX5_toldBy_2 rfl (lv_at hl 1 rfl) ?_
  obtain ⟨q1, hq1, hf⟩ := bind_s hf
  refine g_callV (As := [.int v1]) (rest := [.ref (a v0)]) hx hb hml hown hts hK hN (m_X5_kindOf l D a C ha h v0 v1 hv0 q1 hq1) (cwV 1 hts gX5_toldBy_X5_kindOf rfl rfl rfl kdX5_kindOf ⟨Nat.le_of_ble_eq_true rfl, Nat.le_of_ble_eq_true rfl⟩) (par_O hv0) rfl rfl hP hS hA rfl hl.1 rfl (Nat.le_of_ble_eq_true rfl) dX5_toldBy_3 ⟨Nat.le_refl _, Nat.le_refl _⟩ (fun H locs hP hS => ?_)
  refine W.eq (g2 := F0 m 6 ls [.int q1, .ref (a v0)]) rfl ?_
  obtain ⟨q2, hq2, hf⟩ := bind_s hf
  refine g_callV (As := [.int q1]) (rest := []) hx hb hml hown hts hK hN (m_X5_kindNamed l D a C ha h v0 q1 hv0 q2 hq2) (cwV 1 hts gX5_toldBy_X5_kindNamed rfl rfl rfl kdX5_kindNamed ⟨Nat.le_of_ble_eq_true rfl, Nat.le_of_ble_eq_true rfl⟩) (par_O hv0) rfl rfl hP hS hA rfl hl.1 rfl (Nat.le_of_ble_eq_true rfl) dX5_toldBy_6 ⟨Nat.le_refl _, Nat.le_refl _⟩ (fun H locs hP hS => ?_)
  refine W.eq (g2 := F0 m 9 ls [.ref (a q2)]) rfl ?_
  refine lv_astore (lv' := [(4, .ref (a q2)), (0, .ref (a v0)), (1, .int v1), (2, .int v2), (3, .int v3)]) hx hb dX5_toldBy_9 hl (by decide) rfl (fun ls hl => ?_)
  refine lv_aload hx hb dX5_toldBy_11 (lv_at hl 0 rfl) ?_
  refine lv_aload_n hx hb dX5_toldBy_13 rfl (lv_at hl 1 rfl) ?_
  refine lv_iload_n hx hb dX5_toldBy_14 rfl (lv_at hl 2 rfl) ?_
  obtain ⟨q3, hq3, hf⟩ := bind_s hf
  refine g_callV (As := [.int v1]) (rest := [.ref (a q2)]) hx hb hml hown hts hK hN (m_X5_figureOf l D a C ha h v0 v1 hv0 q3 hq3) (cwV 1 hts gX5_toldBy_X5_figureOf rfl rfl rfl kdX5_figureOf ⟨Nat.le_of_ble_eq_true rfl, Nat.le_of_ble_eq_true rfl⟩) (par_O hv0) rfl rfl hP hS hA rfl hl.1 rfl (Nat.le_of_ble_eq_true rfl) dX5_toldBy_15 ⟨Nat.le_refl _, Nat.le_refl _⟩ (fun H locs hP hS => ?_)
  refine W.eq (g2 := F0 m 18 ls [.int q3, .ref (a q2)]) rfl ?_
  refine lv_iload_n hx hb dX5_toldBy_18 rfl (lv_at hl 4 rfl) ?_
  obtain ⟨q4, hq4, hf⟩ := bind_s hf
  have kk : ∀ (H : Heap) (locs : List Loc), va_P D vwCl (gw a C h) H → va_S (gA a) s.heap H locs → W p l e (headSpec wsX5_toldBy rmX5_toldBy).room s m ([.ref (a v0), .int v1, .int v2, .int v3] : List Value).toArray below meth c H locs 0 0 (MQ below (gQ (some (.int r)) D a C h) ([.ref (a v0), .int v1, .int v2, .int v3] : List Value).toArray s 0 0 (gA a)) (F0 m 22 ls [.int q4]) := by
    intro H locs hP hS
    refine lv_istore (lv' := [(5, .int q4), (4, .ref (a q2)), (0, .ref (a v0)), (1, .int v1), (2, .int v2), (3, .int v3)]) hx hb dX5_toldBy_22 hl (by decide) rfl (fun ls hl => ?_)
    refine lv_iconst (v := 0) hx hb dX5_toldBy_24 (by decide) ?_
    refine lv_istore (lv' := [(6, .int 0), (5, .int q4), (4, .ref (a q2)), (0, .ref (a v0)), (1, .int v1), (2, .int v2), (3, .int v3)]) hx hb dX5_toldBy_25 hl (by decide) rfl (fun ls hl => ?_)
    refine lv_iconst (v := 0) hx hb dX5_toldBy_27 (by decide) ?_
    refine lv_istore (lv' := [(7, .int 0), (6, .int 0), (5, .int q4), (4, .ref (a q2)), (0, .ref (a v0)), (1, .int v1), (2, .int v2), (3, .int v3)]) hx hb dX5_toldBy_28 hl (by decide) rfl (fun ls hl => ?_)
    exact J30 FU q2 q4 0 0 (X5_kindNamed_ok hv0 hq2) hf H locs ls hP hS (lv_sub hl [4, 5, 6, 3, 2, 1, 0] rfl)
  have hper := knd_per (X5_kindNamed_ok hv0 hq2)
  rcases V_tellsAtMost_cases hper hq4 with ⟨ho, hv⟩ | ⟨ho, hv⟩ | ⟨ho, hv⟩ | ⟨ho, hv⟩ | ⟨ho, hv⟩ | ⟨ho, hv⟩ | ⟨ho, hv⟩ | ⟨ho, hv⟩
  · exact g_callV (As := [.int q3, .int v3]) (rest := []) hx hb hml hown hts hK hN (m_X6_tellsAtMost l D a C ha h q2 hper q3 v3 q4 hv) (cwV 2 hts gX5_toldBy_X6_tellsAtMost rfl rfl rfl kdX6_tellsAtMost ⟨Nat.le_of_ble_eq_true rfl, Nat.le_of_ble_eq_true rfl⟩) ho rfl rfl hP hS hA rfl hl.1 rfl (Nat.le_of_ble_eq_true rfl) dX5_toldBy_19 ⟨Nat.le_refl _, Nat.le_refl _⟩ kk
  · exact g_callU (As := [.int q3, .int v3]) (rest := []) hx hb hml hown hts hK hN (m_X8_tellsAtMost l D a C ha h q2 hper q3 v3 q4 hv) (va_cwO 2 hts gX5_toldBy_X8_tellsAtMost_u143X8 rfl rfl rfl (List.mem_of_getElem? (i := 37) rfl) kvtellsAtMost ⟨Nat.le_of_ble_eq_true rfl, Nat.le_of_ble_eq_true rfl⟩) ho rfl rfl hP hS hA rfl hl.1 rfl (Nat.le_of_ble_eq_true rfl) dX5_toldBy_19 ⟨Nat.le_refl _, Nat.le_refl _⟩ kk
  · exact g_callU (As := [.int q3, .int v3]) (rest := []) hx hb hml hown hts hK hN (m_X2_tellsAtMost l D a C ha h q2 hper q3 v3 q4 hv) (va_cwO 2 hts gX5_toldBy_X2_tellsAtMost_u143X2 rfl rfl rfl (List.mem_of_getElem? (i := 37) rfl) kvtellsAtMost ⟨Nat.le_of_ble_eq_true rfl, Nat.le_of_ble_eq_true rfl⟩) ho rfl rfl hP hS hA rfl hl.1 rfl (Nat.le_of_ble_eq_true rfl) dX5_toldBy_19 ⟨Nat.le_refl _, Nat.le_refl _⟩ kk
  · exact g_callU (As := [.int q3, .int v3]) (rest := []) hx hb hml hown hts hK hN (m_X3_tellsAtMost l D a C ha h q2 hper q3 v3 q4 hv) (va_cwO 2 hts gX5_toldBy_X3_tellsAtMost_u143X3 rfl rfl rfl (List.mem_of_getElem? (i := 37) rfl) kvtellsAtMost ⟨Nat.le_of_ble_eq_true rfl, Nat.le_of_ble_eq_true rfl⟩) ho rfl rfl hP hS hA rfl hl.1 rfl (Nat.le_of_ble_eq_true rfl) dX5_toldBy_19 ⟨Nat.le_refl _, Nat.le_refl _⟩ kk
  · exact g_callU (As := [.int q3, .int v3]) (rest := []) hx hb hml hown hts hK hN (m_X10_tellsAtMost l D a C ha h q2 hper q3 v3 q4 hv) (va_cwO 2 hts gX5_toldBy_X10_tellsAtMost_u143X10 rfl rfl rfl (List.mem_of_getElem? (i := 37) rfl) kvtellsAtMost ⟨Nat.le_of_ble_eq_true rfl, Nat.le_of_ble_eq_true rfl⟩) ho rfl rfl hP hS hA rfl hl.1 rfl (Nat.le_of_ble_eq_true rfl) dX5_toldBy_19 ⟨Nat.le_refl _, Nat.le_refl _⟩ kk
  · exact g_callU (As := [.int q3, .int v3]) (rest := []) hx hb hml hown hts hK hN (m_X9_tellsAtMost l D a C ha h q2 hper q3 v3 q4 hv) (va_cwO 2 hts gX5_toldBy_X9_tellsAtMost_u143X9 rfl rfl rfl (List.mem_of_getElem? (i := 37) rfl) kvtellsAtMost ⟨Nat.le_of_ble_eq_true rfl, Nat.le_of_ble_eq_true rfl⟩) ho rfl rfl hP hS hA rfl hl.1 rfl (Nat.le_of_ble_eq_true rfl) dX5_toldBy_19 ⟨Nat.le_refl _, Nat.le_refl _⟩ kk
  · exact g_callU (As := [.int q3, .int v3]) (rest := []) hx hb hml hown hts hK hN (m_X0_tellsAtMost l D a C ha h q2 hper q3 v3 q4 hv) (va_cwO 2 hts gX5_toldBy_X0_tellsAtMost_u143X0 rfl rfl rfl (List.mem_of_getElem? (i := 37) rfl) kvtellsAtMost ⟨Nat.le_of_ble_eq_true rfl, Nat.le_of_ble_eq_true rfl⟩) ho rfl rfl hP hS hA rfl hl.1 rfl (Nat.le_of_ble_eq_true rfl) dX5_toldBy_19 ⟨Nat.le_refl _, Nat.le_refl _⟩ kk
  · exact g_callU (As := [.int q3, .int v3]) (rest := []) hx hb hml hown hts hK hN (m_X3_tellsAtMost l D a C ha h q2 hper q3 v3 q4 hv) (va_cwO 2 hts gX5_toldBy_X3_tellsAtMost_u143X1 rfl rfl rfl (List.mem_of_getElem? (i := 37) rfl) kvtellsAtMost ⟨Nat.le_of_ble_eq_true rfl, Nat.le_of_ble_eq_true rfl⟩) ho rfl rfl hP hS hA rfl hl.1 rfl (Nat.le_of_ble_eq_true rfl) dX5_toldBy_19 ⟨Nat.le_refl _, Nat.le_refl _⟩ kk

def X5_nextHeard_B61 (h : HS) (v0 : Nat) (v1 : Int32) (v2 : Int32) (v3 : Int32) (k6 : Int32 → Int32 → Option Int32) (v4 : Int32) (v5 : Int32) : Option Int32 :=
    nm (v5 + 1) fun x7 =>
    k6 v4 x7
def X5_nextHeard_B6 (h : HS) (v0 : Nat) (v1 : Int32) (v2 : Int32) (v3 : Int32) : Nat → Int32 → Int32 → Option Int32
  | 0, _, _ => none
  | fu + 1, v4, v5 =>
    (X5_people h v0).bind fun q1 =>
    (if q1 ≤ v5 then
    some v4
    else
    (if ((v1 &&& (v3 ^^^ (-1))) &&& ((1 : Int32) <<< (v5 &&& 31))) = 0 then
    X5_nextHeard_B61 h v0 v1 v2 v3 (X5_nextHeard_B6 h v0 v1 v2 v3 fu) v4 v5
    else
    (X4_around h (v0 + 1) v5).bind fun q4 =>
    (X5_toldBy h v0 v5 ((q4 &&& (v4 ^^^ (-1))) &&& ((fI h v0 5) ^^^ (-1))) v2).bind fun q5 =>
    nm (v4 ||| q5) fun x6 =>
    X5_nextHeard_B61 h v0 v1 v2 v3 (X5_nextHeard_B6 h v0 v1 v2 v3 fu) x6 v5))
def X5_nextHeard (h : HS) (v0 : Nat) (v1 : Int32) (v2 : Int32) (v3 : Int32) : Option Int32 :=
    X5_nextHeard_B6 h v0 v1 v2 v3 FU v1 0
def rmX5_nextHeard : Room := { frames := 4, cells := 0, slots := 0, locals := 93 }
theorem kdX5_nextHeard : yX5_nextHeard.cls = RX5 ∧ yX5_nextHeard.cls ≠ "java/lang/invoke/MethodHandle" ∧ yX5_nextHeard.cls ≠ "java/lang/invoke/VarHandle" ∧ (parseMethodDescriptor yX5_nextHeard.desc).map (fun d => d.parameters.length) = some 3 := by decide +kernel
set_option maxHeartbeats 4000000 in
set_option maxRecDepth 100000 in
theorem m_X5_nextHeard (l : Launch) (D : va_G) (a : Nat → Nat) (C : Nat → ClassId) (ha : ginj a) (h : HS) (v0 : Nat) (v1 : Int32) (v2 : Int32) (v3 : Int32) (hv0 : isPar v0) (r : Int32) (hf : X5_nextHeard h v0 v1 v2 v3 = some r) : gM l yX5_nextHeard wsX5_nextHeard rmX5_nextHeard D a C [.ref (a v0), .int v1, .int v2, .int v3] h (some (.int r)) h := by
  refine g_start (av := [.ref (a v0), .int v1, .int v2, .int v3]) (cc := cX5_nextHeard) (maxL := 6) (rt := (some .int)) (by decide) rfl (Nat.le_of_ble_eq_true rfl) ?_
  intro p e s m below meth c hx hb hr hml hown hlk hts hP hK hN ls hl
  have hA : ∀ q, gA a q → gA a q := fun _ q => q
  have hS : va_S (gA a) s.heap s.heap [] := va_S.rf
  have hl : lv_has ls 6 [(0, .ref (a v0)), (1, .int v1), (2, .int v2), (3, .int v3)] := hl
  have J61 : ∀ (k6 : Int32 → Int32 → Option Int32) (hk6 : ∀ (v4 : Int32) (v5 : Int32), k6 v4 v5 = some r → gG p l e (headSpec wsX5_nextHeard rmX5_nextHeard).room s m ([.ref (a v0), .int v1, .int v2, .int v3] : List Value).toArray below meth c (MQ below (gQ (some (.int r)) D a C h) ([.ref (a v0), .int v1, .int v2, .int v3] : List Value).toArray s 0 0 (gA a)) D a C 6 h 6 [(0, .ref (a v0)), (1, .int v1), (2, .int v2), (3, .int v3), (4, .int v4), (5, .int v5)] []) (v4 : Int32) (v5 : Int32) (_ : X5_nextHeard_B61 h v0 v1 v2 v3 k6 v4 v5 = some r), gG p l e (headSpec wsX5_nextHeard rmX5_nextHeard).room s m ([.ref (a v0), .int v1, .int v2, .int v3] : List Value).toArray below meth c (MQ below (gQ (some (.int r)) D a C h) ([.ref (a v0), .int v1, .int v2, .int v3] : List Value).toArray s 0 0 (gA a)) D a C 6 h 61 [(0, .ref (a v0)), (1, .int v1), (2, .int v2), (3, .int v3), (4, .int v4), (5, .int v5)] [] := by
    intro k6 hk6 v4 v5 hf H locs ls hP hS hl
    unfold X5_nextHeard_B61 at hf
    obtain ⟨x7, ex7⟩ : ∃ y : Int32, y = (v5 + 1) := ⟨_, rfl⟩
    have hf := nm_s hf ex7
    refine lv_iinc (v := x7) (lv' := [(5, .int x7), (0, .ref (a v0)), (1, .int v1), (2, .int v2), (3, .int v3), (4, .int v4)]) hx hb dX5_nextHeard_61 hl (k := 5) rfl (by rw [ex7]; rfl) (by decide) rfl (fun ls hl => ?_)
    refine lv_goto (tgt := 6) hx hb dX5_nextHeard_64 (by decide) ?_
    exact hk6 v4 x7 hf H locs ls hP hS (lv_sub hl [1, 2, 3, 4, 5, 0] rfl)
  have J6 : ∀ (fu : Nat) (v4 : Int32) (v5 : Int32), X5_nextHeard_B6 h v0 v1 v2 v3 fu v4 v5 = some r → gG p l e (headSpec wsX5_nextHeard rmX5_nextHeard).room s m ([.ref (a v0), .int v1, .int v2, .int v3] : List Value).toArray below meth c (MQ below (gQ (some (.int r)) D a C h) ([.ref (a v0), .int v1, .int v2, .int v3] : List Value).toArray s 0 0 (gA a)) D a C 6 h 6 [(0, .ref (a v0)), (1, .int v1), (2, .int v2), (3, .int v3), (4, .int v4), (5, .int v5)] [] := by
    intro fu
    induction fu with
    | zero => intro v4 v5 hf; exact absurd hf (by simp [X5_nextHeard_B6])
    | succ fu ih =>
      intro v4 v5 hf H locs ls hP hS hl
      rw [X5_nextHeard_B6] at hf
      refine lv_iload hx hb dX5_nextHeard_6 (lv_at hl 5 rfl) ?_
      refine lv_aload_n hx hb dX5_nextHeard_8 rfl (lv_at hl 0 rfl) ?_
      obtain ⟨q1, hq1, hf⟩ := bind_s hf
      refine g_callV (As := []) (rest := [.int v5]) hx hb hml hown hts hK hN (m_X5_people l D a C ha h v0 hv0 q1 hq1) (cwV 0 hts gX5_nextHeard_X5_people rfl rfl rfl kdX5_people ⟨Nat.le_of_ble_eq_true rfl, Nat.le_of_ble_eq_true rfl⟩) (par_O hv0) rfl rfl hP hS hA rfl hl.1 rfl (Nat.le_of_ble_eq_true rfl) dX5_nextHeard_9 ⟨Nat.le_refl _, Nat.le_refl _⟩ (fun H locs hP hS => ?_)
      refine W.eq (g2 := F0 m 12 ls [.int q1, .int v5]) rfl ?_
      refine lv_icmp_ge (tgt := 67) hx hb dX5_nextHeard_12 (by decide) (fun c2 => ?_) (fun c2 => ?_)
      · have hf := if_t hf c2
        refine lv_iload hx hb dX5_nextHeard_67 (lv_at hl 4 rfl) ?_
        exact g_iret hx hb hr hlk hP hS (ret1 hf) dX5_nextHeard_69
      · have hf := if_f hf c2
        refine lv_iload_n hx hb dX5_nextHeard_15 rfl (lv_at hl 1 rfl) ?_
        refine lv_iload_n hx hb dX5_nextHeard_16 rfl (lv_at hl 3 rfl) ?_
        refine lv_iconst (v := (-1)) hx hb dX5_nextHeard_17 (by decide) ?_
        refine lv_ixor hx hb dX5_nextHeard_18 ?_
        refine lv_iand hx hb dX5_nextHeard_19 ?_
        refine lv_iconst (v := 1) hx hb dX5_nextHeard_20 (by decide) ?_
        refine lv_iload hx hb dX5_nextHeard_21 (lv_at hl 5 rfl) ?_
        refine lv_ishl hx hb dX5_nextHeard_23 ?_
        refine lv_iand hx hb dX5_nextHeard_24 ?_
        refine lv_if_eq (tgt := 61) hx hb dX5_nextHeard_25 (by decide) (fun c3 => ?_) (fun c3 => ?_)
        · have hf := if_t hf c3
          exact J61 (X5_nextHeard_B6 h v0 v1 v2 v3 fu) ih v4 v5 hf H locs ls hP hS (lv_sub hl [0, 1, 2, 3, 4, 5] rfl)
        · have hf := if_f hf c3
          refine lv_iload hx hb dX5_nextHeard_28 (lv_at hl 4 rfl) ?_
          refine lv_aload_n hx hb dX5_nextHeard_30 rfl (lv_at hl 0 rfl) ?_
          refine lv_iload hx hb dX5_nextHeard_31 (lv_at hl 5 rfl) ?_
          refine lv_aload_n hx hb dX5_nextHeard_33 rfl (lv_at hl 0 rfl) ?_
          refine g_get (Cn := RX5) (T := TX5) (N := 7) (v := .ref (a (v0 + 1))) (own := RX5) hx hb hown hts hK (par_O hv0) rfl (fun _ hw => List.mem_cons_of_mem _ (List.mem_append_left _ (List.mem_append_right _ hw))) 0 (by decide) (List.mem_of_getElem? (i := 1) rfl) rfl rfl hP dX5_nextHeard_34 ?_
          refine lv_iload hx hb dX5_nextHeard_37 (lv_at hl 5 rfl) ?_
          obtain ⟨q4, hq4, hf⟩ := bind_s hf
          refine g_callV (As := [.int v5]) (rest := [.int v5, .ref (a v0), .int v4]) hx hb hml hown hts hK hN (m_X4_around l D a C ha h (v0 + 1) v5 (par_lin hv0) q4 hq4) (cwV 1 hts gX5_nextHeard_X4_around rfl rfl rfl kdX4_around ⟨Nat.le_of_ble_eq_true rfl, Nat.le_of_ble_eq_true rfl⟩) (lin_O (par_lin hv0)) rfl rfl hP hS hA rfl hl.1 rfl (Nat.le_of_ble_eq_true rfl) dX5_nextHeard_39 ⟨Nat.le_refl _, Nat.le_refl _⟩ (fun H locs hP hS => ?_)
          refine W.eq (g2 := F0 m 42 ls [.int q4, .int v5, .ref (a v0), .int v4]) rfl ?_
          refine lv_iload hx hb dX5_nextHeard_42 (lv_at hl 4 rfl) ?_
          refine lv_iconst (v := (-1)) hx hb dX5_nextHeard_44 (by decide) ?_
          refine lv_ixor hx hb dX5_nextHeard_45 ?_
          refine lv_iand hx hb dX5_nextHeard_46 ?_
          refine lv_aload_n hx hb dX5_nextHeard_47 rfl (lv_at hl 0 rfl) ?_
          refine g_get (Cn := RX5) (T := TX5) (N := 7) (v := .int (fI h v0 5)) (own := RX5) hx hb hown hts hK (par_O hv0) rfl (fun _ hw => List.mem_cons_of_mem _ (List.mem_append_left _ (List.mem_append_right _ hw))) 5 (by decide) (List.mem_of_getElem? (i := 2) rfl) rfl rfl hP dX5_nextHeard_48 ?_
          refine lv_iconst (v := (-1)) hx hb dX5_nextHeard_51 (by decide) ?_
          refine lv_ixor hx hb dX5_nextHeard_52 ?_
          refine lv_iand hx hb dX5_nextHeard_53 ?_
          refine lv_iload_n hx hb dX5_nextHeard_54 rfl (lv_at hl 2 rfl) ?_
          obtain ⟨q5, hq5, hf⟩ := bind_s hf
          refine g_callV (As := [.int v5, .int ((q4 &&& (v4 ^^^ (-1))) &&& ((fI h v0 5) ^^^ (-1))), .int v2]) (rest := [.int v4]) hx hb hml hown hts hK hN (m_X5_toldBy l D a C ha h v0 v5 ((q4 &&& (v4 ^^^ (-1))) &&& ((fI h v0 5) ^^^ (-1))) v2 hv0 q5 hq5) (cwV 3 hts gX5_nextHeard_X5_toldBy rfl rfl rfl kdX5_toldBy ⟨Nat.le_of_ble_eq_true rfl, Nat.le_of_ble_eq_true rfl⟩) (par_O hv0) rfl rfl hP hS hA rfl hl.1 rfl (Nat.le_of_ble_eq_true rfl) dX5_nextHeard_55 ⟨Nat.le_refl _, Nat.le_refl _⟩ (fun H locs hP hS => ?_)
          refine W.eq (g2 := F0 m 58 ls [.int q5, .int v4]) rfl ?_
          refine lv_ior hx hb dX5_nextHeard_58 ?_
          refine lv_topi (fun x6 ex6 => ?_)
          have hf := nm_s hf ex6
          refine lv_istore (lv' := [(4, .int x6), (0, .ref (a v0)), (1, .int v1), (2, .int v2), (3, .int v3), (5, .int v5)]) hx hb dX5_nextHeard_59 hl (by decide) rfl (fun ls hl => ?_)
          exact J61 (X5_nextHeard_B6 h v0 v1 v2 v3 fu) ih x6 v5 hf H locs ls hP hS (lv_sub hl [1, 2, 3, 4, 0, 5] rfl)
  unfold X5_nextHeard at hf
  suffices hh : ∀ (H : Heap) (locs : List Loc), va_P D vwCl (gw a C h) H → va_S (gA a) s.heap H locs → W p l e (headSpec wsX5_nextHeard rmX5_nextHeard).room s m ([.ref (a v0), .int v1, .int v2, .int v3] : List Value).toArray below meth c H locs 0 0 (MQ below (gQ (some (.int r)) D a C h) ([.ref (a v0), .int v1, .int v2, .int v3] : List Value).toArray s 0 0 (gA a)) (F0 m 0 ls []) from hh _ _ hP hS
  intro H locs hP hS
  refine lv_iload_n hx hb dX5_nextHeard_0 rfl (lv_at hl 1 rfl) ?_
  refine lv_istore (lv' := [(4, .int v1), (0, .ref (a v0)), (1, .int v1), (2, .int v2), (3, .int v3)]) hx hb dX5_nextHeard_1 hl (by decide) rfl (fun ls hl => ?_)
  refine lv_iconst (v := 0) hx hb dX5_nextHeard_3 (by decide) ?_
  refine lv_istore (lv' := [(5, .int 0), (4, .int v1), (0, .ref (a v0)), (1, .int v1), (2, .int v2), (3, .int v3)]) hx hb dX5_nextHeard_4 hl (by decide) rfl (fun ls hl => ?_)
  exact J6 FU v1 0 hf H locs ls hP hS (lv_sub hl [2, 3, 4, 5, 1, 0] rfl)

def X5_goOn_B30 (v0 : Nat) (v1 : Int32) : Nat → Int32 → HS → Option (Int32 × HS)
  | 0, _, _ => none
  | fu + 1, v2, h =>
    (if v1 ≤ v2 then
    (J6_bitCount_0f7a4 (fI h v0 4)).bind fun q5 =>
    some (q5, h)
    else
    nm (sF h v0 6 ((fI h v0 6) + 1)) fun h6 =>
    (X5_nextHeard h6 v0 (fI h6 v0 4) (fI h6 v0 6) 0).bind fun q7 =>
    nm (sF h6 v0 4 q7) fun h8 =>
    nm (v2 + 1) fun x9 =>
    (X5_goOn_B30 v0 v1 fu) x9 h8)
def X5_goOn (h : HS) (v0 : Nat) (v1 : Int32) : Option (Int32 × HS) :=
    (if v1 < 1 then
    some ((-1), h)
    else
    (if v1 ≤ 60 then
    (if ((fI h v0 6) + v1) ≤ 999 then
    X5_goOn_B30 v0 v1 FU 0 h
    else
    some ((-3), h))
    else
    some ((-1), h)))
def rmX5_goOn : Room := { frames := 5, cells := 0, slots := 0, locals := 118 }
theorem kdX5_goOn : yX5_goOn.cls = RX5 ∧ yX5_goOn.cls ≠ "java/lang/invoke/MethodHandle" ∧ yX5_goOn.cls ≠ "java/lang/invoke/VarHandle" ∧ (parseMethodDescriptor yX5_goOn.desc).map (fun d => d.parameters.length) = some 1 := by decide +kernel
set_option maxHeartbeats 4000000 in
set_option maxRecDepth 100000 in
theorem m_X5_goOn (l : Launch) (D : va_G) (a : Nat → Nat) (C : Nat → ClassId) (ha : ginj a) (h : HS) (v0 : Nat) (v1 : Int32) (hv0 : isPar v0) (r : Int32) (h' : HS) (hf : X5_goOn h v0 v1 = some (r, h')) : gM l yX5_goOn wsX5_goOn rmX5_goOn D a C [.ref (a v0), .int v1] h (some (.int r)) h' := by
  refine g_start (av := [.ref (a v0), .int v1]) (cc := cX5_goOn) (maxL := 3) (rt := (some .int)) (by decide) rfl (Nat.le_of_ble_eq_true rfl) ?_
  intro p e s m below meth c hx hb hr hml hown hlk hts hP hK hN ls hl
  have hA : ∀ q, gA a q → gA a q := fun _ q => q
  have hS : va_S (gA a) s.heap s.heap [] := va_S.rf
  have hl : lv_has ls 3 [(0, .ref (a v0)), (1, .int v1)] := hl
  have J30 : ∀ (fu : Nat) (v2 : Int32) (h : HS), X5_goOn_B30 v0 v1 fu v2 h = some (r, h') → gG p l e (headSpec wsX5_goOn rmX5_goOn).room s m ([.ref (a v0), .int v1] : List Value).toArray below meth c (MQ below (gQ (some (.int r)) D a C h') ([.ref (a v0), .int v1] : List Value).toArray s 0 0 (gA a)) D a C 3 h 30 [(0, .ref (a v0)), (1, .int v1), (2, .int v2)] [] := by
    intro fu
    induction fu with
    | zero => intro v2 h hf; exact absurd hf (by simp [X5_goOn_B30])
    | succ fu ih =>
      intro v2 h hf H locs ls hP hS hl
      rw [X5_goOn_B30] at hf
      refine lv_iload_n hx hb dX5_goOn_30 rfl (lv_at hl 2 rfl) ?_
      refine lv_iload_n hx hb dX5_goOn_31 rfl (lv_at hl 1 rfl) ?_
      refine lv_icmp_ge (tgt := 68) hx hb dX5_goOn_32 (by decide) (fun c4 => ?_) (fun c4 => ?_)
      · have hf := if_t hf c4
        refine lv_aload_n hx hb dX5_goOn_68 rfl (lv_at hl 0 rfl) ?_
        refine g_get (Cn := RX5) (T := TX5) (N := 7) (v := .int (fI h v0 4)) (own := RX5) hx hb hown hts hK (par_O hv0) rfl (fun _ hw => List.mem_cons_of_mem _ (List.mem_append_left _ (List.mem_append_right _ hw))) 4 (by decide) (List.mem_of_getElem? (i := 2) rfl) rfl rfl hP dX5_goOn_69 ?_
        obtain ⟨q5, hq5, hf⟩ := bind_s hf
        refine g_callS (As := [.int (fI h v0 4)]) (rest := []) hx hb hml hown hts hK hN (m_J6_bitCount_0f7a4 l D a C ha h (fI h v0 4)  q5 hq5) (va_cwS 1 hts gX5_goOn_J6_bitCount_0f7a4 rfl rfl rfl kdJ6_bitCount_0f7a4.2 ⟨Nat.le_of_ble_eq_true rfl, Nat.le_of_ble_eq_true rfl⟩) hP hS hA rfl hl.1 rfl (Nat.le_of_ble_eq_true rfl) dX5_goOn_72 ⟨Nat.le_refl _, Nat.le_refl _⟩ (fun H locs hP hS => ?_)
        refine W.eq (g2 := F0 m 75 ls [.int q5]) rfl ?_
        exact g_iretW hx hb hr hlk hP hS (ret2 hf) dX5_goOn_75
      · have hf := if_f hf c4
        refine lv_aload_n hx hb dX5_goOn_35 rfl (lv_at hl 0 rfl) ?_
        refine lv_dup hx hb dX5_goOn_36 rfl ?_
        refine g_get (Cn := RX5) (T := TX5) (N := 7) (v := .int (fI h v0 6)) (own := RX5) hx hb hown hts hK (par_O hv0) rfl (fun _ hw => List.mem_cons_of_mem _ (List.mem_append_left _ (List.mem_append_right _ hw))) 6 (by decide) (List.mem_of_getElem? (i := 1) rfl) rfl rfl hP dX5_goOn_37 ?_
        refine lv_iconst (v := 1) hx hb dX5_goOn_40 (by decide) ?_
        refine lv_iadd hx hb dX5_goOn_41 ?_
        refine g_put (Cn := RX5) (T := TX5) (N := 7) (ty0 := tyX5) (own := RX5) hx hb hown hts hK ha hA (par_O hv0) rfl (fun _ hw => List.mem_cons_of_mem _ (List.mem_append_left _ (List.mem_append_right _ hw))) tyX5_ok nmX5 6 (by decide) (List.mem_of_getElem? (i := 1) rfl) rfl rfl rfl rfl rfl hP hS dX5_goOn_42 (fun H locs hP hS => ?_)
        obtain ⟨h6, eh6⟩ : ∃ x, x = (sF h v0 6 ((fI h v0 6) + 1)) := ⟨_, rfl⟩
        rw [← eh6] at hP
        have hf := nm_s hf eh6
        refine lv_aload_n hx hb dX5_goOn_45 rfl (lv_at hl 0 rfl) ?_
        refine lv_aload_n hx hb dX5_goOn_46 rfl (lv_at hl 0 rfl) ?_
        refine lv_aload_n hx hb dX5_goOn_47 rfl (lv_at hl 0 rfl) ?_
        refine g_get (Cn := RX5) (T := TX5) (N := 7) (v := .int (fI h6 v0 4)) (own := RX5) hx hb hown hts hK (par_O hv0) rfl (fun _ hw => List.mem_cons_of_mem _ (List.mem_append_left _ (List.mem_append_right _ hw))) 4 (by decide) (List.mem_of_getElem? (i := 2) rfl) rfl rfl hP dX5_goOn_48 ?_
        refine lv_aload_n hx hb dX5_goOn_51 rfl (lv_at hl 0 rfl) ?_
        refine g_get (Cn := RX5) (T := TX5) (N := 7) (v := .int (fI h6 v0 6)) (own := RX5) hx hb hown hts hK (par_O hv0) rfl (fun _ hw => List.mem_cons_of_mem _ (List.mem_append_left _ (List.mem_append_right _ hw))) 6 (by decide) (List.mem_of_getElem? (i := 1) rfl) rfl rfl hP dX5_goOn_52 ?_
        refine lv_iconst (v := 0) hx hb dX5_goOn_55 (by decide) ?_
        obtain ⟨q7, hq7, hf⟩ := bind_s hf
        refine g_callV (As := [.int (fI h6 v0 4), .int (fI h6 v0 6), .int 0]) (rest := [.ref (a v0)]) hx hb hml hown hts hK hN (m_X5_nextHeard l D a C ha h6 v0 (fI h6 v0 4) (fI h6 v0 6) 0 hv0 q7 hq7) (cwV 3 hts gX5_goOn_X5_nextHeard rfl rfl rfl kdX5_nextHeard ⟨Nat.le_of_ble_eq_true rfl, Nat.le_of_ble_eq_true rfl⟩) (par_O hv0) rfl rfl hP hS hA rfl hl.1 rfl (Nat.le_of_ble_eq_true rfl) dX5_goOn_56 ⟨Nat.le_refl _, Nat.le_refl _⟩ (fun H locs hP hS => ?_)
        refine W.eq (g2 := F0 m 59 ls [.int q7, .ref (a v0)]) rfl ?_
        refine g_put (Cn := RX5) (T := TX5) (N := 7) (ty0 := tyX5) (own := RX5) hx hb hown hts hK ha hA (par_O hv0) rfl (fun _ hw => List.mem_cons_of_mem _ (List.mem_append_left _ (List.mem_append_right _ hw))) tyX5_ok nmX5 4 (by decide) (List.mem_of_getElem? (i := 2) rfl) rfl rfl rfl rfl rfl hP hS dX5_goOn_59 (fun H locs hP hS => ?_)
        obtain ⟨h8, eh8⟩ : ∃ x, x = (sF h6 v0 4 q7) := ⟨_, rfl⟩
        rw [← eh8] at hP
        have hf := nm_s hf eh8
        obtain ⟨x9, ex9⟩ : ∃ y : Int32, y = (v2 + 1) := ⟨_, rfl⟩
        have hf := nm_s hf ex9
        refine lv_iinc (v := x9) (lv' := [(2, .int x9), (0, .ref (a v0)), (1, .int v1)]) hx hb dX5_goOn_62 hl (k := 2) rfl (by rw [ex9]; rfl) (by decide) rfl (fun ls hl => ?_)
        refine lv_goto (tgt := 30) hx hb dX5_goOn_65 (by decide) ?_
        exact ih x9 h8 hf H locs ls hP hS (lv_sub hl [1, 2, 0] rfl)
  unfold X5_goOn at hf
  suffices hh : ∀ (H : Heap) (locs : List Loc), va_P D vwCl (gw a C h) H → va_S (gA a) s.heap H locs → W p l e (headSpec wsX5_goOn rmX5_goOn).room s m ([.ref (a v0), .int v1] : List Value).toArray below meth c H locs 0 0 (MQ below (gQ (some (.int r)) D a C h') ([.ref (a v0), .int v1] : List Value).toArray s 0 0 (gA a)) (F0 m 0 ls []) from hh _ _ hP hS
  intro H locs hP hS
  refine lv_iload_n hx hb dX5_goOn_0 rfl (lv_at hl 1 rfl) ?_
  refine lv_iconst (v := 1) hx hb dX5_goOn_1 (by decide) ?_
  refine lv_icmp_lt (tgt := 11) hx hb dX5_goOn_2 (by decide) (fun c1 => ?_) (fun c1 => ?_)
  · have hf := if_t hf c1
    refine lv_iconst (v := (-1)) hx hb dX5_goOn_11 (by decide) ?_
    exact g_iretW hx hb hr hlk hP hS (ret2 hf) dX5_goOn_12
  · have hf := if_f hf c1
    refine lv_iload_n hx hb dX5_goOn_5 rfl (lv_at hl 1 rfl) ?_
    refine lv_bipush (v := 60) hx hb dX5_goOn_6 (by decide) ?_
    refine lv_icmp_le (tgt := 13) hx hb dX5_goOn_8 (by decide) (fun c2 => ?_) (fun c2 => ?_)
    · have hf := if_t hf c2
      refine lv_aload_n hx hb dX5_goOn_13 rfl (lv_at hl 0 rfl) ?_
      refine g_get (Cn := RX5) (T := TX5) (N := 7) (v := .int (fI h v0 6)) (own := RX5) hx hb hown hts hK (par_O hv0) rfl (fun _ hw => List.mem_cons_of_mem _ (List.mem_append_left _ (List.mem_append_right _ hw))) 6 (by decide) (List.mem_of_getElem? (i := 1) rfl) rfl rfl hP dX5_goOn_14 ?_
      refine lv_iload_n hx hb dX5_goOn_17 rfl (lv_at hl 1 rfl) ?_
      refine lv_iadd hx hb dX5_goOn_18 ?_
      refine lv_sipush (v := 999) hx hb dX5_goOn_19 (by decide) ?_
      refine lv_icmp_le (tgt := 28) hx hb dX5_goOn_22 (by decide) (fun c3 => ?_) (fun c3 => ?_)
      · have hf := if_t hf c3
        refine lv_iconst (v := 0) hx hb dX5_goOn_28 (by decide) ?_
        refine lv_istore_n (lv' := [(2, .int 0), (0, .ref (a v0)), (1, .int v1)]) hx hb dX5_goOn_29 rfl hl (by decide) rfl (fun ls hl => ?_)
        exact J30 FU 0 h hf H locs ls hP hS (lv_sub hl [1, 2, 0] rfl)
      · have hf := if_f hf c3
        refine lv_bipush (v := (-3)) hx hb dX5_goOn_25 (by decide) ?_
        exact g_iretW hx hb hr hlk hP hS (ret2 hf) dX5_goOn_27
    · have hf := if_f hf c2
      refine lv_iconst (v := (-1)) hx hb dX5_goOn_11 (by decide) ?_
      exact g_iretW hx hb hr hlk hP hS (ret2 hf) dX5_goOn_12

def X5_behind_B52 (h : HS) (v0 : Nat) (v1 : Int32) (v2 : Int32) (v3 : Int32) (k9 : Int32 → Int32 → Int32 → Option Int32) (v6 : Int32) (v7 : Int32) (s0 : Int32) : Option Int32 :=
    nm (v6 + 1) fun x5 =>
    k9 v7 s0 x5
def X5_behind_B9 (h : HS) (v0 : Nat) (v1 : Int32) (v2 : Int32) (v3 : Int32) : Nat → Int32 → Int32 → Int32 → Option Int32
  | 0, _, _, _ => none
  | fu + 1, v4, v5, v6 =>
    (if v2 < v6 then
    some v4
    else
    (if 2 ≤ v5 then
    some v4
    else
    (X5_nextHeard h v0 v4 ((fI h v0 6) + v6) v3).bind fun q3 =>
    (if q3 = v4 then
    X5_behind_B52 h v0 v1 v2 v3 (X5_behind_B9 h v0 v1 v2 v3 fu) v6 q3 (v5 + 1)
    else
    X5_behind_B52 h v0 v1 v2 v3 (X5_behind_B9 h v0 v1 v2 v3 fu) v6 q3 0)))
def X5_behind (h : HS) (v0 : Nat) (v1 : Int32) (v2 : Int32) (v3 : Int32) : Option Int32 :=
    X5_behind_B9 h v0 v1 v2 v3 FU v1 0 1
def rmX5_behind : Room := { frames := 5, cells := 0, slots := 0, locals := 118 }
theorem kdX5_behind : yX5_behind.cls = RX5 ∧ yX5_behind.cls ≠ "java/lang/invoke/MethodHandle" ∧ yX5_behind.cls ≠ "java/lang/invoke/VarHandle" ∧ (parseMethodDescriptor yX5_behind.desc).map (fun d => d.parameters.length) = some 3 := by decide +kernel
set_option maxHeartbeats 4000000 in
set_option maxRecDepth 100000 in
theorem m_X5_behind (l : Launch) (D : va_G) (a : Nat → Nat) (C : Nat → ClassId) (ha : ginj a) (h : HS) (v0 : Nat) (v1 : Int32) (v2 : Int32) (v3 : Int32) (hv0 : isPar v0) (r : Int32) (hf : X5_behind h v0 v1 v2 v3 = some r) : gM l yX5_behind wsX5_behind rmX5_behind D a C [.ref (a v0), .int v1, .int v2, .int v3] h (some (.int r)) h := by
  refine g_start (av := [.ref (a v0), .int v1, .int v2, .int v3]) (cc := cX5_behind) (maxL := 8) (rt := (some .int)) (by decide) rfl (Nat.le_of_ble_eq_true rfl) ?_
  intro p e s m below meth c hx hb hr hml hown hlk hts hP hK hN ls hl
  have hA : ∀ q, gA a q → gA a q := fun _ q => q
  have hS : va_S (gA a) s.heap s.heap [] := va_S.rf
  have hl : lv_has ls 8 [(0, .ref (a v0)), (1, .int v1), (2, .int v2), (3, .int v3)] := hl
  have J52 : ∀ (k9 : Int32 → Int32 → Int32 → Option Int32) (hk9 : ∀ (v4 : Int32) (v5 : Int32) (v6 : Int32), k9 v4 v5 v6 = some r → gG p l e (headSpec wsX5_behind rmX5_behind).room s m ([.ref (a v0), .int v1, .int v2, .int v3] : List Value).toArray below meth c (MQ below (gQ (some (.int r)) D a C h) ([.ref (a v0), .int v1, .int v2, .int v3] : List Value).toArray s 0 0 (gA a)) D a C 8 h 9 [(0, .ref (a v0)), (2, .int v2), (3, .int v3), (4, .int v4), (5, .int v5), (6, .int v6)] []) (v6 : Int32) (v7 : Int32) (s0 : Int32) (_ : X5_behind_B52 h v0 v1 v2 v3 k9 v6 v7 s0 = some r), gG p l e (headSpec wsX5_behind rmX5_behind).room s m ([.ref (a v0), .int v1, .int v2, .int v3] : List Value).toArray below meth c (MQ below (gQ (some (.int r)) D a C h) ([.ref (a v0), .int v1, .int v2, .int v3] : List Value).toArray s 0 0 (gA a)) D a C 8 h 52 [(0, .ref (a v0)), (2, .int v2), (3, .int v3), (6, .int v6), (7, .int v7)] [.int s0] := by
    intro k9 hk9 v6 v7 s0 hf H locs ls hP hS hl
    unfold X5_behind_B52 at hf
    refine lv_istore (lv' := [(5, .int s0), (0, .ref (a v0)), (2, .int v2), (3, .int v3), (6, .int v6), (7, .int v7)]) hx hb dX5_behind_52 hl (by decide) rfl (fun ls hl => ?_)
    refine lv_iload hx hb dX5_behind_54 (lv_at hl 5 rfl) ?_
    refine lv_istore (lv' := [(4, .int v7), (5, .int s0), (0, .ref (a v0)), (2, .int v2), (3, .int v3), (6, .int v6), (7, .int v7)]) hx hb dX5_behind_56 hl (by decide) rfl (fun ls hl => ?_)
    obtain ⟨x5, ex5⟩ : ∃ y : Int32, y = (v6 + 1) := ⟨_, rfl⟩
    have hf := nm_s hf ex5
    refine lv_iinc (v := x5) (lv' := [(6, .int x5), (4, .int v7), (5, .int s0), (0, .ref (a v0)), (2, .int v2), (3, .int v3), (7, .int v7)]) hx hb dX5_behind_58 hl (k := 5) rfl (by rw [ex5]; rfl) (by decide) rfl (fun ls hl => ?_)
    refine lv_goto (tgt := 9) hx hb dX5_behind_61 (by decide) ?_
    exact hk9 v7 s0 x5 hf H locs ls hP hS (lv_sub hl [3, 4, 5, 1, 2, 0] rfl)
  have J9 : ∀ (fu : Nat) (v4 : Int32) (v5 : Int32) (v6 : Int32), X5_behind_B9 h v0 v1 v2 v3 fu v4 v5 v6 = some r → gG p l e (headSpec wsX5_behind rmX5_behind).room s m ([.ref (a v0), .int v1, .int v2, .int v3] : List Value).toArray below meth c (MQ below (gQ (some (.int r)) D a C h) ([.ref (a v0), .int v1, .int v2, .int v3] : List Value).toArray s 0 0 (gA a)) D a C 8 h 9 [(0, .ref (a v0)), (2, .int v2), (3, .int v3), (4, .int v4), (5, .int v5), (6, .int v6)] [] := by
    intro fu
    induction fu with
    | zero => intro v4 v5 v6 hf; exact absurd hf (by simp [X5_behind_B9])
    | succ fu ih =>
      intro v4 v5 v6 hf H locs ls hP hS hl
      rw [X5_behind_B9] at hf
      refine lv_iload hx hb dX5_behind_9 (lv_at hl 5 rfl) ?_
      refine lv_iload_n hx hb dX5_behind_11 rfl (lv_at hl 1 rfl) ?_
      refine lv_icmp_gt (tgt := 64) hx hb dX5_behind_12 (by decide) (fun c1 => ?_) (fun c1 => ?_)
      · have hf := if_t hf c1
        refine lv_iload hx hb dX5_behind_64 (lv_at hl 3 rfl) ?_
        exact g_iret hx hb hr hlk hP hS (ret1 hf) dX5_behind_66
      · have hf := if_f hf c1
        refine lv_iload hx hb dX5_behind_15 (lv_at hl 4 rfl) ?_
        refine lv_iconst (v := 2) hx hb dX5_behind_17 (by decide) ?_
        refine lv_icmp_ge (tgt := 64) hx hb dX5_behind_18 (by decide) (fun c2 => ?_) (fun c2 => ?_)
        · have hf := if_t hf c2
          refine lv_iload hx hb dX5_behind_64 (lv_at hl 3 rfl) ?_
          exact g_iret hx hb hr hlk hP hS (ret1 hf) dX5_behind_66
        · have hf := if_f hf c2
          refine lv_aload_n hx hb dX5_behind_21 rfl (lv_at hl 0 rfl) ?_
          refine lv_iload hx hb dX5_behind_22 (lv_at hl 3 rfl) ?_
          refine lv_aload_n hx hb dX5_behind_24 rfl (lv_at hl 0 rfl) ?_
          refine g_get (Cn := RX5) (T := TX5) (N := 7) (v := .int (fI h v0 6)) (own := RX5) hx hb hown hts hK (par_O hv0) rfl (fun _ hw => List.mem_cons_of_mem _ (List.mem_append_left _ (List.mem_append_right _ hw))) 6 (by decide) (List.mem_of_getElem? (i := 1) rfl) rfl rfl hP dX5_behind_25 ?_
          refine lv_iload hx hb dX5_behind_28 (lv_at hl 5 rfl) ?_
          refine lv_iadd hx hb dX5_behind_30 ?_
          refine lv_iload_n hx hb dX5_behind_31 rfl (lv_at hl 2 rfl) ?_
          obtain ⟨q3, hq3, hf⟩ := bind_s hf
          refine g_callV (As := [.int v4, .int ((fI h v0 6) + v6), .int v3]) (rest := []) hx hb hml hown hts hK hN (m_X5_nextHeard l D a C ha h v0 v4 ((fI h v0 6) + v6) v3 hv0 q3 hq3) (cwV 3 hts gX5_behind_X5_nextHeard rfl rfl rfl kdX5_nextHeard ⟨Nat.le_of_ble_eq_true rfl, Nat.le_of_ble_eq_true rfl⟩) (par_O hv0) rfl rfl hP hS hA rfl hl.1 rfl (Nat.le_of_ble_eq_true rfl) dX5_behind_32 ⟨Nat.le_refl _, Nat.le_refl _⟩ (fun H locs hP hS => ?_)
          refine W.eq (g2 := F0 m 35 ls [.int q3]) rfl ?_
          refine lv_istore (lv' := [(7, .int q3), (0, .ref (a v0)), (2, .int v2), (3, .int v3), (4, .int v4), (5, .int v5), (6, .int v6)]) hx hb dX5_behind_35 hl (by decide) rfl (fun ls hl => ?_)
          refine lv_iload hx hb dX5_behind_37 (lv_at hl 0 rfl) ?_
          refine lv_iload hx hb dX5_behind_39 (lv_at hl 4 rfl) ?_
          refine lv_icmp_ne (tgt := 51) hx hb dX5_behind_41 (by decide) (fun c4 => ?_) (fun c4 => ?_)
          · have hf := if_f hf c4
            refine lv_iconst (v := 0) hx hb dX5_behind_51 (by decide) ?_
            exact J52 (X5_behind_B9 h v0 v1 v2 v3 fu) ih v6 q3 0 hf H locs ls hP hS (lv_sub hl [1, 2, 3, 6, 0] rfl)
          · have hf := if_t hf c4
            refine lv_iload hx hb dX5_behind_44 (lv_at hl 5 rfl) ?_
            refine lv_iconst (v := 1) hx hb dX5_behind_46 (by decide) ?_
            refine lv_iadd hx hb dX5_behind_47 ?_
            refine lv_goto (tgt := 52) hx hb dX5_behind_48 (by decide) ?_
            exact J52 (X5_behind_B9 h v0 v1 v2 v3 fu) ih v6 q3 (v5 + 1) hf H locs ls hP hS (lv_sub hl [1, 2, 3, 6, 0] rfl)
  unfold X5_behind at hf
  suffices hh : ∀ (H : Heap) (locs : List Loc), va_P D vwCl (gw a C h) H → va_S (gA a) s.heap H locs → W p l e (headSpec wsX5_behind rmX5_behind).room s m ([.ref (a v0), .int v1, .int v2, .int v3] : List Value).toArray below meth c H locs 0 0 (MQ below (gQ (some (.int r)) D a C h) ([.ref (a v0), .int v1, .int v2, .int v3] : List Value).toArray s 0 0 (gA a)) (F0 m 0 ls []) from hh _ _ hP hS
  intro H locs hP hS
  refine lv_iload_n hx hb dX5_behind_0 rfl (lv_at hl 1 rfl) ?_
  refine lv_istore (lv' := [(4, .int v1), (0, .ref (a v0)), (1, .int v1), (2, .int v2), (3, .int v3)]) hx hb dX5_behind_1 hl (by decide) rfl (fun ls hl => ?_)
  refine lv_iconst (v := 0) hx hb dX5_behind_3 (by decide) ?_
  refine lv_istore (lv' := [(5, .int 0), (4, .int v1), (0, .ref (a v0)), (1, .int v1), (2, .int v2), (3, .int v3)]) hx hb dX5_behind_4 hl (by decide) rfl (fun ls hl => ?_)
  refine lv_iconst (v := 1) hx hb dX5_behind_6 (by decide) ?_
  refine lv_istore (lv' := [(6, .int 1), (5, .int 0), (4, .int v1), (0, .ref (a v0)), (1, .int v1), (2, .int v2), (3, .int v3)]) hx hb dX5_behind_7 hl (by decide) rfl (fun ls hl => ?_)
  exact J9 FU v1 0 1 hf H locs ls hP hS (lv_sub hl [3, 5, 6, 2, 1, 0] rfl)

