def X11_shelfOf (h : HS) (v1 : Int32) : Option (Option Nat) :=
    (if v1 < 0 then
    some none
    else
    (if 8 ≤ v1 then
    some none
    else
    gdi v1 8 <|
    some (some (50 + 2 * v1.toNatClampNeg))))
def rmX11_shelfOf : Room := { frames := 0, cells := 0, slots := 0, locals := 0 }
theorem kdX11_shelfOf : yX11_shelfOf.cls = RX11 ∧ yX11_shelfOf.cls ≠ "java/lang/invoke/MethodHandle" ∧ yX11_shelfOf.cls ≠ "java/lang/invoke/VarHandle" ∧ (parseMethodDescriptor yX11_shelfOf.desc).map (fun d => d.parameters.length) = some 1 := by decide +kernel
set_option maxHeartbeats 4000000 in
set_option maxRecDepth 100000 in
theorem m_X11_shelfOf (l : Launch) (D : va_G) (a : Nat → Nat) (C : Nat → ClassId) (ha : ginj a) (h : HS) (v1 : Int32)  (r : Option Nat) (hf : X11_shelfOf h v1 = some r) : gM l yX11_shelfOf wsX11_shelfOf rmX11_shelfOf D a C [.ref (a 0), .int v1] h (some (va_rf (r.map a))) h := by
  refine g_start (av := [.ref (a 0), .int v1]) (cc := cX11_shelfOf) (maxL := 2) (rt := (some (.object "MoreThanSheHas$Shelf"))) (by decide) rfl (Nat.le_of_ble_eq_true rfl) ?_
  intro p e s m below meth c hx hb hr hml hown hlk hts hP hK hN ls hl
  have hA : ∀ q, gA a q → gA a q := fun _ q => q
  have hS : va_S (gA a) s.heap s.heap [] := va_S.rf
  have hl : lv_has ls 2 [(0, .ref (a 0)), (1, .int v1)] := hl
  unfold X11_shelfOf at hf
  refine lv_iload_n hx hb dX11_shelfOf_0 rfl (lv_at hl 1 rfl) ?_
  refine lv_if_lt (tgt := 22) hx hb dX11_shelfOf_1 (by decide) (fun c1 => ?_) (fun c1 => ?_)
  · have hf := if_t hf c1
    refine lv_null hx hb dX11_shelfOf_22 ?_
    exact g_aretS (x := none) hx hb hr hlk hP hS (ret1 hf) dX11_shelfOf_23
  · have hf := if_f hf c1
    refine lv_iload_n hx hb dX11_shelfOf_4 rfl (lv_at hl 1 rfl) ?_
    refine lv_aload_n hx hb dX11_shelfOf_5 rfl (lv_at hl 0 rfl) ?_
    refine g_get (Cn := RX11) (T := TX11) (N := 8) (v := .ref (a 1)) (own := RX11) hx hb hown hts hK X_O rfl (fun _ hw => List.mem_cons_of_mem _ (List.mem_append_right _ hw)) 4 (by decide) (List.mem_of_getElem? (i := 1) rfl) rfl rfl hP dX11_shelfOf_6 ?_
    refine g_alenS (v := 8) hx hb hK X_sh rfl hP dX11_shelfOf_9 ?_
    refine lv_icmp_ge (tgt := 22) hx hb dX11_shelfOf_10 (by decide) (fun c2 => ?_) (fun c2 => ?_)
    · have hf := if_t hf c2
      refine lv_null hx hb dX11_shelfOf_22 ?_
      exact g_aretS (x := none) hx hb hr hlk hP hS (ret1 hf) dX11_shelfOf_23
    · have hf := if_f hf c2
      refine lv_aload_n hx hb dX11_shelfOf_13 rfl (lv_at hl 0 rfl) ?_
      refine g_get (Cn := RX11) (T := TX11) (N := 8) (v := .ref (a 1)) (own := RX11) hx hb hown hts hK X_O rfl (fun _ hw => List.mem_cons_of_mem _ (List.mem_append_right _ hw)) 4 (by decide) (List.mem_of_getElem? (i := 1) rfl) rfl rfl hP dX11_shelfOf_14 ?_
      refine lv_iload_n hx hb dX11_shelfOf_17 rfl (lv_at hl 1 rfl) ?_
      obtain ⟨c3, hf⟩ := gdi_s hf
      refine g_aalS (r := (50 + 2 * v1.toNatClampNeg)) hx hb hK X_sh c3 (sh_at c3) hP dX11_shelfOf_18 ?_
      refine lv_goto (tgt := 23) hx hb dX11_shelfOf_19 (by decide) ?_
      exact g_aretS (x := (some (50 + 2 * v1.toNatClampNeg))) hx hb hr hlk hP hS (ret1 hf) dX11_shelfOf_23

theorem X11_shelfOf_ok {h : HS} {v1 : Int32} {r : Option Nat} (hq : X11_shelfOf h v1 = some r) (t : Nat) (e : r = some t) : isShf t := by
  subst e
  unfold X11_shelfOf at hq
  by_cases c1 : v1 < 0
  · rw [if_pos c1] at hq; cases hq
  · rw [if_neg c1] at hq
    by_cases c2 : (8 : Int32) ≤ v1
    · rw [if_pos c2] at hq; cases hq
    · rw [if_neg c2] at hq
      obtain ⟨c3, hq⟩ := gdi_s hq
      have e := Option.some.inj (Option.some.inj hq)
      rw [← e]
      exact shf_of c3

def X11_rowRefusal (h : HS) (v0 : Option Nat) : Option Int32 :=
    oM v0 (
    some (-1)) fun t1 =>
    (X7_isEmpty h t1).bind fun q2 =>
    (if q2 = 0 then
    (X7_holdsRow h t1).bind fun q4 =>
    (if q4 = 0 then
    some (-12)
    else
    some 0)
    else
    some (-11))
def rmX11_rowRefusal : Room := { frames := 1, cells := 0, slots := 0, locals := 20 }
theorem kdX11_rowRefusal : yX11_rowRefusal.cls = RX11 ∧ yX11_rowRefusal.cls ≠ "java/lang/invoke/MethodHandle" ∧ yX11_rowRefusal.cls ≠ "java/lang/invoke/VarHandle" ∧ (parseMethodDescriptor yX11_rowRefusal.desc).map (fun d => d.parameters.length) = some 1 := by decide +kernel
set_option maxHeartbeats 4000000 in
set_option maxRecDepth 100000 in
theorem m_X11_rowRefusal (l : Launch) (D : va_G) (a : Nat → Nat) (C : Nat → ClassId) (ha : ginj a) (h : HS) (v0 : Option Nat) (hv0 : isShO v0) (r : Int32) (hf : X11_rowRefusal h v0 = some r) : gM l yX11_rowRefusal wsX11_rowRefusal rmX11_rowRefusal D a C [va_rf (v0.map a)] h (some (.int r)) h := by
  rcases v0 with _ | t1
  · refine g_start (av := [.null]) (cc := cX11_rowRefusal) (maxL := 1) (rt := (some .int)) (by decide) rfl (Nat.le_of_ble_eq_true rfl) ?_
    intro p e s m below meth c hx hb hr hml hown hlk hts hP hK hN ls hl
    have hA : ∀ q, gA a q → gA a q := fun _ q => q
    have hS : va_S (gA a) s.heap s.heap [] := va_S.rf
    have hl : lv_has ls 1 [(0, .null)] := hl
    unfold X11_rowRefusal at hf
    have hf := oM_none hf
    refine lv_aload_nN hx hb dX11_rowRefusal_0 rfl (lv_at hl 0 rfl) ?_
    refine lv_ifnonnullN hx hb dX11_rowRefusal_1 ?_
    refine lv_iconst (v := (-1)) hx hb dX11_rowRefusal_4 (by decide) ?_
    exact g_iret hx hb hr hlk hP hS (ret1 hf) dX11_rowRefusal_5
  · have ht1 : isShf t1 := hv0 t1 rfl
    refine g_start (av := [.ref (a t1)]) (cc := cX11_rowRefusal) (maxL := 1) (rt := (some .int)) (by decide) rfl (Nat.le_of_ble_eq_true rfl) ?_
    intro p e s m below meth c hx hb hr hml hown hlk hts hP hK hN ls hl
    have hA : ∀ q, gA a q → gA a q := fun _ q => q
    have hS : va_S (gA a) s.heap s.heap [] := va_S.rf
    have hl : lv_has ls 1 [(0, .ref (a t1))] := hl
    unfold X11_rowRefusal at hf
    have hf := oM_some hf
    refine lv_aload_n hx hb dX11_rowRefusal_0 rfl (lv_at hl 0 rfl) ?_
    refine lv_ifnonnull (tgt := 6) hx hb dX11_rowRefusal_1 (by decide) ?_
    refine lv_aload_n hx hb dX11_rowRefusal_6 rfl (lv_at hl 0 rfl) ?_
    obtain ⟨q2, hq2, hf⟩ := bind_s hf
    refine g_callV (As := []) (rest := []) hx hb hml hown hts hK hN (m_X7_isEmpty l D a C ha h t1 ht1 q2 hq2) (cwV 0 hts gX11_rowRefusal_X7_isEmpty rfl rfl rfl kdX7_isEmpty ⟨Nat.le_of_ble_eq_true rfl, Nat.le_of_ble_eq_true rfl⟩) (shf_O ht1) rfl rfl hP hS hA rfl hl.1 rfl (Nat.le_of_ble_eq_true rfl) dX11_rowRefusal_7 ⟨Nat.le_refl _, Nat.le_refl _⟩ (fun H locs hP hS => ?_)
    refine W.eq (g2 := F0 m 10 ls [.int q2]) rfl ?_
    refine lv_if_eq (tgt := 16) hx hb dX11_rowRefusal_10 (by decide) (fun c3 => ?_) (fun c3 => ?_)
    · have hf := if_t hf c3
      refine lv_aload_n hx hb dX11_rowRefusal_16 rfl (lv_at hl 0 rfl) ?_
      obtain ⟨q4, hq4, hf⟩ := bind_s hf
      refine g_callV (As := []) (rest := []) hx hb hml hown hts hK hN (m_X7_holdsRow l D a C ha h t1 ht1 q4 hq4) (cwV 0 hts gX11_rowRefusal_X7_holdsRow rfl rfl rfl kdX7_holdsRow ⟨Nat.le_of_ble_eq_true rfl, Nat.le_of_ble_eq_true rfl⟩) (shf_O ht1) rfl rfl hP hS hA rfl hl.1 rfl (Nat.le_of_ble_eq_true rfl) dX11_rowRefusal_17 ⟨Nat.le_refl _, Nat.le_refl _⟩ (fun H locs hP hS => ?_)
      refine W.eq (g2 := F0 m 20 ls [.int q4]) rfl ?_
      refine lv_if_eq (tgt := 27) hx hb dX11_rowRefusal_20 (by decide) (fun c5 => ?_) (fun c5 => ?_)
      · have hf := if_t hf c5
        refine lv_bipush (v := (-12)) hx hb dX11_rowRefusal_27 (by decide) ?_
        exact g_iret hx hb hr hlk hP hS (ret1 hf) dX11_rowRefusal_29
      · have hf := if_f hf c5
        refine lv_iconst (v := 0) hx hb dX11_rowRefusal_23 (by decide) ?_
        refine lv_goto (tgt := 29) hx hb dX11_rowRefusal_24 (by decide) ?_
        exact g_iret hx hb hr hlk hP hS (ret1 hf) dX11_rowRefusal_29
    · have hf := if_f hf c3
      refine lv_bipush (v := (-11)) hx hb dX11_rowRefusal_13 (by decide) ?_
      exact g_iret hx hb hr hlk hP hS (ret1 hf) dX11_rowRefusal_15

def X11_textRefusal (h : HS) (v0 : Option Nat) : Option Int32 :=
    oM v0 (
    (X11_rowRefusal h none).bind fun q2 =>
    (if q2 = 0 then
    none
    else
    some q2)) fun t1 =>
    (X11_rowRefusal h (some t1)).bind fun q4 =>
    (if q4 = 0 then
    (X7_holdsBytes h t1).bind fun q6 =>
    (if q6 = 0 then
    some (-12)
    else
    some 0)
    else
    some q4)
def rmX11_textRefusal : Room := { frames := 2, cells := 0, slots := 0, locals := 40 }
theorem kdX11_textRefusal : yX11_textRefusal.cls = RX11 ∧ yX11_textRefusal.cls ≠ "java/lang/invoke/MethodHandle" ∧ yX11_textRefusal.cls ≠ "java/lang/invoke/VarHandle" ∧ (parseMethodDescriptor yX11_textRefusal.desc).map (fun d => d.parameters.length) = some 1 := by decide +kernel
set_option maxHeartbeats 4000000 in
set_option maxRecDepth 100000 in
theorem m_X11_textRefusal (l : Launch) (D : va_G) (a : Nat → Nat) (C : Nat → ClassId) (ha : ginj a) (h : HS) (v0 : Option Nat) (hv0 : isShO v0) (r : Int32) (hf : X11_textRefusal h v0 = some r) : gM l yX11_textRefusal wsX11_textRefusal rmX11_textRefusal D a C [va_rf (v0.map a)] h (some (.int r)) h := by
  rcases v0 with _ | t1
  · refine g_start (av := [.null]) (cc := cX11_textRefusal) (maxL := 2) (rt := (some .int)) (by decide) rfl (Nat.le_of_ble_eq_true rfl) ?_
    intro p e s m below meth c hx hb hr hml hown hlk hts hP hK hN ls hl
    have hA : ∀ q, gA a q → gA a q := fun _ q => q
    have hS : va_S (gA a) s.heap s.heap [] := va_S.rf
    have hl : lv_has ls 2 [(0, .null)] := hl
    unfold X11_textRefusal at hf
    have hf := oM_none hf
    refine lv_aload_nN hx hb dX11_textRefusal_0 rfl (lv_at hl 0 rfl) ?_
    obtain ⟨q2, hq2, hf⟩ := bind_s hf
    refine g_callS (As := [.null]) (rest := []) hx hb hml hown hts hK hN (m_X11_rowRefusal l D a C ha h none isShO_none q2 hq2) (va_cwS 1 hts gX11_textRefusal_X11_rowRefusal rfl rfl rfl kdX11_rowRefusal.2 ⟨Nat.le_of_ble_eq_true rfl, Nat.le_of_ble_eq_true rfl⟩) hP hS hA rfl hl.1 rfl (Nat.le_of_ble_eq_true rfl) dX11_textRefusal_1 ⟨Nat.le_refl _, Nat.le_refl _⟩ (fun H locs hP hS => ?_)
    refine W.eq (g2 := F0 m 4 ls [.int q2]) rfl ?_
    refine lv_istore_n (lv' := [(1, .int q2), (0, .null)]) hx hb dX11_textRefusal_4 rfl hl (by decide) rfl (fun ls hl => ?_)
    refine lv_iload_n hx hb dX11_textRefusal_5 rfl (lv_at hl 0 rfl) ?_
    refine lv_if_eq (tgt := 11) hx hb dX11_textRefusal_6 (by decide) (fun c3 => ?_) (fun c3 => ?_)
    · have hf := if_t hf c3
      refine lv_aload_nN hx hb dX11_textRefusal_11 rfl (lv_at hl 1 rfl) ?_
      exact absurd hf (by simp)
    · have hf := if_f hf c3
      refine lv_iload_n hx hb dX11_textRefusal_9 rfl (lv_at hl 0 rfl) ?_
      exact g_iret hx hb hr hlk hP hS (ret1 hf) dX11_textRefusal_10
  · have ht1 : isShf t1 := hv0 t1 rfl
    refine g_start (av := [.ref (a t1)]) (cc := cX11_textRefusal) (maxL := 2) (rt := (some .int)) (by decide) rfl (Nat.le_of_ble_eq_true rfl) ?_
    intro p e s m below meth c hx hb hr hml hown hlk hts hP hK hN ls hl
    have hA : ∀ q, gA a q → gA a q := fun _ q => q
    have hS : va_S (gA a) s.heap s.heap [] := va_S.rf
    have hl : lv_has ls 2 [(0, .ref (a t1))] := hl
    unfold X11_textRefusal at hf
    have hf := oM_some hf
    refine lv_aload_n hx hb dX11_textRefusal_0 rfl (lv_at hl 0 rfl) ?_
    obtain ⟨q4, hq4, hf⟩ := bind_s hf
    refine g_callS (As := [.ref (a t1)]) (rest := []) hx hb hml hown hts hK hN (m_X11_rowRefusal l D a C ha h (some t1) (isShO_some ht1) q4 hq4) (va_cwS 1 hts gX11_textRefusal_X11_rowRefusal rfl rfl rfl kdX11_rowRefusal.2 ⟨Nat.le_of_ble_eq_true rfl, Nat.le_of_ble_eq_true rfl⟩) hP hS hA rfl hl.1 rfl (Nat.le_of_ble_eq_true rfl) dX11_textRefusal_1 ⟨Nat.le_refl _, Nat.le_refl _⟩ (fun H locs hP hS => ?_)
    refine W.eq (g2 := F0 m 4 ls [.int q4]) rfl ?_
    refine lv_istore_n (lv' := [(1, .int q4), (0, .ref (a t1))]) hx hb dX11_textRefusal_4 rfl hl (by decide) rfl (fun ls hl => ?_)
    refine lv_iload_n hx hb dX11_textRefusal_5 rfl (lv_at hl 0 rfl) ?_
    refine lv_if_eq (tgt := 11) hx hb dX11_textRefusal_6 (by decide) (fun c5 => ?_) (fun c5 => ?_)
    · have hf := if_t hf c5
      refine lv_aload_n hx hb dX11_textRefusal_11 rfl (lv_at hl 1 rfl) ?_
      obtain ⟨q6, hq6, hf⟩ := bind_s hf
      refine g_callV (As := []) (rest := []) hx hb hml hown hts hK hN (m_X7_holdsBytes l D a C ha h t1 ht1 q6 hq6) (cwV 0 hts gX11_textRefusal_X7_holdsBytes rfl rfl rfl kdX7_holdsBytes ⟨Nat.le_of_ble_eq_true rfl, Nat.le_of_ble_eq_true rfl⟩) (shf_O ht1) rfl rfl hP hS hA rfl hl.1 rfl (Nat.le_of_ble_eq_true rfl) dX11_textRefusal_12 ⟨Nat.le_refl _, Nat.le_refl _⟩ (fun H locs hP hS => ?_)
      refine W.eq (g2 := F0 m 15 ls [.int q6]) rfl ?_
      refine lv_if_eq (tgt := 22) hx hb dX11_textRefusal_15 (by decide) (fun c7 => ?_) (fun c7 => ?_)
      · have hf := if_t hf c7
        refine lv_bipush (v := (-12)) hx hb dX11_textRefusal_22 (by decide) ?_
        exact g_iret hx hb hr hlk hP hS (ret1 hf) dX11_textRefusal_24
      · have hf := if_f hf c7
        refine lv_iconst (v := 0) hx hb dX11_textRefusal_18 (by decide) ?_
        refine lv_goto (tgt := 24) hx hb dX11_textRefusal_19 (by decide) ?_
        exact g_iret hx hb hr hlk hP hS (ret1 hf) dX11_textRefusal_24
    · have hf := if_f hf c5
      refine lv_iload_n hx hb dX11_textRefusal_9 rfl (lv_at hl 0 rfl) ?_
      exact g_iret hx hb hr hlk hP hS (ret1 hf) dX11_textRefusal_10

def X11_digitsBehind (v0 : Int32) : Option Int32 :=
    (if v0 = 100 then
    some 2
    else
    (if v0 = 104 then
    some 1
    else
    (if v0 = 107 then
    some 3
    else
    (if v0 = 108 then
    some 2
    else
    (if v0 = 112 then
    some 2
    else
    some 0)))))
def rmX11_digitsBehind : Room := { frames := 0, cells := 0, slots := 0, locals := 0 }
theorem kdX11_digitsBehind : yX11_digitsBehind.cls = RX11 ∧ yX11_digitsBehind.cls ≠ "java/lang/invoke/MethodHandle" ∧ yX11_digitsBehind.cls ≠ "java/lang/invoke/VarHandle" ∧ (parseMethodDescriptor yX11_digitsBehind.desc).map (fun d => d.parameters.length) = some 1 := by decide +kernel
set_option maxHeartbeats 4000000 in
set_option maxRecDepth 100000 in
theorem m_X11_digitsBehind (l : Launch) (D : va_G) (a : Nat → Nat) (C : Nat → ClassId) (ha : ginj a) (h : HS) (v0 : Int32)  (r : Int32) (hf : X11_digitsBehind v0 = some r) : gM l yX11_digitsBehind wsX11_digitsBehind rmX11_digitsBehind D a C [.int v0] h (some (.int r)) h := by
  refine g_start (av := [.int v0]) (cc := cX11_digitsBehind) (maxL := 1) (rt := (some .int)) (by decide) rfl (Nat.le_of_ble_eq_true rfl) ?_
  intro p e s m below meth c hx hb hr hml hown hlk hts hP hK hN ls hl
  have hA : ∀ q, gA a q → gA a q := fun _ q => q
  have hS : va_S (gA a) s.heap s.heap [] := va_S.rf
  have hl : lv_has ls 1 [(0, .int v0)] := hl
  unfold X11_digitsBehind at hf
  refine lv_iload_n hx hb dX11_digitsBehind_0 rfl (lv_at hl 0 rfl) ?_
  by_cases c1 : v0 = 100
  · have hf := if_t hf c1
    refine lv_tableIn (tgt := 74) hx hb dX11_digitsBehind_1 (by rw [c1]; decide) (by rw [c1]; decide) (by rw [c1]; rfl) (by decide) ?_
    refine lv_iconst (v := 2) hx hb dX11_digitsBehind_74 (by decide) ?_
    exact g_iret hx hb hr hlk hP hS (ret1 hf) dX11_digitsBehind_75
  have hf := if_f hf c1
  by_cases c2 : v0 = 104
  · have hf := if_t hf c2
    refine lv_tableIn (tgt := 68) hx hb dX11_digitsBehind_1 (by rw [c2]; decide) (by rw [c2]; decide) (by rw [c2]; rfl) (by decide) ?_
    refine lv_iconst (v := 1) hx hb dX11_digitsBehind_68 (by decide) ?_
    exact g_iret hx hb hr hlk hP hS (ret1 hf) dX11_digitsBehind_69
  have hf := if_f hf c2
  by_cases c3 : v0 = 107
  · have hf := if_t hf c3
    refine lv_tableIn (tgt := 76) hx hb dX11_digitsBehind_1 (by rw [c3]; decide) (by rw [c3]; decide) (by rw [c3]; rfl) (by decide) ?_
    refine lv_iconst (v := 3) hx hb dX11_digitsBehind_76 (by decide) ?_
    exact g_iret hx hb hr hlk hP hS (ret1 hf) dX11_digitsBehind_77
  have hf := if_f hf c3
  by_cases c4 : v0 = 108
  · have hf := if_t hf c4
    refine lv_tableIn (tgt := 72) hx hb dX11_digitsBehind_1 (by rw [c4]; decide) (by rw [c4]; decide) (by rw [c4]; rfl) (by decide) ?_
    refine lv_iconst (v := 2) hx hb dX11_digitsBehind_72 (by decide) ?_
    exact g_iret hx hb hr hlk hP hS (ret1 hf) dX11_digitsBehind_73
  have hf := if_f hf c4
  by_cases c5 : v0 = 112
  · have hf := if_t hf c5
    refine lv_tableIn (tgt := 70) hx hb dX11_digitsBehind_1 (by rw [c5]; decide) (by rw [c5]; decide) (by rw [c5]; rfl) (by decide) ?_
    refine lv_iconst (v := 2) hx hb dX11_digitsBehind_70 (by decide) ?_
    exact g_iret hx hb hr hlk hP hS (ret1 hf) dX11_digitsBehind_71
  have hf := if_f hf c5
  by_cases c6 : v0 = 101
  · refine lv_tableIn (tgt := 78) hx hb dX11_digitsBehind_1 (by rw [c6]; decide) (by rw [c6]; decide) (by rw [c6]; rfl) (by decide) ?_
    refine lv_iconst (v := 0) hx hb dX11_digitsBehind_78 (by decide) ?_
    exact g_iret hx hb hr hlk hP hS (ret1 hf) dX11_digitsBehind_79
  by_cases c7 : v0 = 102
  · refine lv_tableIn (tgt := 78) hx hb dX11_digitsBehind_1 (by rw [c7]; decide) (by rw [c7]; decide) (by rw [c7]; rfl) (by decide) ?_
    refine lv_iconst (v := 0) hx hb dX11_digitsBehind_78 (by decide) ?_
    exact g_iret hx hb hr hlk hP hS (ret1 hf) dX11_digitsBehind_79
  by_cases c8 : v0 = 103
  · refine lv_tableIn (tgt := 78) hx hb dX11_digitsBehind_1 (by rw [c8]; decide) (by rw [c8]; decide) (by rw [c8]; rfl) (by decide) ?_
    refine lv_iconst (v := 0) hx hb dX11_digitsBehind_78 (by decide) ?_
    exact g_iret hx hb hr hlk hP hS (ret1 hf) dX11_digitsBehind_79
  by_cases c9 : v0 = 105
  · refine lv_tableIn (tgt := 78) hx hb dX11_digitsBehind_1 (by rw [c9]; decide) (by rw [c9]; decide) (by rw [c9]; rfl) (by decide) ?_
    refine lv_iconst (v := 0) hx hb dX11_digitsBehind_78 (by decide) ?_
    exact g_iret hx hb hr hlk hP hS (ret1 hf) dX11_digitsBehind_79
  by_cases c10 : v0 = 106
  · refine lv_tableIn (tgt := 78) hx hb dX11_digitsBehind_1 (by rw [c10]; decide) (by rw [c10]; decide) (by rw [c10]; rfl) (by decide) ?_
    refine lv_iconst (v := 0) hx hb dX11_digitsBehind_78 (by decide) ?_
    exact g_iret hx hb hr hlk hP hS (ret1 hf) dX11_digitsBehind_79
  by_cases c11 : v0 = 109
  · refine lv_tableIn (tgt := 78) hx hb dX11_digitsBehind_1 (by rw [c11]; decide) (by rw [c11]; decide) (by rw [c11]; rfl) (by decide) ?_
    refine lv_iconst (v := 0) hx hb dX11_digitsBehind_78 (by decide) ?_
    exact g_iret hx hb hr hlk hP hS (ret1 hf) dX11_digitsBehind_79
  by_cases c12 : v0 = 110
  · refine lv_tableIn (tgt := 78) hx hb dX11_digitsBehind_1 (by rw [c12]; decide) (by rw [c12]; decide) (by rw [c12]; rfl) (by decide) ?_
    refine lv_iconst (v := 0) hx hb dX11_digitsBehind_78 (by decide) ?_
    exact g_iret hx hb hr hlk hP hS (ret1 hf) dX11_digitsBehind_79
  by_cases c13 : v0 = 111
  · refine lv_tableIn (tgt := 78) hx hb dX11_digitsBehind_1 (by rw [c13]; decide) (by rw [c13]; decide) (by rw [c13]; rfl) (by decide) ?_
    refine lv_iconst (v := 0) hx hb dX11_digitsBehind_78 (by decide) ?_
    exact g_iret hx hb hr hlk hP hS (ret1 hf) dX11_digitsBehind_79
  refine lv_tableOut (tgt := 78) hx hb dX11_digitsBehind_1 (by have n0 := ti_nz (z := 100) (by decide) c1; have n1 := ti_nz (z := 104) (by decide) c2; have n2 := ti_nz (z := 107) (by decide) c3; have n3 := ti_nz (z := 108) (by decide) c4; have n4 := ti_nz (z := 112) (by decide) c5; have n5 := ti_nz (z := 101) (by decide) c6; have n6 := ti_nz (z := 102) (by decide) c7; have n7 := ti_nz (z := 103) (by decide) c8; have n8 := ti_nz (z := 105) (by decide) c9; have n9 := ti_nz (z := 106) (by decide) c10; have n10 := ti_nz (z := 109) (by decide) c11; have n11 := ti_nz (z := 110) (by decide) c12; have n12 := ti_nz (z := 111) (by decide) c13; omega) (by decide) ?_
  refine lv_iconst (v := 0) hx hb dX11_digitsBehind_78 (by decide) ?_
  exact g_iret hx hb hr hlk hP hS (ret1 hf) dX11_digitsBehind_79

def X11_statementBrokenAt_B19 (h : HS) (v0 : Nat) (v1 : Int32) : Nat → Int32 → Int32 → Option Int32
  | 0, _, _ => none
  | fu + 1, v2, v3 =>
    (if (v1 + v2) < v3 then
    nm ((v1 + v2) + 1) fun x6 =>
    (X7_at h v0 x6).bind fun q7 =>
    (if q7 = 59 then
    some (-4)
    else
    some x6)
    else
    (X7_at h v0 v3).bind fun q9 =>
    (if q9 < 48 then
    some v3
    else
    (X7_at h v0 v3).bind fun q11 =>
    (if q11 ≤ 57 then
    nm (v3 + 1) fun x13 =>
    (X11_statementBrokenAt_B19 h v0 v1 fu) v2 x13
    else
    some v3)))
def X11_statementBrokenAt (h : HS) (v0 : Nat) (v1 : Int32) : Option Int32 :=
    (X7_at h v0 v1).bind fun q1 =>
    (X11_digitsBehind q1).bind fun q2 =>
    (if q2 = 0 then
    some v1
    else
    nm (v1 + 1) fun x4 =>
    X11_statementBrokenAt_B19 h v0 v1 FU q2 x4)
def rmX11_statementBrokenAt : Room := { frames := 2, cells := 0, slots := 0, locals := 42 }
theorem kdX11_statementBrokenAt : yX11_statementBrokenAt.cls = RX11 ∧ yX11_statementBrokenAt.cls ≠ "java/lang/invoke/MethodHandle" ∧ yX11_statementBrokenAt.cls ≠ "java/lang/invoke/VarHandle" ∧ (parseMethodDescriptor yX11_statementBrokenAt.desc).map (fun d => d.parameters.length) = some 2 := by decide +kernel
set_option maxHeartbeats 4000000 in
set_option maxRecDepth 100000 in
theorem m_X11_statementBrokenAt (l : Launch) (D : va_G) (a : Nat → Nat) (C : Nat → ClassId) (ha : ginj a) (h : HS) (v0 : Nat) (v1 : Int32) (hv0 : isShf v0) (r : Int32) (hf : X11_statementBrokenAt h v0 v1 = some r) : gM l yX11_statementBrokenAt wsX11_statementBrokenAt rmX11_statementBrokenAt D a C [.ref (a v0), .int v1] h (some (.int r)) h := by
  refine g_start (av := [.ref (a v0), .int v1]) (cc := cX11_statementBrokenAt) (maxL := 4) (rt := (some .int)) (by decide) rfl (Nat.le_of_ble_eq_true rfl) ?_
  intro p e s m below meth c hx hb hr hml hown hlk hts hP hK hN ls hl
  have hA : ∀ q, gA a q → gA a q := fun _ q => q
  have hS : va_S (gA a) s.heap s.heap [] := va_S.rf
  have hl : lv_has ls 4 [(0, .ref (a v0)), (1, .int v1)] := hl
  have J19 : ∀ (fu : Nat) (v2 : Int32) (v3 : Int32), X11_statementBrokenAt_B19 h v0 v1 fu v2 v3 = some r → gG p l e (headSpec wsX11_statementBrokenAt rmX11_statementBrokenAt).room s m ([.ref (a v0), .int v1] : List Value).toArray below meth c (MQ below (gQ (some (.int r)) D a C h) ([.ref (a v0), .int v1] : List Value).toArray s 0 0 (gA a)) D a C 4 h 19 [(0, .ref (a v0)), (1, .int v1), (2, .int v2), (3, .int v3)] [] := by
    intro fu
    induction fu with
    | zero => intro v2 v3 hf; exact absurd hf (by simp [X11_statementBrokenAt_B19])
    | succ fu ih =>
      intro v2 v3 hf H locs ls hP hS hl
      rw [X11_statementBrokenAt_B19] at hf
      refine lv_iload_n hx hb dX11_statementBrokenAt_19 rfl (lv_at hl 3 rfl) ?_
      refine lv_iload_n hx hb dX11_statementBrokenAt_20 rfl (lv_at hl 1 rfl) ?_
      refine lv_iload_n hx hb dX11_statementBrokenAt_21 rfl (lv_at hl 2 rfl) ?_
      refine lv_iadd hx hb dX11_statementBrokenAt_22 ?_
      refine lv_icmp_gt (tgt := 54) hx hb dX11_statementBrokenAt_23 (by decide) (fun c5 => ?_) (fun c5 => ?_)
      · have hf := if_t hf c5
        refine lv_iload_n hx hb dX11_statementBrokenAt_54 rfl (lv_at hl 1 rfl) ?_
        refine lv_iload_n hx hb dX11_statementBrokenAt_55 rfl (lv_at hl 2 rfl) ?_
        refine lv_iadd hx hb dX11_statementBrokenAt_56 ?_
        refine lv_iconst (v := 1) hx hb dX11_statementBrokenAt_57 (by decide) ?_
        refine lv_iadd hx hb dX11_statementBrokenAt_58 ?_
        refine lv_topi (fun x6 ex6 => ?_)
        have hf := nm_s hf ex6
        refine lv_istore_n (lv' := [(3, .int x6), (0, .ref (a v0)), (1, .int v1), (2, .int v2)]) hx hb dX11_statementBrokenAt_59 rfl hl (by decide) rfl (fun ls hl => ?_)
        refine lv_aload_n hx hb dX11_statementBrokenAt_60 rfl (lv_at hl 1 rfl) ?_
        refine lv_iload_n hx hb dX11_statementBrokenAt_61 rfl (lv_at hl 0 rfl) ?_
        obtain ⟨q7, hq7, hf⟩ := bind_s hf
        refine g_callV (As := [.int x6]) (rest := []) hx hb hml hown hts hK hN (m_X7_at l D a C ha h v0 x6 hv0 q7 hq7) (cwV 1 hts gX11_statementBrokenAt_X7_at rfl rfl rfl kdX7_at ⟨Nat.le_of_ble_eq_true rfl, Nat.le_of_ble_eq_true rfl⟩) (shf_O hv0) rfl rfl hP hS hA rfl hl.1 rfl (Nat.le_of_ble_eq_true rfl) dX11_statementBrokenAt_62 ⟨Nat.le_refl _, Nat.le_refl _⟩ (fun H locs hP hS => ?_)
        refine W.eq (g2 := F0 m 65 ls [.int q7]) rfl ?_
        refine lv_bipush (v := 59) hx hb dX11_statementBrokenAt_65 (by decide) ?_
        refine lv_icmp_ne (tgt := 75) hx hb dX11_statementBrokenAt_67 (by decide) (fun c8 => ?_) (fun c8 => ?_)
        · have hf := if_f hf c8
          refine lv_iload_n hx hb dX11_statementBrokenAt_75 rfl (lv_at hl 0 rfl) ?_
          exact g_iret hx hb hr hlk hP hS (ret1 hf) dX11_statementBrokenAt_76
        · have hf := if_t hf c8
          refine lv_bipush (v := (-4)) hx hb dX11_statementBrokenAt_70 (by decide) ?_
          refine lv_goto (tgt := 76) hx hb dX11_statementBrokenAt_72 (by decide) ?_
          exact g_iret hx hb hr hlk hP hS (ret1 hf) dX11_statementBrokenAt_76
      · have hf := if_f hf c5
        refine lv_aload_n hx hb dX11_statementBrokenAt_26 rfl (lv_at hl 0 rfl) ?_
        refine lv_iload_n hx hb dX11_statementBrokenAt_27 rfl (lv_at hl 3 rfl) ?_
        obtain ⟨q9, hq9, hf⟩ := bind_s hf
        refine g_callV (As := [.int v3]) (rest := []) hx hb hml hown hts hK hN (m_X7_at l D a C ha h v0 v3 hv0 q9 hq9) (cwV 1 hts gX11_statementBrokenAt_X7_at rfl rfl rfl kdX7_at ⟨Nat.le_of_ble_eq_true rfl, Nat.le_of_ble_eq_true rfl⟩) (shf_O hv0) rfl rfl hP hS hA rfl hl.1 rfl (Nat.le_of_ble_eq_true rfl) dX11_statementBrokenAt_28 ⟨Nat.le_refl _, Nat.le_refl _⟩ (fun H locs hP hS => ?_)
        refine W.eq (g2 := F0 m 31 ls [.int q9]) rfl ?_
        refine lv_bipush (v := 48) hx hb dX11_statementBrokenAt_31 (by decide) ?_
        refine lv_icmp_lt (tgt := 46) hx hb dX11_statementBrokenAt_33 (by decide) (fun c10 => ?_) (fun c10 => ?_)
        · have hf := if_t hf c10
          refine lv_iload_n hx hb dX11_statementBrokenAt_46 rfl (lv_at hl 3 rfl) ?_
          exact g_iret hx hb hr hlk hP hS (ret1 hf) dX11_statementBrokenAt_47
        · have hf := if_f hf c10
          refine lv_aload_n hx hb dX11_statementBrokenAt_36 rfl (lv_at hl 0 rfl) ?_
          refine lv_iload_n hx hb dX11_statementBrokenAt_37 rfl (lv_at hl 3 rfl) ?_
          obtain ⟨q11, hq11, hf⟩ := bind_s hf
          refine g_callV (As := [.int v3]) (rest := []) hx hb hml hown hts hK hN (m_X7_at l D a C ha h v0 v3 hv0 q11 hq11) (cwV 1 hts gX11_statementBrokenAt_X7_at rfl rfl rfl kdX7_at ⟨Nat.le_of_ble_eq_true rfl, Nat.le_of_ble_eq_true rfl⟩) (shf_O hv0) rfl rfl hP hS hA rfl hl.1 rfl (Nat.le_of_ble_eq_true rfl) dX11_statementBrokenAt_38 ⟨Nat.le_refl _, Nat.le_refl _⟩ (fun H locs hP hS => ?_)
          refine W.eq (g2 := F0 m 41 ls [.int q11]) rfl ?_
          refine lv_bipush (v := 57) hx hb dX11_statementBrokenAt_41 (by decide) ?_
          refine lv_icmp_le (tgt := 48) hx hb dX11_statementBrokenAt_43 (by decide) (fun c12 => ?_) (fun c12 => ?_)
          · have hf := if_t hf c12
            obtain ⟨x13, ex13⟩ : ∃ y : Int32, y = (v3 + 1) := ⟨_, rfl⟩
            have hf := nm_s hf ex13
            refine lv_iinc (v := x13) (lv' := [(3, .int x13), (0, .ref (a v0)), (1, .int v1), (2, .int v2)]) hx hb dX11_statementBrokenAt_48 hl (k := 3) rfl (by rw [ex13]; rfl) (by decide) rfl (fun ls hl => ?_)
            refine lv_goto (tgt := 19) hx hb dX11_statementBrokenAt_51 (by decide) ?_
            exact ih v2 x13 hf H locs ls hP hS (lv_sub hl [1, 2, 3, 0] rfl)
          · have hf := if_f hf c12
            refine lv_iload_n hx hb dX11_statementBrokenAt_46 rfl (lv_at hl 3 rfl) ?_
            exact g_iret hx hb hr hlk hP hS (ret1 hf) dX11_statementBrokenAt_47
  unfold X11_statementBrokenAt at hf
  suffices hh : ∀ (H : Heap) (locs : List Loc), va_P D vwCl (gw a C h) H → va_S (gA a) s.heap H locs → W p l e (headSpec wsX11_statementBrokenAt rmX11_statementBrokenAt).room s m ([.ref (a v0), .int v1] : List Value).toArray below meth c H locs 0 0 (MQ below (gQ (some (.int r)) D a C h) ([.ref (a v0), .int v1] : List Value).toArray s 0 0 (gA a)) (F0 m 0 ls []) from hh _ _ hP hS
  intro H locs hP hS
  refine lv_aload_n hx hb dX11_statementBrokenAt_0 rfl (lv_at hl 0 rfl) ?_
  refine lv_iload_n hx hb dX11_statementBrokenAt_1 rfl (lv_at hl 1 rfl) ?_
  obtain ⟨q1, hq1, hf⟩ := bind_s hf
  refine g_callV (As := [.int v1]) (rest := []) hx hb hml hown hts hK hN (m_X7_at l D a C ha h v0 v1 hv0 q1 hq1) (cwV 1 hts gX11_statementBrokenAt_X7_at rfl rfl rfl kdX7_at ⟨Nat.le_of_ble_eq_true rfl, Nat.le_of_ble_eq_true rfl⟩) (shf_O hv0) rfl rfl hP hS hA rfl hl.1 rfl (Nat.le_of_ble_eq_true rfl) dX11_statementBrokenAt_2 ⟨Nat.le_refl _, Nat.le_refl _⟩ (fun H locs hP hS => ?_)
  refine W.eq (g2 := F0 m 5 ls [.int q1]) rfl ?_
  obtain ⟨q2, hq2, hf⟩ := bind_s hf
  refine g_callS (As := [.int q1]) (rest := []) hx hb hml hown hts hK hN (m_X11_digitsBehind l D a C ha h q1  q2 hq2) (va_cwS 1 hts gX11_statementBrokenAt_X11_digitsBehind rfl rfl rfl kdX11_digitsBehind.2 ⟨Nat.le_of_ble_eq_true rfl, Nat.le_of_ble_eq_true rfl⟩) hP hS hA rfl hl.1 rfl (Nat.le_of_ble_eq_true rfl) dX11_statementBrokenAt_5 ⟨Nat.le_refl _, Nat.le_refl _⟩ (fun H locs hP hS => ?_)
  refine W.eq (g2 := F0 m 8 ls [.int q2]) rfl ?_
  refine lv_istore_n (lv' := [(2, .int q2), (0, .ref (a v0)), (1, .int v1)]) hx hb dX11_statementBrokenAt_8 rfl hl (by decide) rfl (fun ls hl => ?_)
  refine lv_iload_n hx hb dX11_statementBrokenAt_9 rfl (lv_at hl 0 rfl) ?_
  refine lv_if_ne (tgt := 15) hx hb dX11_statementBrokenAt_10 (by decide) (fun c3 => ?_) (fun c3 => ?_)
  · have hf := if_f hf c3
    refine lv_iload_n hx hb dX11_statementBrokenAt_15 rfl (lv_at hl 2 rfl) ?_
    refine lv_iconst (v := 1) hx hb dX11_statementBrokenAt_16 (by decide) ?_
    refine lv_iadd hx hb dX11_statementBrokenAt_17 ?_
    refine lv_topi (fun x4 ex4 => ?_)
    have hf := nm_s hf ex4
    refine lv_istore_n (lv' := [(3, .int x4), (2, .int q2), (0, .ref (a v0)), (1, .int v1)]) hx hb dX11_statementBrokenAt_18 rfl hl (by decide) rfl (fun ls hl => ?_)
    exact J19 FU q2 x4 hf H locs ls hP hS (lv_sub hl [2, 3, 1, 0] rfl)
  · have hf := if_t hf c3
    refine lv_iload_n hx hb dX11_statementBrokenAt_13 rfl (lv_at hl 2 rfl) ?_
    exact g_iret hx hb hr hlk hP hS (ret1 hf) dX11_statementBrokenAt_14

def X11_brokenAt_B27 (h : HS) (v0 : Nat) (k4 : Int32 → Int32 → Option Int32) (v1 : Int32) (v2 : Int32) : Option Int32 :=
    (X11_statementBrokenAt h v0 v1).bind fun q6 =>
    (if q6 < 0 then
    (X7_at h v0 v1).bind fun q8 =>
    (X11_digitsBehind q8).bind fun q9 =>
    nm (v1 + (2 + q9)) fun x10 =>
    nm (v2 + 1) fun x11 =>
    k4 x10 x11
    else
    some q6)
def X11_brokenAt_B4 (h : HS) (v0 : Nat) : Nat → Int32 → Int32 → Option Int32
  | 0, _, _ => none
  | fu + 1, v1, v2 =>
    (X7_size h v0).bind fun q1 =>
    (if q1 < v2 then
    some v1
    else
    (if v2 ≤ 0 then
    X11_brokenAt_B27 h v0 (X11_brokenAt_B4 h v0 fu) v1 v2
    else
    (X7_size h v0).bind fun q4 =>
    (if v1 = q4 then
    some (-4)
    else
    X11_brokenAt_B27 h v0 (X11_brokenAt_B4 h v0 fu) v1 v2)))
def X11_brokenAt (h : HS) (v0 : Nat) : Option Int32 :=
    X11_brokenAt_B4 h v0 FU 0 0
def rmX11_brokenAt : Room := { frames := 3, cells := 0, slots := 0, locals := 65 }
theorem kdX11_brokenAt : yX11_brokenAt.cls = RX11 ∧ yX11_brokenAt.cls ≠ "java/lang/invoke/MethodHandle" ∧ yX11_brokenAt.cls ≠ "java/lang/invoke/VarHandle" ∧ (parseMethodDescriptor yX11_brokenAt.desc).map (fun d => d.parameters.length) = some 1 := by decide +kernel
set_option maxHeartbeats 4000000 in
set_option maxRecDepth 100000 in
theorem m_X11_brokenAt (l : Launch) (D : va_G) (a : Nat → Nat) (C : Nat → ClassId) (ha : ginj a) (h : HS) (v0 : Nat) (hv0 : isShf v0) (r : Int32) (hf : X11_brokenAt h v0 = some r) : gM l yX11_brokenAt wsX11_brokenAt rmX11_brokenAt D a C [.ref (a v0)] h (some (.int r)) h := by
  refine g_start (av := [.ref (a v0)]) (cc := cX11_brokenAt) (maxL := 4) (rt := (some .int)) (by decide) rfl (Nat.le_of_ble_eq_true rfl) ?_
  intro p e s m below meth c hx hb hr hml hown hlk hts hP hK hN ls hl
  have hA : ∀ q, gA a q → gA a q := fun _ q => q
  have hS : va_S (gA a) s.heap s.heap [] := va_S.rf
  have hl : lv_has ls 4 [(0, .ref (a v0))] := hl
  have J27 : ∀ (k4 : Int32 → Int32 → Option Int32) (hk4 : ∀ (v1 : Int32) (v2 : Int32), k4 v1 v2 = some r → gG p l e (headSpec wsX11_brokenAt rmX11_brokenAt).room s m ([.ref (a v0)] : List Value).toArray below meth c (MQ below (gQ (some (.int r)) D a C h) ([.ref (a v0)] : List Value).toArray s 0 0 (gA a)) D a C 4 h 4 [(0, .ref (a v0)), (1, .int v1), (2, .int v2)] []) (v1 : Int32) (v2 : Int32) (_ : X11_brokenAt_B27 h v0 k4 v1 v2 = some r), gG p l e (headSpec wsX11_brokenAt rmX11_brokenAt).room s m ([.ref (a v0)] : List Value).toArray below meth c (MQ below (gQ (some (.int r)) D a C h) ([.ref (a v0)] : List Value).toArray s 0 0 (gA a)) D a C 4 h 27 [(0, .ref (a v0)), (1, .int v1), (2, .int v2)] [] := by
    intro k4 hk4 v1 v2 hf H locs ls hP hS hl
    unfold X11_brokenAt_B27 at hf
    refine lv_aload_n hx hb dX11_brokenAt_27 rfl (lv_at hl 0 rfl) ?_
    refine lv_iload_n hx hb dX11_brokenAt_28 rfl (lv_at hl 1 rfl) ?_
    obtain ⟨q6, hq6, hf⟩ := bind_s hf
    refine g_callS (As := [.ref (a v0), .int v1]) (rest := []) hx hb hml hown hts hK hN (m_X11_statementBrokenAt l D a C ha h v0 v1 hv0 q6 hq6) (va_cwS 2 hts gX11_brokenAt_X11_statementBrokenAt rfl rfl rfl kdX11_statementBrokenAt.2 ⟨Nat.le_of_ble_eq_true rfl, Nat.le_of_ble_eq_true rfl⟩) hP hS hA rfl hl.1 rfl (Nat.le_of_ble_eq_true rfl) dX11_brokenAt_29 ⟨Nat.le_refl _, Nat.le_refl _⟩ (fun H locs hP hS => ?_)
    refine W.eq (g2 := F0 m 32 ls [.int q6]) rfl ?_
    refine lv_istore_n (lv' := [(3, .int q6), (0, .ref (a v0)), (1, .int v1), (2, .int v2)]) hx hb dX11_brokenAt_32 rfl hl (by decide) rfl (fun ls hl => ?_)
    refine lv_iload_n hx hb dX11_brokenAt_33 rfl (lv_at hl 0 rfl) ?_
    refine lv_if_lt (tgt := 39) hx hb dX11_brokenAt_34 (by decide) (fun c7 => ?_) (fun c7 => ?_)
    · have hf := if_t hf c7
      refine lv_iload_n hx hb dX11_brokenAt_39 rfl (lv_at hl 2 rfl) ?_
      refine lv_iconst (v := 2) hx hb dX11_brokenAt_40 (by decide) ?_
      refine lv_aload_n hx hb dX11_brokenAt_41 rfl (lv_at hl 1 rfl) ?_
      refine lv_iload_n hx hb dX11_brokenAt_42 rfl (lv_at hl 2 rfl) ?_
      obtain ⟨q8, hq8, hf⟩ := bind_s hf
      refine g_callV (As := [.int v1]) (rest := [.int 2, .int v1]) hx hb hml hown hts hK hN (m_X7_at l D a C ha h v0 v1 hv0 q8 hq8) (cwV 1 hts gX11_brokenAt_X7_at rfl rfl rfl kdX7_at ⟨Nat.le_of_ble_eq_true rfl, Nat.le_of_ble_eq_true rfl⟩) (shf_O hv0) rfl rfl hP hS hA rfl hl.1 rfl (Nat.le_of_ble_eq_true rfl) dX11_brokenAt_43 ⟨Nat.le_refl _, Nat.le_refl _⟩ (fun H locs hP hS => ?_)
      refine W.eq (g2 := F0 m 46 ls [.int q8, .int 2, .int v1]) rfl ?_
      obtain ⟨q9, hq9, hf⟩ := bind_s hf
      refine g_callS (As := [.int q8]) (rest := [.int 2, .int v1]) hx hb hml hown hts hK hN (m_X11_digitsBehind l D a C ha h q8  q9 hq9) (va_cwS 1 hts gX11_brokenAt_X11_digitsBehind rfl rfl rfl kdX11_digitsBehind.2 ⟨Nat.le_of_ble_eq_true rfl, Nat.le_of_ble_eq_true rfl⟩) hP hS hA rfl hl.1 rfl (Nat.le_of_ble_eq_true rfl) dX11_brokenAt_46 ⟨Nat.le_refl _, Nat.le_refl _⟩ (fun H locs hP hS => ?_)
      refine W.eq (g2 := F0 m 49 ls [.int q9, .int 2, .int v1]) rfl ?_
      refine lv_iadd hx hb dX11_brokenAt_49 ?_
      refine lv_iadd hx hb dX11_brokenAt_50 ?_
      refine lv_topi (fun x10 ex10 => ?_)
      have hf := nm_s hf ex10
      refine lv_istore_n (lv' := [(1, .int x10), (3, .int q6), (0, .ref (a v0)), (2, .int v2)]) hx hb dX11_brokenAt_51 rfl hl (by decide) rfl (fun ls hl => ?_)
      obtain ⟨x11, ex11⟩ : ∃ y : Int32, y = (v2 + 1) := ⟨_, rfl⟩
      have hf := nm_s hf ex11
      refine lv_iinc (v := x11) (lv' := [(2, .int x11), (1, .int x10), (3, .int q6), (0, .ref (a v0))]) hx hb dX11_brokenAt_52 hl (k := 3) rfl (by rw [ex11]; rfl) (by decide) rfl (fun ls hl => ?_)
      refine lv_goto (tgt := 4) hx hb dX11_brokenAt_55 (by decide) ?_
      exact hk4 x10 x11 hf H locs ls hP hS (lv_sub hl [3, 1, 0] rfl)
    · have hf := if_f hf c7
      refine lv_iload_n hx hb dX11_brokenAt_37 rfl (lv_at hl 0 rfl) ?_
      exact g_iret hx hb hr hlk hP hS (ret1 hf) dX11_brokenAt_38
  have J4 : ∀ (fu : Nat) (v1 : Int32) (v2 : Int32), X11_brokenAt_B4 h v0 fu v1 v2 = some r → gG p l e (headSpec wsX11_brokenAt rmX11_brokenAt).room s m ([.ref (a v0)] : List Value).toArray below meth c (MQ below (gQ (some (.int r)) D a C h) ([.ref (a v0)] : List Value).toArray s 0 0 (gA a)) D a C 4 h 4 [(0, .ref (a v0)), (1, .int v1), (2, .int v2)] [] := by
    intro fu
    induction fu with
    | zero => intro v1 v2 hf; exact absurd hf (by simp [X11_brokenAt_B4])
    | succ fu ih =>
      intro v1 v2 hf H locs ls hP hS hl
      rw [X11_brokenAt_B4] at hf
      refine lv_iload_n hx hb dX11_brokenAt_4 rfl (lv_at hl 2 rfl) ?_
      refine lv_aload_n hx hb dX11_brokenAt_5 rfl (lv_at hl 0 rfl) ?_
      obtain ⟨q1, hq1, hf⟩ := bind_s hf
      refine g_callV (As := []) (rest := [.int v2]) hx hb hml hown hts hK hN (m_X7_size l D a C ha h v0 hv0 q1 hq1) (cwV 0 hts gX11_brokenAt_X7_size rfl rfl rfl kdX7_size ⟨Nat.le_of_ble_eq_true rfl, Nat.le_of_ble_eq_true rfl⟩) (shf_O hv0) rfl rfl hP hS hA rfl hl.1 rfl (Nat.le_of_ble_eq_true rfl) dX11_brokenAt_6 ⟨Nat.le_refl _, Nat.le_refl _⟩ (fun H locs hP hS => ?_)
      refine W.eq (g2 := F0 m 9 ls [.int q1, .int v2]) rfl ?_
      refine lv_icmp_gt (tgt := 58) hx hb dX11_brokenAt_9 (by decide) (fun c2 => ?_) (fun c2 => ?_)
      · have hf := if_t hf c2
        refine lv_iload_n hx hb dX11_brokenAt_58 rfl (lv_at hl 1 rfl) ?_
        exact g_iret hx hb hr hlk hP hS (ret1 hf) dX11_brokenAt_59
      · have hf := if_f hf c2
        refine lv_iload_n hx hb dX11_brokenAt_12 rfl (lv_at hl 2 rfl) ?_
        refine lv_if_le (tgt := 27) hx hb dX11_brokenAt_13 (by decide) (fun c3 => ?_) (fun c3 => ?_)
        · have hf := if_t hf c3
          exact J27 (X11_brokenAt_B4 h v0 fu) ih v1 v2 hf H locs ls hP hS (lv_sub hl [0, 1, 2] rfl)
        · have hf := if_f hf c3
          refine lv_iload_n hx hb dX11_brokenAt_16 rfl (lv_at hl 1 rfl) ?_
          refine lv_aload_n hx hb dX11_brokenAt_17 rfl (lv_at hl 0 rfl) ?_
          obtain ⟨q4, hq4, hf⟩ := bind_s hf
          refine g_callV (As := []) (rest := [.int v1]) hx hb hml hown hts hK hN (m_X7_size l D a C ha h v0 hv0 q4 hq4) (cwV 0 hts gX11_brokenAt_X7_size rfl rfl rfl kdX7_size ⟨Nat.le_of_ble_eq_true rfl, Nat.le_of_ble_eq_true rfl⟩) (shf_O hv0) rfl rfl hP hS hA rfl hl.1 rfl (Nat.le_of_ble_eq_true rfl) dX11_brokenAt_18 ⟨Nat.le_refl _, Nat.le_refl _⟩ (fun H locs hP hS => ?_)
          refine W.eq (g2 := F0 m 21 ls [.int q4, .int v1]) rfl ?_
          refine lv_icmp_ne (tgt := 27) hx hb dX11_brokenAt_21 (by decide) (fun c5 => ?_) (fun c5 => ?_)
          · have hf := if_f hf c5
            exact J27 (X11_brokenAt_B4 h v0 fu) ih v1 v2 hf H locs ls hP hS (lv_sub hl [0, 1, 2] rfl)
          · have hf := if_t hf c5
            refine lv_bipush (v := (-4)) hx hb dX11_brokenAt_24 (by decide) ?_
            exact g_iret hx hb hr hlk hP hS (ret1 hf) dX11_brokenAt_26
  unfold X11_brokenAt at hf
  suffices hh : ∀ (H : Heap) (locs : List Loc), va_P D vwCl (gw a C h) H → va_S (gA a) s.heap H locs → W p l e (headSpec wsX11_brokenAt rmX11_brokenAt).room s m ([.ref (a v0)] : List Value).toArray below meth c H locs 0 0 (MQ below (gQ (some (.int r)) D a C h) ([.ref (a v0)] : List Value).toArray s 0 0 (gA a)) (F0 m 0 ls []) from hh _ _ hP hS
  intro H locs hP hS
  refine lv_iconst (v := 0) hx hb dX11_brokenAt_0 (by decide) ?_
  refine lv_istore_n (lv' := [(1, .int 0), (0, .ref (a v0))]) hx hb dX11_brokenAt_1 rfl hl (by decide) rfl (fun ls hl => ?_)
  refine lv_iconst (v := 0) hx hb dX11_brokenAt_2 (by decide) ?_
  refine lv_istore_n (lv' := [(2, .int 0), (1, .int 0), (0, .ref (a v0))]) hx hb dX11_brokenAt_3 rfl hl (by decide) rfl (fun ls hl => ?_)
  exact J4 FU 0 0 hf H locs ls hP hS (lv_sub hl [2, 1, 0] rfl)

def X11_happens (h : HS) (v1 : Nat) (v2 : Int32) : Option (Int32 × HS) :=
    (X7_at h v1 (v2 + 1)).bind fun q1 =>
    nm (q1 - 48) fun x2 =>
    (X7_at h v1 (v2 + 2)).bind fun q3 =>
    nm (q3 - 48) fun x4 =>
    (X7_at h v1 v2).bind fun q5 =>
    (if q5 = 100 then
    (X5_goOn h 20 ((10 * x2) + x4)).bind fun q7 =>
    some (q7.1, q7.2)
    else
    (if q5 = 104 then
    (X5_inform h 20 x2).bind fun q9 =>
    some (q9.1, q9.2)
    else
    (if q5 = 107 then
    (X7_at h v1 (v2 + 3)).bind fun q11 =>
    (X5_change h 20 x2 x4 (q11 - 48)).bind fun q12 =>
    some (q12.1, q12.2)
    else
    (if q5 = 108 then
    (X5_join h 20 x2 x4).bind fun q14 =>
    some (q14.1, q14.2)
    else
    (if q5 = 112 then
    (X5_arrive h 20 x2 x4).bind fun q16 =>
    some (q16.1, q16.2)
    else
    some ((-1), h))))))
def rmX11_happens : Room := { frames := 6, cells := 0, slots := 0, locals := 140 }
theorem kdX11_happens : yX11_happens.cls = RX11 ∧ yX11_happens.cls ≠ "java/lang/invoke/MethodHandle" ∧ yX11_happens.cls ≠ "java/lang/invoke/VarHandle" ∧ (parseMethodDescriptor yX11_happens.desc).map (fun d => d.parameters.length) = some 2 := by decide +kernel
set_option maxHeartbeats 4000000 in
set_option maxRecDepth 100000 in
theorem m_X11_happens (l : Launch) (D : va_G) (a : Nat → Nat) (C : Nat → ClassId) (ha : ginj a) (h : HS) (v1 : Nat) (v2 : Int32) (hv1 : isShf v1) (r : Int32) (h' : HS) (hf : X11_happens h v1 v2 = some (r, h')) : gM l yX11_happens wsX11_happens rmX11_happens D a C [.ref (a 0), .ref (a v1), .int v2] h (some (.int r)) h' := by
  refine g_start (av := [.ref (a 0), .ref (a v1), .int v2]) (cc := cX11_happens) (maxL := 5) (rt := (some .int)) (by decide) rfl (Nat.le_of_ble_eq_true rfl) ?_
  intro p e s m below meth c hx hb hr hml hown hlk hts hP hK hN ls hl
  have hA : ∀ q, gA a q → gA a q := fun _ q => q
  have hS : va_S (gA a) s.heap s.heap [] := va_S.rf
  have hl : lv_has ls 5 [(0, .ref (a 0)), (1, .ref (a v1)), (2, .int v2)] := hl
  unfold X11_happens at hf
  refine lv_aload_n hx hb dX11_happens_0 rfl (lv_at hl 1 rfl) ?_
  refine lv_iload_n hx hb dX11_happens_1 rfl (lv_at hl 2 rfl) ?_
  refine lv_iconst (v := 1) hx hb dX11_happens_2 (by decide) ?_
  refine lv_iadd hx hb dX11_happens_3 ?_
  obtain ⟨q1, hq1, hf⟩ := bind_s hf
  refine g_callV (As := [.int (v2 + 1)]) (rest := []) hx hb hml hown hts hK hN (m_X7_at l D a C ha h v1 (v2 + 1) hv1 q1 hq1) (cwV 1 hts gX11_happens_X7_at rfl rfl rfl kdX7_at ⟨Nat.le_of_ble_eq_true rfl, Nat.le_of_ble_eq_true rfl⟩) (shf_O hv1) rfl rfl hP hS hA rfl hl.1 rfl (Nat.le_of_ble_eq_true rfl) dX11_happens_4 ⟨Nat.le_refl _, Nat.le_refl _⟩ (fun H locs hP hS => ?_)
  refine W.eq (g2 := F0 m 7 ls [.int q1]) rfl ?_
  refine lv_bipush (v := 48) hx hb dX11_happens_7 (by decide) ?_
  refine lv_isub hx hb dX11_happens_9 ?_
  refine lv_topi (fun x2 ex2 => ?_)
  have hf := nm_s hf ex2
  refine lv_istore_n (lv' := [(3, .int x2), (0, .ref (a 0)), (1, .ref (a v1)), (2, .int v2)]) hx hb dX11_happens_10 rfl hl (by decide) rfl (fun ls hl => ?_)
  refine lv_aload_n hx hb dX11_happens_11 rfl (lv_at hl 2 rfl) ?_
  refine lv_iload_n hx hb dX11_happens_12 rfl (lv_at hl 3 rfl) ?_
  refine lv_iconst (v := 2) hx hb dX11_happens_13 (by decide) ?_
  refine lv_iadd hx hb dX11_happens_14 ?_
  obtain ⟨q3, hq3, hf⟩ := bind_s hf
  refine g_callV (As := [.int (v2 + 2)]) (rest := []) hx hb hml hown hts hK hN (m_X7_at l D a C ha h v1 (v2 + 2) hv1 q3 hq3) (cwV 1 hts gX11_happens_X7_at rfl rfl rfl kdX7_at ⟨Nat.le_of_ble_eq_true rfl, Nat.le_of_ble_eq_true rfl⟩) (shf_O hv1) rfl rfl hP hS hA rfl hl.1 rfl (Nat.le_of_ble_eq_true rfl) dX11_happens_15 ⟨Nat.le_refl _, Nat.le_refl _⟩ (fun H locs hP hS => ?_)
  refine W.eq (g2 := F0 m 18 ls [.int q3]) rfl ?_
  refine lv_bipush (v := 48) hx hb dX11_happens_18 (by decide) ?_
  refine lv_isub hx hb dX11_happens_20 ?_
  refine lv_topi (fun x4 ex4 => ?_)
  have hf := nm_s hf ex4
  refine lv_istore (lv' := [(4, .int x4), (3, .int x2), (0, .ref (a 0)), (1, .ref (a v1)), (2, .int v2)]) hx hb dX11_happens_21 hl (by decide) rfl (fun ls hl => ?_)
  refine lv_aload_n hx hb dX11_happens_23 rfl (lv_at hl 3 rfl) ?_
  refine lv_iload_n hx hb dX11_happens_24 rfl (lv_at hl 4 rfl) ?_
  obtain ⟨q5, hq5, hf⟩ := bind_s hf
  refine g_callV (As := [.int v2]) (rest := []) hx hb hml hown hts hK hN (m_X7_at l D a C ha h v1 v2 hv1 q5 hq5) (cwV 1 hts gX11_happens_X7_at rfl rfl rfl kdX7_at ⟨Nat.le_of_ble_eq_true rfl, Nat.le_of_ble_eq_true rfl⟩) (shf_O hv1) rfl rfl hP hS hA rfl hl.1 rfl (Nat.le_of_ble_eq_true rfl) dX11_happens_25 ⟨Nat.le_refl _, Nat.le_refl _⟩ (fun H locs hP hS => ?_)
  refine W.eq (g2 := F0 m 28 ls [.int q5]) rfl ?_
  by_cases c6 : q5 = 100
  · have hf := if_t hf c6
    refine lv_tableIn (tgt := 148) hx hb dX11_happens_28 (by rw [c6]; decide) (by rw [c6]; decide) (by rw [c6]; rfl) (by decide) ?_
    refine lv_aload_n hx hb dX11_happens_148 rfl (lv_at hl 2 rfl) ?_
    refine g_get (Cn := RX11) (T := TX11) (N := 8) (v := .ref (a 20)) (own := RX11) hx hb hown hts hK X_O rfl (fun _ hw => List.mem_cons_of_mem _ (List.mem_append_left _ (List.mem_append_left _ (List.mem_append_left _ (List.mem_append_right _ hw))))) 1 (by decide) (List.mem_of_getElem? (i := 1) rfl) rfl rfl hP dX11_happens_149 ?_
    refine lv_bipush (v := 10) hx hb dX11_happens_152 (by decide) ?_
    refine lv_iload_n hx hb dX11_happens_154 rfl (lv_at hl 1 rfl) ?_
    refine lv_imul hx hb dX11_happens_155 ?_
    refine lv_iload hx hb dX11_happens_156 (lv_at hl 0 rfl) ?_
    refine lv_iadd hx hb dX11_happens_158 ?_
    obtain ⟨q7, hq7, hf⟩ := bind_s hf
    refine g_callV (As := [.int ((10 * x2) + x4)]) (rest := []) hx hb hml hown hts hK hN (m_X5_goOn l D a C ha h 20 ((10 * x2) + x4) isPar20 q7.1 q7.2 hq7) (cwV 1 hts gX11_happens_X5_goOn rfl rfl rfl kdX5_goOn ⟨Nat.le_of_ble_eq_true rfl, Nat.le_of_ble_eq_true rfl⟩) (par_O isPar20) rfl rfl hP hS hA rfl hl.1 rfl (Nat.le_of_ble_eq_true rfl) dX11_happens_159 ⟨Nat.le_refl _, Nat.le_refl _⟩ (fun H locs hP hS => ?_)
    refine W.eq (g2 := F0 m 162 ls [.int q7.1]) rfl ?_
    exact g_iretW hx hb hr hlk hP hS (ret2 hf) dX11_happens_162
  have hf := if_f hf c6
  by_cases c8 : q5 = 104
  · have hf := if_t hf c8
    refine lv_tableIn (tgt := 118) hx hb dX11_happens_28 (by rw [c8]; decide) (by rw [c8]; decide) (by rw [c8]; rfl) (by decide) ?_
    refine lv_aload_n hx hb dX11_happens_118 rfl (lv_at hl 2 rfl) ?_
    refine g_get (Cn := RX11) (T := TX11) (N := 8) (v := .ref (a 20)) (own := RX11) hx hb hown hts hK X_O rfl (fun _ hw => List.mem_cons_of_mem _ (List.mem_append_left _ (List.mem_append_left _ (List.mem_append_left _ (List.mem_append_right _ hw))))) 1 (by decide) (List.mem_of_getElem? (i := 1) rfl) rfl rfl hP dX11_happens_119 ?_
    refine lv_iload_n hx hb dX11_happens_122 rfl (lv_at hl 1 rfl) ?_
    obtain ⟨q9, hq9, hf⟩ := bind_s hf
    refine g_callV (As := [.int x2]) (rest := []) hx hb hml hown hts hK hN (m_X5_inform l D a C ha h 20 x2 isPar20 q9.1 q9.2 hq9) (cwV 1 hts gX11_happens_X5_inform rfl rfl rfl kdX5_inform ⟨Nat.le_of_ble_eq_true rfl, Nat.le_of_ble_eq_true rfl⟩) (par_O isPar20) rfl rfl hP hS hA rfl hl.1 rfl (Nat.le_of_ble_eq_true rfl) dX11_happens_123 ⟨Nat.le_refl _, Nat.le_refl _⟩ (fun H locs hP hS => ?_)
    refine W.eq (g2 := F0 m 126 ls [.int q9.1]) rfl ?_
    exact g_iretW hx hb hr hlk hP hS (ret2 hf) dX11_happens_126
  have hf := if_f hf c8
  by_cases c10 : q5 = 107
  · have hf := if_t hf c10
    refine lv_tableIn (tgt := 127) hx hb dX11_happens_28 (by rw [c10]; decide) (by rw [c10]; decide) (by rw [c10]; rfl) (by decide) ?_
    refine lv_aload_n hx hb dX11_happens_127 rfl (lv_at hl 2 rfl) ?_
    refine g_get (Cn := RX11) (T := TX11) (N := 8) (v := .ref (a 20)) (own := RX11) hx hb hown hts hK X_O rfl (fun _ hw => List.mem_cons_of_mem _ (List.mem_append_left _ (List.mem_append_left _ (List.mem_append_left _ (List.mem_append_right _ hw))))) 1 (by decide) (List.mem_of_getElem? (i := 1) rfl) rfl rfl hP dX11_happens_128 ?_
    refine lv_iload_n hx hb dX11_happens_131 rfl (lv_at hl 1 rfl) ?_
    refine lv_iload hx hb dX11_happens_132 (lv_at hl 0 rfl) ?_
    refine lv_aload_n hx hb dX11_happens_134 rfl (lv_at hl 3 rfl) ?_
    refine lv_iload_n hx hb dX11_happens_135 rfl (lv_at hl 4 rfl) ?_
    refine lv_iconst (v := 3) hx hb dX11_happens_136 (by decide) ?_
    refine lv_iadd hx hb dX11_happens_137 ?_
    obtain ⟨q11, hq11, hf⟩ := bind_s hf
    refine g_callV (As := [.int (v2 + 3)]) (rest := [.int x4, .int x2, .ref (a 20)]) hx hb hml hown hts hK hN (m_X7_at l D a C ha h v1 (v2 + 3) hv1 q11 hq11) (cwV 1 hts gX11_happens_X7_at rfl rfl rfl kdX7_at ⟨Nat.le_of_ble_eq_true rfl, Nat.le_of_ble_eq_true rfl⟩) (shf_O hv1) rfl rfl hP hS hA rfl hl.1 rfl (Nat.le_of_ble_eq_true rfl) dX11_happens_138 ⟨Nat.le_refl _, Nat.le_refl _⟩ (fun H locs hP hS => ?_)
    refine W.eq (g2 := F0 m 141 ls [.int q11, .int x4, .int x2, .ref (a 20)]) rfl ?_
    refine lv_bipush (v := 48) hx hb dX11_happens_141 (by decide) ?_
    refine lv_isub hx hb dX11_happens_143 ?_
    obtain ⟨q12, hq12, hf⟩ := bind_s hf
    refine g_callV (As := [.int x2, .int x4, .int (q11 - 48)]) (rest := []) hx hb hml hown hts hK hN (m_X5_change l D a C ha h 20 x2 x4 (q11 - 48) isPar20 q12.1 q12.2 hq12) (cwV 3 hts gX11_happens_X5_change rfl rfl rfl kdX5_change ⟨Nat.le_of_ble_eq_true rfl, Nat.le_of_ble_eq_true rfl⟩) (par_O isPar20) rfl rfl hP hS hA rfl hl.1 rfl (Nat.le_of_ble_eq_true rfl) dX11_happens_144 ⟨Nat.le_refl _, Nat.le_refl _⟩ (fun H locs hP hS => ?_)
    refine W.eq (g2 := F0 m 147 ls [.int q12.1]) rfl ?_
    exact g_iretW hx hb hr hlk hP hS (ret2 hf) dX11_happens_147
  have hf := if_f hf c10
  by_cases c13 : q5 = 108
  · have hf := if_t hf c13
    refine lv_tableIn (tgt := 107) hx hb dX11_happens_28 (by rw [c13]; decide) (by rw [c13]; decide) (by rw [c13]; rfl) (by decide) ?_
    refine lv_aload_n hx hb dX11_happens_107 rfl (lv_at hl 2 rfl) ?_
    refine g_get (Cn := RX11) (T := TX11) (N := 8) (v := .ref (a 20)) (own := RX11) hx hb hown hts hK X_O rfl (fun _ hw => List.mem_cons_of_mem _ (List.mem_append_left _ (List.mem_append_left _ (List.mem_append_left _ (List.mem_append_right _ hw))))) 1 (by decide) (List.mem_of_getElem? (i := 1) rfl) rfl rfl hP dX11_happens_108 ?_
    refine lv_iload_n hx hb dX11_happens_111 rfl (lv_at hl 1 rfl) ?_
    refine lv_iload hx hb dX11_happens_112 (lv_at hl 0 rfl) ?_
    obtain ⟨q14, hq14, hf⟩ := bind_s hf
    refine g_callV (As := [.int x2, .int x4]) (rest := []) hx hb hml hown hts hK hN (m_X5_join l D a C ha h 20 x2 x4 isPar20 q14.1 q14.2 hq14) (cwV 2 hts gX11_happens_X5_join rfl rfl rfl kdX5_join ⟨Nat.le_of_ble_eq_true rfl, Nat.le_of_ble_eq_true rfl⟩) (par_O isPar20) rfl rfl hP hS hA rfl hl.1 rfl (Nat.le_of_ble_eq_true rfl) dX11_happens_114 ⟨Nat.le_refl _, Nat.le_refl _⟩ (fun H locs hP hS => ?_)
    refine W.eq (g2 := F0 m 117 ls [.int q14.1]) rfl ?_
    exact g_iretW hx hb hr hlk hP hS (ret2 hf) dX11_happens_117
  have hf := if_f hf c13
  by_cases c15 : q5 = 112
  · have hf := if_t hf c15
    refine lv_tableIn (tgt := 96) hx hb dX11_happens_28 (by rw [c15]; decide) (by rw [c15]; decide) (by rw [c15]; rfl) (by decide) ?_
    refine lv_aload_n hx hb dX11_happens_96 rfl (lv_at hl 2 rfl) ?_
    refine g_get (Cn := RX11) (T := TX11) (N := 8) (v := .ref (a 20)) (own := RX11) hx hb hown hts hK X_O rfl (fun _ hw => List.mem_cons_of_mem _ (List.mem_append_left _ (List.mem_append_left _ (List.mem_append_left _ (List.mem_append_right _ hw))))) 1 (by decide) (List.mem_of_getElem? (i := 1) rfl) rfl rfl hP dX11_happens_97 ?_
    refine lv_iload_n hx hb dX11_happens_100 rfl (lv_at hl 1 rfl) ?_
    refine lv_iload hx hb dX11_happens_101 (lv_at hl 0 rfl) ?_
    obtain ⟨q16, hq16, hf⟩ := bind_s hf
    refine g_callV (As := [.int x2, .int x4]) (rest := []) hx hb hml hown hts hK hN (m_X5_arrive l D a C ha h 20 x2 x4 isPar20 q16.1 q16.2 hq16) (cwV 2 hts gX11_happens_X5_arrive rfl rfl rfl kdX5_arrive ⟨Nat.le_of_ble_eq_true rfl, Nat.le_of_ble_eq_true rfl⟩) (par_O isPar20) rfl rfl hP hS hA rfl hl.1 rfl (Nat.le_of_ble_eq_true rfl) dX11_happens_103 ⟨Nat.le_refl _, Nat.le_refl _⟩ (fun H locs hP hS => ?_)
    refine W.eq (g2 := F0 m 106 ls [.int q16.1]) rfl ?_
    exact g_iretW hx hb hr hlk hP hS (ret2 hf) dX11_happens_106
  have hf := if_f hf c15
  by_cases c17 : q5 = 101
  · refine lv_tableIn (tgt := 163) hx hb dX11_happens_28 (by rw [c17]; decide) (by rw [c17]; decide) (by rw [c17]; rfl) (by decide) ?_
    refine lv_iconst (v := (-1)) hx hb dX11_happens_163 (by decide) ?_
    exact g_iretW hx hb hr hlk hP hS (ret2 hf) dX11_happens_164
  by_cases c18 : q5 = 102
  · refine lv_tableIn (tgt := 163) hx hb dX11_happens_28 (by rw [c18]; decide) (by rw [c18]; decide) (by rw [c18]; rfl) (by decide) ?_
    refine lv_iconst (v := (-1)) hx hb dX11_happens_163 (by decide) ?_
    exact g_iretW hx hb hr hlk hP hS (ret2 hf) dX11_happens_164
  by_cases c19 : q5 = 103
  · refine lv_tableIn (tgt := 163) hx hb dX11_happens_28 (by rw [c19]; decide) (by rw [c19]; decide) (by rw [c19]; rfl) (by decide) ?_
    refine lv_iconst (v := (-1)) hx hb dX11_happens_163 (by decide) ?_
    exact g_iretW hx hb hr hlk hP hS (ret2 hf) dX11_happens_164
  by_cases c20 : q5 = 105
  · refine lv_tableIn (tgt := 163) hx hb dX11_happens_28 (by rw [c20]; decide) (by rw [c20]; decide) (by rw [c20]; rfl) (by decide) ?_
    refine lv_iconst (v := (-1)) hx hb dX11_happens_163 (by decide) ?_
    exact g_iretW hx hb hr hlk hP hS (ret2 hf) dX11_happens_164
  by_cases c21 : q5 = 106
  · refine lv_tableIn (tgt := 163) hx hb dX11_happens_28 (by rw [c21]; decide) (by rw [c21]; decide) (by rw [c21]; rfl) (by decide) ?_
    refine lv_iconst (v := (-1)) hx hb dX11_happens_163 (by decide) ?_
    exact g_iretW hx hb hr hlk hP hS (ret2 hf) dX11_happens_164
  by_cases c22 : q5 = 109
  · refine lv_tableIn (tgt := 163) hx hb dX11_happens_28 (by rw [c22]; decide) (by rw [c22]; decide) (by rw [c22]; rfl) (by decide) ?_
    refine lv_iconst (v := (-1)) hx hb dX11_happens_163 (by decide) ?_
    exact g_iretW hx hb hr hlk hP hS (ret2 hf) dX11_happens_164
  by_cases c23 : q5 = 110
  · refine lv_tableIn (tgt := 163) hx hb dX11_happens_28 (by rw [c23]; decide) (by rw [c23]; decide) (by rw [c23]; rfl) (by decide) ?_
    refine lv_iconst (v := (-1)) hx hb dX11_happens_163 (by decide) ?_
    exact g_iretW hx hb hr hlk hP hS (ret2 hf) dX11_happens_164
  by_cases c24 : q5 = 111
  · refine lv_tableIn (tgt := 163) hx hb dX11_happens_28 (by rw [c24]; decide) (by rw [c24]; decide) (by rw [c24]; rfl) (by decide) ?_
    refine lv_iconst (v := (-1)) hx hb dX11_happens_163 (by decide) ?_
    exact g_iretW hx hb hr hlk hP hS (ret2 hf) dX11_happens_164
  refine lv_tableOut (tgt := 163) hx hb dX11_happens_28 (by have n0 := ti_nz (z := 100) (by decide) c6; have n1 := ti_nz (z := 104) (by decide) c8; have n2 := ti_nz (z := 107) (by decide) c10; have n3 := ti_nz (z := 108) (by decide) c13; have n4 := ti_nz (z := 112) (by decide) c15; have n5 := ti_nz (z := 101) (by decide) c17; have n6 := ti_nz (z := 102) (by decide) c18; have n7 := ti_nz (z := 103) (by decide) c19; have n8 := ti_nz (z := 105) (by decide) c20; have n9 := ti_nz (z := 106) (by decide) c21; have n10 := ti_nz (z := 109) (by decide) c22; have n11 := ti_nz (z := 110) (by decide) c23; have n12 := ti_nz (z := 111) (by decide) c24; omega) (by decide) ?_
  refine lv_iconst (v := (-1)) hx hb dX11_happens_163 (by decide) ?_
  exact g_iretW hx hb hr hlk hP hS (ret2 hf) dX11_happens_164

def X11_parish_B52 (v1 : Int32) : Nat → Nat → Int32 → Int32 → HS → Option (Int32 × HS)
  | 0, _, _, _, _ => none
  | fu + 1, v2, v5, v6, h =>
    (X7_size h v2).bind fun q10 =>
    (if q10 ≤ v6 then
    (X5_become h 5 20).bind fun q12 =>
    some (v5, q12)
    else
    (X11_happens h v2 v6).bind fun q13 =>
    (if 0 ≤ q13.1 then
    nm (v5 + 1) fun x15 =>
    (X7_at q13.2 v2 v6).bind fun q16 =>
    (X11_digitsBehind q16).bind fun q17 =>
    nm (v6 + (2 + q17)) fun x18 =>
    (X11_parish_B52 v1 fu) v2 x15 x18 q13.2
    else
    some (((-2000) - v6), q13.2)))
def X11_parish (h : HS) (v1 : Int32) : Option (Int32 × HS) :=
    (X11_shelfOf h v1).bind fun q1 => oM q1 (
    (X11_textRefusal h none).bind fun q3 =>
    (if q3 = 0 then
    none
    else
    some (q3, h))) fun t2 =>
    (X11_textRefusal h (some t2)).bind fun q5 =>
    (if q5 = 0 then
    (X11_brokenAt h t2).bind fun q7 =>
    (if q7 < 0 then
    (X5_become h 20 5).bind fun q9 =>
    X11_parish_B52 v1 FU t2 0 0 q9
    else
    some (((-1000) - q7), h))
    else
    some (q5, h))
def rmX11_parish : Room := { frames := 7, cells := 0, slots := 0, locals := 164 }
theorem kdX11_parish : yX11_parish.cls = RX11 ∧ yX11_parish.cls ≠ "java/lang/invoke/MethodHandle" ∧ yX11_parish.cls ≠ "java/lang/invoke/VarHandle" ∧ (parseMethodDescriptor yX11_parish.desc).map (fun d => d.parameters.length) = some 1 := by decide +kernel
set_option maxHeartbeats 4000000 in
set_option maxRecDepth 100000 in
theorem m_X11_parish (l : Launch) (D : va_G) (a : Nat → Nat) (C : Nat → ClassId) (ha : ginj a) (h : HS) (v1 : Int32)  (r : Int32) (h' : HS) (hf : X11_parish h v1 = some (r, h')) : gM l yX11_parish wsX11_parish rmX11_parish D a C [.ref (a 0), .int v1] h (some (.int r)) h' := by
  refine g_start (av := [.ref (a 0), .int v1]) (cc := cX11_parish) (maxL := 7) (rt := (some .int)) (by decide) rfl (Nat.le_of_ble_eq_true rfl) ?_
  intro p e s m below meth c hx hb hr hml hown hlk hts hP hK hN ls hl
  have hA : ∀ q, gA a q → gA a q := fun _ q => q
  have hS : va_S (gA a) s.heap s.heap [] := va_S.rf
  have hl : lv_has ls 7 [(0, .ref (a 0)), (1, .int v1)] := hl
  have J52 : ∀ (fu : Nat) (v2 : Nat) (v5 : Int32) (v6 : Int32) (h : HS) (hv2 : isShf v2), X11_parish_B52 v1 fu v2 v5 v6 h = some (r, h') → gG p l e (headSpec wsX11_parish rmX11_parish).room s m ([.ref (a 0), .int v1] : List Value).toArray below meth c (MQ below (gQ (some (.int r)) D a C h') ([.ref (a 0), .int v1] : List Value).toArray s 0 0 (gA a)) D a C 7 h 52 [(0, .ref (a 0)), (2, .ref (a v2)), (5, .int v5), (6, .int v6)] [] := by
    intro fu
    induction fu with
    | zero => intro v2 v5 v6 h hv2 hf; exact absurd hf (by simp [X11_parish_B52])
    | succ fu ih =>
      intro v2 v5 v6 h hv2 hf H locs ls hP hS hl
      rw [X11_parish_B52] at hf
      refine lv_iload hx hb dX11_parish_52 (lv_at hl 3 rfl) ?_
      refine lv_aload_n hx hb dX11_parish_54 rfl (lv_at hl 1 rfl) ?_
      obtain ⟨q10, hq10, hf⟩ := bind_s hf
      refine g_callV (As := []) (rest := [.int v6]) hx hb hml hown hts hK hN (m_X7_size l D a C ha h v2 hv2 q10 hq10) (cwV 0 hts gX11_parish_X7_size rfl rfl rfl kdX7_size ⟨Nat.le_of_ble_eq_true rfl, Nat.le_of_ble_eq_true rfl⟩) (shf_O hv2) rfl rfl hP hS hA rfl hl.1 rfl (Nat.le_of_ble_eq_true rfl) dX11_parish_55 ⟨Nat.le_refl _, Nat.le_refl _⟩ (fun H locs hP hS => ?_)
      refine W.eq (g2 := F0 m 58 ls [.int q10, .int v6]) rfl ?_
      refine lv_icmp_ge (tgt := 100) hx hb dX11_parish_58 (by decide) (fun c11 => ?_) (fun c11 => ?_)
      · have hf := if_t hf c11
        refine lv_aload_n hx hb dX11_parish_100 rfl (lv_at hl 0 rfl) ?_
        refine g_get (Cn := RX11) (T := TX11) (N := 8) (v := .ref (a 5)) (own := RX11) hx hb hown hts hK X_O rfl (fun _ hw => List.mem_cons_of_mem _ (List.mem_append_left _ (List.mem_append_left _ (List.mem_append_left _ (List.mem_append_right _ hw))))) 0 (by decide) (List.mem_of_getElem? (i := 2) rfl) rfl rfl hP dX11_parish_101 ?_
        refine lv_aload_n hx hb dX11_parish_104 rfl (lv_at hl 0 rfl) ?_
        refine g_get (Cn := RX11) (T := TX11) (N := 8) (v := .ref (a 20)) (own := RX11) hx hb hown hts hK X_O rfl (fun _ hw => List.mem_cons_of_mem _ (List.mem_append_left _ (List.mem_append_left _ (List.mem_append_left _ (List.mem_append_right _ hw))))) 1 (by decide) (List.mem_of_getElem? (i := 1) rfl) rfl rfl hP dX11_parish_105 ?_
        obtain ⟨q12, hq12, hf⟩ := bind_s hf
        refine g_callV (As := [.ref (a 20)]) (rest := []) hx hb hml hown hts hK hN (m_X5_become l D a C ha h 5 20 isPar5 isPar20 q12 hq12) (cwV 1 hts gX11_parish_X5_become rfl rfl rfl kdX5_become ⟨Nat.le_of_ble_eq_true rfl, Nat.le_of_ble_eq_true rfl⟩) (par_O isPar5) rfl rfl hP hS hA rfl hl.1 rfl (Nat.le_of_ble_eq_true rfl) dX11_parish_108 ⟨Nat.le_refl _, Nat.le_refl _⟩ (fun H locs hP hS => ?_)
        refine W.eq (g2 := F0 m 111 ls []) rfl ?_
        refine lv_iload hx hb dX11_parish_111 (lv_at hl 2 rfl) ?_
        exact g_iretW hx hb hr hlk hP hS (ret2 hf) dX11_parish_113
      · have hf := if_f hf c11
        refine lv_aload_n hx hb dX11_parish_61 rfl (lv_at hl 0 rfl) ?_
        refine lv_aload_n hx hb dX11_parish_62 rfl (lv_at hl 1 rfl) ?_
        refine lv_iload hx hb dX11_parish_63 (lv_at hl 3 rfl) ?_
        obtain ⟨q13, hq13, hf⟩ := bind_s hf
        refine g_callV (As := [.ref (a v2), .int v6]) (rest := []) hx hb hml hown hts hK hN (m_X11_happens l D a C ha h v2 v6 hv2 q13.1 q13.2 hq13) (cwV 2 hts gX11_parish_X11_happens rfl rfl rfl kdX11_happens ⟨Nat.le_of_ble_eq_true rfl, Nat.le_of_ble_eq_true rfl⟩) X_O rfl rfl hP hS hA rfl hl.1 rfl (Nat.le_of_ble_eq_true rfl) dX11_parish_65 ⟨Nat.le_refl _, Nat.le_refl _⟩ (fun H locs hP hS => ?_)
        refine W.eq (g2 := F0 m 68 ls [.int q13.1]) rfl ?_
        refine lv_if_ge (tgt := 78) hx hb dX11_parish_68 (by decide) (fun c14 => ?_) (fun c14 => ?_)
        · have hf := if_t hf c14
          obtain ⟨x15, ex15⟩ : ∃ y : Int32, y = (v5 + 1) := ⟨_, rfl⟩
          have hf := nm_s hf ex15
          refine lv_iinc (v := x15) (lv' := [(5, .int x15), (0, .ref (a 0)), (2, .ref (a v2)), (6, .int v6)]) hx hb dX11_parish_78 hl (k := 2) rfl (by rw [ex15]; rfl) (by decide) rfl (fun ls hl => ?_)
          refine lv_iload hx hb dX11_parish_81 (lv_at hl 3 rfl) ?_
          refine lv_iconst (v := 2) hx hb dX11_parish_83 (by decide) ?_
          refine lv_aload_n hx hb dX11_parish_84 rfl (lv_at hl 2 rfl) ?_
          refine lv_iload hx hb dX11_parish_85 (lv_at hl 3 rfl) ?_
          obtain ⟨q16, hq16, hf⟩ := bind_s hf
          refine g_callV (As := [.int v6]) (rest := [.int 2, .int v6]) hx hb hml hown hts hK hN (m_X7_at l D a C ha q13.2 v2 v6 hv2 q16 hq16) (cwV 1 hts gX11_parish_X7_at rfl rfl rfl kdX7_at ⟨Nat.le_of_ble_eq_true rfl, Nat.le_of_ble_eq_true rfl⟩) (shf_O hv2) rfl rfl hP hS hA rfl hl.1 rfl (Nat.le_of_ble_eq_true rfl) dX11_parish_87 ⟨Nat.le_refl _, Nat.le_refl _⟩ (fun H locs hP hS => ?_)
          refine W.eq (g2 := F0 m 90 ls [.int q16, .int 2, .int v6]) rfl ?_
          obtain ⟨q17, hq17, hf⟩ := bind_s hf
          refine g_callS (As := [.int q16]) (rest := [.int 2, .int v6]) hx hb hml hown hts hK hN (m_X11_digitsBehind l D a C ha q13.2 q16  q17 hq17) (va_cwS 1 hts gX11_parish_X11_digitsBehind rfl rfl rfl kdX11_digitsBehind.2 ⟨Nat.le_of_ble_eq_true rfl, Nat.le_of_ble_eq_true rfl⟩) hP hS hA rfl hl.1 rfl (Nat.le_of_ble_eq_true rfl) dX11_parish_90 ⟨Nat.le_refl _, Nat.le_refl _⟩ (fun H locs hP hS => ?_)
          refine W.eq (g2 := F0 m 93 ls [.int q17, .int 2, .int v6]) rfl ?_
          refine lv_iadd hx hb dX11_parish_93 ?_
          refine lv_iadd hx hb dX11_parish_94 ?_
          refine lv_topi (fun x18 ex18 => ?_)
          have hf := nm_s hf ex18
          refine lv_istore (lv' := [(6, .int x18), (5, .int x15), (0, .ref (a 0)), (2, .ref (a v2))]) hx hb dX11_parish_95 hl (by decide) rfl (fun ls hl => ?_)
          refine lv_goto (tgt := 52) hx hb dX11_parish_97 (by decide) ?_
          exact ih v2 x15 x18 q13.2 hv2 hf H locs ls hP hS (lv_sub hl [2, 3, 1, 0] rfl)
        · have hf := if_f hf c14
          refine lv_sipush (v := (-2000)) hx hb dX11_parish_71 (by decide) ?_
          refine lv_iload hx hb dX11_parish_74 (lv_at hl 3 rfl) ?_
          refine lv_isub hx hb dX11_parish_76 ?_
          exact g_iretW hx hb hr hlk hP hS (ret2 hf) dX11_parish_77
  unfold X11_parish at hf
  suffices hh : ∀ (H : Heap) (locs : List Loc), va_P D vwCl (gw a C h) H → va_S (gA a) s.heap H locs → W p l e (headSpec wsX11_parish rmX11_parish).room s m ([.ref (a 0), .int v1] : List Value).toArray below meth c H locs 0 0 (MQ below (gQ (some (.int r)) D a C h') ([.ref (a 0), .int v1] : List Value).toArray s 0 0 (gA a)) (F0 m 0 ls []) from hh _ _ hP hS
  intro H locs hP hS
  refine lv_aload_n hx hb dX11_parish_0 rfl (lv_at hl 0 rfl) ?_
  refine lv_iload_n hx hb dX11_parish_1 rfl (lv_at hl 1 rfl) ?_
  obtain ⟨q1, hq1, hf⟩ := bind_s hf
  refine g_callV (As := [.int v1]) (rest := []) hx hb hml hown hts hK hN (m_X11_shelfOf l D a C ha h v1  q1 hq1) (cwV 1 hts gX11_parish_X11_shelfOf rfl rfl rfl kdX11_shelfOf ⟨Nat.le_of_ble_eq_true rfl, Nat.le_of_ble_eq_true rfl⟩) X_O rfl rfl hP hS hA rfl hl.1 rfl (Nat.le_of_ble_eq_true rfl) dX11_parish_2 ⟨Nat.le_refl _, Nat.le_refl _⟩ (fun H locs hP hS => ?_)
  rcases q1 with _ | t2
  · have hf := oM_none hf
    refine W.eq (g2 := F0 m 5 ls [.null]) rfl ?_
    refine lv_astore_nN (lv' := [(2, .null), (0, .ref (a 0)), (1, .int v1)]) hx hb dX11_parish_5 rfl hl (by decide) rfl (fun ls hl => ?_)
    refine lv_aload_nN hx hb dX11_parish_6 rfl (lv_at hl 0 rfl) ?_
    obtain ⟨q3, hq3, hf⟩ := bind_s hf
    refine g_callS (As := [.null]) (rest := []) hx hb hml hown hts hK hN (m_X11_textRefusal l D a C ha h none isShO_none q3 hq3) (va_cwS 1 hts gX11_parish_X11_textRefusal rfl rfl rfl kdX11_textRefusal.2 ⟨Nat.le_of_ble_eq_true rfl, Nat.le_of_ble_eq_true rfl⟩) hP hS hA rfl hl.1 rfl (Nat.le_of_ble_eq_true rfl) dX11_parish_7 ⟨Nat.le_refl _, Nat.le_refl _⟩ (fun H locs hP hS => ?_)
    refine W.eq (g2 := F0 m 10 ls [.int q3]) rfl ?_
    refine lv_istore_n (lv' := [(3, .int q3), (2, .null), (0, .ref (a 0)), (1, .int v1)]) hx hb dX11_parish_10 rfl hl (by decide) rfl (fun ls hl => ?_)
    refine lv_iload_n hx hb dX11_parish_11 rfl (lv_at hl 0 rfl) ?_
    refine lv_if_eq (tgt := 17) hx hb dX11_parish_12 (by decide) (fun c4 => ?_) (fun c4 => ?_)
    · have hf := if_t hf c4
      refine lv_aload_nN hx hb dX11_parish_17 rfl (lv_at hl 1 rfl) ?_
      exact absurd hf (by simp)
    · have hf := if_f hf c4
      refine lv_iload_n hx hb dX11_parish_15 rfl (lv_at hl 0 rfl) ?_
      exact g_iretW hx hb hr hlk hP hS (ret2 hf) dX11_parish_16
  · have hf := oM_some hf
    have ht2 : isShf t2 := X11_shelfOf_ok hq1 t2 rfl
    refine W.eq (g2 := F0 m 5 ls [.ref (a t2)]) rfl ?_
    refine lv_astore_n (lv' := [(2, .ref (a t2)), (0, .ref (a 0)), (1, .int v1)]) hx hb dX11_parish_5 rfl hl (by decide) rfl (fun ls hl => ?_)
    refine lv_aload_n hx hb dX11_parish_6 rfl (lv_at hl 0 rfl) ?_
    obtain ⟨q5, hq5, hf⟩ := bind_s hf
    refine g_callS (As := [.ref (a t2)]) (rest := []) hx hb hml hown hts hK hN (m_X11_textRefusal l D a C ha h (some t2) (isShO_some ht2) q5 hq5) (va_cwS 1 hts gX11_parish_X11_textRefusal rfl rfl rfl kdX11_textRefusal.2 ⟨Nat.le_of_ble_eq_true rfl, Nat.le_of_ble_eq_true rfl⟩) hP hS hA rfl hl.1 rfl (Nat.le_of_ble_eq_true rfl) dX11_parish_7 ⟨Nat.le_refl _, Nat.le_refl _⟩ (fun H locs hP hS => ?_)
    refine W.eq (g2 := F0 m 10 ls [.int q5]) rfl ?_
    refine lv_istore_n (lv' := [(3, .int q5), (2, .ref (a t2)), (0, .ref (a 0)), (1, .int v1)]) hx hb dX11_parish_10 rfl hl (by decide) rfl (fun ls hl => ?_)
    refine lv_iload_n hx hb dX11_parish_11 rfl (lv_at hl 0 rfl) ?_
    refine lv_if_eq (tgt := 17) hx hb dX11_parish_12 (by decide) (fun c6 => ?_) (fun c6 => ?_)
    · have hf := if_t hf c6
      refine lv_aload_n hx hb dX11_parish_17 rfl (lv_at hl 1 rfl) ?_
      obtain ⟨q7, hq7, hf⟩ := bind_s hf
      refine g_callS (As := [.ref (a t2)]) (rest := []) hx hb hml hown hts hK hN (m_X11_brokenAt l D a C ha h t2 ht2 q7 hq7) (va_cwS 1 hts gX11_parish_X11_brokenAt rfl rfl rfl kdX11_brokenAt.2 ⟨Nat.le_of_ble_eq_true rfl, Nat.le_of_ble_eq_true rfl⟩) hP hS hA rfl hl.1 rfl (Nat.le_of_ble_eq_true rfl) dX11_parish_18 ⟨Nat.le_refl _, Nat.le_refl _⟩ (fun H locs hP hS => ?_)
      refine W.eq (g2 := F0 m 21 ls [.int q7]) rfl ?_
      refine lv_istore (lv' := [(4, .int q7), (3, .int q5), (2, .ref (a t2)), (0, .ref (a 0)), (1, .int v1)]) hx hb dX11_parish_21 hl (by decide) rfl (fun ls hl => ?_)
      refine lv_iload hx hb dX11_parish_23 (lv_at hl 0 rfl) ?_
      refine lv_if_lt (tgt := 35) hx hb dX11_parish_25 (by decide) (fun c8 => ?_) (fun c8 => ?_)
      · have hf := if_t hf c8
        refine lv_aload_n hx hb dX11_parish_35 rfl (lv_at hl 3 rfl) ?_
        refine g_get (Cn := RX11) (T := TX11) (N := 8) (v := .ref (a 20)) (own := RX11) hx hb hown hts hK X_O rfl (fun _ hw => List.mem_cons_of_mem _ (List.mem_append_left _ (List.mem_append_left _ (List.mem_append_left _ (List.mem_append_right _ hw))))) 1 (by decide) (List.mem_of_getElem? (i := 1) rfl) rfl rfl hP dX11_parish_36 ?_
        refine lv_aload_n hx hb dX11_parish_39 rfl (lv_at hl 3 rfl) ?_
        refine g_get (Cn := RX11) (T := TX11) (N := 8) (v := .ref (a 5)) (own := RX11) hx hb hown hts hK X_O rfl (fun _ hw => List.mem_cons_of_mem _ (List.mem_append_left _ (List.mem_append_left _ (List.mem_append_left _ (List.mem_append_right _ hw))))) 0 (by decide) (List.mem_of_getElem? (i := 2) rfl) rfl rfl hP dX11_parish_40 ?_
        obtain ⟨q9, hq9, hf⟩ := bind_s hf
        refine g_callV (As := [.ref (a 5)]) (rest := []) hx hb hml hown hts hK hN (m_X5_become l D a C ha h 20 5 isPar20 isPar5 q9 hq9) (cwV 1 hts gX11_parish_X5_become rfl rfl rfl kdX5_become ⟨Nat.le_of_ble_eq_true rfl, Nat.le_of_ble_eq_true rfl⟩) (par_O isPar20) rfl rfl hP hS hA rfl hl.1 rfl (Nat.le_of_ble_eq_true rfl) dX11_parish_43 ⟨Nat.le_refl _, Nat.le_refl _⟩ (fun H locs hP hS => ?_)
        refine W.eq (g2 := F0 m 46 ls []) rfl ?_
        refine lv_iconst (v := 0) hx hb dX11_parish_46 (by decide) ?_
        refine lv_istore (lv' := [(5, .int 0), (4, .int q7), (3, .int q5), (2, .ref (a t2)), (0, .ref (a 0)), (1, .int v1)]) hx hb dX11_parish_47 hl (by decide) rfl (fun ls hl => ?_)
        refine lv_iconst (v := 0) hx hb dX11_parish_49 (by decide) ?_
        refine lv_istore (lv' := [(6, .int 0), (5, .int 0), (4, .int q7), (3, .int q5), (2, .ref (a t2)), (0, .ref (a 0)), (1, .int v1)]) hx hb dX11_parish_50 hl (by decide) rfl (fun ls hl => ?_)
        exact J52 FU t2 0 0 q9 ht2 hf H locs ls hP hS (lv_sub hl [5, 4, 1, 0] rfl)
      · have hf := if_f hf c8
        refine lv_sipush (v := (-1000)) hx hb dX11_parish_28 (by decide) ?_
        refine lv_iload hx hb dX11_parish_31 (lv_at hl 0 rfl) ?_
        refine lv_isub hx hb dX11_parish_33 ?_
        exact g_iretW hx hb hr hlk hP hS (ret2 hf) dX11_parish_34
    · have hf := if_f hf c6
      refine lv_iload_n hx hb dX11_parish_15 rfl (lv_at hl 0 rfl) ?_
      exact g_iretW hx hb hr hlk hP hS (ret2 hf) dX11_parish_16

def X11_one (h : HS) (v1 : Int32) (v2 : Int32) : Option Int32 :=
    (X5_has h 5 v1).bind fun q1 =>
    (if q1 = 0 then
    some (-1)
    else
    (if v2 = 0 then
    (X5_kindOf h 5 v1).bind fun q4 =>
    some q4
    else
    (if v2 = 1 then
    (X5_figureOf h 5 v1).bind fun q6 =>
    some q6
    else
    (if v2 = 2 then
    (X4_number h 6 v1).bind fun q8 =>
    some q8
    else
    (if v2 = 3 then
    (X4_around h 6 v1).bind fun q10 =>
    some q10
    else
    (if v2 = 4 then
    some (((fI h 5 4) >>> (v1 &&& 31)) &&& 1)
    else
    (if v2 = 5 then
    (X5_kindOf h 5 v1).bind fun q13 =>
    (X5_kindNamed h 5 q13).bind fun q14 =>
    (X5_figureOf h 5 v1).bind fun q15 =>
    (V_tellsAtMost q14 q15 ((fI h 5 6) + 1)).bind fun q16 =>
    some q16
    else
    (if v2 = 6 then
    (X5_cardsOf h 5 v1).bind fun q18 =>
    some q18
    else
    (if v2 = 7 then
    (X4_feelers h 6).bind fun q20 =>
    some ((q20 >>> (v1 &&& 31)) &&& 1)
    else
    some (-1))))))))))
def rmX11_one : Room := { frames := 5, cells := 0, slots := 0, locals := 109 }
theorem kdX11_one : yX11_one.cls = RX11 ∧ yX11_one.cls ≠ "java/lang/invoke/MethodHandle" ∧ yX11_one.cls ≠ "java/lang/invoke/VarHandle" ∧ (parseMethodDescriptor yX11_one.desc).map (fun d => d.parameters.length) = some 2 := by decide +kernel
set_option maxHeartbeats 4000000 in
set_option maxRecDepth 100000 in
theorem m_X11_one (l : Launch) (D : va_G) (a : Nat → Nat) (C : Nat → ClassId) (ha : ginj a) (h : HS) (v1 : Int32) (v2 : Int32)  (r : Int32) (hf : X11_one h v1 v2 = some r) : gM l yX11_one wsX11_one rmX11_one D a C [.ref (a 0), .int v1, .int v2] h (some (.int r)) h := by
  refine g_start (av := [.ref (a 0), .int v1, .int v2]) (cc := cX11_one) (maxL := 3) (rt := (some .int)) (by decide) rfl (Nat.le_of_ble_eq_true rfl) ?_
  intro p e s m below meth c hx hb hr hml hown hlk hts hP hK hN ls hl
  have hA : ∀ q, gA a q → gA a q := fun _ q => q
  have hS : va_S (gA a) s.heap s.heap [] := va_S.rf
  have hl : lv_has ls 3 [(0, .ref (a 0)), (1, .int v1), (2, .int v2)] := hl
  unfold X11_one at hf
  refine lv_aload_n hx hb dX11_one_0 rfl (lv_at hl 0 rfl) ?_
  refine g_get (Cn := RX11) (T := TX11) (N := 8) (v := .ref (a 5)) (own := RX11) hx hb hown hts hK X_O rfl (fun _ hw => List.mem_cons_of_mem _ (List.mem_append_left _ (List.mem_append_left _ (List.mem_append_right _ hw)))) 0 (by decide) (List.mem_of_getElem? (i := 1) rfl) rfl rfl hP dX11_one_1 ?_
  refine lv_iload_n hx hb dX11_one_4 rfl (lv_at hl 1 rfl) ?_
  obtain ⟨q1, hq1, hf⟩ := bind_s hf
  refine g_callV (As := [.int v1]) (rest := []) hx hb hml hown hts hK hN (m_X5_has l D a C ha h 5 v1 isPar5 q1 hq1) (cwV 1 hts gX11_one_X5_has rfl rfl rfl kdX5_has ⟨Nat.le_of_ble_eq_true rfl, Nat.le_of_ble_eq_true rfl⟩) (par_O isPar5) rfl rfl hP hS hA rfl hl.1 rfl (Nat.le_of_ble_eq_true rfl) dX11_one_5 ⟨Nat.le_refl _, Nat.le_refl _⟩ (fun H locs hP hS => ?_)
  refine W.eq (g2 := F0 m 8 ls [.int q1]) rfl ?_
  refine lv_if_ne (tgt := 13) hx hb dX11_one_8 (by decide) (fun c2 => ?_) (fun c2 => ?_)
  · have hf := if_f hf c2
    refine lv_iload_n hx hb dX11_one_13 rfl (lv_at hl 2 rfl) ?_
    by_cases c3 : v2 = 0
    · have hf := if_t hf c3
      refine lv_tableIn (tgt := 60) hx hb dX11_one_14 (by rw [c3]; decide) (by rw [c3]; decide) (by rw [c3]; rfl) (by decide) ?_
      refine lv_aload_n hx hb dX11_one_60 rfl (lv_at hl 0 rfl) ?_
      refine g_get (Cn := RX11) (T := TX11) (N := 8) (v := .ref (a 5)) (own := RX11) hx hb hown hts hK X_O rfl (fun _ hw => List.mem_cons_of_mem _ (List.mem_append_left _ (List.mem_append_left _ (List.mem_append_right _ hw)))) 0 (by decide) (List.mem_of_getElem? (i := 1) rfl) rfl rfl hP dX11_one_61 ?_
      refine lv_iload_n hx hb dX11_one_64 rfl (lv_at hl 1 rfl) ?_
      obtain ⟨q4, hq4, hf⟩ := bind_s hf
      refine g_callV (As := [.int v1]) (rest := []) hx hb hml hown hts hK hN (m_X5_kindOf l D a C ha h 5 v1 isPar5 q4 hq4) (cwV 1 hts gX11_one_X5_kindOf rfl rfl rfl kdX5_kindOf ⟨Nat.le_of_ble_eq_true rfl, Nat.le_of_ble_eq_true rfl⟩) (par_O isPar5) rfl rfl hP hS hA rfl hl.1 rfl (Nat.le_of_ble_eq_true rfl) dX11_one_65 ⟨Nat.le_refl _, Nat.le_refl _⟩ (fun H locs hP hS => ?_)
      refine W.eq (g2 := F0 m 68 ls [.int q4]) rfl ?_
      exact g_iret hx hb hr hlk hP hS (ret1 hf) dX11_one_68
    have hf := if_f hf c3
    by_cases c5 : v2 = 1
    · have hf := if_t hf c5
      refine lv_tableIn (tgt := 69) hx hb dX11_one_14 (by rw [c5]; decide) (by rw [c5]; decide) (by rw [c5]; rfl) (by decide) ?_
      refine lv_aload_n hx hb dX11_one_69 rfl (lv_at hl 0 rfl) ?_
      refine g_get (Cn := RX11) (T := TX11) (N := 8) (v := .ref (a 5)) (own := RX11) hx hb hown hts hK X_O rfl (fun _ hw => List.mem_cons_of_mem _ (List.mem_append_left _ (List.mem_append_left _ (List.mem_append_right _ hw)))) 0 (by decide) (List.mem_of_getElem? (i := 1) rfl) rfl rfl hP dX11_one_70 ?_
      refine lv_iload_n hx hb dX11_one_73 rfl (lv_at hl 1 rfl) ?_
      obtain ⟨q6, hq6, hf⟩ := bind_s hf
      refine g_callV (As := [.int v1]) (rest := []) hx hb hml hown hts hK hN (m_X5_figureOf l D a C ha h 5 v1 isPar5 q6 hq6) (cwV 1 hts gX11_one_X5_figureOf rfl rfl rfl kdX5_figureOf ⟨Nat.le_of_ble_eq_true rfl, Nat.le_of_ble_eq_true rfl⟩) (par_O isPar5) rfl rfl hP hS hA rfl hl.1 rfl (Nat.le_of_ble_eq_true rfl) dX11_one_74 ⟨Nat.le_refl _, Nat.le_refl _⟩ (fun H locs hP hS => ?_)
      refine W.eq (g2 := F0 m 77 ls [.int q6]) rfl ?_
      exact g_iret hx hb hr hlk hP hS (ret1 hf) dX11_one_77
    have hf := if_f hf c5
    by_cases c7 : v2 = 2
    · have hf := if_t hf c7
      refine lv_tableIn (tgt := 78) hx hb dX11_one_14 (by rw [c7]; decide) (by rw [c7]; decide) (by rw [c7]; rfl) (by decide) ?_
      refine lv_aload_n hx hb dX11_one_78 rfl (lv_at hl 0 rfl) ?_
      refine g_get (Cn := RX11) (T := TX11) (N := 8) (v := .ref (a 5)) (own := RX11) hx hb hown hts hK X_O rfl (fun _ hw => List.mem_cons_of_mem _ (List.mem_append_left _ (List.mem_append_left _ (List.mem_append_right _ hw)))) 0 (by decide) (List.mem_of_getElem? (i := 1) rfl) rfl rfl hP dX11_one_79 ?_
      refine g_getN (Cn := RX5) (T := TX5) (N := 7) (v := .ref (a 6)) (own := RX11) hx hb hown hts hK hN (par_O isPar5) rfl (fun _ hw => List.mem_cons_of_mem _ (List.mem_append_left _ (List.mem_append_right _ hw))) 0 (by decide) (List.mem_of_getElem? (i := 6) rfl) rfl rfl hP dX11_one_82 ?_
      refine lv_iload_n hx hb dX11_one_85 rfl (lv_at hl 1 rfl) ?_
      obtain ⟨q8, hq8, hf⟩ := bind_s hf
      refine g_callV (As := [.int v1]) (rest := []) hx hb hml hown hts hK hN (m_X4_number l D a C ha h 6 v1 (par_lin isPar5) q8 hq8) (cwV 1 hts gX11_one_X4_number rfl rfl rfl kdX4_number ⟨Nat.le_of_ble_eq_true rfl, Nat.le_of_ble_eq_true rfl⟩) (lin_O (par_lin isPar5)) rfl rfl hP hS hA rfl hl.1 rfl (Nat.le_of_ble_eq_true rfl) dX11_one_86 ⟨Nat.le_refl _, Nat.le_refl _⟩ (fun H locs hP hS => ?_)
      refine W.eq (g2 := F0 m 89 ls [.int q8]) rfl ?_
      exact g_iret hx hb hr hlk hP hS (ret1 hf) dX11_one_89
    have hf := if_f hf c7
    by_cases c9 : v2 = 3
    · have hf := if_t hf c9
      refine lv_tableIn (tgt := 90) hx hb dX11_one_14 (by rw [c9]; decide) (by rw [c9]; decide) (by rw [c9]; rfl) (by decide) ?_
      refine lv_aload_n hx hb dX11_one_90 rfl (lv_at hl 0 rfl) ?_
      refine g_get (Cn := RX11) (T := TX11) (N := 8) (v := .ref (a 5)) (own := RX11) hx hb hown hts hK X_O rfl (fun _ hw => List.mem_cons_of_mem _ (List.mem_append_left _ (List.mem_append_left _ (List.mem_append_right _ hw)))) 0 (by decide) (List.mem_of_getElem? (i := 1) rfl) rfl rfl hP dX11_one_91 ?_
      refine g_getN (Cn := RX5) (T := TX5) (N := 7) (v := .ref (a 6)) (own := RX11) hx hb hown hts hK hN (par_O isPar5) rfl (fun _ hw => List.mem_cons_of_mem _ (List.mem_append_left _ (List.mem_append_right _ hw))) 0 (by decide) (List.mem_of_getElem? (i := 6) rfl) rfl rfl hP dX11_one_94 ?_
      refine lv_iload_n hx hb dX11_one_97 rfl (lv_at hl 1 rfl) ?_
      obtain ⟨q10, hq10, hf⟩ := bind_s hf
      refine g_callV (As := [.int v1]) (rest := []) hx hb hml hown hts hK hN (m_X4_around l D a C ha h 6 v1 (par_lin isPar5) q10 hq10) (cwV 1 hts gX11_one_X4_around rfl rfl rfl kdX4_around ⟨Nat.le_of_ble_eq_true rfl, Nat.le_of_ble_eq_true rfl⟩) (lin_O (par_lin isPar5)) rfl rfl hP hS hA rfl hl.1 rfl (Nat.le_of_ble_eq_true rfl) dX11_one_98 ⟨Nat.le_refl _, Nat.le_refl _⟩ (fun H locs hP hS => ?_)
      refine W.eq (g2 := F0 m 101 ls [.int q10]) rfl ?_
      exact g_iret hx hb hr hlk hP hS (ret1 hf) dX11_one_101
    have hf := if_f hf c9
    by_cases c11 : v2 = 4
    · have hf := if_t hf c11
      refine lv_tableIn (tgt := 102) hx hb dX11_one_14 (by rw [c11]; decide) (by rw [c11]; decide) (by rw [c11]; rfl) (by decide) ?_
      refine lv_aload_n hx hb dX11_one_102 rfl (lv_at hl 0 rfl) ?_
      refine g_get (Cn := RX11) (T := TX11) (N := 8) (v := .ref (a 5)) (own := RX11) hx hb hown hts hK X_O rfl (fun _ hw => List.mem_cons_of_mem _ (List.mem_append_left _ (List.mem_append_left _ (List.mem_append_right _ hw)))) 0 (by decide) (List.mem_of_getElem? (i := 1) rfl) rfl rfl hP dX11_one_103 ?_
      refine g_getN (Cn := RX5) (T := TX5) (N := 7) (v := .int (fI h 5 4)) (own := RX11) hx hb hown hts hK hN (par_O isPar5) rfl (fun _ hw => List.mem_cons_of_mem _ (List.mem_append_left _ (List.mem_append_right _ hw))) 4 (by decide) (List.mem_of_getElem? (i := 7) rfl) rfl rfl hP dX11_one_106 ?_
      refine lv_iload_n hx hb dX11_one_109 rfl (lv_at hl 1 rfl) ?_
      refine lv_ishr hx hb dX11_one_110 ?_
      refine lv_iconst (v := 1) hx hb dX11_one_111 (by decide) ?_
      refine lv_iand hx hb dX11_one_112 ?_
      exact g_iret hx hb hr hlk hP hS (ret1 hf) dX11_one_113
    have hf := if_f hf c11
    by_cases c12 : v2 = 5
    · have hf := if_t hf c12
      refine lv_tableIn (tgt := 114) hx hb dX11_one_14 (by rw [c12]; decide) (by rw [c12]; decide) (by rw [c12]; rfl) (by decide) ?_
      refine lv_aload_n hx hb dX11_one_114 rfl (lv_at hl 0 rfl) ?_
      refine g_get (Cn := RX11) (T := TX11) (N := 8) (v := .ref (a 5)) (own := RX11) hx hb hown hts hK X_O rfl (fun _ hw => List.mem_cons_of_mem _ (List.mem_append_left _ (List.mem_append_left _ (List.mem_append_right _ hw)))) 0 (by decide) (List.mem_of_getElem? (i := 1) rfl) rfl rfl hP dX11_one_115 ?_
      refine lv_aload_n hx hb dX11_one_118 rfl (lv_at hl 0 rfl) ?_
      refine g_get (Cn := RX11) (T := TX11) (N := 8) (v := .ref (a 5)) (own := RX11) hx hb hown hts hK X_O rfl (fun _ hw => List.mem_cons_of_mem _ (List.mem_append_left _ (List.mem_append_left _ (List.mem_append_right _ hw)))) 0 (by decide) (List.mem_of_getElem? (i := 1) rfl) rfl rfl hP dX11_one_119 ?_
      refine lv_iload_n hx hb dX11_one_122 rfl (lv_at hl 1 rfl) ?_
      obtain ⟨q13, hq13, hf⟩ := bind_s hf
      refine g_callV (As := [.int v1]) (rest := [.ref (a 5)]) hx hb hml hown hts hK hN (m_X5_kindOf l D a C ha h 5 v1 isPar5 q13 hq13) (cwV 1 hts gX11_one_X5_kindOf rfl rfl rfl kdX5_kindOf ⟨Nat.le_of_ble_eq_true rfl, Nat.le_of_ble_eq_true rfl⟩) (par_O isPar5) rfl rfl hP hS hA rfl hl.1 rfl (Nat.le_of_ble_eq_true rfl) dX11_one_123 ⟨Nat.le_refl _, Nat.le_refl _⟩ (fun H locs hP hS => ?_)
      refine W.eq (g2 := F0 m 126 ls [.int q13, .ref (a 5)]) rfl ?_
      obtain ⟨q14, hq14, hf⟩ := bind_s hf
      refine g_callV (As := [.int q13]) (rest := []) hx hb hml hown hts hK hN (m_X5_kindNamed l D a C ha h 5 q13 isPar5 q14 hq14) (cwV 1 hts gX11_one_X5_kindNamed rfl rfl rfl kdX5_kindNamed ⟨Nat.le_of_ble_eq_true rfl, Nat.le_of_ble_eq_true rfl⟩) (par_O isPar5) rfl rfl hP hS hA rfl hl.1 rfl (Nat.le_of_ble_eq_true rfl) dX11_one_126 ⟨Nat.le_refl _, Nat.le_refl _⟩ (fun H locs hP hS => ?_)
      refine W.eq (g2 := F0 m 129 ls [.ref (a q14)]) rfl ?_
      refine lv_aload_n hx hb dX11_one_129 rfl (lv_at hl 0 rfl) ?_
      refine g_get (Cn := RX11) (T := TX11) (N := 8) (v := .ref (a 5)) (own := RX11) hx hb hown hts hK X_O rfl (fun _ hw => List.mem_cons_of_mem _ (List.mem_append_left _ (List.mem_append_left _ (List.mem_append_right _ hw)))) 0 (by decide) (List.mem_of_getElem? (i := 1) rfl) rfl rfl hP dX11_one_130 ?_
      refine lv_iload_n hx hb dX11_one_133 rfl (lv_at hl 1 rfl) ?_
      obtain ⟨q15, hq15, hf⟩ := bind_s hf
      refine g_callV (As := [.int v1]) (rest := [.ref (a q14)]) hx hb hml hown hts hK hN (m_X5_figureOf l D a C ha h 5 v1 isPar5 q15 hq15) (cwV 1 hts gX11_one_X5_figureOf rfl rfl rfl kdX5_figureOf ⟨Nat.le_of_ble_eq_true rfl, Nat.le_of_ble_eq_true rfl⟩) (par_O isPar5) rfl rfl hP hS hA rfl hl.1 rfl (Nat.le_of_ble_eq_true rfl) dX11_one_134 ⟨Nat.le_refl _, Nat.le_refl _⟩ (fun H locs hP hS => ?_)
      refine W.eq (g2 := F0 m 137 ls [.int q15, .ref (a q14)]) rfl ?_
      refine lv_aload_n hx hb dX11_one_137 rfl (lv_at hl 0 rfl) ?_
      refine g_get (Cn := RX11) (T := TX11) (N := 8) (v := .ref (a 5)) (own := RX11) hx hb hown hts hK X_O rfl (fun _ hw => List.mem_cons_of_mem _ (List.mem_append_left _ (List.mem_append_left _ (List.mem_append_right _ hw)))) 0 (by decide) (List.mem_of_getElem? (i := 1) rfl) rfl rfl hP dX11_one_138 ?_
      refine g_getN (Cn := RX5) (T := TX5) (N := 7) (v := .int (fI h 5 6)) (own := RX11) hx hb hown hts hK hN (par_O isPar5) rfl (fun _ hw => List.mem_cons_of_mem _ (List.mem_append_left _ (List.mem_append_right _ hw))) 6 (by decide) (List.mem_of_getElem? (i := 0) rfl) rfl rfl hP dX11_one_141 ?_
      refine lv_iconst (v := 1) hx hb dX11_one_144 (by decide) ?_
      refine lv_iadd hx hb dX11_one_145 ?_
      obtain ⟨q16, hq16, hf⟩ := bind_s hf
      have kk : ∀ (H : Heap) (locs : List Loc), va_P D vwCl (gw a C h) H → va_S (gA a) s.heap H locs → W p l e (headSpec wsX11_one rmX11_one).room s m ([.ref (a 0), .int v1, .int v2] : List Value).toArray below meth c H locs 0 0 (MQ below (gQ (some (.int r)) D a C h) ([.ref (a 0), .int v1, .int v2] : List Value).toArray s 0 0 (gA a)) (F0 m 149 ls [.int q16]) := by
        intro H locs hP hS
        exact g_iret hx hb hr hlk hP hS (ret1 hf) dX11_one_149
      have hper := knd_per (X5_kindNamed_ok isPar5 hq14)
      rcases V_tellsAtMost_cases hper hq16 with ⟨ho, hv⟩ | ⟨ho, hv⟩ | ⟨ho, hv⟩ | ⟨ho, hv⟩ | ⟨ho, hv⟩ | ⟨ho, hv⟩ | ⟨ho, hv⟩ | ⟨ho, hv⟩
      · exact g_callV (As := [.int q15, .int ((fI h 5 6) + 1)]) (rest := []) hx hb hml hown hts hK hN (m_X6_tellsAtMost l D a C ha h q14 hper q15 ((fI h 5 6) + 1) q16 hv) (cwV 2 hts gX11_one_X6_tellsAtMost rfl rfl rfl kdX6_tellsAtMost ⟨Nat.le_of_ble_eq_true rfl, Nat.le_of_ble_eq_true rfl⟩) ho rfl rfl hP hS hA rfl hl.1 rfl (Nat.le_of_ble_eq_true rfl) dX11_one_146 ⟨Nat.le_refl _, Nat.le_refl _⟩ kk
      · exact g_callU (As := [.int q15, .int ((fI h 5 6) + 1)]) (rest := []) hx hb hml hown hts hK hN (m_X8_tellsAtMost l D a C ha h q14 hper q15 ((fI h 5 6) + 1) q16 hv) (va_cwO 2 hts gX11_one_X8_tellsAtMost_u103X8 rfl rfl rfl (List.mem_of_getElem? (i := 60) rfl) kvtellsAtMost ⟨Nat.le_of_ble_eq_true rfl, Nat.le_of_ble_eq_true rfl⟩) ho rfl rfl hP hS hA rfl hl.1 rfl (Nat.le_of_ble_eq_true rfl) dX11_one_146 ⟨Nat.le_refl _, Nat.le_refl _⟩ kk
      · exact g_callU (As := [.int q15, .int ((fI h 5 6) + 1)]) (rest := []) hx hb hml hown hts hK hN (m_X2_tellsAtMost l D a C ha h q14 hper q15 ((fI h 5 6) + 1) q16 hv) (va_cwO 2 hts gX11_one_X2_tellsAtMost_u103X2 rfl rfl rfl (List.mem_of_getElem? (i := 60) rfl) kvtellsAtMost ⟨Nat.le_of_ble_eq_true rfl, Nat.le_of_ble_eq_true rfl⟩) ho rfl rfl hP hS hA rfl hl.1 rfl (Nat.le_of_ble_eq_true rfl) dX11_one_146 ⟨Nat.le_refl _, Nat.le_refl _⟩ kk
      · exact g_callU (As := [.int q15, .int ((fI h 5 6) + 1)]) (rest := []) hx hb hml hown hts hK hN (m_X3_tellsAtMost l D a C ha h q14 hper q15 ((fI h 5 6) + 1) q16 hv) (va_cwO 2 hts gX11_one_X3_tellsAtMost_u103X3 rfl rfl rfl (List.mem_of_getElem? (i := 60) rfl) kvtellsAtMost ⟨Nat.le_of_ble_eq_true rfl, Nat.le_of_ble_eq_true rfl⟩) ho rfl rfl hP hS hA rfl hl.1 rfl (Nat.le_of_ble_eq_true rfl) dX11_one_146 ⟨Nat.le_refl _, Nat.le_refl _⟩ kk
      · exact g_callU (As := [.int q15, .int ((fI h 5 6) + 1)]) (rest := []) hx hb hml hown hts hK hN (m_X10_tellsAtMost l D a C ha h q14 hper q15 ((fI h 5 6) + 1) q16 hv) (va_cwO 2 hts gX11_one_X10_tellsAtMost_u103X10 rfl rfl rfl (List.mem_of_getElem? (i := 60) rfl) kvtellsAtMost ⟨Nat.le_of_ble_eq_true rfl, Nat.le_of_ble_eq_true rfl⟩) ho rfl rfl hP hS hA rfl hl.1 rfl (Nat.le_of_ble_eq_true rfl) dX11_one_146 ⟨Nat.le_refl _, Nat.le_refl _⟩ kk
      · exact g_callU (As := [.int q15, .int ((fI h 5 6) + 1)]) (rest := []) hx hb hml hown hts hK hN (m_X9_tellsAtMost l D a C ha h q14 hper q15 ((fI h 5 6) + 1) q16 hv) (va_cwO 2 hts gX11_one_X9_tellsAtMost_u103X9 rfl rfl rfl (List.mem_of_getElem? (i := 60) rfl) kvtellsAtMost ⟨Nat.le_of_ble_eq_true rfl, Nat.le_of_ble_eq_true rfl⟩) ho rfl rfl hP hS hA rfl hl.1 rfl (Nat.le_of_ble_eq_true rfl) dX11_one_146 ⟨Nat.le_refl _, Nat.le_refl _⟩ kk
      · exact g_callU (As := [.int q15, .int ((fI h 5 6) + 1)]) (rest := []) hx hb hml hown hts hK hN (m_X0_tellsAtMost l D a C ha h q14 hper q15 ((fI h 5 6) + 1) q16 hv) (va_cwO 2 hts gX11_one_X0_tellsAtMost_u103X0 rfl rfl rfl (List.mem_of_getElem? (i := 60) rfl) kvtellsAtMost ⟨Nat.le_of_ble_eq_true rfl, Nat.le_of_ble_eq_true rfl⟩) ho rfl rfl hP hS hA rfl hl.1 rfl (Nat.le_of_ble_eq_true rfl) dX11_one_146 ⟨Nat.le_refl _, Nat.le_refl _⟩ kk
      · exact g_callU (As := [.int q15, .int ((fI h 5 6) + 1)]) (rest := []) hx hb hml hown hts hK hN (m_X3_tellsAtMost l D a C ha h q14 hper q15 ((fI h 5 6) + 1) q16 hv) (va_cwO 2 hts gX11_one_X3_tellsAtMost_u103X1 rfl rfl rfl (List.mem_of_getElem? (i := 60) rfl) kvtellsAtMost ⟨Nat.le_of_ble_eq_true rfl, Nat.le_of_ble_eq_true rfl⟩) ho rfl rfl hP hS hA rfl hl.1 rfl (Nat.le_of_ble_eq_true rfl) dX11_one_146 ⟨Nat.le_refl _, Nat.le_refl _⟩ kk
    have hf := if_f hf c12
    by_cases c17 : v2 = 6
    · have hf := if_t hf c17
      refine lv_tableIn (tgt := 150) hx hb dX11_one_14 (by rw [c17]; decide) (by rw [c17]; decide) (by rw [c17]; rfl) (by decide) ?_
      refine lv_aload_n hx hb dX11_one_150 rfl (lv_at hl 0 rfl) ?_
      refine g_get (Cn := RX11) (T := TX11) (N := 8) (v := .ref (a 5)) (own := RX11) hx hb hown hts hK X_O rfl (fun _ hw => List.mem_cons_of_mem _ (List.mem_append_left _ (List.mem_append_left _ (List.mem_append_right _ hw)))) 0 (by decide) (List.mem_of_getElem? (i := 1) rfl) rfl rfl hP dX11_one_151 ?_
      refine lv_iload_n hx hb dX11_one_154 rfl (lv_at hl 1 rfl) ?_
      obtain ⟨q18, hq18, hf⟩ := bind_s hf
      refine g_callV (As := [.int v1]) (rest := []) hx hb hml hown hts hK hN (m_X5_cardsOf l D a C ha h 5 v1 isPar5 q18 hq18) (cwV 1 hts gX11_one_X5_cardsOf rfl rfl rfl kdX5_cardsOf ⟨Nat.le_of_ble_eq_true rfl, Nat.le_of_ble_eq_true rfl⟩) (par_O isPar5) rfl rfl hP hS hA rfl hl.1 rfl (Nat.le_of_ble_eq_true rfl) dX11_one_155 ⟨Nat.le_refl _, Nat.le_refl _⟩ (fun H locs hP hS => ?_)
      refine W.eq (g2 := F0 m 158 ls [.int q18]) rfl ?_
      exact g_iret hx hb hr hlk hP hS (ret1 hf) dX11_one_158
    have hf := if_f hf c17
    by_cases c19 : v2 = 7
    · have hf := if_t hf c19
      refine lv_tableIn (tgt := 159) hx hb dX11_one_14 (by rw [c19]; decide) (by rw [c19]; decide) (by rw [c19]; rfl) (by decide) ?_
      refine lv_aload_n hx hb dX11_one_159 rfl (lv_at hl 0 rfl) ?_
      refine g_get (Cn := RX11) (T := TX11) (N := 8) (v := .ref (a 5)) (own := RX11) hx hb hown hts hK X_O rfl (fun _ hw => List.mem_cons_of_mem _ (List.mem_append_left _ (List.mem_append_left _ (List.mem_append_right _ hw)))) 0 (by decide) (List.mem_of_getElem? (i := 1) rfl) rfl rfl hP dX11_one_160 ?_
      refine g_getN (Cn := RX5) (T := TX5) (N := 7) (v := .ref (a 6)) (own := RX11) hx hb hown hts hK hN (par_O isPar5) rfl (fun _ hw => List.mem_cons_of_mem _ (List.mem_append_left _ (List.mem_append_right _ hw))) 0 (by decide) (List.mem_of_getElem? (i := 6) rfl) rfl rfl hP dX11_one_163 ?_
      obtain ⟨q20, hq20, hf⟩ := bind_s hf
      refine g_callV (As := []) (rest := []) hx hb hml hown hts hK hN (m_X4_feelers l D a C ha h 6 (par_lin isPar5) q20 hq20) (cwV 0 hts gX11_one_X4_feelers rfl rfl rfl kdX4_feelers ⟨Nat.le_of_ble_eq_true rfl, Nat.le_of_ble_eq_true rfl⟩) (lin_O (par_lin isPar5)) rfl rfl hP hS hA rfl hl.1 rfl (Nat.le_of_ble_eq_true rfl) dX11_one_166 ⟨Nat.le_refl _, Nat.le_refl _⟩ (fun H locs hP hS => ?_)
      refine W.eq (g2 := F0 m 169 ls [.int q20]) rfl ?_
      refine lv_iload_n hx hb dX11_one_169 rfl (lv_at hl 1 rfl) ?_
      refine lv_ishr hx hb dX11_one_170 ?_
      refine lv_iconst (v := 1) hx hb dX11_one_171 (by decide) ?_
      refine lv_iand hx hb dX11_one_172 ?_
      exact g_iret hx hb hr hlk hP hS (ret1 hf) dX11_one_173
    have hf := if_f hf c19
    refine lv_tableOut (tgt := 174) hx hb dX11_one_14 (by have n0 := ti_nz (z := 0) (by decide) c3; have n1 := ti_nz (z := 1) (by decide) c5; have n2 := ti_nz (z := 2) (by decide) c7; have n3 := ti_nz (z := 3) (by decide) c9; have n4 := ti_nz (z := 4) (by decide) c11; have n5 := ti_nz (z := 5) (by decide) c12; have n6 := ti_nz (z := 6) (by decide) c17; have n7 := ti_nz (z := 7) (by decide) c19; omega) (by decide) ?_
    refine lv_iconst (v := (-1)) hx hb dX11_one_174 (by decide) ?_
    exact g_iret hx hb hr hlk hP hS (ret1 hf) dX11_one_175
  · have hf := if_t hf c2
    refine lv_iconst (v := (-1)) hx hb dX11_one_11 (by decide) ?_
    exact g_iret hx hb hr hlk hP hS (ret1 hf) dX11_one_12

def X11_oneRefusal (h : HS) (v0 : Option Nat) : Option Int32 :=
    oM v0 (
    some (-1)) fun t1 =>
    (X7_isEmpty h t1).bind fun q2 =>
    (if q2 = 0 then
    (X7_holdsRow h t1).bind fun q4 =>
    (if q4 = 0 then
    some 0
    else
    some (-12))
    else
    some (-11))
def rmX11_oneRefusal : Room := { frames := 1, cells := 0, slots := 0, locals := 20 }
theorem kdX11_oneRefusal : yX11_oneRefusal.cls = RX11 ∧ yX11_oneRefusal.cls ≠ "java/lang/invoke/MethodHandle" ∧ yX11_oneRefusal.cls ≠ "java/lang/invoke/VarHandle" ∧ (parseMethodDescriptor yX11_oneRefusal.desc).map (fun d => d.parameters.length) = some 1 := by decide +kernel
set_option maxHeartbeats 4000000 in
set_option maxRecDepth 100000 in
theorem m_X11_oneRefusal (l : Launch) (D : va_G) (a : Nat → Nat) (C : Nat → ClassId) (ha : ginj a) (h : HS) (v0 : Option Nat) (hv0 : isShO v0) (r : Int32) (hf : X11_oneRefusal h v0 = some r) : gM l yX11_oneRefusal wsX11_oneRefusal rmX11_oneRefusal D a C [va_rf (v0.map a)] h (some (.int r)) h := by
  rcases v0 with _ | t1
  · refine g_start (av := [.null]) (cc := cX11_oneRefusal) (maxL := 1) (rt := (some .int)) (by decide) rfl (Nat.le_of_ble_eq_true rfl) ?_
    intro p e s m below meth c hx hb hr hml hown hlk hts hP hK hN ls hl
    have hA : ∀ q, gA a q → gA a q := fun _ q => q
    have hS : va_S (gA a) s.heap s.heap [] := va_S.rf
    have hl : lv_has ls 1 [(0, .null)] := hl
    unfold X11_oneRefusal at hf
    have hf := oM_none hf
    refine lv_aload_nN hx hb dX11_oneRefusal_0 rfl (lv_at hl 0 rfl) ?_
    refine lv_ifnonnullN hx hb dX11_oneRefusal_1 ?_
    refine lv_iconst (v := (-1)) hx hb dX11_oneRefusal_4 (by decide) ?_
    exact g_iret hx hb hr hlk hP hS (ret1 hf) dX11_oneRefusal_5
  · have ht1 : isShf t1 := hv0 t1 rfl
    refine g_start (av := [.ref (a t1)]) (cc := cX11_oneRefusal) (maxL := 1) (rt := (some .int)) (by decide) rfl (Nat.le_of_ble_eq_true rfl) ?_
    intro p e s m below meth c hx hb hr hml hown hlk hts hP hK hN ls hl
    have hA : ∀ q, gA a q → gA a q := fun _ q => q
    have hS : va_S (gA a) s.heap s.heap [] := va_S.rf
    have hl : lv_has ls 1 [(0, .ref (a t1))] := hl
    unfold X11_oneRefusal at hf
    have hf := oM_some hf
    refine lv_aload_n hx hb dX11_oneRefusal_0 rfl (lv_at hl 0 rfl) ?_
    refine lv_ifnonnull (tgt := 6) hx hb dX11_oneRefusal_1 (by decide) ?_
    refine lv_aload_n hx hb dX11_oneRefusal_6 rfl (lv_at hl 0 rfl) ?_
    obtain ⟨q2, hq2, hf⟩ := bind_s hf
    refine g_callV (As := []) (rest := []) hx hb hml hown hts hK hN (m_X7_isEmpty l D a C ha h t1 ht1 q2 hq2) (cwV 0 hts gX11_oneRefusal_X7_isEmpty rfl rfl rfl kdX7_isEmpty ⟨Nat.le_of_ble_eq_true rfl, Nat.le_of_ble_eq_true rfl⟩) (shf_O ht1) rfl rfl hP hS hA rfl hl.1 rfl (Nat.le_of_ble_eq_true rfl) dX11_oneRefusal_7 ⟨Nat.le_refl _, Nat.le_refl _⟩ (fun H locs hP hS => ?_)
    refine W.eq (g2 := F0 m 10 ls [.int q2]) rfl ?_
    refine lv_if_eq (tgt := 16) hx hb dX11_oneRefusal_10 (by decide) (fun c3 => ?_) (fun c3 => ?_)
    · have hf := if_t hf c3
      refine lv_aload_n hx hb dX11_oneRefusal_16 rfl (lv_at hl 0 rfl) ?_
      obtain ⟨q4, hq4, hf⟩ := bind_s hf
      refine g_callV (As := []) (rest := []) hx hb hml hown hts hK hN (m_X7_holdsRow l D a C ha h t1 ht1 q4 hq4) (cwV 0 hts gX11_oneRefusal_X7_holdsRow rfl rfl rfl kdX7_holdsRow ⟨Nat.le_of_ble_eq_true rfl, Nat.le_of_ble_eq_true rfl⟩) (shf_O ht1) rfl rfl hP hS hA rfl hl.1 rfl (Nat.le_of_ble_eq_true rfl) dX11_oneRefusal_17 ⟨Nat.le_refl _, Nat.le_refl _⟩ (fun H locs hP hS => ?_)
      refine W.eq (g2 := F0 m 20 ls [.int q4]) rfl ?_
      refine lv_if_eq (tgt := 28) hx hb dX11_oneRefusal_20 (by decide) (fun c5 => ?_) (fun c5 => ?_)
      · have hf := if_t hf c5
        refine lv_iconst (v := 0) hx hb dX11_oneRefusal_28 (by decide) ?_
        exact g_iret hx hb hr hlk hP hS (ret1 hf) dX11_oneRefusal_29
      · have hf := if_f hf c5
        refine lv_bipush (v := (-12)) hx hb dX11_oneRefusal_23 (by decide) ?_
        refine lv_goto (tgt := 29) hx hb dX11_oneRefusal_25 (by decide) ?_
        exact g_iret hx hb hr hlk hP hS (ret1 hf) dX11_oneRefusal_29
    · have hf := if_f hf c3
      refine lv_bipush (v := (-11)) hx hb dX11_oneRefusal_13 (by decide) ?_
      exact g_iret hx hb hr hlk hP hS (ret1 hf) dX11_oneRefusal_15

def X11_comes (h : HS) (v1 : Int32) : Option (Int32 × HS) :=
    (X11_shelfOf h v1).bind fun q1 => oM q1 (
    (X11_oneRefusal h none).bind fun q3 =>
    (if q3 = 0 then
    none
    else
    some (q3, h))) fun t2 =>
    (X11_oneRefusal h (some t2)).bind fun q5 =>
    (if q5 = 0 then
    (X5_arrive h 5 (fI h t2 1) (fI h t2 2)).bind fun q7 =>
    some (q7.1, q7.2)
    else
    some (q5, h))
def rmX11_comes : Room := { frames := 3, cells := 0, slots := 0, locals := 67 }
theorem kdX11_comes : yX11_comes.cls = RX11 ∧ yX11_comes.cls ≠ "java/lang/invoke/MethodHandle" ∧ yX11_comes.cls ≠ "java/lang/invoke/VarHandle" ∧ (parseMethodDescriptor yX11_comes.desc).map (fun d => d.parameters.length) = some 1 := by decide +kernel
set_option maxHeartbeats 4000000 in
set_option maxRecDepth 100000 in
theorem m_X11_comes (l : Launch) (D : va_G) (a : Nat → Nat) (C : Nat → ClassId) (ha : ginj a) (h : HS) (v1 : Int32)  (r : Int32) (h' : HS) (hf : X11_comes h v1 = some (r, h')) : gM l yX11_comes wsX11_comes rmX11_comes D a C [.ref (a 0), .int v1] h (some (.int r)) h' := by
  refine g_start (av := [.ref (a 0), .int v1]) (cc := cX11_comes) (maxL := 4) (rt := (some .int)) (by decide) rfl (Nat.le_of_ble_eq_true rfl) ?_
  intro p e s m below meth c hx hb hr hml hown hlk hts hP hK hN ls hl
  have hA : ∀ q, gA a q → gA a q := fun _ q => q
  have hS : va_S (gA a) s.heap s.heap [] := va_S.rf
  have hl : lv_has ls 4 [(0, .ref (a 0)), (1, .int v1)] := hl
  unfold X11_comes at hf
  refine lv_aload_n hx hb dX11_comes_0 rfl (lv_at hl 0 rfl) ?_
  refine lv_iload_n hx hb dX11_comes_1 rfl (lv_at hl 1 rfl) ?_
  obtain ⟨q1, hq1, hf⟩ := bind_s hf
  refine g_callV (As := [.int v1]) (rest := []) hx hb hml hown hts hK hN (m_X11_shelfOf l D a C ha h v1  q1 hq1) (cwV 1 hts gX11_comes_X11_shelfOf rfl rfl rfl kdX11_shelfOf ⟨Nat.le_of_ble_eq_true rfl, Nat.le_of_ble_eq_true rfl⟩) X_O rfl rfl hP hS hA rfl hl.1 rfl (Nat.le_of_ble_eq_true rfl) dX11_comes_2 ⟨Nat.le_refl _, Nat.le_refl _⟩ (fun H locs hP hS => ?_)
  rcases q1 with _ | t2
  · have hf := oM_none hf
    refine W.eq (g2 := F0 m 5 ls [.null]) rfl ?_
    refine lv_astore_nN (lv' := [(2, .null), (0, .ref (a 0)), (1, .int v1)]) hx hb dX11_comes_5 rfl hl (by decide) rfl (fun ls hl => ?_)
    refine lv_aload_nN hx hb dX11_comes_6 rfl (lv_at hl 0 rfl) ?_
    obtain ⟨q3, hq3, hf⟩ := bind_s hf
    refine g_callS (As := [.null]) (rest := []) hx hb hml hown hts hK hN (m_X11_oneRefusal l D a C ha h none isShO_none q3 hq3) (va_cwS 1 hts gX11_comes_X11_oneRefusal rfl rfl rfl kdX11_oneRefusal.2 ⟨Nat.le_of_ble_eq_true rfl, Nat.le_of_ble_eq_true rfl⟩) hP hS hA rfl hl.1 rfl (Nat.le_of_ble_eq_true rfl) dX11_comes_7 ⟨Nat.le_refl _, Nat.le_refl _⟩ (fun H locs hP hS => ?_)
    refine W.eq (g2 := F0 m 10 ls [.int q3]) rfl ?_
    refine lv_istore_n (lv' := [(3, .int q3), (2, .null), (0, .ref (a 0)), (1, .int v1)]) hx hb dX11_comes_10 rfl hl (by decide) rfl (fun ls hl => ?_)
    refine lv_iload_n hx hb dX11_comes_11 rfl (lv_at hl 0 rfl) ?_
    refine lv_if_eq (tgt := 19) hx hb dX11_comes_12 (by decide) (fun c4 => ?_) (fun c4 => ?_)
    · have hf := if_t hf c4
      refine lv_aload_n hx hb dX11_comes_19 rfl (lv_at hl 2 rfl) ?_
      refine g_get (Cn := RX11) (T := TX11) (N := 8) (v := .ref (a 5)) (own := RX11) hx hb hown hts hK X_O rfl (fun _ hw => List.mem_cons_of_mem _ (List.mem_append_left _ (List.mem_append_left _ (List.mem_append_left _ (List.mem_append_right _ hw))))) 0 (by decide) (List.mem_of_getElem? (i := 1) rfl) rfl rfl hP dX11_comes_20 ?_
      refine lv_aload_nN hx hb dX11_comes_23 rfl (lv_at hl 1 rfl) ?_
      exact absurd hf (by simp)
    · have hf := if_f hf c4
      refine lv_iload_n hx hb dX11_comes_15 rfl (lv_at hl 0 rfl) ?_
      refine lv_goto (tgt := 34) hx hb dX11_comes_16 (by decide) ?_
      exact g_iretW hx hb hr hlk hP hS (ret2 hf) dX11_comes_34
  · have hf := oM_some hf
    have ht2 : isShf t2 := X11_shelfOf_ok hq1 t2 rfl
    refine W.eq (g2 := F0 m 5 ls [.ref (a t2)]) rfl ?_
    refine lv_astore_n (lv' := [(2, .ref (a t2)), (0, .ref (a 0)), (1, .int v1)]) hx hb dX11_comes_5 rfl hl (by decide) rfl (fun ls hl => ?_)
    refine lv_aload_n hx hb dX11_comes_6 rfl (lv_at hl 0 rfl) ?_
    obtain ⟨q5, hq5, hf⟩ := bind_s hf
    refine g_callS (As := [.ref (a t2)]) (rest := []) hx hb hml hown hts hK hN (m_X11_oneRefusal l D a C ha h (some t2) (isShO_some ht2) q5 hq5) (va_cwS 1 hts gX11_comes_X11_oneRefusal rfl rfl rfl kdX11_oneRefusal.2 ⟨Nat.le_of_ble_eq_true rfl, Nat.le_of_ble_eq_true rfl⟩) hP hS hA rfl hl.1 rfl (Nat.le_of_ble_eq_true rfl) dX11_comes_7 ⟨Nat.le_refl _, Nat.le_refl _⟩ (fun H locs hP hS => ?_)
    refine W.eq (g2 := F0 m 10 ls [.int q5]) rfl ?_
    refine lv_istore_n (lv' := [(3, .int q5), (2, .ref (a t2)), (0, .ref (a 0)), (1, .int v1)]) hx hb dX11_comes_10 rfl hl (by decide) rfl (fun ls hl => ?_)
    refine lv_iload_n hx hb dX11_comes_11 rfl (lv_at hl 0 rfl) ?_
    refine lv_if_eq (tgt := 19) hx hb dX11_comes_12 (by decide) (fun c6 => ?_) (fun c6 => ?_)
    · have hf := if_t hf c6
      refine lv_aload_n hx hb dX11_comes_19 rfl (lv_at hl 2 rfl) ?_
      refine g_get (Cn := RX11) (T := TX11) (N := 8) (v := .ref (a 5)) (own := RX11) hx hb hown hts hK X_O rfl (fun _ hw => List.mem_cons_of_mem _ (List.mem_append_left _ (List.mem_append_left _ (List.mem_append_left _ (List.mem_append_right _ hw))))) 0 (by decide) (List.mem_of_getElem? (i := 1) rfl) rfl rfl hP dX11_comes_20 ?_
      refine lv_aload_n hx hb dX11_comes_23 rfl (lv_at hl 1 rfl) ?_
      refine g_getN (Cn := RX7) (T := TX7) (N := 6) (v := .int (fI h t2 1)) (own := RX11) hx hb hown hts hK hN (shf_O ht2) rfl (fun _ hw => List.mem_cons_of_mem _ (List.mem_append_left _ (List.mem_append_left _ (List.mem_append_right _ hw)))) 1 (by decide) (List.mem_of_getElem? (i := 1) rfl) rfl rfl hP dX11_comes_24 ?_
      refine lv_aload_n hx hb dX11_comes_27 rfl (lv_at hl 1 rfl) ?_
      refine g_getN (Cn := RX7) (T := TX7) (N := 6) (v := .int (fI h t2 2)) (own := RX11) hx hb hown hts hK hN (shf_O ht2) rfl (fun _ hw => List.mem_cons_of_mem _ (List.mem_append_left _ (List.mem_append_left _ (List.mem_append_right _ hw)))) 2 (by decide) (List.mem_of_getElem? (i := 2) rfl) rfl rfl hP dX11_comes_28 ?_
      obtain ⟨q7, hq7, hf⟩ := bind_s hf
      refine g_callV (As := [.int (fI h t2 1), .int (fI h t2 2)]) (rest := []) hx hb hml hown hts hK hN (m_X5_arrive l D a C ha h 5 (fI h t2 1) (fI h t2 2) isPar5 q7.1 q7.2 hq7) (cwV 2 hts gX11_comes_X5_arrive rfl rfl rfl kdX5_arrive ⟨Nat.le_of_ble_eq_true rfl, Nat.le_of_ble_eq_true rfl⟩) (par_O isPar5) rfl rfl hP hS hA rfl hl.1 rfl (Nat.le_of_ble_eq_true rfl) dX11_comes_31 ⟨Nat.le_refl _, Nat.le_refl _⟩ (fun H locs hP hS => ?_)
      refine W.eq (g2 := F0 m 34 ls [.int q7.1]) rfl ?_
      exact g_iretW hx hb hr hlk hP hS (ret2 hf) dX11_comes_34
    · have hf := if_f hf c6
      refine lv_iload_n hx hb dX11_comes_15 rfl (lv_at hl 0 rfl) ?_
      refine lv_goto (tgt := 34) hx hb dX11_comes_16 (by decide) ?_
      exact g_iretW hx hb hr hlk hP hS (ret2 hf) dX11_comes_34

def X11_line (h : HS) (v1 : Int32) (v2 : Int32) : Option (Int32 × HS) :=
    (X5_join h 5 v1 v2).bind fun q1 =>
    some (q1.1, q1.2)
def rmX11_line : Room := { frames := 3, cells := 0, slots := 0, locals := 65 }
theorem kdX11_line : yX11_line.cls = RX11 ∧ yX11_line.cls ≠ "java/lang/invoke/MethodHandle" ∧ yX11_line.cls ≠ "java/lang/invoke/VarHandle" ∧ (parseMethodDescriptor yX11_line.desc).map (fun d => d.parameters.length) = some 2 := by decide +kernel
set_option maxHeartbeats 4000000 in
set_option maxRecDepth 100000 in
theorem m_X11_line (l : Launch) (D : va_G) (a : Nat → Nat) (C : Nat → ClassId) (ha : ginj a) (h : HS) (v1 : Int32) (v2 : Int32)  (r : Int32) (h' : HS) (hf : X11_line h v1 v2 = some (r, h')) : gM l yX11_line wsX11_line rmX11_line D a C [.ref (a 0), .int v1, .int v2] h (some (.int r)) h' := by
  refine g_start (av := [.ref (a 0), .int v1, .int v2]) (cc := cX11_line) (maxL := 3) (rt := (some .int)) (by decide) rfl (Nat.le_of_ble_eq_true rfl) ?_
  intro p e s m below meth c hx hb hr hml hown hlk hts hP hK hN ls hl
  have hA : ∀ q, gA a q → gA a q := fun _ q => q
  have hS : va_S (gA a) s.heap s.heap [] := va_S.rf
  have hl : lv_has ls 3 [(0, .ref (a 0)), (1, .int v1), (2, .int v2)] := hl
  unfold X11_line at hf
  refine lv_aload_n hx hb dX11_line_0 rfl (lv_at hl 0 rfl) ?_
  refine g_get (Cn := RX11) (T := TX11) (N := 8) (v := .ref (a 5)) (own := RX11) hx hb hown hts hK X_O rfl (fun _ hw => List.mem_cons_of_mem _ (List.mem_append_left _ (List.mem_append_left _ (List.mem_append_right _ hw)))) 0 (by decide) (List.mem_of_getElem? (i := 1) rfl) rfl rfl hP dX11_line_1 ?_
  refine lv_iload_n hx hb dX11_line_4 rfl (lv_at hl 1 rfl) ?_
  refine lv_iload_n hx hb dX11_line_5 rfl (lv_at hl 2 rfl) ?_
  obtain ⟨q1, hq1, hf⟩ := bind_s hf
  refine g_callV (As := [.int v1, .int v2]) (rest := []) hx hb hml hown hts hK hN (m_X5_join l D a C ha h 5 v1 v2 isPar5 q1.1 q1.2 hq1) (cwV 2 hts gX11_line_X5_join rfl rfl rfl kdX5_join ⟨Nat.le_of_ble_eq_true rfl, Nat.le_of_ble_eq_true rfl⟩) (par_O isPar5) rfl rfl hP hS hA rfl hl.1 rfl (Nat.le_of_ble_eq_true rfl) dX11_line_6 ⟨Nat.le_refl _, Nat.le_refl _⟩ (fun H locs hP hS => ?_)
  refine W.eq (g2 := F0 m 9 ls [.int q1.1]) rfl ?_
  exact g_iretW hx hb hr hlk hP hS (ret2 hf) dX11_line_9

def X11_told (h : HS) (v1 : Int32) : Option (Int32 × HS) :=
    (X5_inform h 5 v1).bind fun q1 =>
    some (q1.1, q1.2)
def rmX11_told : Room := { frames := 2, cells := 0, slots := 0, locals := 42 }
theorem kdX11_told : yX11_told.cls = RX11 ∧ yX11_told.cls ≠ "java/lang/invoke/MethodHandle" ∧ yX11_told.cls ≠ "java/lang/invoke/VarHandle" ∧ (parseMethodDescriptor yX11_told.desc).map (fun d => d.parameters.length) = some 1 := by decide +kernel
set_option maxHeartbeats 4000000 in
set_option maxRecDepth 100000 in
theorem m_X11_told (l : Launch) (D : va_G) (a : Nat → Nat) (C : Nat → ClassId) (ha : ginj a) (h : HS) (v1 : Int32)  (r : Int32) (h' : HS) (hf : X11_told h v1 = some (r, h')) : gM l yX11_told wsX11_told rmX11_told D a C [.ref (a 0), .int v1] h (some (.int r)) h' := by
  refine g_start (av := [.ref (a 0), .int v1]) (cc := cX11_told) (maxL := 2) (rt := (some .int)) (by decide) rfl (Nat.le_of_ble_eq_true rfl) ?_
  intro p e s m below meth c hx hb hr hml hown hlk hts hP hK hN ls hl
  have hA : ∀ q, gA a q → gA a q := fun _ q => q
  have hS : va_S (gA a) s.heap s.heap [] := va_S.rf
  have hl : lv_has ls 2 [(0, .ref (a 0)), (1, .int v1)] := hl
  unfold X11_told at hf
  refine lv_aload_n hx hb dX11_told_0 rfl (lv_at hl 0 rfl) ?_
  refine g_get (Cn := RX11) (T := TX11) (N := 8) (v := .ref (a 5)) (own := RX11) hx hb hown hts hK X_O rfl (fun _ hw => List.mem_cons_of_mem _ (List.mem_append_left _ (List.mem_append_left _ (List.mem_append_right _ hw)))) 0 (by decide) (List.mem_of_getElem? (i := 1) rfl) rfl rfl hP dX11_told_1 ?_
  refine lv_iload_n hx hb dX11_told_4 rfl (lv_at hl 1 rfl) ?_
  obtain ⟨q1, hq1, hf⟩ := bind_s hf
  refine g_callV (As := [.int v1]) (rest := []) hx hb hml hown hts hK hN (m_X5_inform l D a C ha h 5 v1 isPar5 q1.1 q1.2 hq1) (cwV 1 hts gX11_told_X5_inform rfl rfl rfl kdX5_inform ⟨Nat.le_of_ble_eq_true rfl, Nat.le_of_ble_eq_true rfl⟩) (par_O isPar5) rfl rfl hP hS hA rfl hl.1 rfl (Nat.le_of_ble_eq_true rfl) dX11_told_5 ⟨Nat.le_refl _, Nat.le_refl _⟩ (fun H locs hP hS => ?_)
  refine W.eq (g2 := F0 m 8 ls [.int q1.1]) rfl ?_
  exact g_iretW hx hb hr hlk hP hS (ret2 hf) dX11_told_8

def X11_days (h : HS) (v1 : Int32) : Option (Int32 × HS) :=
    (X5_goOn h 5 v1).bind fun q1 =>
    some (q1.1, q1.2)
def rmX11_days : Room := { frames := 6, cells := 0, slots := 0, locals := 140 }
theorem kdX11_days : yX11_days.cls = RX11 ∧ yX11_days.cls ≠ "java/lang/invoke/MethodHandle" ∧ yX11_days.cls ≠ "java/lang/invoke/VarHandle" ∧ (parseMethodDescriptor yX11_days.desc).map (fun d => d.parameters.length) = some 1 := by decide +kernel
set_option maxHeartbeats 4000000 in
set_option maxRecDepth 100000 in
theorem m_X11_days (l : Launch) (D : va_G) (a : Nat → Nat) (C : Nat → ClassId) (ha : ginj a) (h : HS) (v1 : Int32)  (r : Int32) (h' : HS) (hf : X11_days h v1 = some (r, h')) : gM l yX11_days wsX11_days rmX11_days D a C [.ref (a 0), .int v1] h (some (.int r)) h' := by
  refine g_start (av := [.ref (a 0), .int v1]) (cc := cX11_days) (maxL := 2) (rt := (some .int)) (by decide) rfl (Nat.le_of_ble_eq_true rfl) ?_
  intro p e s m below meth c hx hb hr hml hown hlk hts hP hK hN ls hl
  have hA : ∀ q, gA a q → gA a q := fun _ q => q
  have hS : va_S (gA a) s.heap s.heap [] := va_S.rf
  have hl : lv_has ls 2 [(0, .ref (a 0)), (1, .int v1)] := hl
  unfold X11_days at hf
  refine lv_aload_n hx hb dX11_days_0 rfl (lv_at hl 0 rfl) ?_
  refine g_get (Cn := RX11) (T := TX11) (N := 8) (v := .ref (a 5)) (own := RX11) hx hb hown hts hK X_O rfl (fun _ hw => List.mem_cons_of_mem _ (List.mem_append_left _ (List.mem_append_left _ (List.mem_append_right _ hw)))) 0 (by decide) (List.mem_of_getElem? (i := 1) rfl) rfl rfl hP dX11_days_1 ?_
  refine lv_iload_n hx hb dX11_days_4 rfl (lv_at hl 1 rfl) ?_
  obtain ⟨q1, hq1, hf⟩ := bind_s hf
  refine g_callV (As := [.int v1]) (rest := []) hx hb hml hown hts hK hN (m_X5_goOn l D a C ha h 5 v1 isPar5 q1.1 q1.2 hq1) (cwV 1 hts gX11_days_X5_goOn rfl rfl rfl kdX5_goOn ⟨Nat.le_of_ble_eq_true rfl, Nat.le_of_ble_eq_true rfl⟩) (par_O isPar5) rfl rfl hP hS hA rfl hl.1 rfl (Nat.le_of_ble_eq_true rfl) dX11_days_5 ⟨Nat.le_refl _, Nat.le_refl _⟩ (fun H locs hP hS => ?_)
  refine W.eq (g2 := F0 m 8 ls [.int q1.1]) rfl ?_
  exact g_iretW hx hb hr hlk hP hS (ret2 hf) dX11_days_8

def X11_commonDivisor_B9 (v0 : Int64) (v2 : Int64) : Nat → Int64 → Int64 → Int32 → Option Int64
  | 0, _, _, _ => none
  | fu + 1, v4, v6, v8 =>
    (if 100 ≤ v8 then
    some v4
    else
    (if (lg_cmp v6 0) = 0 then
    some v4
    else
    gdzL v6 <|
    nm (v4 - v4 / v6 * v6) fun x4 =>
    nm (v8 + 1) fun x5 =>
    (X11_commonDivisor_B9 v0 v2 fu) v6 x4 x5))
def X11_commonDivisor (v0 : Int64) (v2 : Int64) : Option Int64 :=
    X11_commonDivisor_B9 v0 v2 FU v0 v2 0
def rmX11_commonDivisor : Room := { frames := 0, cells := 0, slots := 0, locals := 0 }
theorem kdX11_commonDivisor : yX11_commonDivisor.cls = RX11 ∧ yX11_commonDivisor.cls ≠ "java/lang/invoke/MethodHandle" ∧ yX11_commonDivisor.cls ≠ "java/lang/invoke/VarHandle" ∧ (parseMethodDescriptor yX11_commonDivisor.desc).map (fun d => d.parameters.length) = some 2 := by decide +kernel
set_option maxHeartbeats 4000000 in
set_option maxRecDepth 100000 in
theorem m_X11_commonDivisor (l : Launch) (D : va_G) (a : Nat → Nat) (C : Nat → ClassId) (ha : ginj a) (h : HS) (v0 : Int64) (v2 : Int64)  (r : Int64) (hf : X11_commonDivisor v0 v2 = some r) : gM l yX11_commonDivisor wsX11_commonDivisor rmX11_commonDivisor D a C [.long v0, .long v2] h (some (.long r)) h := by
  refine g_start (av := [.long v0, .long v2]) (cc := cX11_commonDivisor) (maxL := 11) (rt := (some .long)) (by decide) rfl (Nat.le_of_ble_eq_true rfl) ?_
  intro p e s m below meth c hx hb hr hml hown hlk hts hP hK hN ls hl
  have hA : ∀ q, gA a q → gA a q := fun _ q => q
  have hS : va_S (gA a) s.heap s.heap [] := va_S.rf
  have hl : lv_has ls 11 [(0, .long v0), (2, .long v2)] := hl
  have J9 : ∀ (fu : Nat) (v4 : Int64) (v6 : Int64) (v8 : Int32), X11_commonDivisor_B9 v0 v2 fu v4 v6 v8 = some r → gG p l e (headSpec wsX11_commonDivisor rmX11_commonDivisor).room s m ([.long v0, .long v2] : List Value).toArray below meth c (MQ below (gQ (some (.long r)) D a C h) ([.long v0, .long v2] : List Value).toArray s 0 0 (gA a)) D a C 11 h 9 [(4, .long v4), (6, .long v6), (8, .int v8)] [] := by
    intro fu
    induction fu with
    | zero => intro v4 v6 v8 hf; exact absurd hf (by simp [X11_commonDivisor_B9])
    | succ fu ih =>
      intro v4 v6 v8 hf H locs ls hP hS hl
      rw [X11_commonDivisor_B9] at hf
      refine lv_iload hx hb dX11_commonDivisor_9 (lv_at hl 2 rfl) ?_
      refine lv_bipush (v := 100) hx hb dX11_commonDivisor_11 (by decide) ?_
      refine lv_icmp_ge (tgt := 44) hx hb dX11_commonDivisor_13 (by decide) (fun c1 => ?_) (fun c1 => ?_)
      · have hf := if_t hf c1
        refine lv_lload hx hb dX11_commonDivisor_44 (lv_at hl 0 rfl) ?_
        exact g_lret hx hb hr hlk hP hS (ret1 hf) dX11_commonDivisor_46
      · have hf := if_f hf c1
        refine lv_lload hx hb dX11_commonDivisor_16 (lv_at hl 1 rfl) ?_
        refine lv_lconst (v := 0) hx hb dX11_commonDivisor_18 (by decide) ?_
        refine W.lcmp hx hb dX11_commonDivisor_19 ?_
        refine lv_if_eq (tgt := 44) hx hb dX11_commonDivisor_20 (by decide) (fun c2 => ?_) (fun c2 => ?_)
        · have hf := if_t hf c2
          refine lv_lload hx hb dX11_commonDivisor_44 (lv_at hl 0 rfl) ?_
          exact g_lret hx hb hr hlk hP hS (ret1 hf) dX11_commonDivisor_46
        · have hf := if_f hf c2
          refine lv_lload hx hb dX11_commonDivisor_23 (lv_at hl 0 rfl) ?_
          refine lv_lload hx hb dX11_commonDivisor_25 (lv_at hl 1 rfl) ?_
          obtain ⟨c3, hf⟩ := gdzL_s hf
          refine lv_lrem hx hb dX11_commonDivisor_27 c3 ?_
          refine lv_topl (fun x4 ex4 => ?_)
          have hf := nm_s hf ex4
          refine lv_lstore (lv' := [(9, .long x4), (4, .long v4), (6, .long v6), (8, .int v8)]) hx hb dX11_commonDivisor_28 hl (by decide) rfl (fun ls hl => ?_)
          refine lv_lload hx hb dX11_commonDivisor_30 (lv_at hl 2 rfl) ?_
          refine lv_lstore (lv' := [(4, .long v6), (9, .long x4), (6, .long v6), (8, .int v8)]) hx hb dX11_commonDivisor_32 hl (by decide) rfl (fun ls hl => ?_)
          refine lv_lload hx hb dX11_commonDivisor_34 (lv_at hl 1 rfl) ?_
          refine lv_lstore (lv' := [(6, .long x4), (4, .long v6), (9, .long x4), (8, .int v8)]) hx hb dX11_commonDivisor_36 hl (by decide) rfl (fun ls hl => ?_)
          obtain ⟨x5, ex5⟩ : ∃ y : Int32, y = (v8 + 1) := ⟨_, rfl⟩
          have hf := nm_s hf ex5
          refine lv_iinc (v := x5) (lv' := [(8, .int x5), (6, .long x4), (4, .long v6), (9, .long x4)]) hx hb dX11_commonDivisor_38 hl (k := 3) rfl (by rw [ex5]; rfl) (by decide) rfl (fun ls hl => ?_)
          refine lv_goto (tgt := 9) hx hb dX11_commonDivisor_41 (by decide) ?_
          exact ih v6 x4 x5 hf H locs ls hP hS (lv_sub hl [2, 1, 0] rfl)
  unfold X11_commonDivisor at hf
  suffices hh : ∀ (H : Heap) (locs : List Loc), va_P D vwCl (gw a C h) H → va_S (gA a) s.heap H locs → W p l e (headSpec wsX11_commonDivisor rmX11_commonDivisor).room s m ([.long v0, .long v2] : List Value).toArray below meth c H locs 0 0 (MQ below (gQ (some (.long r)) D a C h) ([.long v0, .long v2] : List Value).toArray s 0 0 (gA a)) (F0 m 0 ls []) from hh _ _ hP hS
  intro H locs hP hS
  refine lv_lload_n hx hb dX11_commonDivisor_0 rfl (lv_at hl 0 rfl) ?_
  refine lv_lstore (lv' := [(4, .long v0), (0, .long v0), (2, .long v2)]) hx hb dX11_commonDivisor_1 hl (by decide) rfl (fun ls hl => ?_)
  refine lv_lload_n hx hb dX11_commonDivisor_3 rfl (lv_at hl 2 rfl) ?_
  refine lv_lstore (lv' := [(6, .long v2), (4, .long v0), (0, .long v0), (2, .long v2)]) hx hb dX11_commonDivisor_4 hl (by decide) rfl (fun ls hl => ?_)
  refine lv_iconst (v := 0) hx hb dX11_commonDivisor_6 (by decide) ?_
  refine lv_istore (lv' := [(8, .int 0), (6, .long v2), (4, .long v0), (0, .long v0), (2, .long v2)]) hx hb dX11_commonDivisor_7 hl (by decide) rfl (fun ls hl => ?_)
  exact J9 FU v0 v2 0 hf H locs ls hP hS (lv_sub hl [2, 1, 0] rfl)

def X11_fraction_B15 (v0 : Int64) (v2 : Int64) (v4 : Int32) : Option Int64 :=
    (X11_commonDivisor v0 v2).bind fun q3 =>
    (if (lg_cmp v2 0) = 0 then
    some (v4.toInt64)
    else
    (if (lg_cmp q3 0) = 0 then
    some (v4.toInt64)
    else
    (if v4 = 0 then
    gdzL q3 <|
    some (v0 / q3)
    else
    gdzL q3 <|
    some (v2 / q3))))
def X11_fraction (v0 : Int64) (v2 : Int64) (v4 : Int32) : Option Int64 :=
    (if v4 = 0 then
    X11_fraction_B15 v0 v2 v4
    else
    (if v4 = 1 then
    X11_fraction_B15 v0 v2 v4
    else
    some 1000000001))
def rmX11_fraction : Room := { frames := 1, cells := 0, slots := 0, locals := 30 }
theorem kdX11_fraction : yX11_fraction.cls = RX11 ∧ yX11_fraction.cls ≠ "java/lang/invoke/MethodHandle" ∧ yX11_fraction.cls ≠ "java/lang/invoke/VarHandle" ∧ (parseMethodDescriptor yX11_fraction.desc).map (fun d => d.parameters.length) = some 3 := by decide +kernel
set_option maxHeartbeats 4000000 in
set_option maxRecDepth 100000 in
theorem m_X11_fraction (l : Launch) (D : va_G) (a : Nat → Nat) (C : Nat → ClassId) (ha : ginj a) (h : HS) (v0 : Int64) (v2 : Int64) (v4 : Int32)  (r : Int64) (hf : X11_fraction v0 v2 v4 = some r) : gM l yX11_fraction wsX11_fraction rmX11_fraction D a C [.long v0, .long v2, .int v4] h (some (.long r)) h := by
  refine g_start (av := [.long v0, .long v2, .int v4]) (cc := cX11_fraction) (maxL := 7) (rt := (some .long)) (by decide) rfl (Nat.le_of_ble_eq_true rfl) ?_
  intro p e s m below meth c hx hb hr hml hown hlk hts hP hK hN ls hl
  have hA : ∀ q, gA a q → gA a q := fun _ q => q
  have hS : va_S (gA a) s.heap s.heap [] := va_S.rf
  have hl : lv_has ls 7 [(0, .long v0), (2, .long v2), (4, .int v4)] := hl
  have J15 : ∀ (_ : X11_fraction_B15 v0 v2 v4 = some r), gG p l e (headSpec wsX11_fraction rmX11_fraction).room s m ([.long v0, .long v2, .int v4] : List Value).toArray below meth c (MQ below (gQ (some (.long r)) D a C h) ([.long v0, .long v2, .int v4] : List Value).toArray s 0 0 (gA a)) D a C 7 h 15 [(0, .long v0), (2, .long v2), (4, .int v4)] [] := by
    intro  hf H locs ls hP hS hl
    unfold X11_fraction_B15 at hf
    refine lv_lload_n hx hb dX11_fraction_15 rfl (lv_at hl 0 rfl) ?_
    refine lv_lload_n hx hb dX11_fraction_16 rfl (lv_at hl 1 rfl) ?_
    obtain ⟨q3, hq3, hf⟩ := bind_s hf
    refine g_callS (As := [.long v0, .long v2]) (rest := []) hx hb hml hown hts hK hN (m_X11_commonDivisor l D a C ha h v0 v2  q3 hq3) (va_cwS 2 hts gX11_fraction_X11_commonDivisor rfl rfl rfl kdX11_commonDivisor.2 ⟨Nat.le_of_ble_eq_true rfl, Nat.le_of_ble_eq_true rfl⟩) hP hS hA rfl hl.1 rfl (Nat.le_of_ble_eq_true rfl) dX11_fraction_17 ⟨Nat.le_refl _, Nat.le_refl _⟩ (fun H locs hP hS => ?_)
    refine W.eq (g2 := F0 m 20 ls [.long q3]) rfl ?_
    refine lv_lstore (lv' := [(5, .long q3), (0, .long v0), (2, .long v2), (4, .int v4)]) hx hb dX11_fraction_20 hl (by decide) rfl (fun ls hl => ?_)
    refine lv_lload_n hx hb dX11_fraction_22 rfl (lv_at hl 2 rfl) ?_
    refine lv_lconst (v := 0) hx hb dX11_fraction_23 (by decide) ?_
    refine W.lcmp hx hb dX11_fraction_24 ?_
    refine lv_if_eq (tgt := 35) hx hb dX11_fraction_25 (by decide) (fun c4 => ?_) (fun c4 => ?_)
    · have hf := if_t hf c4
      refine lv_iload hx hb dX11_fraction_35 (lv_at hl 3 rfl) ?_
      refine lv_i2l hx hb dX11_fraction_37 rfl ?_
      exact g_lret hx hb hr hlk hP hS (ret1 hf) dX11_fraction_38
    · have hf := if_f hf c4
      refine lv_lload hx hb dX11_fraction_28 (lv_at hl 0 rfl) ?_
      refine lv_lconst (v := 0) hx hb dX11_fraction_30 (by decide) ?_
      refine W.lcmp hx hb dX11_fraction_31 ?_
      refine lv_if_ne (tgt := 39) hx hb dX11_fraction_32 (by decide) (fun c5 => ?_) (fun c5 => ?_)
      · have hf := if_f hf c5
        refine lv_iload hx hb dX11_fraction_39 (lv_at hl 3 rfl) ?_
        refine lv_if_ne (tgt := 51) hx hb dX11_fraction_41 (by decide) (fun c6 => ?_) (fun c6 => ?_)
        · have hf := if_f hf c6
          refine lv_lload_n hx hb dX11_fraction_51 rfl (lv_at hl 2 rfl) ?_
          refine lv_lload hx hb dX11_fraction_52 (lv_at hl 0 rfl) ?_
          obtain ⟨c7, hf⟩ := gdzL_s hf
          refine lv_ldiv hx hb dX11_fraction_54 c7 ?_
          exact g_lret hx hb hr hlk hP hS (ret1 hf) dX11_fraction_55
        · have hf := if_t hf c6
          refine lv_lload_n hx hb dX11_fraction_44 rfl (lv_at hl 1 rfl) ?_
          refine lv_lload hx hb dX11_fraction_45 (lv_at hl 0 rfl) ?_
          obtain ⟨c8, hf⟩ := gdzL_s hf
          refine lv_ldiv hx hb dX11_fraction_47 c8 ?_
          refine lv_goto (tgt := 55) hx hb dX11_fraction_48 (by decide) ?_
          exact g_lret hx hb hr hlk hP hS (ret1 hf) dX11_fraction_55
      · have hf := if_t hf c5
        refine lv_iload hx hb dX11_fraction_35 (lv_at hl 3 rfl) ?_
        refine lv_i2l hx hb dX11_fraction_37 rfl ?_
        exact g_lret hx hb hr hlk hP hS (ret1 hf) dX11_fraction_38
  unfold X11_fraction at hf
  suffices hh : ∀ (H : Heap) (locs : List Loc), va_P D vwCl (gw a C h) H → va_S (gA a) s.heap H locs → W p l e (headSpec wsX11_fraction rmX11_fraction).room s m ([.long v0, .long v2, .int v4] : List Value).toArray below meth c H locs 0 0 (MQ below (gQ (some (.long r)) D a C h) ([.long v0, .long v2, .int v4] : List Value).toArray s 0 0 (gA a)) (F0 m 0 ls []) from hh _ _ hP hS
  intro H locs hP hS
  refine lv_iload hx hb dX11_fraction_0 (lv_at hl 2 rfl) ?_
  refine lv_if_eq (tgt := 15) hx hb dX11_fraction_2 (by decide) (fun c1 => ?_) (fun c1 => ?_)
  · have hf := if_t hf c1
    exact J15 hf H locs ls hP hS (lv_sub hl [0, 1, 2] rfl)
  · have hf := if_f hf c1
    refine lv_iload hx hb dX11_fraction_5 (lv_at hl 2 rfl) ?_
    refine lv_iconst (v := 1) hx hb dX11_fraction_7 (by decide) ?_
    refine lv_icmp_eq (tgt := 15) hx hb dX11_fraction_8 (by decide) (fun c2 => ?_) (fun c2 => ?_)
    · have hf := if_t hf c2
      exact J15 hf H locs ls hP hS (lv_sub hl [0, 1, 2] rfl)
    · have hf := if_f hf c2
      refine lv_ldc2 (v := 1000000001) hx hb hown (hts _ (List.mem_of_getElem? (i := 1) rfl)) dX11_fraction_11 ?_
      exact g_lret hx hb hr hlk hP hS (ret1 hf) dX11_fraction_14

def X11_mean (h : HS) (v1 : Int32) : Option Int64 :=
    (X4_numbers h 6).bind fun q1 =>
    (X5_people h 5).bind fun q2 =>
    (X11_fraction (q1.toInt64) (q2.toInt64) v1).bind fun q3 =>
    some q3
def rmX11_mean : Room := { frames := 3, cells := 0, slots := 0, locals := 64 }
theorem kdX11_mean : yX11_mean.cls = RX11 ∧ yX11_mean.cls ≠ "java/lang/invoke/MethodHandle" ∧ yX11_mean.cls ≠ "java/lang/invoke/VarHandle" ∧ (parseMethodDescriptor yX11_mean.desc).map (fun d => d.parameters.length) = some 1 := by decide +kernel
set_option maxHeartbeats 4000000 in
set_option maxRecDepth 100000 in
theorem m_X11_mean (l : Launch) (D : va_G) (a : Nat → Nat) (C : Nat → ClassId) (ha : ginj a) (h : HS) (v1 : Int32)  (r : Int64) (hf : X11_mean h v1 = some r) : gM l yX11_mean wsX11_mean rmX11_mean D a C [.ref (a 0), .int v1] h (some (.long r)) h := by
  refine g_start (av := [.ref (a 0), .int v1]) (cc := cX11_mean) (maxL := 2) (rt := (some .long)) (by decide) rfl (Nat.le_of_ble_eq_true rfl) ?_
  intro p e s m below meth c hx hb hr hml hown hlk hts hP hK hN ls hl
  have hA : ∀ q, gA a q → gA a q := fun _ q => q
  have hS : va_S (gA a) s.heap s.heap [] := va_S.rf
  have hl : lv_has ls 2 [(0, .ref (a 0)), (1, .int v1)] := hl
  unfold X11_mean at hf
  refine lv_aload_n hx hb dX11_mean_0 rfl (lv_at hl 0 rfl) ?_
  refine g_get (Cn := RX11) (T := TX11) (N := 8) (v := .ref (a 5)) (own := RX11) hx hb hown hts hK X_O rfl (fun _ hw => List.mem_cons_of_mem _ (List.mem_append_left _ (List.mem_append_left _ (List.mem_append_right _ hw)))) 0 (by decide) (List.mem_of_getElem? (i := 1) rfl) rfl rfl hP dX11_mean_1 ?_
  refine g_getN (Cn := RX5) (T := TX5) (N := 7) (v := .ref (a 6)) (own := RX11) hx hb hown hts hK hN (par_O isPar5) rfl (fun _ hw => List.mem_cons_of_mem _ (List.mem_append_left _ (List.mem_append_right _ hw))) 0 (by decide) (List.mem_of_getElem? (i := 6) rfl) rfl rfl hP dX11_mean_4 ?_
  obtain ⟨q1, hq1, hf⟩ := bind_s hf
  refine g_callV (As := []) (rest := []) hx hb hml hown hts hK hN (m_X4_numbers l D a C ha h 6 (par_lin isPar5) q1 hq1) (cwV 0 hts gX11_mean_X4_numbers rfl rfl rfl kdX4_numbers ⟨Nat.le_of_ble_eq_true rfl, Nat.le_of_ble_eq_true rfl⟩) (lin_O (par_lin isPar5)) rfl rfl hP hS hA rfl hl.1 rfl (Nat.le_of_ble_eq_true rfl) dX11_mean_7 ⟨Nat.le_refl _, Nat.le_refl _⟩ (fun H locs hP hS => ?_)
  refine W.eq (g2 := F0 m 10 ls [.int q1]) rfl ?_
  refine lv_i2l hx hb dX11_mean_10 rfl ?_
  refine lv_aload_n hx hb dX11_mean_11 rfl (lv_at hl 0 rfl) ?_
  refine g_get (Cn := RX11) (T := TX11) (N := 8) (v := .ref (a 5)) (own := RX11) hx hb hown hts hK X_O rfl (fun _ hw => List.mem_cons_of_mem _ (List.mem_append_left _ (List.mem_append_left _ (List.mem_append_right _ hw)))) 0 (by decide) (List.mem_of_getElem? (i := 1) rfl) rfl rfl hP dX11_mean_12 ?_
  obtain ⟨q2, hq2, hf⟩ := bind_s hf
  refine g_callV (As := []) (rest := [.long (q1.toInt64)]) hx hb hml hown hts hK hN (m_X5_people l D a C ha h 5 isPar5 q2 hq2) (cwV 0 hts gX11_mean_X5_people rfl rfl rfl kdX5_people ⟨Nat.le_of_ble_eq_true rfl, Nat.le_of_ble_eq_true rfl⟩) (par_O isPar5) rfl rfl hP hS hA rfl hl.1 rfl (Nat.le_of_ble_eq_true rfl) dX11_mean_15 ⟨Nat.le_refl _, Nat.le_refl _⟩ (fun H locs hP hS => ?_)
  refine W.eq (g2 := F0 m 18 ls [.int q2, .long (q1.toInt64)]) rfl ?_
  refine lv_i2l hx hb dX11_mean_18 rfl ?_
  refine lv_iload_n hx hb dX11_mean_19 rfl (lv_at hl 1 rfl) ?_
  obtain ⟨q3, hq3, hf⟩ := bind_s hf
  refine g_callS (As := [.long (q1.toInt64), .long (q2.toInt64), .int v1]) (rest := []) hx hb hml hown hts hK hN (m_X11_fraction l D a C ha h (q1.toInt64) (q2.toInt64) v1  q3 hq3) (va_cwS 3 hts gX11_mean_X11_fraction rfl rfl rfl kdX11_fraction.2 ⟨Nat.le_of_ble_eq_true rfl, Nat.le_of_ble_eq_true rfl⟩) hP hS hA rfl hl.1 rfl (Nat.le_of_ble_eq_true rfl) dX11_mean_20 ⟨Nat.le_refl _, Nat.le_refl _⟩ (fun H locs hP hS => ?_)
  refine W.eq (g2 := F0 m 23 ls [.long q3]) rfl ?_
  exact g_lret hx hb hr hlk hP hS (ret1 hf) dX11_mean_23

def X11_sharesAround_B56 (h : HS) (k4 : Int64 → Int32 → Option Int64) (v1 : Int64) (v3 : Int32) : Option Int64 :=
    nm (v3 + 1) fun x8 =>
    k4 v1 x8
def X11_sharesAround_B4 (h : HS) : Nat → Int64 → Int32 → Option Int64
  | 0, _, _ => none
  | fu + 1, v1, v3 =>
    (X5_people h 5).bind fun q1 =>
    (if q1 ≤ v3 then
    some v1
    else
    (X4_number h 6 v3).bind fun q3 =>
    (if q3 ≤ 0 then
    X11_sharesAround_B56 h (X11_sharesAround_B4 h fu) v1 v3
    else
    (X4_numbersAround h 6 v3).bind fun q5 =>
    gdz q3 <|
    nm (v1 + ((q5.toInt64) * ((840 / q3).toInt64))) fun x7 =>
    X11_sharesAround_B56 h (X11_sharesAround_B4 h fu) x7 v3))
def X11_sharesAround (h : HS) : Option Int64 :=
    X11_sharesAround_B4 h FU 0 0
def rmX11_sharesAround : Room := { frames := 3, cells := 0, slots := 0, locals := 66 }
theorem kdX11_sharesAround : yX11_sharesAround.cls = RX11 ∧ yX11_sharesAround.cls ≠ "java/lang/invoke/MethodHandle" ∧ yX11_sharesAround.cls ≠ "java/lang/invoke/VarHandle" ∧ (parseMethodDescriptor yX11_sharesAround.desc).map (fun d => d.parameters.length) = some 0 := by decide +kernel
set_option maxHeartbeats 4000000 in
set_option maxRecDepth 100000 in
theorem m_X11_sharesAround (l : Launch) (D : va_G) (a : Nat → Nat) (C : Nat → ClassId) (ha : ginj a) (h : HS)  (r : Int64) (hf : X11_sharesAround h = some r) : gM l yX11_sharesAround wsX11_sharesAround rmX11_sharesAround D a C [.ref (a 0)] h (some (.long r)) h := by
  refine g_start (av := [.ref (a 0)]) (cc := cX11_sharesAround) (maxL := 5) (rt := (some .long)) (by decide) rfl (Nat.le_of_ble_eq_true rfl) ?_
  intro p e s m below meth c hx hb hr hml hown hlk hts hP hK hN ls hl
  have hA : ∀ q, gA a q → gA a q := fun _ q => q
  have hS : va_S (gA a) s.heap s.heap [] := va_S.rf
  have hl : lv_has ls 5 [(0, .ref (a 0))] := hl
  have J56 : ∀ (k4 : Int64 → Int32 → Option Int64) (hk4 : ∀ (v1 : Int64) (v3 : Int32), k4 v1 v3 = some r → gG p l e (headSpec wsX11_sharesAround rmX11_sharesAround).room s m ([.ref (a 0)] : List Value).toArray below meth c (MQ below (gQ (some (.long r)) D a C h) ([.ref (a 0)] : List Value).toArray s 0 0 (gA a)) D a C 5 h 4 [(0, .ref (a 0)), (1, .long v1), (3, .int v3)] []) (v1 : Int64) (v3 : Int32) (_ : X11_sharesAround_B56 h k4 v1 v3 = some r), gG p l e (headSpec wsX11_sharesAround rmX11_sharesAround).room s m ([.ref (a 0)] : List Value).toArray below meth c (MQ below (gQ (some (.long r)) D a C h) ([.ref (a 0)] : List Value).toArray s 0 0 (gA a)) D a C 5 h 56 [(0, .ref (a 0)), (1, .long v1), (3, .int v3)] [] := by
    intro k4 hk4 v1 v3 hf H locs ls hP hS hl
    unfold X11_sharesAround_B56 at hf
    obtain ⟨x8, ex8⟩ : ∃ y : Int32, y = (v3 + 1) := ⟨_, rfl⟩
    have hf := nm_s hf ex8
    refine lv_iinc (v := x8) (lv' := [(3, .int x8), (0, .ref (a 0)), (1, .long v1)]) hx hb dX11_sharesAround_56 hl (k := 2) rfl (by rw [ex8]; rfl) (by decide) rfl (fun ls hl => ?_)
    refine lv_goto (tgt := 4) hx hb dX11_sharesAround_59 (by decide) ?_
    exact hk4 v1 x8 hf H locs ls hP hS (lv_sub hl [1, 2, 0] rfl)
  have J4 : ∀ (fu : Nat) (v1 : Int64) (v3 : Int32), X11_sharesAround_B4 h fu v1 v3 = some r → gG p l e (headSpec wsX11_sharesAround rmX11_sharesAround).room s m ([.ref (a 0)] : List Value).toArray below meth c (MQ below (gQ (some (.long r)) D a C h) ([.ref (a 0)] : List Value).toArray s 0 0 (gA a)) D a C 5 h 4 [(0, .ref (a 0)), (1, .long v1), (3, .int v3)] [] := by
    intro fu
    induction fu with
    | zero => intro v1 v3 hf; exact absurd hf (by simp [X11_sharesAround_B4])
    | succ fu ih =>
      intro v1 v3 hf H locs ls hP hS hl
      rw [X11_sharesAround_B4] at hf
      refine lv_iload_n hx hb dX11_sharesAround_4 rfl (lv_at hl 2 rfl) ?_
      refine lv_aload_n hx hb dX11_sharesAround_5 rfl (lv_at hl 0 rfl) ?_
      refine g_get (Cn := RX11) (T := TX11) (N := 8) (v := .ref (a 5)) (own := RX11) hx hb hown hts hK X_O rfl (fun _ hw => List.mem_cons_of_mem _ (List.mem_append_left _ (List.mem_append_left _ (List.mem_append_right _ hw)))) 0 (by decide) (List.mem_of_getElem? (i := 1) rfl) rfl rfl hP dX11_sharesAround_6 ?_
      obtain ⟨q1, hq1, hf⟩ := bind_s hf
      refine g_callV (As := []) (rest := [.int v3]) hx hb hml hown hts hK hN (m_X5_people l D a C ha h 5 isPar5 q1 hq1) (cwV 0 hts gX11_sharesAround_X5_people rfl rfl rfl kdX5_people ⟨Nat.le_of_ble_eq_true rfl, Nat.le_of_ble_eq_true rfl⟩) (par_O isPar5) rfl rfl hP hS hA rfl hl.1 rfl (Nat.le_of_ble_eq_true rfl) dX11_sharesAround_9 ⟨Nat.le_refl _, Nat.le_refl _⟩ (fun H locs hP hS => ?_)
      refine W.eq (g2 := F0 m 12 ls [.int q1, .int v3]) rfl ?_
      refine lv_icmp_ge (tgt := 62) hx hb dX11_sharesAround_12 (by decide) (fun c2 => ?_) (fun c2 => ?_)
      · have hf := if_t hf c2
        refine lv_lload_n hx hb dX11_sharesAround_62 rfl (lv_at hl 1 rfl) ?_
        exact g_lret hx hb hr hlk hP hS (ret1 hf) dX11_sharesAround_63
      · have hf := if_f hf c2
        refine lv_aload_n hx hb dX11_sharesAround_15 rfl (lv_at hl 0 rfl) ?_
        refine g_get (Cn := RX11) (T := TX11) (N := 8) (v := .ref (a 5)) (own := RX11) hx hb hown hts hK X_O rfl (fun _ hw => List.mem_cons_of_mem _ (List.mem_append_left _ (List.mem_append_left _ (List.mem_append_right _ hw)))) 0 (by decide) (List.mem_of_getElem? (i := 1) rfl) rfl rfl hP dX11_sharesAround_16 ?_
        refine g_getN (Cn := RX5) (T := TX5) (N := 7) (v := .ref (a 6)) (own := RX11) hx hb hown hts hK hN (par_O isPar5) rfl (fun _ hw => List.mem_cons_of_mem _ (List.mem_append_left _ (List.mem_append_right _ hw))) 0 (by decide) (List.mem_of_getElem? (i := 6) rfl) rfl rfl hP dX11_sharesAround_19 ?_
        refine lv_iload_n hx hb dX11_sharesAround_22 rfl (lv_at hl 2 rfl) ?_
        obtain ⟨q3, hq3, hf⟩ := bind_s hf
        refine g_callV (As := [.int v3]) (rest := []) hx hb hml hown hts hK hN (m_X4_number l D a C ha h 6 v3 (par_lin isPar5) q3 hq3) (cwV 1 hts gX11_sharesAround_X4_number rfl rfl rfl kdX4_number ⟨Nat.le_of_ble_eq_true rfl, Nat.le_of_ble_eq_true rfl⟩) (lin_O (par_lin isPar5)) rfl rfl hP hS hA rfl hl.1 rfl (Nat.le_of_ble_eq_true rfl) dX11_sharesAround_23 ⟨Nat.le_refl _, Nat.le_refl _⟩ (fun H locs hP hS => ?_)
        refine W.eq (g2 := F0 m 26 ls [.int q3]) rfl ?_
        refine lv_istore (lv' := [(4, .int q3), (0, .ref (a 0)), (1, .long v1), (3, .int v3)]) hx hb dX11_sharesAround_26 hl (by decide) rfl (fun ls hl => ?_)
        refine lv_iload hx hb dX11_sharesAround_28 (lv_at hl 0 rfl) ?_
        refine lv_if_le (tgt := 56) hx hb dX11_sharesAround_30 (by decide) (fun c4 => ?_) (fun c4 => ?_)
        · have hf := if_t hf c4
          exact J56 (X11_sharesAround_B4 h fu) ih v1 v3 hf H locs ls hP hS (lv_sub hl [1, 2, 3] rfl)
        · have hf := if_f hf c4
          refine lv_lload_n hx hb dX11_sharesAround_33 rfl (lv_at hl 2 rfl) ?_
          refine lv_aload_n hx hb dX11_sharesAround_34 rfl (lv_at hl 1 rfl) ?_
          refine g_get (Cn := RX11) (T := TX11) (N := 8) (v := .ref (a 5)) (own := RX11) hx hb hown hts hK X_O rfl (fun _ hw => List.mem_cons_of_mem _ (List.mem_append_left _ (List.mem_append_left _ (List.mem_append_right _ hw)))) 0 (by decide) (List.mem_of_getElem? (i := 1) rfl) rfl rfl hP dX11_sharesAround_35 ?_
          refine g_getN (Cn := RX5) (T := TX5) (N := 7) (v := .ref (a 6)) (own := RX11) hx hb hown hts hK hN (par_O isPar5) rfl (fun _ hw => List.mem_cons_of_mem _ (List.mem_append_left _ (List.mem_append_right _ hw))) 0 (by decide) (List.mem_of_getElem? (i := 6) rfl) rfl rfl hP dX11_sharesAround_38 ?_
          refine lv_iload_n hx hb dX11_sharesAround_41 rfl (lv_at hl 3 rfl) ?_
          obtain ⟨q5, hq5, hf⟩ := bind_s hf
          refine g_callV (As := [.int v3]) (rest := [.long v1]) hx hb hml hown hts hK hN (m_X4_numbersAround l D a C ha h 6 v3 (par_lin isPar5) q5 hq5) (cwV 1 hts gX11_sharesAround_X4_numbersAround rfl rfl rfl kdX4_numbersAround ⟨Nat.le_of_ble_eq_true rfl, Nat.le_of_ble_eq_true rfl⟩) (lin_O (par_lin isPar5)) rfl rfl hP hS hA rfl hl.1 rfl (Nat.le_of_ble_eq_true rfl) dX11_sharesAround_42 ⟨Nat.le_refl _, Nat.le_refl _⟩ (fun H locs hP hS => ?_)
          refine W.eq (g2 := F0 m 45 ls [.int q5, .long v1]) rfl ?_
          refine lv_i2l hx hb dX11_sharesAround_45 rfl ?_
          refine lv_sipush (v := 840) hx hb dX11_sharesAround_46 (by decide) ?_
          refine lv_iload hx hb dX11_sharesAround_49 (lv_at hl 0 rfl) ?_
          obtain ⟨c6, hf⟩ := gdz_s hf
          refine lv_idiv hx hb dX11_sharesAround_51 c6 ?_
          refine lv_i2l hx hb dX11_sharesAround_52 rfl ?_
          refine lv_lmul hx hb dX11_sharesAround_53 ?_
          refine lv_ladd hx hb dX11_sharesAround_54 ?_
          refine lv_topl (fun x7 ex7 => ?_)
          have hf := nm_s hf ex7
          refine lv_lstore_n (lv' := [(1, .long x7), (4, .int q3), (0, .ref (a 0)), (3, .int v3)]) hx hb dX11_sharesAround_55 rfl hl (by decide) rfl (fun ls hl => ?_)
          exact J56 (X11_sharesAround_B4 h fu) ih x7 v3 hf H locs ls hP hS (lv_sub hl [2, 0, 3] rfl)
  unfold X11_sharesAround at hf
  suffices hh : ∀ (H : Heap) (locs : List Loc), va_P D vwCl (gw a C h) H → va_S (gA a) s.heap H locs → W p l e (headSpec wsX11_sharesAround rmX11_sharesAround).room s m ([.ref (a 0)] : List Value).toArray below meth c H locs 0 0 (MQ below (gQ (some (.long r)) D a C h) ([.ref (a 0)] : List Value).toArray s 0 0 (gA a)) (F0 m 0 ls []) from hh _ _ hP hS
  intro H locs hP hS
  refine lv_lconst (v := 0) hx hb dX11_sharesAround_0 (by decide) ?_
  refine lv_lstore_n (lv' := [(1, .long 0), (0, .ref (a 0))]) hx hb dX11_sharesAround_1 rfl hl (by decide) rfl (fun ls hl => ?_)
  refine lv_iconst (v := 0) hx hb dX11_sharesAround_2 (by decide) ?_
  refine lv_istore_n (lv' := [(3, .int 0), (1, .long 0), (0, .ref (a 0))]) hx hb dX11_sharesAround_3 rfl hl (by decide) rfl (fun ls hl => ?_)
  exact J4 FU 0 0 hf H locs ls hP hS (lv_sub hl [2, 1, 0] rfl)

def X11_known (h : HS) (v1 : Int32) (v2 : Int32) : Option Int64 :=
    (if v1 = 0 then
    (X4_numbersOfEnds h 6).bind fun q2 =>
    (X4_numbers h 6).bind fun q3 =>
    (X11_fraction (q2.toInt64) (q3.toInt64) v2).bind fun q4 =>
    some q4
    else
    (if v1 = 1 then
    (X11_sharesAround h).bind fun q6 =>
    (X4_sociable h 6).bind fun q7 =>
    (X11_fraction q6 (840 * (q7.toInt64)) v2).bind fun q8 =>
    some q8
    else
    some 1000000001))
def rmX11_known : Room := { frames := 4, cells := 0, slots := 0, locals := 90 }
theorem kdX11_known : yX11_known.cls = RX11 ∧ yX11_known.cls ≠ "java/lang/invoke/MethodHandle" ∧ yX11_known.cls ≠ "java/lang/invoke/VarHandle" ∧ (parseMethodDescriptor yX11_known.desc).map (fun d => d.parameters.length) = some 2 := by decide +kernel
set_option maxHeartbeats 4000000 in
set_option maxRecDepth 100000 in
theorem m_X11_known (l : Launch) (D : va_G) (a : Nat → Nat) (C : Nat → ClassId) (ha : ginj a) (h : HS) (v1 : Int32) (v2 : Int32)  (r : Int64) (hf : X11_known h v1 v2 = some r) : gM l yX11_known wsX11_known rmX11_known D a C [.ref (a 0), .int v1, .int v2] h (some (.long r)) h := by
  refine g_start (av := [.ref (a 0), .int v1, .int v2]) (cc := cX11_known) (maxL := 3) (rt := (some .long)) (by decide) rfl (Nat.le_of_ble_eq_true rfl) ?_
  intro p e s m below meth c hx hb hr hml hown hlk hts hP hK hN ls hl
  have hA : ∀ q, gA a q → gA a q := fun _ q => q
  have hS : va_S (gA a) s.heap s.heap [] := va_S.rf
  have hl : lv_has ls 3 [(0, .ref (a 0)), (1, .int v1), (2, .int v2)] := hl
  unfold X11_known at hf
  refine lv_iload_n hx hb dX11_known_0 rfl (lv_at hl 1 rfl) ?_
  by_cases c1 : v1 = 0
  · have hf := if_t hf c1
    refine lv_lookup (tgt := 28) (off := 27) hx hb dX11_known_1 (by decide) (by rw [c1]; rfl) (by decide) ?_
    refine lv_aload_n hx hb dX11_known_28 rfl (lv_at hl 0 rfl) ?_
    refine g_get (Cn := RX11) (T := TX11) (N := 8) (v := .ref (a 5)) (own := RX11) hx hb hown hts hK X_O rfl (fun _ hw => List.mem_cons_of_mem _ (List.mem_append_left _ (List.mem_append_left _ (List.mem_append_right _ hw)))) 0 (by decide) (List.mem_of_getElem? (i := 1) rfl) rfl rfl hP dX11_known_29 ?_
    refine g_getN (Cn := RX5) (T := TX5) (N := 7) (v := .ref (a 6)) (own := RX11) hx hb hown hts hK hN (par_O isPar5) rfl (fun _ hw => List.mem_cons_of_mem _ (List.mem_append_left _ (List.mem_append_right _ hw))) 0 (by decide) (List.mem_of_getElem? (i := 6) rfl) rfl rfl hP dX11_known_32 ?_
    obtain ⟨q2, hq2, hf⟩ := bind_s hf
    refine g_callV (As := []) (rest := []) hx hb hml hown hts hK hN (m_X4_numbersOfEnds l D a C ha h 6 (par_lin isPar5) q2 hq2) (cwV 0 hts gX11_known_X4_numbersOfEnds rfl rfl rfl kdX4_numbersOfEnds ⟨Nat.le_of_ble_eq_true rfl, Nat.le_of_ble_eq_true rfl⟩) (lin_O (par_lin isPar5)) rfl rfl hP hS hA rfl hl.1 rfl (Nat.le_of_ble_eq_true rfl) dX11_known_35 ⟨Nat.le_refl _, Nat.le_refl _⟩ (fun H locs hP hS => ?_)
    refine W.eq (g2 := F0 m 38 ls [.int q2]) rfl ?_
    refine lv_i2l hx hb dX11_known_38 rfl ?_
    refine lv_aload_n hx hb dX11_known_39 rfl (lv_at hl 0 rfl) ?_
    refine g_get (Cn := RX11) (T := TX11) (N := 8) (v := .ref (a 5)) (own := RX11) hx hb hown hts hK X_O rfl (fun _ hw => List.mem_cons_of_mem _ (List.mem_append_left _ (List.mem_append_left _ (List.mem_append_right _ hw)))) 0 (by decide) (List.mem_of_getElem? (i := 1) rfl) rfl rfl hP dX11_known_40 ?_
    refine g_getN (Cn := RX5) (T := TX5) (N := 7) (v := .ref (a 6)) (own := RX11) hx hb hown hts hK hN (par_O isPar5) rfl (fun _ hw => List.mem_cons_of_mem _ (List.mem_append_left _ (List.mem_append_right _ hw))) 0 (by decide) (List.mem_of_getElem? (i := 6) rfl) rfl rfl hP dX11_known_43 ?_
    obtain ⟨q3, hq3, hf⟩ := bind_s hf
    refine g_callV (As := []) (rest := [.long (q2.toInt64)]) hx hb hml hown hts hK hN (m_X4_numbers l D a C ha h 6 (par_lin isPar5) q3 hq3) (cwV 0 hts gX11_known_X4_numbers rfl rfl rfl kdX4_numbers ⟨Nat.le_of_ble_eq_true rfl, Nat.le_of_ble_eq_true rfl⟩) (lin_O (par_lin isPar5)) rfl rfl hP hS hA rfl hl.1 rfl (Nat.le_of_ble_eq_true rfl) dX11_known_46 ⟨Nat.le_refl _, Nat.le_refl _⟩ (fun H locs hP hS => ?_)
    refine W.eq (g2 := F0 m 49 ls [.int q3, .long (q2.toInt64)]) rfl ?_
    refine lv_i2l hx hb dX11_known_49 rfl ?_
    refine lv_iload_n hx hb dX11_known_50 rfl (lv_at hl 2 rfl) ?_
    obtain ⟨q4, hq4, hf⟩ := bind_s hf
    refine g_callS (As := [.long (q2.toInt64), .long (q3.toInt64), .int v2]) (rest := []) hx hb hml hown hts hK hN (m_X11_fraction l D a C ha h (q2.toInt64) (q3.toInt64) v2  q4 hq4) (va_cwS 3 hts gX11_known_X11_fraction rfl rfl rfl kdX11_fraction.2 ⟨Nat.le_of_ble_eq_true rfl, Nat.le_of_ble_eq_true rfl⟩) hP hS hA rfl hl.1 rfl (Nat.le_of_ble_eq_true rfl) dX11_known_51 ⟨Nat.le_refl _, Nat.le_refl _⟩ (fun H locs hP hS => ?_)
    refine W.eq (g2 := F0 m 54 ls [.long q4]) rfl ?_
    exact g_lret hx hb hr hlk hP hS (ret1 hf) dX11_known_54
  have hf := if_f hf c1
  by_cases c5 : v1 = 1
  · have hf := if_t hf c5
    refine lv_lookup (tgt := 55) (off := 54) hx hb dX11_known_1 (by decide) (by rw [c5]; rfl) (by decide) ?_
    refine lv_aload_n hx hb dX11_known_55 rfl (lv_at hl 0 rfl) ?_
    obtain ⟨q6, hq6, hf⟩ := bind_s hf
    refine g_callV (As := []) (rest := []) hx hb hml hown hts hK hN (m_X11_sharesAround l D a C ha h  q6 hq6) (cwV 0 hts gX11_known_X11_sharesAround rfl rfl rfl kdX11_sharesAround ⟨Nat.le_of_ble_eq_true rfl, Nat.le_of_ble_eq_true rfl⟩) X_O rfl rfl hP hS hA rfl hl.1 rfl (Nat.le_of_ble_eq_true rfl) dX11_known_56 ⟨Nat.le_refl _, Nat.le_refl _⟩ (fun H locs hP hS => ?_)
    refine W.eq (g2 := F0 m 59 ls [.long q6]) rfl ?_
    refine lv_ldc2 (v := 840) hx hb hown (hts _ (List.mem_of_getElem? (i := 2) rfl)) dX11_known_59 ?_
    refine lv_aload_n hx hb dX11_known_62 rfl (lv_at hl 0 rfl) ?_
    refine g_get (Cn := RX11) (T := TX11) (N := 8) (v := .ref (a 5)) (own := RX11) hx hb hown hts hK X_O rfl (fun _ hw => List.mem_cons_of_mem _ (List.mem_append_left _ (List.mem_append_left _ (List.mem_append_right _ hw)))) 0 (by decide) (List.mem_of_getElem? (i := 1) rfl) rfl rfl hP dX11_known_63 ?_
    refine g_getN (Cn := RX5) (T := TX5) (N := 7) (v := .ref (a 6)) (own := RX11) hx hb hown hts hK hN (par_O isPar5) rfl (fun _ hw => List.mem_cons_of_mem _ (List.mem_append_left _ (List.mem_append_right _ hw))) 0 (by decide) (List.mem_of_getElem? (i := 6) rfl) rfl rfl hP dX11_known_66 ?_
    obtain ⟨q7, hq7, hf⟩ := bind_s hf
    refine g_callV (As := []) (rest := [.long 840, .long q6]) hx hb hml hown hts hK hN (m_X4_sociable l D a C ha h 6 (par_lin isPar5) q7 hq7) (cwV 0 hts gX11_known_X4_sociable rfl rfl rfl kdX4_sociable ⟨Nat.le_of_ble_eq_true rfl, Nat.le_of_ble_eq_true rfl⟩) (lin_O (par_lin isPar5)) rfl rfl hP hS hA rfl hl.1 rfl (Nat.le_of_ble_eq_true rfl) dX11_known_69 ⟨Nat.le_refl _, Nat.le_refl _⟩ (fun H locs hP hS => ?_)
    refine W.eq (g2 := F0 m 72 ls [.int q7, .long 840, .long q6]) rfl ?_
    refine lv_i2l hx hb dX11_known_72 rfl ?_
    refine lv_lmul hx hb dX11_known_73 ?_
    refine lv_iload_n hx hb dX11_known_74 rfl (lv_at hl 2 rfl) ?_
    obtain ⟨q8, hq8, hf⟩ := bind_s hf
    refine g_callS (As := [.long q6, .long (840 * (q7.toInt64)), .int v2]) (rest := []) hx hb hml hown hts hK hN (m_X11_fraction l D a C ha h q6 (840 * (q7.toInt64)) v2  q8 hq8) (va_cwS 3 hts gX11_known_X11_fraction rfl rfl rfl kdX11_fraction.2 ⟨Nat.le_of_ble_eq_true rfl, Nat.le_of_ble_eq_true rfl⟩) hP hS hA rfl hl.1 rfl (Nat.le_of_ble_eq_true rfl) dX11_known_75 ⟨Nat.le_refl _, Nat.le_refl _⟩ (fun H locs hP hS => ?_)
    refine W.eq (g2 := F0 m 78 ls [.long q8]) rfl ?_
    exact g_lret hx hb hr hlk hP hS (ret1 hf) dX11_known_78
  have hf := if_f hf c5
  refine lv_lookup (tgt := 79) (off := 78) hx hb dX11_known_1 (by decide) (by have n0 := ti_nz (z := 0) (by decide) c1; have n1 := ti_nz (z := 1) (by decide) c5; simp only [Op.lookupswitch.offset]; rw [if_neg (fun q => n0 q.symm)]; rw [if_neg (fun q => n1 q.symm)]) (by decide) ?_
  refine lv_ldc2 (v := 1000000001) hx hb hown (hts _ (List.mem_of_getElem? (i := 3) rfl)) dX11_known_79 ?_
  exact g_lret hx hb hr hlk hP hS (ret1 hf) dX11_known_82

def X11_feels (h : HS) : Option Int32 :=
    (X4_feelers h 6).bind fun q1 =>
    some q1
def rmX11_feels : Room := { frames := 4, cells := 0, slots := 0, locals := 88 }
theorem kdX11_feels : yX11_feels.cls = RX11 ∧ yX11_feels.cls ≠ "java/lang/invoke/MethodHandle" ∧ yX11_feels.cls ≠ "java/lang/invoke/VarHandle" ∧ (parseMethodDescriptor yX11_feels.desc).map (fun d => d.parameters.length) = some 0 := by decide +kernel
set_option maxHeartbeats 4000000 in
set_option maxRecDepth 100000 in
theorem m_X11_feels (l : Launch) (D : va_G) (a : Nat → Nat) (C : Nat → ClassId) (ha : ginj a) (h : HS)  (r : Int32) (hf : X11_feels h = some r) : gM l yX11_feels wsX11_feels rmX11_feels D a C [.ref (a 0)] h (some (.int r)) h := by
  refine g_start (av := [.ref (a 0)]) (cc := cX11_feels) (maxL := 1) (rt := (some .int)) (by decide) rfl (Nat.le_of_ble_eq_true rfl) ?_
  intro p e s m below meth c hx hb hr hml hown hlk hts hP hK hN ls hl
  have hA : ∀ q, gA a q → gA a q := fun _ q => q
  have hS : va_S (gA a) s.heap s.heap [] := va_S.rf
  have hl : lv_has ls 1 [(0, .ref (a 0))] := hl
  unfold X11_feels at hf
  refine lv_aload_n hx hb dX11_feels_0 rfl (lv_at hl 0 rfl) ?_
  refine g_get (Cn := RX11) (T := TX11) (N := 8) (v := .ref (a 5)) (own := RX11) hx hb hown hts hK X_O rfl (fun _ hw => List.mem_cons_of_mem _ (List.mem_append_left _ (List.mem_append_left _ (List.mem_append_right _ hw)))) 0 (by decide) (List.mem_of_getElem? (i := 1) rfl) rfl rfl hP dX11_feels_1 ?_
  refine g_getN (Cn := RX5) (T := TX5) (N := 7) (v := .ref (a 6)) (own := RX11) hx hb hown hts hK hN (par_O isPar5) rfl (fun _ hw => List.mem_cons_of_mem _ (List.mem_append_left _ (List.mem_append_right _ hw))) 0 (by decide) (List.mem_of_getElem? (i := 6) rfl) rfl rfl hP dX11_feels_4 ?_
  obtain ⟨q1, hq1, hf⟩ := bind_s hf
  refine g_callV (As := []) (rest := []) hx hb hml hown hts hK hN (m_X4_feelers l D a C ha h 6 (par_lin isPar5) q1 hq1) (cwV 0 hts gX11_feels_X4_feelers rfl rfl rfl kdX4_feelers ⟨Nat.le_of_ble_eq_true rfl, Nat.le_of_ble_eq_true rfl⟩) (lin_O (par_lin isPar5)) rfl rfl hP hS hA rfl hl.1 rfl (Nat.le_of_ble_eq_true rfl) dX11_feels_7 ⟨Nat.le_refl _, Nat.le_refl _⟩ (fun H locs hP hS => ?_)
  refine W.eq (g2 := F0 m 10 ls [.int q1]) rfl ?_
  exact g_iret hx hb hr hlk hP hS (ret1 hf) dX11_feels_10

def X11_fall_B25 (v1 : Int32) (s0 : Int32) (h : HS) : Option (Int32 × HS) :=
    (X4_bestTurn h 6 s0).bind fun q4 =>
    some (q4.1, q4.2)
def X11_fall_B9 (v1 : Int32) (h : HS) : Option (Int32 × HS) :=
    (if v1 = 0 then
    X11_fall_B25 v1 1 h
    else
    X11_fall_B25 v1 0 h)
def X11_fall (h : HS) (v1 : Int32) : Option (Int32 × HS) :=
    (if v1 = 0 then
    X11_fall_B9 v1 h
    else
    (if v1 = 1 then
    X11_fall_B9 v1 h
    else
    some ((-1), h)))
def rmX11_fall : Room := { frames := 5, cells := 0, slots := 0, locals := 114 }
theorem kdX11_fall : yX11_fall.cls = RX11 ∧ yX11_fall.cls ≠ "java/lang/invoke/MethodHandle" ∧ yX11_fall.cls ≠ "java/lang/invoke/VarHandle" ∧ (parseMethodDescriptor yX11_fall.desc).map (fun d => d.parameters.length) = some 1 := by decide +kernel
set_option maxHeartbeats 4000000 in
set_option maxRecDepth 100000 in
theorem m_X11_fall (l : Launch) (D : va_G) (a : Nat → Nat) (C : Nat → ClassId) (ha : ginj a) (h : HS) (v1 : Int32)  (r : Int32) (h' : HS) (hf : X11_fall h v1 = some (r, h')) : gM l yX11_fall wsX11_fall rmX11_fall D a C [.ref (a 0), .int v1] h (some (.int r)) h' := by
  refine g_start (av := [.ref (a 0), .int v1]) (cc := cX11_fall) (maxL := 2) (rt := (some .int)) (by decide) rfl (Nat.le_of_ble_eq_true rfl) ?_
  intro p e s m below meth c hx hb hr hml hown hlk hts hP hK hN ls hl
  have hA : ∀ q, gA a q → gA a q := fun _ q => q
  have hS : va_S (gA a) s.heap s.heap [] := va_S.rf
  have hl : lv_has ls 2 [(0, .ref (a 0)), (1, .int v1)] := hl
  have J25 : ∀ (s0 : Int32) (h : HS) (_ : X11_fall_B25 v1 s0 h = some (r, h')), gG p l e (headSpec wsX11_fall rmX11_fall).room s m ([.ref (a 0), .int v1] : List Value).toArray below meth c (MQ below (gQ (some (.int r)) D a C h') ([.ref (a 0), .int v1] : List Value).toArray s 0 0 (gA a)) D a C 2 h 25 [] [.int s0, .ref (a 6)] := by
    intro s0 h hf H locs ls hP hS hl
    unfold X11_fall_B25 at hf
    obtain ⟨q4, hq4, hf⟩ := bind_s hf
    refine g_callV (As := [.int s0]) (rest := []) hx hb hml hown hts hK hN (m_X4_bestTurn l D a C ha h 6 s0 (par_lin isPar5) q4.1 q4.2 hq4) (cwV 1 hts gX11_fall_X4_bestTurn rfl rfl rfl kdX4_bestTurn ⟨Nat.le_of_ble_eq_true rfl, Nat.le_of_ble_eq_true rfl⟩) (lin_O (par_lin isPar5)) rfl rfl hP hS hA rfl hl.1 rfl (Nat.le_of_ble_eq_true rfl) dX11_fall_25 ⟨Nat.le_refl _, Nat.le_refl _⟩ (fun H locs hP hS => ?_)
    refine W.eq (g2 := F0 m 28 ls [.int q4.1]) rfl ?_
    refine lv_goto (tgt := 32) hx hb dX11_fall_28 (by decide) ?_
    exact g_iretW hx hb hr hlk hP hS (ret2 hf) dX11_fall_32
  have J9 : ∀ (h : HS) (_ : X11_fall_B9 v1 h = some (r, h')), gG p l e (headSpec wsX11_fall rmX11_fall).room s m ([.ref (a 0), .int v1] : List Value).toArray below meth c (MQ below (gQ (some (.int r)) D a C h') ([.ref (a 0), .int v1] : List Value).toArray s 0 0 (gA a)) D a C 2 h 9 [(0, .ref (a 0)), (1, .int v1)] [] := by
    intro h hf H locs ls hP hS hl
    unfold X11_fall_B9 at hf
    refine lv_aload_n hx hb dX11_fall_9 rfl (lv_at hl 0 rfl) ?_
    refine g_get (Cn := RX11) (T := TX11) (N := 8) (v := .ref (a 5)) (own := RX11) hx hb hown hts hK X_O rfl (fun _ hw => List.mem_cons_of_mem _ (List.mem_append_left _ (List.mem_append_left _ (List.mem_append_right _ hw)))) 0 (by decide) (List.mem_of_getElem? (i := 1) rfl) rfl rfl hP dX11_fall_10 ?_
    refine g_getN (Cn := RX5) (T := TX5) (N := 7) (v := .ref (a 6)) (own := RX11) hx hb hown hts hK hN (par_O isPar5) rfl (fun _ hw => List.mem_cons_of_mem _ (List.mem_append_left _ (List.mem_append_right _ hw))) 0 (by decide) (List.mem_of_getElem? (i := 6) rfl) rfl rfl hP dX11_fall_13 ?_
    refine lv_iload_n hx hb dX11_fall_16 rfl (lv_at hl 1 rfl) ?_
    refine lv_if_ne (tgt := 24) hx hb dX11_fall_17 (by decide) (fun c3 => ?_) (fun c3 => ?_)
    · have hf := if_f hf c3
      refine lv_iconst (v := 0) hx hb dX11_fall_24 (by decide) ?_
      exact J25 0 h hf H locs ls hP hS (lv_sub hl [] rfl)
    · have hf := if_t hf c3
      refine lv_iconst (v := 1) hx hb dX11_fall_20 (by decide) ?_
      refine lv_goto (tgt := 25) hx hb dX11_fall_21 (by decide) ?_
      exact J25 1 h hf H locs ls hP hS (lv_sub hl [] rfl)
  unfold X11_fall at hf
  suffices hh : ∀ (H : Heap) (locs : List Loc), va_P D vwCl (gw a C h) H → va_S (gA a) s.heap H locs → W p l e (headSpec wsX11_fall rmX11_fall).room s m ([.ref (a 0), .int v1] : List Value).toArray below meth c H locs 0 0 (MQ below (gQ (some (.int r)) D a C h') ([.ref (a 0), .int v1] : List Value).toArray s 0 0 (gA a)) (F0 m 0 ls []) from hh _ _ hP hS
  intro H locs hP hS
  refine lv_iload_n hx hb dX11_fall_0 rfl (lv_at hl 1 rfl) ?_
  refine lv_if_eq (tgt := 9) hx hb dX11_fall_1 (by decide) (fun c1 => ?_) (fun c1 => ?_)
  · have hf := if_t hf c1
    exact J9 h hf H locs ls hP hS (lv_sub hl [0, 1] rfl)
  · have hf := if_f hf c1
    refine lv_iload_n hx hb dX11_fall_4 rfl (lv_at hl 1 rfl) ?_
    refine lv_iconst (v := 1) hx hb dX11_fall_5 (by decide) ?_
    refine lv_icmp_ne (tgt := 31) hx hb dX11_fall_6 (by decide) (fun c2 => ?_) (fun c2 => ?_)
    · have hf := if_f hf c2
      refine lv_iconst (v := (-1)) hx hb dX11_fall_31 (by decide) ?_
      exact g_iretW hx hb hr hlk hP hS (ret2 hf) dX11_fall_32
    · have hf := if_t hf c2
      exact J9 h hf H locs ls hP hS (lv_sub hl [0, 1] rfl)

def X11_far (h : HS) (v1 : Int32) (v2 : Int32) : Option Int32 :=
    (X5_has h 5 v1).bind fun q1 =>
    (if q1 = 0 then
    some (-1)
    else
    (X5_has h 5 v2).bind fun q3 =>
    (if q3 = 0 then
    some (-1)
    else
    (X4_way h 6 v1 v2).bind fun q5 =>
    some q5))
def rmX11_far : Room := { frames := 3, cells := 0, slots := 0, locals := 68 }
theorem kdX11_far : yX11_far.cls = RX11 ∧ yX11_far.cls ≠ "java/lang/invoke/MethodHandle" ∧ yX11_far.cls ≠ "java/lang/invoke/VarHandle" ∧ (parseMethodDescriptor yX11_far.desc).map (fun d => d.parameters.length) = some 2 := by decide +kernel
set_option maxHeartbeats 4000000 in
set_option maxRecDepth 100000 in
theorem m_X11_far (l : Launch) (D : va_G) (a : Nat → Nat) (C : Nat → ClassId) (ha : ginj a) (h : HS) (v1 : Int32) (v2 : Int32)  (r : Int32) (hf : X11_far h v1 v2 = some r) : gM l yX11_far wsX11_far rmX11_far D a C [.ref (a 0), .int v1, .int v2] h (some (.int r)) h := by
  refine g_start (av := [.ref (a 0), .int v1, .int v2]) (cc := cX11_far) (maxL := 3) (rt := (some .int)) (by decide) rfl (Nat.le_of_ble_eq_true rfl) ?_
  intro p e s m below meth c hx hb hr hml hown hlk hts hP hK hN ls hl
  have hA : ∀ q, gA a q → gA a q := fun _ q => q
  have hS : va_S (gA a) s.heap s.heap [] := va_S.rf
  have hl : lv_has ls 3 [(0, .ref (a 0)), (1, .int v1), (2, .int v2)] := hl
  unfold X11_far at hf
  refine lv_aload_n hx hb dX11_far_0 rfl (lv_at hl 0 rfl) ?_
  refine g_get (Cn := RX11) (T := TX11) (N := 8) (v := .ref (a 5)) (own := RX11) hx hb hown hts hK X_O rfl (fun _ hw => List.mem_cons_of_mem _ (List.mem_append_left _ (List.mem_append_left _ (List.mem_append_right _ hw)))) 0 (by decide) (List.mem_of_getElem? (i := 1) rfl) rfl rfl hP dX11_far_1 ?_
  refine lv_iload_n hx hb dX11_far_4 rfl (lv_at hl 1 rfl) ?_
  obtain ⟨q1, hq1, hf⟩ := bind_s hf
  refine g_callV (As := [.int v1]) (rest := []) hx hb hml hown hts hK hN (m_X5_has l D a C ha h 5 v1 isPar5 q1 hq1) (cwV 1 hts gX11_far_X5_has rfl rfl rfl kdX5_has ⟨Nat.le_of_ble_eq_true rfl, Nat.le_of_ble_eq_true rfl⟩) (par_O isPar5) rfl rfl hP hS hA rfl hl.1 rfl (Nat.le_of_ble_eq_true rfl) dX11_far_5 ⟨Nat.le_refl _, Nat.le_refl _⟩ (fun H locs hP hS => ?_)
  refine W.eq (g2 := F0 m 8 ls [.int q1]) rfl ?_
  refine lv_if_eq (tgt := 37) hx hb dX11_far_8 (by decide) (fun c2 => ?_) (fun c2 => ?_)
  · have hf := if_t hf c2
    refine lv_iconst (v := (-1)) hx hb dX11_far_37 (by decide) ?_
    exact g_iret hx hb hr hlk hP hS (ret1 hf) dX11_far_38
  · have hf := if_f hf c2
    refine lv_aload_n hx hb dX11_far_11 rfl (lv_at hl 0 rfl) ?_
    refine g_get (Cn := RX11) (T := TX11) (N := 8) (v := .ref (a 5)) (own := RX11) hx hb hown hts hK X_O rfl (fun _ hw => List.mem_cons_of_mem _ (List.mem_append_left _ (List.mem_append_left _ (List.mem_append_right _ hw)))) 0 (by decide) (List.mem_of_getElem? (i := 1) rfl) rfl rfl hP dX11_far_12 ?_
    refine lv_iload_n hx hb dX11_far_15 rfl (lv_at hl 2 rfl) ?_
    obtain ⟨q3, hq3, hf⟩ := bind_s hf
    refine g_callV (As := [.int v2]) (rest := []) hx hb hml hown hts hK hN (m_X5_has l D a C ha h 5 v2 isPar5 q3 hq3) (cwV 1 hts gX11_far_X5_has rfl rfl rfl kdX5_has ⟨Nat.le_of_ble_eq_true rfl, Nat.le_of_ble_eq_true rfl⟩) (par_O isPar5) rfl rfl hP hS hA rfl hl.1 rfl (Nat.le_of_ble_eq_true rfl) dX11_far_16 ⟨Nat.le_refl _, Nat.le_refl _⟩ (fun H locs hP hS => ?_)
    refine W.eq (g2 := F0 m 19 ls [.int q3]) rfl ?_
    refine lv_if_eq (tgt := 37) hx hb dX11_far_19 (by decide) (fun c4 => ?_) (fun c4 => ?_)
    · have hf := if_t hf c4
      refine lv_iconst (v := (-1)) hx hb dX11_far_37 (by decide) ?_
      exact g_iret hx hb hr hlk hP hS (ret1 hf) dX11_far_38
    · have hf := if_f hf c4
      refine lv_aload_n hx hb dX11_far_22 rfl (lv_at hl 0 rfl) ?_
      refine g_get (Cn := RX11) (T := TX11) (N := 8) (v := .ref (a 5)) (own := RX11) hx hb hown hts hK X_O rfl (fun _ hw => List.mem_cons_of_mem _ (List.mem_append_left _ (List.mem_append_left _ (List.mem_append_right _ hw)))) 0 (by decide) (List.mem_of_getElem? (i := 1) rfl) rfl rfl hP dX11_far_23 ?_
      refine g_getN (Cn := RX5) (T := TX5) (N := 7) (v := .ref (a 6)) (own := RX11) hx hb hown hts hK hN (par_O isPar5) rfl (fun _ hw => List.mem_cons_of_mem _ (List.mem_append_left _ (List.mem_append_right _ hw))) 0 (by decide) (List.mem_of_getElem? (i := 6) rfl) rfl rfl hP dX11_far_26 ?_
      refine lv_iload_n hx hb dX11_far_29 rfl (lv_at hl 1 rfl) ?_
      refine lv_iload_n hx hb dX11_far_30 rfl (lv_at hl 2 rfl) ?_
      obtain ⟨q5, hq5, hf⟩ := bind_s hf
      refine g_callV (As := [.int v1, .int v2]) (rest := []) hx hb hml hown hts hK hN (m_X4_way l D a C ha h 6 v1 v2 (par_lin isPar5) q5 hq5) (cwV 2 hts gX11_far_X4_way rfl rfl rfl kdX4_way ⟨Nat.le_of_ble_eq_true rfl, Nat.le_of_ble_eq_true rfl⟩) (lin_O (par_lin isPar5)) rfl rfl hP hS hA rfl hl.1 rfl (Nat.le_of_ble_eq_true rfl) dX11_far_31 ⟨Nat.le_refl _, Nat.le_refl _⟩ (fun H locs hP hS => ?_)
      refine W.eq (g2 := F0 m 34 ls [.int q5]) rfl ?_
      refine lv_goto (tgt := 38) hx hb dX11_far_34 (by decide) ?_
      exact g_iret hx hb hr hlk hP hS (ret1 hf) dX11_far_38

def X11_wide (h : HS) (v1 : Int32) : Option (Int32 × HS) :=
    (if v1 = 0 then
    (X4_widest h 6).bind fun q2 =>
    some (q2, h)
    else
    (if v1 = 1 then
    (X4_parts h 6).bind fun q4 =>
    some (q4, h)
    else
    (if v1 = 2 then
    (X4_bridges h 6).bind fun q6 =>
    some (q6.1, q6.2)
    else
    some ((-1), h))))
def rmX11_wide : Room := { frames := 4, cells := 0, slots := 0, locals := 93 }
theorem kdX11_wide : yX11_wide.cls = RX11 ∧ yX11_wide.cls ≠ "java/lang/invoke/MethodHandle" ∧ yX11_wide.cls ≠ "java/lang/invoke/VarHandle" ∧ (parseMethodDescriptor yX11_wide.desc).map (fun d => d.parameters.length) = some 1 := by decide +kernel
set_option maxHeartbeats 4000000 in
set_option maxRecDepth 100000 in
theorem m_X11_wide (l : Launch) (D : va_G) (a : Nat → Nat) (C : Nat → ClassId) (ha : ginj a) (h : HS) (v1 : Int32)  (r : Int32) (h' : HS) (hf : X11_wide h v1 = some (r, h')) : gM l yX11_wide wsX11_wide rmX11_wide D a C [.ref (a 0), .int v1] h (some (.int r)) h' := by
  refine g_start (av := [.ref (a 0), .int v1]) (cc := cX11_wide) (maxL := 2) (rt := (some .int)) (by decide) rfl (Nat.le_of_ble_eq_true rfl) ?_
  intro p e s m below meth c hx hb hr hml hown hlk hts hP hK hN ls hl
  have hA : ∀ q, gA a q → gA a q := fun _ q => q
  have hS : va_S (gA a) s.heap s.heap [] := va_S.rf
  have hl : lv_has ls 2 [(0, .ref (a 0)), (1, .int v1)] := hl
  unfold X11_wide at hf
  refine lv_iload_n hx hb dX11_wide_0 rfl (lv_at hl 1 rfl) ?_
  by_cases c1 : v1 = 0
  · have hf := if_t hf c1
    refine lv_tableIn (tgt := 28) hx hb dX11_wide_1 (by rw [c1]; decide) (by rw [c1]; decide) (by rw [c1]; rfl) (by decide) ?_
    refine lv_aload_n hx hb dX11_wide_28 rfl (lv_at hl 0 rfl) ?_
    refine g_get (Cn := RX11) (T := TX11) (N := 8) (v := .ref (a 5)) (own := RX11) hx hb hown hts hK X_O rfl (fun _ hw => List.mem_cons_of_mem _ (List.mem_append_left _ (List.mem_append_left _ (List.mem_append_right _ hw)))) 0 (by decide) (List.mem_of_getElem? (i := 1) rfl) rfl rfl hP dX11_wide_29 ?_
    refine g_getN (Cn := RX5) (T := TX5) (N := 7) (v := .ref (a 6)) (own := RX11) hx hb hown hts hK hN (par_O isPar5) rfl (fun _ hw => List.mem_cons_of_mem _ (List.mem_append_left _ (List.mem_append_right _ hw))) 0 (by decide) (List.mem_of_getElem? (i := 6) rfl) rfl rfl hP dX11_wide_32 ?_
    obtain ⟨q2, hq2, hf⟩ := bind_s hf
    refine g_callV (As := []) (rest := []) hx hb hml hown hts hK hN (m_X4_widest l D a C ha h 6 (par_lin isPar5) q2 hq2) (cwV 0 hts gX11_wide_X4_widest rfl rfl rfl kdX4_widest ⟨Nat.le_of_ble_eq_true rfl, Nat.le_of_ble_eq_true rfl⟩) (lin_O (par_lin isPar5)) rfl rfl hP hS hA rfl hl.1 rfl (Nat.le_of_ble_eq_true rfl) dX11_wide_35 ⟨Nat.le_refl _, Nat.le_refl _⟩ (fun H locs hP hS => ?_)
    refine W.eq (g2 := F0 m 38 ls [.int q2]) rfl ?_
    exact g_iretW hx hb hr hlk hP hS (ret2 hf) dX11_wide_38
  have hf := if_f hf c1
  by_cases c3 : v1 = 1
  · have hf := if_t hf c3
    refine lv_tableIn (tgt := 39) hx hb dX11_wide_1 (by rw [c3]; decide) (by rw [c3]; decide) (by rw [c3]; rfl) (by decide) ?_
    refine lv_aload_n hx hb dX11_wide_39 rfl (lv_at hl 0 rfl) ?_
    refine g_get (Cn := RX11) (T := TX11) (N := 8) (v := .ref (a 5)) (own := RX11) hx hb hown hts hK X_O rfl (fun _ hw => List.mem_cons_of_mem _ (List.mem_append_left _ (List.mem_append_left _ (List.mem_append_right _ hw)))) 0 (by decide) (List.mem_of_getElem? (i := 1) rfl) rfl rfl hP dX11_wide_40 ?_
    refine g_getN (Cn := RX5) (T := TX5) (N := 7) (v := .ref (a 6)) (own := RX11) hx hb hown hts hK hN (par_O isPar5) rfl (fun _ hw => List.mem_cons_of_mem _ (List.mem_append_left _ (List.mem_append_right _ hw))) 0 (by decide) (List.mem_of_getElem? (i := 6) rfl) rfl rfl hP dX11_wide_43 ?_
    obtain ⟨q4, hq4, hf⟩ := bind_s hf
    refine g_callV (As := []) (rest := []) hx hb hml hown hts hK hN (m_X4_parts l D a C ha h 6 (par_lin isPar5) q4 hq4) (cwV 0 hts gX11_wide_X4_parts rfl rfl rfl kdX4_parts ⟨Nat.le_of_ble_eq_true rfl, Nat.le_of_ble_eq_true rfl⟩) (lin_O (par_lin isPar5)) rfl rfl hP hS hA rfl hl.1 rfl (Nat.le_of_ble_eq_true rfl) dX11_wide_46 ⟨Nat.le_refl _, Nat.le_refl _⟩ (fun H locs hP hS => ?_)
    refine W.eq (g2 := F0 m 49 ls [.int q4]) rfl ?_
    exact g_iretW hx hb hr hlk hP hS (ret2 hf) dX11_wide_49
  have hf := if_f hf c3
  by_cases c5 : v1 = 2
  · have hf := if_t hf c5
    refine lv_tableIn (tgt := 50) hx hb dX11_wide_1 (by rw [c5]; decide) (by rw [c5]; decide) (by rw [c5]; rfl) (by decide) ?_
    refine lv_aload_n hx hb dX11_wide_50 rfl (lv_at hl 0 rfl) ?_
    refine g_get (Cn := RX11) (T := TX11) (N := 8) (v := .ref (a 5)) (own := RX11) hx hb hown hts hK X_O rfl (fun _ hw => List.mem_cons_of_mem _ (List.mem_append_left _ (List.mem_append_left _ (List.mem_append_right _ hw)))) 0 (by decide) (List.mem_of_getElem? (i := 1) rfl) rfl rfl hP dX11_wide_51 ?_
    refine g_getN (Cn := RX5) (T := TX5) (N := 7) (v := .ref (a 6)) (own := RX11) hx hb hown hts hK hN (par_O isPar5) rfl (fun _ hw => List.mem_cons_of_mem _ (List.mem_append_left _ (List.mem_append_right _ hw))) 0 (by decide) (List.mem_of_getElem? (i := 6) rfl) rfl rfl hP dX11_wide_54 ?_
    obtain ⟨q6, hq6, hf⟩ := bind_s hf
    refine g_callV (As := []) (rest := []) hx hb hml hown hts hK hN (m_X4_bridges l D a C ha h 6 (par_lin isPar5) q6.1 q6.2 hq6) (cwV 0 hts gX11_wide_X4_bridges rfl rfl rfl kdX4_bridges ⟨Nat.le_of_ble_eq_true rfl, Nat.le_of_ble_eq_true rfl⟩) (lin_O (par_lin isPar5)) rfl rfl hP hS hA rfl hl.1 rfl (Nat.le_of_ble_eq_true rfl) dX11_wide_57 ⟨Nat.le_refl _, Nat.le_refl _⟩ (fun H locs hP hS => ?_)
    refine W.eq (g2 := F0 m 60 ls [.int q6.1]) rfl ?_
    exact g_iretW hx hb hr hlk hP hS (ret2 hf) dX11_wide_60
  have hf := if_f hf c5
  refine lv_tableOut (tgt := 61) hx hb dX11_wide_1 (by have n0 := ti_nz (z := 0) (by decide) c1; have n1 := ti_nz (z := 1) (by decide) c3; have n2 := ti_nz (z := 2) (by decide) c5; omega) (by decide) ?_
  refine lv_iconst (v := (-1)) hx hb dX11_wide_61 (by decide) ?_
  exact g_iretW hx hb hr hlk hP hS (ret2 hf) dX11_wide_62

def X11_stamps_B115 (h : HS) (v1 : Int32) (v2 : Int32) (v3 : Int32) (k40 : Int32 → Int32 → Int32 → Option Int32) (v4 : Int32) (v5 : Int32) (v6 : Int32) : Option Int32 :=
    nm (v6 + 1) fun x16 =>
    k40 v4 v5 x16
def X11_stamps_B40 (h : HS) (v1 : Int32) (v2 : Int32) (v3 : Int32) : Nat → Int32 → Int32 → Int32 → Option Int32
  | 0, _, _, _ => none
  | fu + 1, v4, v5, v6 =>
    (X5_people h 5).bind fun q7 =>
    (if ((1 : Int32) <<< (q7 &&& 31)) ≤ v6 then
    (if v3 = 0 then
    some v4
    else
    some v5)
    else
    (J6_bitCount_0f7a4 v6).bind fun q10 =>
    (if q10 = v1 then
    (if (v6 &&& (fI h 5 5)) = 0 then
    (X5_behind h 5 ((fI h 5 4) ||| v6) v2 0).bind fun q13 =>
    (J6_bitCount_0f7a4 q13).bind fun q14 =>
    (if q14 ≤ v5 then
    X11_stamps_B115 h v1 v2 v3 (X11_stamps_B40 h v1 v2 v3 fu) v4 v5 v6
    else
    X11_stamps_B115 h v1 v2 v3 (X11_stamps_B40 h v1 v2 v3 fu) v6 q14 v6)
    else
    X11_stamps_B115 h v1 v2 v3 (X11_stamps_B40 h v1 v2 v3 fu) v4 v5 v6)
    else
    X11_stamps_B115 h v1 v2 v3 (X11_stamps_B40 h v1 v2 v3 fu) v4 v5 v6))
def X11_stamps (h : HS) (v1 : Int32) (v2 : Int32) (v3 : Int32) : Option Int32 :=
    (if v1 < 1 then
    some (-1)
    else
    (if 4 < v1 then
    some (-1)
    else
    (if v2 < 0 then
    some (-1)
    else
    (if 30 < v2 then
    some (-1)
    else
    (if v3 < 0 then
    some (-1)
    else
    (if v3 ≤ 1 then
    X11_stamps_B40 h v1 v2 v3 FU 0 0 1
    else
    some (-1)))))))
def rmX11_stamps : Room := { frames := 6, cells := 0, slots := 0, locals := 145 }
theorem kdX11_stamps : yX11_stamps.cls = RX11 ∧ yX11_stamps.cls ≠ "java/lang/invoke/MethodHandle" ∧ yX11_stamps.cls ≠ "java/lang/invoke/VarHandle" ∧ (parseMethodDescriptor yX11_stamps.desc).map (fun d => d.parameters.length) = some 3 := by decide +kernel
set_option maxHeartbeats 4000000 in
set_option maxRecDepth 100000 in
theorem m_X11_stamps (l : Launch) (D : va_G) (a : Nat → Nat) (C : Nat → ClassId) (ha : ginj a) (h : HS) (v1 : Int32) (v2 : Int32) (v3 : Int32)  (r : Int32) (hf : X11_stamps h v1 v2 v3 = some r) : gM l yX11_stamps wsX11_stamps rmX11_stamps D a C [.ref (a 0), .int v1, .int v2, .int v3] h (some (.int r)) h := by
  refine g_start (av := [.ref (a 0), .int v1, .int v2, .int v3]) (cc := cX11_stamps) (maxL := 8) (rt := (some .int)) (by decide) rfl (Nat.le_of_ble_eq_true rfl) ?_
  intro p e s m below meth c hx hb hr hml hown hlk hts hP hK hN ls hl
  have hA : ∀ q, gA a q → gA a q := fun _ q => q
  have hS : va_S (gA a) s.heap s.heap [] := va_S.rf
  have hl : lv_has ls 8 [(0, .ref (a 0)), (1, .int v1), (2, .int v2), (3, .int v3)] := hl
  have J115 : ∀ (k40 : Int32 → Int32 → Int32 → Option Int32) (hk40 : ∀ (v4 : Int32) (v5 : Int32) (v6 : Int32), k40 v4 v5 v6 = some r → gG p l e (headSpec wsX11_stamps rmX11_stamps).room s m ([.ref (a 0), .int v1, .int v2, .int v3] : List Value).toArray below meth c (MQ below (gQ (some (.int r)) D a C h) ([.ref (a 0), .int v1, .int v2, .int v3] : List Value).toArray s 0 0 (gA a)) D a C 8 h 40 [(0, .ref (a 0)), (1, .int v1), (2, .int v2), (3, .int v3), (4, .int v4), (5, .int v5), (6, .int v6)] []) (v4 : Int32) (v5 : Int32) (v6 : Int32) (_ : X11_stamps_B115 h v1 v2 v3 k40 v4 v5 v6 = some r), gG p l e (headSpec wsX11_stamps rmX11_stamps).room s m ([.ref (a 0), .int v1, .int v2, .int v3] : List Value).toArray below meth c (MQ below (gQ (some (.int r)) D a C h) ([.ref (a 0), .int v1, .int v2, .int v3] : List Value).toArray s 0 0 (gA a)) D a C 8 h 115 [(0, .ref (a 0)), (1, .int v1), (2, .int v2), (3, .int v3), (4, .int v4), (5, .int v5), (6, .int v6)] [] := by
    intro k40 hk40 v4 v5 v6 hf H locs ls hP hS hl
    unfold X11_stamps_B115 at hf
    obtain ⟨x16, ex16⟩ : ∃ y : Int32, y = (v6 + 1) := ⟨_, rfl⟩
    have hf := nm_s hf ex16
    refine lv_iinc (v := x16) (lv' := [(6, .int x16), (0, .ref (a 0)), (1, .int v1), (2, .int v2), (3, .int v3), (4, .int v4), (5, .int v5)]) hx hb dX11_stamps_115 hl (k := 6) rfl (by rw [ex16]; rfl) (by decide) rfl (fun ls hl => ?_)
    refine lv_goto (tgt := 40) hx hb dX11_stamps_118 (by decide) ?_
    exact hk40 v4 v5 x16 hf H locs ls hP hS (lv_sub hl [1, 2, 3, 4, 5, 6, 0] rfl)
  have J40 : ∀ (fu : Nat) (v4 : Int32) (v5 : Int32) (v6 : Int32), X11_stamps_B40 h v1 v2 v3 fu v4 v5 v6 = some r → gG p l e (headSpec wsX11_stamps rmX11_stamps).room s m ([.ref (a 0), .int v1, .int v2, .int v3] : List Value).toArray below meth c (MQ below (gQ (some (.int r)) D a C h) ([.ref (a 0), .int v1, .int v2, .int v3] : List Value).toArray s 0 0 (gA a)) D a C 8 h 40 [(0, .ref (a 0)), (1, .int v1), (2, .int v2), (3, .int v3), (4, .int v4), (5, .int v5), (6, .int v6)] [] := by
    intro fu
    induction fu with
    | zero => intro v4 v5 v6 hf; exact absurd hf (by simp [X11_stamps_B40])
    | succ fu ih =>
      intro v4 v5 v6 hf H locs ls hP hS hl
      rw [X11_stamps_B40] at hf
      refine lv_iload hx hb dX11_stamps_40 (lv_at hl 6 rfl) ?_
      refine lv_iconst (v := 1) hx hb dX11_stamps_42 (by decide) ?_
      refine lv_aload_n hx hb dX11_stamps_43 rfl (lv_at hl 0 rfl) ?_
      refine g_get (Cn := RX11) (T := TX11) (N := 8) (v := .ref (a 5)) (own := RX11) hx hb hown hts hK X_O rfl (fun _ hw => List.mem_cons_of_mem _ (List.mem_append_left _ (List.mem_append_left _ (List.mem_append_right _ hw)))) 0 (by decide) (List.mem_of_getElem? (i := 1) rfl) rfl rfl hP dX11_stamps_44 ?_
      obtain ⟨q7, hq7, hf⟩ := bind_s hf
      refine g_callV (As := []) (rest := [.int 1, .int v6]) hx hb hml hown hts hK hN (m_X5_people l D a C ha h 5 isPar5 q7 hq7) (cwV 0 hts gX11_stamps_X5_people rfl rfl rfl kdX5_people ⟨Nat.le_of_ble_eq_true rfl, Nat.le_of_ble_eq_true rfl⟩) (par_O isPar5) rfl rfl hP hS hA rfl hl.1 rfl (Nat.le_of_ble_eq_true rfl) dX11_stamps_47 ⟨Nat.le_refl _, Nat.le_refl _⟩ (fun H locs hP hS => ?_)
      refine W.eq (g2 := F0 m 50 ls [.int q7, .int 1, .int v6]) rfl ?_
      refine lv_ishl hx hb dX11_stamps_50 ?_
      refine lv_icmp_ge (tgt := 121) hx hb dX11_stamps_51 (by decide) (fun c8 => ?_) (fun c8 => ?_)
      · have hf := if_t hf c8
        refine lv_iload_n hx hb dX11_stamps_121 rfl (lv_at hl 3 rfl) ?_
        refine lv_if_ne (tgt := 130) hx hb dX11_stamps_122 (by decide) (fun c9 => ?_) (fun c9 => ?_)
        · have hf := if_f hf c9
          refine lv_iload hx hb dX11_stamps_130 (lv_at hl 5 rfl) ?_
          exact g_iret hx hb hr hlk hP hS (ret1 hf) dX11_stamps_132
        · have hf := if_t hf c9
          refine lv_iload hx hb dX11_stamps_125 (lv_at hl 4 rfl) ?_
          refine lv_goto (tgt := 132) hx hb dX11_stamps_127 (by decide) ?_
          exact g_iret hx hb hr hlk hP hS (ret1 hf) dX11_stamps_132
      · have hf := if_f hf c8
        refine lv_iload hx hb dX11_stamps_54 (lv_at hl 6 rfl) ?_
        obtain ⟨q10, hq10, hf⟩ := bind_s hf
        refine g_callS (As := [.int v6]) (rest := []) hx hb hml hown hts hK hN (m_J6_bitCount_0f7a4 l D a C ha h v6  q10 hq10) (va_cwS 1 hts gX11_stamps_J6_bitCount_0f7a4 rfl rfl rfl kdJ6_bitCount_0f7a4.2 ⟨Nat.le_of_ble_eq_true rfl, Nat.le_of_ble_eq_true rfl⟩) hP hS hA rfl hl.1 rfl (Nat.le_of_ble_eq_true rfl) dX11_stamps_56 ⟨Nat.le_refl _, Nat.le_refl _⟩ (fun H locs hP hS => ?_)
        refine W.eq (g2 := F0 m 59 ls [.int q10]) rfl ?_
        refine lv_iload_n hx hb dX11_stamps_59 rfl (lv_at hl 1 rfl) ?_
        refine lv_icmp_ne (tgt := 115) hx hb dX11_stamps_60 (by decide) (fun c11 => ?_) (fun c11 => ?_)
        · have hf := if_f hf c11
          exact J115 (X11_stamps_B40 h v1 v2 v3 fu) ih v4 v5 v6 hf H locs ls hP hS (lv_sub hl [0, 1, 2, 3, 4, 5, 6] rfl)
        · have hf := if_t hf c11
          refine lv_iload hx hb dX11_stamps_63 (lv_at hl 6 rfl) ?_
          refine lv_aload_n hx hb dX11_stamps_65 rfl (lv_at hl 0 rfl) ?_
          refine g_get (Cn := RX11) (T := TX11) (N := 8) (v := .ref (a 5)) (own := RX11) hx hb hown hts hK X_O rfl (fun _ hw => List.mem_cons_of_mem _ (List.mem_append_left _ (List.mem_append_left _ (List.mem_append_right _ hw)))) 0 (by decide) (List.mem_of_getElem? (i := 1) rfl) rfl rfl hP dX11_stamps_66 ?_
          refine g_getN (Cn := RX5) (T := TX5) (N := 7) (v := .int (fI h 5 5)) (own := RX11) hx hb hown hts hK hN (par_O isPar5) rfl (fun _ hw => List.mem_cons_of_mem _ (List.mem_append_left _ (List.mem_append_right _ hw))) 5 (by decide) (List.mem_of_getElem? (i := 3) rfl) rfl rfl hP dX11_stamps_69 ?_
          refine lv_iand hx hb dX11_stamps_72 ?_
          refine lv_if_ne (tgt := 115) hx hb dX11_stamps_73 (by decide) (fun c12 => ?_) (fun c12 => ?_)
          · have hf := if_f hf c12
            exact J115 (X11_stamps_B40 h v1 v2 v3 fu) ih v4 v5 v6 hf H locs ls hP hS (lv_sub hl [0, 1, 2, 3, 4, 5, 6] rfl)
          · have hf := if_t hf c12
            refine lv_aload_n hx hb dX11_stamps_76 rfl (lv_at hl 0 rfl) ?_
            refine g_get (Cn := RX11) (T := TX11) (N := 8) (v := .ref (a 5)) (own := RX11) hx hb hown hts hK X_O rfl (fun _ hw => List.mem_cons_of_mem _ (List.mem_append_left _ (List.mem_append_left _ (List.mem_append_right _ hw)))) 0 (by decide) (List.mem_of_getElem? (i := 1) rfl) rfl rfl hP dX11_stamps_77 ?_
            refine lv_aload_n hx hb dX11_stamps_80 rfl (lv_at hl 0 rfl) ?_
            refine g_get (Cn := RX11) (T := TX11) (N := 8) (v := .ref (a 5)) (own := RX11) hx hb hown hts hK X_O rfl (fun _ hw => List.mem_cons_of_mem _ (List.mem_append_left _ (List.mem_append_left _ (List.mem_append_right _ hw)))) 0 (by decide) (List.mem_of_getElem? (i := 1) rfl) rfl rfl hP dX11_stamps_81 ?_
            refine g_getN (Cn := RX5) (T := TX5) (N := 7) (v := .int (fI h 5 4)) (own := RX11) hx hb hown hts hK hN (par_O isPar5) rfl (fun _ hw => List.mem_cons_of_mem _ (List.mem_append_left _ (List.mem_append_right _ hw))) 4 (by decide) (List.mem_of_getElem? (i := 7) rfl) rfl rfl hP dX11_stamps_84 ?_
            refine lv_iload hx hb dX11_stamps_87 (lv_at hl 6 rfl) ?_
            refine lv_ior hx hb dX11_stamps_89 ?_
            refine lv_iload_n hx hb dX11_stamps_90 rfl (lv_at hl 2 rfl) ?_
            refine lv_iconst (v := 0) hx hb dX11_stamps_91 (by decide) ?_
            obtain ⟨q13, hq13, hf⟩ := bind_s hf
            refine g_callV (As := [.int ((fI h 5 4) ||| v6), .int v2, .int 0]) (rest := []) hx hb hml hown hts hK hN (m_X5_behind l D a C ha h 5 ((fI h 5 4) ||| v6) v2 0 isPar5 q13 hq13) (cwV 3 hts gX11_stamps_X5_behind rfl rfl rfl kdX5_behind ⟨Nat.le_of_ble_eq_true rfl, Nat.le_of_ble_eq_true rfl⟩) (par_O isPar5) rfl rfl hP hS hA rfl hl.1 rfl (Nat.le_of_ble_eq_true rfl) dX11_stamps_92 ⟨Nat.le_refl _, Nat.le_refl _⟩ (fun H locs hP hS => ?_)
            refine W.eq (g2 := F0 m 95 ls [.int q13]) rfl ?_
            obtain ⟨q14, hq14, hf⟩ := bind_s hf
            refine g_callS (As := [.int q13]) (rest := []) hx hb hml hown hts hK hN (m_J6_bitCount_0f7a4 l D a C ha h q13  q14 hq14) (va_cwS 1 hts gX11_stamps_J6_bitCount_0f7a4 rfl rfl rfl kdJ6_bitCount_0f7a4.2 ⟨Nat.le_of_ble_eq_true rfl, Nat.le_of_ble_eq_true rfl⟩) hP hS hA rfl hl.1 rfl (Nat.le_of_ble_eq_true rfl) dX11_stamps_95 ⟨Nat.le_refl _, Nat.le_refl _⟩ (fun H locs hP hS => ?_)
            refine W.eq (g2 := F0 m 98 ls [.int q14]) rfl ?_
            refine lv_istore (lv' := [(7, .int q14), (0, .ref (a 0)), (1, .int v1), (2, .int v2), (3, .int v3), (4, .int v4), (5, .int v5), (6, .int v6)]) hx hb dX11_stamps_98 hl (by decide) rfl (fun ls hl => ?_)
            refine lv_iload hx hb dX11_stamps_100 (lv_at hl 0 rfl) ?_
            refine lv_iload hx hb dX11_stamps_102 (lv_at hl 6 rfl) ?_
            refine lv_icmp_le (tgt := 115) hx hb dX11_stamps_104 (by decide) (fun c15 => ?_) (fun c15 => ?_)
            · have hf := if_t hf c15
              exact J115 (X11_stamps_B40 h v1 v2 v3 fu) ih v4 v5 v6 hf H locs ls hP hS (lv_sub hl [1, 2, 3, 4, 5, 6, 7] rfl)
            · have hf := if_f hf c15
              refine lv_iload hx hb dX11_stamps_107 (lv_at hl 7 rfl) ?_
              refine lv_istore (lv' := [(4, .int v6), (7, .int q14), (0, .ref (a 0)), (1, .int v1), (2, .int v2), (3, .int v3), (5, .int v5), (6, .int v6)]) hx hb dX11_stamps_109 hl (by decide) rfl (fun ls hl => ?_)
              refine lv_iload hx hb dX11_stamps_111 (lv_at hl 1 rfl) ?_
              refine lv_istore (lv' := [(5, .int q14), (4, .int v6), (7, .int q14), (0, .ref (a 0)), (1, .int v1), (2, .int v2), (3, .int v3), (6, .int v6)]) hx hb dX11_stamps_113 hl (by decide) rfl (fun ls hl => ?_)
              exact J115 (X11_stamps_B40 h v1 v2 v3 fu) ih v6 q14 v6 hf H locs ls hP hS (lv_sub hl [3, 4, 5, 6, 1, 0, 7] rfl)
  unfold X11_stamps at hf
  suffices hh : ∀ (H : Heap) (locs : List Loc), va_P D vwCl (gw a C h) H → va_S (gA a) s.heap H locs → W p l e (headSpec wsX11_stamps rmX11_stamps).room s m ([.ref (a 0), .int v1, .int v2, .int v3] : List Value).toArray below meth c H locs 0 0 (MQ below (gQ (some (.int r)) D a C h) ([.ref (a 0), .int v1, .int v2, .int v3] : List Value).toArray s 0 0 (gA a)) (F0 m 0 ls []) from hh _ _ hP hS
  intro H locs hP hS
  refine lv_iload_n hx hb dX11_stamps_0 rfl (lv_at hl 1 rfl) ?_
  refine lv_iconst (v := 1) hx hb dX11_stamps_1 (by decide) ?_
  refine lv_icmp_lt (tgt := 29) hx hb dX11_stamps_2 (by decide) (fun c1 => ?_) (fun c1 => ?_)
  · have hf := if_t hf c1
    refine lv_iconst (v := (-1)) hx hb dX11_stamps_29 (by decide) ?_
    exact g_iret hx hb hr hlk hP hS (ret1 hf) dX11_stamps_30
  · have hf := if_f hf c1
    refine lv_iload_n hx hb dX11_stamps_5 rfl (lv_at hl 1 rfl) ?_
    refine lv_iconst (v := 4) hx hb dX11_stamps_6 (by decide) ?_
    refine lv_icmp_gt (tgt := 29) hx hb dX11_stamps_7 (by decide) (fun c2 => ?_) (fun c2 => ?_)
    · have hf := if_t hf c2
      refine lv_iconst (v := (-1)) hx hb dX11_stamps_29 (by decide) ?_
      exact g_iret hx hb hr hlk hP hS (ret1 hf) dX11_stamps_30
    · have hf := if_f hf c2
      refine lv_iload_n hx hb dX11_stamps_10 rfl (lv_at hl 2 rfl) ?_
      refine lv_if_lt (tgt := 29) hx hb dX11_stamps_11 (by decide) (fun c3 => ?_) (fun c3 => ?_)
      · have hf := if_t hf c3
        refine lv_iconst (v := (-1)) hx hb dX11_stamps_29 (by decide) ?_
        exact g_iret hx hb hr hlk hP hS (ret1 hf) dX11_stamps_30
      · have hf := if_f hf c3
        refine lv_iload_n hx hb dX11_stamps_14 rfl (lv_at hl 2 rfl) ?_
        refine lv_bipush (v := 30) hx hb dX11_stamps_15 (by decide) ?_
        refine lv_icmp_gt (tgt := 29) hx hb dX11_stamps_17 (by decide) (fun c4 => ?_) (fun c4 => ?_)
        · have hf := if_t hf c4
          refine lv_iconst (v := (-1)) hx hb dX11_stamps_29 (by decide) ?_
          exact g_iret hx hb hr hlk hP hS (ret1 hf) dX11_stamps_30
        · have hf := if_f hf c4
          refine lv_iload_n hx hb dX11_stamps_20 rfl (lv_at hl 3 rfl) ?_
          refine lv_if_lt (tgt := 29) hx hb dX11_stamps_21 (by decide) (fun c5 => ?_) (fun c5 => ?_)
          · have hf := if_t hf c5
            refine lv_iconst (v := (-1)) hx hb dX11_stamps_29 (by decide) ?_
            exact g_iret hx hb hr hlk hP hS (ret1 hf) dX11_stamps_30
          · have hf := if_f hf c5
            refine lv_iload_n hx hb dX11_stamps_24 rfl (lv_at hl 3 rfl) ?_
            refine lv_iconst (v := 1) hx hb dX11_stamps_25 (by decide) ?_
            refine lv_icmp_le (tgt := 31) hx hb dX11_stamps_26 (by decide) (fun c6 => ?_) (fun c6 => ?_)
            · have hf := if_t hf c6
              refine lv_iconst (v := 0) hx hb dX11_stamps_31 (by decide) ?_
              refine lv_istore (lv' := [(4, .int 0), (0, .ref (a 0)), (1, .int v1), (2, .int v2), (3, .int v3)]) hx hb dX11_stamps_32 hl (by decide) rfl (fun ls hl => ?_)
              refine lv_iconst (v := 0) hx hb dX11_stamps_34 (by decide) ?_
              refine lv_istore (lv' := [(5, .int 0), (4, .int 0), (0, .ref (a 0)), (1, .int v1), (2, .int v2), (3, .int v3)]) hx hb dX11_stamps_35 hl (by decide) rfl (fun ls hl => ?_)
              refine lv_iconst (v := 1) hx hb dX11_stamps_37 (by decide) ?_
              refine lv_istore (lv' := [(6, .int 1), (5, .int 0), (4, .int 0), (0, .ref (a 0)), (1, .int v1), (2, .int v2), (3, .int v3)]) hx hb dX11_stamps_38 hl (by decide) rfl (fun ls hl => ?_)
              exact J40 FU 0 0 1 hf H locs ls hP hS (lv_sub hl [3, 4, 5, 6, 2, 1, 0] rfl)
            · have hf := if_f hf c6
              refine lv_iconst (v := (-1)) hx hb dX11_stamps_29 (by decide) ?_
              exact g_iret hx hb hr hlk hP hS (ret1 hf) dX11_stamps_30

def X11_then (h : HS) (v1 : Int32) : Option Int32 :=
    (if v1 < 0 then
    some (-1)
    else
    (if v1 ≤ 60 then
    (X5_behind h 5 (fI h 5 4) v1 0).bind fun q3 =>
    some q3
    else
    some (-1)))
def rmX11_then : Room := { frames := 6, cells := 0, slots := 0, locals := 145 }
theorem kdX11_then : yX11_then.cls = RX11 ∧ yX11_then.cls ≠ "java/lang/invoke/MethodHandle" ∧ yX11_then.cls ≠ "java/lang/invoke/VarHandle" ∧ (parseMethodDescriptor yX11_then.desc).map (fun d => d.parameters.length) = some 1 := by decide +kernel
set_option maxHeartbeats 4000000 in
set_option maxRecDepth 100000 in
theorem m_X11_then (l : Launch) (D : va_G) (a : Nat → Nat) (C : Nat → ClassId) (ha : ginj a) (h : HS) (v1 : Int32)  (r : Int32) (hf : X11_then h v1 = some r) : gM l yX11_then wsX11_then rmX11_then D a C [.ref (a 0), .int v1] h (some (.int r)) h := by
  refine g_start (av := [.ref (a 0), .int v1]) (cc := cX11_then) (maxL := 2) (rt := (some .int)) (by decide) rfl (Nat.le_of_ble_eq_true rfl) ?_
  intro p e s m below meth c hx hb hr hml hown hlk hts hP hK hN ls hl
  have hA : ∀ q, gA a q → gA a q := fun _ q => q
  have hS : va_S (gA a) s.heap s.heap [] := va_S.rf
  have hl : lv_has ls 2 [(0, .ref (a 0)), (1, .int v1)] := hl
  unfold X11_then at hf
  refine lv_iload_n hx hb dX11_then_0 rfl (lv_at hl 1 rfl) ?_
  refine lv_if_lt (tgt := 10) hx hb dX11_then_1 (by decide) (fun c1 => ?_) (fun c1 => ?_)
  · have hf := if_t hf c1
    refine lv_iconst (v := (-1)) hx hb dX11_then_10 (by decide) ?_
    refine lv_goto (tgt := 30) hx hb dX11_then_11 (by decide) ?_
    exact g_iret hx hb hr hlk hP hS (ret1 hf) dX11_then_30
  · have hf := if_f hf c1
    refine lv_iload_n hx hb dX11_then_4 rfl (lv_at hl 1 rfl) ?_
    refine lv_bipush (v := 60) hx hb dX11_then_5 (by decide) ?_
    refine lv_icmp_le (tgt := 14) hx hb dX11_then_7 (by decide) (fun c2 => ?_) (fun c2 => ?_)
    · have hf := if_t hf c2
      refine lv_aload_n hx hb dX11_then_14 rfl (lv_at hl 0 rfl) ?_
      refine g_get (Cn := RX11) (T := TX11) (N := 8) (v := .ref (a 5)) (own := RX11) hx hb hown hts hK X_O rfl (fun _ hw => List.mem_cons_of_mem _ (List.mem_append_left _ (List.mem_append_left _ (List.mem_append_right _ hw)))) 0 (by decide) (List.mem_of_getElem? (i := 1) rfl) rfl rfl hP dX11_then_15 ?_
      refine lv_aload_n hx hb dX11_then_18 rfl (lv_at hl 0 rfl) ?_
      refine g_get (Cn := RX11) (T := TX11) (N := 8) (v := .ref (a 5)) (own := RX11) hx hb hown hts hK X_O rfl (fun _ hw => List.mem_cons_of_mem _ (List.mem_append_left _ (List.mem_append_left _ (List.mem_append_right _ hw)))) 0 (by decide) (List.mem_of_getElem? (i := 1) rfl) rfl rfl hP dX11_then_19 ?_
      refine g_getN (Cn := RX5) (T := TX5) (N := 7) (v := .int (fI h 5 4)) (own := RX11) hx hb hown hts hK hN (par_O isPar5) rfl (fun _ hw => List.mem_cons_of_mem _ (List.mem_append_left _ (List.mem_append_right _ hw))) 4 (by decide) (List.mem_of_getElem? (i := 7) rfl) rfl rfl hP dX11_then_22 ?_
      refine lv_iload_n hx hb dX11_then_25 rfl (lv_at hl 1 rfl) ?_
      refine lv_iconst (v := 0) hx hb dX11_then_26 (by decide) ?_
      obtain ⟨q3, hq3, hf⟩ := bind_s hf
      refine g_callV (As := [.int (fI h 5 4), .int v1, .int 0]) (rest := []) hx hb hml hown hts hK hN (m_X5_behind l D a C ha h 5 (fI h 5 4) v1 0 isPar5 q3 hq3) (cwV 3 hts gX11_then_X5_behind rfl rfl rfl kdX5_behind ⟨Nat.le_of_ble_eq_true rfl, Nat.le_of_ble_eq_true rfl⟩) (par_O isPar5) rfl rfl hP hS hA rfl hl.1 rfl (Nat.le_of_ble_eq_true rfl) dX11_then_27 ⟨Nat.le_refl _, Nat.le_refl _⟩ (fun H locs hP hS => ?_)
      refine W.eq (g2 := F0 m 30 ls [.int q3]) rfl ?_
      exact g_iret hx hb hr hlk hP hS (ret1 hf) dX11_then_30
    · have hf := if_f hf c2
      refine lv_iconst (v := (-1)) hx hb dX11_then_10 (by decide) ?_
      refine lv_goto (tgt := 30) hx hb dX11_then_11 (by decide) ?_
      exact g_iret hx hb hr hlk hP hS (ret1 hf) dX11_then_30

def X11_hears_B23 (h : HS) (v1 : Int32) : Nat → Int32 → Int32 → Option Int32
  | 0, _, _ => none
  | fu + 1, v2, v3 =>
    (if 60 < v3 then
    some (-4)
    else
    (if ((v2 >>> (v1 &&& 31)) &&& 1) = 0 then
    (X5_nextHeard h 5 v2 (((fI h 5 6) + v3) + 1) 0).bind fun q6 =>
    nm (v3 + 1) fun x7 =>
    (X11_hears_B23 h v1 fu) q6 x7
    else
    some v3))
def X11_hears (h : HS) (v1 : Int32) : Option Int32 :=
    (X5_has h 5 v1).bind fun q1 =>
    (if q1 = 0 then
    some (-1)
    else
    nm (fI h 5 4) fun x3 =>
    X11_hears_B23 h v1 FU x3 0)
def rmX11_hears : Room := { frames := 5, cells := 0, slots := 0, locals := 118 }
theorem kdX11_hears : yX11_hears.cls = RX11 ∧ yX11_hears.cls ≠ "java/lang/invoke/MethodHandle" ∧ yX11_hears.cls ≠ "java/lang/invoke/VarHandle" ∧ (parseMethodDescriptor yX11_hears.desc).map (fun d => d.parameters.length) = some 1 := by decide +kernel
set_option maxHeartbeats 4000000 in
set_option maxRecDepth 100000 in
theorem m_X11_hears (l : Launch) (D : va_G) (a : Nat → Nat) (C : Nat → ClassId) (ha : ginj a) (h : HS) (v1 : Int32)  (r : Int32) (hf : X11_hears h v1 = some r) : gM l yX11_hears wsX11_hears rmX11_hears D a C [.ref (a 0), .int v1] h (some (.int r)) h := by
  refine g_start (av := [.ref (a 0), .int v1]) (cc := cX11_hears) (maxL := 4) (rt := (some .int)) (by decide) rfl (Nat.le_of_ble_eq_true rfl) ?_
  intro p e s m below meth c hx hb hr hml hown hlk hts hP hK hN ls hl
  have hA : ∀ q, gA a q → gA a q := fun _ q => q
  have hS : va_S (gA a) s.heap s.heap [] := va_S.rf
  have hl : lv_has ls 4 [(0, .ref (a 0)), (1, .int v1)] := hl
  have J23 : ∀ (fu : Nat) (v2 : Int32) (v3 : Int32), X11_hears_B23 h v1 fu v2 v3 = some r → gG p l e (headSpec wsX11_hears rmX11_hears).room s m ([.ref (a 0), .int v1] : List Value).toArray below meth c (MQ below (gQ (some (.int r)) D a C h) ([.ref (a 0), .int v1] : List Value).toArray s 0 0 (gA a)) D a C 4 h 23 [(0, .ref (a 0)), (1, .int v1), (2, .int v2), (3, .int v3)] [] := by
    intro fu
    induction fu with
    | zero => intro v2 v3 hf; exact absurd hf (by simp [X11_hears_B23])
    | succ fu ih =>
      intro v2 v3 hf H locs ls hP hS hl
      rw [X11_hears_B23] at hf
      refine lv_iload_n hx hb dX11_hears_23 rfl (lv_at hl 3 rfl) ?_
      refine lv_bipush (v := 60) hx hb dX11_hears_24 (by decide) ?_
      refine lv_icmp_gt (tgt := 66) hx hb dX11_hears_26 (by decide) (fun c4 => ?_) (fun c4 => ?_)
      · have hf := if_t hf c4
        refine lv_bipush (v := (-4)) hx hb dX11_hears_66 (by decide) ?_
        exact g_iret hx hb hr hlk hP hS (ret1 hf) dX11_hears_68
      · have hf := if_f hf c4
        refine lv_iload_n hx hb dX11_hears_29 rfl (lv_at hl 2 rfl) ?_
        refine lv_iload_n hx hb dX11_hears_30 rfl (lv_at hl 1 rfl) ?_
        refine lv_ishr hx hb dX11_hears_31 ?_
        refine lv_iconst (v := 1) hx hb dX11_hears_32 (by decide) ?_
        refine lv_iand hx hb dX11_hears_33 ?_
        refine lv_if_eq (tgt := 39) hx hb dX11_hears_34 (by decide) (fun c5 => ?_) (fun c5 => ?_)
        · have hf := if_t hf c5
          refine lv_aload_n hx hb dX11_hears_39 rfl (lv_at hl 0 rfl) ?_
          refine g_get (Cn := RX11) (T := TX11) (N := 8) (v := .ref (a 5)) (own := RX11) hx hb hown hts hK X_O rfl (fun _ hw => List.mem_cons_of_mem _ (List.mem_append_left _ (List.mem_append_left _ (List.mem_append_right _ hw)))) 0 (by decide) (List.mem_of_getElem? (i := 1) rfl) rfl rfl hP dX11_hears_40 ?_
          refine lv_iload_n hx hb dX11_hears_43 rfl (lv_at hl 2 rfl) ?_
          refine lv_aload_n hx hb dX11_hears_44 rfl (lv_at hl 0 rfl) ?_
          refine g_get (Cn := RX11) (T := TX11) (N := 8) (v := .ref (a 5)) (own := RX11) hx hb hown hts hK X_O rfl (fun _ hw => List.mem_cons_of_mem _ (List.mem_append_left _ (List.mem_append_left _ (List.mem_append_right _ hw)))) 0 (by decide) (List.mem_of_getElem? (i := 1) rfl) rfl rfl hP dX11_hears_45 ?_
          refine g_getN (Cn := RX5) (T := TX5) (N := 7) (v := .int (fI h 5 6)) (own := RX11) hx hb hown hts hK hN (par_O isPar5) rfl (fun _ hw => List.mem_cons_of_mem _ (List.mem_append_left _ (List.mem_append_right _ hw))) 6 (by decide) (List.mem_of_getElem? (i := 0) rfl) rfl rfl hP dX11_hears_48 ?_
          refine lv_iload_n hx hb dX11_hears_51 rfl (lv_at hl 3 rfl) ?_
          refine lv_iadd hx hb dX11_hears_52 ?_
          refine lv_iconst (v := 1) hx hb dX11_hears_53 (by decide) ?_
          refine lv_iadd hx hb dX11_hears_54 ?_
          refine lv_iconst (v := 0) hx hb dX11_hears_55 (by decide) ?_
          obtain ⟨q6, hq6, hf⟩ := bind_s hf
          refine g_callV (As := [.int v2, .int (((fI h 5 6) + v3) + 1), .int 0]) (rest := []) hx hb hml hown hts hK hN (m_X5_nextHeard l D a C ha h 5 v2 (((fI h 5 6) + v3) + 1) 0 isPar5 q6 hq6) (cwV 3 hts gX11_hears_X5_nextHeard rfl rfl rfl kdX5_nextHeard ⟨Nat.le_of_ble_eq_true rfl, Nat.le_of_ble_eq_true rfl⟩) (par_O isPar5) rfl rfl hP hS hA rfl hl.1 rfl (Nat.le_of_ble_eq_true rfl) dX11_hears_56 ⟨Nat.le_refl _, Nat.le_refl _⟩ (fun H locs hP hS => ?_)
          refine W.eq (g2 := F0 m 59 ls [.int q6]) rfl ?_
          refine lv_istore_n (lv' := [(2, .int q6), (0, .ref (a 0)), (1, .int v1), (3, .int v3)]) hx hb dX11_hears_59 rfl hl (by decide) rfl (fun ls hl => ?_)
          obtain ⟨x7, ex7⟩ : ∃ y : Int32, y = (v3 + 1) := ⟨_, rfl⟩
          have hf := nm_s hf ex7
          refine lv_iinc (v := x7) (lv' := [(3, .int x7), (2, .int q6), (0, .ref (a 0)), (1, .int v1)]) hx hb dX11_hears_60 hl (k := 3) rfl (by rw [ex7]; rfl) (by decide) rfl (fun ls hl => ?_)
          refine lv_goto (tgt := 23) hx hb dX11_hears_63 (by decide) ?_
          exact ih q6 x7 hf H locs ls hP hS (lv_sub hl [2, 3, 1, 0] rfl)
        · have hf := if_f hf c5
          refine lv_iload_n hx hb dX11_hears_37 rfl (lv_at hl 3 rfl) ?_
          exact g_iret hx hb hr hlk hP hS (ret1 hf) dX11_hears_38
  unfold X11_hears at hf
  suffices hh : ∀ (H : Heap) (locs : List Loc), va_P D vwCl (gw a C h) H → va_S (gA a) s.heap H locs → W p l e (headSpec wsX11_hears rmX11_hears).room s m ([.ref (a 0), .int v1] : List Value).toArray below meth c H locs 0 0 (MQ below (gQ (some (.int r)) D a C h) ([.ref (a 0), .int v1] : List Value).toArray s 0 0 (gA a)) (F0 m 0 ls []) from hh _ _ hP hS
  intro H locs hP hS
  refine lv_aload_n hx hb dX11_hears_0 rfl (lv_at hl 0 rfl) ?_
  refine g_get (Cn := RX11) (T := TX11) (N := 8) (v := .ref (a 5)) (own := RX11) hx hb hown hts hK X_O rfl (fun _ hw => List.mem_cons_of_mem _ (List.mem_append_left _ (List.mem_append_left _ (List.mem_append_right _ hw)))) 0 (by decide) (List.mem_of_getElem? (i := 1) rfl) rfl rfl hP dX11_hears_1 ?_
  refine lv_iload_n hx hb dX11_hears_4 rfl (lv_at hl 1 rfl) ?_
  obtain ⟨q1, hq1, hf⟩ := bind_s hf
  refine g_callV (As := [.int v1]) (rest := []) hx hb hml hown hts hK hN (m_X5_has l D a C ha h 5 v1 isPar5 q1 hq1) (cwV 1 hts gX11_hears_X5_has rfl rfl rfl kdX5_has ⟨Nat.le_of_ble_eq_true rfl, Nat.le_of_ble_eq_true rfl⟩) (par_O isPar5) rfl rfl hP hS hA rfl hl.1 rfl (Nat.le_of_ble_eq_true rfl) dX11_hears_5 ⟨Nat.le_refl _, Nat.le_refl _⟩ (fun H locs hP hS => ?_)
  refine W.eq (g2 := F0 m 8 ls [.int q1]) rfl ?_
  refine lv_if_ne (tgt := 13) hx hb dX11_hears_8 (by decide) (fun c2 => ?_) (fun c2 => ?_)
  · have hf := if_f hf c2
    refine lv_aload_n hx hb dX11_hears_13 rfl (lv_at hl 0 rfl) ?_
    refine g_get (Cn := RX11) (T := TX11) (N := 8) (v := .ref (a 5)) (own := RX11) hx hb hown hts hK X_O rfl (fun _ hw => List.mem_cons_of_mem _ (List.mem_append_left _ (List.mem_append_left _ (List.mem_append_right _ hw)))) 0 (by decide) (List.mem_of_getElem? (i := 1) rfl) rfl rfl hP dX11_hears_14 ?_
    refine g_getN (Cn := RX5) (T := TX5) (N := 7) (v := .int (fI h 5 4)) (own := RX11) hx hb hown hts hK hN (par_O isPar5) rfl (fun _ hw => List.mem_cons_of_mem _ (List.mem_append_left _ (List.mem_append_right _ hw))) 4 (by decide) (List.mem_of_getElem? (i := 7) rfl) rfl rfl hP dX11_hears_17 ?_
    refine lv_topi (fun x3 ex3 => ?_)
    have hf := nm_s hf ex3
    refine lv_istore_n (lv' := [(2, .int x3), (0, .ref (a 0)), (1, .int v1)]) hx hb dX11_hears_20 rfl hl (by decide) rfl (fun ls hl => ?_)
    refine lv_iconst (v := 0) hx hb dX11_hears_21 (by decide) ?_
    refine lv_istore_n (lv' := [(3, .int 0), (2, .int x3), (0, .ref (a 0)), (1, .int v1)]) hx hb dX11_hears_22 rfl hl (by decide) rfl (fun ls hl => ?_)
    exact J23 FU x3 0 hf H locs ls hP hS (lv_sub hl [2, 3, 1, 0] rfl)
  · have hf := if_t hf c2
    refine lv_iconst (v := (-1)) hx hb dX11_hears_11 (by decide) ?_
    exact g_iret hx hb hr hlk hP hS (ret1 hf) dX11_hears_12

def X11_askOn_B106 (k10 : Int32 → HS → Option HS) (v1 : Int32) (h : HS) : Option HS :=
    nm (v1 + 1) fun x21 =>
    k10 x21 h
def X11_askOn_B77 (k10 : Int32 → HS → Option HS) (k30 : Int32 → Int32 → Int32 → HS → Option HS) (v1 : Int32) (v2 : Int32) (v3 : Int32) (h : HS) : Option HS :=
    nm (v3 + 1) fun x20 =>
    k30 v1 v2 x20 h
def X11_askOn_B30 (k10 : Int32 → HS → Option HS) : Nat → Int32 → Int32 → Int32 → HS → Option HS
  | 0, _, _, _, _ => none
  | fu + 1, v1, v2, v3, h =>
    (if 9 ≤ v3 then
    (if v2 = 0 then
    gdi v1 9 <|
    gdi v1 9 <|
    gdi v1 9 <|
    nm (sL h 4 (vp_updL (aL h 4) v1.toNatClampNeg ((aL h 4 v1.toNatClampNeg) + ((aL h 3 v1.toNatClampNeg) * 840)))) fun h10 =>
    X11_askOn_B106 k10 v1 h10
    else
    X11_askOn_B106 k10 v1 h)
    else
    (if v2 ≤ 0 then
    X11_askOn_B77 k10 (X11_askOn_B30 k10 fu) v1 v2 v3 h
    else
    (X4_between h 6 v1 v3).bind fun q13 =>
    (if q13 = 0 then
    X11_askOn_B77 k10 (X11_askOn_B30 k10 fu) v1 v2 v3 h
    else
    gdi v3 9 <|
    gdi v1 9 <|
    gdz v2 <|
    gdi v3 9 <|
    nm (sL h 4 (vp_updL (aL h 4) v3.toNatClampNeg ((aL h 4 v3.toNatClampNeg) + ((aL h 3 v1.toNatClampNeg) * ((840 / v2).toInt64))))) fun h18 =>
    X11_askOn_B77 k10 (X11_askOn_B30 k10 fu) v1 v2 v3 h18)))
def X11_askOn_B10  : Nat → Int32 → HS → Option HS
  | 0, _, _ => none
  | fu + 1, v1, h =>
    (if 9 ≤ v1 then
    gdc 0 0 9 9 9 <|
    nm (sL h 3 (va_cpy (aL h 4) (aL h 3) (0 : Int32).toNatClampNeg (0 : Int32).toNatClampNeg (9 : Int32).toNatClampNeg)) fun h3 =>
    some h3
    else
    (X4_number h 6 v1).bind fun q5 =>
    X11_askOn_B30 (X11_askOn_B10 fu) FU v1 q5 0 h)
def X11_askOn (h : HS) : Option HS :=
    (J7_fill_d0a16 h 4 9 0).bind fun q1 =>
    X11_askOn_B10 FU 0 q1
def rmX11_askOn : Room := { frames := 2, cells := 0, slots := 0, locals := 43 }
theorem kdX11_askOn : yX11_askOn.cls = RX11 ∧ yX11_askOn.cls ≠ "java/lang/invoke/MethodHandle" ∧ yX11_askOn.cls ≠ "java/lang/invoke/VarHandle" ∧ (parseMethodDescriptor yX11_askOn.desc).map (fun d => d.parameters.length) = some 0 := by decide +kernel
set_option maxHeartbeats 4000000 in
set_option maxRecDepth 100000 in
theorem m_X11_askOn (l : Launch) (D : va_G) (a : Nat → Nat) (C : Nat → ClassId) (ha : ginj a) (h : HS)  (h' : HS) (hf : X11_askOn h = some h') : gM l yX11_askOn wsX11_askOn rmX11_askOn D a C [.ref (a 0)] h none h' := by
  refine g_start (av := [.ref (a 0)]) (cc := cX11_askOn) (maxL := 4) (rt := none) (by decide) rfl (Nat.le_of_ble_eq_true rfl) ?_
  intro p e s m below meth c hx hb hr hml hown hlk hts hP hK hN ls hl
  have hA : ∀ q, gA a q → gA a q := fun _ q => q
  have hS : va_S (gA a) s.heap s.heap [] := va_S.rf
  have hl : lv_has ls 4 [(0, .ref (a 0))] := hl
  have J106 : ∀ (k10 : Int32 → HS → Option HS) (hk10 : ∀ (v1 : Int32) (h : HS), k10 v1 h = some h' → gG p l e (headSpec wsX11_askOn rmX11_askOn).room s m ([.ref (a 0)] : List Value).toArray below meth c (MQ below (gQ none D a C h') ([.ref (a 0)] : List Value).toArray s 0 0 (gA a)) D a C 4 h 10 [(0, .ref (a 0)), (1, .int v1)] []) (v1 : Int32) (h : HS) (_ : X11_askOn_B106 k10 v1 h = some h'), gG p l e (headSpec wsX11_askOn rmX11_askOn).room s m ([.ref (a 0)] : List Value).toArray below meth c (MQ below (gQ none D a C h') ([.ref (a 0)] : List Value).toArray s 0 0 (gA a)) D a C 4 h 106 [(0, .ref (a 0)), (1, .int v1)] [] := by
    intro k10 hk10 v1 h hf H locs ls hP hS hl
    unfold X11_askOn_B106 at hf
    obtain ⟨x21, ex21⟩ : ∃ y : Int32, y = (v1 + 1) := ⟨_, rfl⟩
    have hf := nm_s hf ex21
    refine lv_iinc (v := x21) (lv' := [(1, .int x21), (0, .ref (a 0))]) hx hb dX11_askOn_106 hl (k := 1) rfl (by rw [ex21]; rfl) (by decide) rfl (fun ls hl => ?_)
    refine lv_goto (tgt := 10) hx hb dX11_askOn_109 (by decide) ?_
    exact hk10 x21 h hf H locs ls hP hS (lv_sub hl [1, 0] rfl)
  have J77 : ∀ (k10 : Int32 → HS → Option HS) (hk10 : ∀ (v1 : Int32) (h : HS), k10 v1 h = some h' → gG p l e (headSpec wsX11_askOn rmX11_askOn).room s m ([.ref (a 0)] : List Value).toArray below meth c (MQ below (gQ none D a C h') ([.ref (a 0)] : List Value).toArray s 0 0 (gA a)) D a C 4 h 10 [(0, .ref (a 0)), (1, .int v1)] []) (k30 : Int32 → Int32 → Int32 → HS → Option HS) (hk30 : ∀ (v1 : Int32) (v2 : Int32) (v3 : Int32) (h : HS), k30 v1 v2 v3 h = some h' → gG p l e (headSpec wsX11_askOn rmX11_askOn).room s m ([.ref (a 0)] : List Value).toArray below meth c (MQ below (gQ none D a C h') ([.ref (a 0)] : List Value).toArray s 0 0 (gA a)) D a C 4 h 30 [(0, .ref (a 0)), (1, .int v1), (2, .int v2), (3, .int v3)] []) (v1 : Int32) (v2 : Int32) (v3 : Int32) (h : HS) (_ : X11_askOn_B77 k10 k30 v1 v2 v3 h = some h'), gG p l e (headSpec wsX11_askOn rmX11_askOn).room s m ([.ref (a 0)] : List Value).toArray below meth c (MQ below (gQ none D a C h') ([.ref (a 0)] : List Value).toArray s 0 0 (gA a)) D a C 4 h 77 [(0, .ref (a 0)), (1, .int v1), (2, .int v2), (3, .int v3)] [] := by
    intro k10 hk10 k30 hk30 v1 v2 v3 h hf H locs ls hP hS hl
    unfold X11_askOn_B77 at hf
    obtain ⟨x20, ex20⟩ : ∃ y : Int32, y = (v3 + 1) := ⟨_, rfl⟩
    have hf := nm_s hf ex20
    refine lv_iinc (v := x20) (lv' := [(3, .int x20), (0, .ref (a 0)), (1, .int v1), (2, .int v2)]) hx hb dX11_askOn_77 hl (k := 3) rfl (by rw [ex20]; rfl) (by decide) rfl (fun ls hl => ?_)
    refine lv_goto (tgt := 30) hx hb dX11_askOn_80 (by decide) ?_
    exact hk30 v1 v2 x20 h hf H locs ls hP hS (lv_sub hl [1, 2, 3, 0] rfl)
  have J30 : ∀ (k10 : Int32 → HS → Option HS) (hk10 : ∀ (v1 : Int32) (h : HS), k10 v1 h = some h' → gG p l e (headSpec wsX11_askOn rmX11_askOn).room s m ([.ref (a 0)] : List Value).toArray below meth c (MQ below (gQ none D a C h') ([.ref (a 0)] : List Value).toArray s 0 0 (gA a)) D a C 4 h 10 [(0, .ref (a 0)), (1, .int v1)] []) (fu : Nat) (v1 : Int32) (v2 : Int32) (v3 : Int32) (h : HS), X11_askOn_B30 k10 fu v1 v2 v3 h = some h' → gG p l e (headSpec wsX11_askOn rmX11_askOn).room s m ([.ref (a 0)] : List Value).toArray below meth c (MQ below (gQ none D a C h') ([.ref (a 0)] : List Value).toArray s 0 0 (gA a)) D a C 4 h 30 [(0, .ref (a 0)), (1, .int v1), (2, .int v2), (3, .int v3)] [] := by
    intro k10 hk10 fu
    induction fu with
    | zero => intro v1 v2 v3 h hf; exact absurd hf (by simp [X11_askOn_B30])
    | succ fu ih =>
      intro v1 v2 v3 h hf H locs ls hP hS hl
      rw [X11_askOn_B30] at hf
      refine lv_iload_n hx hb dX11_askOn_30 rfl (lv_at hl 3 rfl) ?_
      refine lv_bipush (v := 9) hx hb dX11_askOn_31 (by decide) ?_
      refine lv_icmp_ge (tgt := 83) hx hb dX11_askOn_33 (by decide) (fun c6 => ?_) (fun c6 => ?_)
      · have hf := if_t hf c6
        refine lv_iload_n hx hb dX11_askOn_83 rfl (lv_at hl 2 rfl) ?_
        refine lv_if_ne (tgt := 106) hx hb dX11_askOn_84 (by decide) (fun c7 => ?_) (fun c7 => ?_)
        · have hf := if_f hf c7
          exact J106 k10 hk10 v1 h hf H locs ls hP hS (lv_sub hl [0, 1] rfl)
        · have hf := if_t hf c7
          refine lv_aload_n hx hb dX11_askOn_87 rfl (lv_at hl 0 rfl) ?_
          refine g_get (Cn := RX11) (T := TX11) (N := 8) (v := .ref (a 4)) (own := RX11) hx hb hown hts hK X_O rfl (fun _ hw => List.mem_cons_of_mem _ (List.mem_append_left _ (List.mem_append_left _ (List.mem_append_right _ hw)))) 7 (by decide) (List.mem_of_getElem? (i := 1) rfl) rfl rfl hP dX11_askOn_88 ?_
          refine lv_iload_n hx hb dX11_askOn_91 rfl (lv_at hl 1 rfl) ?_
          refine lv_dup2_11 hx hb dX11_askOn_92 rfl rfl ?_
          obtain ⟨c8, hf⟩ := gdi_s hf
          refine g_lal hx hb hK (⟨by decide, rfl⟩ : gAL 4 9) c8 hP dX11_askOn_93 ?_
          refine lv_aload_n hx hb dX11_askOn_94 rfl (lv_at hl 0 rfl) ?_
          refine g_get (Cn := RX11) (T := TX11) (N := 8) (v := .ref (a 3)) (own := RX11) hx hb hown hts hK X_O rfl (fun _ hw => List.mem_cons_of_mem _ (List.mem_append_left _ (List.mem_append_left _ (List.mem_append_right _ hw)))) 6 (by decide) (List.mem_of_getElem? (i := 3) rfl) rfl rfl hP dX11_askOn_95 ?_
          refine lv_iload_n hx hb dX11_askOn_98 rfl (lv_at hl 1 rfl) ?_
          obtain ⟨c9, hf⟩ := gdi_s hf
          refine g_lal hx hb hK (⟨by decide, rfl⟩ : gAL 3 9) c9 hP dX11_askOn_99 ?_
          refine lv_ldc2 (v := 840) hx hb hown (hts _ (List.mem_of_getElem? (i := 4) rfl)) dX11_askOn_100 ?_
          refine lv_lmul hx hb dX11_askOn_103 ?_
          refine lv_ladd hx hb dX11_askOn_104 ?_
          obtain ⟨c11, hf⟩ := gdi_s hf
          refine g_las hx hb hK ha hA (⟨by decide, rfl⟩ : gAL 4 9) c11 hP hS dX11_askOn_105 (fun H locs hP hS => ?_)
          obtain ⟨h10, eh10⟩ : ∃ x, x = (sL h 4 (vp_updL (aL h 4) v1.toNatClampNeg ((aL h 4 v1.toNatClampNeg) + ((aL h 3 v1.toNatClampNeg) * 840)))) := ⟨_, rfl⟩
          rw [← eh10] at hP
          have hf := nm_s hf eh10
          exact J106 k10 hk10 v1 h10 hf H locs ls hP hS (lv_sub hl [0, 1] rfl)
      · have hf := if_f hf c6
        refine lv_iload_n hx hb dX11_askOn_36 rfl (lv_at hl 2 rfl) ?_
        refine lv_if_le (tgt := 77) hx hb dX11_askOn_37 (by decide) (fun c12 => ?_) (fun c12 => ?_)
        · have hf := if_t hf c12
          exact J77 k10 hk10 (X11_askOn_B30 k10 fu) ih v1 v2 v3 h hf H locs ls hP hS (lv_sub hl [0, 1, 2, 3] rfl)
        · have hf := if_f hf c12
          refine lv_aload_n hx hb dX11_askOn_40 rfl (lv_at hl 0 rfl) ?_
          refine g_get (Cn := RX11) (T := TX11) (N := 8) (v := .ref (a 5)) (own := RX11) hx hb hown hts hK X_O rfl (fun _ hw => List.mem_cons_of_mem _ (List.mem_append_left _ (List.mem_append_left _ (List.mem_append_right _ hw)))) 0 (by decide) (List.mem_of_getElem? (i := 2) rfl) rfl rfl hP dX11_askOn_41 ?_
          refine g_getN (Cn := RX5) (T := TX5) (N := 7) (v := .ref (a 6)) (own := RX11) hx hb hown hts hK hN (par_O isPar5) rfl (fun _ hw => List.mem_cons_of_mem _ (List.mem_append_left _ (List.mem_append_right _ hw))) 0 (by decide) (List.mem_of_getElem? (i := 6) rfl) rfl rfl hP dX11_askOn_44 ?_
          refine lv_iload_n hx hb dX11_askOn_47 rfl (lv_at hl 1 rfl) ?_
          refine lv_iload_n hx hb dX11_askOn_48 rfl (lv_at hl 3 rfl) ?_
          obtain ⟨q13, hq13, hf⟩ := bind_s hf
          refine g_callV (As := [.int v1, .int v3]) (rest := []) hx hb hml hown hts hK hN (m_X4_between l D a C ha h 6 v1 v3 (par_lin isPar5) q13 hq13) (cwV 2 hts gX11_askOn_X4_between rfl rfl rfl kdX4_between ⟨Nat.le_of_ble_eq_true rfl, Nat.le_of_ble_eq_true rfl⟩) (lin_O (par_lin isPar5)) rfl rfl hP hS hA rfl hl.1 rfl (Nat.le_of_ble_eq_true rfl) dX11_askOn_49 ⟨Nat.le_refl _, Nat.le_refl _⟩ (fun H locs hP hS => ?_)
          refine W.eq (g2 := F0 m 52 ls [.int q13]) rfl ?_
          refine lv_if_eq (tgt := 77) hx hb dX11_askOn_52 (by decide) (fun c14 => ?_) (fun c14 => ?_)
          · have hf := if_t hf c14
            exact J77 k10 hk10 (X11_askOn_B30 k10 fu) ih v1 v2 v3 h hf H locs ls hP hS (lv_sub hl [0, 1, 2, 3] rfl)
          · have hf := if_f hf c14
            refine lv_aload_n hx hb dX11_askOn_55 rfl (lv_at hl 0 rfl) ?_
            refine g_get (Cn := RX11) (T := TX11) (N := 8) (v := .ref (a 4)) (own := RX11) hx hb hown hts hK X_O rfl (fun _ hw => List.mem_cons_of_mem _ (List.mem_append_left _ (List.mem_append_left _ (List.mem_append_right _ hw)))) 7 (by decide) (List.mem_of_getElem? (i := 1) rfl) rfl rfl hP dX11_askOn_56 ?_
            refine lv_iload_n hx hb dX11_askOn_59 rfl (lv_at hl 3 rfl) ?_
            refine lv_dup2_11 hx hb dX11_askOn_60 rfl rfl ?_
            obtain ⟨c15, hf⟩ := gdi_s hf
            refine g_lal hx hb hK (⟨by decide, rfl⟩ : gAL 4 9) c15 hP dX11_askOn_61 ?_
            refine lv_aload_n hx hb dX11_askOn_62 rfl (lv_at hl 0 rfl) ?_
            refine g_get (Cn := RX11) (T := TX11) (N := 8) (v := .ref (a 3)) (own := RX11) hx hb hown hts hK X_O rfl (fun _ hw => List.mem_cons_of_mem _ (List.mem_append_left _ (List.mem_append_left _ (List.mem_append_right _ hw)))) 6 (by decide) (List.mem_of_getElem? (i := 3) rfl) rfl rfl hP dX11_askOn_63 ?_
            refine lv_iload_n hx hb dX11_askOn_66 rfl (lv_at hl 1 rfl) ?_
            obtain ⟨c16, hf⟩ := gdi_s hf
            refine g_lal hx hb hK (⟨by decide, rfl⟩ : gAL 3 9) c16 hP dX11_askOn_67 ?_
            refine lv_sipush (v := 840) hx hb dX11_askOn_68 (by decide) ?_
            refine lv_iload_n hx hb dX11_askOn_71 rfl (lv_at hl 2 rfl) ?_
            obtain ⟨c17, hf⟩ := gdz_s hf
            refine lv_idiv hx hb dX11_askOn_72 c17 ?_
            refine lv_i2l hx hb dX11_askOn_73 rfl ?_
            refine lv_lmul hx hb dX11_askOn_74 ?_
            refine lv_ladd hx hb dX11_askOn_75 ?_
            obtain ⟨c19, hf⟩ := gdi_s hf
            refine g_las hx hb hK ha hA (⟨by decide, rfl⟩ : gAL 4 9) c19 hP hS dX11_askOn_76 (fun H locs hP hS => ?_)
            obtain ⟨h18, eh18⟩ : ∃ x, x = (sL h 4 (vp_updL (aL h 4) v3.toNatClampNeg ((aL h 4 v3.toNatClampNeg) + ((aL h 3 v1.toNatClampNeg) * ((840 / v2).toInt64))))) := ⟨_, rfl⟩
            rw [← eh18] at hP
            have hf := nm_s hf eh18
            exact J77 k10 hk10 (X11_askOn_B30 k10 fu) ih v1 v2 v3 h18 hf H locs ls hP hS (lv_sub hl [0, 1, 2, 3] rfl)
  have J10 : ∀ (fu : Nat) (v1 : Int32) (h : HS), X11_askOn_B10 fu v1 h = some h' → gG p l e (headSpec wsX11_askOn rmX11_askOn).room s m ([.ref (a 0)] : List Value).toArray below meth c (MQ below (gQ none D a C h') ([.ref (a 0)] : List Value).toArray s 0 0 (gA a)) D a C 4 h 10 [(0, .ref (a 0)), (1, .int v1)] [] := by
    intro fu
    induction fu with
    | zero => intro v1 h hf; exact absurd hf (by simp [X11_askOn_B10])
    | succ fu ih =>
      intro v1 h hf H locs ls hP hS hl
      rw [X11_askOn_B10] at hf
      refine lv_iload_n hx hb dX11_askOn_10 rfl (lv_at hl 1 rfl) ?_
      refine lv_bipush (v := 9) hx hb dX11_askOn_11 (by decide) ?_
      refine lv_icmp_ge (tgt := 112) hx hb dX11_askOn_13 (by decide) (fun c2 => ?_) (fun c2 => ?_)
      · have hf := if_t hf c2
        refine lv_aload_n hx hb dX11_askOn_112 rfl (lv_at hl 0 rfl) ?_
        refine g_get (Cn := RX11) (T := TX11) (N := 8) (v := .ref (a 4)) (own := RX11) hx hb hown hts hK X_O rfl (fun _ hw => List.mem_cons_of_mem _ (List.mem_append_left _ (List.mem_append_left _ (List.mem_append_right _ hw)))) 7 (by decide) (List.mem_of_getElem? (i := 1) rfl) rfl rfl hP dX11_askOn_113 ?_
        refine lv_iconst (v := 0) hx hb dX11_askOn_116 (by decide) ?_
        refine lv_aload_n hx hb dX11_askOn_117 rfl (lv_at hl 0 rfl) ?_
        refine g_get (Cn := RX11) (T := TX11) (N := 8) (v := .ref (a 3)) (own := RX11) hx hb hown hts hK X_O rfl (fun _ hw => List.mem_cons_of_mem _ (List.mem_append_left _ (List.mem_append_left _ (List.mem_append_right _ hw)))) 6 (by decide) (List.mem_of_getElem? (i := 3) rfl) rfl rfl hP dX11_askOn_118 ?_
        refine lv_iconst (v := 0) hx hb dX11_askOn_121 (by decide) ?_
        refine lv_bipush (v := 9) hx hb dX11_askOn_122 (by decide) ?_
        obtain ⟨c4, hf⟩ := gdc_s hf
        refine g_copyL hx hb hml hl.1 hown (hts _ (List.mem_of_getElem? (i := 5) rfl)) (hts _ (List.mem_of_getElem? (i := 6) rfl)) (hts _ (List.mem_of_getElem? (i := 7) rfl)) (hts _ (List.mem_of_getElem? (i := 8) rfl)) hK ha hA (⟨by decide, rfl⟩ : gAL 4 9) (⟨by decide, rfl⟩ : gAL 3 9) hP hS (Nat.le_of_ble_eq_true rfl) (Nat.le_of_ble_eq_true rfl) (Nat.le_of_ble_eq_true rfl) c4 dX11_askOn_124 (fun H locs hP hS => ?_)
        obtain ⟨h3, eh3⟩ : ∃ x, x = (sL h 3 (va_cpy (aL h 4) (aL h 3) (0 : Int32).toNatClampNeg (0 : Int32).toNatClampNeg (9 : Int32).toNatClampNeg)) := ⟨_, rfl⟩
        rw [← eh3] at hP
        have hf := nm_s hf eh3
        exact g_vret hx hb hr hlk hP hS (ret1 hf) dX11_askOn_127
      · have hf := if_f hf c2
        refine lv_aload_n hx hb dX11_askOn_16 rfl (lv_at hl 0 rfl) ?_
        refine g_get (Cn := RX11) (T := TX11) (N := 8) (v := .ref (a 5)) (own := RX11) hx hb hown hts hK X_O rfl (fun _ hw => List.mem_cons_of_mem _ (List.mem_append_left _ (List.mem_append_left _ (List.mem_append_right _ hw)))) 0 (by decide) (List.mem_of_getElem? (i := 2) rfl) rfl rfl hP dX11_askOn_17 ?_
        refine g_getN (Cn := RX5) (T := TX5) (N := 7) (v := .ref (a 6)) (own := RX11) hx hb hown hts hK hN (par_O isPar5) rfl (fun _ hw => List.mem_cons_of_mem _ (List.mem_append_left _ (List.mem_append_right _ hw))) 0 (by decide) (List.mem_of_getElem? (i := 6) rfl) rfl rfl hP dX11_askOn_20 ?_
        refine lv_iload_n hx hb dX11_askOn_23 rfl (lv_at hl 1 rfl) ?_
        obtain ⟨q5, hq5, hf⟩ := bind_s hf
        refine g_callV (As := [.int v1]) (rest := []) hx hb hml hown hts hK hN (m_X4_number l D a C ha h 6 v1 (par_lin isPar5) q5 hq5) (cwV 1 hts gX11_askOn_X4_number rfl rfl rfl kdX4_number ⟨Nat.le_of_ble_eq_true rfl, Nat.le_of_ble_eq_true rfl⟩) (lin_O (par_lin isPar5)) rfl rfl hP hS hA rfl hl.1 rfl (Nat.le_of_ble_eq_true rfl) dX11_askOn_24 ⟨Nat.le_refl _, Nat.le_refl _⟩ (fun H locs hP hS => ?_)
        refine W.eq (g2 := F0 m 27 ls [.int q5]) rfl ?_
        refine lv_istore_n (lv' := [(2, .int q5), (0, .ref (a 0)), (1, .int v1)]) hx hb dX11_askOn_27 rfl hl (by decide) rfl (fun ls hl => ?_)
        refine lv_iconst (v := 0) hx hb dX11_askOn_28 (by decide) ?_
        refine lv_istore_n (lv' := [(3, .int 0), (2, .int q5), (0, .ref (a 0)), (1, .int v1)]) hx hb dX11_askOn_29 rfl hl (by decide) rfl (fun ls hl => ?_)
        exact J30 (X11_askOn_B10 fu) ih FU v1 q5 0 h hf H locs ls hP hS (lv_sub hl [2, 3, 1, 0] rfl)
  unfold X11_askOn at hf
  suffices hh : ∀ (H : Heap) (locs : List Loc), va_P D vwCl (gw a C h) H → va_S (gA a) s.heap H locs → W p l e (headSpec wsX11_askOn rmX11_askOn).room s m ([.ref (a 0)] : List Value).toArray below meth c H locs 0 0 (MQ below (gQ none D a C h') ([.ref (a 0)] : List Value).toArray s 0 0 (gA a)) (F0 m 0 ls []) from hh _ _ hP hS
  intro H locs hP hS
  refine lv_aload_n hx hb dX11_askOn_0 rfl (lv_at hl 0 rfl) ?_
  refine g_get (Cn := RX11) (T := TX11) (N := 8) (v := .ref (a 4)) (own := RX11) hx hb hown hts hK X_O rfl (fun _ hw => List.mem_cons_of_mem _ (List.mem_append_left _ (List.mem_append_left _ (List.mem_append_right _ hw)))) 7 (by decide) (List.mem_of_getElem? (i := 1) rfl) rfl rfl hP dX11_askOn_1 ?_
  refine lv_lconst (v := 0) hx hb dX11_askOn_4 (by decide) ?_
  obtain ⟨q1, hq1, hf⟩ := bind_s hf
  refine g_callS (As := [.ref (a 4), .long 0]) (rest := []) hx hb hml hown hts hK hN (m_J7_fill_d0a16 l D a C ha h 4 9 0 (⟨by decide, rfl⟩ : gAL 4 9) q1 hq1) (va_cwS 2 hts gX11_askOn_J7_fill_d0a16 rfl rfl rfl kdJ7_fill_d0a16.2 ⟨Nat.le_of_ble_eq_true rfl, Nat.le_of_ble_eq_true rfl⟩) hP hS hA rfl hl.1 rfl (Nat.le_of_ble_eq_true rfl) dX11_askOn_5 ⟨Nat.le_refl _, Nat.le_refl _⟩ (fun H locs hP hS => ?_)
  refine W.eq (g2 := F0 m 8 ls []) rfl ?_
  refine lv_iconst (v := 0) hx hb dX11_askOn_8 (by decide) ?_
  refine lv_istore_n (lv' := [(1, .int 0), (0, .ref (a 0))]) hx hb dX11_askOn_9 rfl hl (by decide) rfl (fun ls hl => ?_)
  exact J10 FU 0 q1 hf H locs ls hP hS (lv_sub hl [1, 0] rfl)

def X11_asked_B57 (v1 : Int32) (v2 : Int32) (v3 : Int32) (v4 : Int32) : Nat → Int64 → Int32 → HS → Option (Int64 × HS)
  | 0, _, _, _ => none
  | fu + 1, v5, v7, h =>
    (if v3 ≤ v7 then
    gdi v2 9 <|
    (X11_fraction (aL h 3 v2.toNatClampNeg) v5 v4).bind fun q12 =>
    some (q12, h)
    else
    (X11_askOn h).bind fun q13 =>
    nm (v5 * 840) fun x14 =>
    nm (v7 + 1) fun x15 =>
    (X11_asked_B57 v1 v2 v3 v4 fu) x14 x15 q13)
def X11_asked (h : HS) (v1 : Int32) (v2 : Int32) (v3 : Int32) (v4 : Int32) : Option (Int64 × HS) :=
    (X5_has h 5 v1).bind fun q1 =>
    (if q1 = 0 then
    some (1000000001, h)
    else
    (X5_has h 5 v2).bind fun q3 =>
    (if q3 = 0 then
    some (1000000001, h)
    else
    (if v3 < 0 then
    some (1000000001, h)
    else
    (if v3 ≤ 6 then
    (J7_fill_d0a16 h 3 9 0).bind fun q7 =>
    gdi v1 9 <|
    nm (sL q7 3 (vp_updL (aL q7 3) v1.toNatClampNeg 1)) fun h8 =>
    X11_asked_B57 v1 v2 v3 v4 FU 1 0 h8
    else
    some (1000000001, h)))))
def rmX11_asked : Room := { frames := 3, cells := 0, slots := 0, locals := 66 }
theorem kdX11_asked : yX11_asked.cls = RX11 ∧ yX11_asked.cls ≠ "java/lang/invoke/MethodHandle" ∧ yX11_asked.cls ≠ "java/lang/invoke/VarHandle" ∧ (parseMethodDescriptor yX11_asked.desc).map (fun d => d.parameters.length) = some 4 := by decide +kernel
set_option maxHeartbeats 4000000 in
set_option maxRecDepth 100000 in
theorem m_X11_asked (l : Launch) (D : va_G) (a : Nat → Nat) (C : Nat → ClassId) (ha : ginj a) (h : HS) (v1 : Int32) (v2 : Int32) (v3 : Int32) (v4 : Int32)  (r : Int64) (h' : HS) (hf : X11_asked h v1 v2 v3 v4 = some (r, h')) : gM l yX11_asked wsX11_asked rmX11_asked D a C [.ref (a 0), .int v1, .int v2, .int v3, .int v4] h (some (.long r)) h' := by
  refine g_start (av := [.ref (a 0), .int v1, .int v2, .int v3, .int v4]) (cc := cX11_asked) (maxL := 8) (rt := (some .long)) (by decide) rfl (Nat.le_of_ble_eq_true rfl) ?_
  intro p e s m below meth c hx hb hr hml hown hlk hts hP hK hN ls hl
  have hA : ∀ q, gA a q → gA a q := fun _ q => q
  have hS : va_S (gA a) s.heap s.heap [] := va_S.rf
  have hl : lv_has ls 8 [(0, .ref (a 0)), (1, .int v1), (2, .int v2), (3, .int v3), (4, .int v4)] := hl
  have J57 : ∀ (fu : Nat) (v5 : Int64) (v7 : Int32) (h : HS), X11_asked_B57 v1 v2 v3 v4 fu v5 v7 h = some (r, h') → gG p l e (headSpec wsX11_asked rmX11_asked).room s m ([.ref (a 0), .int v1, .int v2, .int v3, .int v4] : List Value).toArray below meth c (MQ below (gQ (some (.long r)) D a C h') ([.ref (a 0), .int v1, .int v2, .int v3, .int v4] : List Value).toArray s 0 0 (gA a)) D a C 8 h 57 [(0, .ref (a 0)), (2, .int v2), (3, .int v3), (4, .int v4), (5, .long v5), (7, .int v7)] [] := by
    intro fu
    induction fu with
    | zero => intro v5 v7 h hf; exact absurd hf (by simp [X11_asked_B57])
    | succ fu ih =>
      intro v5 v7 h hf H locs ls hP hS hl
      rw [X11_asked_B57] at hf
      refine lv_iload hx hb dX11_asked_57 (lv_at hl 5 rfl) ?_
      refine lv_iload_n hx hb dX11_asked_59 rfl (lv_at hl 2 rfl) ?_
      refine lv_icmp_ge (tgt := 81) hx hb dX11_asked_60 (by decide) (fun c10 => ?_) (fun c10 => ?_)
      · have hf := if_t hf c10
        refine lv_aload_n hx hb dX11_asked_81 rfl (lv_at hl 0 rfl) ?_
        refine g_get (Cn := RX11) (T := TX11) (N := 8) (v := .ref (a 3)) (own := RX11) hx hb hown hts hK X_O rfl (fun _ hw => List.mem_cons_of_mem _ (List.mem_append_left _ (List.mem_append_left _ (List.mem_append_right _ hw)))) 6 (by decide) (List.mem_of_getElem? (i := 3) rfl) rfl rfl hP dX11_asked_82 ?_
        refine lv_iload_n hx hb dX11_asked_85 rfl (lv_at hl 1 rfl) ?_
        obtain ⟨c11, hf⟩ := gdi_s hf
        refine g_lal hx hb hK (⟨by decide, rfl⟩ : gAL 3 9) c11 hP dX11_asked_86 ?_
        refine lv_lload hx hb dX11_asked_87 (lv_at hl 4 rfl) ?_
        refine lv_iload hx hb dX11_asked_89 (lv_at hl 3 rfl) ?_
        obtain ⟨q12, hq12, hf⟩ := bind_s hf
        refine g_callS (As := [.long (aL h 3 v2.toNatClampNeg), .long v5, .int v4]) (rest := []) hx hb hml hown hts hK hN (m_X11_fraction l D a C ha h (aL h 3 v2.toNatClampNeg) v5 v4  q12 hq12) (va_cwS 3 hts gX11_asked_X11_fraction rfl rfl rfl kdX11_fraction.2 ⟨Nat.le_of_ble_eq_true rfl, Nat.le_of_ble_eq_true rfl⟩) hP hS hA rfl hl.1 rfl (Nat.le_of_ble_eq_true rfl) dX11_asked_91 ⟨Nat.le_refl _, Nat.le_refl _⟩ (fun H locs hP hS => ?_)
        refine W.eq (g2 := F0 m 94 ls [.long q12]) rfl ?_
        exact g_lretW hx hb hr hlk hP hS (ret2 hf) dX11_asked_94
      · have hf := if_f hf c10
        refine lv_aload_n hx hb dX11_asked_63 rfl (lv_at hl 0 rfl) ?_
        obtain ⟨q13, hq13, hf⟩ := bind_s hf
        refine g_callV (As := []) (rest := []) hx hb hml hown hts hK hN (m_X11_askOn l D a C ha h  q13 hq13) (cwV 0 hts gX11_asked_X11_askOn rfl rfl rfl kdX11_askOn ⟨Nat.le_of_ble_eq_true rfl, Nat.le_of_ble_eq_true rfl⟩) X_O rfl rfl hP hS hA rfl hl.1 rfl (Nat.le_of_ble_eq_true rfl) dX11_asked_64 ⟨Nat.le_refl _, Nat.le_refl _⟩ (fun H locs hP hS => ?_)
        refine W.eq (g2 := F0 m 67 ls []) rfl ?_
        refine lv_lload hx hb dX11_asked_67 (lv_at hl 4 rfl) ?_
        refine lv_ldc2 (v := 840) hx hb hown (hts _ (List.mem_of_getElem? (i := 4) rfl)) dX11_asked_69 ?_
        refine lv_lmul hx hb dX11_asked_72 ?_
        refine lv_topl (fun x14 ex14 => ?_)
        have hf := nm_s hf ex14
        refine lv_lstore (lv' := [(5, .long x14), (0, .ref (a 0)), (2, .int v2), (3, .int v3), (4, .int v4), (7, .int v7)]) hx hb dX11_asked_73 hl (by decide) rfl (fun ls hl => ?_)
        obtain ⟨x15, ex15⟩ : ∃ y : Int32, y = (v7 + 1) := ⟨_, rfl⟩
        have hf := nm_s hf ex15
        refine lv_iinc (v := x15) (lv' := [(7, .int x15), (5, .long x14), (0, .ref (a 0)), (2, .int v2), (3, .int v3), (4, .int v4)]) hx hb dX11_asked_75 hl (k := 5) rfl (by rw [ex15]; rfl) (by decide) rfl (fun ls hl => ?_)
        refine lv_goto (tgt := 57) hx hb dX11_asked_78 (by decide) ?_
        exact ih x14 x15 q13 hf H locs ls hP hS (lv_sub hl [2, 3, 4, 5, 1, 0] rfl)
  unfold X11_asked at hf
  suffices hh : ∀ (H : Heap) (locs : List Loc), va_P D vwCl (gw a C h) H → va_S (gA a) s.heap H locs → W p l e (headSpec wsX11_asked rmX11_asked).room s m ([.ref (a 0), .int v1, .int v2, .int v3, .int v4] : List Value).toArray below meth c H locs 0 0 (MQ below (gQ (some (.long r)) D a C h') ([.ref (a 0), .int v1, .int v2, .int v3, .int v4] : List Value).toArray s 0 0 (gA a)) (F0 m 0 ls []) from hh _ _ hP hS
  intro H locs hP hS
  refine lv_aload_n hx hb dX11_asked_0 rfl (lv_at hl 0 rfl) ?_
  refine g_get (Cn := RX11) (T := TX11) (N := 8) (v := .ref (a 5)) (own := RX11) hx hb hown hts hK X_O rfl (fun _ hw => List.mem_cons_of_mem _ (List.mem_append_left _ (List.mem_append_left _ (List.mem_append_right _ hw)))) 0 (by decide) (List.mem_of_getElem? (i := 1) rfl) rfl rfl hP dX11_asked_1 ?_
  refine lv_iload_n hx hb dX11_asked_4 rfl (lv_at hl 1 rfl) ?_
  obtain ⟨q1, hq1, hf⟩ := bind_s hf
  refine g_callV (As := [.int v1]) (rest := []) hx hb hml hown hts hK hN (m_X5_has l D a C ha h 5 v1 isPar5 q1 hq1) (cwV 1 hts gX11_asked_X5_has rfl rfl rfl kdX5_has ⟨Nat.le_of_ble_eq_true rfl, Nat.le_of_ble_eq_true rfl⟩) (par_O isPar5) rfl rfl hP hS hA rfl hl.1 rfl (Nat.le_of_ble_eq_true rfl) dX11_asked_5 ⟨Nat.le_refl _, Nat.le_refl _⟩ (fun H locs hP hS => ?_)
  refine W.eq (g2 := F0 m 8 ls [.int q1]) rfl ?_
  refine lv_if_eq (tgt := 32) hx hb dX11_asked_8 (by decide) (fun c2 => ?_) (fun c2 => ?_)
  · have hf := if_t hf c2
    refine lv_ldc2 (v := 1000000001) hx hb hown (hts _ (List.mem_of_getElem? (i := 2) rfl)) dX11_asked_32 ?_
    exact g_lretW hx hb hr hlk hP hS (ret2 hf) dX11_asked_35
  · have hf := if_f hf c2
    refine lv_aload_n hx hb dX11_asked_11 rfl (lv_at hl 0 rfl) ?_
    refine g_get (Cn := RX11) (T := TX11) (N := 8) (v := .ref (a 5)) (own := RX11) hx hb hown hts hK X_O rfl (fun _ hw => List.mem_cons_of_mem _ (List.mem_append_left _ (List.mem_append_left _ (List.mem_append_right _ hw)))) 0 (by decide) (List.mem_of_getElem? (i := 1) rfl) rfl rfl hP dX11_asked_12 ?_
    refine lv_iload_n hx hb dX11_asked_15 rfl (lv_at hl 2 rfl) ?_
    obtain ⟨q3, hq3, hf⟩ := bind_s hf
    refine g_callV (As := [.int v2]) (rest := []) hx hb hml hown hts hK hN (m_X5_has l D a C ha h 5 v2 isPar5 q3 hq3) (cwV 1 hts gX11_asked_X5_has rfl rfl rfl kdX5_has ⟨Nat.le_of_ble_eq_true rfl, Nat.le_of_ble_eq_true rfl⟩) (par_O isPar5) rfl rfl hP hS hA rfl hl.1 rfl (Nat.le_of_ble_eq_true rfl) dX11_asked_16 ⟨Nat.le_refl _, Nat.le_refl _⟩ (fun H locs hP hS => ?_)
    refine W.eq (g2 := F0 m 19 ls [.int q3]) rfl ?_
    refine lv_if_eq (tgt := 32) hx hb dX11_asked_19 (by decide) (fun c4 => ?_) (fun c4 => ?_)
    · have hf := if_t hf c4
      refine lv_ldc2 (v := 1000000001) hx hb hown (hts _ (List.mem_of_getElem? (i := 2) rfl)) dX11_asked_32 ?_
      exact g_lretW hx hb hr hlk hP hS (ret2 hf) dX11_asked_35
    · have hf := if_f hf c4
      refine lv_iload_n hx hb dX11_asked_22 rfl (lv_at hl 3 rfl) ?_
      refine lv_if_lt (tgt := 32) hx hb dX11_asked_23 (by decide) (fun c5 => ?_) (fun c5 => ?_)
      · have hf := if_t hf c5
        refine lv_ldc2 (v := 1000000001) hx hb hown (hts _ (List.mem_of_getElem? (i := 2) rfl)) dX11_asked_32 ?_
        exact g_lretW hx hb hr hlk hP hS (ret2 hf) dX11_asked_35
      · have hf := if_f hf c5
        refine lv_iload_n hx hb dX11_asked_26 rfl (lv_at hl 3 rfl) ?_
        refine lv_bipush (v := 6) hx hb dX11_asked_27 (by decide) ?_
        refine lv_icmp_le (tgt := 36) hx hb dX11_asked_29 (by decide) (fun c6 => ?_) (fun c6 => ?_)
        · have hf := if_t hf c6
          refine lv_aload_n hx hb dX11_asked_36 rfl (lv_at hl 0 rfl) ?_
          refine g_get (Cn := RX11) (T := TX11) (N := 8) (v := .ref (a 3)) (own := RX11) hx hb hown hts hK X_O rfl (fun _ hw => List.mem_cons_of_mem _ (List.mem_append_left _ (List.mem_append_left _ (List.mem_append_right _ hw)))) 6 (by decide) (List.mem_of_getElem? (i := 3) rfl) rfl rfl hP dX11_asked_37 ?_
          refine lv_lconst (v := 0) hx hb dX11_asked_40 (by decide) ?_
          obtain ⟨q7, hq7, hf⟩ := bind_s hf
          refine g_callS (As := [.ref (a 3), .long 0]) (rest := []) hx hb hml hown hts hK hN (m_J7_fill_d0a16 l D a C ha h 3 9 0 (⟨by decide, rfl⟩ : gAL 3 9) q7 hq7) (va_cwS 2 hts gX11_asked_J7_fill_d0a16 rfl rfl rfl kdJ7_fill_d0a16.2 ⟨Nat.le_of_ble_eq_true rfl, Nat.le_of_ble_eq_true rfl⟩) hP hS hA rfl hl.1 rfl (Nat.le_of_ble_eq_true rfl) dX11_asked_41 ⟨Nat.le_refl _, Nat.le_refl _⟩ (fun H locs hP hS => ?_)
          refine W.eq (g2 := F0 m 44 ls []) rfl ?_
          refine lv_aload_n hx hb dX11_asked_44 rfl (lv_at hl 0 rfl) ?_
          refine g_get (Cn := RX11) (T := TX11) (N := 8) (v := .ref (a 3)) (own := RX11) hx hb hown hts hK X_O rfl (fun _ hw => List.mem_cons_of_mem _ (List.mem_append_left _ (List.mem_append_left _ (List.mem_append_right _ hw)))) 6 (by decide) (List.mem_of_getElem? (i := 3) rfl) rfl rfl hP dX11_asked_45 ?_
          refine lv_iload_n hx hb dX11_asked_48 rfl (lv_at hl 1 rfl) ?_
          refine lv_lconst (v := 1) hx hb dX11_asked_49 (by decide) ?_
          obtain ⟨c9, hf⟩ := gdi_s hf
          refine g_las hx hb hK ha hA (⟨by decide, rfl⟩ : gAL 3 9) c9 hP hS dX11_asked_50 (fun H locs hP hS => ?_)
          obtain ⟨h8, eh8⟩ : ∃ x, x = (sL q7 3 (vp_updL (aL q7 3) v1.toNatClampNeg 1)) := ⟨_, rfl⟩
          rw [← eh8] at hP
          have hf := nm_s hf eh8
          refine lv_lconst (v := 1) hx hb dX11_asked_51 (by decide) ?_
          refine lv_lstore (lv' := [(5, .long 1), (0, .ref (a 0)), (1, .int v1), (2, .int v2), (3, .int v3), (4, .int v4)]) hx hb dX11_asked_52 hl (by decide) rfl (fun ls hl => ?_)
          refine lv_iconst (v := 0) hx hb dX11_asked_54 (by decide) ?_
          refine lv_istore (lv' := [(7, .int 0), (5, .long 1), (0, .ref (a 0)), (1, .int v1), (2, .int v2), (3, .int v3), (4, .int v4)]) hx hb dX11_asked_55 hl (by decide) rfl (fun ls hl => ?_)
          exact J57 FU 1 0 h8 hf H locs ls hP hS (lv_sub hl [2, 4, 5, 6, 1, 0] rfl)
        · have hf := if_f hf c6
          refine lv_ldc2 (v := 1000000001) hx hb hown (hts _ (List.mem_of_getElem? (i := 2) rfl)) dX11_asked_32 ?_
          exact g_lretW hx hb hr hlk hP hS (ret2 hf) dX11_asked_35

def X11_settles (h : HS) (v1 : Int32) (v2 : Int32) : Option Int64 :=
    (X5_has h 5 v1).bind fun q1 =>
    (if q1 = 0 then
    some 1000000001
    else
    (X4_number h 6 v1).bind fun q3 =>
    (X4_numbers h 6).bind fun q4 =>
    (X11_fraction (q3.toInt64) (q4.toInt64) v2).bind fun q5 =>
    some q5)
def rmX11_settles : Room := { frames := 3, cells := 0, slots := 0, locals := 64 }
theorem kdX11_settles : yX11_settles.cls = RX11 ∧ yX11_settles.cls ≠ "java/lang/invoke/MethodHandle" ∧ yX11_settles.cls ≠ "java/lang/invoke/VarHandle" ∧ (parseMethodDescriptor yX11_settles.desc).map (fun d => d.parameters.length) = some 2 := by decide +kernel
set_option maxHeartbeats 4000000 in
set_option maxRecDepth 100000 in
theorem m_X11_settles (l : Launch) (D : va_G) (a : Nat → Nat) (C : Nat → ClassId) (ha : ginj a) (h : HS) (v1 : Int32) (v2 : Int32)  (r : Int64) (hf : X11_settles h v1 v2 = some r) : gM l yX11_settles wsX11_settles rmX11_settles D a C [.ref (a 0), .int v1, .int v2] h (some (.long r)) h := by
  refine g_start (av := [.ref (a 0), .int v1, .int v2]) (cc := cX11_settles) (maxL := 3) (rt := (some .long)) (by decide) rfl (Nat.le_of_ble_eq_true rfl) ?_
  intro p e s m below meth c hx hb hr hml hown hlk hts hP hK hN ls hl
  have hA : ∀ q, gA a q → gA a q := fun _ q => q
  have hS : va_S (gA a) s.heap s.heap [] := va_S.rf
  have hl : lv_has ls 3 [(0, .ref (a 0)), (1, .int v1), (2, .int v2)] := hl
  unfold X11_settles at hf
  refine lv_aload_n hx hb dX11_settles_0 rfl (lv_at hl 0 rfl) ?_
  refine g_get (Cn := RX11) (T := TX11) (N := 8) (v := .ref (a 5)) (own := RX11) hx hb hown hts hK X_O rfl (fun _ hw => List.mem_cons_of_mem _ (List.mem_append_left _ (List.mem_append_left _ (List.mem_append_right _ hw)))) 0 (by decide) (List.mem_of_getElem? (i := 1) rfl) rfl rfl hP dX11_settles_1 ?_
  refine lv_iload_n hx hb dX11_settles_4 rfl (lv_at hl 1 rfl) ?_
  obtain ⟨q1, hq1, hf⟩ := bind_s hf
  refine g_callV (As := [.int v1]) (rest := []) hx hb hml hown hts hK hN (m_X5_has l D a C ha h 5 v1 isPar5 q1 hq1) (cwV 1 hts gX11_settles_X5_has rfl rfl rfl kdX5_has ⟨Nat.le_of_ble_eq_true rfl, Nat.le_of_ble_eq_true rfl⟩) (par_O isPar5) rfl rfl hP hS hA rfl hl.1 rfl (Nat.le_of_ble_eq_true rfl) dX11_settles_5 ⟨Nat.le_refl _, Nat.le_refl _⟩ (fun H locs hP hS => ?_)
  refine W.eq (g2 := F0 m 8 ls [.int q1]) rfl ?_
  refine lv_if_eq (tgt := 41) hx hb dX11_settles_8 (by decide) (fun c2 => ?_) (fun c2 => ?_)
  · have hf := if_t hf c2
    refine lv_ldc2 (v := 1000000001) hx hb hown (hts _ (List.mem_of_getElem? (i := 2) rfl)) dX11_settles_41 ?_
    exact g_lret hx hb hr hlk hP hS (ret1 hf) dX11_settles_44
  · have hf := if_f hf c2
    refine lv_aload_n hx hb dX11_settles_11 rfl (lv_at hl 0 rfl) ?_
    refine g_get (Cn := RX11) (T := TX11) (N := 8) (v := .ref (a 5)) (own := RX11) hx hb hown hts hK X_O rfl (fun _ hw => List.mem_cons_of_mem _ (List.mem_append_left _ (List.mem_append_left _ (List.mem_append_right _ hw)))) 0 (by decide) (List.mem_of_getElem? (i := 1) rfl) rfl rfl hP dX11_settles_12 ?_
    refine g_getN (Cn := RX5) (T := TX5) (N := 7) (v := .ref (a 6)) (own := RX11) hx hb hown hts hK hN (par_O isPar5) rfl (fun _ hw => List.mem_cons_of_mem _ (List.mem_append_left _ (List.mem_append_right _ hw))) 0 (by decide) (List.mem_of_getElem? (i := 6) rfl) rfl rfl hP dX11_settles_15 ?_
    refine lv_iload_n hx hb dX11_settles_18 rfl (lv_at hl 1 rfl) ?_
    obtain ⟨q3, hq3, hf⟩ := bind_s hf
    refine g_callV (As := [.int v1]) (rest := []) hx hb hml hown hts hK hN (m_X4_number l D a C ha h 6 v1 (par_lin isPar5) q3 hq3) (cwV 1 hts gX11_settles_X4_number rfl rfl rfl kdX4_number ⟨Nat.le_of_ble_eq_true rfl, Nat.le_of_ble_eq_true rfl⟩) (lin_O (par_lin isPar5)) rfl rfl hP hS hA rfl hl.1 rfl (Nat.le_of_ble_eq_true rfl) dX11_settles_19 ⟨Nat.le_refl _, Nat.le_refl _⟩ (fun H locs hP hS => ?_)
    refine W.eq (g2 := F0 m 22 ls [.int q3]) rfl ?_
    refine lv_i2l hx hb dX11_settles_22 rfl ?_
    refine lv_aload_n hx hb dX11_settles_23 rfl (lv_at hl 0 rfl) ?_
    refine g_get (Cn := RX11) (T := TX11) (N := 8) (v := .ref (a 5)) (own := RX11) hx hb hown hts hK X_O rfl (fun _ hw => List.mem_cons_of_mem _ (List.mem_append_left _ (List.mem_append_left _ (List.mem_append_right _ hw)))) 0 (by decide) (List.mem_of_getElem? (i := 1) rfl) rfl rfl hP dX11_settles_24 ?_
    refine g_getN (Cn := RX5) (T := TX5) (N := 7) (v := .ref (a 6)) (own := RX11) hx hb hown hts hK hN (par_O isPar5) rfl (fun _ hw => List.mem_cons_of_mem _ (List.mem_append_left _ (List.mem_append_right _ hw))) 0 (by decide) (List.mem_of_getElem? (i := 6) rfl) rfl rfl hP dX11_settles_27 ?_
    obtain ⟨q4, hq4, hf⟩ := bind_s hf
    refine g_callV (As := []) (rest := [.long (q3.toInt64)]) hx hb hml hown hts hK hN (m_X4_numbers l D a C ha h 6 (par_lin isPar5) q4 hq4) (cwV 0 hts gX11_settles_X4_numbers rfl rfl rfl kdX4_numbers ⟨Nat.le_of_ble_eq_true rfl, Nat.le_of_ble_eq_true rfl⟩) (lin_O (par_lin isPar5)) rfl rfl hP hS hA rfl hl.1 rfl (Nat.le_of_ble_eq_true rfl) dX11_settles_30 ⟨Nat.le_refl _, Nat.le_refl _⟩ (fun H locs hP hS => ?_)
    refine W.eq (g2 := F0 m 33 ls [.int q4, .long (q3.toInt64)]) rfl ?_
    refine lv_i2l hx hb dX11_settles_33 rfl ?_
    refine lv_iload_n hx hb dX11_settles_34 rfl (lv_at hl 2 rfl) ?_
    obtain ⟨q5, hq5, hf⟩ := bind_s hf
    refine g_callS (As := [.long (q3.toInt64), .long (q4.toInt64), .int v2]) (rest := []) hx hb hml hown hts hK hN (m_X11_fraction l D a C ha h (q3.toInt64) (q4.toInt64) v2  q5 hq5) (va_cwS 3 hts gX11_settles_X11_fraction rfl rfl rfl kdX11_fraction.2 ⟨Nat.le_of_ble_eq_true rfl, Nat.le_of_ble_eq_true rfl⟩) hP hS hA rfl hl.1 rfl (Nat.le_of_ble_eq_true rfl) dX11_settles_35 ⟨Nat.le_refl _, Nat.le_refl _⟩ (fun H locs hP hS => ?_)
    refine W.eq (g2 := F0 m 38 ls [.long q5]) rfl ?_
    refine lv_goto (tgt := 44) hx hb dX11_settles_38 (by decide) ?_
    exact g_lret hx hb hr hlk hP hS (ret1 hf) dX11_settles_44

def X11_circle (h : HS) (v1 : Int32) : Option (Int32 × HS) :=
    (if v1 = 0 then
    (X4_mostAlike h 6 1).bind fun q2 =>
    some (q2, h)
    else
    (if v1 = 1 then
    (X4_mostAlike h 6 0).bind fun q4 =>
    some (q4, h)
    else
    (if v1 = 2 then
    (X4_fewestPews h 6).bind fun q6 =>
    some (q6.1, q6.2)
    else
    some ((-1), h))))
def rmX11_circle : Room := { frames := 4, cells := 0, slots := 0, locals := 91 }
theorem kdX11_circle : yX11_circle.cls = RX11 ∧ yX11_circle.cls ≠ "java/lang/invoke/MethodHandle" ∧ yX11_circle.cls ≠ "java/lang/invoke/VarHandle" ∧ (parseMethodDescriptor yX11_circle.desc).map (fun d => d.parameters.length) = some 1 := by decide +kernel
set_option maxHeartbeats 4000000 in
set_option maxRecDepth 100000 in
theorem m_X11_circle (l : Launch) (D : va_G) (a : Nat → Nat) (C : Nat → ClassId) (ha : ginj a) (h : HS) (v1 : Int32)  (r : Int32) (h' : HS) (hf : X11_circle h v1 = some (r, h')) : gM l yX11_circle wsX11_circle rmX11_circle D a C [.ref (a 0), .int v1] h (some (.int r)) h' := by
  refine g_start (av := [.ref (a 0), .int v1]) (cc := cX11_circle) (maxL := 2) (rt := (some .int)) (by decide) rfl (Nat.le_of_ble_eq_true rfl) ?_
  intro p e s m below meth c hx hb hr hml hown hlk hts hP hK hN ls hl
  have hA : ∀ q, gA a q → gA a q := fun _ q => q
  have hS : va_S (gA a) s.heap s.heap [] := va_S.rf
  have hl : lv_has ls 2 [(0, .ref (a 0)), (1, .int v1)] := hl
  unfold X11_circle at hf
  refine lv_iload_n hx hb dX11_circle_0 rfl (lv_at hl 1 rfl) ?_
  by_cases c1 : v1 = 0
  · have hf := if_t hf c1
    refine lv_tableIn (tgt := 28) hx hb dX11_circle_1 (by rw [c1]; decide) (by rw [c1]; decide) (by rw [c1]; rfl) (by decide) ?_
    refine lv_aload_n hx hb dX11_circle_28 rfl (lv_at hl 0 rfl) ?_
    refine g_get (Cn := RX11) (T := TX11) (N := 8) (v := .ref (a 5)) (own := RX11) hx hb hown hts hK X_O rfl (fun _ hw => List.mem_cons_of_mem _ (List.mem_append_left _ (List.mem_append_left _ (List.mem_append_right _ hw)))) 0 (by decide) (List.mem_of_getElem? (i := 1) rfl) rfl rfl hP dX11_circle_29 ?_
    refine g_getN (Cn := RX5) (T := TX5) (N := 7) (v := .ref (a 6)) (own := RX11) hx hb hown hts hK hN (par_O isPar5) rfl (fun _ hw => List.mem_cons_of_mem _ (List.mem_append_left _ (List.mem_append_right _ hw))) 0 (by decide) (List.mem_of_getElem? (i := 6) rfl) rfl rfl hP dX11_circle_32 ?_
    refine lv_iconst (v := 1) hx hb dX11_circle_35 (by decide) ?_
    obtain ⟨q2, hq2, hf⟩ := bind_s hf
    refine g_callV (As := [.int 1]) (rest := []) hx hb hml hown hts hK hN (m_X4_mostAlike l D a C ha h 6 1 (par_lin isPar5) q2 hq2) (cwV 1 hts gX11_circle_X4_mostAlike rfl rfl rfl kdX4_mostAlike ⟨Nat.le_of_ble_eq_true rfl, Nat.le_of_ble_eq_true rfl⟩) (lin_O (par_lin isPar5)) rfl rfl hP hS hA rfl hl.1 rfl (Nat.le_of_ble_eq_true rfl) dX11_circle_36 ⟨Nat.le_refl _, Nat.le_refl _⟩ (fun H locs hP hS => ?_)
    refine W.eq (g2 := F0 m 39 ls [.int q2]) rfl ?_
    exact g_iretW hx hb hr hlk hP hS (ret2 hf) dX11_circle_39
  have hf := if_f hf c1
  by_cases c3 : v1 = 1
  · have hf := if_t hf c3
    refine lv_tableIn (tgt := 40) hx hb dX11_circle_1 (by rw [c3]; decide) (by rw [c3]; decide) (by rw [c3]; rfl) (by decide) ?_
    refine lv_aload_n hx hb dX11_circle_40 rfl (lv_at hl 0 rfl) ?_
    refine g_get (Cn := RX11) (T := TX11) (N := 8) (v := .ref (a 5)) (own := RX11) hx hb hown hts hK X_O rfl (fun _ hw => List.mem_cons_of_mem _ (List.mem_append_left _ (List.mem_append_left _ (List.mem_append_right _ hw)))) 0 (by decide) (List.mem_of_getElem? (i := 1) rfl) rfl rfl hP dX11_circle_41 ?_
    refine g_getN (Cn := RX5) (T := TX5) (N := 7) (v := .ref (a 6)) (own := RX11) hx hb hown hts hK hN (par_O isPar5) rfl (fun _ hw => List.mem_cons_of_mem _ (List.mem_append_left _ (List.mem_append_right _ hw))) 0 (by decide) (List.mem_of_getElem? (i := 6) rfl) rfl rfl hP dX11_circle_44 ?_
    refine lv_iconst (v := 0) hx hb dX11_circle_47 (by decide) ?_
    obtain ⟨q4, hq4, hf⟩ := bind_s hf
    refine g_callV (As := [.int 0]) (rest := []) hx hb hml hown hts hK hN (m_X4_mostAlike l D a C ha h 6 0 (par_lin isPar5) q4 hq4) (cwV 1 hts gX11_circle_X4_mostAlike rfl rfl rfl kdX4_mostAlike ⟨Nat.le_of_ble_eq_true rfl, Nat.le_of_ble_eq_true rfl⟩) (lin_O (par_lin isPar5)) rfl rfl hP hS hA rfl hl.1 rfl (Nat.le_of_ble_eq_true rfl) dX11_circle_48 ⟨Nat.le_refl _, Nat.le_refl _⟩ (fun H locs hP hS => ?_)
    refine W.eq (g2 := F0 m 51 ls [.int q4]) rfl ?_
    exact g_iretW hx hb hr hlk hP hS (ret2 hf) dX11_circle_51
  have hf := if_f hf c3
  by_cases c5 : v1 = 2
  · have hf := if_t hf c5
    refine lv_tableIn (tgt := 52) hx hb dX11_circle_1 (by rw [c5]; decide) (by rw [c5]; decide) (by rw [c5]; rfl) (by decide) ?_
    refine lv_aload_n hx hb dX11_circle_52 rfl (lv_at hl 0 rfl) ?_
    refine g_get (Cn := RX11) (T := TX11) (N := 8) (v := .ref (a 5)) (own := RX11) hx hb hown hts hK X_O rfl (fun _ hw => List.mem_cons_of_mem _ (List.mem_append_left _ (List.mem_append_left _ (List.mem_append_right _ hw)))) 0 (by decide) (List.mem_of_getElem? (i := 1) rfl) rfl rfl hP dX11_circle_53 ?_
    refine g_getN (Cn := RX5) (T := TX5) (N := 7) (v := .ref (a 6)) (own := RX11) hx hb hown hts hK hN (par_O isPar5) rfl (fun _ hw => List.mem_cons_of_mem _ (List.mem_append_left _ (List.mem_append_right _ hw))) 0 (by decide) (List.mem_of_getElem? (i := 6) rfl) rfl rfl hP dX11_circle_56 ?_
    obtain ⟨q6, hq6, hf⟩ := bind_s hf
    refine g_callV (As := []) (rest := []) hx hb hml hown hts hK hN (m_X4_fewestPews l D a C ha h 6 (par_lin isPar5) q6.1 q6.2 hq6) (cwV 0 hts gX11_circle_X4_fewestPews rfl rfl rfl kdX4_fewestPews ⟨Nat.le_of_ble_eq_true rfl, Nat.le_of_ble_eq_true rfl⟩) (lin_O (par_lin isPar5)) rfl rfl hP hS hA rfl hl.1 rfl (Nat.le_of_ble_eq_true rfl) dX11_circle_59 ⟨Nat.le_refl _, Nat.le_refl _⟩ (fun H locs hP hS => ?_)
    refine W.eq (g2 := F0 m 62 ls [.int q6.1]) rfl ?_
    exact g_iretW hx hb hr hlk hP hS (ret2 hf) dX11_circle_62
  have hf := if_f hf c5
  refine lv_tableOut (tgt := 63) hx hb dX11_circle_1 (by have n0 := ti_nz (z := 0) (by decide) c1; have n1 := ti_nz (z := 1) (by decide) c3; have n2 := ti_nz (z := 2) (by decide) c5; omega) (by decide) ?_
  refine lv_iconst (v := (-1)) hx hb dX11_circle_63 (by decide) ?_
  exact g_iretW hx hb hr hlk hP hS (ret2 hf) dX11_circle_64

def X11_fire (h : HS) (v1 : Int32) : Option (Int32 × HS) :=
    (if v1 = (-1) then
    (X4_mostTwos h 6).bind fun q5 =>
    some (q5.1, q5.2)
    else
    (X5_has h 5 v1).bind fun q2 =>
    (if q2 = 0 then
    some ((-1), h)
    else
    (X4_mateOf h 6 v1).bind fun q4 =>
    some (q4.1, q4.2)))
def rmX11_fire : Room := { frames := 4, cells := 0, slots := 0, locals := 91 }
theorem kdX11_fire : yX11_fire.cls = RX11 ∧ yX11_fire.cls ≠ "java/lang/invoke/MethodHandle" ∧ yX11_fire.cls ≠ "java/lang/invoke/VarHandle" ∧ (parseMethodDescriptor yX11_fire.desc).map (fun d => d.parameters.length) = some 1 := by decide +kernel
set_option maxHeartbeats 4000000 in
set_option maxRecDepth 100000 in
theorem m_X11_fire (l : Launch) (D : va_G) (a : Nat → Nat) (C : Nat → ClassId) (ha : ginj a) (h : HS) (v1 : Int32)  (r : Int32) (h' : HS) (hf : X11_fire h v1 = some (r, h')) : gM l yX11_fire wsX11_fire rmX11_fire D a C [.ref (a 0), .int v1] h (some (.int r)) h' := by
  refine g_start (av := [.ref (a 0), .int v1]) (cc := cX11_fire) (maxL := 2) (rt := (some .int)) (by decide) rfl (Nat.le_of_ble_eq_true rfl) ?_
  intro p e s m below meth c hx hb hr hml hown hlk hts hP hK hN ls hl
  have hA : ∀ q, gA a q → gA a q := fun _ q => q
  have hS : va_S (gA a) s.heap s.heap [] := va_S.rf
  have hl : lv_has ls 2 [(0, .ref (a 0)), (1, .int v1)] := hl
  unfold X11_fire at hf
  refine lv_iload_n hx hb dX11_fire_0 rfl (lv_at hl 1 rfl) ?_
  refine lv_iconst (v := (-1)) hx hb dX11_fire_1 (by decide) ?_
  refine lv_icmp_ne (tgt := 16) hx hb dX11_fire_2 (by decide) (fun c1 => ?_) (fun c1 => ?_)
  · have hf := if_f hf c1
    refine lv_aload_n hx hb dX11_fire_16 rfl (lv_at hl 0 rfl) ?_
    refine g_get (Cn := RX11) (T := TX11) (N := 8) (v := .ref (a 5)) (own := RX11) hx hb hown hts hK X_O rfl (fun _ hw => List.mem_cons_of_mem _ (List.mem_append_left _ (List.mem_append_left _ (List.mem_append_right _ hw)))) 0 (by decide) (List.mem_of_getElem? (i := 1) rfl) rfl rfl hP dX11_fire_17 ?_
    refine lv_iload_n hx hb dX11_fire_20 rfl (lv_at hl 1 rfl) ?_
    obtain ⟨q2, hq2, hf⟩ := bind_s hf
    refine g_callV (As := [.int v1]) (rest := []) hx hb hml hown hts hK hN (m_X5_has l D a C ha h 5 v1 isPar5 q2 hq2) (cwV 1 hts gX11_fire_X5_has rfl rfl rfl kdX5_has ⟨Nat.le_of_ble_eq_true rfl, Nat.le_of_ble_eq_true rfl⟩) (par_O isPar5) rfl rfl hP hS hA rfl hl.1 rfl (Nat.le_of_ble_eq_true rfl) dX11_fire_21 ⟨Nat.le_refl _, Nat.le_refl _⟩ (fun H locs hP hS => ?_)
    refine W.eq (g2 := F0 m 24 ls [.int q2]) rfl ?_
    refine lv_if_eq (tgt := 41) hx hb dX11_fire_24 (by decide) (fun c3 => ?_) (fun c3 => ?_)
    · have hf := if_t hf c3
      refine lv_iconst (v := (-1)) hx hb dX11_fire_41 (by decide) ?_
      exact g_iretW hx hb hr hlk hP hS (ret2 hf) dX11_fire_42
    · have hf := if_f hf c3
      refine lv_aload_n hx hb dX11_fire_27 rfl (lv_at hl 0 rfl) ?_
      refine g_get (Cn := RX11) (T := TX11) (N := 8) (v := .ref (a 5)) (own := RX11) hx hb hown hts hK X_O rfl (fun _ hw => List.mem_cons_of_mem _ (List.mem_append_left _ (List.mem_append_left _ (List.mem_append_right _ hw)))) 0 (by decide) (List.mem_of_getElem? (i := 1) rfl) rfl rfl hP dX11_fire_28 ?_
      refine g_getN (Cn := RX5) (T := TX5) (N := 7) (v := .ref (a 6)) (own := RX11) hx hb hown hts hK hN (par_O isPar5) rfl (fun _ hw => List.mem_cons_of_mem _ (List.mem_append_left _ (List.mem_append_right _ hw))) 0 (by decide) (List.mem_of_getElem? (i := 6) rfl) rfl rfl hP dX11_fire_31 ?_
      refine lv_iload_n hx hb dX11_fire_34 rfl (lv_at hl 1 rfl) ?_
      obtain ⟨q4, hq4, hf⟩ := bind_s hf
      refine g_callV (As := [.int v1]) (rest := []) hx hb hml hown hts hK hN (m_X4_mateOf l D a C ha h 6 v1 (par_lin isPar5) q4.1 q4.2 hq4) (cwV 1 hts gX11_fire_X4_mateOf rfl rfl rfl kdX4_mateOf ⟨Nat.le_of_ble_eq_true rfl, Nat.le_of_ble_eq_true rfl⟩) (lin_O (par_lin isPar5)) rfl rfl hP hS hA rfl hl.1 rfl (Nat.le_of_ble_eq_true rfl) dX11_fire_35 ⟨Nat.le_refl _, Nat.le_refl _⟩ (fun H locs hP hS => ?_)
      refine W.eq (g2 := F0 m 38 ls [.int q4.1]) rfl ?_
      refine lv_goto (tgt := 42) hx hb dX11_fire_38 (by decide) ?_
      exact g_iretW hx hb hr hlk hP hS (ret2 hf) dX11_fire_42
  · have hf := if_t hf c1
    refine lv_aload_n hx hb dX11_fire_5 rfl (lv_at hl 0 rfl) ?_
    refine g_get (Cn := RX11) (T := TX11) (N := 8) (v := .ref (a 5)) (own := RX11) hx hb hown hts hK X_O rfl (fun _ hw => List.mem_cons_of_mem _ (List.mem_append_left _ (List.mem_append_left _ (List.mem_append_right _ hw)))) 0 (by decide) (List.mem_of_getElem? (i := 1) rfl) rfl rfl hP dX11_fire_6 ?_
    refine g_getN (Cn := RX5) (T := TX5) (N := 7) (v := .ref (a 6)) (own := RX11) hx hb hown hts hK hN (par_O isPar5) rfl (fun _ hw => List.mem_cons_of_mem _ (List.mem_append_left _ (List.mem_append_right _ hw))) 0 (by decide) (List.mem_of_getElem? (i := 6) rfl) rfl rfl hP dX11_fire_9 ?_
    obtain ⟨q5, hq5, hf⟩ := bind_s hf
    refine g_callV (As := []) (rest := []) hx hb hml hown hts hK hN (m_X4_mostTwos l D a C ha h 6 (par_lin isPar5) q5.1 q5.2 hq5) (cwV 0 hts gX11_fire_X4_mostTwos rfl rfl rfl kdX4_mostTwos ⟨Nat.le_of_ble_eq_true rfl, Nat.le_of_ble_eq_true rfl⟩) (lin_O (par_lin isPar5)) rfl rfl hP hS hA rfl hl.1 rfl (Nat.le_of_ble_eq_true rfl) dX11_fire_12 ⟨Nat.le_refl _, Nat.le_refl _⟩ (fun H locs hP hS => ?_)
    refine W.eq (g2 := F0 m 15 ls [.int q5.1]) rfl ?_
    exact g_iretW hx hb hr hlk hP hS (ret2 hf) dX11_fire_15

def X11_sortNumbers_B82 (v1 : Nat) (k13 : Int32 → HS → Option (Int32 × HS)) (v2 : Int32) (v3 : Int32) (v4 : Int32) (h : HS) : Option (Int32 × HS) :=
    gdi v4 9 <|
    nm (sA h 2 (upd (aI h 2) v4.toNatClampNeg v3)) fun h15 =>
    nm (v2 + 1) fun x17 =>
    k13 x17 h15
def X11_sortNumbers_B42 (v1 : Nat) (k13 : Int32 → HS → Option (Int32 × HS)) : Nat → Int32 → Int32 → Int32 → HS → Option (Int32 × HS)
  | 0, _, _, _, _ => none
  | fu + 1, v2, v3, v4, h =>
    (if v4 ≤ 0 then
    X11_sortNumbers_B82 v1 k13 v2 v3 v4 h
    else
    gdi (v4 - 1) 9 <|
    (if v3 ≤ (aI h 2 (v4 - 1).toNatClampNeg) then
    X11_sortNumbers_B82 v1 k13 v2 v3 v4 h
    else
    gdi (v4 - 1) 9 <|
    gdi v4 9 <|
    nm (sA h 2 (upd (aI h 2) v4.toNatClampNeg (aI h 2 (v4 - 1).toNatClampNeg))) fun h12 =>
    nm (v4 + (-1)) fun x14 =>
    (X11_sortNumbers_B42 v1 k13 fu) v2 v3 x14 h12))
def X11_sortNumbers_B13 (v1 : Nat) : Nat → Int32 → HS → Option (Int32 × HS)
  | 0, _, _ => none
  | fu + 1, v2, h =>
    (X7_size h v1).bind fun q3 =>
    (if q3 ≤ v2 then
    some (1, h)
    else
    (X7_at h v1 v2).bind fun q5 =>
    (if q5 < 0 then
    some (0, h)
    else
    (if q5 < 9 then
    X11_sortNumbers_B42 v1 (X11_sortNumbers_B13 v1 fu) FU v2 q5 v2 h
    else
    some (0, h))))
def X11_sortNumbers (h : HS) (v1 : Nat) : Option (Int32 × HS) :=
    (X7_size h v1).bind fun q1 =>
    (if q1 ≤ 9 then
    X11_sortNumbers_B13 v1 FU 0 h
    else
    some (0, h))
def rmX11_sortNumbers : Room := { frames := 2, cells := 0, slots := 0, locals := 42 }
theorem kdX11_sortNumbers : yX11_sortNumbers.cls = RX11 ∧ yX11_sortNumbers.cls ≠ "java/lang/invoke/MethodHandle" ∧ yX11_sortNumbers.cls ≠ "java/lang/invoke/VarHandle" ∧ (parseMethodDescriptor yX11_sortNumbers.desc).map (fun d => d.parameters.length) = some 1 := by decide +kernel
set_option maxHeartbeats 4000000 in
set_option maxRecDepth 100000 in
theorem m_X11_sortNumbers (l : Launch) (D : va_G) (a : Nat → Nat) (C : Nat → ClassId) (ha : ginj a) (h : HS) (v1 : Nat) (hv1 : isShf v1) (r : Int32) (h' : HS) (hf : X11_sortNumbers h v1 = some (r, h')) : gM l yX11_sortNumbers wsX11_sortNumbers rmX11_sortNumbers D a C [.ref (a 0), .ref (a v1)] h (some (.int r)) h' := by
  refine g_start (av := [.ref (a 0), .ref (a v1)]) (cc := cX11_sortNumbers) (maxL := 5) (rt := (some .boolean)) (by decide) rfl (Nat.le_of_ble_eq_true rfl) ?_
  intro p e s m below meth c hx hb hr hml hown hlk hts hP hK hN ls hl
  have hA : ∀ q, gA a q → gA a q := fun _ q => q
  have hS : va_S (gA a) s.heap s.heap [] := va_S.rf
  have hl : lv_has ls 5 [(0, .ref (a 0)), (1, .ref (a v1))] := hl
  have J82 : ∀ (k13 : Int32 → HS → Option (Int32 × HS)) (hk13 : ∀ (v2 : Int32) (h : HS), k13 v2 h = some (r, h') → gG p l e (headSpec wsX11_sortNumbers rmX11_sortNumbers).room s m ([.ref (a 0), .ref (a v1)] : List Value).toArray below meth c (MQ below (gQ (some (.int r)) D a C h') ([.ref (a 0), .ref (a v1)] : List Value).toArray s 0 0 (gA a)) D a C 5 h 13 [(0, .ref (a 0)), (1, .ref (a v1)), (2, .int v2)] []) (v2 : Int32) (v3 : Int32) (v4 : Int32) (h : HS) (_ : X11_sortNumbers_B82 v1 k13 v2 v3 v4 h = some (r, h')), gG p l e (headSpec wsX11_sortNumbers rmX11_sortNumbers).room s m ([.ref (a 0), .ref (a v1)] : List Value).toArray below meth c (MQ below (gQ (some (.int r)) D a C h') ([.ref (a 0), .ref (a v1)] : List Value).toArray s 0 0 (gA a)) D a C 5 h 82 [(0, .ref (a 0)), (1, .ref (a v1)), (2, .int v2), (3, .int v3), (4, .int v4)] [] := by
    intro k13 hk13 v2 v3 v4 h hf H locs ls hP hS hl
    unfold X11_sortNumbers_B82 at hf
    refine lv_aload_n hx hb dX11_sortNumbers_82 rfl (lv_at hl 0 rfl) ?_
    refine g_get (Cn := RX11) (T := TX11) (N := 8) (v := .ref (a 2)) (own := RX11) hx hb hown hts hK X_O rfl (fun _ hw => List.mem_cons_of_mem _ (List.mem_append_left _ (List.mem_append_right _ hw))) 5 (by decide) (List.mem_of_getElem? (i := 1) rfl) rfl rfl hP dX11_sortNumbers_83 ?_
    refine lv_iload hx hb dX11_sortNumbers_86 (lv_at hl 4 rfl) ?_
    refine lv_iload_n hx hb dX11_sortNumbers_88 rfl (lv_at hl 3 rfl) ?_
    obtain ⟨c16, hf⟩ := gdi_s hf
    refine g_ias hx hb hK ha hA (⟨by decide, rfl⟩ : gAI 2 9) c16 hP hS dX11_sortNumbers_89 (fun H locs hP hS => ?_)
    obtain ⟨h15, eh15⟩ : ∃ x, x = (sA h 2 (upd (aI h 2) v4.toNatClampNeg v3)) := ⟨_, rfl⟩
    rw [← eh15] at hP
    have hf := nm_s hf eh15
    obtain ⟨x17, ex17⟩ : ∃ y : Int32, y = (v2 + 1) := ⟨_, rfl⟩
    have hf := nm_s hf ex17
    refine lv_iinc (v := x17) (lv' := [(2, .int x17), (0, .ref (a 0)), (1, .ref (a v1)), (3, .int v3), (4, .int v4)]) hx hb dX11_sortNumbers_90 hl (k := 2) rfl (by rw [ex17]; rfl) (by decide) rfl (fun ls hl => ?_)
    refine lv_goto (tgt := 13) hx hb dX11_sortNumbers_93 (by decide) ?_
    exact hk13 x17 h15 hf H locs ls hP hS (lv_sub hl [1, 2, 0] rfl)
  have J42 : ∀ (k13 : Int32 → HS → Option (Int32 × HS)) (hk13 : ∀ (v2 : Int32) (h : HS), k13 v2 h = some (r, h') → gG p l e (headSpec wsX11_sortNumbers rmX11_sortNumbers).room s m ([.ref (a 0), .ref (a v1)] : List Value).toArray below meth c (MQ below (gQ (some (.int r)) D a C h') ([.ref (a 0), .ref (a v1)] : List Value).toArray s 0 0 (gA a)) D a C 5 h 13 [(0, .ref (a 0)), (1, .ref (a v1)), (2, .int v2)] []) (fu : Nat) (v2 : Int32) (v3 : Int32) (v4 : Int32) (h : HS), X11_sortNumbers_B42 v1 k13 fu v2 v3 v4 h = some (r, h') → gG p l e (headSpec wsX11_sortNumbers rmX11_sortNumbers).room s m ([.ref (a 0), .ref (a v1)] : List Value).toArray below meth c (MQ below (gQ (some (.int r)) D a C h') ([.ref (a 0), .ref (a v1)] : List Value).toArray s 0 0 (gA a)) D a C 5 h 42 [(0, .ref (a 0)), (1, .ref (a v1)), (2, .int v2), (3, .int v3), (4, .int v4)] [] := by
    intro k13 hk13 fu
    induction fu with
    | zero => intro v2 v3 v4 h hf; exact absurd hf (by simp [X11_sortNumbers_B42])
    | succ fu ih =>
      intro v2 v3 v4 h hf H locs ls hP hS hl
      rw [X11_sortNumbers_B42] at hf
      refine lv_iload hx hb dX11_sortNumbers_42 (lv_at hl 4 rfl) ?_
      refine lv_if_le (tgt := 82) hx hb dX11_sortNumbers_44 (by decide) (fun c8 => ?_) (fun c8 => ?_)
      · have hf := if_t hf c8
        exact J82 k13 hk13 v2 v3 v4 h hf H locs ls hP hS (lv_sub hl [0, 1, 2, 3, 4] rfl)
      · have hf := if_f hf c8
        refine lv_aload_n hx hb dX11_sortNumbers_47 rfl (lv_at hl 0 rfl) ?_
        refine g_get (Cn := RX11) (T := TX11) (N := 8) (v := .ref (a 2)) (own := RX11) hx hb hown hts hK X_O rfl (fun _ hw => List.mem_cons_of_mem _ (List.mem_append_left _ (List.mem_append_right _ hw))) 5 (by decide) (List.mem_of_getElem? (i := 1) rfl) rfl rfl hP dX11_sortNumbers_48 ?_
        refine lv_iload hx hb dX11_sortNumbers_51 (lv_at hl 4 rfl) ?_
        refine lv_iconst (v := 1) hx hb dX11_sortNumbers_53 (by decide) ?_
        refine lv_isub hx hb dX11_sortNumbers_54 ?_
        obtain ⟨c9, hf⟩ := gdi_s hf
        refine g_ial hx hb hK (⟨by decide, rfl⟩ : gAI 2 9) c9 hP dX11_sortNumbers_55 ?_
        refine lv_iload_n hx hb dX11_sortNumbers_56 rfl (lv_at hl 3 rfl) ?_
        refine lv_icmp_ge (tgt := 82) hx hb dX11_sortNumbers_57 (by decide) (fun c10 => ?_) (fun c10 => ?_)
        · have hf := if_t hf c10
          exact J82 k13 hk13 v2 v3 v4 h hf H locs ls hP hS (lv_sub hl [0, 1, 2, 3, 4] rfl)
        · have hf := if_f hf c10
          refine lv_aload_n hx hb dX11_sortNumbers_60 rfl (lv_at hl 0 rfl) ?_
          refine g_get (Cn := RX11) (T := TX11) (N := 8) (v := .ref (a 2)) (own := RX11) hx hb hown hts hK X_O rfl (fun _ hw => List.mem_cons_of_mem _ (List.mem_append_left _ (List.mem_append_right _ hw))) 5 (by decide) (List.mem_of_getElem? (i := 1) rfl) rfl rfl hP dX11_sortNumbers_61 ?_
          refine lv_iload hx hb dX11_sortNumbers_64 (lv_at hl 4 rfl) ?_
          refine lv_aload_n hx hb dX11_sortNumbers_66 rfl (lv_at hl 0 rfl) ?_
          refine g_get (Cn := RX11) (T := TX11) (N := 8) (v := .ref (a 2)) (own := RX11) hx hb hown hts hK X_O rfl (fun _ hw => List.mem_cons_of_mem _ (List.mem_append_left _ (List.mem_append_right _ hw))) 5 (by decide) (List.mem_of_getElem? (i := 1) rfl) rfl rfl hP dX11_sortNumbers_67 ?_
          refine lv_iload hx hb dX11_sortNumbers_70 (lv_at hl 4 rfl) ?_
          refine lv_iconst (v := 1) hx hb dX11_sortNumbers_72 (by decide) ?_
          refine lv_isub hx hb dX11_sortNumbers_73 ?_
          obtain ⟨c11, hf⟩ := gdi_s hf
          refine g_ial hx hb hK (⟨by decide, rfl⟩ : gAI 2 9) c11 hP dX11_sortNumbers_74 ?_
          obtain ⟨c13, hf⟩ := gdi_s hf
          refine g_ias hx hb hK ha hA (⟨by decide, rfl⟩ : gAI 2 9) c13 hP hS dX11_sortNumbers_75 (fun H locs hP hS => ?_)
          obtain ⟨h12, eh12⟩ : ∃ x, x = (sA h 2 (upd (aI h 2) v4.toNatClampNeg (aI h 2 (v4 - 1).toNatClampNeg))) := ⟨_, rfl⟩
          rw [← eh12] at hP
          have hf := nm_s hf eh12
          obtain ⟨x14, ex14⟩ : ∃ y : Int32, y = (v4 + (-1)) := ⟨_, rfl⟩
          have hf := nm_s hf ex14
          refine lv_iinc (v := x14) (lv' := [(4, .int x14), (0, .ref (a 0)), (1, .ref (a v1)), (2, .int v2), (3, .int v3)]) hx hb dX11_sortNumbers_76 hl (k := 4) rfl (by rw [ex14]; rfl) (by decide) rfl (fun ls hl => ?_)
          refine lv_goto (tgt := 42) hx hb dX11_sortNumbers_79 (by decide) ?_
          exact ih v2 v3 x14 h12 hf H locs ls hP hS (lv_sub hl [1, 2, 3, 4, 0] rfl)
  have J13 : ∀ (fu : Nat) (v2 : Int32) (h : HS), X11_sortNumbers_B13 v1 fu v2 h = some (r, h') → gG p l e (headSpec wsX11_sortNumbers rmX11_sortNumbers).room s m ([.ref (a 0), .ref (a v1)] : List Value).toArray below meth c (MQ below (gQ (some (.int r)) D a C h') ([.ref (a 0), .ref (a v1)] : List Value).toArray s 0 0 (gA a)) D a C 5 h 13 [(0, .ref (a 0)), (1, .ref (a v1)), (2, .int v2)] [] := by
    intro fu
    induction fu with
    | zero => intro v2 h hf; exact absurd hf (by simp [X11_sortNumbers_B13])
    | succ fu ih =>
      intro v2 h hf H locs ls hP hS hl
      rw [X11_sortNumbers_B13] at hf
      refine lv_iload_n hx hb dX11_sortNumbers_13 rfl (lv_at hl 2 rfl) ?_
      refine lv_aload_n hx hb dX11_sortNumbers_14 rfl (lv_at hl 1 rfl) ?_
      obtain ⟨q3, hq3, hf⟩ := bind_s hf
      refine g_callV (As := []) (rest := [.int v2]) hx hb hml hown hts hK hN (m_X7_size l D a C ha h v1 hv1 q3 hq3) (cwV 0 hts gX11_sortNumbers_X7_size rfl rfl rfl kdX7_size ⟨Nat.le_of_ble_eq_true rfl, Nat.le_of_ble_eq_true rfl⟩) (shf_O hv1) rfl rfl hP hS hA rfl hl.1 rfl (Nat.le_of_ble_eq_true rfl) dX11_sortNumbers_15 ⟨Nat.le_refl _, Nat.le_refl _⟩ (fun H locs hP hS => ?_)
      refine W.eq (g2 := F0 m 18 ls [.int q3, .int v2]) rfl ?_
      refine lv_icmp_ge (tgt := 96) hx hb dX11_sortNumbers_18 (by decide) (fun c4 => ?_) (fun c4 => ?_)
      · have hf := if_t hf c4
        refine lv_iconst (v := 1) hx hb dX11_sortNumbers_96 (by decide) ?_
        exact g_zretW hx hb hr hlk (by decide) hP hS (ret2 hf) dX11_sortNumbers_97
      · have hf := if_f hf c4
        refine lv_aload_n hx hb dX11_sortNumbers_21 rfl (lv_at hl 1 rfl) ?_
        refine lv_iload_n hx hb dX11_sortNumbers_22 rfl (lv_at hl 2 rfl) ?_
        obtain ⟨q5, hq5, hf⟩ := bind_s hf
        refine g_callV (As := [.int v2]) (rest := []) hx hb hml hown hts hK hN (m_X7_at l D a C ha h v1 v2 hv1 q5 hq5) (cwV 1 hts gX11_sortNumbers_X7_at rfl rfl rfl kdX7_at ⟨Nat.le_of_ble_eq_true rfl, Nat.le_of_ble_eq_true rfl⟩) (shf_O hv1) rfl rfl hP hS hA rfl hl.1 rfl (Nat.le_of_ble_eq_true rfl) dX11_sortNumbers_23 ⟨Nat.le_refl _, Nat.le_refl _⟩ (fun H locs hP hS => ?_)
        refine W.eq (g2 := F0 m 26 ls [.int q5]) rfl ?_
        refine lv_istore_n (lv' := [(3, .int q5), (0, .ref (a 0)), (1, .ref (a v1)), (2, .int v2)]) hx hb dX11_sortNumbers_26 rfl hl (by decide) rfl (fun ls hl => ?_)
        refine lv_iload_n hx hb dX11_sortNumbers_27 rfl (lv_at hl 0 rfl) ?_
        refine lv_if_lt (tgt := 37) hx hb dX11_sortNumbers_28 (by decide) (fun c6 => ?_) (fun c6 => ?_)
        · have hf := if_t hf c6
          refine lv_iconst (v := 0) hx hb dX11_sortNumbers_37 (by decide) ?_
          exact g_zretW hx hb hr hlk (by decide) hP hS (ret2 hf) dX11_sortNumbers_38
        · have hf := if_f hf c6
          refine lv_iload_n hx hb dX11_sortNumbers_31 rfl (lv_at hl 0 rfl) ?_
          refine lv_bipush (v := 9) hx hb dX11_sortNumbers_32 (by decide) ?_
          refine lv_icmp_lt (tgt := 39) hx hb dX11_sortNumbers_34 (by decide) (fun c7 => ?_) (fun c7 => ?_)
          · have hf := if_t hf c7
            refine lv_iload_n hx hb dX11_sortNumbers_39 rfl (lv_at hl 3 rfl) ?_
            refine lv_istore (lv' := [(4, .int v2), (3, .int q5), (0, .ref (a 0)), (1, .ref (a v1)), (2, .int v2)]) hx hb dX11_sortNumbers_40 hl (by decide) rfl (fun ls hl => ?_)
            exact J42 (X11_sortNumbers_B13 v1 fu) ih FU v2 q5 v2 h hf H locs ls hP hS (lv_sub hl [2, 3, 4, 1, 0] rfl)
          · have hf := if_f hf c7
            refine lv_iconst (v := 0) hx hb dX11_sortNumbers_37 (by decide) ?_
            exact g_zretW hx hb hr hlk (by decide) hP hS (ret2 hf) dX11_sortNumbers_38
  unfold X11_sortNumbers at hf
  suffices hh : ∀ (H : Heap) (locs : List Loc), va_P D vwCl (gw a C h) H → va_S (gA a) s.heap H locs → W p l e (headSpec wsX11_sortNumbers rmX11_sortNumbers).room s m ([.ref (a 0), .ref (a v1)] : List Value).toArray below meth c H locs 0 0 (MQ below (gQ (some (.int r)) D a C h') ([.ref (a 0), .ref (a v1)] : List Value).toArray s 0 0 (gA a)) (F0 m 0 ls []) from hh _ _ hP hS
  intro H locs hP hS
  refine lv_aload_n hx hb dX11_sortNumbers_0 rfl (lv_at hl 1 rfl) ?_
  obtain ⟨q1, hq1, hf⟩ := bind_s hf
  refine g_callV (As := []) (rest := []) hx hb hml hown hts hK hN (m_X7_size l D a C ha h v1 hv1 q1 hq1) (cwV 0 hts gX11_sortNumbers_X7_size rfl rfl rfl kdX7_size ⟨Nat.le_of_ble_eq_true rfl, Nat.le_of_ble_eq_true rfl⟩) (shf_O hv1) rfl rfl hP hS hA rfl hl.1 rfl (Nat.le_of_ble_eq_true rfl) dX11_sortNumbers_1 ⟨Nat.le_refl _, Nat.le_refl _⟩ (fun H locs hP hS => ?_)
  refine W.eq (g2 := F0 m 4 ls [.int q1]) rfl ?_
  refine lv_bipush (v := 9) hx hb dX11_sortNumbers_4 (by decide) ?_
  refine lv_icmp_le (tgt := 11) hx hb dX11_sortNumbers_6 (by decide) (fun c2 => ?_) (fun c2 => ?_)
  · have hf := if_t hf c2
    refine lv_iconst (v := 0) hx hb dX11_sortNumbers_11 (by decide) ?_
    refine lv_istore_n (lv' := [(2, .int 0), (0, .ref (a 0)), (1, .ref (a v1))]) hx hb dX11_sortNumbers_12 rfl hl (by decide) rfl (fun ls hl => ?_)
    exact J13 FU 0 h hf H locs ls hP hS (lv_sub hl [1, 2, 0] rfl)
  · have hf := if_f hf c2
    refine lv_iconst (v := 0) hx hb dX11_sortNumbers_9 (by decide) ?_
    exact g_zretW hx hb hr hlk (by decide) hP hS (ret2 hf) dX11_sortNumbers_10

def X11_numbersFit_B30 (h : HS) (v1 : Int32) (k4 : Int32 → Int32 → Option Int32) : Nat → Int32 → Int32 → Int32 → Int32 → Option Int32
  | 0, _, _, _, _ => none
  | fu + 1, v2, v3, v4, v5 =>
    (if v1 ≤ v5 then
    (if v2 ≤ v4 then
    nm (v3 + 1) fun x8 =>
    k4 v2 x8
    else
    some 0)
    else
    gdi v5 9 <|
    nm (v4 + (if v3 < (aI h 2 v5.toNatClampNeg) then v3 else (aI h 2 v5.toNatClampNeg))) fun x10 =>
    nm (v5 + 1) fun x11 =>
    (X11_numbersFit_B30 h v1 k4 fu) v2 v3 x10 x11)
def X11_numbersFit_B4 (h : HS) (v1 : Int32) : Nat → Int32 → Int32 → Option Int32
  | 0, _, _ => none
  | fu + 1, v2, v3 =>
    (if v1 < v3 then
    (if (v2 - v2 / 2 * 2) = 0 then
    some 1
    else
    some 0)
    else
    gdi (v3 - 1) 9 <|
    nm (v2 + (aI h 2 (v3 - 1).toNatClampNeg)) fun x4 =>
    nm (v3 * (v3 - 1)) fun x5 =>
    X11_numbersFit_B30 h v1 (X11_numbersFit_B4 h v1 fu) FU x4 v3 x5 v3)
def X11_numbersFit (h : HS) (v1 : Int32) : Option Int32 :=
    X11_numbersFit_B4 h v1 FU 0 1
def rmX11_numbersFit : Room := { frames := 1, cells := 0, slots := 0, locals := 21 }
theorem kdX11_numbersFit : yX11_numbersFit.cls = RX11 ∧ yX11_numbersFit.cls ≠ "java/lang/invoke/MethodHandle" ∧ yX11_numbersFit.cls ≠ "java/lang/invoke/VarHandle" ∧ (parseMethodDescriptor yX11_numbersFit.desc).map (fun d => d.parameters.length) = some 1 := by decide +kernel
set_option maxHeartbeats 4000000 in
set_option maxRecDepth 100000 in
theorem m_X11_numbersFit (l : Launch) (D : va_G) (a : Nat → Nat) (C : Nat → ClassId) (ha : ginj a) (h : HS) (v1 : Int32)  (r : Int32) (hf : X11_numbersFit h v1 = some r) : gM l yX11_numbersFit wsX11_numbersFit rmX11_numbersFit D a C [.ref (a 0), .int v1] h (some (.int r)) h := by
  refine g_start (av := [.ref (a 0), .int v1]) (cc := cX11_numbersFit) (maxL := 6) (rt := (some .boolean)) (by decide) rfl (Nat.le_of_ble_eq_true rfl) ?_
  intro p e s m below meth c hx hb hr hml hown hlk hts hP hK hN ls hl
  have hA : ∀ q, gA a q → gA a q := fun _ q => q
  have hS : va_S (gA a) s.heap s.heap [] := va_S.rf
  have hl : lv_has ls 6 [(0, .ref (a 0)), (1, .int v1)] := hl
  have J30 : ∀ (k4 : Int32 → Int32 → Option Int32) (hk4 : ∀ (v2 : Int32) (v3 : Int32), k4 v2 v3 = some r → gG p l e (headSpec wsX11_numbersFit rmX11_numbersFit).room s m ([.ref (a 0), .int v1] : List Value).toArray below meth c (MQ below (gQ (some (.int r)) D a C h) ([.ref (a 0), .int v1] : List Value).toArray s 0 0 (gA a)) D a C 6 h 4 [(0, .ref (a 0)), (1, .int v1), (2, .int v2), (3, .int v3)] []) (fu : Nat) (v2 : Int32) (v3 : Int32) (v4 : Int32) (v5 : Int32), X11_numbersFit_B30 h v1 k4 fu v2 v3 v4 v5 = some r → gG p l e (headSpec wsX11_numbersFit rmX11_numbersFit).room s m ([.ref (a 0), .int v1] : List Value).toArray below meth c (MQ below (gQ (some (.int r)) D a C h) ([.ref (a 0), .int v1] : List Value).toArray s 0 0 (gA a)) D a C 6 h 30 [(0, .ref (a 0)), (1, .int v1), (2, .int v2), (3, .int v3), (4, .int v4), (5, .int v5)] [] := by
    intro k4 hk4 fu
    induction fu with
    | zero => intro v2 v3 v4 v5 hf; exact absurd hf (by simp [X11_numbersFit_B30])
    | succ fu ih =>
      intro v2 v3 v4 v5 hf H locs ls hP hS hl
      rw [X11_numbersFit_B30] at hf
      refine lv_iload hx hb dX11_numbersFit_30 (lv_at hl 5 rfl) ?_
      refine lv_iload_n hx hb dX11_numbersFit_32 rfl (lv_at hl 1 rfl) ?_
      refine lv_icmp_ge (tgt := 58) hx hb dX11_numbersFit_33 (by decide) (fun c6 => ?_) (fun c6 => ?_)
      · have hf := if_t hf c6
        refine lv_iload_n hx hb dX11_numbersFit_58 rfl (lv_at hl 2 rfl) ?_
        refine lv_iload hx hb dX11_numbersFit_59 (lv_at hl 4 rfl) ?_
        refine lv_icmp_le (tgt := 66) hx hb dX11_numbersFit_61 (by decide) (fun c7 => ?_) (fun c7 => ?_)
        · have hf := if_t hf c7
          obtain ⟨x8, ex8⟩ : ∃ y : Int32, y = (v3 + 1) := ⟨_, rfl⟩
          have hf := nm_s hf ex8
          refine lv_iinc (v := x8) (lv' := [(3, .int x8), (0, .ref (a 0)), (1, .int v1), (2, .int v2), (4, .int v4), (5, .int v5)]) hx hb dX11_numbersFit_66 hl (k := 3) rfl (by rw [ex8]; rfl) (by decide) rfl (fun ls hl => ?_)
          refine lv_goto (tgt := 4) hx hb dX11_numbersFit_69 (by decide) ?_
          exact hk4 v2 x8 hf H locs ls hP hS (lv_sub hl [1, 2, 3, 0] rfl)
        · have hf := if_f hf c7
          refine lv_iconst (v := 0) hx hb dX11_numbersFit_64 (by decide) ?_
          exact g_zret hx hb hr hlk (by decide) hP hS (ret1 hf) dX11_numbersFit_65
      · have hf := if_f hf c6
        refine lv_iload hx hb dX11_numbersFit_36 (lv_at hl 4 rfl) ?_
        refine lv_aload_n hx hb dX11_numbersFit_38 rfl (lv_at hl 0 rfl) ?_
        refine g_get (Cn := RX11) (T := TX11) (N := 8) (v := .ref (a 2)) (own := RX11) hx hb hown hts hK X_O rfl (fun _ hw => List.mem_cons_of_mem _ (List.mem_append_right _ hw)) 5 (by decide) (List.mem_of_getElem? (i := 1) rfl) rfl rfl hP dX11_numbersFit_39 ?_
        refine lv_iload hx hb dX11_numbersFit_42 (lv_at hl 5 rfl) ?_
        obtain ⟨c9, hf⟩ := gdi_s hf
        refine g_ial hx hb hK (⟨by decide, rfl⟩ : gAI 2 9) c9 hP dX11_numbersFit_44 ?_
        refine lv_iload_n hx hb dX11_numbersFit_45 rfl (lv_at hl 3 rfl) ?_
        refine va_mmin hx hb (by rw [hml]; exact hl.1.symm) hown (hts _ (List.mem_of_getElem? (i := 2) rfl)) (hts _ (List.mem_of_getElem? (i := 3) rfl)) (hts _ (List.mem_of_getElem? (i := 4) rfl)) (hts _ (List.mem_of_getElem? (i := 5) rfl)) (Nat.le_of_ble_eq_true rfl) (Nat.le_of_ble_eq_true rfl) (Nat.zero_le _) (Nat.zero_le _) dX11_numbersFit_46 ?_
        refine lv_iadd hx hb dX11_numbersFit_49 ?_
        refine lv_topi (fun x10 ex10 => ?_)
        have hf := nm_s hf ex10
        refine lv_istore (lv' := [(4, .int x10), (0, .ref (a 0)), (1, .int v1), (2, .int v2), (3, .int v3), (5, .int v5)]) hx hb dX11_numbersFit_50 hl (by decide) rfl (fun ls hl => ?_)
        obtain ⟨x11, ex11⟩ : ∃ y : Int32, y = (v5 + 1) := ⟨_, rfl⟩
        have hf := nm_s hf ex11
        refine lv_iinc (v := x11) (lv' := [(5, .int x11), (4, .int x10), (0, .ref (a 0)), (1, .int v1), (2, .int v2), (3, .int v3)]) hx hb dX11_numbersFit_52 hl (k := 5) rfl (by rw [ex11]; rfl) (by decide) rfl (fun ls hl => ?_)
        refine lv_goto (tgt := 30) hx hb dX11_numbersFit_55 (by decide) ?_
        exact ih v2 v3 x10 x11 hf H locs ls hP hS (lv_sub hl [2, 3, 4, 5, 1, 0] rfl)
  have J4 : ∀ (fu : Nat) (v2 : Int32) (v3 : Int32), X11_numbersFit_B4 h v1 fu v2 v3 = some r → gG p l e (headSpec wsX11_numbersFit rmX11_numbersFit).room s m ([.ref (a 0), .int v1] : List Value).toArray below meth c (MQ below (gQ (some (.int r)) D a C h) ([.ref (a 0), .int v1] : List Value).toArray s 0 0 (gA a)) D a C 6 h 4 [(0, .ref (a 0)), (1, .int v1), (2, .int v2), (3, .int v3)] [] := by
    intro fu
    induction fu with
    | zero => intro v2 v3 hf; exact absurd hf (by simp [X11_numbersFit_B4])
    | succ fu ih =>
      intro v2 v3 hf H locs ls hP hS hl
      rw [X11_numbersFit_B4] at hf
      refine lv_iload_n hx hb dX11_numbersFit_4 rfl (lv_at hl 3 rfl) ?_
      refine lv_iload_n hx hb dX11_numbersFit_5 rfl (lv_at hl 1 rfl) ?_
      refine lv_icmp_gt (tgt := 72) hx hb dX11_numbersFit_6 (by decide) (fun c1 => ?_) (fun c1 => ?_)
      · have hf := if_t hf c1
        refine lv_iload_n hx hb dX11_numbersFit_72 rfl (lv_at hl 2 rfl) ?_
        refine lv_iconst (v := 2) hx hb dX11_numbersFit_73 (by decide) ?_
        refine lv_irem hx hb dX11_numbersFit_74 (by decide) ?_
        refine lv_if_ne (tgt := 82) hx hb dX11_numbersFit_75 (by decide) (fun c2 => ?_) (fun c2 => ?_)
        · have hf := if_f hf c2
          refine lv_iconst (v := 0) hx hb dX11_numbersFit_82 (by decide) ?_
          exact g_zret hx hb hr hlk (by decide) hP hS (ret1 hf) dX11_numbersFit_83
        · have hf := if_t hf c2
          refine lv_iconst (v := 1) hx hb dX11_numbersFit_78 (by decide) ?_
          refine lv_goto (tgt := 83) hx hb dX11_numbersFit_79 (by decide) ?_
          exact g_zret hx hb hr hlk (by decide) hP hS (ret1 hf) dX11_numbersFit_83
      · have hf := if_f hf c1
        refine lv_iload_n hx hb dX11_numbersFit_9 rfl (lv_at hl 2 rfl) ?_
        refine lv_aload_n hx hb dX11_numbersFit_10 rfl (lv_at hl 0 rfl) ?_
        refine g_get (Cn := RX11) (T := TX11) (N := 8) (v := .ref (a 2)) (own := RX11) hx hb hown hts hK X_O rfl (fun _ hw => List.mem_cons_of_mem _ (List.mem_append_right _ hw)) 5 (by decide) (List.mem_of_getElem? (i := 1) rfl) rfl rfl hP dX11_numbersFit_11 ?_
        refine lv_iload_n hx hb dX11_numbersFit_14 rfl (lv_at hl 3 rfl) ?_
        refine lv_iconst (v := 1) hx hb dX11_numbersFit_15 (by decide) ?_
        refine lv_isub hx hb dX11_numbersFit_16 ?_
        obtain ⟨c3, hf⟩ := gdi_s hf
        refine g_ial hx hb hK (⟨by decide, rfl⟩ : gAI 2 9) c3 hP dX11_numbersFit_17 ?_
        refine lv_iadd hx hb dX11_numbersFit_18 ?_
        refine lv_topi (fun x4 ex4 => ?_)
        have hf := nm_s hf ex4
        refine lv_istore_n (lv' := [(2, .int x4), (0, .ref (a 0)), (1, .int v1), (3, .int v3)]) hx hb dX11_numbersFit_19 rfl hl (by decide) rfl (fun ls hl => ?_)
        refine lv_iload_n hx hb dX11_numbersFit_20 rfl (lv_at hl 3 rfl) ?_
        refine lv_iload_n hx hb dX11_numbersFit_21 rfl (lv_at hl 3 rfl) ?_
        refine lv_iconst (v := 1) hx hb dX11_numbersFit_22 (by decide) ?_
        refine lv_isub hx hb dX11_numbersFit_23 ?_
        refine lv_imul hx hb dX11_numbersFit_24 ?_
        refine lv_topi (fun x5 ex5 => ?_)
        have hf := nm_s hf ex5
        refine lv_istore (lv' := [(4, .int x5), (2, .int x4), (0, .ref (a 0)), (1, .int v1), (3, .int v3)]) hx hb dX11_numbersFit_25 hl (by decide) rfl (fun ls hl => ?_)
        refine lv_iload_n hx hb dX11_numbersFit_27 rfl (lv_at hl 4 rfl) ?_
        refine lv_istore (lv' := [(5, .int v3), (4, .int x5), (2, .int x4), (0, .ref (a 0)), (1, .int v1), (3, .int v3)]) hx hb dX11_numbersFit_28 hl (by decide) rfl (fun ls hl => ?_)
        exact J30 (X11_numbersFit_B4 h v1 fu) ih FU x4 v3 x5 v3 hf H locs ls hP hS (lv_sub hl [3, 4, 2, 5, 1, 0] rfl)
  unfold X11_numbersFit at hf
  suffices hh : ∀ (H : Heap) (locs : List Loc), va_P D vwCl (gw a C h) H → va_S (gA a) s.heap H locs → W p l e (headSpec wsX11_numbersFit rmX11_numbersFit).room s m ([.ref (a 0), .int v1] : List Value).toArray below meth c H locs 0 0 (MQ below (gQ (some (.int r)) D a C h) ([.ref (a 0), .int v1] : List Value).toArray s 0 0 (gA a)) (F0 m 0 ls []) from hh _ _ hP hS
  intro H locs hP hS
  refine lv_iconst (v := 0) hx hb dX11_numbersFit_0 (by decide) ?_
  refine lv_istore_n (lv' := [(2, .int 0), (0, .ref (a 0)), (1, .int v1)]) hx hb dX11_numbersFit_1 rfl hl (by decide) rfl (fun ls hl => ?_)
  refine lv_iconst (v := 1) hx hb dX11_numbersFit_2 (by decide) ?_
  refine lv_istore_n (lv' := [(3, .int 1), (2, .int 0), (0, .ref (a 0)), (1, .int v1)]) hx hb dX11_numbersFit_3 rfl hl (by decide) rfl (fun ls hl => ?_)
  exact J4 FU 0 1 hf H locs ls hP hS (lv_sub hl [2, 3, 1, 0] rfl)

def X11_could (h : HS) (v1 : Int32) : Option (Int32 × HS) :=
    (X11_shelfOf h v1).bind fun q1 => oM q1 (
    (X11_rowRefusal h none).bind fun q3 =>
    (if q3 = 0 then
    none
    else
    some (q3, h))) fun t2 =>
    (X11_rowRefusal h (some t2)).bind fun q5 =>
    (if q5 = 0 then
    (X11_sortNumbers h t2).bind fun q7 =>
    (if q7.1 = 0 then
    some (0, q7.2)
    else
    (X7_size q7.2 t2).bind fun q9 =>
    (X11_numbersFit q7.2 q9).bind fun q10 =>
    (if q10 = 0 then
    some (0, q7.2)
    else
    some (1, q7.2)))
    else
    some (q5, h))
def rmX11_could : Room := { frames := 3, cells := 0, slots := 0, locals := 66 }
theorem kdX11_could : yX11_could.cls = RX11 ∧ yX11_could.cls ≠ "java/lang/invoke/MethodHandle" ∧ yX11_could.cls ≠ "java/lang/invoke/VarHandle" ∧ (parseMethodDescriptor yX11_could.desc).map (fun d => d.parameters.length) = some 1 := by decide +kernel
set_option maxHeartbeats 4000000 in
set_option maxRecDepth 100000 in
theorem m_X11_could (l : Launch) (D : va_G) (a : Nat → Nat) (C : Nat → ClassId) (ha : ginj a) (h : HS) (v1 : Int32)  (r : Int32) (h' : HS) (hf : X11_could h v1 = some (r, h')) : gM l yX11_could wsX11_could rmX11_could D a C [.ref (a 0), .int v1] h (some (.int r)) h' := by
  refine g_start (av := [.ref (a 0), .int v1]) (cc := cX11_could) (maxL := 4) (rt := (some .int)) (by decide) rfl (Nat.le_of_ble_eq_true rfl) ?_
  intro p e s m below meth c hx hb hr hml hown hlk hts hP hK hN ls hl
  have hA : ∀ q, gA a q → gA a q := fun _ q => q
  have hS : va_S (gA a) s.heap s.heap [] := va_S.rf
  have hl : lv_has ls 4 [(0, .ref (a 0)), (1, .int v1)] := hl
  unfold X11_could at hf
  refine lv_aload_n hx hb dX11_could_0 rfl (lv_at hl 0 rfl) ?_
  refine lv_iload_n hx hb dX11_could_1 rfl (lv_at hl 1 rfl) ?_
  obtain ⟨q1, hq1, hf⟩ := bind_s hf
  refine g_callV (As := [.int v1]) (rest := []) hx hb hml hown hts hK hN (m_X11_shelfOf l D a C ha h v1  q1 hq1) (cwV 1 hts gX11_could_X11_shelfOf rfl rfl rfl kdX11_shelfOf ⟨Nat.le_of_ble_eq_true rfl, Nat.le_of_ble_eq_true rfl⟩) X_O rfl rfl hP hS hA rfl hl.1 rfl (Nat.le_of_ble_eq_true rfl) dX11_could_2 ⟨Nat.le_refl _, Nat.le_refl _⟩ (fun H locs hP hS => ?_)
  rcases q1 with _ | t2
  · have hf := oM_none hf
    refine W.eq (g2 := F0 m 5 ls [.null]) rfl ?_
    refine lv_astore_nN (lv' := [(2, .null), (0, .ref (a 0)), (1, .int v1)]) hx hb dX11_could_5 rfl hl (by decide) rfl (fun ls hl => ?_)
    refine lv_aload_nN hx hb dX11_could_6 rfl (lv_at hl 0 rfl) ?_
    obtain ⟨q3, hq3, hf⟩ := bind_s hf
    refine g_callS (As := [.null]) (rest := []) hx hb hml hown hts hK hN (m_X11_rowRefusal l D a C ha h none isShO_none q3 hq3) (va_cwS 1 hts gX11_could_X11_rowRefusal rfl rfl rfl kdX11_rowRefusal.2 ⟨Nat.le_of_ble_eq_true rfl, Nat.le_of_ble_eq_true rfl⟩) hP hS hA rfl hl.1 rfl (Nat.le_of_ble_eq_true rfl) dX11_could_7 ⟨Nat.le_refl _, Nat.le_refl _⟩ (fun H locs hP hS => ?_)
    refine W.eq (g2 := F0 m 10 ls [.int q3]) rfl ?_
    refine lv_istore_n (lv' := [(3, .int q3), (2, .null), (0, .ref (a 0)), (1, .int v1)]) hx hb dX11_could_10 rfl hl (by decide) rfl (fun ls hl => ?_)
    refine lv_iload_n hx hb dX11_could_11 rfl (lv_at hl 0 rfl) ?_
    refine lv_if_eq (tgt := 17) hx hb dX11_could_12 (by decide) (fun c4 => ?_) (fun c4 => ?_)
    · have hf := if_t hf c4
      refine lv_aload_n hx hb dX11_could_17 rfl (lv_at hl 2 rfl) ?_
      refine lv_aload_nN hx hb dX11_could_18 rfl (lv_at hl 1 rfl) ?_
      exact absurd hf (by simp)
    · have hf := if_f hf c4
      refine lv_iload_n hx hb dX11_could_15 rfl (lv_at hl 0 rfl) ?_
      exact g_iretW hx hb hr hlk hP hS (ret2 hf) dX11_could_16
  · have hf := oM_some hf
    have ht2 : isShf t2 := X11_shelfOf_ok hq1 t2 rfl
    refine W.eq (g2 := F0 m 5 ls [.ref (a t2)]) rfl ?_
    refine lv_astore_n (lv' := [(2, .ref (a t2)), (0, .ref (a 0)), (1, .int v1)]) hx hb dX11_could_5 rfl hl (by decide) rfl (fun ls hl => ?_)
    refine lv_aload_n hx hb dX11_could_6 rfl (lv_at hl 0 rfl) ?_
    obtain ⟨q5, hq5, hf⟩ := bind_s hf
    refine g_callS (As := [.ref (a t2)]) (rest := []) hx hb hml hown hts hK hN (m_X11_rowRefusal l D a C ha h (some t2) (isShO_some ht2) q5 hq5) (va_cwS 1 hts gX11_could_X11_rowRefusal rfl rfl rfl kdX11_rowRefusal.2 ⟨Nat.le_of_ble_eq_true rfl, Nat.le_of_ble_eq_true rfl⟩) hP hS hA rfl hl.1 rfl (Nat.le_of_ble_eq_true rfl) dX11_could_7 ⟨Nat.le_refl _, Nat.le_refl _⟩ (fun H locs hP hS => ?_)
    refine W.eq (g2 := F0 m 10 ls [.int q5]) rfl ?_
    refine lv_istore_n (lv' := [(3, .int q5), (2, .ref (a t2)), (0, .ref (a 0)), (1, .int v1)]) hx hb dX11_could_10 rfl hl (by decide) rfl (fun ls hl => ?_)
    refine lv_iload_n hx hb dX11_could_11 rfl (lv_at hl 0 rfl) ?_
    refine lv_if_eq (tgt := 17) hx hb dX11_could_12 (by decide) (fun c6 => ?_) (fun c6 => ?_)
    · have hf := if_t hf c6
      refine lv_aload_n hx hb dX11_could_17 rfl (lv_at hl 2 rfl) ?_
      refine lv_aload_n hx hb dX11_could_18 rfl (lv_at hl 1 rfl) ?_
      obtain ⟨q7, hq7, hf⟩ := bind_s hf
      refine g_callV (As := [.ref (a t2)]) (rest := []) hx hb hml hown hts hK hN (m_X11_sortNumbers l D a C ha h t2 ht2 q7.1 q7.2 hq7) (cwV 1 hts gX11_could_X11_sortNumbers rfl rfl rfl kdX11_sortNumbers ⟨Nat.le_of_ble_eq_true rfl, Nat.le_of_ble_eq_true rfl⟩) X_O rfl rfl hP hS hA rfl hl.1 rfl (Nat.le_of_ble_eq_true rfl) dX11_could_19 ⟨Nat.le_refl _, Nat.le_refl _⟩ (fun H locs hP hS => ?_)
      refine W.eq (g2 := F0 m 22 ls [.int q7.1]) rfl ?_
      refine lv_if_eq (tgt := 40) hx hb dX11_could_22 (by decide) (fun c8 => ?_) (fun c8 => ?_)
      · have hf := if_t hf c8
        refine lv_iconst (v := 0) hx hb dX11_could_40 (by decide) ?_
        exact g_iretW hx hb hr hlk hP hS (ret2 hf) dX11_could_41
      · have hf := if_f hf c8
        refine lv_aload_n hx hb dX11_could_25 rfl (lv_at hl 2 rfl) ?_
        refine lv_aload_n hx hb dX11_could_26 rfl (lv_at hl 1 rfl) ?_
        obtain ⟨q9, hq9, hf⟩ := bind_s hf
        refine g_callV (As := []) (rest := [.ref (a 0)]) hx hb hml hown hts hK hN (m_X7_size l D a C ha q7.2 t2 ht2 q9 hq9) (cwV 0 hts gX11_could_X7_size rfl rfl rfl kdX7_size ⟨Nat.le_of_ble_eq_true rfl, Nat.le_of_ble_eq_true rfl⟩) (shf_O ht2) rfl rfl hP hS hA rfl hl.1 rfl (Nat.le_of_ble_eq_true rfl) dX11_could_27 ⟨Nat.le_refl _, Nat.le_refl _⟩ (fun H locs hP hS => ?_)
        refine W.eq (g2 := F0 m 30 ls [.int q9, .ref (a 0)]) rfl ?_
        obtain ⟨q10, hq10, hf⟩ := bind_s hf
        refine g_callV (As := [.int q9]) (rest := []) hx hb hml hown hts hK hN (m_X11_numbersFit l D a C ha q7.2 q9  q10 hq10) (cwV 1 hts gX11_could_X11_numbersFit rfl rfl rfl kdX11_numbersFit ⟨Nat.le_of_ble_eq_true rfl, Nat.le_of_ble_eq_true rfl⟩) X_O rfl rfl hP hS hA rfl hl.1 rfl (Nat.le_of_ble_eq_true rfl) dX11_could_30 ⟨Nat.le_refl _, Nat.le_refl _⟩ (fun H locs hP hS => ?_)
        refine W.eq (g2 := F0 m 33 ls [.int q10]) rfl ?_
        refine lv_if_eq (tgt := 40) hx hb dX11_could_33 (by decide) (fun c11 => ?_) (fun c11 => ?_)
        · have hf := if_t hf c11
          refine lv_iconst (v := 0) hx hb dX11_could_40 (by decide) ?_
          exact g_iretW hx hb hr hlk hP hS (ret2 hf) dX11_could_41
        · have hf := if_f hf c11
          refine lv_iconst (v := 1) hx hb dX11_could_36 (by decide) ?_
          refine lv_goto (tgt := 41) hx hb dX11_could_37 (by decide) ?_
          exact g_iretW hx hb hr hlk hP hS (ret2 hf) dX11_could_41
    · have hf := if_f hf c6
      refine lv_iload_n hx hb dX11_could_15 rfl (lv_at hl 0 rfl) ?_
      exact g_iretW hx hb hr hlk hP hS (ret2 hf) dX11_could_16

def X11_firstOther_B47 (h : HS) (v0 : Nat) (v1 : Int32) (v2 : Nat) (v3 : Int32) (k12 : Int32 → Int32 → Option Int32) (v4 : Int32) (v5 : Int32) : Option Int32 :=
    (X5_nextHeard h v0 v4 ((((fI h v0 6) + v3) + v5) + 1) 0).bind fun q9 =>
    nm (v5 + 1) fun x10 =>
    k12 q9 x10
def X11_firstOther_B12 (h : HS) (v0 : Nat) (v1 : Int32) (v2 : Nat) (v3 : Int32) : Nat → Int32 → Int32 → Option Int32
  | 0, _, _ => none
  | fu + 1, v4, v5 =>
    (X7_size h v2).bind fun q2 =>
    (if q2 ≤ v5 then
    some (-4)
    else
    (X7_isSkipped h v2 v5).bind fun q4 =>
    (if q4 = 0 then
    (X7_at h v2 v5).bind fun q6 =>
    (J6_bitCount_0f7a4 v4).bind fun q7 =>
    (if q6 = q7 then
    X11_firstOther_B47 h v0 v1 v2 v3 (X11_firstOther_B12 h v0 v1 v2 v3 fu) v4 v5
    else
    some v5)
    else
    X11_firstOther_B47 h v0 v1 v2 v3 (X11_firstOther_B12 h v0 v1 v2 v3 fu) v4 v5))
def X11_firstOther (h : HS) (v0 : Nat) (v1 : Int32) (v2 : Nat) (v3 : Int32) : Option Int32 :=
    (X5_behind h v0 v1 v3 0).bind fun q1 =>
    X11_firstOther_B12 h v0 v1 v2 v3 FU q1 0
def rmX11_firstOther : Room := { frames := 6, cells := 0, slots := 0, locals := 145 }
theorem kdX11_firstOther : yX11_firstOther.cls = RX11 ∧ yX11_firstOther.cls ≠ "java/lang/invoke/MethodHandle" ∧ yX11_firstOther.cls ≠ "java/lang/invoke/VarHandle" ∧ (parseMethodDescriptor yX11_firstOther.desc).map (fun d => d.parameters.length) = some 4 := by decide +kernel
set_option maxHeartbeats 4000000 in
set_option maxRecDepth 100000 in
theorem m_X11_firstOther (l : Launch) (D : va_G) (a : Nat → Nat) (C : Nat → ClassId) (ha : ginj a) (h : HS) (v0 : Nat) (v1 : Int32) (v2 : Nat) (v3 : Int32) (hv0 : isPar v0) (hv2 : isShf v2) (r : Int32) (hf : X11_firstOther h v0 v1 v2 v3 = some r) : gM l yX11_firstOther wsX11_firstOther rmX11_firstOther D a C [.ref (a v0), .int v1, .ref (a v2), .int v3] h (some (.int r)) h := by
  refine g_start (av := [.ref (a v0), .int v1, .ref (a v2), .int v3]) (cc := cX11_firstOther) (maxL := 6) (rt := (some .int)) (by decide) rfl (Nat.le_of_ble_eq_true rfl) ?_
  intro p e s m below meth c hx hb hr hml hown hlk hts hP hK hN ls hl
  have hA : ∀ q, gA a q → gA a q := fun _ q => q
  have hS : va_S (gA a) s.heap s.heap [] := va_S.rf
  have hl : lv_has ls 6 [(0, .ref (a v0)), (1, .int v1), (2, .ref (a v2)), (3, .int v3)] := hl
  have J47 : ∀ (k12 : Int32 → Int32 → Option Int32) (hk12 : ∀ (v4 : Int32) (v5 : Int32), k12 v4 v5 = some r → gG p l e (headSpec wsX11_firstOther rmX11_firstOther).room s m ([.ref (a v0), .int v1, .ref (a v2), .int v3] : List Value).toArray below meth c (MQ below (gQ (some (.int r)) D a C h) ([.ref (a v0), .int v1, .ref (a v2), .int v3] : List Value).toArray s 0 0 (gA a)) D a C 6 h 12 [(0, .ref (a v0)), (2, .ref (a v2)), (3, .int v3), (4, .int v4), (5, .int v5)] []) (v4 : Int32) (v5 : Int32) (_ : X11_firstOther_B47 h v0 v1 v2 v3 k12 v4 v5 = some r), gG p l e (headSpec wsX11_firstOther rmX11_firstOther).room s m ([.ref (a v0), .int v1, .ref (a v2), .int v3] : List Value).toArray below meth c (MQ below (gQ (some (.int r)) D a C h) ([.ref (a v0), .int v1, .ref (a v2), .int v3] : List Value).toArray s 0 0 (gA a)) D a C 6 h 47 [(0, .ref (a v0)), (2, .ref (a v2)), (3, .int v3), (4, .int v4), (5, .int v5)] [] := by
    intro k12 hk12 v4 v5 hf H locs ls hP hS hl
    unfold X11_firstOther_B47 at hf
    refine lv_aload_n hx hb dX11_firstOther_47 rfl (lv_at hl 0 rfl) ?_
    refine lv_iload hx hb dX11_firstOther_48 (lv_at hl 3 rfl) ?_
    refine lv_aload_n hx hb dX11_firstOther_50 rfl (lv_at hl 0 rfl) ?_
    refine g_getN (Cn := RX5) (T := TX5) (N := 7) (v := .int (fI h v0 6)) (own := RX11) hx hb hown hts hK hN (par_O hv0) rfl (fun _ hw => List.mem_cons_of_mem _ (List.mem_append_left _ (List.mem_append_left _ (List.mem_append_right _ hw)))) 6 (by decide) (List.mem_of_getElem? (i := 0) rfl) rfl rfl hP dX11_firstOther_51 ?_
    refine lv_iload_n hx hb dX11_firstOther_54 rfl (lv_at hl 2 rfl) ?_
    refine lv_iadd hx hb dX11_firstOther_55 ?_
    refine lv_iload hx hb dX11_firstOther_56 (lv_at hl 4 rfl) ?_
    refine lv_iadd hx hb dX11_firstOther_58 ?_
    refine lv_iconst (v := 1) hx hb dX11_firstOther_59 (by decide) ?_
    refine lv_iadd hx hb dX11_firstOther_60 ?_
    refine lv_iconst (v := 0) hx hb dX11_firstOther_61 (by decide) ?_
    obtain ⟨q9, hq9, hf⟩ := bind_s hf
    refine g_callV (As := [.int v4, .int ((((fI h v0 6) + v3) + v5) + 1), .int 0]) (rest := []) hx hb hml hown hts hK hN (m_X5_nextHeard l D a C ha h v0 v4 ((((fI h v0 6) + v3) + v5) + 1) 0 hv0 q9 hq9) (cwV 3 hts gX11_firstOther_X5_nextHeard rfl rfl rfl kdX5_nextHeard ⟨Nat.le_of_ble_eq_true rfl, Nat.le_of_ble_eq_true rfl⟩) (par_O hv0) rfl rfl hP hS hA rfl hl.1 rfl (Nat.le_of_ble_eq_true rfl) dX11_firstOther_62 ⟨Nat.le_refl _, Nat.le_refl _⟩ (fun H locs hP hS => ?_)
    refine W.eq (g2 := F0 m 65 ls [.int q9]) rfl ?_
    refine lv_istore (lv' := [(4, .int q9), (0, .ref (a v0)), (2, .ref (a v2)), (3, .int v3), (5, .int v5)]) hx hb dX11_firstOther_65 hl (by decide) rfl (fun ls hl => ?_)
    obtain ⟨x10, ex10⟩ : ∃ y : Int32, y = (v5 + 1) := ⟨_, rfl⟩
    have hf := nm_s hf ex10
    refine lv_iinc (v := x10) (lv' := [(5, .int x10), (4, .int q9), (0, .ref (a v0)), (2, .ref (a v2)), (3, .int v3)]) hx hb dX11_firstOther_67 hl (k := 4) rfl (by rw [ex10]; rfl) (by decide) rfl (fun ls hl => ?_)
    refine lv_goto (tgt := 12) hx hb dX11_firstOther_70 (by decide) ?_
    exact hk12 q9 x10 hf H locs ls hP hS (lv_sub hl [2, 3, 4, 1, 0] rfl)
  have J12 : ∀ (fu : Nat) (v4 : Int32) (v5 : Int32), X11_firstOther_B12 h v0 v1 v2 v3 fu v4 v5 = some r → gG p l e (headSpec wsX11_firstOther rmX11_firstOther).room s m ([.ref (a v0), .int v1, .ref (a v2), .int v3] : List Value).toArray below meth c (MQ below (gQ (some (.int r)) D a C h) ([.ref (a v0), .int v1, .ref (a v2), .int v3] : List Value).toArray s 0 0 (gA a)) D a C 6 h 12 [(0, .ref (a v0)), (2, .ref (a v2)), (3, .int v3), (4, .int v4), (5, .int v5)] [] := by
    intro fu
    induction fu with
    | zero => intro v4 v5 hf; exact absurd hf (by simp [X11_firstOther_B12])
    | succ fu ih =>
      intro v4 v5 hf H locs ls hP hS hl
      rw [X11_firstOther_B12] at hf
      refine lv_iload hx hb dX11_firstOther_12 (lv_at hl 4 rfl) ?_
      refine lv_aload_n hx hb dX11_firstOther_14 rfl (lv_at hl 1 rfl) ?_
      obtain ⟨q2, hq2, hf⟩ := bind_s hf
      refine g_callV (As := []) (rest := [.int v5]) hx hb hml hown hts hK hN (m_X7_size l D a C ha h v2 hv2 q2 hq2) (cwV 0 hts gX11_firstOther_X7_size rfl rfl rfl kdX7_size ⟨Nat.le_of_ble_eq_true rfl, Nat.le_of_ble_eq_true rfl⟩) (shf_O hv2) rfl rfl hP hS hA rfl hl.1 rfl (Nat.le_of_ble_eq_true rfl) dX11_firstOther_15 ⟨Nat.le_refl _, Nat.le_refl _⟩ (fun H locs hP hS => ?_)
      refine W.eq (g2 := F0 m 18 ls [.int q2, .int v5]) rfl ?_
      refine lv_icmp_ge (tgt := 73) hx hb dX11_firstOther_18 (by decide) (fun c3 => ?_) (fun c3 => ?_)
      · have hf := if_t hf c3
        refine lv_bipush (v := (-4)) hx hb dX11_firstOther_73 (by decide) ?_
        exact g_iret hx hb hr hlk hP hS (ret1 hf) dX11_firstOther_75
      · have hf := if_f hf c3
        refine lv_aload_n hx hb dX11_firstOther_21 rfl (lv_at hl 1 rfl) ?_
        refine lv_iload hx hb dX11_firstOther_22 (lv_at hl 4 rfl) ?_
        obtain ⟨q4, hq4, hf⟩ := bind_s hf
        refine g_callV (As := [.int v5]) (rest := []) hx hb hml hown hts hK hN (m_X7_isSkipped l D a C ha h v2 v5 hv2 q4 hq4) (cwV 1 hts gX11_firstOther_X7_isSkipped rfl rfl rfl kdX7_isSkipped ⟨Nat.le_of_ble_eq_true rfl, Nat.le_of_ble_eq_true rfl⟩) (shf_O hv2) rfl rfl hP hS hA rfl hl.1 rfl (Nat.le_of_ble_eq_true rfl) dX11_firstOther_24 ⟨Nat.le_refl _, Nat.le_refl _⟩ (fun H locs hP hS => ?_)
        refine W.eq (g2 := F0 m 27 ls [.int q4]) rfl ?_
        refine lv_if_ne (tgt := 47) hx hb dX11_firstOther_27 (by decide) (fun c5 => ?_) (fun c5 => ?_)
        · have hf := if_f hf c5
          exact J47 (X11_firstOther_B12 h v0 v1 v2 v3 fu) ih v4 v5 hf H locs ls hP hS (lv_sub hl [0, 1, 2, 3, 4] rfl)
        · have hf := if_t hf c5
          refine lv_aload_n hx hb dX11_firstOther_30 rfl (lv_at hl 1 rfl) ?_
          refine lv_iload hx hb dX11_firstOther_31 (lv_at hl 4 rfl) ?_
          obtain ⟨q6, hq6, hf⟩ := bind_s hf
          refine g_callV (As := [.int v5]) (rest := []) hx hb hml hown hts hK hN (m_X7_at l D a C ha h v2 v5 hv2 q6 hq6) (cwV 1 hts gX11_firstOther_X7_at rfl rfl rfl kdX7_at ⟨Nat.le_of_ble_eq_true rfl, Nat.le_of_ble_eq_true rfl⟩) (shf_O hv2) rfl rfl hP hS hA rfl hl.1 rfl (Nat.le_of_ble_eq_true rfl) dX11_firstOther_33 ⟨Nat.le_refl _, Nat.le_refl _⟩ (fun H locs hP hS => ?_)
          refine W.eq (g2 := F0 m 36 ls [.int q6]) rfl ?_
          refine lv_iload hx hb dX11_firstOther_36 (lv_at hl 3 rfl) ?_
          obtain ⟨q7, hq7, hf⟩ := bind_s hf
          refine g_callS (As := [.int v4]) (rest := [.int q6]) hx hb hml hown hts hK hN (m_J6_bitCount_0f7a4 l D a C ha h v4  q7 hq7) (va_cwS 1 hts gX11_firstOther_J6_bitCount_0f7a4 rfl rfl rfl kdJ6_bitCount_0f7a4.2 ⟨Nat.le_of_ble_eq_true rfl, Nat.le_of_ble_eq_true rfl⟩) hP hS hA rfl hl.1 rfl (Nat.le_of_ble_eq_true rfl) dX11_firstOther_38 ⟨Nat.le_refl _, Nat.le_refl _⟩ (fun H locs hP hS => ?_)
          refine W.eq (g2 := F0 m 41 ls [.int q7, .int q6]) rfl ?_
          refine lv_icmp_eq (tgt := 47) hx hb dX11_firstOther_41 (by decide) (fun c8 => ?_) (fun c8 => ?_)
          · have hf := if_t hf c8
            exact J47 (X11_firstOther_B12 h v0 v1 v2 v3 fu) ih v4 v5 hf H locs ls hP hS (lv_sub hl [0, 1, 2, 3, 4] rfl)
          · have hf := if_f hf c8
            refine lv_iload hx hb dX11_firstOther_44 (lv_at hl 4 rfl) ?_
            exact g_iret hx hb hr hlk hP hS (ret1 hf) dX11_firstOther_46
  unfold X11_firstOther at hf
  suffices hh : ∀ (H : Heap) (locs : List Loc), va_P D vwCl (gw a C h) H → va_S (gA a) s.heap H locs → W p l e (headSpec wsX11_firstOther rmX11_firstOther).room s m ([.ref (a v0), .int v1, .ref (a v2), .int v3] : List Value).toArray below meth c H locs 0 0 (MQ below (gQ (some (.int r)) D a C h) ([.ref (a v0), .int v1, .ref (a v2), .int v3] : List Value).toArray s 0 0 (gA a)) (F0 m 0 ls []) from hh _ _ hP hS
  intro H locs hP hS
  refine lv_aload_n hx hb dX11_firstOther_0 rfl (lv_at hl 0 rfl) ?_
  refine lv_iload_n hx hb dX11_firstOther_1 rfl (lv_at hl 1 rfl) ?_
  refine lv_iload_n hx hb dX11_firstOther_2 rfl (lv_at hl 3 rfl) ?_
  refine lv_iconst (v := 0) hx hb dX11_firstOther_3 (by decide) ?_
  obtain ⟨q1, hq1, hf⟩ := bind_s hf
  refine g_callV (As := [.int v1, .int v3, .int 0]) (rest := []) hx hb hml hown hts hK hN (m_X5_behind l D a C ha h v0 v1 v3 0 hv0 q1 hq1) (cwV 3 hts gX11_firstOther_X5_behind rfl rfl rfl kdX5_behind ⟨Nat.le_of_ble_eq_true rfl, Nat.le_of_ble_eq_true rfl⟩) (par_O hv0) rfl rfl hP hS hA rfl hl.1 rfl (Nat.le_of_ble_eq_true rfl) dX11_firstOther_4 ⟨Nat.le_refl _, Nat.le_refl _⟩ (fun H locs hP hS => ?_)
  refine W.eq (g2 := F0 m 7 ls [.int q1]) rfl ?_
  refine lv_istore (lv' := [(4, .int q1), (0, .ref (a v0)), (1, .int v1), (2, .ref (a v2)), (3, .int v3)]) hx hb dX11_firstOther_7 hl (by decide) rfl (fun ls hl => ?_)
  refine lv_iconst (v := 0) hx hb dX11_firstOther_9 (by decide) ?_
  refine lv_istore (lv' := [(5, .int 0), (4, .int q1), (0, .ref (a v0)), (1, .int v1), (2, .ref (a v2)), (3, .int v3)]) hx hb dX11_firstOther_10 hl (by decide) rfl (fun ls hl => ?_)
  exact J12 FU q1 0 hf H locs ls hP hS (lv_sub hl [2, 4, 5, 1, 0] rfl)

def X11_whatIs_B151 (v1 : Int32) (v2 : Int32) (v3 : Int32) (k50 : Nat → Int32 → Int32 → HS → Option (Int32 × HS)) (v4 : Nat) (v6 : Int32) (v7 : Int32) (h : HS) : Option (Int32 × HS) :=
    nm (v7 + 1) fun x22 =>
    k50 v4 v6 x22 h
def X11_whatIs_B116 (v1 : Int32) (v2 : Int32) (v3 : Int32) (k50 : Nat → Int32 → Int32 → HS → Option (Int32 × HS)) (v4 : Nat) (v6 : Int32) (v7 : Int32) (s0 : Int32) (s1 : Int32) (s2 : Int32) (h : HS) : Option (Int32 × HS) :=
    (X5_change h 20 s2 s1 s0).bind fun q18 =>
    (X11_firstOther q18.2 20 (fI q18.2 20 4) v4 0).bind fun q19 =>
    (if q19 = (-4) then
    nm (v6 ||| ((1 : Int32) <<< (v7 &&& 31))) fun x21 =>
    X11_whatIs_B151 v1 v2 v3 k50 v4 x21 v7 q18.2
    else
    X11_whatIs_B151 v1 v2 v3 k50 v4 v6 v7 q18.2)
def X11_whatIs_B99 (v1 : Int32) (v2 : Int32) (v3 : Int32) (k50 : Nat → Int32 → Int32 → HS → Option (Int32 × HS)) (v4 : Nat) (v6 : Int32) (v7 : Int32) (s0 : Int32) (s1 : Int32) (h : HS) : Option (Int32 × HS) :=
    (if v3 = 0 then
    (X5_figureOf h 5 v2).bind fun q17 =>
    X11_whatIs_B116 v1 v2 v3 k50 v4 v6 v7 q17 s0 s1 h
    else
    X11_whatIs_B116 v1 v2 v3 k50 v4 v6 v7 v7 s0 s1 h)
def X11_whatIs_B63 (v1 : Int32) (v2 : Int32) (v3 : Int32) (k50 : Nat → Int32 → Int32 → HS → Option (Int32 × HS)) (v4 : Nat) (v6 : Int32) (v7 : Int32) (s0 : Int32) (s1 : Int32) (h : HS) : Option (Int32 × HS) :=
    (if s0 ≤ s1 then
    some (v6, h)
    else
    (X5_become h 20 5).bind fun q13 =>
    (if v3 = 0 then
    X11_whatIs_B99 v1 v2 v3 k50 v4 v6 v7 v7 v2 q13
    else
    (X5_kindOf q13 5 v2).bind fun q15 =>
    X11_whatIs_B99 v1 v2 v3 k50 v4 v6 v7 q15 v2 q13))
def X11_whatIs_B50 (v1 : Int32) (v2 : Int32) (v3 : Int32) : Nat → Nat → Int32 → Int32 → HS → Option (Int32 × HS)
  | 0, _, _, _, _ => none
  | fu + 1, v4, v6, v7, h =>
    (if v3 = 0 then
    X11_whatIs_B63 v1 v2 v3 (X11_whatIs_B50 v1 v2 v3 fu) v4 v6 v7 8 v7 h
    else
    X11_whatIs_B63 v1 v2 v3 (X11_whatIs_B50 v1 v2 v3 fu) v4 v6 v7 10 v7 h)
def X11_whatIs (h : HS) (v1 : Int32) (v2 : Int32) (v3 : Int32) : Option (Int32 × HS) :=
    (X5_has h 5 v2).bind fun q1 =>
    (if q1 = 0 then
    some ((-1), h)
    else
    (if v3 < 0 then
    some ((-1), h)
    else
    (if v3 ≤ 1 then
    (X11_shelfOf h v1).bind fun q5 => oM q5 (
    (X11_rowRefusal h none).bind fun q7 =>
    (if q7 = 0 then
    none
    else
    some (q7, h))) fun t6 =>
    (X11_rowRefusal h (some t6)).bind fun q9 =>
    (if q9 = 0 then
    X11_whatIs_B50 v1 v2 v3 FU t6 0 0 h
    else
    some (q9, h))
    else
    some ((-1), h))))
def rmX11_whatIs : Room := { frames := 7, cells := 0, slots := 0, locals := 170 }
theorem kdX11_whatIs : yX11_whatIs.cls = RX11 ∧ yX11_whatIs.cls ≠ "java/lang/invoke/MethodHandle" ∧ yX11_whatIs.cls ≠ "java/lang/invoke/VarHandle" ∧ (parseMethodDescriptor yX11_whatIs.desc).map (fun d => d.parameters.length) = some 3 := by decide +kernel
set_option maxHeartbeats 4000000 in
set_option maxRecDepth 100000 in
theorem m_X11_whatIs (l : Launch) (D : va_G) (a : Nat → Nat) (C : Nat → ClassId) (ha : ginj a) (h : HS) (v1 : Int32) (v2 : Int32) (v3 : Int32)  (r : Int32) (h' : HS) (hf : X11_whatIs h v1 v2 v3 = some (r, h')) : gM l yX11_whatIs wsX11_whatIs rmX11_whatIs D a C [.ref (a 0), .int v1, .int v2, .int v3] h (some (.int r)) h' := by
  refine g_start (av := [.ref (a 0), .int v1, .int v2, .int v3]) (cc := cX11_whatIs) (maxL := 8) (rt := (some .int)) (by decide) rfl (Nat.le_of_ble_eq_true rfl) ?_
  intro p e s m below meth c hx hb hr hml hown hlk hts hP hK hN ls hl
  have hA : ∀ q, gA a q → gA a q := fun _ q => q
  have hS : va_S (gA a) s.heap s.heap [] := va_S.rf
  have hl : lv_has ls 8 [(0, .ref (a 0)), (1, .int v1), (2, .int v2), (3, .int v3)] := hl
  have J151 : ∀ (k50 : Nat → Int32 → Int32 → HS → Option (Int32 × HS)) (hk50 : ∀ (v4 : Nat) (v6 : Int32) (v7 : Int32) (h : HS), isShf v4 → k50 v4 v6 v7 h = some (r, h') → gG p l e (headSpec wsX11_whatIs rmX11_whatIs).room s m ([.ref (a 0), .int v1, .int v2, .int v3] : List Value).toArray below meth c (MQ below (gQ (some (.int r)) D a C h') ([.ref (a 0), .int v1, .int v2, .int v3] : List Value).toArray s 0 0 (gA a)) D a C 8 h 50 [(0, .ref (a 0)), (2, .int v2), (3, .int v3), (4, .ref (a v4)), (6, .int v6), (7, .int v7)] []) (v4 : Nat) (v6 : Int32) (v7 : Int32) (h : HS) (hv4 : isShf v4) (_ : X11_whatIs_B151 v1 v2 v3 k50 v4 v6 v7 h = some (r, h')), gG p l e (headSpec wsX11_whatIs rmX11_whatIs).room s m ([.ref (a 0), .int v1, .int v2, .int v3] : List Value).toArray below meth c (MQ below (gQ (some (.int r)) D a C h') ([.ref (a 0), .int v1, .int v2, .int v3] : List Value).toArray s 0 0 (gA a)) D a C 8 h 151 [(0, .ref (a 0)), (2, .int v2), (3, .int v3), (4, .ref (a v4)), (6, .int v6), (7, .int v7)] [] := by
    intro k50 hk50 v4 v6 v7 h hv4 hf H locs ls hP hS hl
    unfold X11_whatIs_B151 at hf
    obtain ⟨x22, ex22⟩ : ∃ y : Int32, y = (v7 + 1) := ⟨_, rfl⟩
    have hf := nm_s hf ex22
    refine lv_iinc (v := x22) (lv' := [(7, .int x22), (0, .ref (a 0)), (2, .int v2), (3, .int v3), (4, .ref (a v4)), (6, .int v6)]) hx hb dX11_whatIs_151 hl (k := 5) rfl (by rw [ex22]; rfl) (by decide) rfl (fun ls hl => ?_)
    refine lv_goto (tgt := 50) hx hb dX11_whatIs_154 (by decide) ?_
    exact hk50 v4 v6 x22 h hv4 hf H locs ls hP hS (lv_sub hl [1, 2, 3, 4, 5, 0] rfl)
  have J116 : ∀ (k50 : Nat → Int32 → Int32 → HS → Option (Int32 × HS)) (hk50 : ∀ (v4 : Nat) (v6 : Int32) (v7 : Int32) (h : HS), isShf v4 → k50 v4 v6 v7 h = some (r, h') → gG p l e (headSpec wsX11_whatIs rmX11_whatIs).room s m ([.ref (a 0), .int v1, .int v2, .int v3] : List Value).toArray below meth c (MQ below (gQ (some (.int r)) D a C h') ([.ref (a 0), .int v1, .int v2, .int v3] : List Value).toArray s 0 0 (gA a)) D a C 8 h 50 [(0, .ref (a 0)), (2, .int v2), (3, .int v3), (4, .ref (a v4)), (6, .int v6), (7, .int v7)] []) (v4 : Nat) (v6 : Int32) (v7 : Int32) (s0 : Int32) (s1 : Int32) (s2 : Int32) (h : HS) (hv4 : isShf v4) (_ : X11_whatIs_B116 v1 v2 v3 k50 v4 v6 v7 s0 s1 s2 h = some (r, h')), gG p l e (headSpec wsX11_whatIs rmX11_whatIs).room s m ([.ref (a 0), .int v1, .int v2, .int v3] : List Value).toArray below meth c (MQ below (gQ (some (.int r)) D a C h') ([.ref (a 0), .int v1, .int v2, .int v3] : List Value).toArray s 0 0 (gA a)) D a C 8 h 116 [(0, .ref (a 0)), (2, .int v2), (3, .int v3), (4, .ref (a v4)), (6, .int v6), (7, .int v7)] [.int s0, .int s1, .int s2, .ref (a 20)] := by
    intro k50 hk50 v4 v6 v7 s0 s1 s2 h hv4 hf H locs ls hP hS hl
    unfold X11_whatIs_B116 at hf
    obtain ⟨q18, hq18, hf⟩ := bind_s hf
    refine g_callV (As := [.int s2, .int s1, .int s0]) (rest := []) hx hb hml hown hts hK hN (m_X5_change l D a C ha h 20 s2 s1 s0 isPar20 q18.1 q18.2 hq18) (cwV 3 hts gX11_whatIs_X5_change rfl rfl rfl kdX5_change ⟨Nat.le_of_ble_eq_true rfl, Nat.le_of_ble_eq_true rfl⟩) (par_O isPar20) rfl rfl hP hS hA rfl hl.1 rfl (Nat.le_of_ble_eq_true rfl) dX11_whatIs_116 ⟨Nat.le_refl _, Nat.le_refl _⟩ (fun H locs hP hS => ?_)
    refine W.eq (g2 := F0 m 119 ls [.int q18.1]) rfl ?_
    refine lv_pop hx hb dX11_whatIs_119 rfl ?_
    refine lv_aload_n hx hb dX11_whatIs_120 rfl (lv_at hl 0 rfl) ?_
    refine g_get (Cn := RX11) (T := TX11) (N := 8) (v := .ref (a 20)) (own := RX11) hx hb hown hts hK X_O rfl (fun _ hw => List.mem_cons_of_mem _ (List.mem_append_left _ (List.mem_append_left _ (List.mem_append_left _ (List.mem_append_right _ hw))))) 1 (by decide) (List.mem_of_getElem? (i := 2) rfl) rfl rfl hP dX11_whatIs_121 ?_
    refine lv_aload_n hx hb dX11_whatIs_124 rfl (lv_at hl 0 rfl) ?_
    refine g_get (Cn := RX11) (T := TX11) (N := 8) (v := .ref (a 20)) (own := RX11) hx hb hown hts hK X_O rfl (fun _ hw => List.mem_cons_of_mem _ (List.mem_append_left _ (List.mem_append_left _ (List.mem_append_left _ (List.mem_append_right _ hw))))) 1 (by decide) (List.mem_of_getElem? (i := 2) rfl) rfl rfl hP dX11_whatIs_125 ?_
    refine g_getN (Cn := RX5) (T := TX5) (N := 7) (v := .int (fI q18.2 20 4)) (own := RX11) hx hb hown hts hK hN (par_O isPar20) rfl (fun _ hw => List.mem_cons_of_mem _ (List.mem_append_left _ (List.mem_append_left _ (List.mem_append_right _ hw)))) 4 (by decide) (List.mem_of_getElem? (i := 7) rfl) rfl rfl hP dX11_whatIs_128 ?_
    refine lv_aload hx hb dX11_whatIs_131 (lv_at hl 3 rfl) ?_
    refine lv_iconst (v := 0) hx hb dX11_whatIs_133 (by decide) ?_
    obtain ⟨q19, hq19, hf⟩ := bind_s hf
    refine g_callS (As := [.ref (a 20), .int (fI q18.2 20 4), .ref (a v4), .int 0]) (rest := []) hx hb hml hown hts hK hN (m_X11_firstOther l D a C ha q18.2 20 (fI q18.2 20 4) v4 0 isPar20 hv4 q19 hq19) (va_cwS 4 hts gX11_whatIs_X11_firstOther rfl rfl rfl kdX11_firstOther.2 ⟨Nat.le_of_ble_eq_true rfl, Nat.le_of_ble_eq_true rfl⟩) hP hS hA rfl hl.1 rfl (Nat.le_of_ble_eq_true rfl) dX11_whatIs_134 ⟨Nat.le_refl _, Nat.le_refl _⟩ (fun H locs hP hS => ?_)
    refine W.eq (g2 := F0 m 137 ls [.int q19]) rfl ?_
    refine lv_bipush (v := (-4)) hx hb dX11_whatIs_137 (by decide) ?_
    refine lv_icmp_ne (tgt := 151) hx hb dX11_whatIs_139 (by decide) (fun c20 => ?_) (fun c20 => ?_)
    · have hf := if_f hf c20
      exact J151 k50 hk50 v4 v6 v7 q18.2 hv4 hf H locs ls hP hS (lv_sub hl [0, 1, 2, 3, 4, 5] rfl)
    · have hf := if_t hf c20
      refine lv_iload hx hb dX11_whatIs_142 (lv_at hl 4 rfl) ?_
      refine lv_iconst (v := 1) hx hb dX11_whatIs_144 (by decide) ?_
      refine lv_iload hx hb dX11_whatIs_145 (lv_at hl 5 rfl) ?_
      refine lv_ishl hx hb dX11_whatIs_147 ?_
      refine lv_ior hx hb dX11_whatIs_148 ?_
      refine lv_topi (fun x21 ex21 => ?_)
      have hf := nm_s hf ex21
      refine lv_istore (lv' := [(6, .int x21), (0, .ref (a 0)), (2, .int v2), (3, .int v3), (4, .ref (a v4)), (7, .int v7)]) hx hb dX11_whatIs_149 hl (by decide) rfl (fun ls hl => ?_)
      exact J151 k50 hk50 v4 x21 v7 q18.2 hv4 hf H locs ls hP hS (lv_sub hl [1, 2, 3, 4, 0, 5] rfl)
  have J99 : ∀ (k50 : Nat → Int32 → Int32 → HS → Option (Int32 × HS)) (hk50 : ∀ (v4 : Nat) (v6 : Int32) (v7 : Int32) (h : HS), isShf v4 → k50 v4 v6 v7 h = some (r, h') → gG p l e (headSpec wsX11_whatIs rmX11_whatIs).room s m ([.ref (a 0), .int v1, .int v2, .int v3] : List Value).toArray below meth c (MQ below (gQ (some (.int r)) D a C h') ([.ref (a 0), .int v1, .int v2, .int v3] : List Value).toArray s 0 0 (gA a)) D a C 8 h 50 [(0, .ref (a 0)), (2, .int v2), (3, .int v3), (4, .ref (a v4)), (6, .int v6), (7, .int v7)] []) (v4 : Nat) (v6 : Int32) (v7 : Int32) (s0 : Int32) (s1 : Int32) (h : HS) (hv4 : isShf v4) (_ : X11_whatIs_B99 v1 v2 v3 k50 v4 v6 v7 s0 s1 h = some (r, h')), gG p l e (headSpec wsX11_whatIs rmX11_whatIs).room s m ([.ref (a 0), .int v1, .int v2, .int v3] : List Value).toArray below meth c (MQ below (gQ (some (.int r)) D a C h') ([.ref (a 0), .int v1, .int v2, .int v3] : List Value).toArray s 0 0 (gA a)) D a C 8 h 99 [(0, .ref (a 0)), (2, .int v2), (3, .int v3), (4, .ref (a v4)), (6, .int v6), (7, .int v7)] [.int s0, .int s1, .ref (a 20)] := by
    intro k50 hk50 v4 v6 v7 s0 s1 h hv4 hf H locs ls hP hS hl
    unfold X11_whatIs_B99 at hf
    refine lv_iload_n hx hb dX11_whatIs_99 rfl (lv_at hl 2 rfl) ?_
    refine lv_if_ne (tgt := 114) hx hb dX11_whatIs_100 (by decide) (fun c16 => ?_) (fun c16 => ?_)
    · have hf := if_f hf c16
      refine lv_iload hx hb dX11_whatIs_114 (lv_at hl 5 rfl) ?_
      exact J116 k50 hk50 v4 v6 v7 v7 s0 s1 h hv4 hf H locs ls hP hS (lv_sub hl [0, 1, 2, 3, 4, 5] rfl)
    · have hf := if_t hf c16
      refine lv_aload_n hx hb dX11_whatIs_103 rfl (lv_at hl 0 rfl) ?_
      refine g_get (Cn := RX11) (T := TX11) (N := 8) (v := .ref (a 5)) (own := RX11) hx hb hown hts hK X_O rfl (fun _ hw => List.mem_cons_of_mem _ (List.mem_append_left _ (List.mem_append_left _ (List.mem_append_left _ (List.mem_append_right _ hw))))) 0 (by decide) (List.mem_of_getElem? (i := 1) rfl) rfl rfl hP dX11_whatIs_104 ?_
      refine lv_iload_n hx hb dX11_whatIs_107 rfl (lv_at hl 1 rfl) ?_
      obtain ⟨q17, hq17, hf⟩ := bind_s hf
      refine g_callV (As := [.int v2]) (rest := [.int s0, .int s1, .ref (a 20)]) hx hb hml hown hts hK hN (m_X5_figureOf l D a C ha h 5 v2 isPar5 q17 hq17) (cwV 1 hts gX11_whatIs_X5_figureOf rfl rfl rfl kdX5_figureOf ⟨Nat.le_of_ble_eq_true rfl, Nat.le_of_ble_eq_true rfl⟩) (par_O isPar5) rfl rfl hP hS hA rfl hl.1 rfl (Nat.le_of_ble_eq_true rfl) dX11_whatIs_108 ⟨Nat.le_refl _, Nat.le_refl _⟩ (fun H locs hP hS => ?_)
      refine W.eq (g2 := F0 m 111 ls [.int q17, .int s0, .int s1, .ref (a 20)]) rfl ?_
      refine lv_goto (tgt := 116) hx hb dX11_whatIs_111 (by decide) ?_
      exact J116 k50 hk50 v4 v6 v7 q17 s0 s1 h hv4 hf H locs ls hP hS (lv_sub hl [0, 1, 2, 3, 4, 5] rfl)
  have J63 : ∀ (k50 : Nat → Int32 → Int32 → HS → Option (Int32 × HS)) (hk50 : ∀ (v4 : Nat) (v6 : Int32) (v7 : Int32) (h : HS), isShf v4 → k50 v4 v6 v7 h = some (r, h') → gG p l e (headSpec wsX11_whatIs rmX11_whatIs).room s m ([.ref (a 0), .int v1, .int v2, .int v3] : List Value).toArray below meth c (MQ below (gQ (some (.int r)) D a C h') ([.ref (a 0), .int v1, .int v2, .int v3] : List Value).toArray s 0 0 (gA a)) D a C 8 h 50 [(0, .ref (a 0)), (2, .int v2), (3, .int v3), (4, .ref (a v4)), (6, .int v6), (7, .int v7)] []) (v4 : Nat) (v6 : Int32) (v7 : Int32) (s0 : Int32) (s1 : Int32) (h : HS) (hv4 : isShf v4) (_ : X11_whatIs_B63 v1 v2 v3 k50 v4 v6 v7 s0 s1 h = some (r, h')), gG p l e (headSpec wsX11_whatIs rmX11_whatIs).room s m ([.ref (a 0), .int v1, .int v2, .int v3] : List Value).toArray below meth c (MQ below (gQ (some (.int r)) D a C h') ([.ref (a 0), .int v1, .int v2, .int v3] : List Value).toArray s 0 0 (gA a)) D a C 8 h 63 [(0, .ref (a 0)), (2, .int v2), (3, .int v3), (4, .ref (a v4)), (6, .int v6), (7, .int v7)] [.int s0, .int s1] := by
    intro k50 hk50 v4 v6 v7 s0 s1 h hv4 hf H locs ls hP hS hl
    unfold X11_whatIs_B63 at hf
    refine lv_icmp_ge (tgt := 157) hx hb dX11_whatIs_63 (by decide) (fun c12 => ?_) (fun c12 => ?_)
    · have hf := if_t hf c12
      refine lv_iload hx hb dX11_whatIs_157 (lv_at hl 4 rfl) ?_
      exact g_iretW hx hb hr hlk hP hS (ret2 hf) dX11_whatIs_159
    · have hf := if_f hf c12
      refine lv_aload_n hx hb dX11_whatIs_66 rfl (lv_at hl 0 rfl) ?_
      refine g_get (Cn := RX11) (T := TX11) (N := 8) (v := .ref (a 20)) (own := RX11) hx hb hown hts hK X_O rfl (fun _ hw => List.mem_cons_of_mem _ (List.mem_append_left _ (List.mem_append_left _ (List.mem_append_left _ (List.mem_append_right _ hw))))) 1 (by decide) (List.mem_of_getElem? (i := 2) rfl) rfl rfl hP dX11_whatIs_67 ?_
      refine lv_aload_n hx hb dX11_whatIs_70 rfl (lv_at hl 0 rfl) ?_
      refine g_get (Cn := RX11) (T := TX11) (N := 8) (v := .ref (a 5)) (own := RX11) hx hb hown hts hK X_O rfl (fun _ hw => List.mem_cons_of_mem _ (List.mem_append_left _ (List.mem_append_left _ (List.mem_append_left _ (List.mem_append_right _ hw))))) 0 (by decide) (List.mem_of_getElem? (i := 1) rfl) rfl rfl hP dX11_whatIs_71 ?_
      obtain ⟨q13, hq13, hf⟩ := bind_s hf
      refine g_callV (As := [.ref (a 5)]) (rest := []) hx hb hml hown hts hK hN (m_X5_become l D a C ha h 20 5 isPar20 isPar5 q13 hq13) (cwV 1 hts gX11_whatIs_X5_become rfl rfl rfl kdX5_become ⟨Nat.le_of_ble_eq_true rfl, Nat.le_of_ble_eq_true rfl⟩) (par_O isPar20) rfl rfl hP hS hA rfl hl.1 rfl (Nat.le_of_ble_eq_true rfl) dX11_whatIs_74 ⟨Nat.le_refl _, Nat.le_refl _⟩ (fun H locs hP hS => ?_)
      refine W.eq (g2 := F0 m 77 ls []) rfl ?_
      refine lv_aload_n hx hb dX11_whatIs_77 rfl (lv_at hl 0 rfl) ?_
      refine g_get (Cn := RX11) (T := TX11) (N := 8) (v := .ref (a 20)) (own := RX11) hx hb hown hts hK X_O rfl (fun _ hw => List.mem_cons_of_mem _ (List.mem_append_left _ (List.mem_append_left _ (List.mem_append_left _ (List.mem_append_right _ hw))))) 1 (by decide) (List.mem_of_getElem? (i := 2) rfl) rfl rfl hP dX11_whatIs_78 ?_
      refine lv_iload_n hx hb dX11_whatIs_81 rfl (lv_at hl 1 rfl) ?_
      refine lv_iload_n hx hb dX11_whatIs_82 rfl (lv_at hl 2 rfl) ?_
      refine lv_if_ne (tgt := 91) hx hb dX11_whatIs_83 (by decide) (fun c14 => ?_) (fun c14 => ?_)
      · have hf := if_f hf c14
        refine lv_aload_n hx hb dX11_whatIs_91 rfl (lv_at hl 0 rfl) ?_
        refine g_get (Cn := RX11) (T := TX11) (N := 8) (v := .ref (a 5)) (own := RX11) hx hb hown hts hK X_O rfl (fun _ hw => List.mem_cons_of_mem _ (List.mem_append_left _ (List.mem_append_left _ (List.mem_append_left _ (List.mem_append_right _ hw))))) 0 (by decide) (List.mem_of_getElem? (i := 1) rfl) rfl rfl hP dX11_whatIs_92 ?_
        refine lv_iload_n hx hb dX11_whatIs_95 rfl (lv_at hl 1 rfl) ?_
        obtain ⟨q15, hq15, hf⟩ := bind_s hf
        refine g_callV (As := [.int v2]) (rest := [.int v2, .ref (a 20)]) hx hb hml hown hts hK hN (m_X5_kindOf l D a C ha q13 5 v2 isPar5 q15 hq15) (cwV 1 hts gX11_whatIs_X5_kindOf rfl rfl rfl kdX5_kindOf ⟨Nat.le_of_ble_eq_true rfl, Nat.le_of_ble_eq_true rfl⟩) (par_O isPar5) rfl rfl hP hS hA rfl hl.1 rfl (Nat.le_of_ble_eq_true rfl) dX11_whatIs_96 ⟨Nat.le_refl _, Nat.le_refl _⟩ (fun H locs hP hS => ?_)
        refine W.eq (g2 := F0 m 99 ls [.int q15, .int v2, .ref (a 20)]) rfl ?_
        exact J99 k50 hk50 v4 v6 v7 q15 v2 q13 hv4 hf H locs ls hP hS (lv_sub hl [0, 1, 2, 3, 4, 5] rfl)
      · have hf := if_t hf c14
        refine lv_iload hx hb dX11_whatIs_86 (lv_at hl 5 rfl) ?_
        refine lv_goto (tgt := 99) hx hb dX11_whatIs_88 (by decide) ?_
        exact J99 k50 hk50 v4 v6 v7 v7 v2 q13 hv4 hf H locs ls hP hS (lv_sub hl [0, 1, 2, 3, 4, 5] rfl)
  have J50 : ∀ (fu : Nat) (v4 : Nat) (v6 : Int32) (v7 : Int32) (h : HS) (hv4 : isShf v4), X11_whatIs_B50 v1 v2 v3 fu v4 v6 v7 h = some (r, h') → gG p l e (headSpec wsX11_whatIs rmX11_whatIs).room s m ([.ref (a 0), .int v1, .int v2, .int v3] : List Value).toArray below meth c (MQ below (gQ (some (.int r)) D a C h') ([.ref (a 0), .int v1, .int v2, .int v3] : List Value).toArray s 0 0 (gA a)) D a C 8 h 50 [(0, .ref (a 0)), (2, .int v2), (3, .int v3), (4, .ref (a v4)), (6, .int v6), (7, .int v7)] [] := by
    intro fu
    induction fu with
    | zero => intro v4 v6 v7 h hv4 hf; exact absurd hf (by simp [X11_whatIs_B50])
    | succ fu ih =>
      intro v4 v6 v7 h hv4 hf H locs ls hP hS hl
      rw [X11_whatIs_B50] at hf
      refine lv_iload hx hb dX11_whatIs_50 (lv_at hl 5 rfl) ?_
      refine lv_iload_n hx hb dX11_whatIs_52 rfl (lv_at hl 2 rfl) ?_
      refine lv_if_ne (tgt := 61) hx hb dX11_whatIs_53 (by decide) (fun c11 => ?_) (fun c11 => ?_)
      · have hf := if_f hf c11
        refine lv_bipush (v := 10) hx hb dX11_whatIs_61 (by decide) ?_
        exact J63 (X11_whatIs_B50 v1 v2 v3 fu) ih v4 v6 v7 10 v7 h hv4 hf H locs ls hP hS (lv_sub hl [0, 1, 2, 3, 4, 5] rfl)
      · have hf := if_t hf c11
        refine lv_bipush (v := 8) hx hb dX11_whatIs_56 (by decide) ?_
        refine lv_goto (tgt := 63) hx hb dX11_whatIs_58 (by decide) ?_
        exact J63 (X11_whatIs_B50 v1 v2 v3 fu) ih v4 v6 v7 8 v7 h hv4 hf H locs ls hP hS (lv_sub hl [0, 1, 2, 3, 4, 5] rfl)
  unfold X11_whatIs at hf
  suffices hh : ∀ (H : Heap) (locs : List Loc), va_P D vwCl (gw a C h) H → va_S (gA a) s.heap H locs → W p l e (headSpec wsX11_whatIs rmX11_whatIs).room s m ([.ref (a 0), .int v1, .int v2, .int v3] : List Value).toArray below meth c H locs 0 0 (MQ below (gQ (some (.int r)) D a C h') ([.ref (a 0), .int v1, .int v2, .int v3] : List Value).toArray s 0 0 (gA a)) (F0 m 0 ls []) from hh _ _ hP hS
  intro H locs hP hS
  refine lv_aload_n hx hb dX11_whatIs_0 rfl (lv_at hl 0 rfl) ?_
  refine g_get (Cn := RX11) (T := TX11) (N := 8) (v := .ref (a 5)) (own := RX11) hx hb hown hts hK X_O rfl (fun _ hw => List.mem_cons_of_mem _ (List.mem_append_left _ (List.mem_append_left _ (List.mem_append_left _ (List.mem_append_right _ hw))))) 0 (by decide) (List.mem_of_getElem? (i := 1) rfl) rfl rfl hP dX11_whatIs_1 ?_
  refine lv_iload_n hx hb dX11_whatIs_4 rfl (lv_at hl 2 rfl) ?_
  obtain ⟨q1, hq1, hf⟩ := bind_s hf
  refine g_callV (As := [.int v2]) (rest := []) hx hb hml hown hts hK hN (m_X5_has l D a C ha h 5 v2 isPar5 q1 hq1) (cwV 1 hts gX11_whatIs_X5_has rfl rfl rfl kdX5_has ⟨Nat.le_of_ble_eq_true rfl, Nat.le_of_ble_eq_true rfl⟩) (par_O isPar5) rfl rfl hP hS hA rfl hl.1 rfl (Nat.le_of_ble_eq_true rfl) dX11_whatIs_5 ⟨Nat.le_refl _, Nat.le_refl _⟩ (fun H locs hP hS => ?_)
  refine W.eq (g2 := F0 m 8 ls [.int q1]) rfl ?_
  refine lv_if_eq (tgt := 20) hx hb dX11_whatIs_8 (by decide) (fun c2 => ?_) (fun c2 => ?_)
  · have hf := if_t hf c2
    refine lv_iconst (v := (-1)) hx hb dX11_whatIs_20 (by decide) ?_
    exact g_iretW hx hb hr hlk hP hS (ret2 hf) dX11_whatIs_21
  · have hf := if_f hf c2
    refine lv_iload_n hx hb dX11_whatIs_11 rfl (lv_at hl 3 rfl) ?_
    refine lv_if_lt (tgt := 20) hx hb dX11_whatIs_12 (by decide) (fun c3 => ?_) (fun c3 => ?_)
    · have hf := if_t hf c3
      refine lv_iconst (v := (-1)) hx hb dX11_whatIs_20 (by decide) ?_
      exact g_iretW hx hb hr hlk hP hS (ret2 hf) dX11_whatIs_21
    · have hf := if_f hf c3
      refine lv_iload_n hx hb dX11_whatIs_15 rfl (lv_at hl 3 rfl) ?_
      refine lv_iconst (v := 1) hx hb dX11_whatIs_16 (by decide) ?_
      refine lv_icmp_le (tgt := 22) hx hb dX11_whatIs_17 (by decide) (fun c4 => ?_) (fun c4 => ?_)
      · have hf := if_t hf c4
        refine lv_aload_n hx hb dX11_whatIs_22 rfl (lv_at hl 0 rfl) ?_
        refine lv_iload_n hx hb dX11_whatIs_23 rfl (lv_at hl 1 rfl) ?_
        obtain ⟨q5, hq5, hf⟩ := bind_s hf
        refine g_callV (As := [.int v1]) (rest := []) hx hb hml hown hts hK hN (m_X11_shelfOf l D a C ha h v1  q5 hq5) (cwV 1 hts gX11_whatIs_X11_shelfOf rfl rfl rfl kdX11_shelfOf ⟨Nat.le_of_ble_eq_true rfl, Nat.le_of_ble_eq_true rfl⟩) X_O rfl rfl hP hS hA rfl hl.1 rfl (Nat.le_of_ble_eq_true rfl) dX11_whatIs_24 ⟨Nat.le_refl _, Nat.le_refl _⟩ (fun H locs hP hS => ?_)
        rcases q5 with _ | t6
        · have hf := oM_none hf
          refine W.eq (g2 := F0 m 27 ls [.null]) rfl ?_
          refine lv_astoreN (lv' := [(4, .null), (0, .ref (a 0)), (1, .int v1), (2, .int v2), (3, .int v3)]) hx hb dX11_whatIs_27 hl (by decide) rfl (fun ls hl => ?_)
          refine lv_aloadN hx hb dX11_whatIs_29 (lv_at hl 0 rfl) ?_
          obtain ⟨q7, hq7, hf⟩ := bind_s hf
          refine g_callS (As := [.null]) (rest := []) hx hb hml hown hts hK hN (m_X11_rowRefusal l D a C ha h none isShO_none q7 hq7) (va_cwS 1 hts gX11_whatIs_X11_rowRefusal rfl rfl rfl kdX11_rowRefusal.2 ⟨Nat.le_of_ble_eq_true rfl, Nat.le_of_ble_eq_true rfl⟩) hP hS hA rfl hl.1 rfl (Nat.le_of_ble_eq_true rfl) dX11_whatIs_31 ⟨Nat.le_refl _, Nat.le_refl _⟩ (fun H locs hP hS => ?_)
          refine W.eq (g2 := F0 m 34 ls [.int q7]) rfl ?_
          refine lv_istore (lv' := [(5, .int q7), (4, .null), (0, .ref (a 0)), (1, .int v1), (2, .int v2), (3, .int v3)]) hx hb dX11_whatIs_34 hl (by decide) rfl (fun ls hl => ?_)
          refine lv_iload hx hb dX11_whatIs_36 (lv_at hl 0 rfl) ?_
          refine lv_if_eq (tgt := 44) hx hb dX11_whatIs_38 (by decide) (fun c8 => ?_) (fun c8 => ?_)
          · have hf := if_t hf c8
            refine lv_iconst (v := 0) hx hb dX11_whatIs_44 (by decide) ?_
            refine lv_istore (lv' := [(6, .int 0), (5, .int q7), (4, .null), (0, .ref (a 0)), (1, .int v1), (2, .int v2), (3, .int v3)]) hx hb dX11_whatIs_45 hl (by decide) rfl (fun ls hl => ?_)
            refine lv_iconst (v := 0) hx hb dX11_whatIs_47 (by decide) ?_
            refine lv_istore (lv' := [(7, .int 0), (6, .int 0), (5, .int q7), (4, .null), (0, .ref (a 0)), (1, .int v1), (2, .int v2), (3, .int v3)]) hx hb dX11_whatIs_48 hl (by decide) rfl (fun ls hl => ?_)
            exact absurd hf (by simp)
          · have hf := if_f hf c8
            refine lv_iload hx hb dX11_whatIs_41 (lv_at hl 0 rfl) ?_
            exact g_iretW hx hb hr hlk hP hS (ret2 hf) dX11_whatIs_43
        · have hf := oM_some hf
          have ht6 : isShf t6 := X11_shelfOf_ok hq5 t6 rfl
          refine W.eq (g2 := F0 m 27 ls [.ref (a t6)]) rfl ?_
          refine lv_astore (lv' := [(4, .ref (a t6)), (0, .ref (a 0)), (1, .int v1), (2, .int v2), (3, .int v3)]) hx hb dX11_whatIs_27 hl (by decide) rfl (fun ls hl => ?_)
          refine lv_aload hx hb dX11_whatIs_29 (lv_at hl 0 rfl) ?_
          obtain ⟨q9, hq9, hf⟩ := bind_s hf
          refine g_callS (As := [.ref (a t6)]) (rest := []) hx hb hml hown hts hK hN (m_X11_rowRefusal l D a C ha h (some t6) (isShO_some ht6) q9 hq9) (va_cwS 1 hts gX11_whatIs_X11_rowRefusal rfl rfl rfl kdX11_rowRefusal.2 ⟨Nat.le_of_ble_eq_true rfl, Nat.le_of_ble_eq_true rfl⟩) hP hS hA rfl hl.1 rfl (Nat.le_of_ble_eq_true rfl) dX11_whatIs_31 ⟨Nat.le_refl _, Nat.le_refl _⟩ (fun H locs hP hS => ?_)
          refine W.eq (g2 := F0 m 34 ls [.int q9]) rfl ?_
          refine lv_istore (lv' := [(5, .int q9), (4, .ref (a t6)), (0, .ref (a 0)), (1, .int v1), (2, .int v2), (3, .int v3)]) hx hb dX11_whatIs_34 hl (by decide) rfl (fun ls hl => ?_)
          refine lv_iload hx hb dX11_whatIs_36 (lv_at hl 0 rfl) ?_
          refine lv_if_eq (tgt := 44) hx hb dX11_whatIs_38 (by decide) (fun c10 => ?_) (fun c10 => ?_)
          · have hf := if_t hf c10
            refine lv_iconst (v := 0) hx hb dX11_whatIs_44 (by decide) ?_
            refine lv_istore (lv' := [(6, .int 0), (5, .int q9), (4, .ref (a t6)), (0, .ref (a 0)), (1, .int v1), (2, .int v2), (3, .int v3)]) hx hb dX11_whatIs_45 hl (by decide) rfl (fun ls hl => ?_)
            refine lv_iconst (v := 0) hx hb dX11_whatIs_47 (by decide) ?_
            refine lv_istore (lv' := [(7, .int 0), (6, .int 0), (5, .int q9), (4, .ref (a t6)), (0, .ref (a 0)), (1, .int v1), (2, .int v2), (3, .int v3)]) hx hb dX11_whatIs_48 hl (by decide) rfl (fun ls hl => ?_)
            exact J50 FU t6 0 0 h ht6 hf H locs ls hP hS (lv_sub hl [4, 6, 7, 3, 1, 0] rfl)
          · have hf := if_f hf c10
            refine lv_iload hx hb dX11_whatIs_41 (lv_at hl 0 rfl) ?_
            exact g_iretW hx hb hr hlk hP hS (ret2 hf) dX11_whatIs_43
      · have hf := if_f hf c4
        refine lv_iconst (v := (-1)) hx hb dX11_whatIs_20 (by decide) ?_
        exact g_iretW hx hb hr hlk hP hS (ret2 hf) dX11_whatIs_21

def X11_whoBegan_B74 (h : HS) (v1 : Int32) (k23 : Nat → Int32 → Int32 → Option Int32) (v2 : Nat) (v4 : Int32) (v5 : Int32) : Option Int32 :=
    nm (v5 + 1) fun x14 =>
    k23 v2 v4 x14
def X11_whoBegan_B23 (h : HS) (v1 : Int32) : Nat → Nat → Int32 → Int32 → Option Int32
  | 0, _, _, _ => none
  | fu + 1, v2, v4, v5 =>
    (X5_people h 5).bind fun q7 =>
    (if q7 ≤ v5 then
    some v4
    else
    (X5_isDeaf h 5 v5).bind fun q9 =>
    (if q9 = 0 then
    (X11_firstOther h 5 ((1 : Int32) <<< (v5 &&& 31)) v2 1).bind fun q11 =>
    (if q11 = (-4) then
    nm (v4 ||| ((1 : Int32) <<< (v5 &&& 31))) fun x13 =>
    X11_whoBegan_B74 h v1 (X11_whoBegan_B23 h v1 fu) v2 x13 v5
    else
    X11_whoBegan_B74 h v1 (X11_whoBegan_B23 h v1 fu) v2 v4 v5)
    else
    X11_whoBegan_B74 h v1 (X11_whoBegan_B23 h v1 fu) v2 v4 v5))
def X11_whoBegan (h : HS) (v1 : Int32) : Option Int32 :=
    (X11_shelfOf h v1).bind fun q1 => oM q1 (
    (X11_rowRefusal h none).bind fun q3 =>
    (if q3 = 0 then
    none
    else
    some q3)) fun t2 =>
    (X11_rowRefusal h (some t2)).bind fun q5 =>
    (if q5 = 0 then
    X11_whoBegan_B23 h v1 FU t2 0 0
    else
    some q5)
def rmX11_whoBegan : Room := { frames := 7, cells := 0, slots := 0, locals := 170 }
theorem kdX11_whoBegan : yX11_whoBegan.cls = RX11 ∧ yX11_whoBegan.cls ≠ "java/lang/invoke/MethodHandle" ∧ yX11_whoBegan.cls ≠ "java/lang/invoke/VarHandle" ∧ (parseMethodDescriptor yX11_whoBegan.desc).map (fun d => d.parameters.length) = some 1 := by decide +kernel
set_option maxHeartbeats 4000000 in
set_option maxRecDepth 100000 in
theorem m_X11_whoBegan (l : Launch) (D : va_G) (a : Nat → Nat) (C : Nat → ClassId) (ha : ginj a) (h : HS) (v1 : Int32)  (r : Int32) (hf : X11_whoBegan h v1 = some r) : gM l yX11_whoBegan wsX11_whoBegan rmX11_whoBegan D a C [.ref (a 0), .int v1] h (some (.int r)) h := by
  refine g_start (av := [.ref (a 0), .int v1]) (cc := cX11_whoBegan) (maxL := 6) (rt := (some .int)) (by decide) rfl (Nat.le_of_ble_eq_true rfl) ?_
  intro p e s m below meth c hx hb hr hml hown hlk hts hP hK hN ls hl
  have hA : ∀ q, gA a q → gA a q := fun _ q => q
  have hS : va_S (gA a) s.heap s.heap [] := va_S.rf
  have hl : lv_has ls 6 [(0, .ref (a 0)), (1, .int v1)] := hl
  have J74 : ∀ (k23 : Nat → Int32 → Int32 → Option Int32) (hk23 : ∀ (v2 : Nat) (v4 : Int32) (v5 : Int32), isShf v2 → k23 v2 v4 v5 = some r → gG p l e (headSpec wsX11_whoBegan rmX11_whoBegan).room s m ([.ref (a 0), .int v1] : List Value).toArray below meth c (MQ below (gQ (some (.int r)) D a C h) ([.ref (a 0), .int v1] : List Value).toArray s 0 0 (gA a)) D a C 6 h 23 [(0, .ref (a 0)), (2, .ref (a v2)), (4, .int v4), (5, .int v5)] []) (v2 : Nat) (v4 : Int32) (v5 : Int32) (hv2 : isShf v2) (_ : X11_whoBegan_B74 h v1 k23 v2 v4 v5 = some r), gG p l e (headSpec wsX11_whoBegan rmX11_whoBegan).room s m ([.ref (a 0), .int v1] : List Value).toArray below meth c (MQ below (gQ (some (.int r)) D a C h) ([.ref (a 0), .int v1] : List Value).toArray s 0 0 (gA a)) D a C 6 h 74 [(0, .ref (a 0)), (2, .ref (a v2)), (4, .int v4), (5, .int v5)] [] := by
    intro k23 hk23 v2 v4 v5 hv2 hf H locs ls hP hS hl
    unfold X11_whoBegan_B74 at hf
    obtain ⟨x14, ex14⟩ : ∃ y : Int32, y = (v5 + 1) := ⟨_, rfl⟩
    have hf := nm_s hf ex14
    refine lv_iinc (v := x14) (lv' := [(5, .int x14), (0, .ref (a 0)), (2, .ref (a v2)), (4, .int v4)]) hx hb dX11_whoBegan_74 hl (k := 3) rfl (by rw [ex14]; rfl) (by decide) rfl (fun ls hl => ?_)
    refine lv_goto (tgt := 23) hx hb dX11_whoBegan_77 (by decide) ?_
    exact hk23 v2 v4 x14 hv2 hf H locs ls hP hS (lv_sub hl [1, 2, 3, 0] rfl)
  have J23 : ∀ (fu : Nat) (v2 : Nat) (v4 : Int32) (v5 : Int32) (hv2 : isShf v2), X11_whoBegan_B23 h v1 fu v2 v4 v5 = some r → gG p l e (headSpec wsX11_whoBegan rmX11_whoBegan).room s m ([.ref (a 0), .int v1] : List Value).toArray below meth c (MQ below (gQ (some (.int r)) D a C h) ([.ref (a 0), .int v1] : List Value).toArray s 0 0 (gA a)) D a C 6 h 23 [(0, .ref (a 0)), (2, .ref (a v2)), (4, .int v4), (5, .int v5)] [] := by
    intro fu
    induction fu with
    | zero => intro v2 v4 v5 hv2 hf; exact absurd hf (by simp [X11_whoBegan_B23])
    | succ fu ih =>
      intro v2 v4 v5 hv2 hf H locs ls hP hS hl
      rw [X11_whoBegan_B23] at hf
      refine lv_iload hx hb dX11_whoBegan_23 (lv_at hl 3 rfl) ?_
      refine lv_aload_n hx hb dX11_whoBegan_25 rfl (lv_at hl 0 rfl) ?_
      refine g_get (Cn := RX11) (T := TX11) (N := 8) (v := .ref (a 5)) (own := RX11) hx hb hown hts hK X_O rfl (fun _ hw => List.mem_cons_of_mem _ (List.mem_append_left _ (List.mem_append_left _ (List.mem_append_left _ (List.mem_append_right _ hw))))) 0 (by decide) (List.mem_of_getElem? (i := 1) rfl) rfl rfl hP dX11_whoBegan_26 ?_
      obtain ⟨q7, hq7, hf⟩ := bind_s hf
      refine g_callV (As := []) (rest := [.int v5]) hx hb hml hown hts hK hN (m_X5_people l D a C ha h 5 isPar5 q7 hq7) (cwV 0 hts gX11_whoBegan_X5_people rfl rfl rfl kdX5_people ⟨Nat.le_of_ble_eq_true rfl, Nat.le_of_ble_eq_true rfl⟩) (par_O isPar5) rfl rfl hP hS hA rfl hl.1 rfl (Nat.le_of_ble_eq_true rfl) dX11_whoBegan_29 ⟨Nat.le_refl _, Nat.le_refl _⟩ (fun H locs hP hS => ?_)
      refine W.eq (g2 := F0 m 32 ls [.int q7, .int v5]) rfl ?_
      refine lv_icmp_ge (tgt := 80) hx hb dX11_whoBegan_32 (by decide) (fun c8 => ?_) (fun c8 => ?_)
      · have hf := if_t hf c8
        refine lv_iload hx hb dX11_whoBegan_80 (lv_at hl 2 rfl) ?_
        exact g_iret hx hb hr hlk hP hS (ret1 hf) dX11_whoBegan_82
      · have hf := if_f hf c8
        refine lv_aload_n hx hb dX11_whoBegan_35 rfl (lv_at hl 0 rfl) ?_
        refine g_get (Cn := RX11) (T := TX11) (N := 8) (v := .ref (a 5)) (own := RX11) hx hb hown hts hK X_O rfl (fun _ hw => List.mem_cons_of_mem _ (List.mem_append_left _ (List.mem_append_left _ (List.mem_append_left _ (List.mem_append_right _ hw))))) 0 (by decide) (List.mem_of_getElem? (i := 1) rfl) rfl rfl hP dX11_whoBegan_36 ?_
        refine lv_iload hx hb dX11_whoBegan_39 (lv_at hl 3 rfl) ?_
        obtain ⟨q9, hq9, hf⟩ := bind_s hf
        refine g_callV (As := [.int v5]) (rest := []) hx hb hml hown hts hK hN (m_X5_isDeaf l D a C ha h 5 v5 isPar5 q9 hq9) (cwV 1 hts gX11_whoBegan_X5_isDeaf rfl rfl rfl kdX5_isDeaf ⟨Nat.le_of_ble_eq_true rfl, Nat.le_of_ble_eq_true rfl⟩) (par_O isPar5) rfl rfl hP hS hA rfl hl.1 rfl (Nat.le_of_ble_eq_true rfl) dX11_whoBegan_41 ⟨Nat.le_refl _, Nat.le_refl _⟩ (fun H locs hP hS => ?_)
        refine W.eq (g2 := F0 m 44 ls [.int q9]) rfl ?_
        refine lv_if_ne (tgt := 74) hx hb dX11_whoBegan_44 (by decide) (fun c10 => ?_) (fun c10 => ?_)
        · have hf := if_f hf c10
          exact J74 (X11_whoBegan_B23 h v1 fu) ih v2 v4 v5 hv2 hf H locs ls hP hS (lv_sub hl [0, 1, 2, 3] rfl)
        · have hf := if_t hf c10
          refine lv_aload_n hx hb dX11_whoBegan_47 rfl (lv_at hl 0 rfl) ?_
          refine g_get (Cn := RX11) (T := TX11) (N := 8) (v := .ref (a 5)) (own := RX11) hx hb hown hts hK X_O rfl (fun _ hw => List.mem_cons_of_mem _ (List.mem_append_left _ (List.mem_append_left _ (List.mem_append_left _ (List.mem_append_right _ hw))))) 0 (by decide) (List.mem_of_getElem? (i := 1) rfl) rfl rfl hP dX11_whoBegan_48 ?_
          refine lv_iconst (v := 1) hx hb dX11_whoBegan_51 (by decide) ?_
          refine lv_iload hx hb dX11_whoBegan_52 (lv_at hl 3 rfl) ?_
          refine lv_ishl hx hb dX11_whoBegan_54 ?_
          refine lv_aload_n hx hb dX11_whoBegan_55 rfl (lv_at hl 1 rfl) ?_
          refine lv_iconst (v := 1) hx hb dX11_whoBegan_56 (by decide) ?_
          obtain ⟨q11, hq11, hf⟩ := bind_s hf
          refine g_callS (As := [.ref (a 5), .int ((1 : Int32) <<< (v5 &&& 31)), .ref (a v2), .int 1]) (rest := []) hx hb hml hown hts hK hN (m_X11_firstOther l D a C ha h 5 ((1 : Int32) <<< (v5 &&& 31)) v2 1 isPar5 hv2 q11 hq11) (va_cwS 4 hts gX11_whoBegan_X11_firstOther rfl rfl rfl kdX11_firstOther.2 ⟨Nat.le_of_ble_eq_true rfl, Nat.le_of_ble_eq_true rfl⟩) hP hS hA rfl hl.1 rfl (Nat.le_of_ble_eq_true rfl) dX11_whoBegan_57 ⟨Nat.le_refl _, Nat.le_refl _⟩ (fun H locs hP hS => ?_)
          refine W.eq (g2 := F0 m 60 ls [.int q11]) rfl ?_
          refine lv_bipush (v := (-4)) hx hb dX11_whoBegan_60 (by decide) ?_
          refine lv_icmp_ne (tgt := 74) hx hb dX11_whoBegan_62 (by decide) (fun c12 => ?_) (fun c12 => ?_)
          · have hf := if_f hf c12
            exact J74 (X11_whoBegan_B23 h v1 fu) ih v2 v4 v5 hv2 hf H locs ls hP hS (lv_sub hl [0, 1, 2, 3] rfl)
          · have hf := if_t hf c12
            refine lv_iload hx hb dX11_whoBegan_65 (lv_at hl 2 rfl) ?_
            refine lv_iconst (v := 1) hx hb dX11_whoBegan_67 (by decide) ?_
            refine lv_iload hx hb dX11_whoBegan_68 (lv_at hl 3 rfl) ?_
            refine lv_ishl hx hb dX11_whoBegan_70 ?_
            refine lv_ior hx hb dX11_whoBegan_71 ?_
            refine lv_topi (fun x13 ex13 => ?_)
            have hf := nm_s hf ex13
            refine lv_istore (lv' := [(4, .int x13), (0, .ref (a 0)), (2, .ref (a v2)), (5, .int v5)]) hx hb dX11_whoBegan_72 hl (by decide) rfl (fun ls hl => ?_)
            exact J74 (X11_whoBegan_B23 h v1 fu) ih v2 x13 v5 hv2 hf H locs ls hP hS (lv_sub hl [1, 2, 0, 3] rfl)
  unfold X11_whoBegan at hf
  suffices hh : ∀ (H : Heap) (locs : List Loc), va_P D vwCl (gw a C h) H → va_S (gA a) s.heap H locs → W p l e (headSpec wsX11_whoBegan rmX11_whoBegan).room s m ([.ref (a 0), .int v1] : List Value).toArray below meth c H locs 0 0 (MQ below (gQ (some (.int r)) D a C h) ([.ref (a 0), .int v1] : List Value).toArray s 0 0 (gA a)) (F0 m 0 ls []) from hh _ _ hP hS
  intro H locs hP hS
  refine lv_aload_n hx hb dX11_whoBegan_0 rfl (lv_at hl 0 rfl) ?_
  refine lv_iload_n hx hb dX11_whoBegan_1 rfl (lv_at hl 1 rfl) ?_
  obtain ⟨q1, hq1, hf⟩ := bind_s hf
  refine g_callV (As := [.int v1]) (rest := []) hx hb hml hown hts hK hN (m_X11_shelfOf l D a C ha h v1  q1 hq1) (cwV 1 hts gX11_whoBegan_X11_shelfOf rfl rfl rfl kdX11_shelfOf ⟨Nat.le_of_ble_eq_true rfl, Nat.le_of_ble_eq_true rfl⟩) X_O rfl rfl hP hS hA rfl hl.1 rfl (Nat.le_of_ble_eq_true rfl) dX11_whoBegan_2 ⟨Nat.le_refl _, Nat.le_refl _⟩ (fun H locs hP hS => ?_)
  rcases q1 with _ | t2
  · have hf := oM_none hf
    refine W.eq (g2 := F0 m 5 ls [.null]) rfl ?_
    refine lv_astore_nN (lv' := [(2, .null), (0, .ref (a 0)), (1, .int v1)]) hx hb dX11_whoBegan_5 rfl hl (by decide) rfl (fun ls hl => ?_)
    refine lv_aload_nN hx hb dX11_whoBegan_6 rfl (lv_at hl 0 rfl) ?_
    obtain ⟨q3, hq3, hf⟩ := bind_s hf
    refine g_callS (As := [.null]) (rest := []) hx hb hml hown hts hK hN (m_X11_rowRefusal l D a C ha h none isShO_none q3 hq3) (va_cwS 1 hts gX11_whoBegan_X11_rowRefusal rfl rfl rfl kdX11_rowRefusal.2 ⟨Nat.le_of_ble_eq_true rfl, Nat.le_of_ble_eq_true rfl⟩) hP hS hA rfl hl.1 rfl (Nat.le_of_ble_eq_true rfl) dX11_whoBegan_7 ⟨Nat.le_refl _, Nat.le_refl _⟩ (fun H locs hP hS => ?_)
    refine W.eq (g2 := F0 m 10 ls [.int q3]) rfl ?_
    refine lv_istore_n (lv' := [(3, .int q3), (2, .null), (0, .ref (a 0)), (1, .int v1)]) hx hb dX11_whoBegan_10 rfl hl (by decide) rfl (fun ls hl => ?_)
    refine lv_iload_n hx hb dX11_whoBegan_11 rfl (lv_at hl 0 rfl) ?_
    refine lv_if_eq (tgt := 17) hx hb dX11_whoBegan_12 (by decide) (fun c4 => ?_) (fun c4 => ?_)
    · have hf := if_t hf c4
      refine lv_iconst (v := 0) hx hb dX11_whoBegan_17 (by decide) ?_
      refine lv_istore (lv' := [(4, .int 0), (3, .int q3), (2, .null), (0, .ref (a 0)), (1, .int v1)]) hx hb dX11_whoBegan_18 hl (by decide) rfl (fun ls hl => ?_)
      refine lv_iconst (v := 0) hx hb dX11_whoBegan_20 (by decide) ?_
      refine lv_istore (lv' := [(5, .int 0), (4, .int 0), (3, .int q3), (2, .null), (0, .ref (a 0)), (1, .int v1)]) hx hb dX11_whoBegan_21 hl (by decide) rfl (fun ls hl => ?_)
      exact absurd hf (by simp)
    · have hf := if_f hf c4
      refine lv_iload_n hx hb dX11_whoBegan_15 rfl (lv_at hl 0 rfl) ?_
      exact g_iret hx hb hr hlk hP hS (ret1 hf) dX11_whoBegan_16
  · have hf := oM_some hf
    have ht2 : isShf t2 := X11_shelfOf_ok hq1 t2 rfl
    refine W.eq (g2 := F0 m 5 ls [.ref (a t2)]) rfl ?_
    refine lv_astore_n (lv' := [(2, .ref (a t2)), (0, .ref (a 0)), (1, .int v1)]) hx hb dX11_whoBegan_5 rfl hl (by decide) rfl (fun ls hl => ?_)
    refine lv_aload_n hx hb dX11_whoBegan_6 rfl (lv_at hl 0 rfl) ?_
    obtain ⟨q5, hq5, hf⟩ := bind_s hf
    refine g_callS (As := [.ref (a t2)]) (rest := []) hx hb hml hown hts hK hN (m_X11_rowRefusal l D a C ha h (some t2) (isShO_some ht2) q5 hq5) (va_cwS 1 hts gX11_whoBegan_X11_rowRefusal rfl rfl rfl kdX11_rowRefusal.2 ⟨Nat.le_of_ble_eq_true rfl, Nat.le_of_ble_eq_true rfl⟩) hP hS hA rfl hl.1 rfl (Nat.le_of_ble_eq_true rfl) dX11_whoBegan_7 ⟨Nat.le_refl _, Nat.le_refl _⟩ (fun H locs hP hS => ?_)
    refine W.eq (g2 := F0 m 10 ls [.int q5]) rfl ?_
    refine lv_istore_n (lv' := [(3, .int q5), (2, .ref (a t2)), (0, .ref (a 0)), (1, .int v1)]) hx hb dX11_whoBegan_10 rfl hl (by decide) rfl (fun ls hl => ?_)
    refine lv_iload_n hx hb dX11_whoBegan_11 rfl (lv_at hl 0 rfl) ?_
    refine lv_if_eq (tgt := 17) hx hb dX11_whoBegan_12 (by decide) (fun c6 => ?_) (fun c6 => ?_)
    · have hf := if_t hf c6
      refine lv_iconst (v := 0) hx hb dX11_whoBegan_17 (by decide) ?_
      refine lv_istore (lv' := [(4, .int 0), (3, .int q5), (2, .ref (a t2)), (0, .ref (a 0)), (1, .int v1)]) hx hb dX11_whoBegan_18 hl (by decide) rfl (fun ls hl => ?_)
      refine lv_iconst (v := 0) hx hb dX11_whoBegan_20 (by decide) ?_
      refine lv_istore (lv' := [(5, .int 0), (4, .int 0), (3, .int q5), (2, .ref (a t2)), (0, .ref (a 0)), (1, .int v1)]) hx hb dX11_whoBegan_21 hl (by decide) rfl (fun ls hl => ?_)
      exact J23 FU t2 0 0 ht2 hf H locs ls hP hS (lv_sub hl [4, 3, 1, 0] rfl)
    · have hf := if_f hf c6
      refine lv_iload_n hx hb dX11_whoBegan_15 rfl (lv_at hl 0 rfl) ?_
      exact g_iret hx hb hr hlk hP hS (ret1 hf) dX11_whoBegan_16

def X11_gain (h : HS) (v1 : Int32) (v2 : Int32) (v3 : Int32) (v4 : Int32) (v5 : Int32) : Option Int32 :=
    nm (((1 - v2) <<< (v1 &&& 31)) ||| ((1 - v4) <<< (v3 &&& 31))) fun x1 =>
    (X5_behind h 5 (fI h 5 4) v5 x1).bind fun q2 =>
    (X4_around h 6 v1).bind fun q3 =>
    (J6_bitCount_0f7a4 (q2 &&& q3)).bind fun q4 =>
    some (q4 - (2 * v2))
def rmX11_gain : Room := { frames := 6, cells := 0, slots := 0, locals := 145 }
theorem kdX11_gain : yX11_gain.cls = RX11 ∧ yX11_gain.cls ≠ "java/lang/invoke/MethodHandle" ∧ yX11_gain.cls ≠ "java/lang/invoke/VarHandle" ∧ (parseMethodDescriptor yX11_gain.desc).map (fun d => d.parameters.length) = some 5 := by decide +kernel
set_option maxHeartbeats 4000000 in
set_option maxRecDepth 100000 in
theorem m_X11_gain (l : Launch) (D : va_G) (a : Nat → Nat) (C : Nat → ClassId) (ha : ginj a) (h : HS) (v1 : Int32) (v2 : Int32) (v3 : Int32) (v4 : Int32) (v5 : Int32)  (r : Int32) (hf : X11_gain h v1 v2 v3 v4 v5 = some r) : gM l yX11_gain wsX11_gain rmX11_gain D a C [.ref (a 0), .int v1, .int v2, .int v3, .int v4, .int v5] h (some (.int r)) h := by
  refine g_start (av := [.ref (a 0), .int v1, .int v2, .int v3, .int v4, .int v5]) (cc := cX11_gain) (maxL := 8) (rt := (some .int)) (by decide) rfl (Nat.le_of_ble_eq_true rfl) ?_
  intro p e s m below meth c hx hb hr hml hown hlk hts hP hK hN ls hl
  have hA : ∀ q, gA a q → gA a q := fun _ q => q
  have hS : va_S (gA a) s.heap s.heap [] := va_S.rf
  have hl : lv_has ls 8 [(0, .ref (a 0)), (1, .int v1), (2, .int v2), (3, .int v3), (4, .int v4), (5, .int v5)] := hl
  unfold X11_gain at hf
  refine lv_iconst (v := 1) hx hb dX11_gain_0 (by decide) ?_
  refine lv_iload_n hx hb dX11_gain_1 rfl (lv_at hl 2 rfl) ?_
  refine lv_isub hx hb dX11_gain_2 ?_
  refine lv_iload_n hx hb dX11_gain_3 rfl (lv_at hl 1 rfl) ?_
  refine lv_ishl hx hb dX11_gain_4 ?_
  refine lv_iconst (v := 1) hx hb dX11_gain_5 (by decide) ?_
  refine lv_iload hx hb dX11_gain_6 (lv_at hl 4 rfl) ?_
  refine lv_isub hx hb dX11_gain_8 ?_
  refine lv_iload_n hx hb dX11_gain_9 rfl (lv_at hl 3 rfl) ?_
  refine lv_ishl hx hb dX11_gain_10 ?_
  refine lv_ior hx hb dX11_gain_11 ?_
  refine lv_topi (fun x1 ex1 => ?_)
  have hf := nm_s hf ex1
  refine lv_istore (lv' := [(6, .int x1), (0, .ref (a 0)), (1, .int v1), (2, .int v2), (3, .int v3), (4, .int v4), (5, .int v5)]) hx hb dX11_gain_12 hl (by decide) rfl (fun ls hl => ?_)
  refine lv_aload_n hx hb dX11_gain_14 rfl (lv_at hl 1 rfl) ?_
  refine g_get (Cn := RX11) (T := TX11) (N := 8) (v := .ref (a 5)) (own := RX11) hx hb hown hts hK X_O rfl (fun _ hw => List.mem_cons_of_mem _ (List.mem_append_left _ (List.mem_append_left _ (List.mem_append_right _ hw)))) 0 (by decide) (List.mem_of_getElem? (i := 1) rfl) rfl rfl hP dX11_gain_15 ?_
  refine lv_aload_n hx hb dX11_gain_18 rfl (lv_at hl 1 rfl) ?_
  refine g_get (Cn := RX11) (T := TX11) (N := 8) (v := .ref (a 5)) (own := RX11) hx hb hown hts hK X_O rfl (fun _ hw => List.mem_cons_of_mem _ (List.mem_append_left _ (List.mem_append_left _ (List.mem_append_right _ hw)))) 0 (by decide) (List.mem_of_getElem? (i := 1) rfl) rfl rfl hP dX11_gain_19 ?_
  refine g_getN (Cn := RX5) (T := TX5) (N := 7) (v := .int (fI h 5 4)) (own := RX11) hx hb hown hts hK hN (par_O isPar5) rfl (fun _ hw => List.mem_cons_of_mem _ (List.mem_append_left _ (List.mem_append_right _ hw))) 4 (by decide) (List.mem_of_getElem? (i := 7) rfl) rfl rfl hP dX11_gain_22 ?_
  refine lv_iload hx hb dX11_gain_25 (lv_at hl 6 rfl) ?_
  refine lv_iload hx hb dX11_gain_27 (lv_at hl 0 rfl) ?_
  obtain ⟨q2, hq2, hf⟩ := bind_s hf
  refine g_callV (As := [.int (fI h 5 4), .int v5, .int x1]) (rest := []) hx hb hml hown hts hK hN (m_X5_behind l D a C ha h 5 (fI h 5 4) v5 x1 isPar5 q2 hq2) (cwV 3 hts gX11_gain_X5_behind rfl rfl rfl kdX5_behind ⟨Nat.le_of_ble_eq_true rfl, Nat.le_of_ble_eq_true rfl⟩) (par_O isPar5) rfl rfl hP hS hA rfl hl.1 rfl (Nat.le_of_ble_eq_true rfl) dX11_gain_29 ⟨Nat.le_refl _, Nat.le_refl _⟩ (fun H locs hP hS => ?_)
  refine W.eq (g2 := F0 m 32 ls [.int q2]) rfl ?_
  refine lv_istore (lv' := [(7, .int q2), (6, .int x1), (0, .ref (a 0)), (1, .int v1), (2, .int v2), (3, .int v3), (4, .int v4), (5, .int v5)]) hx hb dX11_gain_32 hl (by decide) rfl (fun ls hl => ?_)
  refine lv_iload hx hb dX11_gain_34 (lv_at hl 0 rfl) ?_
  refine lv_aload_n hx hb dX11_gain_36 rfl (lv_at hl 2 rfl) ?_
  refine g_get (Cn := RX11) (T := TX11) (N := 8) (v := .ref (a 5)) (own := RX11) hx hb hown hts hK X_O rfl (fun _ hw => List.mem_cons_of_mem _ (List.mem_append_left _ (List.mem_append_left _ (List.mem_append_right _ hw)))) 0 (by decide) (List.mem_of_getElem? (i := 1) rfl) rfl rfl hP dX11_gain_37 ?_
  refine g_getN (Cn := RX5) (T := TX5) (N := 7) (v := .ref (a 6)) (own := RX11) hx hb hown hts hK hN (par_O isPar5) rfl (fun _ hw => List.mem_cons_of_mem _ (List.mem_append_left _ (List.mem_append_right _ hw))) 0 (by decide) (List.mem_of_getElem? (i := 6) rfl) rfl rfl hP dX11_gain_40 ?_
  refine lv_iload_n hx hb dX11_gain_43 rfl (lv_at hl 3 rfl) ?_
  obtain ⟨q3, hq3, hf⟩ := bind_s hf
  refine g_callV (As := [.int v1]) (rest := [.int q2]) hx hb hml hown hts hK hN (m_X4_around l D a C ha h 6 v1 (par_lin isPar5) q3 hq3) (cwV 1 hts gX11_gain_X4_around rfl rfl rfl kdX4_around ⟨Nat.le_of_ble_eq_true rfl, Nat.le_of_ble_eq_true rfl⟩) (lin_O (par_lin isPar5)) rfl rfl hP hS hA rfl hl.1 rfl (Nat.le_of_ble_eq_true rfl) dX11_gain_44 ⟨Nat.le_refl _, Nat.le_refl _⟩ (fun H locs hP hS => ?_)
  refine W.eq (g2 := F0 m 47 ls [.int q3, .int q2]) rfl ?_
  refine lv_iand hx hb dX11_gain_47 ?_
  obtain ⟨q4, hq4, hf⟩ := bind_s hf
  refine g_callS (As := [.int (q2 &&& q3)]) (rest := []) hx hb hml hown hts hK hN (m_J6_bitCount_0f7a4 l D a C ha h (q2 &&& q3)  q4 hq4) (va_cwS 1 hts gX11_gain_J6_bitCount_0f7a4 rfl rfl rfl kdJ6_bitCount_0f7a4.2 ⟨Nat.le_of_ble_eq_true rfl, Nat.le_of_ble_eq_true rfl⟩) hP hS hA rfl hl.1 rfl (Nat.le_of_ble_eq_true rfl) dX11_gain_48 ⟨Nat.le_refl _, Nat.le_refl _⟩ (fun H locs hP hS => ?_)
  refine W.eq (g2 := F0 m 51 ls [.int q4]) rfl ?_
  refine lv_iconst (v := 2) hx hb dX11_gain_51 (by decide) ?_
  refine lv_iload_n hx hb dX11_gain_52 rfl (lv_at hl 4 rfl) ?_
  refine lv_imul hx hb dX11_gain_53 ?_
  refine lv_isub hx hb dX11_gain_54 ?_
  exact g_iret hx hb hr hlk hP hS (ret1 hf) dX11_gain_55

def X11_two_B172 (h : HS) (v1 : Int32) (v2 : Int32) (v3 : Int32) (k70 : Int32 → Option Int32) (k79 : Int32 → Int32 → Option Int32) (v4 : Int32) (v5 : Int32) : Option Int32 :=
    nm (v5 + 1) fun x20 =>
    k79 v4 x20
def X11_two_B151 (h : HS) (v1 : Int32) (v2 : Int32) (v3 : Int32) (k70 : Int32 → Option Int32) (k79 : Int32 → Int32 → Option Int32) (v4 : Int32) (v5 : Int32) (v6 : Int32) (s0 : Int32) : Option Int32 :=
    (if v6 = 0 then
    X11_two_B172 h v1 v2 v3 k70 k79 v4 v5
    else
    (if s0 = 0 then
    X11_two_B172 h v1 v2 v3 k70 k79 v4 v5
    else
    some ((10 * v4) + v5)))
def X11_two_B117 (h : HS) (v1 : Int32) (v2 : Int32) (v3 : Int32) (k70 : Int32 → Option Int32) (k79 : Int32 → Int32 → Option Int32) (v4 : Int32) (v5 : Int32) (s0 : Int32) : Option Int32 :=
    (X11_gain h v2 v5 v1 v4 v3).bind fun q15 =>
    (X11_gain h v2 (1 - v5) v1 v4 v3).bind fun q16 =>
    (if q15 < q16 then
    X11_two_B151 h v1 v2 v3 k70 k79 v4 v5 s0 0
    else
    X11_two_B151 h v1 v2 v3 k70 k79 v4 v5 s0 1)
def X11_two_B79 (h : HS) (v1 : Int32) (v2 : Int32) (v3 : Int32) (k70 : Int32 → Option Int32) : Nat → Int32 → Int32 → Option Int32
  | 0, _, _ => none
  | fu + 1, v4, v5 =>
    (if 1 < v5 then
    nm (v4 + 1) fun x11 =>
    k70 x11
    else
    (X11_gain h v1 v4 v2 v5 v3).bind fun q12 =>
    (X11_gain h v1 (1 - v4) v2 v5 v3).bind fun q13 =>
    (if q12 < q13 then
    X11_two_B117 h v1 v2 v3 k70 (X11_two_B79 h v1 v2 v3 k70 fu) v4 v5 0
    else
    X11_two_B117 h v1 v2 v3 k70 (X11_two_B79 h v1 v2 v3 k70 fu) v4 v5 1))
def X11_two_B70 (h : HS) (v1 : Int32) (v2 : Int32) (v3 : Int32) : Nat → Int32 → Option Int32
  | 0, _ => none
  | fu + 1, v4 =>
    (if 1 < v4 then
    some (-4)
    else
    X11_two_B79 h v1 v2 v3 (X11_two_B70 h v1 v2 v3 fu) FU v4 0)
def X11_two (h : HS) (v1 : Int32) (v2 : Int32) (v3 : Int32) : Option Int32 :=
    (X5_has h 5 v1).bind fun q1 =>
    (if q1 = 0 then
    some (-1)
    else
    (X5_has h 5 v2).bind fun q3 =>
    (if q3 = 0 then
    some (-1)
    else
    (if v1 = v2 then
    some (-1)
    else
    (if v3 < 1 then
    some (-1)
    else
    (if v3 ≤ 30 then
    (if ((((fI h 5 4) >>> (v1 &&& 31)) &&& ((fI h 5 4) >>> (v2 &&& 31))) &&& 1) = 0 then
    some (-3)
    else
    X11_two_B70 h v1 v2 v3 FU 0)
    else
    some (-1))))))
def rmX11_two : Room := { frames := 7, cells := 0, slots := 0, locals := 172 }
theorem kdX11_two : yX11_two.cls = RX11 ∧ yX11_two.cls ≠ "java/lang/invoke/MethodHandle" ∧ yX11_two.cls ≠ "java/lang/invoke/VarHandle" ∧ (parseMethodDescriptor yX11_two.desc).map (fun d => d.parameters.length) = some 3 := by decide +kernel
set_option maxHeartbeats 4000000 in
set_option maxRecDepth 100000 in
theorem m_X11_two (l : Launch) (D : va_G) (a : Nat → Nat) (C : Nat → ClassId) (ha : ginj a) (h : HS) (v1 : Int32) (v2 : Int32) (v3 : Int32)  (r : Int32) (hf : X11_two h v1 v2 v3 = some r) : gM l yX11_two wsX11_two rmX11_two D a C [.ref (a 0), .int v1, .int v2, .int v3] h (some (.int r)) h := by
  refine g_start (av := [.ref (a 0), .int v1, .int v2, .int v3]) (cc := cX11_two) (maxL := 8) (rt := (some .int)) (by decide) rfl (Nat.le_of_ble_eq_true rfl) ?_
  intro p e s m below meth c hx hb hr hml hown hlk hts hP hK hN ls hl
  have hA : ∀ q, gA a q → gA a q := fun _ q => q
  have hS : va_S (gA a) s.heap s.heap [] := va_S.rf
  have hl : lv_has ls 8 [(0, .ref (a 0)), (1, .int v1), (2, .int v2), (3, .int v3)] := hl
  have J172 : ∀ (k70 : Int32 → Option Int32) (hk70 : ∀ (v4 : Int32), k70 v4 = some r → gG p l e (headSpec wsX11_two rmX11_two).room s m ([.ref (a 0), .int v1, .int v2, .int v3] : List Value).toArray below meth c (MQ below (gQ (some (.int r)) D a C h) ([.ref (a 0), .int v1, .int v2, .int v3] : List Value).toArray s 0 0 (gA a)) D a C 8 h 70 [(0, .ref (a 0)), (1, .int v1), (2, .int v2), (3, .int v3), (4, .int v4)] []) (k79 : Int32 → Int32 → Option Int32) (hk79 : ∀ (v4 : Int32) (v5 : Int32), k79 v4 v5 = some r → gG p l e (headSpec wsX11_two rmX11_two).room s m ([.ref (a 0), .int v1, .int v2, .int v3] : List Value).toArray below meth c (MQ below (gQ (some (.int r)) D a C h) ([.ref (a 0), .int v1, .int v2, .int v3] : List Value).toArray s 0 0 (gA a)) D a C 8 h 79 [(0, .ref (a 0)), (1, .int v1), (2, .int v2), (3, .int v3), (4, .int v4), (5, .int v5)] []) (v4 : Int32) (v5 : Int32) (_ : X11_two_B172 h v1 v2 v3 k70 k79 v4 v5 = some r), gG p l e (headSpec wsX11_two rmX11_two).room s m ([.ref (a 0), .int v1, .int v2, .int v3] : List Value).toArray below meth c (MQ below (gQ (some (.int r)) D a C h) ([.ref (a 0), .int v1, .int v2, .int v3] : List Value).toArray s 0 0 (gA a)) D a C 8 h 172 [(0, .ref (a 0)), (1, .int v1), (2, .int v2), (3, .int v3), (4, .int v4), (5, .int v5)] [] := by
    intro k70 hk70 k79 hk79 v4 v5 hf H locs ls hP hS hl
    unfold X11_two_B172 at hf
    obtain ⟨x20, ex20⟩ : ∃ y : Int32, y = (v5 + 1) := ⟨_, rfl⟩
    have hf := nm_s hf ex20
    refine lv_iinc (v := x20) (lv' := [(5, .int x20), (0, .ref (a 0)), (1, .int v1), (2, .int v2), (3, .int v3), (4, .int v4)]) hx hb dX11_two_172 hl (k := 5) rfl (by rw [ex20]; rfl) (by decide) rfl (fun ls hl => ?_)
    refine lv_goto (tgt := 79) hx hb dX11_two_175 (by decide) ?_
    exact hk79 v4 x20 hf H locs ls hP hS (lv_sub hl [1, 2, 3, 4, 5, 0] rfl)
  have J151 : ∀ (k70 : Int32 → Option Int32) (hk70 : ∀ (v4 : Int32), k70 v4 = some r → gG p l e (headSpec wsX11_two rmX11_two).room s m ([.ref (a 0), .int v1, .int v2, .int v3] : List Value).toArray below meth c (MQ below (gQ (some (.int r)) D a C h) ([.ref (a 0), .int v1, .int v2, .int v3] : List Value).toArray s 0 0 (gA a)) D a C 8 h 70 [(0, .ref (a 0)), (1, .int v1), (2, .int v2), (3, .int v3), (4, .int v4)] []) (k79 : Int32 → Int32 → Option Int32) (hk79 : ∀ (v4 : Int32) (v5 : Int32), k79 v4 v5 = some r → gG p l e (headSpec wsX11_two rmX11_two).room s m ([.ref (a 0), .int v1, .int v2, .int v3] : List Value).toArray below meth c (MQ below (gQ (some (.int r)) D a C h) ([.ref (a 0), .int v1, .int v2, .int v3] : List Value).toArray s 0 0 (gA a)) D a C 8 h 79 [(0, .ref (a 0)), (1, .int v1), (2, .int v2), (3, .int v3), (4, .int v4), (5, .int v5)] []) (v4 : Int32) (v5 : Int32) (v6 : Int32) (s0 : Int32) (_ : X11_two_B151 h v1 v2 v3 k70 k79 v4 v5 v6 s0 = some r), gG p l e (headSpec wsX11_two rmX11_two).room s m ([.ref (a 0), .int v1, .int v2, .int v3] : List Value).toArray below meth c (MQ below (gQ (some (.int r)) D a C h) ([.ref (a 0), .int v1, .int v2, .int v3] : List Value).toArray s 0 0 (gA a)) D a C 8 h 151 [(0, .ref (a 0)), (1, .int v1), (2, .int v2), (3, .int v3), (4, .int v4), (5, .int v5), (6, .int v6)] [.int s0] := by
    intro k70 hk70 k79 hk79 v4 v5 v6 s0 hf H locs ls hP hS hl
    unfold X11_two_B151 at hf
    refine lv_istore (lv' := [(7, .int s0), (0, .ref (a 0)), (1, .int v1), (2, .int v2), (3, .int v3), (4, .int v4), (5, .int v5), (6, .int v6)]) hx hb dX11_two_151 hl (by decide) rfl (fun ls hl => ?_)
    refine lv_iload hx hb dX11_two_153 (lv_at hl 7 rfl) ?_
    refine lv_if_eq (tgt := 172) hx hb dX11_two_155 (by decide) (fun c18 => ?_) (fun c18 => ?_)
    · have hf := if_t hf c18
      exact J172 k70 hk70 k79 hk79 v4 v5 hf H locs ls hP hS (lv_sub hl [1, 2, 3, 4, 5, 6] rfl)
    · have hf := if_f hf c18
      refine lv_iload hx hb dX11_two_158 (lv_at hl 0 rfl) ?_
      refine lv_if_eq (tgt := 172) hx hb dX11_two_160 (by decide) (fun c19 => ?_) (fun c19 => ?_)
      · have hf := if_t hf c19
        exact J172 k70 hk70 k79 hk79 v4 v5 hf H locs ls hP hS (lv_sub hl [1, 2, 3, 4, 5, 6] rfl)
      · have hf := if_f hf c19
        refine lv_bipush (v := 10) hx hb dX11_two_163 (by decide) ?_
        refine lv_iload hx hb dX11_two_165 (lv_at hl 5 rfl) ?_
        refine lv_imul hx hb dX11_two_167 ?_
        refine lv_iload hx hb dX11_two_168 (lv_at hl 6 rfl) ?_
        refine lv_iadd hx hb dX11_two_170 ?_
        exact g_iret hx hb hr hlk hP hS (ret1 hf) dX11_two_171
  have J117 : ∀ (k70 : Int32 → Option Int32) (hk70 : ∀ (v4 : Int32), k70 v4 = some r → gG p l e (headSpec wsX11_two rmX11_two).room s m ([.ref (a 0), .int v1, .int v2, .int v3] : List Value).toArray below meth c (MQ below (gQ (some (.int r)) D a C h) ([.ref (a 0), .int v1, .int v2, .int v3] : List Value).toArray s 0 0 (gA a)) D a C 8 h 70 [(0, .ref (a 0)), (1, .int v1), (2, .int v2), (3, .int v3), (4, .int v4)] []) (k79 : Int32 → Int32 → Option Int32) (hk79 : ∀ (v4 : Int32) (v5 : Int32), k79 v4 v5 = some r → gG p l e (headSpec wsX11_two rmX11_two).room s m ([.ref (a 0), .int v1, .int v2, .int v3] : List Value).toArray below meth c (MQ below (gQ (some (.int r)) D a C h) ([.ref (a 0), .int v1, .int v2, .int v3] : List Value).toArray s 0 0 (gA a)) D a C 8 h 79 [(0, .ref (a 0)), (1, .int v1), (2, .int v2), (3, .int v3), (4, .int v4), (5, .int v5)] []) (v4 : Int32) (v5 : Int32) (s0 : Int32) (_ : X11_two_B117 h v1 v2 v3 k70 k79 v4 v5 s0 = some r), gG p l e (headSpec wsX11_two rmX11_two).room s m ([.ref (a 0), .int v1, .int v2, .int v3] : List Value).toArray below meth c (MQ below (gQ (some (.int r)) D a C h) ([.ref (a 0), .int v1, .int v2, .int v3] : List Value).toArray s 0 0 (gA a)) D a C 8 h 117 [(0, .ref (a 0)), (1, .int v1), (2, .int v2), (3, .int v3), (4, .int v4), (5, .int v5)] [.int s0] := by
    intro k70 hk70 k79 hk79 v4 v5 s0 hf H locs ls hP hS hl
    unfold X11_two_B117 at hf
    refine lv_istore (lv' := [(6, .int s0), (0, .ref (a 0)), (1, .int v1), (2, .int v2), (3, .int v3), (4, .int v4), (5, .int v5)]) hx hb dX11_two_117 hl (by decide) rfl (fun ls hl => ?_)
    refine lv_aload_n hx hb dX11_two_119 rfl (lv_at hl 1 rfl) ?_
    refine lv_iload_n hx hb dX11_two_120 rfl (lv_at hl 3 rfl) ?_
    refine lv_iload hx hb dX11_two_121 (lv_at hl 6 rfl) ?_
    refine lv_iload_n hx hb dX11_two_123 rfl (lv_at hl 2 rfl) ?_
    refine lv_iload hx hb dX11_two_124 (lv_at hl 5 rfl) ?_
    refine lv_iload_n hx hb dX11_two_126 rfl (lv_at hl 4 rfl) ?_
    obtain ⟨q15, hq15, hf⟩ := bind_s hf
    refine g_callV (As := [.int v2, .int v5, .int v1, .int v4, .int v3]) (rest := []) hx hb hml hown hts hK hN (m_X11_gain l D a C ha h v2 v5 v1 v4 v3  q15 hq15) (cwV 5 hts gX11_two_X11_gain rfl rfl rfl kdX11_gain ⟨Nat.le_of_ble_eq_true rfl, Nat.le_of_ble_eq_true rfl⟩) X_O rfl rfl hP hS hA rfl hl.1 rfl (Nat.le_of_ble_eq_true rfl) dX11_two_127 ⟨Nat.le_refl _, Nat.le_refl _⟩ (fun H locs hP hS => ?_)
    refine W.eq (g2 := F0 m 130 ls [.int q15]) rfl ?_
    refine lv_aload_n hx hb dX11_two_130 rfl (lv_at hl 1 rfl) ?_
    refine lv_iload_n hx hb dX11_two_131 rfl (lv_at hl 3 rfl) ?_
    refine lv_iconst (v := 1) hx hb dX11_two_132 (by decide) ?_
    refine lv_iload hx hb dX11_two_133 (lv_at hl 6 rfl) ?_
    refine lv_isub hx hb dX11_two_135 ?_
    refine lv_iload_n hx hb dX11_two_136 rfl (lv_at hl 2 rfl) ?_
    refine lv_iload hx hb dX11_two_137 (lv_at hl 5 rfl) ?_
    refine lv_iload_n hx hb dX11_two_139 rfl (lv_at hl 4 rfl) ?_
    obtain ⟨q16, hq16, hf⟩ := bind_s hf
    refine g_callV (As := [.int v2, .int (1 - v5), .int v1, .int v4, .int v3]) (rest := [.int q15]) hx hb hml hown hts hK hN (m_X11_gain l D a C ha h v2 (1 - v5) v1 v4 v3  q16 hq16) (cwV 5 hts gX11_two_X11_gain rfl rfl rfl kdX11_gain ⟨Nat.le_of_ble_eq_true rfl, Nat.le_of_ble_eq_true rfl⟩) X_O rfl rfl hP hS hA rfl hl.1 rfl (Nat.le_of_ble_eq_true rfl) dX11_two_140 ⟨Nat.le_refl _, Nat.le_refl _⟩ (fun H locs hP hS => ?_)
    refine W.eq (g2 := F0 m 143 ls [.int q16, .int q15]) rfl ?_
    refine lv_icmp_lt (tgt := 150) hx hb dX11_two_143 (by decide) (fun c17 => ?_) (fun c17 => ?_)
    · have hf := if_t hf c17
      refine lv_iconst (v := 0) hx hb dX11_two_150 (by decide) ?_
      exact J151 k70 hk70 k79 hk79 v4 v5 s0 0 hf H locs ls hP hS (lv_sub hl [1, 2, 3, 4, 5, 6, 0] rfl)
    · have hf := if_f hf c17
      refine lv_iconst (v := 1) hx hb dX11_two_146 (by decide) ?_
      refine lv_goto (tgt := 151) hx hb dX11_two_147 (by decide) ?_
      exact J151 k70 hk70 k79 hk79 v4 v5 s0 1 hf H locs ls hP hS (lv_sub hl [1, 2, 3, 4, 5, 6, 0] rfl)
  have J79 : ∀ (k70 : Int32 → Option Int32) (hk70 : ∀ (v4 : Int32), k70 v4 = some r → gG p l e (headSpec wsX11_two rmX11_two).room s m ([.ref (a 0), .int v1, .int v2, .int v3] : List Value).toArray below meth c (MQ below (gQ (some (.int r)) D a C h) ([.ref (a 0), .int v1, .int v2, .int v3] : List Value).toArray s 0 0 (gA a)) D a C 8 h 70 [(0, .ref (a 0)), (1, .int v1), (2, .int v2), (3, .int v3), (4, .int v4)] []) (fu : Nat) (v4 : Int32) (v5 : Int32), X11_two_B79 h v1 v2 v3 k70 fu v4 v5 = some r → gG p l e (headSpec wsX11_two rmX11_two).room s m ([.ref (a 0), .int v1, .int v2, .int v3] : List Value).toArray below meth c (MQ below (gQ (some (.int r)) D a C h) ([.ref (a 0), .int v1, .int v2, .int v3] : List Value).toArray s 0 0 (gA a)) D a C 8 h 79 [(0, .ref (a 0)), (1, .int v1), (2, .int v2), (3, .int v3), (4, .int v4), (5, .int v5)] [] := by
    intro k70 hk70 fu
    induction fu with
    | zero => intro v4 v5 hf; exact absurd hf (by simp [X11_two_B79])
    | succ fu ih =>
      intro v4 v5 hf H locs ls hP hS hl
      rw [X11_two_B79] at hf
      refine lv_iload hx hb dX11_two_79 (lv_at hl 5 rfl) ?_
      refine lv_iconst (v := 1) hx hb dX11_two_81 (by decide) ?_
      refine lv_icmp_gt (tgt := 178) hx hb dX11_two_82 (by decide) (fun c10 => ?_) (fun c10 => ?_)
      · have hf := if_t hf c10
        obtain ⟨x11, ex11⟩ : ∃ y : Int32, y = (v4 + 1) := ⟨_, rfl⟩
        have hf := nm_s hf ex11
        refine lv_iinc (v := x11) (lv' := [(4, .int x11), (0, .ref (a 0)), (1, .int v1), (2, .int v2), (3, .int v3), (5, .int v5)]) hx hb dX11_two_178 hl (k := 4) rfl (by rw [ex11]; rfl) (by decide) rfl (fun ls hl => ?_)
        refine lv_goto (tgt := 70) hx hb dX11_two_181 (by decide) ?_
        exact hk70 x11 hf H locs ls hP hS (lv_sub hl [1, 2, 3, 4, 0] rfl)
      · have hf := if_f hf c10
        refine lv_aload_n hx hb dX11_two_85 rfl (lv_at hl 0 rfl) ?_
        refine lv_iload_n hx hb dX11_two_86 rfl (lv_at hl 1 rfl) ?_
        refine lv_iload hx hb dX11_two_87 (lv_at hl 4 rfl) ?_
        refine lv_iload_n hx hb dX11_two_89 rfl (lv_at hl 2 rfl) ?_
        refine lv_iload hx hb dX11_two_90 (lv_at hl 5 rfl) ?_
        refine lv_iload_n hx hb dX11_two_92 rfl (lv_at hl 3 rfl) ?_
        obtain ⟨q12, hq12, hf⟩ := bind_s hf
        refine g_callV (As := [.int v1, .int v4, .int v2, .int v5, .int v3]) (rest := []) hx hb hml hown hts hK hN (m_X11_gain l D a C ha h v1 v4 v2 v5 v3  q12 hq12) (cwV 5 hts gX11_two_X11_gain rfl rfl rfl kdX11_gain ⟨Nat.le_of_ble_eq_true rfl, Nat.le_of_ble_eq_true rfl⟩) X_O rfl rfl hP hS hA rfl hl.1 rfl (Nat.le_of_ble_eq_true rfl) dX11_two_93 ⟨Nat.le_refl _, Nat.le_refl _⟩ (fun H locs hP hS => ?_)
        refine W.eq (g2 := F0 m 96 ls [.int q12]) rfl ?_
        refine lv_aload_n hx hb dX11_two_96 rfl (lv_at hl 0 rfl) ?_
        refine lv_iload_n hx hb dX11_two_97 rfl (lv_at hl 1 rfl) ?_
        refine lv_iconst (v := 1) hx hb dX11_two_98 (by decide) ?_
        refine lv_iload hx hb dX11_two_99 (lv_at hl 4 rfl) ?_
        refine lv_isub hx hb dX11_two_101 ?_
        refine lv_iload_n hx hb dX11_two_102 rfl (lv_at hl 2 rfl) ?_
        refine lv_iload hx hb dX11_two_103 (lv_at hl 5 rfl) ?_
        refine lv_iload_n hx hb dX11_two_105 rfl (lv_at hl 3 rfl) ?_
        obtain ⟨q13, hq13, hf⟩ := bind_s hf
        refine g_callV (As := [.int v1, .int (1 - v4), .int v2, .int v5, .int v3]) (rest := [.int q12]) hx hb hml hown hts hK hN (m_X11_gain l D a C ha h v1 (1 - v4) v2 v5 v3  q13 hq13) (cwV 5 hts gX11_two_X11_gain rfl rfl rfl kdX11_gain ⟨Nat.le_of_ble_eq_true rfl, Nat.le_of_ble_eq_true rfl⟩) X_O rfl rfl hP hS hA rfl hl.1 rfl (Nat.le_of_ble_eq_true rfl) dX11_two_106 ⟨Nat.le_refl _, Nat.le_refl _⟩ (fun H locs hP hS => ?_)
        refine W.eq (g2 := F0 m 109 ls [.int q13, .int q12]) rfl ?_
        refine lv_icmp_lt (tgt := 116) hx hb dX11_two_109 (by decide) (fun c14 => ?_) (fun c14 => ?_)
        · have hf := if_t hf c14
          refine lv_iconst (v := 0) hx hb dX11_two_116 (by decide) ?_
          exact J117 k70 hk70 (X11_two_B79 h v1 v2 v3 k70 fu) ih v4 v5 0 hf H locs ls hP hS (lv_sub hl [0, 1, 2, 3, 4, 5] rfl)
        · have hf := if_f hf c14
          refine lv_iconst (v := 1) hx hb dX11_two_112 (by decide) ?_
          refine lv_goto (tgt := 117) hx hb dX11_two_113 (by decide) ?_
          exact J117 k70 hk70 (X11_two_B79 h v1 v2 v3 k70 fu) ih v4 v5 1 hf H locs ls hP hS (lv_sub hl [0, 1, 2, 3, 4, 5] rfl)
  have J70 : ∀ (fu : Nat) (v4 : Int32), X11_two_B70 h v1 v2 v3 fu v4 = some r → gG p l e (headSpec wsX11_two rmX11_two).room s m ([.ref (a 0), .int v1, .int v2, .int v3] : List Value).toArray below meth c (MQ below (gQ (some (.int r)) D a C h) ([.ref (a 0), .int v1, .int v2, .int v3] : List Value).toArray s 0 0 (gA a)) D a C 8 h 70 [(0, .ref (a 0)), (1, .int v1), (2, .int v2), (3, .int v3), (4, .int v4)] [] := by
    intro fu
    induction fu with
    | zero => intro v4 hf; exact absurd hf (by simp [X11_two_B70])
    | succ fu ih =>
      intro v4 hf H locs ls hP hS hl
      rw [X11_two_B70] at hf
      refine lv_iload hx hb dX11_two_70 (lv_at hl 4 rfl) ?_
      refine lv_iconst (v := 1) hx hb dX11_two_72 (by decide) ?_
      refine lv_icmp_gt (tgt := 184) hx hb dX11_two_73 (by decide) (fun c9 => ?_) (fun c9 => ?_)
      · have hf := if_t hf c9
        refine lv_bipush (v := (-4)) hx hb dX11_two_184 (by decide) ?_
        exact g_iret hx hb hr hlk hP hS (ret1 hf) dX11_two_186
      · have hf := if_f hf c9
        refine lv_iconst (v := 0) hx hb dX11_two_76 (by decide) ?_
        refine lv_istore (lv' := [(5, .int 0), (0, .ref (a 0)), (1, .int v1), (2, .int v2), (3, .int v3), (4, .int v4)]) hx hb dX11_two_77 hl (by decide) rfl (fun ls hl => ?_)
        exact J79 (X11_two_B70 h v1 v2 v3 fu) ih FU v4 0 hf H locs ls hP hS (lv_sub hl [1, 2, 3, 4, 5, 0] rfl)
  unfold X11_two at hf
  suffices hh : ∀ (H : Heap) (locs : List Loc), va_P D vwCl (gw a C h) H → va_S (gA a) s.heap H locs → W p l e (headSpec wsX11_two rmX11_two).room s m ([.ref (a 0), .int v1, .int v2, .int v3] : List Value).toArray below meth c H locs 0 0 (MQ below (gQ (some (.int r)) D a C h) ([.ref (a 0), .int v1, .int v2, .int v3] : List Value).toArray s 0 0 (gA a)) (F0 m 0 ls []) from hh _ _ hP hS
  intro H locs hP hS
  refine lv_aload_n hx hb dX11_two_0 rfl (lv_at hl 0 rfl) ?_
  refine g_get (Cn := RX11) (T := TX11) (N := 8) (v := .ref (a 5)) (own := RX11) hx hb hown hts hK X_O rfl (fun _ hw => List.mem_cons_of_mem _ (List.mem_append_left _ (List.mem_append_left _ (List.mem_append_right _ hw)))) 0 (by decide) (List.mem_of_getElem? (i := 1) rfl) rfl rfl hP dX11_two_1 ?_
  refine lv_iload_n hx hb dX11_two_4 rfl (lv_at hl 1 rfl) ?_
  obtain ⟨q1, hq1, hf⟩ := bind_s hf
  refine g_callV (As := [.int v1]) (rest := []) hx hb hml hown hts hK hN (m_X5_has l D a C ha h 5 v1 isPar5 q1 hq1) (cwV 1 hts gX11_two_X5_has rfl rfl rfl kdX5_has ⟨Nat.le_of_ble_eq_true rfl, Nat.le_of_ble_eq_true rfl⟩) (par_O isPar5) rfl rfl hP hS hA rfl hl.1 rfl (Nat.le_of_ble_eq_true rfl) dX11_two_5 ⟨Nat.le_refl _, Nat.le_refl _⟩ (fun H locs hP hS => ?_)
  refine W.eq (g2 := F0 m 8 ls [.int q1]) rfl ?_
  refine lv_if_eq (tgt := 38) hx hb dX11_two_8 (by decide) (fun c2 => ?_) (fun c2 => ?_)
  · have hf := if_t hf c2
    refine lv_iconst (v := (-1)) hx hb dX11_two_38 (by decide) ?_
    exact g_iret hx hb hr hlk hP hS (ret1 hf) dX11_two_39
  · have hf := if_f hf c2
    refine lv_aload_n hx hb dX11_two_11 rfl (lv_at hl 0 rfl) ?_
    refine g_get (Cn := RX11) (T := TX11) (N := 8) (v := .ref (a 5)) (own := RX11) hx hb hown hts hK X_O rfl (fun _ hw => List.mem_cons_of_mem _ (List.mem_append_left _ (List.mem_append_left _ (List.mem_append_right _ hw)))) 0 (by decide) (List.mem_of_getElem? (i := 1) rfl) rfl rfl hP dX11_two_12 ?_
    refine lv_iload_n hx hb dX11_two_15 rfl (lv_at hl 2 rfl) ?_
    obtain ⟨q3, hq3, hf⟩ := bind_s hf
    refine g_callV (As := [.int v2]) (rest := []) hx hb hml hown hts hK hN (m_X5_has l D a C ha h 5 v2 isPar5 q3 hq3) (cwV 1 hts gX11_two_X5_has rfl rfl rfl kdX5_has ⟨Nat.le_of_ble_eq_true rfl, Nat.le_of_ble_eq_true rfl⟩) (par_O isPar5) rfl rfl hP hS hA rfl hl.1 rfl (Nat.le_of_ble_eq_true rfl) dX11_two_16 ⟨Nat.le_refl _, Nat.le_refl _⟩ (fun H locs hP hS => ?_)
    refine W.eq (g2 := F0 m 19 ls [.int q3]) rfl ?_
    refine lv_if_eq (tgt := 38) hx hb dX11_two_19 (by decide) (fun c4 => ?_) (fun c4 => ?_)
    · have hf := if_t hf c4
      refine lv_iconst (v := (-1)) hx hb dX11_two_38 (by decide) ?_
      exact g_iret hx hb hr hlk hP hS (ret1 hf) dX11_two_39
    · have hf := if_f hf c4
      refine lv_iload_n hx hb dX11_two_22 rfl (lv_at hl 1 rfl) ?_
      refine lv_iload_n hx hb dX11_two_23 rfl (lv_at hl 2 rfl) ?_
      refine lv_icmp_eq (tgt := 38) hx hb dX11_two_24 (by decide) (fun c5 => ?_) (fun c5 => ?_)
      · have hf := if_t hf c5
        refine lv_iconst (v := (-1)) hx hb dX11_two_38 (by decide) ?_
        exact g_iret hx hb hr hlk hP hS (ret1 hf) dX11_two_39
      · have hf := if_f hf c5
        refine lv_iload_n hx hb dX11_two_27 rfl (lv_at hl 3 rfl) ?_
        refine lv_iconst (v := 1) hx hb dX11_two_28 (by decide) ?_
        refine lv_icmp_lt (tgt := 38) hx hb dX11_two_29 (by decide) (fun c6 => ?_) (fun c6 => ?_)
        · have hf := if_t hf c6
          refine lv_iconst (v := (-1)) hx hb dX11_two_38 (by decide) ?_
          exact g_iret hx hb hr hlk hP hS (ret1 hf) dX11_two_39
        · have hf := if_f hf c6
          refine lv_iload_n hx hb dX11_two_32 rfl (lv_at hl 3 rfl) ?_
          refine lv_bipush (v := 30) hx hb dX11_two_33 (by decide) ?_
          refine lv_icmp_le (tgt := 40) hx hb dX11_two_35 (by decide) (fun c7 => ?_) (fun c7 => ?_)
          · have hf := if_t hf c7
            refine lv_aload_n hx hb dX11_two_40 rfl (lv_at hl 0 rfl) ?_
            refine g_get (Cn := RX11) (T := TX11) (N := 8) (v := .ref (a 5)) (own := RX11) hx hb hown hts hK X_O rfl (fun _ hw => List.mem_cons_of_mem _ (List.mem_append_left _ (List.mem_append_left _ (List.mem_append_right _ hw)))) 0 (by decide) (List.mem_of_getElem? (i := 1) rfl) rfl rfl hP dX11_two_41 ?_
            refine g_getN (Cn := RX5) (T := TX5) (N := 7) (v := .int (fI h 5 4)) (own := RX11) hx hb hown hts hK hN (par_O isPar5) rfl (fun _ hw => List.mem_cons_of_mem _ (List.mem_append_left _ (List.mem_append_right _ hw))) 4 (by decide) (List.mem_of_getElem? (i := 7) rfl) rfl rfl hP dX11_two_44 ?_
            refine lv_iload_n hx hb dX11_two_47 rfl (lv_at hl 1 rfl) ?_
            refine lv_ishr hx hb dX11_two_48 ?_
            refine lv_aload_n hx hb dX11_two_49 rfl (lv_at hl 0 rfl) ?_
            refine g_get (Cn := RX11) (T := TX11) (N := 8) (v := .ref (a 5)) (own := RX11) hx hb hown hts hK X_O rfl (fun _ hw => List.mem_cons_of_mem _ (List.mem_append_left _ (List.mem_append_left _ (List.mem_append_right _ hw)))) 0 (by decide) (List.mem_of_getElem? (i := 1) rfl) rfl rfl hP dX11_two_50 ?_
            refine g_getN (Cn := RX5) (T := TX5) (N := 7) (v := .int (fI h 5 4)) (own := RX11) hx hb hown hts hK hN (par_O isPar5) rfl (fun _ hw => List.mem_cons_of_mem _ (List.mem_append_left _ (List.mem_append_right _ hw))) 4 (by decide) (List.mem_of_getElem? (i := 7) rfl) rfl rfl hP dX11_two_53 ?_
            refine lv_iload_n hx hb dX11_two_56 rfl (lv_at hl 2 rfl) ?_
            refine lv_ishr hx hb dX11_two_57 ?_
            refine lv_iand hx hb dX11_two_58 ?_
            refine lv_iconst (v := 1) hx hb dX11_two_59 (by decide) ?_
            refine lv_iand hx hb dX11_two_60 ?_
            refine lv_if_ne (tgt := 67) hx hb dX11_two_61 (by decide) (fun c8 => ?_) (fun c8 => ?_)
            · have hf := if_f hf c8
              refine lv_iconst (v := 0) hx hb dX11_two_67 (by decide) ?_
              refine lv_istore (lv' := [(4, .int 0), (0, .ref (a 0)), (1, .int v1), (2, .int v2), (3, .int v3)]) hx hb dX11_two_68 hl (by decide) rfl (fun ls hl => ?_)
              exact J70 FU 0 hf H locs ls hP hS (lv_sub hl [1, 2, 3, 4, 0] rfl)
            · have hf := if_t hf c8
              refine lv_bipush (v := (-3)) hx hb dX11_two_64 (by decide) ?_
              exact g_iret hx hb hr hlk hP hS (ret1 hf) dX11_two_66
          · have hf := if_f hf c7
            refine lv_iconst (v := (-1)) hx hb dX11_two_38 (by decide) ?_
            exact g_iret hx hb hr hlk hP hS (ret1 hf) dX11_two_39

def X11_heardThrough_B48 (h : HS) (v1 : Int32) (v2 : Int32) (k11 : Int32 → Int32 → Option Int32) (v3 : Int32) (v4 : Int32) : Option Int32 :=
    nm (v4 + 1) fun x5 =>
    k11 v3 x5
def X11_heardThrough_B11 (h : HS) (v1 : Int32) (v2 : Int32) : Nat → Int32 → Int32 → Option Int32
  | 0, _, _ => none
  | fu + 1, v3, v4 =>
    (if v2 ≤ v4 then
    some v3
    else
    (if ((v1 >>> (v4 &&& 31)) &&& 1) = 0 then
    (X5_nextHeard h 5 v3 (((fI h 5 6) + v4) + 1) 0).bind fun q4 =>
    X11_heardThrough_B48 h v1 v2 (X11_heardThrough_B11 h v1 v2 fu) q4 v4
    else
    X11_heardThrough_B48 h v1 v2 (X11_heardThrough_B11 h v1 v2 fu) v3 v4))
def X11_heardThrough (h : HS) (v1 : Int32) (v2 : Int32) : Option Int32 :=
    nm (fI h 5 4) fun x1 =>
    X11_heardThrough_B11 h v1 v2 FU x1 0
def rmX11_heardThrough : Room := { frames := 5, cells := 0, slots := 0, locals := 118 }
theorem kdX11_heardThrough : yX11_heardThrough.cls = RX11 ∧ yX11_heardThrough.cls ≠ "java/lang/invoke/MethodHandle" ∧ yX11_heardThrough.cls ≠ "java/lang/invoke/VarHandle" ∧ (parseMethodDescriptor yX11_heardThrough.desc).map (fun d => d.parameters.length) = some 2 := by decide +kernel
set_option maxHeartbeats 4000000 in
set_option maxRecDepth 100000 in
theorem m_X11_heardThrough (l : Launch) (D : va_G) (a : Nat → Nat) (C : Nat → ClassId) (ha : ginj a) (h : HS) (v1 : Int32) (v2 : Int32)  (r : Int32) (hf : X11_heardThrough h v1 v2 = some r) : gM l yX11_heardThrough wsX11_heardThrough rmX11_heardThrough D a C [.ref (a 0), .int v1, .int v2] h (some (.int r)) h := by
  refine g_start (av := [.ref (a 0), .int v1, .int v2]) (cc := cX11_heardThrough) (maxL := 5) (rt := (some .int)) (by decide) rfl (Nat.le_of_ble_eq_true rfl) ?_
  intro p e s m below meth c hx hb hr hml hown hlk hts hP hK hN ls hl
  have hA : ∀ q, gA a q → gA a q := fun _ q => q
  have hS : va_S (gA a) s.heap s.heap [] := va_S.rf
  have hl : lv_has ls 5 [(0, .ref (a 0)), (1, .int v1), (2, .int v2)] := hl
  have J48 : ∀ (k11 : Int32 → Int32 → Option Int32) (hk11 : ∀ (v3 : Int32) (v4 : Int32), k11 v3 v4 = some r → gG p l e (headSpec wsX11_heardThrough rmX11_heardThrough).room s m ([.ref (a 0), .int v1, .int v2] : List Value).toArray below meth c (MQ below (gQ (some (.int r)) D a C h) ([.ref (a 0), .int v1, .int v2] : List Value).toArray s 0 0 (gA a)) D a C 5 h 11 [(0, .ref (a 0)), (1, .int v1), (2, .int v2), (3, .int v3), (4, .int v4)] []) (v3 : Int32) (v4 : Int32) (_ : X11_heardThrough_B48 h v1 v2 k11 v3 v4 = some r), gG p l e (headSpec wsX11_heardThrough rmX11_heardThrough).room s m ([.ref (a 0), .int v1, .int v2] : List Value).toArray below meth c (MQ below (gQ (some (.int r)) D a C h) ([.ref (a 0), .int v1, .int v2] : List Value).toArray s 0 0 (gA a)) D a C 5 h 48 [(0, .ref (a 0)), (1, .int v1), (2, .int v2), (3, .int v3), (4, .int v4)] [] := by
    intro k11 hk11 v3 v4 hf H locs ls hP hS hl
    unfold X11_heardThrough_B48 at hf
    obtain ⟨x5, ex5⟩ : ∃ y : Int32, y = (v4 + 1) := ⟨_, rfl⟩
    have hf := nm_s hf ex5
    refine lv_iinc (v := x5) (lv' := [(4, .int x5), (0, .ref (a 0)), (1, .int v1), (2, .int v2), (3, .int v3)]) hx hb dX11_heardThrough_48 hl (k := 4) rfl (by rw [ex5]; rfl) (by decide) rfl (fun ls hl => ?_)
    refine lv_goto (tgt := 11) hx hb dX11_heardThrough_51 (by decide) ?_
    exact hk11 v3 x5 hf H locs ls hP hS (lv_sub hl [1, 2, 3, 4, 0] rfl)
  have J11 : ∀ (fu : Nat) (v3 : Int32) (v4 : Int32), X11_heardThrough_B11 h v1 v2 fu v3 v4 = some r → gG p l e (headSpec wsX11_heardThrough rmX11_heardThrough).room s m ([.ref (a 0), .int v1, .int v2] : List Value).toArray below meth c (MQ below (gQ (some (.int r)) D a C h) ([.ref (a 0), .int v1, .int v2] : List Value).toArray s 0 0 (gA a)) D a C 5 h 11 [(0, .ref (a 0)), (1, .int v1), (2, .int v2), (3, .int v3), (4, .int v4)] [] := by
    intro fu
    induction fu with
    | zero => intro v3 v4 hf; exact absurd hf (by simp [X11_heardThrough_B11])
    | succ fu ih =>
      intro v3 v4 hf H locs ls hP hS hl
      rw [X11_heardThrough_B11] at hf
      refine lv_iload hx hb dX11_heardThrough_11 (lv_at hl 4 rfl) ?_
      refine lv_iload_n hx hb dX11_heardThrough_13 rfl (lv_at hl 2 rfl) ?_
      refine lv_icmp_ge (tgt := 54) hx hb dX11_heardThrough_14 (by decide) (fun c2 => ?_) (fun c2 => ?_)
      · have hf := if_t hf c2
        refine lv_iload_n hx hb dX11_heardThrough_54 rfl (lv_at hl 3 rfl) ?_
        exact g_iret hx hb hr hlk hP hS (ret1 hf) dX11_heardThrough_55
      · have hf := if_f hf c2
        refine lv_iload_n hx hb dX11_heardThrough_17 rfl (lv_at hl 1 rfl) ?_
        refine lv_iload hx hb dX11_heardThrough_18 (lv_at hl 4 rfl) ?_
        refine lv_ishr hx hb dX11_heardThrough_20 ?_
        refine lv_iconst (v := 1) hx hb dX11_heardThrough_21 (by decide) ?_
        refine lv_iand hx hb dX11_heardThrough_22 ?_
        refine lv_if_ne (tgt := 48) hx hb dX11_heardThrough_23 (by decide) (fun c3 => ?_) (fun c3 => ?_)
        · have hf := if_f hf c3
          exact J48 (X11_heardThrough_B11 h v1 v2 fu) ih v3 v4 hf H locs ls hP hS (lv_sub hl [0, 1, 2, 3, 4] rfl)
        · have hf := if_t hf c3
          refine lv_aload_n hx hb dX11_heardThrough_26 rfl (lv_at hl 0 rfl) ?_
          refine g_get (Cn := RX11) (T := TX11) (N := 8) (v := .ref (a 5)) (own := RX11) hx hb hown hts hK X_O rfl (fun _ hw => List.mem_cons_of_mem _ (List.mem_append_left _ (List.mem_append_left _ (List.mem_append_right _ hw)))) 0 (by decide) (List.mem_of_getElem? (i := 1) rfl) rfl rfl hP dX11_heardThrough_27 ?_
          refine lv_iload_n hx hb dX11_heardThrough_30 rfl (lv_at hl 3 rfl) ?_
          refine lv_aload_n hx hb dX11_heardThrough_31 rfl (lv_at hl 0 rfl) ?_
          refine g_get (Cn := RX11) (T := TX11) (N := 8) (v := .ref (a 5)) (own := RX11) hx hb hown hts hK X_O rfl (fun _ hw => List.mem_cons_of_mem _ (List.mem_append_left _ (List.mem_append_left _ (List.mem_append_right _ hw)))) 0 (by decide) (List.mem_of_getElem? (i := 1) rfl) rfl rfl hP dX11_heardThrough_32 ?_
          refine g_getN (Cn := RX5) (T := TX5) (N := 7) (v := .int (fI h 5 6)) (own := RX11) hx hb hown hts hK hN (par_O isPar5) rfl (fun _ hw => List.mem_cons_of_mem _ (List.mem_append_left _ (List.mem_append_right _ hw))) 6 (by decide) (List.mem_of_getElem? (i := 0) rfl) rfl rfl hP dX11_heardThrough_35 ?_
          refine lv_iload hx hb dX11_heardThrough_38 (lv_at hl 4 rfl) ?_
          refine lv_iadd hx hb dX11_heardThrough_40 ?_
          refine lv_iconst (v := 1) hx hb dX11_heardThrough_41 (by decide) ?_
          refine lv_iadd hx hb dX11_heardThrough_42 ?_
          refine lv_iconst (v := 0) hx hb dX11_heardThrough_43 (by decide) ?_
          obtain ⟨q4, hq4, hf⟩ := bind_s hf
          refine g_callV (As := [.int v3, .int (((fI h 5 6) + v4) + 1), .int 0]) (rest := []) hx hb hml hown hts hK hN (m_X5_nextHeard l D a C ha h 5 v3 (((fI h 5 6) + v4) + 1) 0 isPar5 q4 hq4) (cwV 3 hts gX11_heardThrough_X5_nextHeard rfl rfl rfl kdX5_nextHeard ⟨Nat.le_of_ble_eq_true rfl, Nat.le_of_ble_eq_true rfl⟩) (par_O isPar5) rfl rfl hP hS hA rfl hl.1 rfl (Nat.le_of_ble_eq_true rfl) dX11_heardThrough_44 ⟨Nat.le_refl _, Nat.le_refl _⟩ (fun H locs hP hS => ?_)
          refine W.eq (g2 := F0 m 47 ls [.int q4]) rfl ?_
          refine lv_istore_n (lv' := [(3, .int q4), (0, .ref (a 0)), (1, .int v1), (2, .int v2), (4, .int v4)]) hx hb dX11_heardThrough_47 rfl hl (by decide) rfl (fun ls hl => ?_)
          exact J48 (X11_heardThrough_B11 h v1 v2 fu) ih q4 v4 hf H locs ls hP hS (lv_sub hl [1, 2, 3, 0, 4] rfl)
  unfold X11_heardThrough at hf
  suffices hh : ∀ (H : Heap) (locs : List Loc), va_P D vwCl (gw a C h) H → va_S (gA a) s.heap H locs → W p l e (headSpec wsX11_heardThrough rmX11_heardThrough).room s m ([.ref (a 0), .int v1, .int v2] : List Value).toArray below meth c H locs 0 0 (MQ below (gQ (some (.int r)) D a C h) ([.ref (a 0), .int v1, .int v2] : List Value).toArray s 0 0 (gA a)) (F0 m 0 ls []) from hh _ _ hP hS
  intro H locs hP hS
  refine lv_aload_n hx hb dX11_heardThrough_0 rfl (lv_at hl 0 rfl) ?_
  refine g_get (Cn := RX11) (T := TX11) (N := 8) (v := .ref (a 5)) (own := RX11) hx hb hown hts hK X_O rfl (fun _ hw => List.mem_cons_of_mem _ (List.mem_append_left _ (List.mem_append_left _ (List.mem_append_right _ hw)))) 0 (by decide) (List.mem_of_getElem? (i := 1) rfl) rfl rfl hP dX11_heardThrough_1 ?_
  refine g_getN (Cn := RX5) (T := TX5) (N := 7) (v := .int (fI h 5 4)) (own := RX11) hx hb hown hts hK hN (par_O isPar5) rfl (fun _ hw => List.mem_cons_of_mem _ (List.mem_append_left _ (List.mem_append_right _ hw))) 4 (by decide) (List.mem_of_getElem? (i := 7) rfl) rfl rfl hP dX11_heardThrough_4 ?_
  refine lv_topi (fun x1 ex1 => ?_)
  have hf := nm_s hf ex1
  refine lv_istore_n (lv' := [(3, .int x1), (0, .ref (a 0)), (1, .int v1), (2, .int v2)]) hx hb dX11_heardThrough_7 rfl hl (by decide) rfl (fun ls hl => ?_)
  refine lv_iconst (v := 0) hx hb dX11_heardThrough_8 (by decide) ?_
  refine lv_istore (lv' := [(4, .int 0), (3, .int x1), (0, .ref (a 0)), (1, .int v1), (2, .int v2)]) hx hb dX11_heardThrough_9 hl (by decide) rfl (fun ls hl => ?_)
  exact J11 FU x1 0 hf H locs ls hP hS (lv_sub hl [2, 3, 4, 1, 0] rfl)

def X11_waysOf_B29 (v0 : Int32) (v1 : Int32) (v2 : Int32) (k5 : Int64 → Int32 → Option Int64) (v5 : Int32) (s0 : Int64) (s1 : Int64) : Option Int64 :=
    nm (s1 * s0) fun x3 =>
    nm (v5 + 1) fun x4 =>
    k5 x3 x4
def X11_waysOf_B5 (v0 : Int32) (v1 : Int32) (v2 : Int32) : Nat → Int64 → Int32 → Option Int64
  | 0, _, _ => none
  | fu + 1, v3, v5 =>
    (if v1 ≤ v5 then
    some v3
    else
    (if ((v0 >>> (v5 &&& 31)) &&& 1) = 0 then
    X11_waysOf_B29 v0 v1 v2 (X11_waysOf_B5 v0 v1 v2 fu) v5 ((v2 - 1).toInt64) v3
    else
    X11_waysOf_B29 v0 v1 v2 (X11_waysOf_B5 v0 v1 v2 fu) v5 1 v3))
def X11_waysOf (v0 : Int32) (v1 : Int32) (v2 : Int32) : Option Int64 :=
    X11_waysOf_B5 v0 v1 v2 FU 1 0
def rmX11_waysOf : Room := { frames := 0, cells := 0, slots := 0, locals := 0 }
theorem kdX11_waysOf : yX11_waysOf.cls = RX11 ∧ yX11_waysOf.cls ≠ "java/lang/invoke/MethodHandle" ∧ yX11_waysOf.cls ≠ "java/lang/invoke/VarHandle" ∧ (parseMethodDescriptor yX11_waysOf.desc).map (fun d => d.parameters.length) = some 3 := by decide +kernel
set_option maxHeartbeats 4000000 in
set_option maxRecDepth 100000 in
theorem m_X11_waysOf (l : Launch) (D : va_G) (a : Nat → Nat) (C : Nat → ClassId) (ha : ginj a) (h : HS) (v0 : Int32) (v1 : Int32) (v2 : Int32)  (r : Int64) (hf : X11_waysOf v0 v1 v2 = some r) : gM l yX11_waysOf wsX11_waysOf rmX11_waysOf D a C [.int v0, .int v1, .int v2] h (some (.long r)) h := by
  refine g_start (av := [.int v0, .int v1, .int v2]) (cc := cX11_waysOf) (maxL := 6) (rt := (some .long)) (by decide) rfl (Nat.le_of_ble_eq_true rfl) ?_
  intro p e s m below meth c hx hb hr hml hown hlk hts hP hK hN ls hl
  have hA : ∀ q, gA a q → gA a q := fun _ q => q
  have hS : va_S (gA a) s.heap s.heap [] := va_S.rf
  have hl : lv_has ls 6 [(0, .int v0), (1, .int v1), (2, .int v2)] := hl
  have J29 : ∀ (k5 : Int64 → Int32 → Option Int64) (hk5 : ∀ (v3 : Int64) (v5 : Int32), k5 v3 v5 = some r → gG p l e (headSpec wsX11_waysOf rmX11_waysOf).room s m ([.int v0, .int v1, .int v2] : List Value).toArray below meth c (MQ below (gQ (some (.long r)) D a C h) ([.int v0, .int v1, .int v2] : List Value).toArray s 0 0 (gA a)) D a C 6 h 5 [(0, .int v0), (1, .int v1), (2, .int v2), (3, .long v3), (5, .int v5)] []) (v5 : Int32) (s0 : Int64) (s1 : Int64) (_ : X11_waysOf_B29 v0 v1 v2 k5 v5 s0 s1 = some r), gG p l e (headSpec wsX11_waysOf rmX11_waysOf).room s m ([.int v0, .int v1, .int v2] : List Value).toArray below meth c (MQ below (gQ (some (.long r)) D a C h) ([.int v0, .int v1, .int v2] : List Value).toArray s 0 0 (gA a)) D a C 6 h 29 [(0, .int v0), (1, .int v1), (2, .int v2), (5, .int v5)] [.long s0, .long s1] := by
    intro k5 hk5 v5 s0 s1 hf H locs ls hP hS hl
    unfold X11_waysOf_B29 at hf
    refine lv_lmul hx hb dX11_waysOf_29 ?_
    refine lv_topl (fun x3 ex3 => ?_)
    have hf := nm_s hf ex3
    refine lv_lstore_n (lv' := [(3, .long x3), (0, .int v0), (1, .int v1), (2, .int v2), (5, .int v5)]) hx hb dX11_waysOf_30 rfl hl (by decide) rfl (fun ls hl => ?_)
    obtain ⟨x4, ex4⟩ : ∃ y : Int32, y = (v5 + 1) := ⟨_, rfl⟩
    have hf := nm_s hf ex4
    refine lv_iinc (v := x4) (lv' := [(5, .int x4), (3, .long x3), (0, .int v0), (1, .int v1), (2, .int v2)]) hx hb dX11_waysOf_31 hl (k := 4) rfl (by rw [ex4]; rfl) (by decide) rfl (fun ls hl => ?_)
    refine lv_goto (tgt := 5) hx hb dX11_waysOf_34 (by decide) ?_
    exact hk5 x3 x4 hf H locs ls hP hS (lv_sub hl [2, 3, 4, 1, 0] rfl)
  have J5 : ∀ (fu : Nat) (v3 : Int64) (v5 : Int32), X11_waysOf_B5 v0 v1 v2 fu v3 v5 = some r → gG p l e (headSpec wsX11_waysOf rmX11_waysOf).room s m ([.int v0, .int v1, .int v2] : List Value).toArray below meth c (MQ below (gQ (some (.long r)) D a C h) ([.int v0, .int v1, .int v2] : List Value).toArray s 0 0 (gA a)) D a C 6 h 5 [(0, .int v0), (1, .int v1), (2, .int v2), (3, .long v3), (5, .int v5)] [] := by
    intro fu
    induction fu with
    | zero => intro v3 v5 hf; exact absurd hf (by simp [X11_waysOf_B5])
    | succ fu ih =>
      intro v3 v5 hf H locs ls hP hS hl
      rw [X11_waysOf_B5] at hf
      refine lv_iload hx hb dX11_waysOf_5 (lv_at hl 4 rfl) ?_
      refine lv_iload_n hx hb dX11_waysOf_7 rfl (lv_at hl 1 rfl) ?_
      refine lv_icmp_ge (tgt := 37) hx hb dX11_waysOf_8 (by decide) (fun c1 => ?_) (fun c1 => ?_)
      · have hf := if_t hf c1
        refine lv_lload_n hx hb dX11_waysOf_37 rfl (lv_at hl 3 rfl) ?_
        exact g_lret hx hb hr hlk hP hS (ret1 hf) dX11_waysOf_38
      · have hf := if_f hf c1
        refine lv_lload_n hx hb dX11_waysOf_11 rfl (lv_at hl 3 rfl) ?_
        refine lv_iload_n hx hb dX11_waysOf_12 rfl (lv_at hl 0 rfl) ?_
        refine lv_iload hx hb dX11_waysOf_13 (lv_at hl 4 rfl) ?_
        refine lv_ishr hx hb dX11_waysOf_15 ?_
        refine lv_iconst (v := 1) hx hb dX11_waysOf_16 (by decide) ?_
        refine lv_iand hx hb dX11_waysOf_17 ?_
        refine lv_if_ne (tgt := 28) hx hb dX11_waysOf_18 (by decide) (fun c2 => ?_) (fun c2 => ?_)
        · have hf := if_f hf c2
          refine lv_lconst (v := 1) hx hb dX11_waysOf_28 (by decide) ?_
          exact J29 (X11_waysOf_B5 v0 v1 v2 fu) ih v5 1 v3 hf H locs ls hP hS (lv_sub hl [0, 1, 2, 4] rfl)
        · have hf := if_t hf c2
          refine lv_iload_n hx hb dX11_waysOf_21 rfl (lv_at hl 2 rfl) ?_
          refine lv_iconst (v := 1) hx hb dX11_waysOf_22 (by decide) ?_
          refine lv_isub hx hb dX11_waysOf_23 ?_
          refine lv_i2l hx hb dX11_waysOf_24 rfl ?_
          refine lv_goto (tgt := 29) hx hb dX11_waysOf_25 (by decide) ?_
          exact J29 (X11_waysOf_B5 v0 v1 v2 fu) ih v5 ((v2 - 1).toInt64) v3 hf H locs ls hP hS (lv_sub hl [0, 1, 2, 4] rfl)
  unfold X11_waysOf at hf
  suffices hh : ∀ (H : Heap) (locs : List Loc), va_P D vwCl (gw a C h) H → va_S (gA a) s.heap H locs → W p l e (headSpec wsX11_waysOf rmX11_waysOf).room s m ([.int v0, .int v1, .int v2] : List Value).toArray below meth c H locs 0 0 (MQ below (gQ (some (.long r)) D a C h) ([.int v0, .int v1, .int v2] : List Value).toArray s 0 0 (gA a)) (F0 m 0 ls []) from hh _ _ hP hS
  intro H locs hP hS
  refine lv_lconst (v := 1) hx hb dX11_waysOf_0 (by decide) ?_
  refine lv_lstore_n (lv' := [(3, .long 1), (0, .int v0), (1, .int v1), (2, .int v2)]) hx hb dX11_waysOf_1 rfl hl (by decide) rfl (fun ls hl => ?_)
  refine lv_iconst (v := 0) hx hb dX11_waysOf_2 (by decide) ?_
  refine lv_istore (lv' := [(5, .int 0), (3, .long 1), (0, .int v0), (1, .int v1), (2, .int v2)]) hx hb dX11_waysOf_3 hl (by decide) rfl (fun ls hl => ?_)
  exact J5 FU 1 0 hf H locs ls hP hS (lv_sub hl [2, 3, 4, 1, 0] rfl)

def X11_storms_B101 (h : HS) (v1 : Int32) (v2 : Int32) (v3 : Int32) (v4 : Int32) (k67 : Int64 → Int64 → Int32 → Option Int64) (v5 : Int64) (v7 : Int64) (v9 : Int32) : Option Int64 :=
    nm (v9 + 1) fun x16 =>
    k67 v5 v7 x16
def X11_storms_B67 (h : HS) (v1 : Int32) (v2 : Int32) (v3 : Int32) (v4 : Int32) : Nat → Int64 → Int64 → Int32 → Option Int64
  | 0, _, _, _ => none
  | fu + 1, v5, v7, v9 =>
    (if ((1 : Int32) <<< (v2 &&& 31)) ≤ v9 then
    (X11_fraction v7 v5 v4).bind fun q11 =>
    some q11
    else
    (X11_heardThrough h v9 v2).bind fun q12 =>
    (if ((q12 >>> (v1 &&& 31)) &&& 1) = 0 then
    X11_storms_B101 h v1 v2 v3 v4 (X11_storms_B67 h v1 v2 v3 v4 fu) v5 v7 v9
    else
    (X11_waysOf v9 v2 v3).bind fun q14 =>
    nm (v7 + q14) fun x15 =>
    X11_storms_B101 h v1 v2 v3 v4 (X11_storms_B67 h v1 v2 v3 v4 fu) v5 x15 v9))
def X11_storms_B42 (h : HS) (v1 : Int32) (v2 : Int32) (v3 : Int32) (v4 : Int32) : Nat → Int64 → Int32 → Option Int64
  | 0, _, _ => none
  | fu + 1, v5, v7 =>
    (if v2 ≤ v7 then
    X11_storms_B67 h v1 v2 v3 v4 FU v5 0 0
    else
    nm (v5 * (v3.toInt64)) fun x8 =>
    nm (v7 + 1) fun x9 =>
    (X11_storms_B42 h v1 v2 v3 v4 fu) x8 x9)
def X11_storms (h : HS) (v1 : Int32) (v2 : Int32) (v3 : Int32) (v4 : Int32) : Option Int64 :=
    (X5_has h 5 v1).bind fun q1 =>
    (if q1 = 0 then
    some 1000000001
    else
    (if v2 < 0 then
    some 1000000001
    else
    (if 7 < v2 then
    some 1000000001
    else
    (if v3 < 2 then
    some 1000000001
    else
    (if v3 ≤ 20 then
    X11_storms_B42 h v1 v2 v3 v4 FU 1 0
    else
    some 1000000001)))))
def rmX11_storms : Room := { frames := 6, cells := 0, slots := 0, locals := 142 }
theorem kdX11_storms : yX11_storms.cls = RX11 ∧ yX11_storms.cls ≠ "java/lang/invoke/MethodHandle" ∧ yX11_storms.cls ≠ "java/lang/invoke/VarHandle" ∧ (parseMethodDescriptor yX11_storms.desc).map (fun d => d.parameters.length) = some 4 := by decide +kernel
set_option maxHeartbeats 4000000 in
set_option maxRecDepth 100000 in
theorem m_X11_storms (l : Launch) (D : va_G) (a : Nat → Nat) (C : Nat → ClassId) (ha : ginj a) (h : HS) (v1 : Int32) (v2 : Int32) (v3 : Int32) (v4 : Int32)  (r : Int64) (hf : X11_storms h v1 v2 v3 v4 = some r) : gM l yX11_storms wsX11_storms rmX11_storms D a C [.ref (a 0), .int v1, .int v2, .int v3, .int v4] h (some (.long r)) h := by
  refine g_start (av := [.ref (a 0), .int v1, .int v2, .int v3, .int v4]) (cc := cX11_storms) (maxL := 10) (rt := (some .long)) (by decide) rfl (Nat.le_of_ble_eq_true rfl) ?_
  intro p e s m below meth c hx hb hr hml hown hlk hts hP hK hN ls hl
  have hA : ∀ q, gA a q → gA a q := fun _ q => q
  have hS : va_S (gA a) s.heap s.heap [] := va_S.rf
  have hl : lv_has ls 10 [(0, .ref (a 0)), (1, .int v1), (2, .int v2), (3, .int v3), (4, .int v4)] := hl
  have J101 : ∀ (k67 : Int64 → Int64 → Int32 → Option Int64) (hk67 : ∀ (v5 : Int64) (v7 : Int64) (v9 : Int32), k67 v5 v7 v9 = some r → gG p l e (headSpec wsX11_storms rmX11_storms).room s m ([.ref (a 0), .int v1, .int v2, .int v3, .int v4] : List Value).toArray below meth c (MQ below (gQ (some (.long r)) D a C h) ([.ref (a 0), .int v1, .int v2, .int v3, .int v4] : List Value).toArray s 0 0 (gA a)) D a C 10 h 67 [(0, .ref (a 0)), (1, .int v1), (2, .int v2), (3, .int v3), (4, .int v4), (5, .long v5), (7, .long v7), (9, .int v9)] []) (v5 : Int64) (v7 : Int64) (v9 : Int32) (_ : X11_storms_B101 h v1 v2 v3 v4 k67 v5 v7 v9 = some r), gG p l e (headSpec wsX11_storms rmX11_storms).room s m ([.ref (a 0), .int v1, .int v2, .int v3, .int v4] : List Value).toArray below meth c (MQ below (gQ (some (.long r)) D a C h) ([.ref (a 0), .int v1, .int v2, .int v3, .int v4] : List Value).toArray s 0 0 (gA a)) D a C 10 h 101 [(0, .ref (a 0)), (1, .int v1), (2, .int v2), (3, .int v3), (4, .int v4), (5, .long v5), (7, .long v7), (9, .int v9)] [] := by
    intro k67 hk67 v5 v7 v9 hf H locs ls hP hS hl
    unfold X11_storms_B101 at hf
    obtain ⟨x16, ex16⟩ : ∃ y : Int32, y = (v9 + 1) := ⟨_, rfl⟩
    have hf := nm_s hf ex16
    refine lv_iinc (v := x16) (lv' := [(9, .int x16), (0, .ref (a 0)), (1, .int v1), (2, .int v2), (3, .int v3), (4, .int v4), (5, .long v5), (7, .long v7)]) hx hb dX11_storms_101 hl (k := 7) rfl (by rw [ex16]; rfl) (by decide) rfl (fun ls hl => ?_)
    refine lv_goto (tgt := 67) hx hb dX11_storms_104 (by decide) ?_
    exact hk67 v5 v7 x16 hf H locs ls hP hS (lv_sub hl [1, 2, 3, 4, 5, 6, 7, 0] rfl)
  have J67 : ∀ (fu : Nat) (v5 : Int64) (v7 : Int64) (v9 : Int32), X11_storms_B67 h v1 v2 v3 v4 fu v5 v7 v9 = some r → gG p l e (headSpec wsX11_storms rmX11_storms).room s m ([.ref (a 0), .int v1, .int v2, .int v3, .int v4] : List Value).toArray below meth c (MQ below (gQ (some (.long r)) D a C h) ([.ref (a 0), .int v1, .int v2, .int v3, .int v4] : List Value).toArray s 0 0 (gA a)) D a C 10 h 67 [(0, .ref (a 0)), (1, .int v1), (2, .int v2), (3, .int v3), (4, .int v4), (5, .long v5), (7, .long v7), (9, .int v9)] [] := by
    intro fu
    induction fu with
    | zero => intro v5 v7 v9 hf; exact absurd hf (by simp [X11_storms_B67])
    | succ fu ih =>
      intro v5 v7 v9 hf H locs ls hP hS hl
      rw [X11_storms_B67] at hf
      refine lv_iload hx hb dX11_storms_67 (lv_at hl 7 rfl) ?_
      refine lv_iconst (v := 1) hx hb dX11_storms_69 (by decide) ?_
      refine lv_iload_n hx hb dX11_storms_70 rfl (lv_at hl 2 rfl) ?_
      refine lv_ishl hx hb dX11_storms_71 ?_
      refine lv_icmp_ge (tgt := 107) hx hb dX11_storms_72 (by decide) (fun c10 => ?_) (fun c10 => ?_)
      · have hf := if_t hf c10
        refine lv_lload hx hb dX11_storms_107 (lv_at hl 6 rfl) ?_
        refine lv_lload hx hb dX11_storms_109 (lv_at hl 5 rfl) ?_
        refine lv_iload hx hb dX11_storms_111 (lv_at hl 4 rfl) ?_
        obtain ⟨q11, hq11, hf⟩ := bind_s hf
        refine g_callS (As := [.long v7, .long v5, .int v4]) (rest := []) hx hb hml hown hts hK hN (m_X11_fraction l D a C ha h v7 v5 v4  q11 hq11) (va_cwS 3 hts gX11_storms_X11_fraction rfl rfl rfl kdX11_fraction.2 ⟨Nat.le_of_ble_eq_true rfl, Nat.le_of_ble_eq_true rfl⟩) hP hS hA rfl hl.1 rfl (Nat.le_of_ble_eq_true rfl) dX11_storms_113 ⟨Nat.le_refl _, Nat.le_refl _⟩ (fun H locs hP hS => ?_)
        refine W.eq (g2 := F0 m 116 ls [.long q11]) rfl ?_
        exact g_lret hx hb hr hlk hP hS (ret1 hf) dX11_storms_116
      · have hf := if_f hf c10
        refine lv_aload_n hx hb dX11_storms_75 rfl (lv_at hl 0 rfl) ?_
        refine lv_iload hx hb dX11_storms_76 (lv_at hl 7 rfl) ?_
        refine lv_iload_n hx hb dX11_storms_78 rfl (lv_at hl 2 rfl) ?_
        obtain ⟨q12, hq12, hf⟩ := bind_s hf
        refine g_callV (As := [.int v9, .int v2]) (rest := []) hx hb hml hown hts hK hN (m_X11_heardThrough l D a C ha h v9 v2  q12 hq12) (cwV 2 hts gX11_storms_X11_heardThrough rfl rfl rfl kdX11_heardThrough ⟨Nat.le_of_ble_eq_true rfl, Nat.le_of_ble_eq_true rfl⟩) X_O rfl rfl hP hS hA rfl hl.1 rfl (Nat.le_of_ble_eq_true rfl) dX11_storms_79 ⟨Nat.le_refl _, Nat.le_refl _⟩ (fun H locs hP hS => ?_)
        refine W.eq (g2 := F0 m 82 ls [.int q12]) rfl ?_
        refine lv_iload_n hx hb dX11_storms_82 rfl (lv_at hl 1 rfl) ?_
        refine lv_ishr hx hb dX11_storms_83 ?_
        refine lv_iconst (v := 1) hx hb dX11_storms_84 (by decide) ?_
        refine lv_iand hx hb dX11_storms_85 ?_
        refine lv_if_eq (tgt := 101) hx hb dX11_storms_86 (by decide) (fun c13 => ?_) (fun c13 => ?_)
        · have hf := if_t hf c13
          exact J101 (X11_storms_B67 h v1 v2 v3 v4 fu) ih v5 v7 v9 hf H locs ls hP hS (lv_sub hl [0, 1, 2, 3, 4, 5, 6, 7] rfl)
        · have hf := if_f hf c13
          refine lv_lload hx hb dX11_storms_89 (lv_at hl 6 rfl) ?_
          refine lv_iload hx hb dX11_storms_91 (lv_at hl 7 rfl) ?_
          refine lv_iload_n hx hb dX11_storms_93 rfl (lv_at hl 2 rfl) ?_
          refine lv_iload_n hx hb dX11_storms_94 rfl (lv_at hl 3 rfl) ?_
          obtain ⟨q14, hq14, hf⟩ := bind_s hf
          refine g_callS (As := [.int v9, .int v2, .int v3]) (rest := [.long v7]) hx hb hml hown hts hK hN (m_X11_waysOf l D a C ha h v9 v2 v3  q14 hq14) (va_cwS 3 hts gX11_storms_X11_waysOf rfl rfl rfl kdX11_waysOf.2 ⟨Nat.le_of_ble_eq_true rfl, Nat.le_of_ble_eq_true rfl⟩) hP hS hA rfl hl.1 rfl (Nat.le_of_ble_eq_true rfl) dX11_storms_95 ⟨Nat.le_refl _, Nat.le_refl _⟩ (fun H locs hP hS => ?_)
          refine W.eq (g2 := F0 m 98 ls [.long q14, .long v7]) rfl ?_
          refine lv_ladd hx hb dX11_storms_98 ?_
          refine lv_topl (fun x15 ex15 => ?_)
          have hf := nm_s hf ex15
          refine lv_lstore (lv' := [(7, .long x15), (0, .ref (a 0)), (1, .int v1), (2, .int v2), (3, .int v3), (4, .int v4), (5, .long v5), (9, .int v9)]) hx hb dX11_storms_99 hl (by decide) rfl (fun ls hl => ?_)
          exact J101 (X11_storms_B67 h v1 v2 v3 v4 fu) ih v5 x15 v9 hf H locs ls hP hS (lv_sub hl [1, 2, 3, 4, 5, 6, 0, 7] rfl)
  have J42 : ∀ (fu : Nat) (v5 : Int64) (v7 : Int32), X11_storms_B42 h v1 v2 v3 v4 fu v5 v7 = some r → gG p l e (headSpec wsX11_storms rmX11_storms).room s m ([.ref (a 0), .int v1, .int v2, .int v3, .int v4] : List Value).toArray below meth c (MQ below (gQ (some (.long r)) D a C h) ([.ref (a 0), .int v1, .int v2, .int v3, .int v4] : List Value).toArray s 0 0 (gA a)) D a C 10 h 42 [(0, .ref (a 0)), (1, .int v1), (2, .int v2), (3, .int v3), (4, .int v4), (5, .long v5), (7, .int v7)] [] := by
    intro fu
    induction fu with
    | zero => intro v5 v7 hf; exact absurd hf (by simp [X11_storms_B42])
    | succ fu ih =>
      intro v5 v7 hf H locs ls hP hS hl
      rw [X11_storms_B42] at hf
      refine lv_iload hx hb dX11_storms_42 (lv_at hl 6 rfl) ?_
      refine lv_iload_n hx hb dX11_storms_44 rfl (lv_at hl 2 rfl) ?_
      refine lv_icmp_ge (tgt := 61) hx hb dX11_storms_45 (by decide) (fun c7 => ?_) (fun c7 => ?_)
      · have hf := if_t hf c7
        refine lv_lconst (v := 0) hx hb dX11_storms_61 (by decide) ?_
        refine lv_lstore (lv' := [(7, .long 0), (0, .ref (a 0)), (1, .int v1), (2, .int v2), (3, .int v3), (4, .int v4), (5, .long v5)]) hx hb dX11_storms_62 hl (by decide) rfl (fun ls hl => ?_)
        refine lv_iconst (v := 0) hx hb dX11_storms_64 (by decide) ?_
        refine lv_istore (lv' := [(9, .int 0), (7, .long 0), (0, .ref (a 0)), (1, .int v1), (2, .int v2), (3, .int v3), (4, .int v4), (5, .long v5)]) hx hb dX11_storms_65 hl (by decide) rfl (fun ls hl => ?_)
        exact J67 FU v5 0 0 hf H locs ls hP hS (lv_sub hl [2, 3, 4, 5, 6, 7, 1, 0] rfl)
      · have hf := if_f hf c7
        refine lv_lload hx hb dX11_storms_48 (lv_at hl 5 rfl) ?_
        refine lv_iload_n hx hb dX11_storms_50 rfl (lv_at hl 3 rfl) ?_
        refine lv_i2l hx hb dX11_storms_51 rfl ?_
        refine lv_lmul hx hb dX11_storms_52 ?_
        refine lv_topl (fun x8 ex8 => ?_)
        have hf := nm_s hf ex8
        refine lv_lstore (lv' := [(5, .long x8), (0, .ref (a 0)), (1, .int v1), (2, .int v2), (3, .int v3), (4, .int v4), (7, .int v7)]) hx hb dX11_storms_53 hl (by decide) rfl (fun ls hl => ?_)
        obtain ⟨x9, ex9⟩ : ∃ y : Int32, y = (v7 + 1) := ⟨_, rfl⟩
        have hf := nm_s hf ex9
        refine lv_iinc (v := x9) (lv' := [(7, .int x9), (5, .long x8), (0, .ref (a 0)), (1, .int v1), (2, .int v2), (3, .int v3), (4, .int v4)]) hx hb dX11_storms_55 hl (k := 6) rfl (by rw [ex9]; rfl) (by decide) rfl (fun ls hl => ?_)
        refine lv_goto (tgt := 42) hx hb dX11_storms_58 (by decide) ?_
        exact ih x8 x9 hf H locs ls hP hS (lv_sub hl [2, 3, 4, 5, 6, 1, 0] rfl)
  unfold X11_storms at hf
  suffices hh : ∀ (H : Heap) (locs : List Loc), va_P D vwCl (gw a C h) H → va_S (gA a) s.heap H locs → W p l e (headSpec wsX11_storms rmX11_storms).room s m ([.ref (a 0), .int v1, .int v2, .int v3, .int v4] : List Value).toArray below meth c H locs 0 0 (MQ below (gQ (some (.long r)) D a C h) ([.ref (a 0), .int v1, .int v2, .int v3, .int v4] : List Value).toArray s 0 0 (gA a)) (F0 m 0 ls []) from hh _ _ hP hS
  intro H locs hP hS
  refine lv_aload_n hx hb dX11_storms_0 rfl (lv_at hl 0 rfl) ?_
  refine g_get (Cn := RX11) (T := TX11) (N := 8) (v := .ref (a 5)) (own := RX11) hx hb hown hts hK X_O rfl (fun _ hw => List.mem_cons_of_mem _ (List.mem_append_left _ (List.mem_append_left _ (List.mem_append_right _ hw)))) 0 (by decide) (List.mem_of_getElem? (i := 1) rfl) rfl rfl hP dX11_storms_1 ?_
  refine lv_iload_n hx hb dX11_storms_4 rfl (lv_at hl 1 rfl) ?_
  obtain ⟨q1, hq1, hf⟩ := bind_s hf
  refine g_callV (As := [.int v1]) (rest := []) hx hb hml hown hts hK hN (m_X5_has l D a C ha h 5 v1 isPar5 q1 hq1) (cwV 1 hts gX11_storms_X5_has rfl rfl rfl kdX5_has ⟨Nat.le_of_ble_eq_true rfl, Nat.le_of_ble_eq_true rfl⟩) (par_O isPar5) rfl rfl hP hS hA rfl hl.1 rfl (Nat.le_of_ble_eq_true rfl) dX11_storms_5 ⟨Nat.le_refl _, Nat.le_refl _⟩ (fun H locs hP hS => ?_)
  refine W.eq (g2 := F0 m 8 ls [.int q1]) rfl ?_
  refine lv_if_eq (tgt := 32) hx hb dX11_storms_8 (by decide) (fun c2 => ?_) (fun c2 => ?_)
  · have hf := if_t hf c2
    refine lv_ldc2 (v := 1000000001) hx hb hown (hts _ (List.mem_of_getElem? (i := 2) rfl)) dX11_storms_32 ?_
    exact g_lret hx hb hr hlk hP hS (ret1 hf) dX11_storms_35
  · have hf := if_f hf c2
    refine lv_iload_n hx hb dX11_storms_11 rfl (lv_at hl 2 rfl) ?_
    refine lv_if_lt (tgt := 32) hx hb dX11_storms_12 (by decide) (fun c3 => ?_) (fun c3 => ?_)
    · have hf := if_t hf c3
      refine lv_ldc2 (v := 1000000001) hx hb hown (hts _ (List.mem_of_getElem? (i := 2) rfl)) dX11_storms_32 ?_
      exact g_lret hx hb hr hlk hP hS (ret1 hf) dX11_storms_35
    · have hf := if_f hf c3
      refine lv_iload_n hx hb dX11_storms_15 rfl (lv_at hl 2 rfl) ?_
      refine lv_bipush (v := 7) hx hb dX11_storms_16 (by decide) ?_
      refine lv_icmp_gt (tgt := 32) hx hb dX11_storms_18 (by decide) (fun c4 => ?_) (fun c4 => ?_)
      · have hf := if_t hf c4
        refine lv_ldc2 (v := 1000000001) hx hb hown (hts _ (List.mem_of_getElem? (i := 2) rfl)) dX11_storms_32 ?_
        exact g_lret hx hb hr hlk hP hS (ret1 hf) dX11_storms_35
      · have hf := if_f hf c4
        refine lv_iload_n hx hb dX11_storms_21 rfl (lv_at hl 3 rfl) ?_
        refine lv_iconst (v := 2) hx hb dX11_storms_22 (by decide) ?_
        refine lv_icmp_lt (tgt := 32) hx hb dX11_storms_23 (by decide) (fun c5 => ?_) (fun c5 => ?_)
        · have hf := if_t hf c5
          refine lv_ldc2 (v := 1000000001) hx hb hown (hts _ (List.mem_of_getElem? (i := 2) rfl)) dX11_storms_32 ?_
          exact g_lret hx hb hr hlk hP hS (ret1 hf) dX11_storms_35
        · have hf := if_f hf c5
          refine lv_iload_n hx hb dX11_storms_26 rfl (lv_at hl 3 rfl) ?_
          refine lv_bipush (v := 20) hx hb dX11_storms_27 (by decide) ?_
          refine lv_icmp_le (tgt := 36) hx hb dX11_storms_29 (by decide) (fun c6 => ?_) (fun c6 => ?_)
          · have hf := if_t hf c6
            refine lv_lconst (v := 1) hx hb dX11_storms_36 (by decide) ?_
            refine lv_lstore (lv' := [(5, .long 1), (0, .ref (a 0)), (1, .int v1), (2, .int v2), (3, .int v3), (4, .int v4)]) hx hb dX11_storms_37 hl (by decide) rfl (fun ls hl => ?_)
            refine lv_iconst (v := 0) hx hb dX11_storms_39 (by decide) ?_
            refine lv_istore (lv' := [(7, .int 0), (5, .long 1), (0, .ref (a 0)), (1, .int v1), (2, .int v2), (3, .int v3), (4, .int v4)]) hx hb dX11_storms_40 hl (by decide) rfl (fun ls hl => ?_)
            exact J42 FU 1 0 hf H locs ls hP hS (lv_sub hl [2, 3, 4, 5, 6, 1, 0] rfl)
          · have hf := if_f hf c6
            refine lv_ldc2 (v := 1000000001) hx hb hown (hts _ (List.mem_of_getElem? (i := 2) rfl)) dX11_storms_32 ?_
            exact g_lret hx hb hr hlk hP hS (ret1 hf) dX11_storms_35

def X11_forged_B20 (h : HS) (v1 : Int32) : Nat → Nat → Int32 → Option Int32
  | 0, _, _ => none
  | fu + 1, v2, v4 =>
    (X7_size h v2).bind fun q7 =>
    (if q7 ≤ v4 then
    some (-4)
    else
    (X5_has h 5 v4).bind fun q9 =>
    (if q9 = 0 then
    some v4
    else
    (X7_at h v2 v4).bind fun q11 =>
    (X4_number h 6 v4).bind fun q12 =>
    (if q11 = q12 then
    nm (v4 + 1) fun x14 =>
    (X11_forged_B20 h v1 fu) v2 x14
    else
    some v4)))
def X11_forged (h : HS) (v1 : Int32) : Option Int32 :=
    (X11_shelfOf h v1).bind fun q1 => oM q1 (
    (X11_rowRefusal h none).bind fun q3 =>
    (if q3 = 0 then
    none
    else
    some q3)) fun t2 =>
    (X11_rowRefusal h (some t2)).bind fun q5 =>
    (if q5 = 0 then
    X11_forged_B20 h v1 FU t2 0
    else
    some q5)
def rmX11_forged : Room := { frames := 2, cells := 0, slots := 0, locals := 42 }
theorem kdX11_forged : yX11_forged.cls = RX11 ∧ yX11_forged.cls ≠ "java/lang/invoke/MethodHandle" ∧ yX11_forged.cls ≠ "java/lang/invoke/VarHandle" ∧ (parseMethodDescriptor yX11_forged.desc).map (fun d => d.parameters.length) = some 1 := by decide +kernel
set_option maxHeartbeats 4000000 in
set_option maxRecDepth 100000 in
theorem m_X11_forged (l : Launch) (D : va_G) (a : Nat → Nat) (C : Nat → ClassId) (ha : ginj a) (h : HS) (v1 : Int32)  (r : Int32) (hf : X11_forged h v1 = some r) : gM l yX11_forged wsX11_forged rmX11_forged D a C [.ref (a 0), .int v1] h (some (.int r)) h := by
  refine g_start (av := [.ref (a 0), .int v1]) (cc := cX11_forged) (maxL := 5) (rt := (some .int)) (by decide) rfl (Nat.le_of_ble_eq_true rfl) ?_
  intro p e s m below meth c hx hb hr hml hown hlk hts hP hK hN ls hl
  have hA : ∀ q, gA a q → gA a q := fun _ q => q
  have hS : va_S (gA a) s.heap s.heap [] := va_S.rf
  have hl : lv_has ls 5 [(0, .ref (a 0)), (1, .int v1)] := hl
  have J20 : ∀ (fu : Nat) (v2 : Nat) (v4 : Int32) (hv2 : isShf v2), X11_forged_B20 h v1 fu v2 v4 = some r → gG p l e (headSpec wsX11_forged rmX11_forged).room s m ([.ref (a 0), .int v1] : List Value).toArray below meth c (MQ below (gQ (some (.int r)) D a C h) ([.ref (a 0), .int v1] : List Value).toArray s 0 0 (gA a)) D a C 5 h 20 [(0, .ref (a 0)), (2, .ref (a v2)), (4, .int v4)] [] := by
    intro fu
    induction fu with
    | zero => intro v2 v4 hv2 hf; exact absurd hf (by simp [X11_forged_B20])
    | succ fu ih =>
      intro v2 v4 hv2 hf H locs ls hP hS hl
      rw [X11_forged_B20] at hf
      refine lv_iload hx hb dX11_forged_20 (lv_at hl 2 rfl) ?_
      refine lv_aload_n hx hb dX11_forged_22 rfl (lv_at hl 1 rfl) ?_
      obtain ⟨q7, hq7, hf⟩ := bind_s hf
      refine g_callV (As := []) (rest := [.int v4]) hx hb hml hown hts hK hN (m_X7_size l D a C ha h v2 hv2 q7 hq7) (cwV 0 hts gX11_forged_X7_size rfl rfl rfl kdX7_size ⟨Nat.le_of_ble_eq_true rfl, Nat.le_of_ble_eq_true rfl⟩) (shf_O hv2) rfl rfl hP hS hA rfl hl.1 rfl (Nat.le_of_ble_eq_true rfl) dX11_forged_23 ⟨Nat.le_refl _, Nat.le_refl _⟩ (fun H locs hP hS => ?_)
      refine W.eq (g2 := F0 m 26 ls [.int q7, .int v4]) rfl ?_
      refine lv_icmp_ge (tgt := 71) hx hb dX11_forged_26 (by decide) (fun c8 => ?_) (fun c8 => ?_)
      · have hf := if_t hf c8
        refine lv_bipush (v := (-4)) hx hb dX11_forged_71 (by decide) ?_
        exact g_iret hx hb hr hlk hP hS (ret1 hf) dX11_forged_73
      · have hf := if_f hf c8
        refine lv_aload_n hx hb dX11_forged_29 rfl (lv_at hl 0 rfl) ?_
        refine g_get (Cn := RX11) (T := TX11) (N := 8) (v := .ref (a 5)) (own := RX11) hx hb hown hts hK X_O rfl (fun _ hw => List.mem_cons_of_mem _ (List.mem_append_left _ (List.mem_append_left _ (List.mem_append_left _ (List.mem_append_right _ hw))))) 0 (by decide) (List.mem_of_getElem? (i := 1) rfl) rfl rfl hP dX11_forged_30 ?_
        refine lv_iload hx hb dX11_forged_33 (lv_at hl 2 rfl) ?_
        obtain ⟨q9, hq9, hf⟩ := bind_s hf
        refine g_callV (As := [.int v4]) (rest := []) hx hb hml hown hts hK hN (m_X5_has l D a C ha h 5 v4 isPar5 q9 hq9) (cwV 1 hts gX11_forged_X5_has rfl rfl rfl kdX5_has ⟨Nat.le_of_ble_eq_true rfl, Nat.le_of_ble_eq_true rfl⟩) (par_O isPar5) rfl rfl hP hS hA rfl hl.1 rfl (Nat.le_of_ble_eq_true rfl) dX11_forged_35 ⟨Nat.le_refl _, Nat.le_refl _⟩ (fun H locs hP hS => ?_)
        refine W.eq (g2 := F0 m 38 ls [.int q9]) rfl ?_
        refine lv_if_eq (tgt := 62) hx hb dX11_forged_38 (by decide) (fun c10 => ?_) (fun c10 => ?_)
        · have hf := if_t hf c10
          refine lv_iload hx hb dX11_forged_62 (lv_at hl 2 rfl) ?_
          exact g_iret hx hb hr hlk hP hS (ret1 hf) dX11_forged_64
        · have hf := if_f hf c10
          refine lv_aload_n hx hb dX11_forged_41 rfl (lv_at hl 1 rfl) ?_
          refine lv_iload hx hb dX11_forged_42 (lv_at hl 2 rfl) ?_
          obtain ⟨q11, hq11, hf⟩ := bind_s hf
          refine g_callV (As := [.int v4]) (rest := []) hx hb hml hown hts hK hN (m_X7_at l D a C ha h v2 v4 hv2 q11 hq11) (cwV 1 hts gX11_forged_X7_at rfl rfl rfl kdX7_at ⟨Nat.le_of_ble_eq_true rfl, Nat.le_of_ble_eq_true rfl⟩) (shf_O hv2) rfl rfl hP hS hA rfl hl.1 rfl (Nat.le_of_ble_eq_true rfl) dX11_forged_44 ⟨Nat.le_refl _, Nat.le_refl _⟩ (fun H locs hP hS => ?_)
          refine W.eq (g2 := F0 m 47 ls [.int q11]) rfl ?_
          refine lv_aload_n hx hb dX11_forged_47 rfl (lv_at hl 0 rfl) ?_
          refine g_get (Cn := RX11) (T := TX11) (N := 8) (v := .ref (a 5)) (own := RX11) hx hb hown hts hK X_O rfl (fun _ hw => List.mem_cons_of_mem _ (List.mem_append_left _ (List.mem_append_left _ (List.mem_append_left _ (List.mem_append_right _ hw))))) 0 (by decide) (List.mem_of_getElem? (i := 1) rfl) rfl rfl hP dX11_forged_48 ?_
          refine g_getN (Cn := RX5) (T := TX5) (N := 7) (v := .ref (a 6)) (own := RX11) hx hb hown hts hK hN (par_O isPar5) rfl (fun _ hw => List.mem_cons_of_mem _ (List.mem_append_left _ (List.mem_append_left _ (List.mem_append_right _ hw)))) 0 (by decide) (List.mem_of_getElem? (i := 6) rfl) rfl rfl hP dX11_forged_51 ?_
          refine lv_iload hx hb dX11_forged_54 (lv_at hl 2 rfl) ?_
          obtain ⟨q12, hq12, hf⟩ := bind_s hf
          refine g_callV (As := [.int v4]) (rest := [.int q11]) hx hb hml hown hts hK hN (m_X4_number l D a C ha h 6 v4 (par_lin isPar5) q12 hq12) (cwV 1 hts gX11_forged_X4_number rfl rfl rfl kdX4_number ⟨Nat.le_of_ble_eq_true rfl, Nat.le_of_ble_eq_true rfl⟩) (lin_O (par_lin isPar5)) rfl rfl hP hS hA rfl hl.1 rfl (Nat.le_of_ble_eq_true rfl) dX11_forged_56 ⟨Nat.le_refl _, Nat.le_refl _⟩ (fun H locs hP hS => ?_)
          refine W.eq (g2 := F0 m 59 ls [.int q12, .int q11]) rfl ?_
          refine lv_icmp_eq (tgt := 65) hx hb dX11_forged_59 (by decide) (fun c13 => ?_) (fun c13 => ?_)
          · have hf := if_t hf c13
            obtain ⟨x14, ex14⟩ : ∃ y : Int32, y = (v4 + 1) := ⟨_, rfl⟩
            have hf := nm_s hf ex14
            refine lv_iinc (v := x14) (lv' := [(4, .int x14), (0, .ref (a 0)), (2, .ref (a v2))]) hx hb dX11_forged_65 hl (k := 2) rfl (by rw [ex14]; rfl) (by decide) rfl (fun ls hl => ?_)
            refine lv_goto (tgt := 20) hx hb dX11_forged_68 (by decide) ?_
            exact ih v2 x14 hv2 hf H locs ls hP hS (lv_sub hl [1, 2, 0] rfl)
          · have hf := if_f hf c13
            refine lv_iload hx hb dX11_forged_62 (lv_at hl 2 rfl) ?_
            exact g_iret hx hb hr hlk hP hS (ret1 hf) dX11_forged_64
  unfold X11_forged at hf
  suffices hh : ∀ (H : Heap) (locs : List Loc), va_P D vwCl (gw a C h) H → va_S (gA a) s.heap H locs → W p l e (headSpec wsX11_forged rmX11_forged).room s m ([.ref (a 0), .int v1] : List Value).toArray below meth c H locs 0 0 (MQ below (gQ (some (.int r)) D a C h) ([.ref (a 0), .int v1] : List Value).toArray s 0 0 (gA a)) (F0 m 0 ls []) from hh _ _ hP hS
  intro H locs hP hS
  refine lv_aload_n hx hb dX11_forged_0 rfl (lv_at hl 0 rfl) ?_
  refine lv_iload_n hx hb dX11_forged_1 rfl (lv_at hl 1 rfl) ?_
  obtain ⟨q1, hq1, hf⟩ := bind_s hf
  refine g_callV (As := [.int v1]) (rest := []) hx hb hml hown hts hK hN (m_X11_shelfOf l D a C ha h v1  q1 hq1) (cwV 1 hts gX11_forged_X11_shelfOf rfl rfl rfl kdX11_shelfOf ⟨Nat.le_of_ble_eq_true rfl, Nat.le_of_ble_eq_true rfl⟩) X_O rfl rfl hP hS hA rfl hl.1 rfl (Nat.le_of_ble_eq_true rfl) dX11_forged_2 ⟨Nat.le_refl _, Nat.le_refl _⟩ (fun H locs hP hS => ?_)
  rcases q1 with _ | t2
  · have hf := oM_none hf
    refine W.eq (g2 := F0 m 5 ls [.null]) rfl ?_
    refine lv_astore_nN (lv' := [(2, .null), (0, .ref (a 0)), (1, .int v1)]) hx hb dX11_forged_5 rfl hl (by decide) rfl (fun ls hl => ?_)
    refine lv_aload_nN hx hb dX11_forged_6 rfl (lv_at hl 0 rfl) ?_
    obtain ⟨q3, hq3, hf⟩ := bind_s hf
    refine g_callS (As := [.null]) (rest := []) hx hb hml hown hts hK hN (m_X11_rowRefusal l D a C ha h none isShO_none q3 hq3) (va_cwS 1 hts gX11_forged_X11_rowRefusal rfl rfl rfl kdX11_rowRefusal.2 ⟨Nat.le_of_ble_eq_true rfl, Nat.le_of_ble_eq_true rfl⟩) hP hS hA rfl hl.1 rfl (Nat.le_of_ble_eq_true rfl) dX11_forged_7 ⟨Nat.le_refl _, Nat.le_refl _⟩ (fun H locs hP hS => ?_)
    refine W.eq (g2 := F0 m 10 ls [.int q3]) rfl ?_
    refine lv_istore_n (lv' := [(3, .int q3), (2, .null), (0, .ref (a 0)), (1, .int v1)]) hx hb dX11_forged_10 rfl hl (by decide) rfl (fun ls hl => ?_)
    refine lv_iload_n hx hb dX11_forged_11 rfl (lv_at hl 0 rfl) ?_
    refine lv_if_eq (tgt := 17) hx hb dX11_forged_12 (by decide) (fun c4 => ?_) (fun c4 => ?_)
    · have hf := if_t hf c4
      refine lv_iconst (v := 0) hx hb dX11_forged_17 (by decide) ?_
      refine lv_istore (lv' := [(4, .int 0), (3, .int q3), (2, .null), (0, .ref (a 0)), (1, .int v1)]) hx hb dX11_forged_18 hl (by decide) rfl (fun ls hl => ?_)
      exact absurd hf (by simp)
    · have hf := if_f hf c4
      refine lv_iload_n hx hb dX11_forged_15 rfl (lv_at hl 0 rfl) ?_
      exact g_iret hx hb hr hlk hP hS (ret1 hf) dX11_forged_16
  · have hf := oM_some hf
    have ht2 : isShf t2 := X11_shelfOf_ok hq1 t2 rfl
    refine W.eq (g2 := F0 m 5 ls [.ref (a t2)]) rfl ?_
    refine lv_astore_n (lv' := [(2, .ref (a t2)), (0, .ref (a 0)), (1, .int v1)]) hx hb dX11_forged_5 rfl hl (by decide) rfl (fun ls hl => ?_)
    refine lv_aload_n hx hb dX11_forged_6 rfl (lv_at hl 0 rfl) ?_
    obtain ⟨q5, hq5, hf⟩ := bind_s hf
    refine g_callS (As := [.ref (a t2)]) (rest := []) hx hb hml hown hts hK hN (m_X11_rowRefusal l D a C ha h (some t2) (isShO_some ht2) q5 hq5) (va_cwS 1 hts gX11_forged_X11_rowRefusal rfl rfl rfl kdX11_rowRefusal.2 ⟨Nat.le_of_ble_eq_true rfl, Nat.le_of_ble_eq_true rfl⟩) hP hS hA rfl hl.1 rfl (Nat.le_of_ble_eq_true rfl) dX11_forged_7 ⟨Nat.le_refl _, Nat.le_refl _⟩ (fun H locs hP hS => ?_)
    refine W.eq (g2 := F0 m 10 ls [.int q5]) rfl ?_
    refine lv_istore_n (lv' := [(3, .int q5), (2, .ref (a t2)), (0, .ref (a 0)), (1, .int v1)]) hx hb dX11_forged_10 rfl hl (by decide) rfl (fun ls hl => ?_)
    refine lv_iload_n hx hb dX11_forged_11 rfl (lv_at hl 0 rfl) ?_
    refine lv_if_eq (tgt := 17) hx hb dX11_forged_12 (by decide) (fun c6 => ?_) (fun c6 => ?_)
    · have hf := if_t hf c6
      refine lv_iconst (v := 0) hx hb dX11_forged_17 (by decide) ?_
      refine lv_istore (lv' := [(4, .int 0), (3, .int q5), (2, .ref (a t2)), (0, .ref (a 0)), (1, .int v1)]) hx hb dX11_forged_18 hl (by decide) rfl (fun ls hl => ?_)
      exact J20 FU t2 0 ht2 hf H locs ls hP hS (lv_sub hl [3, 2, 0] rfl)
    · have hf := if_f hf c6
      refine lv_iload_n hx hb dX11_forged_15 rfl (lv_at hl 0 rfl) ?_
      exact g_iret hx hb hr hlk hP hS (ret1 hf) dX11_forged_16

def X11_judge (h : HS) (v1 : Int32) : Option Int32 :=
    (X11_shelfOf h v1).bind fun q1 => oM q1 (
    (X11_rowRefusal h none).bind fun q3 =>
    (if q3 = 0 then
    none
    else
    some q3)) fun t2 =>
    (X11_rowRefusal h (some t2)).bind fun q5 =>
    (if q5 = 0 then
    (X11_firstOther h 5 (fI h 5 4) t2 0).bind fun q7 =>
    some q7
    else
    some q5)
def rmX11_judge : Room := { frames := 7, cells := 0, slots := 0, locals := 170 }
theorem kdX11_judge : yX11_judge.cls = RX11 ∧ yX11_judge.cls ≠ "java/lang/invoke/MethodHandle" ∧ yX11_judge.cls ≠ "java/lang/invoke/VarHandle" ∧ (parseMethodDescriptor yX11_judge.desc).map (fun d => d.parameters.length) = some 1 := by decide +kernel
set_option maxHeartbeats 4000000 in
set_option maxRecDepth 100000 in
theorem m_X11_judge (l : Launch) (D : va_G) (a : Nat → Nat) (C : Nat → ClassId) (ha : ginj a) (h : HS) (v1 : Int32)  (r : Int32) (hf : X11_judge h v1 = some r) : gM l yX11_judge wsX11_judge rmX11_judge D a C [.ref (a 0), .int v1] h (some (.int r)) h := by
  refine g_start (av := [.ref (a 0), .int v1]) (cc := cX11_judge) (maxL := 4) (rt := (some .int)) (by decide) rfl (Nat.le_of_ble_eq_true rfl) ?_
  intro p e s m below meth c hx hb hr hml hown hlk hts hP hK hN ls hl
  have hA : ∀ q, gA a q → gA a q := fun _ q => q
  have hS : va_S (gA a) s.heap s.heap [] := va_S.rf
  have hl : lv_has ls 4 [(0, .ref (a 0)), (1, .int v1)] := hl
  unfold X11_judge at hf
  refine lv_aload_n hx hb dX11_judge_0 rfl (lv_at hl 0 rfl) ?_
  refine lv_iload_n hx hb dX11_judge_1 rfl (lv_at hl 1 rfl) ?_
  obtain ⟨q1, hq1, hf⟩ := bind_s hf
  refine g_callV (As := [.int v1]) (rest := []) hx hb hml hown hts hK hN (m_X11_shelfOf l D a C ha h v1  q1 hq1) (cwV 1 hts gX11_judge_X11_shelfOf rfl rfl rfl kdX11_shelfOf ⟨Nat.le_of_ble_eq_true rfl, Nat.le_of_ble_eq_true rfl⟩) X_O rfl rfl hP hS hA rfl hl.1 rfl (Nat.le_of_ble_eq_true rfl) dX11_judge_2 ⟨Nat.le_refl _, Nat.le_refl _⟩ (fun H locs hP hS => ?_)
  rcases q1 with _ | t2
  · have hf := oM_none hf
    refine W.eq (g2 := F0 m 5 ls [.null]) rfl ?_
    refine lv_astore_nN (lv' := [(2, .null), (0, .ref (a 0)), (1, .int v1)]) hx hb dX11_judge_5 rfl hl (by decide) rfl (fun ls hl => ?_)
    refine lv_aload_nN hx hb dX11_judge_6 rfl (lv_at hl 0 rfl) ?_
    obtain ⟨q3, hq3, hf⟩ := bind_s hf
    refine g_callS (As := [.null]) (rest := []) hx hb hml hown hts hK hN (m_X11_rowRefusal l D a C ha h none isShO_none q3 hq3) (va_cwS 1 hts gX11_judge_X11_rowRefusal rfl rfl rfl kdX11_rowRefusal.2 ⟨Nat.le_of_ble_eq_true rfl, Nat.le_of_ble_eq_true rfl⟩) hP hS hA rfl hl.1 rfl (Nat.le_of_ble_eq_true rfl) dX11_judge_7 ⟨Nat.le_refl _, Nat.le_refl _⟩ (fun H locs hP hS => ?_)
    refine W.eq (g2 := F0 m 10 ls [.int q3]) rfl ?_
    refine lv_istore_n (lv' := [(3, .int q3), (2, .null), (0, .ref (a 0)), (1, .int v1)]) hx hb dX11_judge_10 rfl hl (by decide) rfl (fun ls hl => ?_)
    refine lv_iload_n hx hb dX11_judge_11 rfl (lv_at hl 0 rfl) ?_
    refine lv_if_eq (tgt := 19) hx hb dX11_judge_12 (by decide) (fun c4 => ?_) (fun c4 => ?_)
    · have hf := if_t hf c4
      refine lv_aload_n hx hb dX11_judge_19 rfl (lv_at hl 2 rfl) ?_
      refine g_get (Cn := RX11) (T := TX11) (N := 8) (v := .ref (a 5)) (own := RX11) hx hb hown hts hK X_O rfl (fun _ hw => List.mem_cons_of_mem _ (List.mem_append_left _ (List.mem_append_left _ (List.mem_append_left _ (List.mem_append_right _ hw))))) 0 (by decide) (List.mem_of_getElem? (i := 1) rfl) rfl rfl hP dX11_judge_20 ?_
      refine lv_aload_n hx hb dX11_judge_23 rfl (lv_at hl 2 rfl) ?_
      refine g_get (Cn := RX11) (T := TX11) (N := 8) (v := .ref (a 5)) (own := RX11) hx hb hown hts hK X_O rfl (fun _ hw => List.mem_cons_of_mem _ (List.mem_append_left _ (List.mem_append_left _ (List.mem_append_left _ (List.mem_append_right _ hw))))) 0 (by decide) (List.mem_of_getElem? (i := 1) rfl) rfl rfl hP dX11_judge_24 ?_
      refine g_getN (Cn := RX5) (T := TX5) (N := 7) (v := .int (fI h 5 4)) (own := RX11) hx hb hown hts hK hN (par_O isPar5) rfl (fun _ hw => List.mem_cons_of_mem _ (List.mem_append_left _ (List.mem_append_left _ (List.mem_append_right _ hw)))) 4 (by decide) (List.mem_of_getElem? (i := 7) rfl) rfl rfl hP dX11_judge_27 ?_
      refine lv_aload_nN hx hb dX11_judge_30 rfl (lv_at hl 1 rfl) ?_
      refine lv_iconst (v := 0) hx hb dX11_judge_31 (by decide) ?_
      exact absurd hf (by simp)
    · have hf := if_f hf c4
      refine lv_iload_n hx hb dX11_judge_15 rfl (lv_at hl 0 rfl) ?_
      refine lv_goto (tgt := 35) hx hb dX11_judge_16 (by decide) ?_
      exact g_iret hx hb hr hlk hP hS (ret1 hf) dX11_judge_35
  · have hf := oM_some hf
    have ht2 : isShf t2 := X11_shelfOf_ok hq1 t2 rfl
    refine W.eq (g2 := F0 m 5 ls [.ref (a t2)]) rfl ?_
    refine lv_astore_n (lv' := [(2, .ref (a t2)), (0, .ref (a 0)), (1, .int v1)]) hx hb dX11_judge_5 rfl hl (by decide) rfl (fun ls hl => ?_)
    refine lv_aload_n hx hb dX11_judge_6 rfl (lv_at hl 0 rfl) ?_
    obtain ⟨q5, hq5, hf⟩ := bind_s hf
    refine g_callS (As := [.ref (a t2)]) (rest := []) hx hb hml hown hts hK hN (m_X11_rowRefusal l D a C ha h (some t2) (isShO_some ht2) q5 hq5) (va_cwS 1 hts gX11_judge_X11_rowRefusal rfl rfl rfl kdX11_rowRefusal.2 ⟨Nat.le_of_ble_eq_true rfl, Nat.le_of_ble_eq_true rfl⟩) hP hS hA rfl hl.1 rfl (Nat.le_of_ble_eq_true rfl) dX11_judge_7 ⟨Nat.le_refl _, Nat.le_refl _⟩ (fun H locs hP hS => ?_)
    refine W.eq (g2 := F0 m 10 ls [.int q5]) rfl ?_
    refine lv_istore_n (lv' := [(3, .int q5), (2, .ref (a t2)), (0, .ref (a 0)), (1, .int v1)]) hx hb dX11_judge_10 rfl hl (by decide) rfl (fun ls hl => ?_)
    refine lv_iload_n hx hb dX11_judge_11 rfl (lv_at hl 0 rfl) ?_
    refine lv_if_eq (tgt := 19) hx hb dX11_judge_12 (by decide) (fun c6 => ?_) (fun c6 => ?_)
    · have hf := if_t hf c6
      refine lv_aload_n hx hb dX11_judge_19 rfl (lv_at hl 2 rfl) ?_
      refine g_get (Cn := RX11) (T := TX11) (N := 8) (v := .ref (a 5)) (own := RX11) hx hb hown hts hK X_O rfl (fun _ hw => List.mem_cons_of_mem _ (List.mem_append_left _ (List.mem_append_left _ (List.mem_append_left _ (List.mem_append_right _ hw))))) 0 (by decide) (List.mem_of_getElem? (i := 1) rfl) rfl rfl hP dX11_judge_20 ?_
      refine lv_aload_n hx hb dX11_judge_23 rfl (lv_at hl 2 rfl) ?_
      refine g_get (Cn := RX11) (T := TX11) (N := 8) (v := .ref (a 5)) (own := RX11) hx hb hown hts hK X_O rfl (fun _ hw => List.mem_cons_of_mem _ (List.mem_append_left _ (List.mem_append_left _ (List.mem_append_left _ (List.mem_append_right _ hw))))) 0 (by decide) (List.mem_of_getElem? (i := 1) rfl) rfl rfl hP dX11_judge_24 ?_
      refine g_getN (Cn := RX5) (T := TX5) (N := 7) (v := .int (fI h 5 4)) (own := RX11) hx hb hown hts hK hN (par_O isPar5) rfl (fun _ hw => List.mem_cons_of_mem _ (List.mem_append_left _ (List.mem_append_left _ (List.mem_append_right _ hw)))) 4 (by decide) (List.mem_of_getElem? (i := 7) rfl) rfl rfl hP dX11_judge_27 ?_
      refine lv_aload_n hx hb dX11_judge_30 rfl (lv_at hl 1 rfl) ?_
      refine lv_iconst (v := 0) hx hb dX11_judge_31 (by decide) ?_
      obtain ⟨q7, hq7, hf⟩ := bind_s hf
      refine g_callS (As := [.ref (a 5), .int (fI h 5 4), .ref (a t2), .int 0]) (rest := []) hx hb hml hown hts hK hN (m_X11_firstOther l D a C ha h 5 (fI h 5 4) t2 0 isPar5 ht2 q7 hq7) (va_cwS 4 hts gX11_judge_X11_firstOther rfl rfl rfl kdX11_firstOther.2 ⟨Nat.le_of_ble_eq_true rfl, Nat.le_of_ble_eq_true rfl⟩) hP hS hA rfl hl.1 rfl (Nat.le_of_ble_eq_true rfl) dX11_judge_32 ⟨Nat.le_refl _, Nat.le_refl _⟩ (fun H locs hP hS => ?_)
      refine W.eq (g2 := F0 m 35 ls [.int q7]) rfl ?_
      exact g_iret hx hb hr hlk hP hS (ret1 hf) dX11_judge_35
    · have hf := if_f hf c6
      refine lv_iload_n hx hb dX11_judge_15 rfl (lv_at hl 0 rfl) ?_
      refine lv_goto (tgt := 35) hx hb dX11_judge_16 (by decide) ?_
      exact g_iret hx hb hr hlk hP hS (ret1 hf) dX11_judge_35

def X11_years_B45 (v1 : Int32) (v2 : Int32) (v3 : Int32) : Nat → Int32 → Int32 → Int32 → Int32 → HS → Option (Int32 × HS)
  | 0, _, _, _, _, _ => none
  | fu + 1, v4, v5, v6, v7, h =>
    (if v1 ≤ v7 then
    (if v3 = 0 then
    some (v5, h)
    else
    some (v6, h))
    else
    (X4_draw h 21 v4).bind fun q8 =>
    (X5_behind q8.2 20 (fI q8.2 20 4) 9 0).bind fun q9 =>
    (J6_bitCount_0f7a4 q9).bind fun q10 =>
    nm (v5 + q10) fun x11 =>
    (X4_total q8.2 21).bind fun q12 =>
    nm (v6 + q12) fun x13 =>
    nm (v7 + 1) fun x14 =>
    (X11_years_B45 v1 v2 v3 fu) q8.1 x11 x13 x14 q8.2)
def X11_years (h : HS) (v1 : Int32) (v2 : Int32) (v3 : Int32) : Option (Int32 × HS) :=
    (if v1 < 1 then
    some ((-1), h)
    else
    (if 20 < v1 then
    some ((-1), h)
    else
    (if v3 < 0 then
    some ((-1), h)
    else
    (if v3 ≤ 1 then
    (X5_become h 20 5).bind fun q5 =>
    X11_years_B45 v1 v2 v3 FU v2 0 0 0 q5
    else
    some ((-1), h)))))
def rmX11_years : Room := { frames := 6, cells := 0, slots := 0, locals := 145 }
theorem kdX11_years : yX11_years.cls = RX11 ∧ yX11_years.cls ≠ "java/lang/invoke/MethodHandle" ∧ yX11_years.cls ≠ "java/lang/invoke/VarHandle" ∧ (parseMethodDescriptor yX11_years.desc).map (fun d => d.parameters.length) = some 3 := by decide +kernel
set_option maxHeartbeats 4000000 in
set_option maxRecDepth 100000 in
theorem m_X11_years (l : Launch) (D : va_G) (a : Nat → Nat) (C : Nat → ClassId) (ha : ginj a) (h : HS) (v1 : Int32) (v2 : Int32) (v3 : Int32)  (r : Int32) (h' : HS) (hf : X11_years h v1 v2 v3 = some (r, h')) : gM l yX11_years wsX11_years rmX11_years D a C [.ref (a 0), .int v1, .int v2, .int v3] h (some (.int r)) h' := by
  refine g_start (av := [.ref (a 0), .int v1, .int v2, .int v3]) (cc := cX11_years) (maxL := 8) (rt := (some .int)) (by decide) rfl (Nat.le_of_ble_eq_true rfl) ?_
  intro p e s m below meth c hx hb hr hml hown hlk hts hP hK hN ls hl
  have hA : ∀ q, gA a q → gA a q := fun _ q => q
  have hS : va_S (gA a) s.heap s.heap [] := va_S.rf
  have hl : lv_has ls 8 [(0, .ref (a 0)), (1, .int v1), (2, .int v2), (3, .int v3)] := hl
  have J45 : ∀ (fu : Nat) (v4 : Int32) (v5 : Int32) (v6 : Int32) (v7 : Int32) (h : HS), X11_years_B45 v1 v2 v3 fu v4 v5 v6 v7 h = some (r, h') → gG p l e (headSpec wsX11_years rmX11_years).room s m ([.ref (a 0), .int v1, .int v2, .int v3] : List Value).toArray below meth c (MQ below (gQ (some (.int r)) D a C h') ([.ref (a 0), .int v1, .int v2, .int v3] : List Value).toArray s 0 0 (gA a)) D a C 8 h 45 [(0, .ref (a 0)), (1, .int v1), (3, .int v3), (4, .int v4), (5, .int v5), (6, .int v6), (7, .int v7)] [] := by
    intro fu
    induction fu with
    | zero => intro v4 v5 v6 v7 h hf; exact absurd hf (by simp [X11_years_B45])
    | succ fu ih =>
      intro v4 v5 v6 v7 h hf H locs ls hP hS hl
      rw [X11_years_B45] at hf
      refine lv_iload hx hb dX11_years_45 (lv_at hl 6 rfl) ?_
      refine lv_iload_n hx hb dX11_years_47 rfl (lv_at hl 1 rfl) ?_
      refine lv_icmp_ge (tgt := 111) hx hb dX11_years_48 (by decide) (fun c6 => ?_) (fun c6 => ?_)
      · have hf := if_t hf c6
        refine lv_iload_n hx hb dX11_years_111 rfl (lv_at hl 2 rfl) ?_
        refine lv_if_ne (tgt := 120) hx hb dX11_years_112 (by decide) (fun c7 => ?_) (fun c7 => ?_)
        · have hf := if_f hf c7
          refine lv_iload hx hb dX11_years_120 (lv_at hl 5 rfl) ?_
          exact g_iretW hx hb hr hlk hP hS (ret2 hf) dX11_years_122
        · have hf := if_t hf c7
          refine lv_iload hx hb dX11_years_115 (lv_at hl 4 rfl) ?_
          refine lv_goto (tgt := 122) hx hb dX11_years_117 (by decide) ?_
          exact g_iretW hx hb hr hlk hP hS (ret2 hf) dX11_years_122
      · have hf := if_f hf c6
        refine lv_aload_n hx hb dX11_years_51 rfl (lv_at hl 0 rfl) ?_
        refine g_get (Cn := RX11) (T := TX11) (N := 8) (v := .ref (a 20)) (own := RX11) hx hb hown hts hK X_O rfl (fun _ hw => List.mem_cons_of_mem _ (List.mem_append_left _ (List.mem_append_left _ (List.mem_append_right _ hw)))) 1 (by decide) (List.mem_of_getElem? (i := 1) rfl) rfl rfl hP dX11_years_52 ?_
        refine g_getN (Cn := RX5) (T := TX5) (N := 7) (v := .ref (a 21)) (own := RX11) hx hb hown hts hK hN (par_O isPar20) rfl (fun _ hw => List.mem_cons_of_mem _ (List.mem_append_left _ (List.mem_append_right _ hw))) 0 (by decide) (List.mem_of_getElem? (i := 6) rfl) rfl rfl hP dX11_years_55 ?_
        refine lv_iload hx hb dX11_years_58 (lv_at hl 3 rfl) ?_
        obtain ⟨q8, hq8, hf⟩ := bind_s hf
        refine g_callV (As := [.int v4]) (rest := []) hx hb hml hown hts hK hN (m_X4_draw l D a C ha h 21 v4 (par_lin isPar20) q8.1 q8.2 hq8) (cwV 1 hts gX11_years_X4_draw rfl rfl rfl kdX4_draw ⟨Nat.le_of_ble_eq_true rfl, Nat.le_of_ble_eq_true rfl⟩) (lin_O (par_lin isPar20)) rfl rfl hP hS hA rfl hl.1 rfl (Nat.le_of_ble_eq_true rfl) dX11_years_60 ⟨Nat.le_refl _, Nat.le_refl _⟩ (fun H locs hP hS => ?_)
        refine W.eq (g2 := F0 m 63 ls [.int q8.1]) rfl ?_
        refine lv_istore (lv' := [(4, .int q8.1), (0, .ref (a 0)), (1, .int v1), (3, .int v3), (5, .int v5), (6, .int v6), (7, .int v7)]) hx hb dX11_years_63 hl (by decide) rfl (fun ls hl => ?_)
        refine lv_iload hx hb dX11_years_65 (lv_at hl 4 rfl) ?_
        refine lv_aload_n hx hb dX11_years_67 rfl (lv_at hl 1 rfl) ?_
        refine g_get (Cn := RX11) (T := TX11) (N := 8) (v := .ref (a 20)) (own := RX11) hx hb hown hts hK X_O rfl (fun _ hw => List.mem_cons_of_mem _ (List.mem_append_left _ (List.mem_append_left _ (List.mem_append_right _ hw)))) 1 (by decide) (List.mem_of_getElem? (i := 1) rfl) rfl rfl hP dX11_years_68 ?_
        refine lv_aload_n hx hb dX11_years_71 rfl (lv_at hl 1 rfl) ?_
        refine g_get (Cn := RX11) (T := TX11) (N := 8) (v := .ref (a 20)) (own := RX11) hx hb hown hts hK X_O rfl (fun _ hw => List.mem_cons_of_mem _ (List.mem_append_left _ (List.mem_append_left _ (List.mem_append_right _ hw)))) 1 (by decide) (List.mem_of_getElem? (i := 1) rfl) rfl rfl hP dX11_years_72 ?_
        refine g_getN (Cn := RX5) (T := TX5) (N := 7) (v := .int (fI q8.2 20 4)) (own := RX11) hx hb hown hts hK hN (par_O isPar20) rfl (fun _ hw => List.mem_cons_of_mem _ (List.mem_append_left _ (List.mem_append_right _ hw))) 4 (by decide) (List.mem_of_getElem? (i := 7) rfl) rfl rfl hP dX11_years_75 ?_
        refine lv_bipush (v := 9) hx hb dX11_years_78 (by decide) ?_
        refine lv_iconst (v := 0) hx hb dX11_years_80 (by decide) ?_
        obtain ⟨q9, hq9, hf⟩ := bind_s hf
        refine g_callV (As := [.int (fI q8.2 20 4), .int 9, .int 0]) (rest := [.int v5]) hx hb hml hown hts hK hN (m_X5_behind l D a C ha q8.2 20 (fI q8.2 20 4) 9 0 isPar20 q9 hq9) (cwV 3 hts gX11_years_X5_behind rfl rfl rfl kdX5_behind ⟨Nat.le_of_ble_eq_true rfl, Nat.le_of_ble_eq_true rfl⟩) (par_O isPar20) rfl rfl hP hS hA rfl hl.1 rfl (Nat.le_of_ble_eq_true rfl) dX11_years_81 ⟨Nat.le_refl _, Nat.le_refl _⟩ (fun H locs hP hS => ?_)
        refine W.eq (g2 := F0 m 84 ls [.int q9, .int v5]) rfl ?_
        obtain ⟨q10, hq10, hf⟩ := bind_s hf
        refine g_callS (As := [.int q9]) (rest := [.int v5]) hx hb hml hown hts hK hN (m_J6_bitCount_0f7a4 l D a C ha q8.2 q9  q10 hq10) (va_cwS 1 hts gX11_years_J6_bitCount_0f7a4 rfl rfl rfl kdJ6_bitCount_0f7a4.2 ⟨Nat.le_of_ble_eq_true rfl, Nat.le_of_ble_eq_true rfl⟩) hP hS hA rfl hl.1 rfl (Nat.le_of_ble_eq_true rfl) dX11_years_84 ⟨Nat.le_refl _, Nat.le_refl _⟩ (fun H locs hP hS => ?_)
        refine W.eq (g2 := F0 m 87 ls [.int q10, .int v5]) rfl ?_
        refine lv_iadd hx hb dX11_years_87 ?_
        refine lv_topi (fun x11 ex11 => ?_)
        have hf := nm_s hf ex11
        refine lv_istore (lv' := [(5, .int x11), (4, .int q8.1), (0, .ref (a 0)), (1, .int v1), (3, .int v3), (6, .int v6), (7, .int v7)]) hx hb dX11_years_88 hl (by decide) rfl (fun ls hl => ?_)
        refine lv_iload hx hb dX11_years_90 (lv_at hl 5 rfl) ?_
        refine lv_aload_n hx hb dX11_years_92 rfl (lv_at hl 2 rfl) ?_
        refine g_get (Cn := RX11) (T := TX11) (N := 8) (v := .ref (a 20)) (own := RX11) hx hb hown hts hK X_O rfl (fun _ hw => List.mem_cons_of_mem _ (List.mem_append_left _ (List.mem_append_left _ (List.mem_append_right _ hw)))) 1 (by decide) (List.mem_of_getElem? (i := 1) rfl) rfl rfl hP dX11_years_93 ?_
        refine g_getN (Cn := RX5) (T := TX5) (N := 7) (v := .ref (a 21)) (own := RX11) hx hb hown hts hK hN (par_O isPar20) rfl (fun _ hw => List.mem_cons_of_mem _ (List.mem_append_left _ (List.mem_append_right _ hw))) 0 (by decide) (List.mem_of_getElem? (i := 6) rfl) rfl rfl hP dX11_years_96 ?_
        obtain ⟨q12, hq12, hf⟩ := bind_s hf
        refine g_callV (As := []) (rest := [.int v6]) hx hb hml hown hts hK hN (m_X4_total l D a C ha q8.2 21 (par_lin isPar20) q12 hq12) (cwV 0 hts gX11_years_X4_total rfl rfl rfl kdX4_total ⟨Nat.le_of_ble_eq_true rfl, Nat.le_of_ble_eq_true rfl⟩) (lin_O (par_lin isPar20)) rfl rfl hP hS hA rfl hl.1 rfl (Nat.le_of_ble_eq_true rfl) dX11_years_99 ⟨Nat.le_refl _, Nat.le_refl _⟩ (fun H locs hP hS => ?_)
        refine W.eq (g2 := F0 m 102 ls [.int q12, .int v6]) rfl ?_
        refine lv_iadd hx hb dX11_years_102 ?_
        refine lv_topi (fun x13 ex13 => ?_)
        have hf := nm_s hf ex13
        refine lv_istore (lv' := [(6, .int x13), (5, .int x11), (4, .int q8.1), (0, .ref (a 0)), (1, .int v1), (3, .int v3), (7, .int v7)]) hx hb dX11_years_103 hl (by decide) rfl (fun ls hl => ?_)
        obtain ⟨x14, ex14⟩ : ∃ y : Int32, y = (v7 + 1) := ⟨_, rfl⟩
        have hf := nm_s hf ex14
        refine lv_iinc (v := x14) (lv' := [(7, .int x14), (6, .int x13), (5, .int x11), (4, .int q8.1), (0, .ref (a 0)), (1, .int v1), (3, .int v3)]) hx hb dX11_years_105 hl (k := 6) rfl (by rw [ex14]; rfl) (by decide) rfl (fun ls hl => ?_)
        refine lv_goto (tgt := 45) hx hb dX11_years_108 (by decide) ?_
        exact ih q8.1 x11 x13 x14 q8.2 hf H locs ls hP hS (lv_sub hl [4, 5, 6, 3, 2, 1, 0] rfl)
  unfold X11_years at hf
  suffices hh : ∀ (H : Heap) (locs : List Loc), va_P D vwCl (gw a C h) H → va_S (gA a) s.heap H locs → W p l e (headSpec wsX11_years rmX11_years).room s m ([.ref (a 0), .int v1, .int v2, .int v3] : List Value).toArray below meth c H locs 0 0 (MQ below (gQ (some (.int r)) D a C h') ([.ref (a 0), .int v1, .int v2, .int v3] : List Value).toArray s 0 0 (gA a)) (F0 m 0 ls []) from hh _ _ hP hS
  intro H locs hP hS
  refine lv_iload_n hx hb dX11_years_0 rfl (lv_at hl 1 rfl) ?_
  refine lv_iconst (v := 1) hx hb dX11_years_1 (by decide) ?_
  refine lv_icmp_lt (tgt := 20) hx hb dX11_years_2 (by decide) (fun c1 => ?_) (fun c1 => ?_)
  · have hf := if_t hf c1
    refine lv_iconst (v := (-1)) hx hb dX11_years_20 (by decide) ?_
    exact g_iretW hx hb hr hlk hP hS (ret2 hf) dX11_years_21
  · have hf := if_f hf c1
    refine lv_iload_n hx hb dX11_years_5 rfl (lv_at hl 1 rfl) ?_
    refine lv_bipush (v := 20) hx hb dX11_years_6 (by decide) ?_
    refine lv_icmp_gt (tgt := 20) hx hb dX11_years_8 (by decide) (fun c2 => ?_) (fun c2 => ?_)
    · have hf := if_t hf c2
      refine lv_iconst (v := (-1)) hx hb dX11_years_20 (by decide) ?_
      exact g_iretW hx hb hr hlk hP hS (ret2 hf) dX11_years_21
    · have hf := if_f hf c2
      refine lv_iload_n hx hb dX11_years_11 rfl (lv_at hl 3 rfl) ?_
      refine lv_if_lt (tgt := 20) hx hb dX11_years_12 (by decide) (fun c3 => ?_) (fun c3 => ?_)
      · have hf := if_t hf c3
        refine lv_iconst (v := (-1)) hx hb dX11_years_20 (by decide) ?_
        exact g_iretW hx hb hr hlk hP hS (ret2 hf) dX11_years_21
      · have hf := if_f hf c3
        refine lv_iload_n hx hb dX11_years_15 rfl (lv_at hl 3 rfl) ?_
        refine lv_iconst (v := 1) hx hb dX11_years_16 (by decide) ?_
        refine lv_icmp_le (tgt := 22) hx hb dX11_years_17 (by decide) (fun c4 => ?_) (fun c4 => ?_)
        · have hf := if_t hf c4
          refine lv_aload_n hx hb dX11_years_22 rfl (lv_at hl 0 rfl) ?_
          refine g_get (Cn := RX11) (T := TX11) (N := 8) (v := .ref (a 20)) (own := RX11) hx hb hown hts hK X_O rfl (fun _ hw => List.mem_cons_of_mem _ (List.mem_append_left _ (List.mem_append_left _ (List.mem_append_right _ hw)))) 1 (by decide) (List.mem_of_getElem? (i := 1) rfl) rfl rfl hP dX11_years_23 ?_
          refine lv_aload_n hx hb dX11_years_26 rfl (lv_at hl 0 rfl) ?_
          refine g_get (Cn := RX11) (T := TX11) (N := 8) (v := .ref (a 5)) (own := RX11) hx hb hown hts hK X_O rfl (fun _ hw => List.mem_cons_of_mem _ (List.mem_append_left _ (List.mem_append_left _ (List.mem_append_right _ hw)))) 0 (by decide) (List.mem_of_getElem? (i := 2) rfl) rfl rfl hP dX11_years_27 ?_
          obtain ⟨q5, hq5, hf⟩ := bind_s hf
          refine g_callV (As := [.ref (a 5)]) (rest := []) hx hb hml hown hts hK hN (m_X5_become l D a C ha h 20 5 isPar20 isPar5 q5 hq5) (cwV 1 hts gX11_years_X5_become rfl rfl rfl kdX5_become ⟨Nat.le_of_ble_eq_true rfl, Nat.le_of_ble_eq_true rfl⟩) (par_O isPar20) rfl rfl hP hS hA rfl hl.1 rfl (Nat.le_of_ble_eq_true rfl) dX11_years_30 ⟨Nat.le_refl _, Nat.le_refl _⟩ (fun H locs hP hS => ?_)
          refine W.eq (g2 := F0 m 33 ls []) rfl ?_
          refine lv_iload_n hx hb dX11_years_33 rfl (lv_at hl 2 rfl) ?_
          refine lv_istore (lv' := [(4, .int v2), (0, .ref (a 0)), (1, .int v1), (2, .int v2), (3, .int v3)]) hx hb dX11_years_34 hl (by decide) rfl (fun ls hl => ?_)
          refine lv_iconst (v := 0) hx hb dX11_years_36 (by decide) ?_
          refine lv_istore (lv' := [(5, .int 0), (4, .int v2), (0, .ref (a 0)), (1, .int v1), (2, .int v2), (3, .int v3)]) hx hb dX11_years_37 hl (by decide) rfl (fun ls hl => ?_)
          refine lv_iconst (v := 0) hx hb dX11_years_39 (by decide) ?_
          refine lv_istore (lv' := [(6, .int 0), (5, .int 0), (4, .int v2), (0, .ref (a 0)), (1, .int v1), (2, .int v2), (3, .int v3)]) hx hb dX11_years_40 hl (by decide) rfl (fun ls hl => ?_)
          refine lv_iconst (v := 0) hx hb dX11_years_42 (by decide) ?_
          refine lv_istore (lv' := [(7, .int 0), (6, .int 0), (5, .int 0), (4, .int v2), (0, .ref (a 0)), (1, .int v1), (2, .int v2), (3, .int v3)]) hx hb dX11_years_43 hl (by decide) rfl (fun ls hl => ?_)
          exact J45 FU v2 0 0 0 q5 hf H locs ls hP hS (lv_sub hl [4, 5, 7, 3, 2, 1, 0] rfl)
        · have hf := if_f hf c4
          refine lv_iconst (v := (-1)) hx hb dX11_years_20 (by decide) ?_
          exact g_iretW hx hb hr hlk hP hS (ret2 hf) dX11_years_21

def X11_image (h : HS) : Option (Int32 × HS) :=
    (X5_become h 35 5).bind fun q1 =>
    nm (sF q1 0 3 1) fun h2 =>
    some ((fI h2 5 6), h2)
def rmX11_image : Room := { frames := 3, cells := 0, slots := 0, locals := 68 }
theorem kdX11_image : yX11_image.cls = RX11 ∧ yX11_image.cls ≠ "java/lang/invoke/MethodHandle" ∧ yX11_image.cls ≠ "java/lang/invoke/VarHandle" ∧ (parseMethodDescriptor yX11_image.desc).map (fun d => d.parameters.length) = some 0 := by decide +kernel
set_option maxHeartbeats 4000000 in
set_option maxRecDepth 100000 in
theorem m_X11_image (l : Launch) (D : va_G) (a : Nat → Nat) (C : Nat → ClassId) (ha : ginj a) (h : HS)  (r : Int32) (h' : HS) (hf : X11_image h = some (r, h')) : gM l yX11_image wsX11_image rmX11_image D a C [.ref (a 0)] h (some (.int r)) h' := by
  refine g_start (av := [.ref (a 0)]) (cc := cX11_image) (maxL := 1) (rt := (some .int)) (by decide) rfl (Nat.le_of_ble_eq_true rfl) ?_
  intro p e s m below meth c hx hb hr hml hown hlk hts hP hK hN ls hl
  have hA : ∀ q, gA a q → gA a q := fun _ q => q
  have hS : va_S (gA a) s.heap s.heap [] := va_S.rf
  have hl : lv_has ls 1 [(0, .ref (a 0))] := hl
  unfold X11_image at hf
  refine lv_aload_n hx hb dX11_image_0 rfl (lv_at hl 0 rfl) ?_
  refine g_get (Cn := RX11) (T := TX11) (N := 8) (v := .ref (a 35)) (own := RX11) hx hb hown hts hK X_O rfl (fun _ hw => List.mem_cons_of_mem _ (List.mem_append_left _ (List.mem_append_left _ (List.mem_append_right _ hw)))) 2 (by decide) (List.mem_of_getElem? (i := 1) rfl) rfl rfl hP dX11_image_1 ?_
  refine lv_aload_n hx hb dX11_image_4 rfl (lv_at hl 0 rfl) ?_
  refine g_get (Cn := RX11) (T := TX11) (N := 8) (v := .ref (a 5)) (own := RX11) hx hb hown hts hK X_O rfl (fun _ hw => List.mem_cons_of_mem _ (List.mem_append_left _ (List.mem_append_left _ (List.mem_append_right _ hw)))) 0 (by decide) (List.mem_of_getElem? (i := 2) rfl) rfl rfl hP dX11_image_5 ?_
  obtain ⟨q1, hq1, hf⟩ := bind_s hf
  refine g_callV (As := [.ref (a 5)]) (rest := []) hx hb hml hown hts hK hN (m_X5_become l D a C ha h 35 5 isPar35 isPar5 q1 hq1) (cwV 1 hts gX11_image_X5_become rfl rfl rfl kdX5_become ⟨Nat.le_of_ble_eq_true rfl, Nat.le_of_ble_eq_true rfl⟩) (par_O isPar35) rfl rfl hP hS hA rfl hl.1 rfl (Nat.le_of_ble_eq_true rfl) dX11_image_8 ⟨Nat.le_refl _, Nat.le_refl _⟩ (fun H locs hP hS => ?_)
  refine W.eq (g2 := F0 m 11 ls []) rfl ?_
  refine lv_aload_n hx hb dX11_image_11 rfl (lv_at hl 0 rfl) ?_
  refine lv_iconst (v := 1) hx hb dX11_image_12 (by decide) ?_
  refine g_put (Cn := RX11) (T := TX11) (N := 8) (ty0 := tyX11) (own := RX11) hx hb hown hts hK ha hA X_O rfl (fun _ hw => List.mem_cons_of_mem _ (List.mem_append_left _ (List.mem_append_left _ (List.mem_append_right _ hw)))) tyX11_ok nmX11 3 (by decide) (List.mem_of_getElem? (i := 3) rfl) rfl rfl rfl (by decide) rfl hP hS dX11_image_13 (fun H locs hP hS => ?_)
  obtain ⟨h2, eh2⟩ : ∃ x, x = (sF q1 0 3 1) := ⟨_, rfl⟩
  rw [← eh2] at hP
  have hf := nm_s hf eh2
  refine lv_aload_n hx hb dX11_image_16 rfl (lv_at hl 0 rfl) ?_
  refine g_get (Cn := RX11) (T := TX11) (N := 8) (v := .ref (a 5)) (own := RX11) hx hb hown hts hK X_O rfl (fun _ hw => List.mem_cons_of_mem _ (List.mem_append_left _ (List.mem_append_left _ (List.mem_append_right _ hw)))) 0 (by decide) (List.mem_of_getElem? (i := 2) rfl) rfl rfl hP dX11_image_17 ?_
  refine g_getN (Cn := RX5) (T := TX5) (N := 7) (v := .int (fI h2 5 6)) (own := RX11) hx hb hown hts hK hN (par_O isPar5) rfl (fun _ hw => List.mem_cons_of_mem _ (List.mem_append_left _ (List.mem_append_right _ hw))) 6 (by decide) (List.mem_of_getElem? (i := 0) rfl) rfl rfl hP dX11_image_20 ?_
  exact g_iretW hx hb hr hlk hP hS (ret2 hf) dX11_image_23

def X11_restore (h : HS) : Option (Int32 × HS) :=
    (if (fI h 0 3) = 0 then
    some ((-3), h)
    else
    (X5_become h 5 35).bind fun q2 =>
    some ((fI q2 5 6), q2))
def rmX11_restore : Room := { frames := 3, cells := 0, slots := 0, locals := 68 }
theorem kdX11_restore : yX11_restore.cls = RX11 ∧ yX11_restore.cls ≠ "java/lang/invoke/MethodHandle" ∧ yX11_restore.cls ≠ "java/lang/invoke/VarHandle" ∧ (parseMethodDescriptor yX11_restore.desc).map (fun d => d.parameters.length) = some 0 := by decide +kernel
set_option maxHeartbeats 4000000 in
set_option maxRecDepth 100000 in
theorem m_X11_restore (l : Launch) (D : va_G) (a : Nat → Nat) (C : Nat → ClassId) (ha : ginj a) (h : HS)  (r : Int32) (h' : HS) (hf : X11_restore h = some (r, h')) : gM l yX11_restore wsX11_restore rmX11_restore D a C [.ref (a 0)] h (some (.int r)) h' := by
  refine g_start (av := [.ref (a 0)]) (cc := cX11_restore) (maxL := 1) (rt := (some .int)) (by decide) rfl (Nat.le_of_ble_eq_true rfl) ?_
  intro p e s m below meth c hx hb hr hml hown hlk hts hP hK hN ls hl
  have hA : ∀ q, gA a q → gA a q := fun _ q => q
  have hS : va_S (gA a) s.heap s.heap [] := va_S.rf
  have hl : lv_has ls 1 [(0, .ref (a 0))] := hl
  unfold X11_restore at hf
  refine lv_aload_n hx hb dX11_restore_0 rfl (lv_at hl 0 rfl) ?_
  refine g_get (Cn := RX11) (T := TX11) (N := 8) (v := .int (fI h 0 3)) (own := RX11) hx hb hown hts hK X_O rfl (fun _ hw => List.mem_cons_of_mem _ (List.mem_append_left _ (List.mem_append_left _ (List.mem_append_right _ hw)))) 3 (by decide) (List.mem_of_getElem? (i := 1) rfl) rfl rfl hP dX11_restore_1 ?_
  refine lv_if_ne (tgt := 10) hx hb dX11_restore_4 (by decide) (fun c1 => ?_) (fun c1 => ?_)
  · have hf := if_f hf c1
    refine lv_aload_n hx hb dX11_restore_10 rfl (lv_at hl 0 rfl) ?_
    refine g_get (Cn := RX11) (T := TX11) (N := 8) (v := .ref (a 5)) (own := RX11) hx hb hown hts hK X_O rfl (fun _ hw => List.mem_cons_of_mem _ (List.mem_append_left _ (List.mem_append_left _ (List.mem_append_right _ hw)))) 0 (by decide) (List.mem_of_getElem? (i := 2) rfl) rfl rfl hP dX11_restore_11 ?_
    refine lv_aload_n hx hb dX11_restore_14 rfl (lv_at hl 0 rfl) ?_
    refine g_get (Cn := RX11) (T := TX11) (N := 8) (v := .ref (a 35)) (own := RX11) hx hb hown hts hK X_O rfl (fun _ hw => List.mem_cons_of_mem _ (List.mem_append_left _ (List.mem_append_left _ (List.mem_append_right _ hw)))) 2 (by decide) (List.mem_of_getElem? (i := 3) rfl) rfl rfl hP dX11_restore_15 ?_
    obtain ⟨q2, hq2, hf⟩ := bind_s hf
    refine g_callV (As := [.ref (a 35)]) (rest := []) hx hb hml hown hts hK hN (m_X5_become l D a C ha h 5 35 isPar5 isPar35 q2 hq2) (cwV 1 hts gX11_restore_X5_become rfl rfl rfl kdX5_become ⟨Nat.le_of_ble_eq_true rfl, Nat.le_of_ble_eq_true rfl⟩) (par_O isPar5) rfl rfl hP hS hA rfl hl.1 rfl (Nat.le_of_ble_eq_true rfl) dX11_restore_18 ⟨Nat.le_refl _, Nat.le_refl _⟩ (fun H locs hP hS => ?_)
    refine W.eq (g2 := F0 m 21 ls []) rfl ?_
    refine lv_aload_n hx hb dX11_restore_21 rfl (lv_at hl 0 rfl) ?_
    refine g_get (Cn := RX11) (T := TX11) (N := 8) (v := .ref (a 5)) (own := RX11) hx hb hown hts hK X_O rfl (fun _ hw => List.mem_cons_of_mem _ (List.mem_append_left _ (List.mem_append_left _ (List.mem_append_right _ hw)))) 0 (by decide) (List.mem_of_getElem? (i := 2) rfl) rfl rfl hP dX11_restore_22 ?_
    refine g_getN (Cn := RX5) (T := TX5) (N := 7) (v := .int (fI q2 5 6)) (own := RX11) hx hb hown hts hK hN (par_O isPar5) rfl (fun _ hw => List.mem_cons_of_mem _ (List.mem_append_left _ (List.mem_append_right _ hw))) 6 (by decide) (List.mem_of_getElem? (i := 0) rfl) rfl rfl hP dX11_restore_25 ?_
    exact g_iretW hx hb hr hlk hP hS (ret2 hf) dX11_restore_28
  · have hf := if_t hf c1
    refine lv_bipush (v := (-3)) hx hb dX11_restore_7 (by decide) ?_
    exact g_iretW hx hb hr hlk hP hS (ret2 hf) dX11_restore_9

def X11_count (h : HS) (v1 : Int32) : Option Int32 :=
    (if v1 = 0 then
    (X5_people h 5).bind fun q2 =>
    some q2
    else
    (if v1 = 1 then
    some (fI h 5 6)
    else
    (if v1 = 2 then
    (X4_total h 6).bind fun q5 =>
    some q5
    else
    (if v1 = 3 then
    some (fI h 5 4)
    else
    (if v1 = 4 then
    (X5_allCards h 5).bind fun q8 =>
    some q8
    else
    some (-1))))))
def rmX11_count : Room := { frames := 6, cells := 0, slots := 0, locals := 131 }
theorem kdX11_count : yX11_count.cls = RX11 ∧ yX11_count.cls ≠ "java/lang/invoke/MethodHandle" ∧ yX11_count.cls ≠ "java/lang/invoke/VarHandle" ∧ (parseMethodDescriptor yX11_count.desc).map (fun d => d.parameters.length) = some 1 := by decide +kernel
set_option maxHeartbeats 4000000 in
set_option maxRecDepth 100000 in
theorem m_X11_count (l : Launch) (D : va_G) (a : Nat → Nat) (C : Nat → ClassId) (ha : ginj a) (h : HS) (v1 : Int32)  (r : Int32) (hf : X11_count h v1 = some r) : gM l yX11_count wsX11_count rmX11_count D a C [.ref (a 0), .int v1] h (some (.int r)) h := by
  refine g_start (av := [.ref (a 0), .int v1]) (cc := cX11_count) (maxL := 2) (rt := (some .int)) (by decide) rfl (Nat.le_of_ble_eq_true rfl) ?_
  intro p e s m below meth c hx hb hr hml hown hlk hts hP hK hN ls hl
  have hA : ∀ q, gA a q → gA a q := fun _ q => q
  have hS : va_S (gA a) s.heap s.heap [] := va_S.rf
  have hl : lv_has ls 2 [(0, .ref (a 0)), (1, .int v1)] := hl
  unfold X11_count at hf
  refine lv_iload_n hx hb dX11_count_0 rfl (lv_at hl 1 rfl) ?_
  by_cases c1 : v1 = 0
  · have hf := if_t hf c1
    refine lv_tableIn (tgt := 36) hx hb dX11_count_1 (by rw [c1]; decide) (by rw [c1]; decide) (by rw [c1]; rfl) (by decide) ?_
    refine lv_aload_n hx hb dX11_count_36 rfl (lv_at hl 0 rfl) ?_
    refine g_get (Cn := RX11) (T := TX11) (N := 8) (v := .ref (a 5)) (own := RX11) hx hb hown hts hK X_O rfl (fun _ hw => List.mem_cons_of_mem _ (List.mem_append_left _ (List.mem_append_left _ (List.mem_append_right _ hw)))) 0 (by decide) (List.mem_of_getElem? (i := 1) rfl) rfl rfl hP dX11_count_37 ?_
    obtain ⟨q2, hq2, hf⟩ := bind_s hf
    refine g_callV (As := []) (rest := []) hx hb hml hown hts hK hN (m_X5_people l D a C ha h 5 isPar5 q2 hq2) (cwV 0 hts gX11_count_X5_people rfl rfl rfl kdX5_people ⟨Nat.le_of_ble_eq_true rfl, Nat.le_of_ble_eq_true rfl⟩) (par_O isPar5) rfl rfl hP hS hA rfl hl.1 rfl (Nat.le_of_ble_eq_true rfl) dX11_count_40 ⟨Nat.le_refl _, Nat.le_refl _⟩ (fun H locs hP hS => ?_)
    refine W.eq (g2 := F0 m 43 ls [.int q2]) rfl ?_
    exact g_iret hx hb hr hlk hP hS (ret1 hf) dX11_count_43
  have hf := if_f hf c1
  by_cases c3 : v1 = 1
  · have hf := if_t hf c3
    refine lv_tableIn (tgt := 44) hx hb dX11_count_1 (by rw [c3]; decide) (by rw [c3]; decide) (by rw [c3]; rfl) (by decide) ?_
    refine lv_aload_n hx hb dX11_count_44 rfl (lv_at hl 0 rfl) ?_
    refine g_get (Cn := RX11) (T := TX11) (N := 8) (v := .ref (a 5)) (own := RX11) hx hb hown hts hK X_O rfl (fun _ hw => List.mem_cons_of_mem _ (List.mem_append_left _ (List.mem_append_left _ (List.mem_append_right _ hw)))) 0 (by decide) (List.mem_of_getElem? (i := 1) rfl) rfl rfl hP dX11_count_45 ?_
    refine g_getN (Cn := RX5) (T := TX5) (N := 7) (v := .int (fI h 5 6)) (own := RX11) hx hb hown hts hK hN (par_O isPar5) rfl (fun _ hw => List.mem_cons_of_mem _ (List.mem_append_left _ (List.mem_append_right _ hw))) 6 (by decide) (List.mem_of_getElem? (i := 0) rfl) rfl rfl hP dX11_count_48 ?_
    exact g_iret hx hb hr hlk hP hS (ret1 hf) dX11_count_51
  have hf := if_f hf c3
  by_cases c4 : v1 = 2
  · have hf := if_t hf c4
    refine lv_tableIn (tgt := 52) hx hb dX11_count_1 (by rw [c4]; decide) (by rw [c4]; decide) (by rw [c4]; rfl) (by decide) ?_
    refine lv_aload_n hx hb dX11_count_52 rfl (lv_at hl 0 rfl) ?_
    refine g_get (Cn := RX11) (T := TX11) (N := 8) (v := .ref (a 5)) (own := RX11) hx hb hown hts hK X_O rfl (fun _ hw => List.mem_cons_of_mem _ (List.mem_append_left _ (List.mem_append_left _ (List.mem_append_right _ hw)))) 0 (by decide) (List.mem_of_getElem? (i := 1) rfl) rfl rfl hP dX11_count_53 ?_
    refine g_getN (Cn := RX5) (T := TX5) (N := 7) (v := .ref (a 6)) (own := RX11) hx hb hown hts hK hN (par_O isPar5) rfl (fun _ hw => List.mem_cons_of_mem _ (List.mem_append_left _ (List.mem_append_right _ hw))) 0 (by decide) (List.mem_of_getElem? (i := 6) rfl) rfl rfl hP dX11_count_56 ?_
    obtain ⟨q5, hq5, hf⟩ := bind_s hf
    refine g_callV (As := []) (rest := []) hx hb hml hown hts hK hN (m_X4_total l D a C ha h 6 (par_lin isPar5) q5 hq5) (cwV 0 hts gX11_count_X4_total rfl rfl rfl kdX4_total ⟨Nat.le_of_ble_eq_true rfl, Nat.le_of_ble_eq_true rfl⟩) (lin_O (par_lin isPar5)) rfl rfl hP hS hA rfl hl.1 rfl (Nat.le_of_ble_eq_true rfl) dX11_count_59 ⟨Nat.le_refl _, Nat.le_refl _⟩ (fun H locs hP hS => ?_)
    refine W.eq (g2 := F0 m 62 ls [.int q5]) rfl ?_
    exact g_iret hx hb hr hlk hP hS (ret1 hf) dX11_count_62
  have hf := if_f hf c4
  by_cases c6 : v1 = 3
  · have hf := if_t hf c6
    refine lv_tableIn (tgt := 63) hx hb dX11_count_1 (by rw [c6]; decide) (by rw [c6]; decide) (by rw [c6]; rfl) (by decide) ?_
    refine lv_aload_n hx hb dX11_count_63 rfl (lv_at hl 0 rfl) ?_
    refine g_get (Cn := RX11) (T := TX11) (N := 8) (v := .ref (a 5)) (own := RX11) hx hb hown hts hK X_O rfl (fun _ hw => List.mem_cons_of_mem _ (List.mem_append_left _ (List.mem_append_left _ (List.mem_append_right _ hw)))) 0 (by decide) (List.mem_of_getElem? (i := 1) rfl) rfl rfl hP dX11_count_64 ?_
    refine g_getN (Cn := RX5) (T := TX5) (N := 7) (v := .int (fI h 5 4)) (own := RX11) hx hb hown hts hK hN (par_O isPar5) rfl (fun _ hw => List.mem_cons_of_mem _ (List.mem_append_left _ (List.mem_append_right _ hw))) 4 (by decide) (List.mem_of_getElem? (i := 7) rfl) rfl rfl hP dX11_count_67 ?_
    exact g_iret hx hb hr hlk hP hS (ret1 hf) dX11_count_70
  have hf := if_f hf c6
  by_cases c7 : v1 = 4
  · have hf := if_t hf c7
    refine lv_tableIn (tgt := 71) hx hb dX11_count_1 (by rw [c7]; decide) (by rw [c7]; decide) (by rw [c7]; rfl) (by decide) ?_
    refine lv_aload_n hx hb dX11_count_71 rfl (lv_at hl 0 rfl) ?_
    refine g_get (Cn := RX11) (T := TX11) (N := 8) (v := .ref (a 5)) (own := RX11) hx hb hown hts hK X_O rfl (fun _ hw => List.mem_cons_of_mem _ (List.mem_append_left _ (List.mem_append_left _ (List.mem_append_right _ hw)))) 0 (by decide) (List.mem_of_getElem? (i := 1) rfl) rfl rfl hP dX11_count_72 ?_
    obtain ⟨q8, hq8, hf⟩ := bind_s hf
    refine g_callV (As := []) (rest := []) hx hb hml hown hts hK hN (m_X5_allCards l D a C ha h 5 isPar5 q8 hq8) (cwV 0 hts gX11_count_X5_allCards rfl rfl rfl kdX5_allCards ⟨Nat.le_of_ble_eq_true rfl, Nat.le_of_ble_eq_true rfl⟩) (par_O isPar5) rfl rfl hP hS hA rfl hl.1 rfl (Nat.le_of_ble_eq_true rfl) dX11_count_75 ⟨Nat.le_refl _, Nat.le_refl _⟩ (fun H locs hP hS => ?_)
    refine W.eq (g2 := F0 m 78 ls [.int q8]) rfl ?_
    exact g_iret hx hb hr hlk hP hS (ret1 hf) dX11_count_78
  have hf := if_f hf c7
  refine lv_tableOut (tgt := 79) hx hb dX11_count_1 (by have n0 := ti_nz (z := 0) (by decide) c1; have n1 := ti_nz (z := 1) (by decide) c3; have n2 := ti_nz (z := 2) (by decide) c4; have n3 := ti_nz (z := 3) (by decide) c6; have n4 := ti_nz (z := 4) (by decide) c7; omega) (by decide) ?_
  refine lv_iconst (v := (-1)) hx hb dX11_count_79 (by decide) ?_
  exact g_iret hx hb hr hlk hP hS (ret1 hf) dX11_count_80

def X11_keep (h : HS) (v1 : Int32) (v2 : Int32) (v3 : Int32) (v4 : Int32) : Option (Int32 × HS) :=
    (X11_shelfOf h v1).bind fun q1 => oM q1 (
    some ((-1), h)) fun t2 =>
    (if v2 < 0 then
    some ((-1), h)
    else
    (if v2 ≤ 1 then
    (if v2 = 0 then
    (X7_holdNothing h t2).bind fun q11 =>
    some (0, q11)
    else
    (X11_isKind v3).bind fun q6 =>
    (if q6 = 0 then
    some ((-1), h)
    else
    (X11_isFigure v4).bind fun q8 =>
    (if q8 = 0 then
    some ((-1), h)
    else
    (X7_holdOne h t2 v3 v4).bind fun q10 =>
    some (0, q10))))
    else
    some ((-1), h)))
def rmX11_keep : Room := { frames := 1, cells := 0, slots := 0, locals := 22 }
theorem kdX11_keep : yX11_keep.cls = RX11 ∧ yX11_keep.cls ≠ "java/lang/invoke/MethodHandle" ∧ yX11_keep.cls ≠ "java/lang/invoke/VarHandle" ∧ (parseMethodDescriptor yX11_keep.desc).map (fun d => d.parameters.length) = some 4 := by decide +kernel
set_option maxHeartbeats 4000000 in
set_option maxRecDepth 100000 in
theorem m_X11_keep (l : Launch) (D : va_G) (a : Nat → Nat) (C : Nat → ClassId) (ha : ginj a) (h : HS) (v1 : Int32) (v2 : Int32) (v3 : Int32) (v4 : Int32)  (r : Int32) (h' : HS) (hf : X11_keep h v1 v2 v3 v4 = some (r, h')) : gM l yX11_keep wsX11_keep rmX11_keep D a C [.ref (a 0), .int v1, .int v2, .int v3, .int v4] h (some (.int r)) h' := by
  refine g_start (av := [.ref (a 0), .int v1, .int v2, .int v3, .int v4]) (cc := cX11_keep) (maxL := 6) (rt := (some .int)) (by decide) rfl (Nat.le_of_ble_eq_true rfl) ?_
  intro p e s m below meth c hx hb hr hml hown hlk hts hP hK hN ls hl
  have hA : ∀ q, gA a q → gA a q := fun _ q => q
  have hS : va_S (gA a) s.heap s.heap [] := va_S.rf
  have hl : lv_has ls 6 [(0, .ref (a 0)), (1, .int v1), (2, .int v2), (3, .int v3), (4, .int v4)] := hl
  unfold X11_keep at hf
  refine lv_aload_n hx hb dX11_keep_0 rfl (lv_at hl 0 rfl) ?_
  refine lv_iload_n hx hb dX11_keep_1 rfl (lv_at hl 1 rfl) ?_
  obtain ⟨q1, hq1, hf⟩ := bind_s hf
  refine g_callV (As := [.int v1]) (rest := []) hx hb hml hown hts hK hN (m_X11_shelfOf l D a C ha h v1  q1 hq1) (cwV 1 hts gX11_keep_X11_shelfOf rfl rfl rfl kdX11_shelfOf ⟨Nat.le_of_ble_eq_true rfl, Nat.le_of_ble_eq_true rfl⟩) X_O rfl rfl hP hS hA rfl hl.1 rfl (Nat.le_of_ble_eq_true rfl) dX11_keep_2 ⟨Nat.le_refl _, Nat.le_refl _⟩ (fun H locs hP hS => ?_)
  rcases q1 with _ | t2
  · have hf := oM_none hf
    refine W.eq (g2 := F0 m 5 ls [.null]) rfl ?_
    refine lv_astoreN (lv' := [(5, .null), (0, .ref (a 0)), (1, .int v1), (2, .int v2), (3, .int v3), (4, .int v4)]) hx hb dX11_keep_5 hl (by decide) rfl (fun ls hl => ?_)
    refine lv_aloadN hx hb dX11_keep_7 (lv_at hl 0 rfl) ?_
    refine lv_ifnullN (tgt := 21) hx hb dX11_keep_9 (by decide) ?_
    refine lv_iconst (v := (-1)) hx hb dX11_keep_21 (by decide) ?_
    exact g_iretW hx hb hr hlk hP hS (ret2 hf) dX11_keep_22
  · have hf := oM_some hf
    have ht2 : isShf t2 := X11_shelfOf_ok hq1 t2 rfl
    refine W.eq (g2 := F0 m 5 ls [.ref (a t2)]) rfl ?_
    refine lv_astore (lv' := [(5, .ref (a t2)), (0, .ref (a 0)), (1, .int v1), (2, .int v2), (3, .int v3), (4, .int v4)]) hx hb dX11_keep_5 hl (by decide) rfl (fun ls hl => ?_)
    refine lv_aload hx hb dX11_keep_7 (lv_at hl 0 rfl) ?_
    refine lv_ifnull hx hb dX11_keep_9 ?_
    refine lv_iload_n hx hb dX11_keep_12 rfl (lv_at hl 3 rfl) ?_
    refine lv_if_lt (tgt := 21) hx hb dX11_keep_13 (by decide) (fun c3 => ?_) (fun c3 => ?_)
    · have hf := if_t hf c3
      refine lv_iconst (v := (-1)) hx hb dX11_keep_21 (by decide) ?_
      exact g_iretW hx hb hr hlk hP hS (ret2 hf) dX11_keep_22
    · have hf := if_f hf c3
      refine lv_iload_n hx hb dX11_keep_16 rfl (lv_at hl 3 rfl) ?_
      refine lv_iconst (v := 1) hx hb dX11_keep_17 (by decide) ?_
      refine lv_icmp_le (tgt := 23) hx hb dX11_keep_18 (by decide) (fun c4 => ?_) (fun c4 => ?_)
      · have hf := if_t hf c4
        refine lv_iload_n hx hb dX11_keep_23 rfl (lv_at hl 3 rfl) ?_
        refine lv_if_ne (tgt := 34) hx hb dX11_keep_24 (by decide) (fun c5 => ?_) (fun c5 => ?_)
        · have hf := if_f hf c5
          refine lv_iload_n hx hb dX11_keep_34 rfl (lv_at hl 4 rfl) ?_
          obtain ⟨q6, hq6, hf⟩ := bind_s hf
          refine g_callS (As := [.int v3]) (rest := []) hx hb hml hown hts hK hN (m_X11_isKind l D a C ha h v3  q6 hq6) (va_cwS 1 hts gX11_keep_X11_isKind rfl rfl rfl kdX11_isKind.2 ⟨Nat.le_of_ble_eq_true rfl, Nat.le_of_ble_eq_true rfl⟩) hP hS hA rfl hl.1 rfl (Nat.le_of_ble_eq_true rfl) dX11_keep_35 ⟨Nat.le_refl _, Nat.le_refl _⟩ (fun H locs hP hS => ?_)
          refine W.eq (g2 := F0 m 38 ls [.int q6]) rfl ?_
          refine lv_if_eq (tgt := 49) hx hb dX11_keep_38 (by decide) (fun c7 => ?_) (fun c7 => ?_)
          · have hf := if_t hf c7
            refine lv_iconst (v := (-1)) hx hb dX11_keep_49 (by decide) ?_
            exact g_iretW hx hb hr hlk hP hS (ret2 hf) dX11_keep_50
          · have hf := if_f hf c7
            refine lv_iload hx hb dX11_keep_41 (lv_at hl 5 rfl) ?_
            obtain ⟨q8, hq8, hf⟩ := bind_s hf
            refine g_callS (As := [.int v4]) (rest := []) hx hb hml hown hts hK hN (m_X11_isFigure l D a C ha h v4  q8 hq8) (va_cwS 1 hts gX11_keep_X11_isFigure rfl rfl rfl kdX11_isFigure.2 ⟨Nat.le_of_ble_eq_true rfl, Nat.le_of_ble_eq_true rfl⟩) hP hS hA rfl hl.1 rfl (Nat.le_of_ble_eq_true rfl) dX11_keep_43 ⟨Nat.le_refl _, Nat.le_refl _⟩ (fun H locs hP hS => ?_)
            refine W.eq (g2 := F0 m 46 ls [.int q8]) rfl ?_
            refine lv_if_ne (tgt := 51) hx hb dX11_keep_46 (by decide) (fun c9 => ?_) (fun c9 => ?_)
            · have hf := if_f hf c9
              refine lv_aload hx hb dX11_keep_51 (lv_at hl 0 rfl) ?_
              refine lv_iload_n hx hb dX11_keep_53 rfl (lv_at hl 4 rfl) ?_
              refine lv_iload hx hb dX11_keep_54 (lv_at hl 5 rfl) ?_
              obtain ⟨q10, hq10, hf⟩ := bind_s hf
              refine g_callV (As := [.int v3, .int v4]) (rest := []) hx hb hml hown hts hK hN (m_X7_holdOne l D a C ha h t2 v3 v4 ht2 q10 hq10) (cwV 2 hts gX11_keep_X7_holdOne rfl rfl rfl kdX7_holdOne ⟨Nat.le_of_ble_eq_true rfl, Nat.le_of_ble_eq_true rfl⟩) (shf_O ht2) rfl rfl hP hS hA rfl hl.1 rfl (Nat.le_of_ble_eq_true rfl) dX11_keep_56 ⟨Nat.le_refl _, Nat.le_refl _⟩ (fun H locs hP hS => ?_)
              refine W.eq (g2 := F0 m 59 ls []) rfl ?_
              refine lv_iconst (v := 0) hx hb dX11_keep_59 (by decide) ?_
              exact g_iretW hx hb hr hlk hP hS (ret2 hf) dX11_keep_60
            · have hf := if_t hf c9
              refine lv_iconst (v := (-1)) hx hb dX11_keep_49 (by decide) ?_
              exact g_iretW hx hb hr hlk hP hS (ret2 hf) dX11_keep_50
        · have hf := if_t hf c5
          refine lv_aload hx hb dX11_keep_27 (lv_at hl 0 rfl) ?_
          obtain ⟨q11, hq11, hf⟩ := bind_s hf
          refine g_callV (As := []) (rest := []) hx hb hml hown hts hK hN (m_X7_holdNothing l D a C ha h t2 ht2 q11 hq11) (cwV 0 hts gX11_keep_X7_holdNothing rfl rfl rfl kdX7_holdNothing ⟨Nat.le_of_ble_eq_true rfl, Nat.le_of_ble_eq_true rfl⟩) (shf_O ht2) rfl rfl hP hS hA rfl hl.1 rfl (Nat.le_of_ble_eq_true rfl) dX11_keep_29 ⟨Nat.le_refl _, Nat.le_refl _⟩ (fun H locs hP hS => ?_)
          refine W.eq (g2 := F0 m 32 ls []) rfl ?_
          refine lv_iconst (v := 0) hx hb dX11_keep_32 (by decide) ?_
          exact g_iretW hx hb hr hlk hP hS (ret2 hf) dX11_keep_33
      · have hf := if_f hf c4
        refine lv_iconst (v := (-1)) hx hb dX11_keep_21 (by decide) ?_
        exact g_iretW hx hb hr hlk hP hS (ret2 hf) dX11_keep_22

def X11_row (h : HS) (v1 : Int32) (v2 : Int32) (v3 : Int32) : Option (Int32 × HS) :=
    (X11_shelfOf h v1).bind fun q1 => oM q1 (
    some ((-1), h)) fun t2 =>
    (if v2 < 0 then
    some ((-1), h)
    else
    (if 3 ≤ v2 then
    some ((-1), h)
    else
    (if v3 ≤ 100 then
    (if 0 ≤ v3 then
    (X7_holdRow h t2 v2 v3).bind fun q7 =>
    some (0, q7)
    else
    some ((-14), h))
    else
    some ((-1), h))))
def rmX11_row : Room := { frames := 2, cells := 0, slots := 0, locals := 45 }
theorem kdX11_row : yX11_row.cls = RX11 ∧ yX11_row.cls ≠ "java/lang/invoke/MethodHandle" ∧ yX11_row.cls ≠ "java/lang/invoke/VarHandle" ∧ (parseMethodDescriptor yX11_row.desc).map (fun d => d.parameters.length) = some 3 := by decide +kernel
set_option maxHeartbeats 4000000 in
set_option maxRecDepth 100000 in
theorem m_X11_row (l : Launch) (D : va_G) (a : Nat → Nat) (C : Nat → ClassId) (ha : ginj a) (h : HS) (v1 : Int32) (v2 : Int32) (v3 : Int32)  (r : Int32) (h' : HS) (hf : X11_row h v1 v2 v3 = some (r, h')) : gM l yX11_row wsX11_row rmX11_row D a C [.ref (a 0), .int v1, .int v2, .int v3] h (some (.int r)) h' := by
  refine g_start (av := [.ref (a 0), .int v1, .int v2, .int v3]) (cc := cX11_row) (maxL := 5) (rt := (some .int)) (by decide) rfl (Nat.le_of_ble_eq_true rfl) ?_
  intro p e s m below meth c hx hb hr hml hown hlk hts hP hK hN ls hl
  have hA : ∀ q, gA a q → gA a q := fun _ q => q
  have hS : va_S (gA a) s.heap s.heap [] := va_S.rf
  have hl : lv_has ls 5 [(0, .ref (a 0)), (1, .int v1), (2, .int v2), (3, .int v3)] := hl
  unfold X11_row at hf
  refine lv_aload_n hx hb dX11_row_0 rfl (lv_at hl 0 rfl) ?_
  refine lv_iload_n hx hb dX11_row_1 rfl (lv_at hl 1 rfl) ?_
  obtain ⟨q1, hq1, hf⟩ := bind_s hf
  refine g_callV (As := [.int v1]) (rest := []) hx hb hml hown hts hK hN (m_X11_shelfOf l D a C ha h v1  q1 hq1) (cwV 1 hts gX11_row_X11_shelfOf rfl rfl rfl kdX11_shelfOf ⟨Nat.le_of_ble_eq_true rfl, Nat.le_of_ble_eq_true rfl⟩) X_O rfl rfl hP hS hA rfl hl.1 rfl (Nat.le_of_ble_eq_true rfl) dX11_row_2 ⟨Nat.le_refl _, Nat.le_refl _⟩ (fun H locs hP hS => ?_)
  rcases q1 with _ | t2
  · have hf := oM_none hf
    refine W.eq (g2 := F0 m 5 ls [.null]) rfl ?_
    refine lv_astoreN (lv' := [(4, .null), (0, .ref (a 0)), (1, .int v1), (2, .int v2), (3, .int v3)]) hx hb dX11_row_5 hl (by decide) rfl (fun ls hl => ?_)
    refine lv_aloadN hx hb dX11_row_7 (lv_at hl 0 rfl) ?_
    refine lv_ifnullN (tgt := 27) hx hb dX11_row_9 (by decide) ?_
    refine lv_iconst (v := (-1)) hx hb dX11_row_27 (by decide) ?_
    exact g_iretW hx hb hr hlk hP hS (ret2 hf) dX11_row_28
  · have hf := oM_some hf
    have ht2 : isShf t2 := X11_shelfOf_ok hq1 t2 rfl
    refine W.eq (g2 := F0 m 5 ls [.ref (a t2)]) rfl ?_
    refine lv_astore (lv' := [(4, .ref (a t2)), (0, .ref (a 0)), (1, .int v1), (2, .int v2), (3, .int v3)]) hx hb dX11_row_5 hl (by decide) rfl (fun ls hl => ?_)
    refine lv_aload hx hb dX11_row_7 (lv_at hl 0 rfl) ?_
    refine lv_ifnull hx hb dX11_row_9 ?_
    refine lv_iload_n hx hb dX11_row_12 rfl (lv_at hl 3 rfl) ?_
    refine lv_if_lt (tgt := 27) hx hb dX11_row_13 (by decide) (fun c3 => ?_) (fun c3 => ?_)
    · have hf := if_t hf c3
      refine lv_iconst (v := (-1)) hx hb dX11_row_27 (by decide) ?_
      exact g_iretW hx hb hr hlk hP hS (ret2 hf) dX11_row_28
    · have hf := if_f hf c3
      refine lv_iload_n hx hb dX11_row_16 rfl (lv_at hl 3 rfl) ?_
      refine lv_iconst (v := 3) hx hb dX11_row_17 (by decide) ?_
      refine lv_icmp_ge (tgt := 27) hx hb dX11_row_18 (by decide) (fun c4 => ?_) (fun c4 => ?_)
      · have hf := if_t hf c4
        refine lv_iconst (v := (-1)) hx hb dX11_row_27 (by decide) ?_
        exact g_iretW hx hb hr hlk hP hS (ret2 hf) dX11_row_28
      · have hf := if_f hf c4
        refine lv_iload_n hx hb dX11_row_21 rfl (lv_at hl 4 rfl) ?_
        refine lv_bipush (v := 100) hx hb dX11_row_22 (by decide) ?_
        refine lv_icmp_le (tgt := 29) hx hb dX11_row_24 (by decide) (fun c5 => ?_) (fun c5 => ?_)
        · have hf := if_t hf c5
          refine lv_iload_n hx hb dX11_row_29 rfl (lv_at hl 4 rfl) ?_
          refine lv_if_ge (tgt := 36) hx hb dX11_row_30 (by decide) (fun c6 => ?_) (fun c6 => ?_)
          · have hf := if_t hf c6
            refine lv_aload hx hb dX11_row_36 (lv_at hl 0 rfl) ?_
            refine lv_iload_n hx hb dX11_row_38 rfl (lv_at hl 3 rfl) ?_
            refine lv_iload_n hx hb dX11_row_39 rfl (lv_at hl 4 rfl) ?_
            obtain ⟨q7, hq7, hf⟩ := bind_s hf
            refine g_callV (As := [.int v2, .int v3]) (rest := []) hx hb hml hown hts hK hN (m_X7_holdRow l D a C ha h t2 v2 v3 ht2 q7 hq7) (cwV 2 hts gX11_row_X7_holdRow rfl rfl rfl kdX7_holdRow ⟨Nat.le_of_ble_eq_true rfl, Nat.le_of_ble_eq_true rfl⟩) (shf_O ht2) rfl rfl hP hS hA rfl hl.1 rfl (Nat.le_of_ble_eq_true rfl) dX11_row_40 ⟨Nat.le_refl _, Nat.le_refl _⟩ (fun H locs hP hS => ?_)
            refine W.eq (g2 := F0 m 43 ls []) rfl ?_
            refine lv_iconst (v := 0) hx hb dX11_row_43 (by decide) ?_
            exact g_iretW hx hb hr hlk hP hS (ret2 hf) dX11_row_44
          · have hf := if_f hf c6
            refine lv_bipush (v := (-14)) hx hb dX11_row_33 (by decide) ?_
            exact g_iretW hx hb hr hlk hP hS (ret2 hf) dX11_row_35
        · have hf := if_f hf c5
          refine lv_iconst (v := (-1)) hx hb dX11_row_27 (by decide) ?_
          exact g_iretW hx hb hr hlk hP hS (ret2 hf) dX11_row_28

def X11_put (h : HS) (v1 : Int32) (v2 : Int32) (v3 : Int32) : Option (Int32 × HS) :=
    (X11_shelfOf h v1).bind fun q1 => oM q1 (
    (X11_rowRefusal h none).bind fun q3 =>
    (if q3 = 0 then
    none
    else
    some (q3, h))) fun t2 =>
    (X11_rowRefusal h (some t2)).bind fun q5 =>
    (if q5 = 0 then
    (X7_hasPlace h t2 v2).bind fun q7 =>
    (if q7 = 0 then
    some ((-13), h)
    else
    (X7_set h t2 v2 v3).bind fun q9 =>
    some (0, q9))
    else
    some (q5, h))
def rmX11_put : Room := { frames := 2, cells := 0, slots := 0, locals := 43 }
theorem kdX11_put : yX11_put.cls = RX11 ∧ yX11_put.cls ≠ "java/lang/invoke/MethodHandle" ∧ yX11_put.cls ≠ "java/lang/invoke/VarHandle" ∧ (parseMethodDescriptor yX11_put.desc).map (fun d => d.parameters.length) = some 3 := by decide +kernel
set_option maxHeartbeats 4000000 in
set_option maxRecDepth 100000 in
theorem m_X11_put (l : Launch) (D : va_G) (a : Nat → Nat) (C : Nat → ClassId) (ha : ginj a) (h : HS) (v1 : Int32) (v2 : Int32) (v3 : Int32)  (r : Int32) (h' : HS) (hf : X11_put h v1 v2 v3 = some (r, h')) : gM l yX11_put wsX11_put rmX11_put D a C [.ref (a 0), .int v1, .int v2, .int v3] h (some (.int r)) h' := by
  refine g_start (av := [.ref (a 0), .int v1, .int v2, .int v3]) (cc := cX11_put) (maxL := 6) (rt := (some .int)) (by decide) rfl (Nat.le_of_ble_eq_true rfl) ?_
  intro p e s m below meth c hx hb hr hml hown hlk hts hP hK hN ls hl
  have hA : ∀ q, gA a q → gA a q := fun _ q => q
  have hS : va_S (gA a) s.heap s.heap [] := va_S.rf
  have hl : lv_has ls 6 [(0, .ref (a 0)), (1, .int v1), (2, .int v2), (3, .int v3)] := hl
  unfold X11_put at hf
  refine lv_aload_n hx hb dX11_put_0 rfl (lv_at hl 0 rfl) ?_
  refine lv_iload_n hx hb dX11_put_1 rfl (lv_at hl 1 rfl) ?_
  obtain ⟨q1, hq1, hf⟩ := bind_s hf
  refine g_callV (As := [.int v1]) (rest := []) hx hb hml hown hts hK hN (m_X11_shelfOf l D a C ha h v1  q1 hq1) (cwV 1 hts gX11_put_X11_shelfOf rfl rfl rfl kdX11_shelfOf ⟨Nat.le_of_ble_eq_true rfl, Nat.le_of_ble_eq_true rfl⟩) X_O rfl rfl hP hS hA rfl hl.1 rfl (Nat.le_of_ble_eq_true rfl) dX11_put_2 ⟨Nat.le_refl _, Nat.le_refl _⟩ (fun H locs hP hS => ?_)
  rcases q1 with _ | t2
  · have hf := oM_none hf
    refine W.eq (g2 := F0 m 5 ls [.null]) rfl ?_
    refine lv_astoreN (lv' := [(4, .null), (0, .ref (a 0)), (1, .int v1), (2, .int v2), (3, .int v3)]) hx hb dX11_put_5 hl (by decide) rfl (fun ls hl => ?_)
    refine lv_aloadN hx hb dX11_put_7 (lv_at hl 0 rfl) ?_
    obtain ⟨q3, hq3, hf⟩ := bind_s hf
    refine g_callS (As := [.null]) (rest := []) hx hb hml hown hts hK hN (m_X11_rowRefusal l D a C ha h none isShO_none q3 hq3) (va_cwS 1 hts gX11_put_X11_rowRefusal rfl rfl rfl kdX11_rowRefusal.2 ⟨Nat.le_of_ble_eq_true rfl, Nat.le_of_ble_eq_true rfl⟩) hP hS hA rfl hl.1 rfl (Nat.le_of_ble_eq_true rfl) dX11_put_9 ⟨Nat.le_refl _, Nat.le_refl _⟩ (fun H locs hP hS => ?_)
    refine W.eq (g2 := F0 m 12 ls [.int q3]) rfl ?_
    refine lv_istore (lv' := [(5, .int q3), (4, .null), (0, .ref (a 0)), (1, .int v1), (2, .int v2), (3, .int v3)]) hx hb dX11_put_12 hl (by decide) rfl (fun ls hl => ?_)
    refine lv_iload hx hb dX11_put_14 (lv_at hl 0 rfl) ?_
    refine lv_if_eq (tgt := 22) hx hb dX11_put_16 (by decide) (fun c4 => ?_) (fun c4 => ?_)
    · have hf := if_t hf c4
      refine lv_aloadN hx hb dX11_put_22 (lv_at hl 1 rfl) ?_
      refine lv_iload_n hx hb dX11_put_24 rfl (lv_at hl 4 rfl) ?_
      exact absurd hf (by simp)
    · have hf := if_f hf c4
      refine lv_iload hx hb dX11_put_19 (lv_at hl 0 rfl) ?_
      exact g_iretW hx hb hr hlk hP hS (ret2 hf) dX11_put_21
  · have hf := oM_some hf
    have ht2 : isShf t2 := X11_shelfOf_ok hq1 t2 rfl
    refine W.eq (g2 := F0 m 5 ls [.ref (a t2)]) rfl ?_
    refine lv_astore (lv' := [(4, .ref (a t2)), (0, .ref (a 0)), (1, .int v1), (2, .int v2), (3, .int v3)]) hx hb dX11_put_5 hl (by decide) rfl (fun ls hl => ?_)
    refine lv_aload hx hb dX11_put_7 (lv_at hl 0 rfl) ?_
    obtain ⟨q5, hq5, hf⟩ := bind_s hf
    refine g_callS (As := [.ref (a t2)]) (rest := []) hx hb hml hown hts hK hN (m_X11_rowRefusal l D a C ha h (some t2) (isShO_some ht2) q5 hq5) (va_cwS 1 hts gX11_put_X11_rowRefusal rfl rfl rfl kdX11_rowRefusal.2 ⟨Nat.le_of_ble_eq_true rfl, Nat.le_of_ble_eq_true rfl⟩) hP hS hA rfl hl.1 rfl (Nat.le_of_ble_eq_true rfl) dX11_put_9 ⟨Nat.le_refl _, Nat.le_refl _⟩ (fun H locs hP hS => ?_)
    refine W.eq (g2 := F0 m 12 ls [.int q5]) rfl ?_
    refine lv_istore (lv' := [(5, .int q5), (4, .ref (a t2)), (0, .ref (a 0)), (1, .int v1), (2, .int v2), (3, .int v3)]) hx hb dX11_put_12 hl (by decide) rfl (fun ls hl => ?_)
    refine lv_iload hx hb dX11_put_14 (lv_at hl 0 rfl) ?_
    refine lv_if_eq (tgt := 22) hx hb dX11_put_16 (by decide) (fun c6 => ?_) (fun c6 => ?_)
    · have hf := if_t hf c6
      refine lv_aload hx hb dX11_put_22 (lv_at hl 1 rfl) ?_
      refine lv_iload_n hx hb dX11_put_24 rfl (lv_at hl 4 rfl) ?_
      obtain ⟨q7, hq7, hf⟩ := bind_s hf
      refine g_callV (As := [.int v2]) (rest := []) hx hb hml hown hts hK hN (m_X7_hasPlace l D a C ha h t2 v2 ht2 q7 hq7) (cwV 1 hts gX11_put_X7_hasPlace rfl rfl rfl kdX7_hasPlace ⟨Nat.le_of_ble_eq_true rfl, Nat.le_of_ble_eq_true rfl⟩) (shf_O ht2) rfl rfl hP hS hA rfl hl.1 rfl (Nat.le_of_ble_eq_true rfl) dX11_put_25 ⟨Nat.le_refl _, Nat.le_refl _⟩ (fun H locs hP hS => ?_)
      refine W.eq (g2 := F0 m 28 ls [.int q7]) rfl ?_
      refine lv_if_ne (tgt := 34) hx hb dX11_put_28 (by decide) (fun c8 => ?_) (fun c8 => ?_)
      · have hf := if_f hf c8
        refine lv_aload hx hb dX11_put_34 (lv_at hl 1 rfl) ?_
        refine lv_iload_n hx hb dX11_put_36 rfl (lv_at hl 4 rfl) ?_
        refine lv_iload_n hx hb dX11_put_37 rfl (lv_at hl 5 rfl) ?_
        obtain ⟨q9, hq9, hf⟩ := bind_s hf
        refine g_callV (As := [.int v2, .int v3]) (rest := []) hx hb hml hown hts hK hN (m_X7_set l D a C ha h t2 v2 v3 ht2 q9 hq9) (cwV 2 hts gX11_put_X7_set rfl rfl rfl kdX7_set ⟨Nat.le_of_ble_eq_true rfl, Nat.le_of_ble_eq_true rfl⟩) (shf_O ht2) rfl rfl hP hS hA rfl hl.1 rfl (Nat.le_of_ble_eq_true rfl) dX11_put_38 ⟨Nat.le_refl _, Nat.le_refl _⟩ (fun H locs hP hS => ?_)
        refine W.eq (g2 := F0 m 41 ls []) rfl ?_
        refine lv_iconst (v := 0) hx hb dX11_put_41 (by decide) ?_
        exact g_iretW hx hb hr hlk hP hS (ret2 hf) dX11_put_42
      · have hf := if_t hf c8
        refine lv_bipush (v := (-13)) hx hb dX11_put_31 (by decide) ?_
        exact g_iretW hx hb hr hlk hP hS (ret2 hf) dX11_put_33
    · have hf := if_f hf c6
      refine lv_iload hx hb dX11_put_19 (lv_at hl 0 rfl) ?_
      exact g_iretW hx hb hr hlk hP hS (ret2 hf) dX11_put_21

def X11_copy (h : HS) (v1 : Int32) (v2 : Int32) (v3 : Int32) (v4 : Int32) (v5 : Int32) : Option (Int32 × HS) :=
    (X11_shelfOf h v1).bind fun q1 => oM q1 (
    (X11_shelfOf h v3).bind fun q3 => oM q3 (
    some ((-1), h)) fun t4 =>
    some ((-1), h)) fun t2 =>
    (X11_shelfOf h v3).bind fun q5 => oM q5 (
    some ((-1), h)) fun t6 =>
    (X7_isEmpty h t2).bind fun q7 =>
    (if q7 = 0 then
    (X7_isEmpty h t6).bind fun q9 =>
    (if q9 = 0 then
    (X7_holdsRow h t2).bind fun q11 =>
    (if q11 = 0 then
    some ((-12), h)
    else
    (X7_holdsRow h t6).bind fun q13 =>
    (if q13 = 0 then
    some ((-12), h)
    else
    (if (fI h t2 3) = (fI h t6 3) then
    (X7_hasPlaces h t2 v2 v5).bind fun q16 =>
    (if q16 = 0 then
    some ((-13), h)
    else
    (X7_hasPlaces h t6 v4 v5).bind fun q18 =>
    (if q18 = 0 then
    some ((-13), h)
    else
    gdc v2 v4 v5 100 100 <|
    nm (sA h (t6 + 1) (va_cpy (aI h (t2 + 1)) (aI h (t6 + 1)) (v2 : Int32).toNatClampNeg (v4 : Int32).toNatClampNeg (v5 : Int32).toNatClampNeg)) fun h20 =>
    some (v5, h20)))
    else
    some ((-12), h))))
    else
    some ((-11), h))
    else
    some ((-11), h))
def rmX11_copy : Room := { frames := 1, cells := 0, slots := 0, locals := 26 }
theorem kdX11_copy : yX11_copy.cls = RX11 ∧ yX11_copy.cls ≠ "java/lang/invoke/MethodHandle" ∧ yX11_copy.cls ≠ "java/lang/invoke/VarHandle" ∧ (parseMethodDescriptor yX11_copy.desc).map (fun d => d.parameters.length) = some 5 := by decide +kernel
set_option maxHeartbeats 4000000 in
set_option maxRecDepth 100000 in
theorem m_X11_copy (l : Launch) (D : va_G) (a : Nat → Nat) (C : Nat → ClassId) (ha : ginj a) (h : HS) (v1 : Int32) (v2 : Int32) (v3 : Int32) (v4 : Int32) (v5 : Int32)  (r : Int32) (h' : HS) (hf : X11_copy h v1 v2 v3 v4 v5 = some (r, h')) : gM l yX11_copy wsX11_copy rmX11_copy D a C [.ref (a 0), .int v1, .int v2, .int v3, .int v4, .int v5] h (some (.int r)) h' := by
  refine g_start (av := [.ref (a 0), .int v1, .int v2, .int v3, .int v4, .int v5]) (cc := cX11_copy) (maxL := 8) (rt := (some .int)) (by decide) rfl (Nat.le_of_ble_eq_true rfl) ?_
  intro p e s m below meth c hx hb hr hml hown hlk hts hP hK hN ls hl
  have hA : ∀ q, gA a q → gA a q := fun _ q => q
  have hS : va_S (gA a) s.heap s.heap [] := va_S.rf
  have hl : lv_has ls 8 [(0, .ref (a 0)), (1, .int v1), (2, .int v2), (3, .int v3), (4, .int v4), (5, .int v5)] := hl
  unfold X11_copy at hf
  refine lv_aload_n hx hb dX11_copy_0 rfl (lv_at hl 0 rfl) ?_
  refine lv_iload_n hx hb dX11_copy_1 rfl (lv_at hl 1 rfl) ?_
  obtain ⟨q1, hq1, hf⟩ := bind_s hf
  refine g_callV (As := [.int v1]) (rest := []) hx hb hml hown hts hK hN (m_X11_shelfOf l D a C ha h v1  q1 hq1) (cwV 1 hts gX11_copy_X11_shelfOf rfl rfl rfl kdX11_shelfOf ⟨Nat.le_of_ble_eq_true rfl, Nat.le_of_ble_eq_true rfl⟩) X_O rfl rfl hP hS hA rfl hl.1 rfl (Nat.le_of_ble_eq_true rfl) dX11_copy_2 ⟨Nat.le_refl _, Nat.le_refl _⟩ (fun H locs hP hS => ?_)
  rcases q1 with _ | t2
  · have hf := oM_none hf
    refine W.eq (g2 := F0 m 5 ls [.null]) rfl ?_
    refine lv_astoreN (lv' := [(6, .null), (0, .ref (a 0)), (1, .int v1), (2, .int v2), (3, .int v3), (4, .int v4), (5, .int v5)]) hx hb dX11_copy_5 hl (by decide) rfl (fun ls hl => ?_)
    refine lv_aload_n hx hb dX11_copy_7 rfl (lv_at hl 1 rfl) ?_
    refine lv_iload_n hx hb dX11_copy_8 rfl (lv_at hl 4 rfl) ?_
    obtain ⟨q3, hq3, hf⟩ := bind_s hf
    refine g_callV (As := [.int v3]) (rest := []) hx hb hml hown hts hK hN (m_X11_shelfOf l D a C ha h v3  q3 hq3) (cwV 1 hts gX11_copy_X11_shelfOf rfl rfl rfl kdX11_shelfOf ⟨Nat.le_of_ble_eq_true rfl, Nat.le_of_ble_eq_true rfl⟩) X_O rfl rfl hP hS hA rfl hl.1 rfl (Nat.le_of_ble_eq_true rfl) dX11_copy_9 ⟨Nat.le_refl _, Nat.le_refl _⟩ (fun H locs hP hS => ?_)
    rcases q3 with _ | t4
    · have hf := oM_none hf
      refine W.eq (g2 := F0 m 12 ls [.null]) rfl ?_
      refine lv_astoreN (lv' := [(7, .null), (6, .null), (0, .ref (a 0)), (1, .int v1), (2, .int v2), (3, .int v3), (4, .int v4), (5, .int v5)]) hx hb dX11_copy_12 hl (by decide) rfl (fun ls hl => ?_)
      refine lv_aloadN hx hb dX11_copy_14 (lv_at hl 1 rfl) ?_
      refine lv_ifnullN (tgt := 24) hx hb dX11_copy_16 (by decide) ?_
      refine lv_iconst (v := (-1)) hx hb dX11_copy_24 (by decide) ?_
      exact g_iretW hx hb hr hlk hP hS (ret2 hf) dX11_copy_25
    · have hf := oM_some hf
      have ht4 : isShf t4 := X11_shelfOf_ok hq3 t4 rfl
      refine W.eq (g2 := F0 m 12 ls [.ref (a t4)]) rfl ?_
      refine lv_astore (lv' := [(7, .ref (a t4)), (6, .null), (0, .ref (a 0)), (1, .int v1), (2, .int v2), (3, .int v3), (4, .int v4), (5, .int v5)]) hx hb dX11_copy_12 hl (by decide) rfl (fun ls hl => ?_)
      refine lv_aloadN hx hb dX11_copy_14 (lv_at hl 1 rfl) ?_
      refine lv_ifnullN (tgt := 24) hx hb dX11_copy_16 (by decide) ?_
      refine lv_iconst (v := (-1)) hx hb dX11_copy_24 (by decide) ?_
      exact g_iretW hx hb hr hlk hP hS (ret2 hf) dX11_copy_25
  · have hf := oM_some hf
    have ht2 : isShf t2 := X11_shelfOf_ok hq1 t2 rfl
    refine W.eq (g2 := F0 m 5 ls [.ref (a t2)]) rfl ?_
    refine lv_astore (lv' := [(6, .ref (a t2)), (0, .ref (a 0)), (1, .int v1), (2, .int v2), (3, .int v3), (4, .int v4), (5, .int v5)]) hx hb dX11_copy_5 hl (by decide) rfl (fun ls hl => ?_)
    refine lv_aload_n hx hb dX11_copy_7 rfl (lv_at hl 1 rfl) ?_
    refine lv_iload_n hx hb dX11_copy_8 rfl (lv_at hl 4 rfl) ?_
    obtain ⟨q5, hq5, hf⟩ := bind_s hf
    refine g_callV (As := [.int v3]) (rest := []) hx hb hml hown hts hK hN (m_X11_shelfOf l D a C ha h v3  q5 hq5) (cwV 1 hts gX11_copy_X11_shelfOf rfl rfl rfl kdX11_shelfOf ⟨Nat.le_of_ble_eq_true rfl, Nat.le_of_ble_eq_true rfl⟩) X_O rfl rfl hP hS hA rfl hl.1 rfl (Nat.le_of_ble_eq_true rfl) dX11_copy_9 ⟨Nat.le_refl _, Nat.le_refl _⟩ (fun H locs hP hS => ?_)
    rcases q5 with _ | t6
    · have hf := oM_none hf
      refine W.eq (g2 := F0 m 12 ls [.null]) rfl ?_
      refine lv_astoreN (lv' := [(7, .null), (6, .ref (a t2)), (0, .ref (a 0)), (1, .int v1), (2, .int v2), (3, .int v3), (4, .int v4), (5, .int v5)]) hx hb dX11_copy_12 hl (by decide) rfl (fun ls hl => ?_)
      refine lv_aload hx hb dX11_copy_14 (lv_at hl 1 rfl) ?_
      refine lv_ifnull hx hb dX11_copy_16 ?_
      refine lv_aloadN hx hb dX11_copy_19 (lv_at hl 0 rfl) ?_
      refine lv_ifnonnullN hx hb dX11_copy_21 ?_
      refine lv_iconst (v := (-1)) hx hb dX11_copy_24 (by decide) ?_
      exact g_iretW hx hb hr hlk hP hS (ret2 hf) dX11_copy_25
    · have hf := oM_some hf
      have ht6 : isShf t6 := X11_shelfOf_ok hq5 t6 rfl
      refine W.eq (g2 := F0 m 12 ls [.ref (a t6)]) rfl ?_
      refine lv_astore (lv' := [(7, .ref (a t6)), (6, .ref (a t2)), (0, .ref (a 0)), (1, .int v1), (2, .int v2), (3, .int v3), (4, .int v4), (5, .int v5)]) hx hb dX11_copy_12 hl (by decide) rfl (fun ls hl => ?_)
      refine lv_aload hx hb dX11_copy_14 (lv_at hl 1 rfl) ?_
      refine lv_ifnull hx hb dX11_copy_16 ?_
      refine lv_aload hx hb dX11_copy_19 (lv_at hl 0 rfl) ?_
      refine lv_ifnonnull (tgt := 26) hx hb dX11_copy_21 (by decide) ?_
      refine lv_aload hx hb dX11_copy_26 (lv_at hl 1 rfl) ?_
      obtain ⟨q7, hq7, hf⟩ := bind_s hf
      refine g_callV (As := []) (rest := []) hx hb hml hown hts hK hN (m_X7_isEmpty l D a C ha h t2 ht2 q7 hq7) (cwV 0 hts gX11_copy_X7_isEmpty rfl rfl rfl kdX7_isEmpty ⟨Nat.le_of_ble_eq_true rfl, Nat.le_of_ble_eq_true rfl⟩) (shf_O ht2) rfl rfl hP hS hA rfl hl.1 rfl (Nat.le_of_ble_eq_true rfl) dX11_copy_28 ⟨Nat.le_refl _, Nat.le_refl _⟩ (fun H locs hP hS => ?_)
      refine W.eq (g2 := F0 m 31 ls [.int q7]) rfl ?_
      refine lv_if_ne (tgt := 42) hx hb dX11_copy_31 (by decide) (fun c8 => ?_) (fun c8 => ?_)
      · have hf := if_f hf c8
        refine lv_bipush (v := (-11)) hx hb dX11_copy_42 (by decide) ?_
        exact g_iretW hx hb hr hlk hP hS (ret2 hf) dX11_copy_44
      · have hf := if_t hf c8
        refine lv_aload hx hb dX11_copy_34 (lv_at hl 0 rfl) ?_
        obtain ⟨q9, hq9, hf⟩ := bind_s hf
        refine g_callV (As := []) (rest := []) hx hb hml hown hts hK hN (m_X7_isEmpty l D a C ha h t6 ht6 q9 hq9) (cwV 0 hts gX11_copy_X7_isEmpty rfl rfl rfl kdX7_isEmpty ⟨Nat.le_of_ble_eq_true rfl, Nat.le_of_ble_eq_true rfl⟩) (shf_O ht6) rfl rfl hP hS hA rfl hl.1 rfl (Nat.le_of_ble_eq_true rfl) dX11_copy_36 ⟨Nat.le_refl _, Nat.le_refl _⟩ (fun H locs hP hS => ?_)
        refine W.eq (g2 := F0 m 39 ls [.int q9]) rfl ?_
        refine lv_if_eq (tgt := 45) hx hb dX11_copy_39 (by decide) (fun c10 => ?_) (fun c10 => ?_)
        · have hf := if_t hf c10
          refine lv_aload hx hb dX11_copy_45 (lv_at hl 1 rfl) ?_
          obtain ⟨q11, hq11, hf⟩ := bind_s hf
          refine g_callV (As := []) (rest := []) hx hb hml hown hts hK hN (m_X7_holdsRow l D a C ha h t2 ht2 q11 hq11) (cwV 0 hts gX11_copy_X7_holdsRow rfl rfl rfl kdX7_holdsRow ⟨Nat.le_of_ble_eq_true rfl, Nat.le_of_ble_eq_true rfl⟩) (shf_O ht2) rfl rfl hP hS hA rfl hl.1 rfl (Nat.le_of_ble_eq_true rfl) dX11_copy_47 ⟨Nat.le_refl _, Nat.le_refl _⟩ (fun H locs hP hS => ?_)
          refine W.eq (g2 := F0 m 50 ls [.int q11]) rfl ?_
          refine lv_if_eq (tgt := 74) hx hb dX11_copy_50 (by decide) (fun c12 => ?_) (fun c12 => ?_)
          · have hf := if_t hf c12
            refine lv_bipush (v := (-12)) hx hb dX11_copy_74 (by decide) ?_
            exact g_iretW hx hb hr hlk hP hS (ret2 hf) dX11_copy_76
          · have hf := if_f hf c12
            refine lv_aload hx hb dX11_copy_53 (lv_at hl 0 rfl) ?_
            obtain ⟨q13, hq13, hf⟩ := bind_s hf
            refine g_callV (As := []) (rest := []) hx hb hml hown hts hK hN (m_X7_holdsRow l D a C ha h t6 ht6 q13 hq13) (cwV 0 hts gX11_copy_X7_holdsRow rfl rfl rfl kdX7_holdsRow ⟨Nat.le_of_ble_eq_true rfl, Nat.le_of_ble_eq_true rfl⟩) (shf_O ht6) rfl rfl hP hS hA rfl hl.1 rfl (Nat.le_of_ble_eq_true rfl) dX11_copy_55 ⟨Nat.le_refl _, Nat.le_refl _⟩ (fun H locs hP hS => ?_)
            refine W.eq (g2 := F0 m 58 ls [.int q13]) rfl ?_
            refine lv_if_eq (tgt := 74) hx hb dX11_copy_58 (by decide) (fun c14 => ?_) (fun c14 => ?_)
            · have hf := if_t hf c14
              refine lv_bipush (v := (-12)) hx hb dX11_copy_74 (by decide) ?_
              exact g_iretW hx hb hr hlk hP hS (ret2 hf) dX11_copy_76
            · have hf := if_f hf c14
              refine lv_aload hx hb dX11_copy_61 (lv_at hl 1 rfl) ?_
              refine g_getN (Cn := RX7) (T := TX7) (N := 6) (v := .int (fI h t2 3)) (own := RX11) hx hb hown hts hK hN (shf_O ht2) rfl (fun _ hw => List.mem_cons_of_mem _ (List.mem_append_left _ (List.mem_append_right _ hw))) 3 (by decide) (List.mem_of_getElem? (i := 4) rfl) rfl rfl hP dX11_copy_63 ?_
              refine lv_aload hx hb dX11_copy_66 (lv_at hl 0 rfl) ?_
              refine g_getN (Cn := RX7) (T := TX7) (N := 6) (v := .int (fI h t6 3)) (own := RX11) hx hb hown hts hK hN (shf_O ht6) rfl (fun _ hw => List.mem_cons_of_mem _ (List.mem_append_left _ (List.mem_append_right _ hw))) 3 (by decide) (List.mem_of_getElem? (i := 4) rfl) rfl rfl hP dX11_copy_68 ?_
              refine lv_icmp_eq (tgt := 77) hx hb dX11_copy_71 (by decide) (fun c15 => ?_) (fun c15 => ?_)
              · have hf := if_t hf c15
                refine lv_aload hx hb dX11_copy_77 (lv_at hl 1 rfl) ?_
                refine lv_iload_n hx hb dX11_copy_79 rfl (lv_at hl 4 rfl) ?_
                refine lv_iload hx hb dX11_copy_80 (lv_at hl 7 rfl) ?_
                obtain ⟨q16, hq16, hf⟩ := bind_s hf
                refine g_callV (As := [.int v2, .int v5]) (rest := []) hx hb hml hown hts hK hN (m_X7_hasPlaces l D a C ha h t2 v2 v5 ht2 q16 hq16) (cwV 2 hts gX11_copy_X7_hasPlaces rfl rfl rfl kdX7_hasPlaces ⟨Nat.le_of_ble_eq_true rfl, Nat.le_of_ble_eq_true rfl⟩) (shf_O ht2) rfl rfl hP hS hA rfl hl.1 rfl (Nat.le_of_ble_eq_true rfl) dX11_copy_82 ⟨Nat.le_refl _, Nat.le_refl _⟩ (fun H locs hP hS => ?_)
                refine W.eq (g2 := F0 m 85 ls [.int q16]) rfl ?_
                refine lv_if_eq (tgt := 100) hx hb dX11_copy_85 (by decide) (fun c17 => ?_) (fun c17 => ?_)
                · have hf := if_t hf c17
                  refine lv_bipush (v := (-13)) hx hb dX11_copy_100 (by decide) ?_
                  exact g_iretW hx hb hr hlk hP hS (ret2 hf) dX11_copy_102
                · have hf := if_f hf c17
                  refine lv_aload hx hb dX11_copy_88 (lv_at hl 0 rfl) ?_
                  refine lv_iload hx hb dX11_copy_90 (lv_at hl 6 rfl) ?_
                  refine lv_iload hx hb dX11_copy_92 (lv_at hl 7 rfl) ?_
                  obtain ⟨q18, hq18, hf⟩ := bind_s hf
                  refine g_callV (As := [.int v4, .int v5]) (rest := []) hx hb hml hown hts hK hN (m_X7_hasPlaces l D a C ha h t6 v4 v5 ht6 q18 hq18) (cwV 2 hts gX11_copy_X7_hasPlaces rfl rfl rfl kdX7_hasPlaces ⟨Nat.le_of_ble_eq_true rfl, Nat.le_of_ble_eq_true rfl⟩) (shf_O ht6) rfl rfl hP hS hA rfl hl.1 rfl (Nat.le_of_ble_eq_true rfl) dX11_copy_94 ⟨Nat.le_refl _, Nat.le_refl _⟩ (fun H locs hP hS => ?_)
                  refine W.eq (g2 := F0 m 97 ls [.int q18]) rfl ?_
                  refine lv_if_ne (tgt := 103) hx hb dX11_copy_97 (by decide) (fun c19 => ?_) (fun c19 => ?_)
                  · have hf := if_f hf c19
                    refine lv_aload hx hb dX11_copy_103 (lv_at hl 1 rfl) ?_
                    refine g_getN (Cn := RX7) (T := TX7) (N := 6) (v := .ref (a (t2 + 1))) (own := RX11) hx hb hown hts hK hN (shf_O ht2) rfl (fun _ hw => List.mem_cons_of_mem _ (List.mem_append_left _ (List.mem_append_right _ hw))) 5 (by decide) (List.mem_of_getElem? (i := 5) rfl) rfl rfl hP dX11_copy_105 ?_
                    refine lv_iload_n hx hb dX11_copy_108 rfl (lv_at hl 4 rfl) ?_
                    refine lv_aload hx hb dX11_copy_109 (lv_at hl 0 rfl) ?_
                    refine g_getN (Cn := RX7) (T := TX7) (N := 6) (v := .ref (a (t6 + 1))) (own := RX11) hx hb hown hts hK hN (shf_O ht6) rfl (fun _ hw => List.mem_cons_of_mem _ (List.mem_append_left _ (List.mem_append_right _ hw))) 5 (by decide) (List.mem_of_getElem? (i := 5) rfl) rfl rfl hP dX11_copy_111 ?_
                    refine lv_iload hx hb dX11_copy_114 (lv_at hl 6 rfl) ?_
                    refine lv_iload hx hb dX11_copy_116 (lv_at hl 7 rfl) ?_
                    obtain ⟨c21, hf⟩ := gdc_s hf
                    refine g_copyI hx hb hml hl.1 hown (hts _ (List.mem_of_getElem? (i := 1) rfl)) (hts _ (List.mem_of_getElem? (i := 2) rfl)) (hts _ (List.mem_of_getElem? (i := 3) rfl)) (hts _ (List.mem_of_getElem? (i := 4) rfl)) hK ha hA (shf_el ht2) (shf_el ht6) hP hS (Nat.le_of_ble_eq_true rfl) (Nat.le_of_ble_eq_true rfl) (Nat.le_of_ble_eq_true rfl) c21 dX11_copy_118 (fun H locs hP hS => ?_)
                    obtain ⟨h20, eh20⟩ : ∃ x, x = (sA h (t6 + 1) (va_cpy (aI h (t2 + 1)) (aI h (t6 + 1)) (v2 : Int32).toNatClampNeg (v4 : Int32).toNatClampNeg (v5 : Int32).toNatClampNeg)) := ⟨_, rfl⟩
                    rw [← eh20] at hP
                    have hf := nm_s hf eh20
                    refine lv_iload hx hb dX11_copy_121 (lv_at hl 7 rfl) ?_
                    exact g_iretW hx hb hr hlk hP hS (ret2 hf) dX11_copy_123
                  · have hf := if_t hf c19
                    refine lv_bipush (v := (-13)) hx hb dX11_copy_100 (by decide) ?_
                    exact g_iretW hx hb hr hlk hP hS (ret2 hf) dX11_copy_102
              · have hf := if_f hf c15
                refine lv_bipush (v := (-12)) hx hb dX11_copy_74 (by decide) ?_
                exact g_iretW hx hb hr hlk hP hS (ret2 hf) dX11_copy_76
        · have hf := if_f hf c10
          refine lv_bipush (v := (-11)) hx hb dX11_copy_42 (by decide) ?_
          exact g_iretW hx hb hr hlk hP hS (ret2 hf) dX11_copy_44

def X11_cost (h : HS) (v1 : Int32) : Option Int32 :=
    (X11_shelfOf h v1).bind fun q1 => oM q1 (
    (X11_oneRefusal h none).bind fun q3 =>
    (if q3 = 0 then
    none
    else
    some q3)) fun t2 =>
    (X11_oneRefusal h (some t2)).bind fun q5 =>
    (if q5 = 0 then
    (X5_kindNamed h 5 (fI h t2 1)).bind fun q7 =>
    (V_price q7 (fI h t2 2)).bind fun q8 =>
    some q8
    else
    some q5)
def rmX11_cost : Room := { frames := 3, cells := 0, slots := 0, locals := 63 }
theorem kdX11_cost : yX11_cost.cls = RX11 ∧ yX11_cost.cls ≠ "java/lang/invoke/MethodHandle" ∧ yX11_cost.cls ≠ "java/lang/invoke/VarHandle" ∧ (parseMethodDescriptor yX11_cost.desc).map (fun d => d.parameters.length) = some 1 := by decide +kernel
set_option maxHeartbeats 4000000 in
set_option maxRecDepth 100000 in
theorem m_X11_cost (l : Launch) (D : va_G) (a : Nat → Nat) (C : Nat → ClassId) (ha : ginj a) (h : HS) (v1 : Int32)  (r : Int32) (hf : X11_cost h v1 = some r) : gM l yX11_cost wsX11_cost rmX11_cost D a C [.ref (a 0), .int v1] h (some (.int r)) h := by
  refine g_start (av := [.ref (a 0), .int v1]) (cc := cX11_cost) (maxL := 4) (rt := (some .int)) (by decide) rfl (Nat.le_of_ble_eq_true rfl) ?_
  intro p e s m below meth c hx hb hr hml hown hlk hts hP hK hN ls hl
  have hA : ∀ q, gA a q → gA a q := fun _ q => q
  have hS : va_S (gA a) s.heap s.heap [] := va_S.rf
  have hl : lv_has ls 4 [(0, .ref (a 0)), (1, .int v1)] := hl
  unfold X11_cost at hf
  refine lv_aload_n hx hb dX11_cost_0 rfl (lv_at hl 0 rfl) ?_
  refine lv_iload_n hx hb dX11_cost_1 rfl (lv_at hl 1 rfl) ?_
  obtain ⟨q1, hq1, hf⟩ := bind_s hf
  refine g_callV (As := [.int v1]) (rest := []) hx hb hml hown hts hK hN (m_X11_shelfOf l D a C ha h v1  q1 hq1) (cwV 1 hts gX11_cost_X11_shelfOf rfl rfl rfl kdX11_shelfOf ⟨Nat.le_of_ble_eq_true rfl, Nat.le_of_ble_eq_true rfl⟩) X_O rfl rfl hP hS hA rfl hl.1 rfl (Nat.le_of_ble_eq_true rfl) dX11_cost_2 ⟨Nat.le_refl _, Nat.le_refl _⟩ (fun H locs hP hS => ?_)
  rcases q1 with _ | t2
  · have hf := oM_none hf
    refine W.eq (g2 := F0 m 5 ls [.null]) rfl ?_
    refine lv_astore_nN (lv' := [(2, .null), (0, .ref (a 0)), (1, .int v1)]) hx hb dX11_cost_5 rfl hl (by decide) rfl (fun ls hl => ?_)
    refine lv_aload_nN hx hb dX11_cost_6 rfl (lv_at hl 0 rfl) ?_
    obtain ⟨q3, hq3, hf⟩ := bind_s hf
    refine g_callS (As := [.null]) (rest := []) hx hb hml hown hts hK hN (m_X11_oneRefusal l D a C ha h none isShO_none q3 hq3) (va_cwS 1 hts gX11_cost_X11_oneRefusal rfl rfl rfl kdX11_oneRefusal.2 ⟨Nat.le_of_ble_eq_true rfl, Nat.le_of_ble_eq_true rfl⟩) hP hS hA rfl hl.1 rfl (Nat.le_of_ble_eq_true rfl) dX11_cost_7 ⟨Nat.le_refl _, Nat.le_refl _⟩ (fun H locs hP hS => ?_)
    refine W.eq (g2 := F0 m 10 ls [.int q3]) rfl ?_
    refine lv_istore_n (lv' := [(3, .int q3), (2, .null), (0, .ref (a 0)), (1, .int v1)]) hx hb dX11_cost_10 rfl hl (by decide) rfl (fun ls hl => ?_)
    refine lv_iload_n hx hb dX11_cost_11 rfl (lv_at hl 0 rfl) ?_
    refine lv_if_eq (tgt := 19) hx hb dX11_cost_12 (by decide) (fun c4 => ?_) (fun c4 => ?_)
    · have hf := if_t hf c4
      refine lv_aload_n hx hb dX11_cost_19 rfl (lv_at hl 2 rfl) ?_
      refine g_get (Cn := RX11) (T := TX11) (N := 8) (v := .ref (a 5)) (own := RX11) hx hb hown hts hK X_O rfl (fun _ hw => List.mem_cons_of_mem _ (List.mem_append_left _ (List.mem_append_left _ (List.mem_append_right _ hw)))) 0 (by decide) (List.mem_of_getElem? (i := 1) rfl) rfl rfl hP dX11_cost_20 ?_
      refine lv_aload_nN hx hb dX11_cost_23 rfl (lv_at hl 1 rfl) ?_
      exact absurd hf (by simp)
    · have hf := if_f hf c4
      refine lv_iload_n hx hb dX11_cost_15 rfl (lv_at hl 0 rfl) ?_
      refine lv_goto (tgt := 37) hx hb dX11_cost_16 (by decide) ?_
      exact g_iret hx hb hr hlk hP hS (ret1 hf) dX11_cost_37
  · have hf := oM_some hf
    have ht2 : isShf t2 := X11_shelfOf_ok hq1 t2 rfl
    refine W.eq (g2 := F0 m 5 ls [.ref (a t2)]) rfl ?_
    refine lv_astore_n (lv' := [(2, .ref (a t2)), (0, .ref (a 0)), (1, .int v1)]) hx hb dX11_cost_5 rfl hl (by decide) rfl (fun ls hl => ?_)
    refine lv_aload_n hx hb dX11_cost_6 rfl (lv_at hl 0 rfl) ?_
    obtain ⟨q5, hq5, hf⟩ := bind_s hf
    refine g_callS (As := [.ref (a t2)]) (rest := []) hx hb hml hown hts hK hN (m_X11_oneRefusal l D a C ha h (some t2) (isShO_some ht2) q5 hq5) (va_cwS 1 hts gX11_cost_X11_oneRefusal rfl rfl rfl kdX11_oneRefusal.2 ⟨Nat.le_of_ble_eq_true rfl, Nat.le_of_ble_eq_true rfl⟩) hP hS hA rfl hl.1 rfl (Nat.le_of_ble_eq_true rfl) dX11_cost_7 ⟨Nat.le_refl _, Nat.le_refl _⟩ (fun H locs hP hS => ?_)
    refine W.eq (g2 := F0 m 10 ls [.int q5]) rfl ?_
    refine lv_istore_n (lv' := [(3, .int q5), (2, .ref (a t2)), (0, .ref (a 0)), (1, .int v1)]) hx hb dX11_cost_10 rfl hl (by decide) rfl (fun ls hl => ?_)
    refine lv_iload_n hx hb dX11_cost_11 rfl (lv_at hl 0 rfl) ?_
    refine lv_if_eq (tgt := 19) hx hb dX11_cost_12 (by decide) (fun c6 => ?_) (fun c6 => ?_)
    · have hf := if_t hf c6
      refine lv_aload_n hx hb dX11_cost_19 rfl (lv_at hl 2 rfl) ?_
      refine g_get (Cn := RX11) (T := TX11) (N := 8) (v := .ref (a 5)) (own := RX11) hx hb hown hts hK X_O rfl (fun _ hw => List.mem_cons_of_mem _ (List.mem_append_left _ (List.mem_append_left _ (List.mem_append_right _ hw)))) 0 (by decide) (List.mem_of_getElem? (i := 1) rfl) rfl rfl hP dX11_cost_20 ?_
      refine lv_aload_n hx hb dX11_cost_23 rfl (lv_at hl 1 rfl) ?_
      refine g_getN (Cn := RX7) (T := TX7) (N := 6) (v := .int (fI h t2 1)) (own := RX11) hx hb hown hts hK hN (shf_O ht2) rfl (fun _ hw => List.mem_cons_of_mem _ (List.mem_append_left _ (List.mem_append_right _ hw))) 1 (by decide) (List.mem_of_getElem? (i := 1) rfl) rfl rfl hP dX11_cost_24 ?_
      obtain ⟨q7, hq7, hf⟩ := bind_s hf
      refine g_callV (As := [.int (fI h t2 1)]) (rest := []) hx hb hml hown hts hK hN (m_X5_kindNamed l D a C ha h 5 (fI h t2 1) isPar5 q7 hq7) (cwV 1 hts gX11_cost_X5_kindNamed rfl rfl rfl kdX5_kindNamed ⟨Nat.le_of_ble_eq_true rfl, Nat.le_of_ble_eq_true rfl⟩) (par_O isPar5) rfl rfl hP hS hA rfl hl.1 rfl (Nat.le_of_ble_eq_true rfl) dX11_cost_27 ⟨Nat.le_refl _, Nat.le_refl _⟩ (fun H locs hP hS => ?_)
      refine W.eq (g2 := F0 m 30 ls [.ref (a q7)]) rfl ?_
      refine lv_aload_n hx hb dX11_cost_30 rfl (lv_at hl 1 rfl) ?_
      refine g_getN (Cn := RX7) (T := TX7) (N := 6) (v := .int (fI h t2 2)) (own := RX11) hx hb hown hts hK hN (shf_O ht2) rfl (fun _ hw => List.mem_cons_of_mem _ (List.mem_append_left _ (List.mem_append_right _ hw))) 2 (by decide) (List.mem_of_getElem? (i := 2) rfl) rfl rfl hP dX11_cost_31 ?_
      obtain ⟨q8, hq8, hf⟩ := bind_s hf
      have kk : ∀ (H : Heap) (locs : List Loc), va_P D vwCl (gw a C h) H → va_S (gA a) s.heap H locs → W p l e (headSpec wsX11_cost rmX11_cost).room s m ([.ref (a 0), .int v1] : List Value).toArray below meth c H locs 0 0 (MQ below (gQ (some (.int r)) D a C h) ([.ref (a 0), .int v1] : List Value).toArray s 0 0 (gA a)) (F0 m 37 ls [.int q8]) := by
        intro H locs hP hS
        exact g_iret hx hb hr hlk hP hS (ret1 hf) dX11_cost_37
      have hper := knd_per (X5_kindNamed_ok isPar5 hq7)
      rcases V_price_cases hper hq8 with ⟨ho, hv⟩ | ⟨ho, hv⟩ | ⟨ho, hv⟩ | ⟨ho, hv⟩ | ⟨ho, hv⟩ | ⟨ho, hv⟩ | ⟨ho, hv⟩ | ⟨ho, hv⟩
      · exact g_callV (As := [.int (fI h t2 2)]) (rest := []) hx hb hml hown hts hK hN (m_X6_price l D a C ha h q7 hper (fI h t2 2) q8 hv) (cwV 1 hts gX11_cost_X6_price rfl rfl rfl kdX6_price ⟨Nat.le_of_ble_eq_true rfl, Nat.le_of_ble_eq_true rfl⟩) ho rfl rfl hP hS hA rfl hl.1 rfl (Nat.le_of_ble_eq_true rfl) dX11_cost_34 ⟨Nat.le_refl _, Nat.le_refl _⟩ kk
      · exact g_callU (As := [.int (fI h t2 2)]) (rest := []) hx hb hml hown hts hK hN (m_X8_price l D a C ha h q7 hper (fI h t2 2) q8 hv) (va_cwO 1 hts gX11_cost_X8_price_u313X8 rfl rfl rfl (List.mem_of_getElem? (i := 34) rfl) kvprice ⟨Nat.le_of_ble_eq_true rfl, Nat.le_of_ble_eq_true rfl⟩) ho rfl rfl hP hS hA rfl hl.1 rfl (Nat.le_of_ble_eq_true rfl) dX11_cost_34 ⟨Nat.le_refl _, Nat.le_refl _⟩ kk
      · exact g_callU (As := [.int (fI h t2 2)]) (rest := []) hx hb hml hown hts hK hN (m_X2_price l D a C ha h q7 hper (fI h t2 2) q8 hv) (va_cwO 1 hts gX11_cost_X2_price_u313X2 rfl rfl rfl (List.mem_of_getElem? (i := 34) rfl) kvprice ⟨Nat.le_of_ble_eq_true rfl, Nat.le_of_ble_eq_true rfl⟩) ho rfl rfl hP hS hA rfl hl.1 rfl (Nat.le_of_ble_eq_true rfl) dX11_cost_34 ⟨Nat.le_refl _, Nat.le_refl _⟩ kk
      · exact g_callU (As := [.int (fI h t2 2)]) (rest := []) hx hb hml hown hts hK hN (m_X3_price l D a C ha h q7 hper (fI h t2 2) q8 hv) (va_cwO 1 hts gX11_cost_X3_price_u313X3 rfl rfl rfl (List.mem_of_getElem? (i := 34) rfl) kvprice ⟨Nat.le_of_ble_eq_true rfl, Nat.le_of_ble_eq_true rfl⟩) ho rfl rfl hP hS hA rfl hl.1 rfl (Nat.le_of_ble_eq_true rfl) dX11_cost_34 ⟨Nat.le_refl _, Nat.le_refl _⟩ kk
      · exact g_callU (As := [.int (fI h t2 2)]) (rest := []) hx hb hml hown hts hK hN (m_X10_price l D a C ha h q7 hper (fI h t2 2) q8 hv) (va_cwO 1 hts gX11_cost_X10_price_u313X10 rfl rfl rfl (List.mem_of_getElem? (i := 34) rfl) kvprice ⟨Nat.le_of_ble_eq_true rfl, Nat.le_of_ble_eq_true rfl⟩) ho rfl rfl hP hS hA rfl hl.1 rfl (Nat.le_of_ble_eq_true rfl) dX11_cost_34 ⟨Nat.le_refl _, Nat.le_refl _⟩ kk
      · exact g_callU (As := [.int (fI h t2 2)]) (rest := []) hx hb hml hown hts hK hN (m_X9_price l D a C ha h q7 hper (fI h t2 2) q8 hv) (va_cwO 1 hts gX11_cost_X9_price_u313X9 rfl rfl rfl (List.mem_of_getElem? (i := 34) rfl) kvprice ⟨Nat.le_of_ble_eq_true rfl, Nat.le_of_ble_eq_true rfl⟩) ho rfl rfl hP hS hA rfl hl.1 rfl (Nat.le_of_ble_eq_true rfl) dX11_cost_34 ⟨Nat.le_refl _, Nat.le_refl _⟩ kk
      · exact g_callU (As := [.int (fI h t2 2)]) (rest := []) hx hb hml hown hts hK hN (m_X0_price l D a C ha h q7 hper (fI h t2 2) q8 hv) (va_cwO 1 hts gX11_cost_X0_price_u313X0 rfl rfl rfl (List.mem_of_getElem? (i := 34) rfl) kvprice ⟨Nat.le_of_ble_eq_true rfl, Nat.le_of_ble_eq_true rfl⟩) ho rfl rfl hP hS hA rfl hl.1 rfl (Nat.le_of_ble_eq_true rfl) dX11_cost_34 ⟨Nat.le_refl _, Nat.le_refl _⟩ kk
      · exact g_callU (As := [.int (fI h t2 2)]) (rest := []) hx hb hml hown hts hK hN (m_X3_price l D a C ha h q7 hper (fI h t2 2) q8 hv) (va_cwO 1 hts gX11_cost_X3_price_u313X1 rfl rfl rfl (List.mem_of_getElem? (i := 34) rfl) kvprice ⟨Nat.le_of_ble_eq_true rfl, Nat.le_of_ble_eq_true rfl⟩) ho rfl rfl hP hS hA rfl hl.1 rfl (Nat.le_of_ble_eq_true rfl) dX11_cost_34 ⟨Nat.le_refl _, Nat.le_refl _⟩ kk
    · have hf := if_f hf c6
      refine lv_iload_n hx hb dX11_cost_15 rfl (lv_at hl 0 rfl) ?_
      refine lv_goto (tgt := 37) hx hb dX11_cost_16 (by decide) ?_
      exact g_iret hx hb hr hlk hP hS (ret1 hf) dX11_cost_37

