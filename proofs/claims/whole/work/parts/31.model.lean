def X12_isIn (v0 : Int32) (v1 : Int32) (v2 : Int32) : Option Int32 :=
    (if v0 < v1 then
    some 0
    else
    (if v2 < v0 then
    some 0
    else
    some 1))
def uX12_isIn : List Cond := .code yX12_isIn cX12_isIn 3 (some .boolean) :: UU
def rmX12_isIn : Room := { frames := 0, cells := 0, slots := 0, locals := 0 }
theorem kdX12_isIn : yX12_isIn.cls = RX12 ∧ yX12_isIn.cls ≠ "java/lang/invoke/MethodHandle" ∧ yX12_isIn.cls ≠ "java/lang/invoke/VarHandle" ∧ (parseMethodDescriptor yX12_isIn.desc).map (fun d => d.parameters.length) = some 3 := by decide +kernel
set_option maxHeartbeats 4000000 in
set_option maxRecDepth 100000 in
theorem m_X12_isIn (l : Launch) (D : va_G) (a : Nat → Nat) (C : Nat → ClassId) (ha : ginj a) (h : HS) (v0 : Int32) (v1 : Int32) (v2 : Int32)  (r : Int32) (hf : X12_isIn v0 v1 v2 = some r) : gM l yX12_isIn uX12_isIn rmX12_isIn D a C [.int v0, .int v1, .int v2] h (some (.int r)) h := by
  refine g_start (av := [.int v0, .int v1, .int v2]) (cc := cX12_isIn) (maxL := 3) (rt := (some .boolean)) (by decide) rfl (Nat.le_of_ble_eq_true rfl) ?_
  intro p e s m below meth c hx hb hr hml hown hlk hts hP hK hN ls hl
  have hA : ∀ q, gA a q → gA a q := fun _ q => q
  have hS : va_S (gA a) s.heap s.heap [] := va_S.rf
  have hl : lv_has ls 3 [(0, .int v0), (1, .int v1), (2, .int v2)] := hl
  unfold X12_isIn at hf
  refine lv_iload_n hx hb dX12_isIn_0 rfl (lv_at hl 0 rfl) ?_
  refine lv_iload_n hx hb dX12_isIn_1 rfl (lv_at hl 1 rfl) ?_
  refine lv_icmp_lt (tgt := 14) hx hb dX12_isIn_2 (by decide) (fun c1 => ?_) (fun c1 => ?_)
  · have hf := if_t hf c1
    refine lv_iconst (v := 0) hx hb dX12_isIn_14 (by decide) ?_
    exact g_zret hx hb hr hlk (by decide) hP hS (ret1 hf) dX12_isIn_15
  · have hf := if_f hf c1
    refine lv_iload_n hx hb dX12_isIn_5 rfl (lv_at hl 0 rfl) ?_
    refine lv_iload_n hx hb dX12_isIn_6 rfl (lv_at hl 2 rfl) ?_
    refine lv_icmp_gt (tgt := 14) hx hb dX12_isIn_7 (by decide) (fun c2 => ?_) (fun c2 => ?_)
    · have hf := if_t hf c2
      refine lv_iconst (v := 0) hx hb dX12_isIn_14 (by decide) ?_
      exact g_zret hx hb hr hlk (by decide) hP hS (ret1 hf) dX12_isIn_15
    · have hf := if_f hf c2
      refine lv_iconst (v := 1) hx hb dX12_isIn_10 (by decide) ?_
      refine lv_goto (tgt := 15) hx hb dX12_isIn_11 (by decide) ?_
      exact g_zret hx hb hr hlk (by decide) hP hS (ret1 hf) dX12_isIn_15

def X12_copies_B2 (v0 : Nat) (v1 : Nat) : Nat → Int32 → HS → Option HS
  | 0, _, _ => none
  | fu + 1, v2, h =>
    (if 30 ≤ v2 then
    some h
    else
    gdi v2 30 <|
    gdi v2 30 <|
    nm (sA h v1 (upd (aI h v1) v2.toNatClampNeg (aI h v0 v2.toNatClampNeg))) fun h3 =>
    nm (v2 + 1) fun x5 =>
    (X12_copies_B2 v0 v1 fu) x5 h3)
def X12_copies (h : HS) (v0 : Nat) (v1 : Nat) : Option HS :=
    X12_copies_B2 v0 v1 FU 0 h
def uX12_copies : List Cond := .code yX12_copies cX12_copies 3 none :: UU
def rmX12_copies : Room := { frames := 0, cells := 0, slots := 0, locals := 0 }
theorem kdX12_copies : yX12_copies.cls = RX12 ∧ yX12_copies.cls ≠ "java/lang/invoke/MethodHandle" ∧ yX12_copies.cls ≠ "java/lang/invoke/VarHandle" ∧ (parseMethodDescriptor yX12_copies.desc).map (fun d => d.parameters.length) = some 2 := by decide +kernel
set_option maxHeartbeats 4000000 in
set_option maxRecDepth 100000 in
theorem m_X12_copies (l : Launch) (D : va_G) (a : Nat → Nat) (C : Nat → ClassId) (ha : ginj a) (h : HS) (v0 : Nat) (v1 : Nat) (hv0 : isRow v0) (hv1 : isRow v1) (h' : HS) (hf : X12_copies h v0 v1 = some h') : gM l yX12_copies uX12_copies rmX12_copies D a C [.ref (a v0), .ref (a v1)] h none h' := by
  refine g_start (av := [.ref (a v0), .ref (a v1)]) (cc := cX12_copies) (maxL := 3) (rt := none) (by decide) rfl (Nat.le_of_ble_eq_true rfl) ?_
  intro p e s m below meth c hx hb hr hml hown hlk hts hP hK hN ls hl
  have hA : ∀ q, gA a q → gA a q := fun _ q => q
  have hS : va_S (gA a) s.heap s.heap [] := va_S.rf
  have hl : lv_has ls 3 [(0, .ref (a v0)), (1, .ref (a v1))] := hl
  have J2 : ∀ (fu : Nat) (v2 : Int32) (h : HS), X12_copies_B2 v0 v1 fu v2 h = some h' → gG p l e (headSpec uX12_copies rmX12_copies).room s m ([.ref (a v0), .ref (a v1)] : List Value).toArray below meth c (MQ below (gQ none D a C h') ([.ref (a v0), .ref (a v1)] : List Value).toArray s 0 0 (gA a)) D a C 3 h 2 [(0, .ref (a v0)), (1, .ref (a v1)), (2, .int v2)] [] := by
    intro fu
    induction fu with
    | zero => intro v2 h hf; exact absurd hf (by simp [X12_copies_B2])
    | succ fu ih =>
      intro v2 h hf H locs ls hP hS hl
      rw [X12_copies_B2] at hf
      refine lv_iload_n hx hb dX12_copies_2 rfl (lv_at hl 2 rfl) ?_
      refine lv_bipush (v := 30) hx hb dX12_copies_3 (by decide) ?_
      refine lv_icmp_ge (tgt := 20) hx hb dX12_copies_5 (by decide) (fun c1 => ?_) (fun c1 => ?_)
      · have hf := if_t hf c1
        exact g_vret hx hb hr hlk hP hS (ret1 hf) dX12_copies_20
      · have hf := if_f hf c1
        refine lv_aload_n hx hb dX12_copies_8 rfl (lv_at hl 1 rfl) ?_
        refine lv_iload_n hx hb dX12_copies_9 rfl (lv_at hl 2 rfl) ?_
        refine lv_aload_n hx hb dX12_copies_10 rfl (lv_at hl 0 rfl) ?_
        refine lv_iload_n hx hb dX12_copies_11 rfl (lv_at hl 2 rfl) ?_
        obtain ⟨c2, hf⟩ := gdi_s hf
        refine g_ial hx hb hK (row_A hv0) c2 hP dX12_copies_12 ?_
        obtain ⟨c4, hf⟩ := gdi_s hf
        refine g_ias hx hb hK ha hA (row_A hv1) c4 hP hS dX12_copies_13 (fun H locs hP hS => ?_)
        obtain ⟨h3, eh3⟩ : ∃ x, x = (sA h v1 (upd (aI h v1) v2.toNatClampNeg (aI h v0 v2.toNatClampNeg))) := ⟨_, rfl⟩
        rw [← eh3] at hP
        have hf := nm_s hf eh3
        obtain ⟨x5, ex5⟩ : ∃ y : Int32, y = (v2 + 1) := ⟨_, rfl⟩
        have hf := nm_s hf ex5
        refine lv_iinc (v := x5) (lv' := [(2, .int x5), (0, .ref (a v0)), (1, .ref (a v1))]) hx hb dX12_copies_14 hl (k := 2) rfl (by rw [ex5]; rfl) (by decide) rfl (fun ls hl => ?_)
        refine lv_goto (tgt := 2) hx hb dX12_copies_17 (by decide) ?_
        exact ih x5 h3 hf H locs ls hP hS (lv_sub hl [1, 2, 0] rfl)
  unfold X12_copies at hf
  suffices hh : ∀ (H : Heap) (locs : List Loc), va_P D vwCl (gw a C h) H → va_S (gA a) s.heap H locs → W p l e (headSpec uX12_copies rmX12_copies).room s m ([.ref (a v0), .ref (a v1)] : List Value).toArray below meth c H locs 0 0 (MQ below (gQ none D a C h') ([.ref (a v0), .ref (a v1)] : List Value).toArray s 0 0 (gA a)) (F0 m 0 ls []) from hh _ _ hP hS
  intro H locs hP hS
  refine lv_iconst (v := 0) hx hb dX12_copies_0 (by decide) ?_
  refine lv_istore_n (lv' := [(2, .int 0), (0, .ref (a v0)), (1, .ref (a v1))]) hx hb dX12_copies_1 rfl hl (by decide) rfl (fun ls hl => ?_)
  exact J2 FU 0 h hf H locs ls hP hS (lv_sub hl [1, 2, 0] rfl)

def X12_of (v0 : Int32) (v1 : Int32) : Option Int32 :=
    some ((3 + (3 * v0)) + v1)
def uX12_of : List Cond := .code yX12_of cX12_of 2 (some .int) :: UU
def rmX12_of : Room := { frames := 0, cells := 0, slots := 0, locals := 0 }
theorem kdX12_of : yX12_of.cls = RX12 ∧ yX12_of.cls ≠ "java/lang/invoke/MethodHandle" ∧ yX12_of.cls ≠ "java/lang/invoke/VarHandle" ∧ (parseMethodDescriptor yX12_of.desc).map (fun d => d.parameters.length) = some 2 := by decide +kernel
set_option maxHeartbeats 4000000 in
set_option maxRecDepth 100000 in
theorem m_X12_of (l : Launch) (D : va_G) (a : Nat → Nat) (C : Nat → ClassId) (ha : ginj a) (h : HS) (v0 : Int32) (v1 : Int32)  (r : Int32) (hf : X12_of v0 v1 = some r) : gM l yX12_of uX12_of rmX12_of D a C [.int v0, .int v1] h (some (.int r)) h := by
  refine g_start (av := [.int v0, .int v1]) (cc := cX12_of) (maxL := 2) (rt := (some .int)) (by decide) rfl (Nat.le_of_ble_eq_true rfl) ?_
  intro p e s m below meth c hx hb hr hml hown hlk hts hP hK hN ls hl
  have hA : ∀ q, gA a q → gA a q := fun _ q => q
  have hS : va_S (gA a) s.heap s.heap [] := va_S.rf
  have hl : lv_has ls 2 [(0, .int v0), (1, .int v1)] := hl
  unfold X12_of at hf
  refine lv_iconst (v := 3) hx hb dX12_of_0 (by decide) ?_
  refine lv_iconst (v := 3) hx hb dX12_of_1 (by decide) ?_
  refine lv_iload_n hx hb dX12_of_2 rfl (lv_at hl 0 rfl) ?_
  refine lv_imul hx hb dX12_of_3 ?_
  refine lv_iadd hx hb dX12_of_4 ?_
  refine lv_iload_n hx hb dX12_of_5 rfl (lv_at hl 1 rfl) ?_
  refine lv_iadd hx hb dX12_of_6 ?_
  exact g_iret hx hb hr hlk hP hS (ret1 hf) dX12_of_7

def X12_isOne (h : HS) (v1 : Int32) : Option Int32 :=
    gdi 0 30 <|
    (X12_isIn v1 0 ((aI h 67 (0 : Int32).toNatClampNeg) - 1)).bind fun q2 =>
    gdb q2 <|
    some q2
def uX12_isOne : List Cond := .code yX12_isOne cX12_isOne 2 (some .boolean) :: UU
def rmX12_isOne : Room := { frames := 1, cells := 0, slots := 0, locals := 22 }
theorem kdX12_isOne : yX12_isOne.cls = RX12 ∧ yX12_isOne.cls ≠ "java/lang/invoke/MethodHandle" ∧ yX12_isOne.cls ≠ "java/lang/invoke/VarHandle" ∧ (parseMethodDescriptor yX12_isOne.desc).map (fun d => d.parameters.length) = some 1 := by decide +kernel
set_option maxHeartbeats 4000000 in
set_option maxRecDepth 100000 in
theorem m_X12_isOne (l : Launch) (D : va_G) (a : Nat → Nat) (C : Nat → ClassId) (ha : ginj a) (h : HS) (v1 : Int32)  (r : Int32) (hf : X12_isOne h v1 = some r) : gM l yX12_isOne uX12_isOne rmX12_isOne D a C [.ref (a 66), .int v1] h (some (.int r)) h := by
  refine g_start (av := [.ref (a 66), .int v1]) (cc := cX12_isOne) (maxL := 2) (rt := (some .boolean)) (by decide) rfl (Nat.le_of_ble_eq_true rfl) ?_
  intro p e s m below meth c hx hb hr hml hown hlk hts hP hK hN ls hl
  have hA : ∀ q, gA a q → gA a q := fun _ q => q
  have hS : va_S (gA a) s.heap s.heap [] := va_S.rf
  have hl : lv_has ls 2 [(0, .ref (a 66)), (1, .int v1)] := hl
  unfold X12_isOne at hf
  refine lv_iload_n hx hb dX12_isOne_0 rfl (lv_at hl 1 rfl) ?_
  refine lv_iconst (v := 0) hx hb dX12_isOne_1 (by decide) ?_
  refine lv_aload_n hx hb dX12_isOne_2 rfl (lv_at hl 0 rfl) ?_
  refine g_get (Cn := RX12) (T := TX12) (N := 21) (v := .ref (a 67)) (own := RX12) hx hb hown hts hK M_O rfl (fun _ hw => List.mem_cons_of_mem _ (u12_cls _ hw)) 0 (by decide) (List.mem_cons_of_mem _ (u12_0 _ (List.mem_of_getElem? (i := 5) rfl))) rfl rfl hP dX12_isOne_3 ?_
  refine lv_iconst (v := 0) hx hb dX12_isOne_6 (by decide) ?_
  obtain ⟨c1, hf⟩ := gdi_s hf
  refine g_ial hx hb hK (⟨by decide, rfl⟩ : gAI 67 30) c1 hP dX12_isOne_7 ?_
  refine lv_iconst (v := 1) hx hb dX12_isOne_8 (by decide) ?_
  refine lv_isub hx hb dX12_isOne_9 ?_
  obtain ⟨q2, hq2, hf⟩ := bind_s hf
  refine g_callS (As := [.int v1, .int 0, .int ((aI h 67 (0 : Int32).toNatClampNeg) - 1)]) (rest := []) hx hb hml hown hts hK hN (m_X12_isIn l D a C ha h v1 0 ((aI h 67 (0 : Int32).toNatClampNeg) - 1)  q2 hq2) (va_cwS 3 hts (gUS (u12_1 _ (List.mem_of_getElem? (i := 5) rfl)) (u12_1 _ (List.mem_of_getElem? (i := 6) rfl)) (u12_1 _ (List.mem_of_getElem? (i := 7) rfl)) (u12_1 _ (List.mem_of_getElem? (i := 1) rfl))) rfl rfl rfl kdX12_isIn.2 ⟨Nat.le_of_ble_eq_true rfl, Nat.le_of_ble_eq_true rfl⟩) hP hS hA rfl hl.1 rfl (Nat.le_of_ble_eq_true rfl) dX12_isOne_10 ⟨Nat.le_refl _, Nat.le_refl _⟩ (fun H locs hP hS => ?_)
  refine W.eq (g2 := F0 m 13 ls [.int q2]) rfl ?_
  obtain ⟨cz, hf⟩ := gdb_s hf
  exact g_zret hx hb hr hlk cz hP hS (ret1 hf) dX12_isOne_13

def X12_areTwo (h : HS) (v1 : Int32) (v2 : Int32) : Option Int32 :=
    (X12_isOne h v1).bind fun q1 =>
    (if q1 = 0 then
    some 0
    else
    (X12_isOne h v2).bind fun q3 =>
    (if q3 = 0 then
    some 0
    else
    (if v1 = v2 then
    some 0
    else
    some 1)))
def uX12_areTwo : List Cond := .code yX12_areTwo cX12_areTwo 3 (some .boolean) :: UU
def rmX12_areTwo : Room := { frames := 2, cells := 0, slots := 0, locals := 43 }
theorem kdX12_areTwo : yX12_areTwo.cls = RX12 ∧ yX12_areTwo.cls ≠ "java/lang/invoke/MethodHandle" ∧ yX12_areTwo.cls ≠ "java/lang/invoke/VarHandle" ∧ (parseMethodDescriptor yX12_areTwo.desc).map (fun d => d.parameters.length) = some 2 := by decide +kernel
set_option maxHeartbeats 4000000 in
set_option maxRecDepth 100000 in
theorem m_X12_areTwo (l : Launch) (D : va_G) (a : Nat → Nat) (C : Nat → ClassId) (ha : ginj a) (h : HS) (v1 : Int32) (v2 : Int32)  (r : Int32) (hf : X12_areTwo h v1 v2 = some r) : gM l yX12_areTwo uX12_areTwo rmX12_areTwo D a C [.ref (a 66), .int v1, .int v2] h (some (.int r)) h := by
  refine g_start (av := [.ref (a 66), .int v1, .int v2]) (cc := cX12_areTwo) (maxL := 3) (rt := (some .boolean)) (by decide) rfl (Nat.le_of_ble_eq_true rfl) ?_
  intro p e s m below meth c hx hb hr hml hown hlk hts hP hK hN ls hl
  have hA : ∀ q, gA a q → gA a q := fun _ q => q
  have hS : va_S (gA a) s.heap s.heap [] := va_S.rf
  have hl : lv_has ls 3 [(0, .ref (a 66)), (1, .int v1), (2, .int v2)] := hl
  unfold X12_areTwo at hf
  refine lv_aload_n hx hb dX12_areTwo_0 rfl (lv_at hl 0 rfl) ?_
  refine lv_iload_n hx hb dX12_areTwo_1 rfl (lv_at hl 1 rfl) ?_
  obtain ⟨q1, hq1, hf⟩ := bind_s hf
  refine g_callV (As := [.int v1]) (rest := []) hx hb hml hown hts hK hN (m_X12_isOne l D a C ha h v1  q1 hq1) (cwV 1 hts (gUV (u12_1 _ (List.mem_of_getElem? (i := 9) rfl)) (u12_1 _ (List.mem_of_getElem? (i := 10) rfl)) (u12_1 _ (List.mem_of_getElem? (i := 11) rfl)) (u12_1 _ (List.mem_of_getElem? (i := 7) rfl)) (u12_1 _ (List.mem_of_getElem? (i := 4) rfl))) rfl rfl rfl kdX12_isOne ⟨Nat.le_of_ble_eq_true rfl, Nat.le_of_ble_eq_true rfl⟩) M_O rfl rfl hP hS hA rfl hl.1 rfl (Nat.le_of_ble_eq_true rfl) dX12_areTwo_2 ⟨Nat.le_refl _, Nat.le_refl _⟩ (fun H locs hP hS => ?_)
  refine W.eq (g2 := F0 m 5 ls [.int q1]) rfl ?_
  refine lv_if_eq (tgt := 25) hx hb dX12_areTwo_5 (by decide) (fun c2 => ?_) (fun c2 => ?_)
  · have hf := if_t hf c2
    refine lv_iconst (v := 0) hx hb dX12_areTwo_25 (by decide) ?_
    exact g_zret hx hb hr hlk (by decide) hP hS (ret1 hf) dX12_areTwo_26
  · have hf := if_f hf c2
    refine lv_aload_n hx hb dX12_areTwo_8 rfl (lv_at hl 0 rfl) ?_
    refine lv_iload_n hx hb dX12_areTwo_9 rfl (lv_at hl 2 rfl) ?_
    obtain ⟨q3, hq3, hf⟩ := bind_s hf
    refine g_callV (As := [.int v2]) (rest := []) hx hb hml hown hts hK hN (m_X12_isOne l D a C ha h v2  q3 hq3) (cwV 1 hts (gUV (u12_1 _ (List.mem_of_getElem? (i := 9) rfl)) (u12_1 _ (List.mem_of_getElem? (i := 10) rfl)) (u12_1 _ (List.mem_of_getElem? (i := 11) rfl)) (u12_1 _ (List.mem_of_getElem? (i := 7) rfl)) (u12_1 _ (List.mem_of_getElem? (i := 4) rfl))) rfl rfl rfl kdX12_isOne ⟨Nat.le_of_ble_eq_true rfl, Nat.le_of_ble_eq_true rfl⟩) M_O rfl rfl hP hS hA rfl hl.1 rfl (Nat.le_of_ble_eq_true rfl) dX12_areTwo_10 ⟨Nat.le_refl _, Nat.le_refl _⟩ (fun H locs hP hS => ?_)
    refine W.eq (g2 := F0 m 13 ls [.int q3]) rfl ?_
    refine lv_if_eq (tgt := 25) hx hb dX12_areTwo_13 (by decide) (fun c4 => ?_) (fun c4 => ?_)
    · have hf := if_t hf c4
      refine lv_iconst (v := 0) hx hb dX12_areTwo_25 (by decide) ?_
      exact g_zret hx hb hr hlk (by decide) hP hS (ret1 hf) dX12_areTwo_26
    · have hf := if_f hf c4
      refine lv_iload_n hx hb dX12_areTwo_16 rfl (lv_at hl 1 rfl) ?_
      refine lv_iload_n hx hb dX12_areTwo_17 rfl (lv_at hl 2 rfl) ?_
      refine lv_icmp_eq (tgt := 25) hx hb dX12_areTwo_18 (by decide) (fun c5 => ?_) (fun c5 => ?_)
      · have hf := if_t hf c5
        refine lv_iconst (v := 0) hx hb dX12_areTwo_25 (by decide) ?_
        exact g_zret hx hb hr hlk (by decide) hP hS (ret1 hf) dX12_areTwo_26
      · have hf := if_f hf c5
        refine lv_iconst (v := 1) hx hb dX12_areTwo_21 (by decide) ?_
        refine lv_goto (tgt := 26) hx hb dX12_areTwo_22 (by decide) ?_
        exact g_zret hx hb hr hlk (by decide) hP hS (ret1 hf) dX12_areTwo_26

def X12_has (v0 : Int32) (v1 : Int32) : Option Int32 :=
    (if ((v0 >>> (v1 &&& 31)) &&& 1) = 1 then
    some 1
    else
    some 0)
def uX12_has : List Cond := .code yX12_has cX12_has 2 (some .boolean) :: UU
def rmX12_has : Room := { frames := 0, cells := 0, slots := 0, locals := 0 }
theorem kdX12_has : yX12_has.cls = RX12 ∧ yX12_has.cls ≠ "java/lang/invoke/MethodHandle" ∧ yX12_has.cls ≠ "java/lang/invoke/VarHandle" ∧ (parseMethodDescriptor yX12_has.desc).map (fun d => d.parameters.length) = some 2 := by decide +kernel
set_option maxHeartbeats 4000000 in
set_option maxRecDepth 100000 in
theorem m_X12_has (l : Launch) (D : va_G) (a : Nat → Nat) (C : Nat → ClassId) (ha : ginj a) (h : HS) (v0 : Int32) (v1 : Int32)  (r : Int32) (hf : X12_has v0 v1 = some r) : gM l yX12_has uX12_has rmX12_has D a C [.int v0, .int v1] h (some (.int r)) h := by
  refine g_start (av := [.int v0, .int v1]) (cc := cX12_has) (maxL := 2) (rt := (some .boolean)) (by decide) rfl (Nat.le_of_ble_eq_true rfl) ?_
  intro p e s m below meth c hx hb hr hml hown hlk hts hP hK hN ls hl
  have hA : ∀ q, gA a q → gA a q := fun _ q => q
  have hS : va_S (gA a) s.heap s.heap [] := va_S.rf
  have hl : lv_has ls 2 [(0, .int v0), (1, .int v1)] := hl
  unfold X12_has at hf
  refine lv_iload_n hx hb dX12_has_0 rfl (lv_at hl 0 rfl) ?_
  refine lv_iload_n hx hb dX12_has_1 rfl (lv_at hl 1 rfl) ?_
  refine lv_ishr hx hb dX12_has_2 ?_
  refine lv_iconst (v := 1) hx hb dX12_has_3 (by decide) ?_
  refine lv_iand hx hb dX12_has_4 ?_
  refine lv_iconst (v := 1) hx hb dX12_has_5 (by decide) ?_
  refine lv_icmp_ne (tgt := 13) hx hb dX12_has_6 (by decide) (fun c1 => ?_) (fun c1 => ?_)
  · have hf := if_f hf c1
    refine lv_iconst (v := 0) hx hb dX12_has_13 (by decide) ?_
    exact g_zret hx hb hr hlk (by decide) hP hS (ret1 hf) dX12_has_14
  · have hf := if_t hf c1
    refine lv_iconst (v := 1) hx hb dX12_has_9 (by decide) ?_
    refine lv_goto (tgt := 14) hx hb dX12_has_10 (by decide) ?_
    exact g_zret hx hb hr hlk (by decide) hP hS (ret1 hf) dX12_has_14

def X12_bits_B4 (v0 : Int32) : Nat → Int32 → Int32 → Option Int32
  | 0, _, _ => none
  | fu + 1, v1, v2 =>
    (if 9 ≤ v2 then
    some v1
    else
    nm (v1 + ((v0 >>> (v2 &&& 31)) &&& 1)) fun x2 =>
    nm (v2 + 1) fun x3 =>
    (X12_bits_B4 v0 fu) x2 x3)
def X12_bits (v0 : Int32) : Option Int32 :=
    X12_bits_B4 v0 FU 0 0
def uX12_bits : List Cond := .code yX12_bits cX12_bits 3 (some .int) :: UU
def rmX12_bits : Room := { frames := 0, cells := 0, slots := 0, locals := 0 }
theorem kdX12_bits : yX12_bits.cls = RX12 ∧ yX12_bits.cls ≠ "java/lang/invoke/MethodHandle" ∧ yX12_bits.cls ≠ "java/lang/invoke/VarHandle" ∧ (parseMethodDescriptor yX12_bits.desc).map (fun d => d.parameters.length) = some 1 := by decide +kernel
set_option maxHeartbeats 4000000 in
set_option maxRecDepth 100000 in
theorem m_X12_bits (l : Launch) (D : va_G) (a : Nat → Nat) (C : Nat → ClassId) (ha : ginj a) (h : HS) (v0 : Int32)  (r : Int32) (hf : X12_bits v0 = some r) : gM l yX12_bits uX12_bits rmX12_bits D a C [.int v0] h (some (.int r)) h := by
  refine g_start (av := [.int v0]) (cc := cX12_bits) (maxL := 3) (rt := (some .int)) (by decide) rfl (Nat.le_of_ble_eq_true rfl) ?_
  intro p e s m below meth c hx hb hr hml hown hlk hts hP hK hN ls hl
  have hA : ∀ q, gA a q → gA a q := fun _ q => q
  have hS : va_S (gA a) s.heap s.heap [] := va_S.rf
  have hl : lv_has ls 3 [(0, .int v0)] := hl
  have J4 : ∀ (fu : Nat) (v1 : Int32) (v2 : Int32), X12_bits_B4 v0 fu v1 v2 = some r → gG p l e (headSpec uX12_bits rmX12_bits).room s m ([.int v0] : List Value).toArray below meth c (MQ below (gQ (some (.int r)) D a C h) ([.int v0] : List Value).toArray s 0 0 (gA a)) D a C 3 h 4 [(0, .int v0), (1, .int v1), (2, .int v2)] [] := by
    intro fu
    induction fu with
    | zero => intro v1 v2 hf; exact absurd hf (by simp [X12_bits_B4])
    | succ fu ih =>
      intro v1 v2 hf H locs ls hP hS hl
      rw [X12_bits_B4] at hf
      refine lv_iload_n hx hb dX12_bits_4 rfl (lv_at hl 2 rfl) ?_
      refine lv_bipush (v := 9) hx hb dX12_bits_5 (by decide) ?_
      refine lv_icmp_ge (tgt := 24) hx hb dX12_bits_7 (by decide) (fun c1 => ?_) (fun c1 => ?_)
      · have hf := if_t hf c1
        refine lv_iload_n hx hb dX12_bits_24 rfl (lv_at hl 1 rfl) ?_
        exact g_iret hx hb hr hlk hP hS (ret1 hf) dX12_bits_25
      · have hf := if_f hf c1
        refine lv_iload_n hx hb dX12_bits_10 rfl (lv_at hl 1 rfl) ?_
        refine lv_iload_n hx hb dX12_bits_11 rfl (lv_at hl 0 rfl) ?_
        refine lv_iload_n hx hb dX12_bits_12 rfl (lv_at hl 2 rfl) ?_
        refine lv_ishr hx hb dX12_bits_13 ?_
        refine lv_iconst (v := 1) hx hb dX12_bits_14 (by decide) ?_
        refine lv_iand hx hb dX12_bits_15 ?_
        refine lv_iadd hx hb dX12_bits_16 ?_
        refine lv_topi (fun x2 ex2 => ?_)
        have hf := nm_s hf ex2
        refine lv_istore_n (lv' := [(1, .int x2), (0, .int v0), (2, .int v2)]) hx hb dX12_bits_17 rfl hl (by decide) rfl (fun ls hl => ?_)
        obtain ⟨x3, ex3⟩ : ∃ y : Int32, y = (v2 + 1) := ⟨_, rfl⟩
        have hf := nm_s hf ex3
        refine lv_iinc (v := x3) (lv' := [(2, .int x3), (1, .int x2), (0, .int v0)]) hx hb dX12_bits_18 hl (k := 2) rfl (by rw [ex3]; rfl) (by decide) rfl (fun ls hl => ?_)
        refine lv_goto (tgt := 4) hx hb dX12_bits_21 (by decide) ?_
        exact ih x2 x3 hf H locs ls hP hS (lv_sub hl [2, 1, 0] rfl)
  unfold X12_bits at hf
  suffices hh : ∀ (H : Heap) (locs : List Loc), va_P D vwCl (gw a C h) H → va_S (gA a) s.heap H locs → W p l e (headSpec uX12_bits rmX12_bits).room s m ([.int v0] : List Value).toArray below meth c H locs 0 0 (MQ below (gQ (some (.int r)) D a C h) ([.int v0] : List Value).toArray s 0 0 (gA a)) (F0 m 0 ls []) from hh _ _ hP hS
  intro H locs hP hS
  refine lv_iconst (v := 0) hx hb dX12_bits_0 (by decide) ?_
  refine lv_istore_n (lv' := [(1, .int 0), (0, .int v0)]) hx hb dX12_bits_1 rfl hl (by decide) rfl (fun ls hl => ?_)
  refine lv_iconst (v := 0) hx hb dX12_bits_2 (by decide) ?_
  refine lv_istore_n (lv' := [(2, .int 0), (1, .int 0), (0, .int v0)]) hx hb dX12_bits_3 rfl hl (by decide) rfl (fun ls hl => ?_)
  exact J4 FU 0 0 hf H locs ls hP hS (lv_sub hl [2, 1, 0] rfl)

def X12_number (h : HS) (v0 : Nat) (v1 : Int32) : Option Int32 :=
    (X12_of v1 2).bind fun q1 =>
    gdi q1 30 <|
    (X12_bits (aI h v0 q1.toNatClampNeg)).bind fun q3 =>
    some q3
def uX12_number : List Cond := .code yX12_number cX12_number 2 (some .int) :: UU
def rmX12_number : Room := { frames := 1, cells := 0, slots := 0, locals := 22 }
theorem kdX12_number : yX12_number.cls = RX12 ∧ yX12_number.cls ≠ "java/lang/invoke/MethodHandle" ∧ yX12_number.cls ≠ "java/lang/invoke/VarHandle" ∧ (parseMethodDescriptor yX12_number.desc).map (fun d => d.parameters.length) = some 2 := by decide +kernel
set_option maxHeartbeats 4000000 in
set_option maxRecDepth 100000 in
theorem m_X12_number (l : Launch) (D : va_G) (a : Nat → Nat) (C : Nat → ClassId) (ha : ginj a) (h : HS) (v0 : Nat) (v1 : Int32) (hv0 : isRow v0) (r : Int32) (hf : X12_number h v0 v1 = some r) : gM l yX12_number uX12_number rmX12_number D a C [.ref (a v0), .int v1] h (some (.int r)) h := by
  refine g_start (av := [.ref (a v0), .int v1]) (cc := cX12_number) (maxL := 2) (rt := (some .int)) (by decide) rfl (Nat.le_of_ble_eq_true rfl) ?_
  intro p e s m below meth c hx hb hr hml hown hlk hts hP hK hN ls hl
  have hA : ∀ q, gA a q → gA a q := fun _ q => q
  have hS : va_S (gA a) s.heap s.heap [] := va_S.rf
  have hl : lv_has ls 2 [(0, .ref (a v0)), (1, .int v1)] := hl
  unfold X12_number at hf
  refine lv_aload_n hx hb dX12_number_0 rfl (lv_at hl 0 rfl) ?_
  refine lv_iload_n hx hb dX12_number_1 rfl (lv_at hl 1 rfl) ?_
  refine lv_iconst (v := 2) hx hb dX12_number_2 (by decide) ?_
  obtain ⟨q1, hq1, hf⟩ := bind_s hf
  refine g_callS (As := [.int v1, .int 2]) (rest := [.ref (a v0)]) hx hb hml hown hts hK hN (m_X12_of l D a C ha h v1 2  q1 hq1) (va_cwS 2 hts (gUS (u12_1 _ (List.mem_of_getElem? (i := 15) rfl)) (u12_1 _ (List.mem_of_getElem? (i := 16) rfl)) (u12_1 _ (List.mem_of_getElem? (i := 7) rfl)) (u12_1 _ (List.mem_of_getElem? (i := 3) rfl))) rfl rfl rfl kdX12_of.2 ⟨Nat.le_of_ble_eq_true rfl, Nat.le_of_ble_eq_true rfl⟩) hP hS hA rfl hl.1 rfl (Nat.le_of_ble_eq_true rfl) dX12_number_3 ⟨Nat.le_refl _, Nat.le_refl _⟩ (fun H locs hP hS => ?_)
  refine W.eq (g2 := F0 m 6 ls [.int q1, .ref (a v0)]) rfl ?_
  obtain ⟨c2, hf⟩ := gdi_s hf
  refine g_ial hx hb hK (row_A hv0) c2 hP dX12_number_6 ?_
  obtain ⟨q3, hq3, hf⟩ := bind_s hf
  refine g_callS (As := [.int (aI h v0 q1.toNatClampNeg)]) (rest := []) hx hb hml hown hts hK hN (m_X12_bits l D a C ha h (aI h v0 q1.toNatClampNeg)  q3 hq3) (va_cwS 1 hts (gUS (u12_1 _ (List.mem_of_getElem? (i := 17) rfl)) (u12_1 _ (List.mem_of_getElem? (i := 18) rfl)) (u12_1 _ (List.mem_of_getElem? (i := 7) rfl)) (u12_1 _ (List.mem_of_getElem? (i := 13) rfl))) rfl rfl rfl kdX12_bits.2 ⟨Nat.le_of_ble_eq_true rfl, Nat.le_of_ble_eq_true rfl⟩) hP hS hA rfl hl.1 rfl (Nat.le_of_ble_eq_true rfl) dX12_number_7 ⟨Nat.le_refl _, Nat.le_refl _⟩ (fun H locs hP hS => ?_)
  refine W.eq (g2 := F0 m 10 ls [.int q3]) rfl ?_
  exact g_iret hx hb hr hlk hP hS (ret1 hf) dX12_number_10

def X12_isDeaf (h : HS) (v0 : Nat) (v1 : Int32) : Option Int32 :=
    (X12_of v1 0).bind fun q1 =>
    gdi q1 30 <|
    (if (aI h v0 q1.toNatClampNeg) = 7 then
    some 1
    else
    some 0)
def uX12_isDeaf : List Cond := .code yX12_isDeaf cX12_isDeaf 2 (some .boolean) :: UU
def rmX12_isDeaf : Room := { frames := 1, cells := 0, slots := 0, locals := 21 }
theorem kdX12_isDeaf : yX12_isDeaf.cls = RX12 ∧ yX12_isDeaf.cls ≠ "java/lang/invoke/MethodHandle" ∧ yX12_isDeaf.cls ≠ "java/lang/invoke/VarHandle" ∧ (parseMethodDescriptor yX12_isDeaf.desc).map (fun d => d.parameters.length) = some 2 := by decide +kernel
set_option maxHeartbeats 4000000 in
set_option maxRecDepth 100000 in
theorem m_X12_isDeaf (l : Launch) (D : va_G) (a : Nat → Nat) (C : Nat → ClassId) (ha : ginj a) (h : HS) (v0 : Nat) (v1 : Int32) (hv0 : isRow v0) (r : Int32) (hf : X12_isDeaf h v0 v1 = some r) : gM l yX12_isDeaf uX12_isDeaf rmX12_isDeaf D a C [.ref (a v0), .int v1] h (some (.int r)) h := by
  refine g_start (av := [.ref (a v0), .int v1]) (cc := cX12_isDeaf) (maxL := 2) (rt := (some .boolean)) (by decide) rfl (Nat.le_of_ble_eq_true rfl) ?_
  intro p e s m below meth c hx hb hr hml hown hlk hts hP hK hN ls hl
  have hA : ∀ q, gA a q → gA a q := fun _ q => q
  have hS : va_S (gA a) s.heap s.heap [] := va_S.rf
  have hl : lv_has ls 2 [(0, .ref (a v0)), (1, .int v1)] := hl
  unfold X12_isDeaf at hf
  refine lv_aload_n hx hb dX12_isDeaf_0 rfl (lv_at hl 0 rfl) ?_
  refine lv_iload_n hx hb dX12_isDeaf_1 rfl (lv_at hl 1 rfl) ?_
  refine lv_iconst (v := 0) hx hb dX12_isDeaf_2 (by decide) ?_
  obtain ⟨q1, hq1, hf⟩ := bind_s hf
  refine g_callS (As := [.int v1, .int 0]) (rest := [.ref (a v0)]) hx hb hml hown hts hK hN (m_X12_of l D a C ha h v1 0  q1 hq1) (va_cwS 2 hts (gUS (u12_1 _ (List.mem_of_getElem? (i := 15) rfl)) (u12_1 _ (List.mem_of_getElem? (i := 16) rfl)) (u12_1 _ (List.mem_of_getElem? (i := 7) rfl)) (u12_1 _ (List.mem_of_getElem? (i := 3) rfl))) rfl rfl rfl kdX12_of.2 ⟨Nat.le_of_ble_eq_true rfl, Nat.le_of_ble_eq_true rfl⟩) hP hS hA rfl hl.1 rfl (Nat.le_of_ble_eq_true rfl) dX12_isDeaf_3 ⟨Nat.le_refl _, Nat.le_refl _⟩ (fun H locs hP hS => ?_)
  refine W.eq (g2 := F0 m 6 ls [.int q1, .ref (a v0)]) rfl ?_
  obtain ⟨c2, hf⟩ := gdi_s hf
  refine g_ial hx hb hK (row_A hv0) c2 hP dX12_isDeaf_6 ?_
  refine lv_bipush (v := 7) hx hb dX12_isDeaf_7 (by decide) ?_
  refine lv_icmp_ne (tgt := 16) hx hb dX12_isDeaf_9 (by decide) (fun c3 => ?_) (fun c3 => ?_)
  · have hf := if_f hf c3
    refine lv_iconst (v := 0) hx hb dX12_isDeaf_16 (by decide) ?_
    exact g_zret hx hb hr hlk (by decide) hP hS (ret1 hf) dX12_isDeaf_17
  · have hf := if_t hf c3
    refine lv_iconst (v := 1) hx hb dX12_isDeaf_12 (by decide) ?_
    refine lv_goto (tgt := 17) hx hb dX12_isDeaf_13 (by decide) ?_
    exact g_zret hx hb hr hlk (by decide) hP hS (ret1 hf) dX12_isDeaf_17

def X12_tellsBy_B11 (v0 : Int32) (v1 : Int32) (v2 : Int32) (s0 : Int32) : Option Int32 :=
    (if v0 = 1 then
    some s0
    else
    (if v0 = 2 then
    some 3
    else
    (if v0 = 3 then
    some 0
    else
    (if v0 = 4 then
    some 2
    else
    (if v0 = 5 then
    some (s0 + 1)
    else
    (if v0 = 6 then
    some (2 + v1)
    else
    (if v0 = 7 then
    some 0
    else
    some 1)))))))
def X12_tellsBy (v0 : Int32) (v1 : Int32) (v2 : Int32) : Option Int32 :=
    (if (v2 - v2 / 2 * 2) = 0 then
    X12_tellsBy_B11 v0 v1 v2 1
    else
    X12_tellsBy_B11 v0 v1 v2 0)
def uX12_tellsBy : List Cond := .code yX12_tellsBy cX12_tellsBy 4 (some .int) :: UU
def rmX12_tellsBy : Room := { frames := 0, cells := 0, slots := 0, locals := 0 }
theorem kdX12_tellsBy : yX12_tellsBy.cls = RX12 ∧ yX12_tellsBy.cls ≠ "java/lang/invoke/MethodHandle" ∧ yX12_tellsBy.cls ≠ "java/lang/invoke/VarHandle" ∧ (parseMethodDescriptor yX12_tellsBy.desc).map (fun d => d.parameters.length) = some 3 := by decide +kernel
set_option maxHeartbeats 4000000 in
set_option maxRecDepth 100000 in
theorem m_X12_tellsBy (l : Launch) (D : va_G) (a : Nat → Nat) (C : Nat → ClassId) (ha : ginj a) (h : HS) (v0 : Int32) (v1 : Int32) (v2 : Int32)  (r : Int32) (hf : X12_tellsBy v0 v1 v2 = some r) : gM l yX12_tellsBy uX12_tellsBy rmX12_tellsBy D a C [.int v0, .int v1, .int v2] h (some (.int r)) h := by
  refine g_start (av := [.int v0, .int v1, .int v2]) (cc := cX12_tellsBy) (maxL := 4) (rt := (some .int)) (by decide) rfl (Nat.le_of_ble_eq_true rfl) ?_
  intro p e s m below meth c hx hb hr hml hown hlk hts hP hK hN ls hl
  have hA : ∀ q, gA a q → gA a q := fun _ q => q
  have hS : va_S (gA a) s.heap s.heap [] := va_S.rf
  have hl : lv_has ls 4 [(0, .int v0), (1, .int v1), (2, .int v2)] := hl
  have J11 : ∀ (s0 : Int32) (_ : X12_tellsBy_B11 v0 v1 v2 s0 = some r), gG p l e (headSpec uX12_tellsBy rmX12_tellsBy).room s m ([.int v0, .int v1, .int v2] : List Value).toArray below meth c (MQ below (gQ (some (.int r)) D a C h) ([.int v0, .int v1, .int v2] : List Value).toArray s 0 0 (gA a)) D a C 4 h 11 [(0, .int v0), (1, .int v1)] [.int s0] := by
    intro s0 hf H locs ls hP hS hl
    unfold X12_tellsBy_B11 at hf
    refine lv_istore_n (lv' := [(3, .int s0), (0, .int v0), (1, .int v1)]) hx hb dX12_tellsBy_11 rfl hl (by decide) rfl (fun ls hl => ?_)
    refine lv_iload_n hx hb dX12_tellsBy_12 rfl (lv_at hl 1 rfl) ?_
    by_cases c2 : v0 = 1
    · have hf := if_t hf c2
      refine lv_tableIn (tgt := 56) hx hb dX12_tellsBy_13 (by rw [c2]; decide) (by rw [c2]; decide) (by rw [c2]; rfl) (by decide) ?_
      refine lv_iload_n hx hb dX12_tellsBy_56 rfl (lv_at hl 0 rfl) ?_
      exact g_iret hx hb hr hlk hP hS (ret1 hf) dX12_tellsBy_57
    have hf := if_f hf c2
    by_cases c3 : v0 = 2
    · have hf := if_t hf c3
      refine lv_tableIn (tgt := 58) hx hb dX12_tellsBy_13 (by rw [c3]; decide) (by rw [c3]; decide) (by rw [c3]; rfl) (by decide) ?_
      refine lv_iconst (v := 3) hx hb dX12_tellsBy_58 (by decide) ?_
      exact g_iret hx hb hr hlk hP hS (ret1 hf) dX12_tellsBy_59
    have hf := if_f hf c3
    by_cases c4 : v0 = 3
    · have hf := if_t hf c4
      refine lv_tableIn (tgt := 60) hx hb dX12_tellsBy_13 (by rw [c4]; decide) (by rw [c4]; decide) (by rw [c4]; rfl) (by decide) ?_
      refine lv_iconst (v := 0) hx hb dX12_tellsBy_60 (by decide) ?_
      exact g_iret hx hb hr hlk hP hS (ret1 hf) dX12_tellsBy_61
    have hf := if_f hf c4
    by_cases c5 : v0 = 4
    · have hf := if_t hf c5
      refine lv_tableIn (tgt := 62) hx hb dX12_tellsBy_13 (by rw [c5]; decide) (by rw [c5]; decide) (by rw [c5]; rfl) (by decide) ?_
      refine lv_iconst (v := 2) hx hb dX12_tellsBy_62 (by decide) ?_
      exact g_iret hx hb hr hlk hP hS (ret1 hf) dX12_tellsBy_63
    have hf := if_f hf c5
    by_cases c6 : v0 = 5
    · have hf := if_t hf c6
      refine lv_tableIn (tgt := 64) hx hb dX12_tellsBy_13 (by rw [c6]; decide) (by rw [c6]; decide) (by rw [c6]; rfl) (by decide) ?_
      refine lv_iload_n hx hb dX12_tellsBy_64 rfl (lv_at hl 0 rfl) ?_
      refine lv_iconst (v := 1) hx hb dX12_tellsBy_65 (by decide) ?_
      refine lv_iadd hx hb dX12_tellsBy_66 ?_
      exact g_iret hx hb hr hlk hP hS (ret1 hf) dX12_tellsBy_67
    have hf := if_f hf c6
    by_cases c7 : v0 = 6
    · have hf := if_t hf c7
      refine lv_tableIn (tgt := 68) hx hb dX12_tellsBy_13 (by rw [c7]; decide) (by rw [c7]; decide) (by rw [c7]; rfl) (by decide) ?_
      refine lv_iconst (v := 2) hx hb dX12_tellsBy_68 (by decide) ?_
      refine lv_iload_n hx hb dX12_tellsBy_69 rfl (lv_at hl 2 rfl) ?_
      refine lv_iadd hx hb dX12_tellsBy_70 ?_
      exact g_iret hx hb hr hlk hP hS (ret1 hf) dX12_tellsBy_71
    have hf := if_f hf c7
    by_cases c8 : v0 = 7
    · have hf := if_t hf c8
      refine lv_tableIn (tgt := 60) hx hb dX12_tellsBy_13 (by rw [c8]; decide) (by rw [c8]; decide) (by rw [c8]; rfl) (by decide) ?_
      refine lv_iconst (v := 0) hx hb dX12_tellsBy_60 (by decide) ?_
      exact g_iret hx hb hr hlk hP hS (ret1 hf) dX12_tellsBy_61
    have hf := if_f hf c8
    refine lv_tableOut (tgt := 72) hx hb dX12_tellsBy_13 (by have n0 := ti_nz (z := 1) (by decide) c2; have n1 := ti_nz (z := 2) (by decide) c3; have n2 := ti_nz (z := 3) (by decide) c4; have n3 := ti_nz (z := 4) (by decide) c5; have n4 := ti_nz (z := 5) (by decide) c6; have n5 := ti_nz (z := 6) (by decide) c7; have n6 := ti_nz (z := 7) (by decide) c8; omega) (by decide) ?_
    refine lv_iconst (v := 1) hx hb dX12_tellsBy_72 (by decide) ?_
    exact g_iret hx hb hr hlk hP hS (ret1 hf) dX12_tellsBy_73
  unfold X12_tellsBy at hf
  suffices hh : ∀ (H : Heap) (locs : List Loc), va_P D vwCl (gw a C h) H → va_S (gA a) s.heap H locs → W p l e (headSpec uX12_tellsBy rmX12_tellsBy).room s m ([.int v0, .int v1, .int v2] : List Value).toArray below meth c H locs 0 0 (MQ below (gQ (some (.int r)) D a C h) ([.int v0, .int v1, .int v2] : List Value).toArray s 0 0 (gA a)) (F0 m 0 ls []) from hh _ _ hP hS
  intro H locs hP hS
  refine lv_iload_n hx hb dX12_tellsBy_0 rfl (lv_at hl 2 rfl) ?_
  refine lv_iconst (v := 2) hx hb dX12_tellsBy_1 (by decide) ?_
  refine lv_irem hx hb dX12_tellsBy_2 (by decide) ?_
  refine lv_if_ne (tgt := 10) hx hb dX12_tellsBy_3 (by decide) (fun c1 => ?_) (fun c1 => ?_)
  · have hf := if_f hf c1
    refine lv_iconst (v := 0) hx hb dX12_tellsBy_10 (by decide) ?_
    exact J11 0 hf H locs ls hP hS (lv_sub hl [0, 1] rfl)
  · have hf := if_t hf c1
    refine lv_iconst (v := 1) hx hb dX12_tellsBy_6 (by decide) ?_
    refine lv_goto (tgt := 11) hx hb dX12_tellsBy_7 (by decide) ?_
    exact J11 1 hf H locs ls hP hS (lv_sub hl [0, 1] rfl)

def X12_doesLike_B48 (h : HS) (v0 : Nat) (v1 : Int32) (v2 : Int32) : Option Int32 :=
    (X12_number h v0 v2).bind fun q13 =>
    (X12_number h v0 v1).bind fun q14 =>
    (if q14 < q13 then
    some 0
    else
    some 1)
def X12_doesLike (h : HS) (v0 : Nat) (v1 : Int32) (v2 : Int32) : Option Int32 :=
    (X12_of v1 0).bind fun q1 =>
    gdi q1 30 <|
    (if (aI h v0 q1.toNatClampNeg) = 1 then
    X12_doesLike_B48 h v0 v1 v2
    else
    (if (aI h v0 q1.toNatClampNeg) = 3 then
    X12_doesLike_B48 h v0 v1 v2
    else
    (if (aI h v0 q1.toNatClampNeg) = 5 then
    (X12_number h v0 v2).bind fun q6 =>
    (X12_number h v0 v1).bind fun q7 =>
    (if q6 ≤ q7 then
    some 0
    else
    some 1)
    else
    (if (aI h v0 q1.toNatClampNeg) = 7 then
    X12_doesLike_B48 h v0 v1 v2
    else
    some 1))))
def uX12_doesLike : List Cond := .code yX12_doesLike cX12_doesLike 3 (some .boolean) :: UU
def rmX12_doesLike : Room := { frames := 2, cells := 0, slots := 0, locals := 43 }
theorem kdX12_doesLike : yX12_doesLike.cls = RX12 ∧ yX12_doesLike.cls ≠ "java/lang/invoke/MethodHandle" ∧ yX12_doesLike.cls ≠ "java/lang/invoke/VarHandle" ∧ (parseMethodDescriptor yX12_doesLike.desc).map (fun d => d.parameters.length) = some 3 := by decide +kernel
set_option maxHeartbeats 4000000 in
set_option maxRecDepth 100000 in
theorem m_X12_doesLike (l : Launch) (D : va_G) (a : Nat → Nat) (C : Nat → ClassId) (ha : ginj a) (h : HS) (v0 : Nat) (v1 : Int32) (v2 : Int32) (hv0 : isRow v0) (r : Int32) (hf : X12_doesLike h v0 v1 v2 = some r) : gM l yX12_doesLike uX12_doesLike rmX12_doesLike D a C [.ref (a v0), .int v1, .int v2] h (some (.int r)) h := by
  refine g_start (av := [.ref (a v0), .int v1, .int v2]) (cc := cX12_doesLike) (maxL := 3) (rt := (some .boolean)) (by decide) rfl (Nat.le_of_ble_eq_true rfl) ?_
  intro p e s m below meth c hx hb hr hml hown hlk hts hP hK hN ls hl
  have hA : ∀ q, gA a q → gA a q := fun _ q => q
  have hS : va_S (gA a) s.heap s.heap [] := va_S.rf
  have hl : lv_has ls 3 [(0, .ref (a v0)), (1, .int v1), (2, .int v2)] := hl
  have J48 : ∀ (_ : X12_doesLike_B48 h v0 v1 v2 = some r), gG p l e (headSpec uX12_doesLike rmX12_doesLike).room s m ([.ref (a v0), .int v1, .int v2] : List Value).toArray below meth c (MQ below (gQ (some (.int r)) D a C h) ([.ref (a v0), .int v1, .int v2] : List Value).toArray s 0 0 (gA a)) D a C 3 h 48 [(0, .ref (a v0)), (1, .int v1), (2, .int v2)] [] := by
    intro  hf H locs ls hP hS hl
    unfold X12_doesLike_B48 at hf
    refine lv_aload_n hx hb dX12_doesLike_48 rfl (lv_at hl 0 rfl) ?_
    refine lv_iload_n hx hb dX12_doesLike_49 rfl (lv_at hl 2 rfl) ?_
    obtain ⟨q13, hq13, hf⟩ := bind_s hf
    refine g_callS (As := [.ref (a v0), .int v2]) (rest := []) hx hb hml hown hts hK hN (m_X12_number l D a C ha h v0 v2 hv0 q13 hq13) (va_cwS 2 hts (gUS (u12_2 _ (List.mem_of_getElem? (i := 2) rfl)) (u12_2 _ (List.mem_of_getElem? (i := 3) rfl)) (u12_1 _ (List.mem_of_getElem? (i := 7) rfl)) (u12_1 _ (List.mem_of_getElem? (i := 14) rfl))) rfl rfl rfl kdX12_number.2 ⟨Nat.le_of_ble_eq_true rfl, Nat.le_of_ble_eq_true rfl⟩) hP hS hA rfl hl.1 rfl (Nat.le_of_ble_eq_true rfl) dX12_doesLike_50 ⟨Nat.le_refl _, Nat.le_refl _⟩ (fun H locs hP hS => ?_)
    refine W.eq (g2 := F0 m 53 ls [.int q13]) rfl ?_
    refine lv_aload_n hx hb dX12_doesLike_53 rfl (lv_at hl 0 rfl) ?_
    refine lv_iload_n hx hb dX12_doesLike_54 rfl (lv_at hl 1 rfl) ?_
    obtain ⟨q14, hq14, hf⟩ := bind_s hf
    refine g_callS (As := [.ref (a v0), .int v1]) (rest := [.int q13]) hx hb hml hown hts hK hN (m_X12_number l D a C ha h v0 v1 hv0 q14 hq14) (va_cwS 2 hts (gUS (u12_2 _ (List.mem_of_getElem? (i := 2) rfl)) (u12_2 _ (List.mem_of_getElem? (i := 3) rfl)) (u12_1 _ (List.mem_of_getElem? (i := 7) rfl)) (u12_1 _ (List.mem_of_getElem? (i := 14) rfl))) rfl rfl rfl kdX12_number.2 ⟨Nat.le_of_ble_eq_true rfl, Nat.le_of_ble_eq_true rfl⟩) hP hS hA rfl hl.1 rfl (Nat.le_of_ble_eq_true rfl) dX12_doesLike_55 ⟨Nat.le_refl _, Nat.le_refl _⟩ (fun H locs hP hS => ?_)
    refine W.eq (g2 := F0 m 58 ls [.int q14, .int q13]) rfl ?_
    refine lv_icmp_gt (tgt := 65) hx hb dX12_doesLike_58 (by decide) (fun c15 => ?_) (fun c15 => ?_)
    · have hf := if_t hf c15
      refine lv_iconst (v := 0) hx hb dX12_doesLike_65 (by decide) ?_
      exact g_zret hx hb hr hlk (by decide) hP hS (ret1 hf) dX12_doesLike_66
    · have hf := if_f hf c15
      refine lv_iconst (v := 1) hx hb dX12_doesLike_61 (by decide) ?_
      refine lv_goto (tgt := 66) hx hb dX12_doesLike_62 (by decide) ?_
      exact g_zret hx hb hr hlk (by decide) hP hS (ret1 hf) dX12_doesLike_66
  unfold X12_doesLike at hf
  suffices hh : ∀ (H : Heap) (locs : List Loc), va_P D vwCl (gw a C h) H → va_S (gA a) s.heap H locs → W p l e (headSpec uX12_doesLike rmX12_doesLike).room s m ([.ref (a v0), .int v1, .int v2] : List Value).toArray below meth c H locs 0 0 (MQ below (gQ (some (.int r)) D a C h) ([.ref (a v0), .int v1, .int v2] : List Value).toArray s 0 0 (gA a)) (F0 m 0 ls []) from hh _ _ hP hS
  intro H locs hP hS
  refine lv_aload_n hx hb dX12_doesLike_0 rfl (lv_at hl 0 rfl) ?_
  refine lv_iload_n hx hb dX12_doesLike_1 rfl (lv_at hl 1 rfl) ?_
  refine lv_iconst (v := 0) hx hb dX12_doesLike_2 (by decide) ?_
  obtain ⟨q1, hq1, hf⟩ := bind_s hf
  refine g_callS (As := [.int v1, .int 0]) (rest := [.ref (a v0)]) hx hb hml hown hts hK hN (m_X12_of l D a C ha h v1 0  q1 hq1) (va_cwS 2 hts (gUS (u12_1 _ (List.mem_of_getElem? (i := 15) rfl)) (u12_1 _ (List.mem_of_getElem? (i := 16) rfl)) (u12_1 _ (List.mem_of_getElem? (i := 7) rfl)) (u12_1 _ (List.mem_of_getElem? (i := 3) rfl))) rfl rfl rfl kdX12_of.2 ⟨Nat.le_of_ble_eq_true rfl, Nat.le_of_ble_eq_true rfl⟩) hP hS hA rfl hl.1 rfl (Nat.le_of_ble_eq_true rfl) dX12_doesLike_3 ⟨Nat.le_refl _, Nat.le_refl _⟩ (fun H locs hP hS => ?_)
  refine W.eq (g2 := F0 m 6 ls [.int q1, .ref (a v0)]) rfl ?_
  obtain ⟨c2, hf⟩ := gdi_s hf
  refine g_ial hx hb hK (row_A hv0) c2 hP dX12_doesLike_6 ?_
  by_cases c3 : (aI h v0 q1.toNatClampNeg) = 1
  · have hf := if_t hf c3
    refine lv_tableIn (tgt := 48) hx hb dX12_doesLike_7 (by rw [c3]; decide) (by rw [c3]; decide) (by rw [c3]; rfl) (by decide) ?_
    exact J48 hf H locs ls hP hS (lv_sub hl [0, 1, 2] rfl)
  have hf := if_f hf c3
  by_cases c4 : (aI h v0 q1.toNatClampNeg) = 3
  · have hf := if_t hf c4
    refine lv_tableIn (tgt := 48) hx hb dX12_doesLike_7 (by rw [c4]; decide) (by rw [c4]; decide) (by rw [c4]; rfl) (by decide) ?_
    exact J48 hf H locs ls hP hS (lv_sub hl [0, 1, 2] rfl)
  have hf := if_f hf c4
  by_cases c5 : (aI h v0 q1.toNatClampNeg) = 5
  · have hf := if_t hf c5
    refine lv_tableIn (tgt := 67) hx hb dX12_doesLike_7 (by rw [c5]; decide) (by rw [c5]; decide) (by rw [c5]; rfl) (by decide) ?_
    refine lv_aload_n hx hb dX12_doesLike_67 rfl (lv_at hl 0 rfl) ?_
    refine lv_iload_n hx hb dX12_doesLike_68 rfl (lv_at hl 2 rfl) ?_
    obtain ⟨q6, hq6, hf⟩ := bind_s hf
    refine g_callS (As := [.ref (a v0), .int v2]) (rest := []) hx hb hml hown hts hK hN (m_X12_number l D a C ha h v0 v2 hv0 q6 hq6) (va_cwS 2 hts (gUS (u12_2 _ (List.mem_of_getElem? (i := 2) rfl)) (u12_2 _ (List.mem_of_getElem? (i := 3) rfl)) (u12_1 _ (List.mem_of_getElem? (i := 7) rfl)) (u12_1 _ (List.mem_of_getElem? (i := 14) rfl))) rfl rfl rfl kdX12_number.2 ⟨Nat.le_of_ble_eq_true rfl, Nat.le_of_ble_eq_true rfl⟩) hP hS hA rfl hl.1 rfl (Nat.le_of_ble_eq_true rfl) dX12_doesLike_69 ⟨Nat.le_refl _, Nat.le_refl _⟩ (fun H locs hP hS => ?_)
    refine W.eq (g2 := F0 m 72 ls [.int q6]) rfl ?_
    refine lv_aload_n hx hb dX12_doesLike_72 rfl (lv_at hl 0 rfl) ?_
    refine lv_iload_n hx hb dX12_doesLike_73 rfl (lv_at hl 1 rfl) ?_
    obtain ⟨q7, hq7, hf⟩ := bind_s hf
    refine g_callS (As := [.ref (a v0), .int v1]) (rest := [.int q6]) hx hb hml hown hts hK hN (m_X12_number l D a C ha h v0 v1 hv0 q7 hq7) (va_cwS 2 hts (gUS (u12_2 _ (List.mem_of_getElem? (i := 2) rfl)) (u12_2 _ (List.mem_of_getElem? (i := 3) rfl)) (u12_1 _ (List.mem_of_getElem? (i := 7) rfl)) (u12_1 _ (List.mem_of_getElem? (i := 14) rfl))) rfl rfl rfl kdX12_number.2 ⟨Nat.le_of_ble_eq_true rfl, Nat.le_of_ble_eq_true rfl⟩) hP hS hA rfl hl.1 rfl (Nat.le_of_ble_eq_true rfl) dX12_doesLike_74 ⟨Nat.le_refl _, Nat.le_refl _⟩ (fun H locs hP hS => ?_)
    refine W.eq (g2 := F0 m 77 ls [.int q7, .int q6]) rfl ?_
    refine lv_icmp_le (tgt := 84) hx hb dX12_doesLike_77 (by decide) (fun c8 => ?_) (fun c8 => ?_)
    · have hf := if_t hf c8
      refine lv_iconst (v := 0) hx hb dX12_doesLike_84 (by decide) ?_
      exact g_zret hx hb hr hlk (by decide) hP hS (ret1 hf) dX12_doesLike_85
    · have hf := if_f hf c8
      refine lv_iconst (v := 1) hx hb dX12_doesLike_80 (by decide) ?_
      refine lv_goto (tgt := 85) hx hb dX12_doesLike_81 (by decide) ?_
      exact g_zret hx hb hr hlk (by decide) hP hS (ret1 hf) dX12_doesLike_85
  have hf := if_f hf c5
  by_cases c9 : (aI h v0 q1.toNatClampNeg) = 7
  · have hf := if_t hf c9
    refine lv_tableIn (tgt := 48) hx hb dX12_doesLike_7 (by rw [c9]; decide) (by rw [c9]; decide) (by rw [c9]; rfl) (by decide) ?_
    exact J48 hf H locs ls hP hS (lv_sub hl [0, 1, 2] rfl)
  have hf := if_f hf c9
  by_cases c10 : (aI h v0 q1.toNatClampNeg) = 2
  · refine lv_tableIn (tgt := 86) hx hb dX12_doesLike_7 (by rw [c10]; decide) (by rw [c10]; decide) (by rw [c10]; rfl) (by decide) ?_
    refine lv_iconst (v := 1) hx hb dX12_doesLike_86 (by decide) ?_
    exact g_zret hx hb hr hlk (by decide) hP hS (ret1 hf) dX12_doesLike_87
  by_cases c11 : (aI h v0 q1.toNatClampNeg) = 4
  · refine lv_tableIn (tgt := 86) hx hb dX12_doesLike_7 (by rw [c11]; decide) (by rw [c11]; decide) (by rw [c11]; rfl) (by decide) ?_
    refine lv_iconst (v := 1) hx hb dX12_doesLike_86 (by decide) ?_
    exact g_zret hx hb hr hlk (by decide) hP hS (ret1 hf) dX12_doesLike_87
  by_cases c12 : (aI h v0 q1.toNatClampNeg) = 6
  · refine lv_tableIn (tgt := 86) hx hb dX12_doesLike_7 (by rw [c12]; decide) (by rw [c12]; decide) (by rw [c12]; rfl) (by decide) ?_
    refine lv_iconst (v := 1) hx hb dX12_doesLike_86 (by decide) ?_
    exact g_zret hx hb hr hlk (by decide) hP hS (ret1 hf) dX12_doesLike_87
  refine lv_tableOut (tgt := 86) hx hb dX12_doesLike_7 (by have n0 := ti_nz (z := 1) (by decide) c3; have n1 := ti_nz (z := 3) (by decide) c4; have n2 := ti_nz (z := 5) (by decide) c5; have n3 := ti_nz (z := 7) (by decide) c9; have n4 := ti_nz (z := 2) (by decide) c10; have n5 := ti_nz (z := 4) (by decide) c11; have n6 := ti_nz (z := 6) (by decide) c12; omega) (by decide) ?_
  refine lv_iconst (v := 1) hx hb dX12_doesLike_86 (by decide) ?_
  exact g_zret hx hb hr hlk (by decide) hP hS (ret1 hf) dX12_doesLike_87

def X12_cardsOf (h : HS) (v0 : Nat) (v1 : Int32) : Option Int32 :=
    (X12_number h v0 v1).bind fun q1 =>
    (X12_of v1 1).bind fun q2 =>
    gdi q2 30 <|
    nm (aI h v0 q2.toNatClampNeg) fun x4 =>
    (X12_of v1 0).bind fun q5 =>
    gdi q5 30 <|
    (if (aI h v0 q5.toNatClampNeg) = 1 then
    some (q1 / 2)
    else
    (if (aI h v0 q5.toNatClampNeg) = 2 then
    some (q1 + x4)
    else
    (if (aI h v0 q5.toNatClampNeg) = 3 then
    some 0
    else
    (if (aI h v0 q5.toNatClampNeg) = 4 then
    some (2 * (q1 + x4))
    else
    (if (aI h v0 q5.toNatClampNeg) = 5 then
    some ((q1 / 2) + 1)
    else
    (if (aI h v0 q5.toNatClampNeg) = 6 then
    some ((2 * (q1 + x4)) + 11)
    else
    (if (aI h v0 q5.toNatClampNeg) = 7 then
    some 0
    else
    some q1)))))))
def uX12_cardsOf : List Cond := .code yX12_cardsOf cX12_cardsOf 4 (some .int) :: UU
def rmX12_cardsOf : Room := { frames := 2, cells := 0, slots := 0, locals := 43 }
theorem kdX12_cardsOf : yX12_cardsOf.cls = RX12 ∧ yX12_cardsOf.cls ≠ "java/lang/invoke/MethodHandle" ∧ yX12_cardsOf.cls ≠ "java/lang/invoke/VarHandle" ∧ (parseMethodDescriptor yX12_cardsOf.desc).map (fun d => d.parameters.length) = some 2 := by decide +kernel
set_option maxHeartbeats 4000000 in
set_option maxRecDepth 100000 in
theorem m_X12_cardsOf (l : Launch) (D : va_G) (a : Nat → Nat) (C : Nat → ClassId) (ha : ginj a) (h : HS) (v0 : Nat) (v1 : Int32) (hv0 : isRow v0) (r : Int32) (hf : X12_cardsOf h v0 v1 = some r) : gM l yX12_cardsOf uX12_cardsOf rmX12_cardsOf D a C [.ref (a v0), .int v1] h (some (.int r)) h := by
  refine g_start (av := [.ref (a v0), .int v1]) (cc := cX12_cardsOf) (maxL := 4) (rt := (some .int)) (by decide) rfl (Nat.le_of_ble_eq_true rfl) ?_
  intro p e s m below meth c hx hb hr hml hown hlk hts hP hK hN ls hl
  have hA : ∀ q, gA a q → gA a q := fun _ q => q
  have hS : va_S (gA a) s.heap s.heap [] := va_S.rf
  have hl : lv_has ls 4 [(0, .ref (a v0)), (1, .int v1)] := hl
  unfold X12_cardsOf at hf
  refine lv_aload_n hx hb dX12_cardsOf_0 rfl (lv_at hl 0 rfl) ?_
  refine lv_iload_n hx hb dX12_cardsOf_1 rfl (lv_at hl 1 rfl) ?_
  obtain ⟨q1, hq1, hf⟩ := bind_s hf
  refine g_callS (As := [.ref (a v0), .int v1]) (rest := []) hx hb hml hown hts hK hN (m_X12_number l D a C ha h v0 v1 hv0 q1 hq1) (va_cwS 2 hts (gUS (u12_2 _ (List.mem_of_getElem? (i := 2) rfl)) (u12_2 _ (List.mem_of_getElem? (i := 3) rfl)) (u12_1 _ (List.mem_of_getElem? (i := 7) rfl)) (u12_1 _ (List.mem_of_getElem? (i := 14) rfl))) rfl rfl rfl kdX12_number.2 ⟨Nat.le_of_ble_eq_true rfl, Nat.le_of_ble_eq_true rfl⟩) hP hS hA rfl hl.1 rfl (Nat.le_of_ble_eq_true rfl) dX12_cardsOf_2 ⟨Nat.le_refl _, Nat.le_refl _⟩ (fun H locs hP hS => ?_)
  refine W.eq (g2 := F0 m 5 ls [.int q1]) rfl ?_
  refine lv_istore_n (lv' := [(2, .int q1), (0, .ref (a v0)), (1, .int v1)]) hx hb dX12_cardsOf_5 rfl hl (by decide) rfl (fun ls hl => ?_)
  refine lv_aload_n hx hb dX12_cardsOf_6 rfl (lv_at hl 1 rfl) ?_
  refine lv_iload_n hx hb dX12_cardsOf_7 rfl (lv_at hl 2 rfl) ?_
  refine lv_iconst (v := 1) hx hb dX12_cardsOf_8 (by decide) ?_
  obtain ⟨q2, hq2, hf⟩ := bind_s hf
  refine g_callS (As := [.int v1, .int 1]) (rest := [.ref (a v0)]) hx hb hml hown hts hK hN (m_X12_of l D a C ha h v1 1  q2 hq2) (va_cwS 2 hts (gUS (u12_1 _ (List.mem_of_getElem? (i := 15) rfl)) (u12_1 _ (List.mem_of_getElem? (i := 16) rfl)) (u12_1 _ (List.mem_of_getElem? (i := 7) rfl)) (u12_1 _ (List.mem_of_getElem? (i := 3) rfl))) rfl rfl rfl kdX12_of.2 ⟨Nat.le_of_ble_eq_true rfl, Nat.le_of_ble_eq_true rfl⟩) hP hS hA rfl hl.1 rfl (Nat.le_of_ble_eq_true rfl) dX12_cardsOf_9 ⟨Nat.le_refl _, Nat.le_refl _⟩ (fun H locs hP hS => ?_)
  refine W.eq (g2 := F0 m 12 ls [.int q2, .ref (a v0)]) rfl ?_
  obtain ⟨c3, hf⟩ := gdi_s hf
  refine g_ial hx hb hK (row_A hv0) c3 hP dX12_cardsOf_12 ?_
  refine lv_topi (fun x4 ex4 => ?_)
  have hf := nm_s hf ex4
  refine lv_istore_n (lv' := [(3, .int x4), (2, .int q1), (0, .ref (a v0)), (1, .int v1)]) hx hb dX12_cardsOf_13 rfl hl (by decide) rfl (fun ls hl => ?_)
  refine lv_aload_n hx hb dX12_cardsOf_14 rfl (lv_at hl 2 rfl) ?_
  refine lv_iload_n hx hb dX12_cardsOf_15 rfl (lv_at hl 3 rfl) ?_
  refine lv_iconst (v := 0) hx hb dX12_cardsOf_16 (by decide) ?_
  obtain ⟨q5, hq5, hf⟩ := bind_s hf
  refine g_callS (As := [.int v1, .int 0]) (rest := [.ref (a v0)]) hx hb hml hown hts hK hN (m_X12_of l D a C ha h v1 0  q5 hq5) (va_cwS 2 hts (gUS (u12_1 _ (List.mem_of_getElem? (i := 15) rfl)) (u12_1 _ (List.mem_of_getElem? (i := 16) rfl)) (u12_1 _ (List.mem_of_getElem? (i := 7) rfl)) (u12_1 _ (List.mem_of_getElem? (i := 3) rfl))) rfl rfl rfl kdX12_of.2 ⟨Nat.le_of_ble_eq_true rfl, Nat.le_of_ble_eq_true rfl⟩) hP hS hA rfl hl.1 rfl (Nat.le_of_ble_eq_true rfl) dX12_cardsOf_17 ⟨Nat.le_refl _, Nat.le_refl _⟩ (fun H locs hP hS => ?_)
  refine W.eq (g2 := F0 m 20 ls [.int q5, .ref (a v0)]) rfl ?_
  obtain ⟨c6, hf⟩ := gdi_s hf
  refine g_ial hx hb hK (row_A hv0) c6 hP dX12_cardsOf_20 ?_
  by_cases c7 : (aI h v0 q5.toNatClampNeg) = 1
  · have hf := if_t hf c7
    refine lv_tableIn (tgt := 64) hx hb dX12_cardsOf_21 (by rw [c7]; decide) (by rw [c7]; decide) (by rw [c7]; rfl) (by decide) ?_
    refine lv_iload_n hx hb dX12_cardsOf_64 rfl (lv_at hl 1 rfl) ?_
    refine lv_iconst (v := 2) hx hb dX12_cardsOf_65 (by decide) ?_
    refine lv_idiv hx hb dX12_cardsOf_66 (by decide) ?_
    exact g_iret hx hb hr hlk hP hS (ret1 hf) dX12_cardsOf_67
  have hf := if_f hf c7
  by_cases c8 : (aI h v0 q5.toNatClampNeg) = 2
  · have hf := if_t hf c8
    refine lv_tableIn (tgt := 68) hx hb dX12_cardsOf_21 (by rw [c8]; decide) (by rw [c8]; decide) (by rw [c8]; rfl) (by decide) ?_
    refine lv_iload_n hx hb dX12_cardsOf_68 rfl (lv_at hl 1 rfl) ?_
    refine lv_iload_n hx hb dX12_cardsOf_69 rfl (lv_at hl 0 rfl) ?_
    refine lv_iadd hx hb dX12_cardsOf_70 ?_
    exact g_iret hx hb hr hlk hP hS (ret1 hf) dX12_cardsOf_71
  have hf := if_f hf c8
  by_cases c9 : (aI h v0 q5.toNatClampNeg) = 3
  · have hf := if_t hf c9
    refine lv_tableIn (tgt := 72) hx hb dX12_cardsOf_21 (by rw [c9]; decide) (by rw [c9]; decide) (by rw [c9]; rfl) (by decide) ?_
    refine lv_iconst (v := 0) hx hb dX12_cardsOf_72 (by decide) ?_
    exact g_iret hx hb hr hlk hP hS (ret1 hf) dX12_cardsOf_73
  have hf := if_f hf c9
  by_cases c10 : (aI h v0 q5.toNatClampNeg) = 4
  · have hf := if_t hf c10
    refine lv_tableIn (tgt := 74) hx hb dX12_cardsOf_21 (by rw [c10]; decide) (by rw [c10]; decide) (by rw [c10]; rfl) (by decide) ?_
    refine lv_iconst (v := 2) hx hb dX12_cardsOf_74 (by decide) ?_
    refine lv_iload_n hx hb dX12_cardsOf_75 rfl (lv_at hl 1 rfl) ?_
    refine lv_iload_n hx hb dX12_cardsOf_76 rfl (lv_at hl 0 rfl) ?_
    refine lv_iadd hx hb dX12_cardsOf_77 ?_
    refine lv_imul hx hb dX12_cardsOf_78 ?_
    exact g_iret hx hb hr hlk hP hS (ret1 hf) dX12_cardsOf_79
  have hf := if_f hf c10
  by_cases c11 : (aI h v0 q5.toNatClampNeg) = 5
  · have hf := if_t hf c11
    refine lv_tableIn (tgt := 80) hx hb dX12_cardsOf_21 (by rw [c11]; decide) (by rw [c11]; decide) (by rw [c11]; rfl) (by decide) ?_
    refine lv_iload_n hx hb dX12_cardsOf_80 rfl (lv_at hl 1 rfl) ?_
    refine lv_iconst (v := 2) hx hb dX12_cardsOf_81 (by decide) ?_
    refine lv_idiv hx hb dX12_cardsOf_82 (by decide) ?_
    refine lv_iconst (v := 1) hx hb dX12_cardsOf_83 (by decide) ?_
    refine lv_iadd hx hb dX12_cardsOf_84 ?_
    exact g_iret hx hb hr hlk hP hS (ret1 hf) dX12_cardsOf_85
  have hf := if_f hf c11
  by_cases c12 : (aI h v0 q5.toNatClampNeg) = 6
  · have hf := if_t hf c12
    refine lv_tableIn (tgt := 86) hx hb dX12_cardsOf_21 (by rw [c12]; decide) (by rw [c12]; decide) (by rw [c12]; rfl) (by decide) ?_
    refine lv_iconst (v := 2) hx hb dX12_cardsOf_86 (by decide) ?_
    refine lv_iload_n hx hb dX12_cardsOf_87 rfl (lv_at hl 1 rfl) ?_
    refine lv_iload_n hx hb dX12_cardsOf_88 rfl (lv_at hl 0 rfl) ?_
    refine lv_iadd hx hb dX12_cardsOf_89 ?_
    refine lv_imul hx hb dX12_cardsOf_90 ?_
    refine lv_bipush (v := 11) hx hb dX12_cardsOf_91 (by decide) ?_
    refine lv_iadd hx hb dX12_cardsOf_93 ?_
    exact g_iret hx hb hr hlk hP hS (ret1 hf) dX12_cardsOf_94
  have hf := if_f hf c12
  by_cases c13 : (aI h v0 q5.toNatClampNeg) = 7
  · have hf := if_t hf c13
    refine lv_tableIn (tgt := 72) hx hb dX12_cardsOf_21 (by rw [c13]; decide) (by rw [c13]; decide) (by rw [c13]; rfl) (by decide) ?_
    refine lv_iconst (v := 0) hx hb dX12_cardsOf_72 (by decide) ?_
    exact g_iret hx hb hr hlk hP hS (ret1 hf) dX12_cardsOf_73
  have hf := if_f hf c13
  refine lv_tableOut (tgt := 95) hx hb dX12_cardsOf_21 (by have n0 := ti_nz (z := 1) (by decide) c7; have n1 := ti_nz (z := 2) (by decide) c8; have n2 := ti_nz (z := 3) (by decide) c9; have n3 := ti_nz (z := 4) (by decide) c10; have n4 := ti_nz (z := 5) (by decide) c11; have n5 := ti_nz (z := 6) (by decide) c12; have n6 := ti_nz (z := 7) (by decide) c13; omega) (by decide) ?_
  refine lv_iload_n hx hb dX12_cardsOf_95 rfl (lv_at hl 1 rfl) ?_
  exact g_iret hx hb hr hlk hP hS (ret1 hf) dX12_cardsOf_96

def X12_tells_B90 (v0 : Nat) (v1 : Int32) (k23 : Int32 → Int32 → HS → Option HS) (v2 : Int32) (v3 : Int32) (h : HS) : Option HS :=
    nm (v3 + 1) fun x25 =>
    k23 v2 x25 h
def X12_tells_B23 (v0 : Nat) (v1 : Int32) : Nat → Int32 → Int32 → HS → Option HS
  | 0, _, _, _ => none
  | fu + 1, v2, v3, h =>
    gdi 0 30 <|
    (if (aI h v0 (0 : Int32).toNatClampNeg) ≤ v3 then
    some h
    else
    (if v2 ≤ 0 then
    some h
    else
    (X12_of v1 2).bind fun q10 =>
    gdi q10 30 <|
    (X12_has (aI h v0 q10.toNatClampNeg) v3).bind fun q12 =>
    (if q12 = 0 then
    X12_tells_B90 v0 v1 (X12_tells_B23 v0 v1 fu) v2 v3 h
    else
    gdi 2 30 <|
    (X12_has (aI h v0 (2 : Int32).toNatClampNeg) v3).bind fun q15 =>
    (if q15 = 0 then
    (X12_isDeaf h v0 v3).bind fun q17 =>
    (if q17 = 0 then
    (X12_doesLike h v0 v1 v3).bind fun q19 =>
    (if q19 = 0 then
    X12_tells_B90 v0 v1 (X12_tells_B23 v0 v1 fu) v2 v3 h
    else
    gdi 2 30 <|
    gdi 2 30 <|
    nm (sA h v0 (upd (aI h v0) (2 : Int32).toNatClampNeg ((aI h v0 (2 : Int32).toNatClampNeg) ||| ((1 : Int32) <<< (v3 &&& 31))))) fun h22 =>
    nm (v2 + (-1)) fun x24 =>
    X12_tells_B90 v0 v1 (X12_tells_B23 v0 v1 fu) x24 v3 h22)
    else
    X12_tells_B90 v0 v1 (X12_tells_B23 v0 v1 fu) v2 v3 h)
    else
    X12_tells_B90 v0 v1 (X12_tells_B23 v0 v1 fu) v2 v3 h))))
def X12_tells (h : HS) (v0 : Nat) (v1 : Int32) : Option HS :=
    (X12_of v1 0).bind fun q1 =>
    gdi q1 30 <|
    (X12_of v1 1).bind fun q3 =>
    gdi q3 30 <|
    gdi 1 30 <|
    (X12_tellsBy (aI h v0 q1.toNatClampNeg) (aI h v0 q3.toNatClampNeg) (aI h v0 (1 : Int32).toNatClampNeg)).bind fun q6 =>
    X12_tells_B23 v0 v1 FU q6 0 h
def uX12_tells : List Cond := .code yX12_tells cX12_tells 4 none :: UU
def rmX12_tells : Room := { frames := 3, cells := 0, slots := 0, locals := 65 }
theorem kdX12_tells : yX12_tells.cls = RX12 ∧ yX12_tells.cls ≠ "java/lang/invoke/MethodHandle" ∧ yX12_tells.cls ≠ "java/lang/invoke/VarHandle" ∧ (parseMethodDescriptor yX12_tells.desc).map (fun d => d.parameters.length) = some 2 := by decide +kernel
set_option maxHeartbeats 4000000 in
set_option maxRecDepth 100000 in
theorem m_X12_tells (l : Launch) (D : va_G) (a : Nat → Nat) (C : Nat → ClassId) (ha : ginj a) (h : HS) (v0 : Nat) (v1 : Int32) (hv0 : isRow v0) (h' : HS) (hf : X12_tells h v0 v1 = some h') : gM l yX12_tells uX12_tells rmX12_tells D a C [.ref (a v0), .int v1] h none h' := by
  refine g_start (av := [.ref (a v0), .int v1]) (cc := cX12_tells) (maxL := 4) (rt := none) (by decide) rfl (Nat.le_of_ble_eq_true rfl) ?_
  intro p e s m below meth c hx hb hr hml hown hlk hts hP hK hN ls hl
  have hA : ∀ q, gA a q → gA a q := fun _ q => q
  have hS : va_S (gA a) s.heap s.heap [] := va_S.rf
  have hl : lv_has ls 4 [(0, .ref (a v0)), (1, .int v1)] := hl
  have J90 : ∀ (k23 : Int32 → Int32 → HS → Option HS) (hk23 : ∀ (v2 : Int32) (v3 : Int32) (h : HS), k23 v2 v3 h = some h' → gG p l e (headSpec uX12_tells rmX12_tells).room s m ([.ref (a v0), .int v1] : List Value).toArray below meth c (MQ below (gQ none D a C h') ([.ref (a v0), .int v1] : List Value).toArray s 0 0 (gA a)) D a C 4 h 23 [(0, .ref (a v0)), (1, .int v1), (2, .int v2), (3, .int v3)] []) (v2 : Int32) (v3 : Int32) (h : HS) (_ : X12_tells_B90 v0 v1 k23 v2 v3 h = some h'), gG p l e (headSpec uX12_tells rmX12_tells).room s m ([.ref (a v0), .int v1] : List Value).toArray below meth c (MQ below (gQ none D a C h') ([.ref (a v0), .int v1] : List Value).toArray s 0 0 (gA a)) D a C 4 h 90 [(0, .ref (a v0)), (1, .int v1), (2, .int v2), (3, .int v3)] [] := by
    intro k23 hk23 v2 v3 h hf H locs ls hP hS hl
    unfold X12_tells_B90 at hf
    obtain ⟨x25, ex25⟩ : ∃ y : Int32, y = (v3 + 1) := ⟨_, rfl⟩
    have hf := nm_s hf ex25
    refine lv_iinc (v := x25) (lv' := [(3, .int x25), (0, .ref (a v0)), (1, .int v1), (2, .int v2)]) hx hb dX12_tells_90 hl (k := 3) rfl (by rw [ex25]; rfl) (by decide) rfl (fun ls hl => ?_)
    refine lv_goto (tgt := 23) hx hb dX12_tells_93 (by decide) ?_
    exact hk23 v2 x25 h hf H locs ls hP hS (lv_sub hl [1, 2, 3, 0] rfl)
  have J23 : ∀ (fu : Nat) (v2 : Int32) (v3 : Int32) (h : HS), X12_tells_B23 v0 v1 fu v2 v3 h = some h' → gG p l e (headSpec uX12_tells rmX12_tells).room s m ([.ref (a v0), .int v1] : List Value).toArray below meth c (MQ below (gQ none D a C h') ([.ref (a v0), .int v1] : List Value).toArray s 0 0 (gA a)) D a C 4 h 23 [(0, .ref (a v0)), (1, .int v1), (2, .int v2), (3, .int v3)] [] := by
    intro fu
    induction fu with
    | zero => intro v2 v3 h hf; exact absurd hf (by simp [X12_tells_B23])
    | succ fu ih =>
      intro v2 v3 h hf H locs ls hP hS hl
      rw [X12_tells_B23] at hf
      refine lv_iload_n hx hb dX12_tells_23 rfl (lv_at hl 3 rfl) ?_
      refine lv_aload_n hx hb dX12_tells_24 rfl (lv_at hl 0 rfl) ?_
      refine lv_iconst (v := 0) hx hb dX12_tells_25 (by decide) ?_
      obtain ⟨c7, hf⟩ := gdi_s hf
      refine g_ial hx hb hK (row_A hv0) c7 hP dX12_tells_26 ?_
      refine lv_icmp_ge (tgt := 96) hx hb dX12_tells_27 (by decide) (fun c8 => ?_) (fun c8 => ?_)
      · have hf := if_t hf c8
        exact g_vret hx hb hr hlk hP hS (ret1 hf) dX12_tells_96
      · have hf := if_f hf c8
        refine lv_iload_n hx hb dX12_tells_30 rfl (lv_at hl 2 rfl) ?_
        refine lv_if_le (tgt := 96) hx hb dX12_tells_31 (by decide) (fun c9 => ?_) (fun c9 => ?_)
        · have hf := if_t hf c9
          exact g_vret hx hb hr hlk hP hS (ret1 hf) dX12_tells_96
        · have hf := if_f hf c9
          refine lv_aload_n hx hb dX12_tells_34 rfl (lv_at hl 0 rfl) ?_
          refine lv_iload_n hx hb dX12_tells_35 rfl (lv_at hl 1 rfl) ?_
          refine lv_iconst (v := 2) hx hb dX12_tells_36 (by decide) ?_
          obtain ⟨q10, hq10, hf⟩ := bind_s hf
          refine g_callS (As := [.int v1, .int 2]) (rest := [.ref (a v0)]) hx hb hml hown hts hK hN (m_X12_of l D a C ha h v1 2  q10 hq10) (va_cwS 2 hts (gUS (u12_1 _ (List.mem_of_getElem? (i := 15) rfl)) (u12_1 _ (List.mem_of_getElem? (i := 16) rfl)) (u12_1 _ (List.mem_of_getElem? (i := 7) rfl)) (u12_1 _ (List.mem_of_getElem? (i := 3) rfl))) rfl rfl rfl kdX12_of.2 ⟨Nat.le_of_ble_eq_true rfl, Nat.le_of_ble_eq_true rfl⟩) hP hS hA rfl hl.1 rfl (Nat.le_of_ble_eq_true rfl) dX12_tells_37 ⟨Nat.le_refl _, Nat.le_refl _⟩ (fun H locs hP hS => ?_)
          refine W.eq (g2 := F0 m 40 ls [.int q10, .ref (a v0)]) rfl ?_
          obtain ⟨c11, hf⟩ := gdi_s hf
          refine g_ial hx hb hK (row_A hv0) c11 hP dX12_tells_40 ?_
          refine lv_iload_n hx hb dX12_tells_41 rfl (lv_at hl 3 rfl) ?_
          obtain ⟨q12, hq12, hf⟩ := bind_s hf
          refine g_callS (As := [.int (aI h v0 q10.toNatClampNeg), .int v3]) (rest := []) hx hb hml hown hts hK hN (m_X12_has l D a C ha h (aI h v0 q10.toNatClampNeg) v3  q12 hq12) (va_cwS 2 hts (gUS (u12_2 _ (List.mem_of_getElem? (i := 8) rfl)) (u12_2 _ (List.mem_of_getElem? (i := 9) rfl)) (u12_1 _ (List.mem_of_getElem? (i := 7) rfl)) (u12_1 _ (List.mem_of_getElem? (i := 12) rfl))) rfl rfl rfl kdX12_has.2 ⟨Nat.le_of_ble_eq_true rfl, Nat.le_of_ble_eq_true rfl⟩) hP hS hA rfl hl.1 rfl (Nat.le_of_ble_eq_true rfl) dX12_tells_42 ⟨Nat.le_refl _, Nat.le_refl _⟩ (fun H locs hP hS => ?_)
          refine W.eq (g2 := F0 m 45 ls [.int q12]) rfl ?_
          refine lv_if_eq (tgt := 90) hx hb dX12_tells_45 (by decide) (fun c13 => ?_) (fun c13 => ?_)
          · have hf := if_t hf c13
            exact J90 (X12_tells_B23 v0 v1 fu) ih v2 v3 h hf H locs ls hP hS (lv_sub hl [0, 1, 2, 3] rfl)
          · have hf := if_f hf c13
            refine lv_aload_n hx hb dX12_tells_48 rfl (lv_at hl 0 rfl) ?_
            refine lv_iconst (v := 2) hx hb dX12_tells_49 (by decide) ?_
            obtain ⟨c14, hf⟩ := gdi_s hf
            refine g_ial hx hb hK (row_A hv0) c14 hP dX12_tells_50 ?_
            refine lv_iload_n hx hb dX12_tells_51 rfl (lv_at hl 3 rfl) ?_
            obtain ⟨q15, hq15, hf⟩ := bind_s hf
            refine g_callS (As := [.int (aI h v0 (2 : Int32).toNatClampNeg), .int v3]) (rest := []) hx hb hml hown hts hK hN (m_X12_has l D a C ha h (aI h v0 (2 : Int32).toNatClampNeg) v3  q15 hq15) (va_cwS 2 hts (gUS (u12_2 _ (List.mem_of_getElem? (i := 8) rfl)) (u12_2 _ (List.mem_of_getElem? (i := 9) rfl)) (u12_1 _ (List.mem_of_getElem? (i := 7) rfl)) (u12_1 _ (List.mem_of_getElem? (i := 12) rfl))) rfl rfl rfl kdX12_has.2 ⟨Nat.le_of_ble_eq_true rfl, Nat.le_of_ble_eq_true rfl⟩) hP hS hA rfl hl.1 rfl (Nat.le_of_ble_eq_true rfl) dX12_tells_52 ⟨Nat.le_refl _, Nat.le_refl _⟩ (fun H locs hP hS => ?_)
            refine W.eq (g2 := F0 m 55 ls [.int q15]) rfl ?_
            refine lv_if_ne (tgt := 90) hx hb dX12_tells_55 (by decide) (fun c16 => ?_) (fun c16 => ?_)
            · have hf := if_f hf c16
              exact J90 (X12_tells_B23 v0 v1 fu) ih v2 v3 h hf H locs ls hP hS (lv_sub hl [0, 1, 2, 3] rfl)
            · have hf := if_t hf c16
              refine lv_aload_n hx hb dX12_tells_58 rfl (lv_at hl 0 rfl) ?_
              refine lv_iload_n hx hb dX12_tells_59 rfl (lv_at hl 3 rfl) ?_
              obtain ⟨q17, hq17, hf⟩ := bind_s hf
              refine g_callS (As := [.ref (a v0), .int v3]) (rest := []) hx hb hml hown hts hK hN (m_X12_isDeaf l D a C ha h v0 v3 hv0 q17 hq17) (va_cwS 2 hts (gUS (u12_2 _ (List.mem_of_getElem? (i := 10) rfl)) (u12_2 _ (List.mem_of_getElem? (i := 11) rfl)) (u12_1 _ (List.mem_of_getElem? (i := 7) rfl)) (u12_1 _ (List.mem_of_getElem? (i := 19) rfl))) rfl rfl rfl kdX12_isDeaf.2 ⟨Nat.le_of_ble_eq_true rfl, Nat.le_of_ble_eq_true rfl⟩) hP hS hA rfl hl.1 rfl (Nat.le_of_ble_eq_true rfl) dX12_tells_60 ⟨Nat.le_refl _, Nat.le_refl _⟩ (fun H locs hP hS => ?_)
              refine W.eq (g2 := F0 m 63 ls [.int q17]) rfl ?_
              refine lv_if_ne (tgt := 90) hx hb dX12_tells_63 (by decide) (fun c18 => ?_) (fun c18 => ?_)
              · have hf := if_f hf c18
                exact J90 (X12_tells_B23 v0 v1 fu) ih v2 v3 h hf H locs ls hP hS (lv_sub hl [0, 1, 2, 3] rfl)
              · have hf := if_t hf c18
                refine lv_aload_n hx hb dX12_tells_66 rfl (lv_at hl 0 rfl) ?_
                refine lv_iload_n hx hb dX12_tells_67 rfl (lv_at hl 1 rfl) ?_
                refine lv_iload_n hx hb dX12_tells_68 rfl (lv_at hl 3 rfl) ?_
                obtain ⟨q19, hq19, hf⟩ := bind_s hf
                refine g_callS (As := [.ref (a v0), .int v1, .int v3]) (rest := []) hx hb hml hown hts hK hN (m_X12_doesLike l D a C ha h v0 v1 v3 hv0 q19 hq19) (va_cwS 3 hts (gUS (u12_2 _ (List.mem_of_getElem? (i := 12) rfl)) (u12_2 _ (List.mem_of_getElem? (i := 13) rfl)) (u12_1 _ (List.mem_of_getElem? (i := 7) rfl)) (u12_2 _ (List.mem_of_getElem? (i := 1) rfl))) rfl rfl rfl kdX12_doesLike.2 ⟨Nat.le_of_ble_eq_true rfl, Nat.le_of_ble_eq_true rfl⟩) hP hS hA rfl hl.1 rfl (Nat.le_of_ble_eq_true rfl) dX12_tells_69 ⟨Nat.le_refl _, Nat.le_refl _⟩ (fun H locs hP hS => ?_)
                refine W.eq (g2 := F0 m 72 ls [.int q19]) rfl ?_
                refine lv_if_ne (tgt := 78) hx hb dX12_tells_72 (by decide) (fun c20 => ?_) (fun c20 => ?_)
                · have hf := if_f hf c20
                  refine lv_aload_n hx hb dX12_tells_78 rfl (lv_at hl 0 rfl) ?_
                  refine lv_iconst (v := 2) hx hb dX12_tells_79 (by decide) ?_
                  refine lv_dup2_11 hx hb dX12_tells_80 rfl rfl ?_
                  obtain ⟨c21, hf⟩ := gdi_s hf
                  refine g_ial hx hb hK (row_A hv0) c21 hP dX12_tells_81 ?_
                  refine lv_iconst (v := 1) hx hb dX12_tells_82 (by decide) ?_
                  refine lv_iload_n hx hb dX12_tells_83 rfl (lv_at hl 3 rfl) ?_
                  refine lv_ishl hx hb dX12_tells_84 ?_
                  refine lv_ior hx hb dX12_tells_85 ?_
                  obtain ⟨c23, hf⟩ := gdi_s hf
                  refine g_ias hx hb hK ha hA (row_A hv0) c23 hP hS dX12_tells_86 (fun H locs hP hS => ?_)
                  obtain ⟨h22, eh22⟩ : ∃ x, x = (sA h v0 (upd (aI h v0) (2 : Int32).toNatClampNeg ((aI h v0 (2 : Int32).toNatClampNeg) ||| ((1 : Int32) <<< (v3 &&& 31))))) := ⟨_, rfl⟩
                  rw [← eh22] at hP
                  have hf := nm_s hf eh22
                  obtain ⟨x24, ex24⟩ : ∃ y : Int32, y = (v2 + (-1)) := ⟨_, rfl⟩
                  have hf := nm_s hf ex24
                  refine lv_iinc (v := x24) (lv' := [(2, .int x24), (0, .ref (a v0)), (1, .int v1), (3, .int v3)]) hx hb dX12_tells_87 hl (k := 2) rfl (by rw [ex24]; rfl) (by decide) rfl (fun ls hl => ?_)
                  exact J90 (X12_tells_B23 v0 v1 fu) ih x24 v3 h22 hf H locs ls hP hS (lv_sub hl [1, 2, 0, 3] rfl)
                · have hf := if_t hf c20
                  refine lv_goto (tgt := 90) hx hb dX12_tells_75 (by decide) ?_
                  exact J90 (X12_tells_B23 v0 v1 fu) ih v2 v3 h hf H locs ls hP hS (lv_sub hl [0, 1, 2, 3] rfl)
  unfold X12_tells at hf
  suffices hh : ∀ (H : Heap) (locs : List Loc), va_P D vwCl (gw a C h) H → va_S (gA a) s.heap H locs → W p l e (headSpec uX12_tells rmX12_tells).room s m ([.ref (a v0), .int v1] : List Value).toArray below meth c H locs 0 0 (MQ below (gQ none D a C h') ([.ref (a v0), .int v1] : List Value).toArray s 0 0 (gA a)) (F0 m 0 ls []) from hh _ _ hP hS
  intro H locs hP hS
  refine lv_aload_n hx hb dX12_tells_0 rfl (lv_at hl 0 rfl) ?_
  refine lv_iload_n hx hb dX12_tells_1 rfl (lv_at hl 1 rfl) ?_
  refine lv_iconst (v := 0) hx hb dX12_tells_2 (by decide) ?_
  obtain ⟨q1, hq1, hf⟩ := bind_s hf
  refine g_callS (As := [.int v1, .int 0]) (rest := [.ref (a v0)]) hx hb hml hown hts hK hN (m_X12_of l D a C ha h v1 0  q1 hq1) (va_cwS 2 hts (gUS (u12_1 _ (List.mem_of_getElem? (i := 15) rfl)) (u12_1 _ (List.mem_of_getElem? (i := 16) rfl)) (u12_1 _ (List.mem_of_getElem? (i := 7) rfl)) (u12_1 _ (List.mem_of_getElem? (i := 3) rfl))) rfl rfl rfl kdX12_of.2 ⟨Nat.le_of_ble_eq_true rfl, Nat.le_of_ble_eq_true rfl⟩) hP hS hA rfl hl.1 rfl (Nat.le_of_ble_eq_true rfl) dX12_tells_3 ⟨Nat.le_refl _, Nat.le_refl _⟩ (fun H locs hP hS => ?_)
  refine W.eq (g2 := F0 m 6 ls [.int q1, .ref (a v0)]) rfl ?_
  obtain ⟨c2, hf⟩ := gdi_s hf
  refine g_ial hx hb hK (row_A hv0) c2 hP dX12_tells_6 ?_
  refine lv_aload_n hx hb dX12_tells_7 rfl (lv_at hl 0 rfl) ?_
  refine lv_iload_n hx hb dX12_tells_8 rfl (lv_at hl 1 rfl) ?_
  refine lv_iconst (v := 1) hx hb dX12_tells_9 (by decide) ?_
  obtain ⟨q3, hq3, hf⟩ := bind_s hf
  refine g_callS (As := [.int v1, .int 1]) (rest := [.ref (a v0), .int (aI h v0 q1.toNatClampNeg)]) hx hb hml hown hts hK hN (m_X12_of l D a C ha h v1 1  q3 hq3) (va_cwS 2 hts (gUS (u12_1 _ (List.mem_of_getElem? (i := 15) rfl)) (u12_1 _ (List.mem_of_getElem? (i := 16) rfl)) (u12_1 _ (List.mem_of_getElem? (i := 7) rfl)) (u12_1 _ (List.mem_of_getElem? (i := 3) rfl))) rfl rfl rfl kdX12_of.2 ⟨Nat.le_of_ble_eq_true rfl, Nat.le_of_ble_eq_true rfl⟩) hP hS hA rfl hl.1 rfl (Nat.le_of_ble_eq_true rfl) dX12_tells_10 ⟨Nat.le_refl _, Nat.le_refl _⟩ (fun H locs hP hS => ?_)
  refine W.eq (g2 := F0 m 13 ls [.int q3, .ref (a v0), .int (aI h v0 q1.toNatClampNeg)]) rfl ?_
  obtain ⟨c4, hf⟩ := gdi_s hf
  refine g_ial hx hb hK (row_A hv0) c4 hP dX12_tells_13 ?_
  refine lv_aload_n hx hb dX12_tells_14 rfl (lv_at hl 0 rfl) ?_
  refine lv_iconst (v := 1) hx hb dX12_tells_15 (by decide) ?_
  obtain ⟨c5, hf⟩ := gdi_s hf
  refine g_ial hx hb hK (row_A hv0) c5 hP dX12_tells_16 ?_
  obtain ⟨q6, hq6, hf⟩ := bind_s hf
  refine g_callS (As := [.int (aI h v0 q1.toNatClampNeg), .int (aI h v0 q3.toNatClampNeg), .int (aI h v0 (1 : Int32).toNatClampNeg)]) (rest := []) hx hb hml hown hts hK hN (m_X12_tellsBy l D a C ha h (aI h v0 q1.toNatClampNeg) (aI h v0 q3.toNatClampNeg) (aI h v0 (1 : Int32).toNatClampNeg)  q6 hq6) (va_cwS 3 hts (gUS (u12_2 _ (List.mem_of_getElem? (i := 6) rfl)) (u12_2 _ (List.mem_of_getElem? (i := 7) rfl)) (u12_1 _ (List.mem_of_getElem? (i := 7) rfl)) (u12_2 _ (List.mem_of_getElem? (i := 0) rfl))) rfl rfl rfl kdX12_tellsBy.2 ⟨Nat.le_of_ble_eq_true rfl, Nat.le_of_ble_eq_true rfl⟩) hP hS hA rfl hl.1 rfl (Nat.le_of_ble_eq_true rfl) dX12_tells_17 ⟨Nat.le_refl _, Nat.le_refl _⟩ (fun H locs hP hS => ?_)
  refine W.eq (g2 := F0 m 20 ls [.int q6]) rfl ?_
  refine lv_istore_n (lv' := [(2, .int q6), (0, .ref (a v0)), (1, .int v1)]) hx hb dX12_tells_20 rfl hl (by decide) rfl (fun ls hl => ?_)
  refine lv_iconst (v := 0) hx hb dX12_tells_21 (by decide) ?_
  refine lv_istore_n (lv' := [(3, .int 0), (2, .int q6), (0, .ref (a v0)), (1, .int v1)]) hx hb dX12_tells_22 rfl hl (by decide) rfl (fun ls hl => ?_)
  exact J23 FU q6 0 h hf H locs ls hP hS (lv_sub hl [2, 3, 1, 0] rfl)

def X12_day_B41 (v0 : Nat) (v1 : Int32) (k13 : Int32 → Int32 → HS → Option HS) (v2 : Int32) (v3 : Int32) (h : HS) : Option HS :=
    nm (v3 + 1) fun x13 =>
    k13 v2 x13 h
def X12_day_B13 (v0 : Nat) (v1 : Int32) : Nat → Int32 → Int32 → HS → Option HS
  | 0, _, _, _ => none
  | fu + 1, v2, v3, h =>
    gdi 0 30 <|
    (if (aI h v0 (0 : Int32).toNatClampNeg) ≤ v3 then
    some h
    else
    (X12_has v2 v3).bind fun q8 =>
    (if q8 = 0 then
    X12_day_B41 v0 v1 (X12_day_B13 v0 v1 fu) v2 v3 h
    else
    (X12_has v1 v3).bind fun q10 =>
    (if q10 = 0 then
    (X12_tells h v0 v3).bind fun q12 =>
    X12_day_B41 v0 v1 (X12_day_B13 v0 v1 fu) v2 v3 q12
    else
    X12_day_B41 v0 v1 (X12_day_B13 v0 v1 fu) v2 v3 h)))
def X12_day (h : HS) (v0 : Nat) (v1 : Int32) : Option HS :=
    gdi 1 30 <|
    gdi 1 30 <|
    nm (sA h v0 (upd (aI h v0) (1 : Int32).toNatClampNeg ((aI h v0 (1 : Int32).toNatClampNeg) + 1))) fun h2 =>
    gdi 2 30 <|
    nm (aI h2 v0 (2 : Int32).toNatClampNeg) fun x5 =>
    X12_day_B13 v0 v1 FU x5 0 h2
def uX12_day : List Cond := .code yX12_day cX12_day 4 none :: UU
def rmX12_day : Room := { frames := 4, cells := 0, slots := 0, locals := 88 }
theorem kdX12_day : yX12_day.cls = RX12 ∧ yX12_day.cls ≠ "java/lang/invoke/MethodHandle" ∧ yX12_day.cls ≠ "java/lang/invoke/VarHandle" ∧ (parseMethodDescriptor yX12_day.desc).map (fun d => d.parameters.length) = some 2 := by decide +kernel
set_option maxHeartbeats 4000000 in
set_option maxRecDepth 100000 in
theorem m_X12_day (l : Launch) (D : va_G) (a : Nat → Nat) (C : Nat → ClassId) (ha : ginj a) (h : HS) (v0 : Nat) (v1 : Int32) (hv0 : isRow v0) (h' : HS) (hf : X12_day h v0 v1 = some h') : gM l yX12_day uX12_day rmX12_day D a C [.ref (a v0), .int v1] h none h' := by
  refine g_start (av := [.ref (a v0), .int v1]) (cc := cX12_day) (maxL := 4) (rt := none) (by decide) rfl (Nat.le_of_ble_eq_true rfl) ?_
  intro p e s m below meth c hx hb hr hml hown hlk hts hP hK hN ls hl
  have hA : ∀ q, gA a q → gA a q := fun _ q => q
  have hS : va_S (gA a) s.heap s.heap [] := va_S.rf
  have hl : lv_has ls 4 [(0, .ref (a v0)), (1, .int v1)] := hl
  have J41 : ∀ (k13 : Int32 → Int32 → HS → Option HS) (hk13 : ∀ (v2 : Int32) (v3 : Int32) (h : HS), k13 v2 v3 h = some h' → gG p l e (headSpec uX12_day rmX12_day).room s m ([.ref (a v0), .int v1] : List Value).toArray below meth c (MQ below (gQ none D a C h') ([.ref (a v0), .int v1] : List Value).toArray s 0 0 (gA a)) D a C 4 h 13 [(0, .ref (a v0)), (1, .int v1), (2, .int v2), (3, .int v3)] []) (v2 : Int32) (v3 : Int32) (h : HS) (_ : X12_day_B41 v0 v1 k13 v2 v3 h = some h'), gG p l e (headSpec uX12_day rmX12_day).room s m ([.ref (a v0), .int v1] : List Value).toArray below meth c (MQ below (gQ none D a C h') ([.ref (a v0), .int v1] : List Value).toArray s 0 0 (gA a)) D a C 4 h 41 [(0, .ref (a v0)), (1, .int v1), (2, .int v2), (3, .int v3)] [] := by
    intro k13 hk13 v2 v3 h hf H locs ls hP hS hl
    unfold X12_day_B41 at hf
    obtain ⟨x13, ex13⟩ : ∃ y : Int32, y = (v3 + 1) := ⟨_, rfl⟩
    have hf := nm_s hf ex13
    refine lv_iinc (v := x13) (lv' := [(3, .int x13), (0, .ref (a v0)), (1, .int v1), (2, .int v2)]) hx hb dX12_day_41 hl (k := 3) rfl (by rw [ex13]; rfl) (by decide) rfl (fun ls hl => ?_)
    refine lv_goto (tgt := 13) hx hb dX12_day_44 (by decide) ?_
    exact hk13 v2 x13 h hf H locs ls hP hS (lv_sub hl [1, 2, 3, 0] rfl)
  have J13 : ∀ (fu : Nat) (v2 : Int32) (v3 : Int32) (h : HS), X12_day_B13 v0 v1 fu v2 v3 h = some h' → gG p l e (headSpec uX12_day rmX12_day).room s m ([.ref (a v0), .int v1] : List Value).toArray below meth c (MQ below (gQ none D a C h') ([.ref (a v0), .int v1] : List Value).toArray s 0 0 (gA a)) D a C 4 h 13 [(0, .ref (a v0)), (1, .int v1), (2, .int v2), (3, .int v3)] [] := by
    intro fu
    induction fu with
    | zero => intro v2 v3 h hf; exact absurd hf (by simp [X12_day_B13])
    | succ fu ih =>
      intro v2 v3 h hf H locs ls hP hS hl
      rw [X12_day_B13] at hf
      refine lv_iload_n hx hb dX12_day_13 rfl (lv_at hl 3 rfl) ?_
      refine lv_aload_n hx hb dX12_day_14 rfl (lv_at hl 0 rfl) ?_
      refine lv_iconst (v := 0) hx hb dX12_day_15 (by decide) ?_
      obtain ⟨c6, hf⟩ := gdi_s hf
      refine g_ial hx hb hK (row_A hv0) c6 hP dX12_day_16 ?_
      refine lv_icmp_ge (tgt := 47) hx hb dX12_day_17 (by decide) (fun c7 => ?_) (fun c7 => ?_)
      · have hf := if_t hf c7
        exact g_vret hx hb hr hlk hP hS (ret1 hf) dX12_day_47
      · have hf := if_f hf c7
        refine lv_iload_n hx hb dX12_day_20 rfl (lv_at hl 2 rfl) ?_
        refine lv_iload_n hx hb dX12_day_21 rfl (lv_at hl 3 rfl) ?_
        obtain ⟨q8, hq8, hf⟩ := bind_s hf
        refine g_callS (As := [.int v2, .int v3]) (rest := []) hx hb hml hown hts hK hN (m_X12_has l D a C ha h v2 v3  q8 hq8) (va_cwS 2 hts (gUS (u12_2 _ (List.mem_of_getElem? (i := 8) rfl)) (u12_2 _ (List.mem_of_getElem? (i := 9) rfl)) (u12_1 _ (List.mem_of_getElem? (i := 7) rfl)) (u12_1 _ (List.mem_of_getElem? (i := 12) rfl))) rfl rfl rfl kdX12_has.2 ⟨Nat.le_of_ble_eq_true rfl, Nat.le_of_ble_eq_true rfl⟩) hP hS hA rfl hl.1 rfl (Nat.le_of_ble_eq_true rfl) dX12_day_22 ⟨Nat.le_refl _, Nat.le_refl _⟩ (fun H locs hP hS => ?_)
        refine W.eq (g2 := F0 m 25 ls [.int q8]) rfl ?_
        refine lv_if_eq (tgt := 41) hx hb dX12_day_25 (by decide) (fun c9 => ?_) (fun c9 => ?_)
        · have hf := if_t hf c9
          exact J41 (X12_day_B13 v0 v1 fu) ih v2 v3 h hf H locs ls hP hS (lv_sub hl [0, 1, 2, 3] rfl)
        · have hf := if_f hf c9
          refine lv_iload_n hx hb dX12_day_28 rfl (lv_at hl 1 rfl) ?_
          refine lv_iload_n hx hb dX12_day_29 rfl (lv_at hl 3 rfl) ?_
          obtain ⟨q10, hq10, hf⟩ := bind_s hf
          refine g_callS (As := [.int v1, .int v3]) (rest := []) hx hb hml hown hts hK hN (m_X12_has l D a C ha h v1 v3  q10 hq10) (va_cwS 2 hts (gUS (u12_2 _ (List.mem_of_getElem? (i := 8) rfl)) (u12_2 _ (List.mem_of_getElem? (i := 9) rfl)) (u12_1 _ (List.mem_of_getElem? (i := 7) rfl)) (u12_1 _ (List.mem_of_getElem? (i := 12) rfl))) rfl rfl rfl kdX12_has.2 ⟨Nat.le_of_ble_eq_true rfl, Nat.le_of_ble_eq_true rfl⟩) hP hS hA rfl hl.1 rfl (Nat.le_of_ble_eq_true rfl) dX12_day_30 ⟨Nat.le_refl _, Nat.le_refl _⟩ (fun H locs hP hS => ?_)
          refine W.eq (g2 := F0 m 33 ls [.int q10]) rfl ?_
          refine lv_if_ne (tgt := 41) hx hb dX12_day_33 (by decide) (fun c11 => ?_) (fun c11 => ?_)
          · have hf := if_f hf c11
            exact J41 (X12_day_B13 v0 v1 fu) ih v2 v3 h hf H locs ls hP hS (lv_sub hl [0, 1, 2, 3] rfl)
          · have hf := if_t hf c11
            refine lv_aload_n hx hb dX12_day_36 rfl (lv_at hl 0 rfl) ?_
            refine lv_iload_n hx hb dX12_day_37 rfl (lv_at hl 3 rfl) ?_
            obtain ⟨q12, hq12, hf⟩ := bind_s hf
            refine g_callS (As := [.ref (a v0), .int v3]) (rest := []) hx hb hml hown hts hK hN (m_X12_tells l D a C ha h v0 v3 hv0 q12 hq12) (va_cwS 2 hts (gUS (u12_2 _ (List.mem_of_getElem? (i := 14) rfl)) (u12_2 _ (List.mem_of_getElem? (i := 15) rfl)) (u12_1 _ (List.mem_of_getElem? (i := 7) rfl)) (u12_2 _ (List.mem_of_getElem? (i := 5) rfl))) rfl rfl rfl kdX12_tells.2 ⟨Nat.le_of_ble_eq_true rfl, Nat.le_of_ble_eq_true rfl⟩) hP hS hA rfl hl.1 rfl (Nat.le_of_ble_eq_true rfl) dX12_day_38 ⟨Nat.le_refl _, Nat.le_refl _⟩ (fun H locs hP hS => ?_)
            refine W.eq (g2 := F0 m 41 ls []) rfl ?_
            exact J41 (X12_day_B13 v0 v1 fu) ih v2 v3 q12 hf H locs ls hP hS (lv_sub hl [0, 1, 2, 3] rfl)
  unfold X12_day at hf
  suffices hh : ∀ (H : Heap) (locs : List Loc), va_P D vwCl (gw a C h) H → va_S (gA a) s.heap H locs → W p l e (headSpec uX12_day rmX12_day).room s m ([.ref (a v0), .int v1] : List Value).toArray below meth c H locs 0 0 (MQ below (gQ none D a C h') ([.ref (a v0), .int v1] : List Value).toArray s 0 0 (gA a)) (F0 m 0 ls []) from hh _ _ hP hS
  intro H locs hP hS
  refine lv_aload_n hx hb dX12_day_0 rfl (lv_at hl 0 rfl) ?_
  refine lv_iconst (v := 1) hx hb dX12_day_1 (by decide) ?_
  refine lv_dup2_11 hx hb dX12_day_2 rfl rfl ?_
  obtain ⟨c1, hf⟩ := gdi_s hf
  refine g_ial hx hb hK (row_A hv0) c1 hP dX12_day_3 ?_
  refine lv_iconst (v := 1) hx hb dX12_day_4 (by decide) ?_
  refine lv_iadd hx hb dX12_day_5 ?_
  obtain ⟨c3, hf⟩ := gdi_s hf
  refine g_ias hx hb hK ha hA (row_A hv0) c3 hP hS dX12_day_6 (fun H locs hP hS => ?_)
  obtain ⟨h2, eh2⟩ : ∃ x, x = (sA h v0 (upd (aI h v0) (1 : Int32).toNatClampNeg ((aI h v0 (1 : Int32).toNatClampNeg) + 1))) := ⟨_, rfl⟩
  rw [← eh2] at hP
  have hf := nm_s hf eh2
  refine lv_aload_n hx hb dX12_day_7 rfl (lv_at hl 0 rfl) ?_
  refine lv_iconst (v := 2) hx hb dX12_day_8 (by decide) ?_
  obtain ⟨c4, hf⟩ := gdi_s hf
  refine g_ial hx hb hK (row_A hv0) c4 hP dX12_day_9 ?_
  refine lv_topi (fun x5 ex5 => ?_)
  have hf := nm_s hf ex5
  refine lv_istore_n (lv' := [(2, .int x5), (0, .ref (a v0)), (1, .int v1)]) hx hb dX12_day_10 rfl hl (by decide) rfl (fun ls hl => ?_)
  refine lv_iconst (v := 0) hx hb dX12_day_11 (by decide) ?_
  refine lv_istore_n (lv' := [(3, .int 0), (2, .int x5), (0, .ref (a v0)), (1, .int v1)]) hx hb dX12_day_12 rfl hl (by decide) rfl (fun ls hl => ?_)
  exact J13 FU x5 0 h2 hf H locs ls hP hS (lv_sub hl [2, 3, 1, 0] rfl)

def X12_daysOn_B2 (v0 : Nat) (v1 : Int32) : Nat → Int32 → HS → Option HS
  | 0, _, _ => none
  | fu + 1, v2, h =>
    (if v1 ≤ v2 then
    some h
    else
    (X12_day h v0 0).bind fun q2 =>
    nm (v2 + 1) fun x3 =>
    (X12_daysOn_B2 v0 v1 fu) x3 q2)
def X12_daysOn (h : HS) (v0 : Nat) (v1 : Int32) : Option HS :=
    X12_daysOn_B2 v0 v1 FU 0 h
def uX12_daysOn : List Cond := .code yX12_daysOn cX12_daysOn 3 none :: UU
def rmX12_daysOn : Room := { frames := 5, cells := 0, slots := 0, locals := 111 }
theorem kdX12_daysOn : yX12_daysOn.cls = RX12 ∧ yX12_daysOn.cls ≠ "java/lang/invoke/MethodHandle" ∧ yX12_daysOn.cls ≠ "java/lang/invoke/VarHandle" ∧ (parseMethodDescriptor yX12_daysOn.desc).map (fun d => d.parameters.length) = some 2 := by decide +kernel
set_option maxHeartbeats 4000000 in
set_option maxRecDepth 100000 in
theorem m_X12_daysOn (l : Launch) (D : va_G) (a : Nat → Nat) (C : Nat → ClassId) (ha : ginj a) (h : HS) (v0 : Nat) (v1 : Int32) (hv0 : isRow v0) (h' : HS) (hf : X12_daysOn h v0 v1 = some h') : gM l yX12_daysOn uX12_daysOn rmX12_daysOn D a C [.ref (a v0), .int v1] h none h' := by
  refine g_start (av := [.ref (a v0), .int v1]) (cc := cX12_daysOn) (maxL := 3) (rt := none) (by decide) rfl (Nat.le_of_ble_eq_true rfl) ?_
  intro p e s m below meth c hx hb hr hml hown hlk hts hP hK hN ls hl
  have hA : ∀ q, gA a q → gA a q := fun _ q => q
  have hS : va_S (gA a) s.heap s.heap [] := va_S.rf
  have hl : lv_has ls 3 [(0, .ref (a v0)), (1, .int v1)] := hl
  have J2 : ∀ (fu : Nat) (v2 : Int32) (h : HS), X12_daysOn_B2 v0 v1 fu v2 h = some h' → gG p l e (headSpec uX12_daysOn rmX12_daysOn).room s m ([.ref (a v0), .int v1] : List Value).toArray below meth c (MQ below (gQ none D a C h') ([.ref (a v0), .int v1] : List Value).toArray s 0 0 (gA a)) D a C 3 h 2 [(0, .ref (a v0)), (1, .int v1), (2, .int v2)] [] := by
    intro fu
    induction fu with
    | zero => intro v2 h hf; exact absurd hf (by simp [X12_daysOn_B2])
    | succ fu ih =>
      intro v2 h hf H locs ls hP hS hl
      rw [X12_daysOn_B2] at hf
      refine lv_iload_n hx hb dX12_daysOn_2 rfl (lv_at hl 2 rfl) ?_
      refine lv_iload_n hx hb dX12_daysOn_3 rfl (lv_at hl 1 rfl) ?_
      refine lv_icmp_ge (tgt := 18) hx hb dX12_daysOn_4 (by decide) (fun c1 => ?_) (fun c1 => ?_)
      · have hf := if_t hf c1
        exact g_vret hx hb hr hlk hP hS (ret1 hf) dX12_daysOn_18
      · have hf := if_f hf c1
        refine lv_aload_n hx hb dX12_daysOn_7 rfl (lv_at hl 0 rfl) ?_
        refine lv_iconst (v := 0) hx hb dX12_daysOn_8 (by decide) ?_
        obtain ⟨q2, hq2, hf⟩ := bind_s hf
        refine g_callS (As := [.ref (a v0), .int 0]) (rest := []) hx hb hml hown hts hK hN (m_X12_day l D a C ha h v0 0 hv0 q2 hq2) (va_cwS 2 hts (gUS (u12_2 _ (List.mem_of_getElem? (i := 17) rfl)) (u12_2 _ (List.mem_of_getElem? (i := 18) rfl)) (u12_1 _ (List.mem_of_getElem? (i := 7) rfl)) (u12_2 _ (List.mem_of_getElem? (i := 16) rfl))) rfl rfl rfl kdX12_day.2 ⟨Nat.le_of_ble_eq_true rfl, Nat.le_of_ble_eq_true rfl⟩) hP hS hA rfl hl.1 rfl (Nat.le_of_ble_eq_true rfl) dX12_daysOn_9 ⟨Nat.le_refl _, Nat.le_refl _⟩ (fun H locs hP hS => ?_)
        refine W.eq (g2 := F0 m 12 ls []) rfl ?_
        obtain ⟨x3, ex3⟩ : ∃ y : Int32, y = (v2 + 1) := ⟨_, rfl⟩
        have hf := nm_s hf ex3
        refine lv_iinc (v := x3) (lv' := [(2, .int x3), (0, .ref (a v0)), (1, .int v1)]) hx hb dX12_daysOn_12 hl (k := 2) rfl (by rw [ex3]; rfl) (by decide) rfl (fun ls hl => ?_)
        refine lv_goto (tgt := 2) hx hb dX12_daysOn_15 (by decide) ?_
        exact ih x3 q2 hf H locs ls hP hS (lv_sub hl [1, 2, 0] rfl)
  unfold X12_daysOn at hf
  suffices hh : ∀ (H : Heap) (locs : List Loc), va_P D vwCl (gw a C h) H → va_S (gA a) s.heap H locs → W p l e (headSpec uX12_daysOn rmX12_daysOn).room s m ([.ref (a v0), .int v1] : List Value).toArray below meth c H locs 0 0 (MQ below (gQ none D a C h') ([.ref (a v0), .int v1] : List Value).toArray s 0 0 (gA a)) (F0 m 0 ls []) from hh _ _ hP hS
  intro H locs hP hS
  refine lv_iconst (v := 0) hx hb dX12_daysOn_0 (by decide) ?_
  refine lv_istore_n (lv' := [(2, .int 0), (0, .ref (a v0)), (1, .int v1)]) hx hb dX12_daysOn_1 rfl hl (by decide) rfl (fun ls hl => ?_)
  exact J2 FU 0 h hf H locs ls hP hS (lv_sub hl [1, 2, 0] rfl)

def X12_changesLine (h : HS) (v0 : Nat) (v1 : Int32) (v2 : Int32) : Option HS :=
    (X12_of v1 2).bind fun q1 =>
    gdi q1 30 <|
    gdi q1 30 <|
    nm (sA h v0 (upd (aI h v0) q1.toNatClampNeg ((aI h v0 q1.toNatClampNeg) ^^^ ((1 : Int32) <<< (v2 &&& 31))))) fun h3 =>
    (X12_of v2 2).bind fun q5 =>
    gdi q5 30 <|
    gdi q5 30 <|
    nm (sA h3 v0 (upd (aI h3 v0) q5.toNatClampNeg ((aI h3 v0 q5.toNatClampNeg) ^^^ ((1 : Int32) <<< (v1 &&& 31))))) fun h7 =>
    some h7
def uX12_changesLine : List Cond := .code yX12_changesLine cX12_changesLine 3 none :: UU
def rmX12_changesLine : Room := { frames := 1, cells := 0, slots := 0, locals := 21 }
theorem kdX12_changesLine : yX12_changesLine.cls = RX12 ∧ yX12_changesLine.cls ≠ "java/lang/invoke/MethodHandle" ∧ yX12_changesLine.cls ≠ "java/lang/invoke/VarHandle" ∧ (parseMethodDescriptor yX12_changesLine.desc).map (fun d => d.parameters.length) = some 3 := by decide +kernel
set_option maxHeartbeats 4000000 in
set_option maxRecDepth 100000 in
theorem m_X12_changesLine (l : Launch) (D : va_G) (a : Nat → Nat) (C : Nat → ClassId) (ha : ginj a) (h : HS) (v0 : Nat) (v1 : Int32) (v2 : Int32) (hv0 : isRow v0) (h' : HS) (hf : X12_changesLine h v0 v1 v2 = some h') : gM l yX12_changesLine uX12_changesLine rmX12_changesLine D a C [.ref (a v0), .int v1, .int v2] h none h' := by
  refine g_start (av := [.ref (a v0), .int v1, .int v2]) (cc := cX12_changesLine) (maxL := 3) (rt := none) (by decide) rfl (Nat.le_of_ble_eq_true rfl) ?_
  intro p e s m below meth c hx hb hr hml hown hlk hts hP hK hN ls hl
  have hA : ∀ q, gA a q → gA a q := fun _ q => q
  have hS : va_S (gA a) s.heap s.heap [] := va_S.rf
  have hl : lv_has ls 3 [(0, .ref (a v0)), (1, .int v1), (2, .int v2)] := hl
  unfold X12_changesLine at hf
  refine lv_aload_n hx hb dX12_changesLine_0 rfl (lv_at hl 0 rfl) ?_
  refine lv_iload_n hx hb dX12_changesLine_1 rfl (lv_at hl 1 rfl) ?_
  refine lv_iconst (v := 2) hx hb dX12_changesLine_2 (by decide) ?_
  obtain ⟨q1, hq1, hf⟩ := bind_s hf
  refine g_callS (As := [.int v1, .int 2]) (rest := [.ref (a v0)]) hx hb hml hown hts hK hN (m_X12_of l D a C ha h v1 2  q1 hq1) (va_cwS 2 hts (gUS (u12_1 _ (List.mem_of_getElem? (i := 15) rfl)) (u12_1 _ (List.mem_of_getElem? (i := 16) rfl)) (u12_1 _ (List.mem_of_getElem? (i := 7) rfl)) (u12_1 _ (List.mem_of_getElem? (i := 3) rfl))) rfl rfl rfl kdX12_of.2 ⟨Nat.le_of_ble_eq_true rfl, Nat.le_of_ble_eq_true rfl⟩) hP hS hA rfl hl.1 rfl (Nat.le_of_ble_eq_true rfl) dX12_changesLine_3 ⟨Nat.le_refl _, Nat.le_refl _⟩ (fun H locs hP hS => ?_)
  refine W.eq (g2 := F0 m 6 ls [.int q1, .ref (a v0)]) rfl ?_
  refine lv_dup2_11 hx hb dX12_changesLine_6 rfl rfl ?_
  obtain ⟨c2, hf⟩ := gdi_s hf
  refine g_ial hx hb hK (row_A hv0) c2 hP dX12_changesLine_7 ?_
  refine lv_iconst (v := 1) hx hb dX12_changesLine_8 (by decide) ?_
  refine lv_iload_n hx hb dX12_changesLine_9 rfl (lv_at hl 2 rfl) ?_
  refine lv_ishl hx hb dX12_changesLine_10 ?_
  refine lv_ixor hx hb dX12_changesLine_11 ?_
  obtain ⟨c4, hf⟩ := gdi_s hf
  refine g_ias hx hb hK ha hA (row_A hv0) c4 hP hS dX12_changesLine_12 (fun H locs hP hS => ?_)
  obtain ⟨h3, eh3⟩ : ∃ x, x = (sA h v0 (upd (aI h v0) q1.toNatClampNeg ((aI h v0 q1.toNatClampNeg) ^^^ ((1 : Int32) <<< (v2 &&& 31))))) := ⟨_, rfl⟩
  rw [← eh3] at hP
  have hf := nm_s hf eh3
  refine lv_aload_n hx hb dX12_changesLine_13 rfl (lv_at hl 0 rfl) ?_
  refine lv_iload_n hx hb dX12_changesLine_14 rfl (lv_at hl 2 rfl) ?_
  refine lv_iconst (v := 2) hx hb dX12_changesLine_15 (by decide) ?_
  obtain ⟨q5, hq5, hf⟩ := bind_s hf
  refine g_callS (As := [.int v2, .int 2]) (rest := [.ref (a v0)]) hx hb hml hown hts hK hN (m_X12_of l D a C ha h3 v2 2  q5 hq5) (va_cwS 2 hts (gUS (u12_1 _ (List.mem_of_getElem? (i := 15) rfl)) (u12_1 _ (List.mem_of_getElem? (i := 16) rfl)) (u12_1 _ (List.mem_of_getElem? (i := 7) rfl)) (u12_1 _ (List.mem_of_getElem? (i := 3) rfl))) rfl rfl rfl kdX12_of.2 ⟨Nat.le_of_ble_eq_true rfl, Nat.le_of_ble_eq_true rfl⟩) hP hS hA rfl hl.1 rfl (Nat.le_of_ble_eq_true rfl) dX12_changesLine_16 ⟨Nat.le_refl _, Nat.le_refl _⟩ (fun H locs hP hS => ?_)
  refine W.eq (g2 := F0 m 19 ls [.int q5, .ref (a v0)]) rfl ?_
  refine lv_dup2_11 hx hb dX12_changesLine_19 rfl rfl ?_
  obtain ⟨c6, hf⟩ := gdi_s hf
  refine g_ial hx hb hK (row_A hv0) c6 hP dX12_changesLine_20 ?_
  refine lv_iconst (v := 1) hx hb dX12_changesLine_21 (by decide) ?_
  refine lv_iload_n hx hb dX12_changesLine_22 rfl (lv_at hl 1 rfl) ?_
  refine lv_ishl hx hb dX12_changesLine_23 ?_
  refine lv_ixor hx hb dX12_changesLine_24 ?_
  obtain ⟨c8, hf⟩ := gdi_s hf
  refine g_ias hx hb hK ha hA (row_A hv0) c8 hP hS dX12_changesLine_25 (fun H locs hP hS => ?_)
  obtain ⟨h7, eh7⟩ : ∃ x, x = (sA h3 v0 (upd (aI h3 v0) q5.toNatClampNeg ((aI h3 v0 q5.toNatClampNeg) ^^^ ((1 : Int32) <<< (v1 &&& 31))))) := ⟨_, rfl⟩
  rw [← eh7] at hP
  have hf := nm_s hf eh7
  exact g_vret hx hb hr hlk hP hS (ret1 hf) dX12_changesLine_26

def X12_linesIn_B4 (h : HS) (v0 : Nat) : Nat → Int32 → Int32 → Option Int32
  | 0, _, _ => none
  | fu + 1, v1, v2 =>
    gdi 0 30 <|
    (if (aI h v0 (0 : Int32).toNatClampNeg) ≤ v2 then
    some (v1 / 2)
    else
    (X12_number h v0 v2).bind fun q3 =>
    nm (v1 + q3) fun x4 =>
    nm (v2 + 1) fun x5 =>
    (X12_linesIn_B4 h v0 fu) x4 x5)
def X12_linesIn (h : HS) (v0 : Nat) : Option Int32 :=
    X12_linesIn_B4 h v0 FU 0 0
def uX12_linesIn : List Cond := .code yX12_linesIn cX12_linesIn 3 (some .int) :: UU
def rmX12_linesIn : Room := { frames := 2, cells := 0, slots := 0, locals := 43 }
theorem kdX12_linesIn : yX12_linesIn.cls = RX12 ∧ yX12_linesIn.cls ≠ "java/lang/invoke/MethodHandle" ∧ yX12_linesIn.cls ≠ "java/lang/invoke/VarHandle" ∧ (parseMethodDescriptor yX12_linesIn.desc).map (fun d => d.parameters.length) = some 1 := by decide +kernel
set_option maxHeartbeats 4000000 in
set_option maxRecDepth 100000 in
theorem m_X12_linesIn (l : Launch) (D : va_G) (a : Nat → Nat) (C : Nat → ClassId) (ha : ginj a) (h : HS) (v0 : Nat) (hv0 : isRow v0) (r : Int32) (hf : X12_linesIn h v0 = some r) : gM l yX12_linesIn uX12_linesIn rmX12_linesIn D a C [.ref (a v0)] h (some (.int r)) h := by
  refine g_start (av := [.ref (a v0)]) (cc := cX12_linesIn) (maxL := 3) (rt := (some .int)) (by decide) rfl (Nat.le_of_ble_eq_true rfl) ?_
  intro p e s m below meth c hx hb hr hml hown hlk hts hP hK hN ls hl
  have hA : ∀ q, gA a q → gA a q := fun _ q => q
  have hS : va_S (gA a) s.heap s.heap [] := va_S.rf
  have hl : lv_has ls 3 [(0, .ref (a v0))] := hl
  have J4 : ∀ (fu : Nat) (v1 : Int32) (v2 : Int32), X12_linesIn_B4 h v0 fu v1 v2 = some r → gG p l e (headSpec uX12_linesIn rmX12_linesIn).room s m ([.ref (a v0)] : List Value).toArray below meth c (MQ below (gQ (some (.int r)) D a C h) ([.ref (a v0)] : List Value).toArray s 0 0 (gA a)) D a C 3 h 4 [(0, .ref (a v0)), (1, .int v1), (2, .int v2)] [] := by
    intro fu
    induction fu with
    | zero => intro v1 v2 hf; exact absurd hf (by simp [X12_linesIn_B4])
    | succ fu ih =>
      intro v1 v2 hf H locs ls hP hS hl
      rw [X12_linesIn_B4] at hf
      refine lv_iload_n hx hb dX12_linesIn_4 rfl (lv_at hl 2 rfl) ?_
      refine lv_aload_n hx hb dX12_linesIn_5 rfl (lv_at hl 0 rfl) ?_
      refine lv_iconst (v := 0) hx hb dX12_linesIn_6 (by decide) ?_
      obtain ⟨c1, hf⟩ := gdi_s hf
      refine g_ial hx hb hK (row_A hv0) c1 hP dX12_linesIn_7 ?_
      refine lv_icmp_ge (tgt := 25) hx hb dX12_linesIn_8 (by decide) (fun c2 => ?_) (fun c2 => ?_)
      · have hf := if_t hf c2
        refine lv_iload_n hx hb dX12_linesIn_25 rfl (lv_at hl 1 rfl) ?_
        refine lv_iconst (v := 2) hx hb dX12_linesIn_26 (by decide) ?_
        refine lv_idiv hx hb dX12_linesIn_27 (by decide) ?_
        exact g_iret hx hb hr hlk hP hS (ret1 hf) dX12_linesIn_28
      · have hf := if_f hf c2
        refine lv_iload_n hx hb dX12_linesIn_11 rfl (lv_at hl 1 rfl) ?_
        refine lv_aload_n hx hb dX12_linesIn_12 rfl (lv_at hl 0 rfl) ?_
        refine lv_iload_n hx hb dX12_linesIn_13 rfl (lv_at hl 2 rfl) ?_
        obtain ⟨q3, hq3, hf⟩ := bind_s hf
        refine g_callS (As := [.ref (a v0), .int v2]) (rest := [.int v1]) hx hb hml hown hts hK hN (m_X12_number l D a C ha h v0 v2 hv0 q3 hq3) (va_cwS 2 hts (gUS (u12_2 _ (List.mem_of_getElem? (i := 2) rfl)) (u12_2 _ (List.mem_of_getElem? (i := 3) rfl)) (u12_1 _ (List.mem_of_getElem? (i := 7) rfl)) (u12_1 _ (List.mem_of_getElem? (i := 14) rfl))) rfl rfl rfl kdX12_number.2 ⟨Nat.le_of_ble_eq_true rfl, Nat.le_of_ble_eq_true rfl⟩) hP hS hA rfl hl.1 rfl (Nat.le_of_ble_eq_true rfl) dX12_linesIn_14 ⟨Nat.le_refl _, Nat.le_refl _⟩ (fun H locs hP hS => ?_)
        refine W.eq (g2 := F0 m 17 ls [.int q3, .int v1]) rfl ?_
        refine lv_iadd hx hb dX12_linesIn_17 ?_
        refine lv_topi (fun x4 ex4 => ?_)
        have hf := nm_s hf ex4
        refine lv_istore_n (lv' := [(1, .int x4), (0, .ref (a v0)), (2, .int v2)]) hx hb dX12_linesIn_18 rfl hl (by decide) rfl (fun ls hl => ?_)
        obtain ⟨x5, ex5⟩ : ∃ y : Int32, y = (v2 + 1) := ⟨_, rfl⟩
        have hf := nm_s hf ex5
        refine lv_iinc (v := x5) (lv' := [(2, .int x5), (1, .int x4), (0, .ref (a v0))]) hx hb dX12_linesIn_19 hl (k := 2) rfl (by rw [ex5]; rfl) (by decide) rfl (fun ls hl => ?_)
        refine lv_goto (tgt := 4) hx hb dX12_linesIn_22 (by decide) ?_
        exact ih x4 x5 hf H locs ls hP hS (lv_sub hl [2, 1, 0] rfl)
  unfold X12_linesIn at hf
  suffices hh : ∀ (H : Heap) (locs : List Loc), va_P D vwCl (gw a C h) H → va_S (gA a) s.heap H locs → W p l e (headSpec uX12_linesIn rmX12_linesIn).room s m ([.ref (a v0)] : List Value).toArray below meth c H locs 0 0 (MQ below (gQ (some (.int r)) D a C h) ([.ref (a v0)] : List Value).toArray s 0 0 (gA a)) (F0 m 0 ls []) from hh _ _ hP hS
  intro H locs hP hS
  refine lv_iconst (v := 0) hx hb dX12_linesIn_0 (by decide) ?_
  refine lv_istore_n (lv' := [(1, .int 0), (0, .ref (a v0))]) hx hb dX12_linesIn_1 rfl hl (by decide) rfl (fun ls hl => ?_)
  refine lv_iconst (v := 0) hx hb dX12_linesIn_2 (by decide) ?_
  refine lv_istore_n (lv' := [(2, .int 0), (1, .int 0), (0, .ref (a v0))]) hx hb dX12_linesIn_3 rfl hl (by decide) rfl (fun ls hl => ?_)
  exact J4 FU 0 0 hf H locs ls hP hS (lv_sub hl [2, 1, 0] rfl)

def X12_becomes (h : HS) (v0 : Nat) (v1 : Int32) (v2 : Int32) (v3 : Int32) : Option HS :=
    (X12_of v1 0).bind fun q1 =>
    gdi q1 30 <|
    nm (sA h v0 (upd (aI h v0) q1.toNatClampNeg v2)) fun h2 =>
    (X12_of v1 1).bind fun q4 =>
    gdi q4 30 <|
    nm (sA h2 v0 (upd (aI h2 v0) q4.toNatClampNeg v3)) fun h5 =>
    (if v2 = 7 then
    gdi 2 30 <|
    gdi 2 30 <|
    nm (sA h5 v0 (upd (aI h5 v0) (2 : Int32).toNatClampNeg ((aI h5 v0 (2 : Int32).toNatClampNeg) &&& (((1 : Int32) <<< (v1 &&& 31)) ^^^ (-1))))) fun h9 =>
    some h9
    else
    some h5)
def uX12_becomes : List Cond := .code yX12_becomes cX12_becomes 4 none :: UU
def rmX12_becomes : Room := { frames := 1, cells := 0, slots := 0, locals := 21 }
theorem kdX12_becomes : yX12_becomes.cls = RX12 ∧ yX12_becomes.cls ≠ "java/lang/invoke/MethodHandle" ∧ yX12_becomes.cls ≠ "java/lang/invoke/VarHandle" ∧ (parseMethodDescriptor yX12_becomes.desc).map (fun d => d.parameters.length) = some 4 := by decide +kernel
set_option maxHeartbeats 4000000 in
set_option maxRecDepth 100000 in
theorem m_X12_becomes (l : Launch) (D : va_G) (a : Nat → Nat) (C : Nat → ClassId) (ha : ginj a) (h : HS) (v0 : Nat) (v1 : Int32) (v2 : Int32) (v3 : Int32) (hv0 : isRow v0) (h' : HS) (hf : X12_becomes h v0 v1 v2 v3 = some h') : gM l yX12_becomes uX12_becomes rmX12_becomes D a C [.ref (a v0), .int v1, .int v2, .int v3] h none h' := by
  refine g_start (av := [.ref (a v0), .int v1, .int v2, .int v3]) (cc := cX12_becomes) (maxL := 4) (rt := none) (by decide) rfl (Nat.le_of_ble_eq_true rfl) ?_
  intro p e s m below meth c hx hb hr hml hown hlk hts hP hK hN ls hl
  have hA : ∀ q, gA a q → gA a q := fun _ q => q
  have hS : va_S (gA a) s.heap s.heap [] := va_S.rf
  have hl : lv_has ls 4 [(0, .ref (a v0)), (1, .int v1), (2, .int v2), (3, .int v3)] := hl
  unfold X12_becomes at hf
  refine lv_aload_n hx hb dX12_becomes_0 rfl (lv_at hl 0 rfl) ?_
  refine lv_iload_n hx hb dX12_becomes_1 rfl (lv_at hl 1 rfl) ?_
  refine lv_iconst (v := 0) hx hb dX12_becomes_2 (by decide) ?_
  obtain ⟨q1, hq1, hf⟩ := bind_s hf
  refine g_callS (As := [.int v1, .int 0]) (rest := [.ref (a v0)]) hx hb hml hown hts hK hN (m_X12_of l D a C ha h v1 0  q1 hq1) (va_cwS 2 hts (gUS (u12_1 _ (List.mem_of_getElem? (i := 15) rfl)) (u12_1 _ (List.mem_of_getElem? (i := 16) rfl)) (u12_1 _ (List.mem_of_getElem? (i := 7) rfl)) (u12_1 _ (List.mem_of_getElem? (i := 3) rfl))) rfl rfl rfl kdX12_of.2 ⟨Nat.le_of_ble_eq_true rfl, Nat.le_of_ble_eq_true rfl⟩) hP hS hA rfl hl.1 rfl (Nat.le_of_ble_eq_true rfl) dX12_becomes_3 ⟨Nat.le_refl _, Nat.le_refl _⟩ (fun H locs hP hS => ?_)
  refine W.eq (g2 := F0 m 6 ls [.int q1, .ref (a v0)]) rfl ?_
  refine lv_iload_n hx hb dX12_becomes_6 rfl (lv_at hl 2 rfl) ?_
  obtain ⟨c3, hf⟩ := gdi_s hf
  refine g_ias hx hb hK ha hA (row_A hv0) c3 hP hS dX12_becomes_7 (fun H locs hP hS => ?_)
  obtain ⟨h2, eh2⟩ : ∃ x, x = (sA h v0 (upd (aI h v0) q1.toNatClampNeg v2)) := ⟨_, rfl⟩
  rw [← eh2] at hP
  have hf := nm_s hf eh2
  refine lv_aload_n hx hb dX12_becomes_8 rfl (lv_at hl 0 rfl) ?_
  refine lv_iload_n hx hb dX12_becomes_9 rfl (lv_at hl 1 rfl) ?_
  refine lv_iconst (v := 1) hx hb dX12_becomes_10 (by decide) ?_
  obtain ⟨q4, hq4, hf⟩ := bind_s hf
  refine g_callS (As := [.int v1, .int 1]) (rest := [.ref (a v0)]) hx hb hml hown hts hK hN (m_X12_of l D a C ha h2 v1 1  q4 hq4) (va_cwS 2 hts (gUS (u12_1 _ (List.mem_of_getElem? (i := 15) rfl)) (u12_1 _ (List.mem_of_getElem? (i := 16) rfl)) (u12_1 _ (List.mem_of_getElem? (i := 7) rfl)) (u12_1 _ (List.mem_of_getElem? (i := 3) rfl))) rfl rfl rfl kdX12_of.2 ⟨Nat.le_of_ble_eq_true rfl, Nat.le_of_ble_eq_true rfl⟩) hP hS hA rfl hl.1 rfl (Nat.le_of_ble_eq_true rfl) dX12_becomes_11 ⟨Nat.le_refl _, Nat.le_refl _⟩ (fun H locs hP hS => ?_)
  refine W.eq (g2 := F0 m 14 ls [.int q4, .ref (a v0)]) rfl ?_
  refine lv_iload_n hx hb dX12_becomes_14 rfl (lv_at hl 3 rfl) ?_
  obtain ⟨c6, hf⟩ := gdi_s hf
  refine g_ias hx hb hK ha hA (row_A hv0) c6 hP hS dX12_becomes_15 (fun H locs hP hS => ?_)
  obtain ⟨h5, eh5⟩ : ∃ x, x = (sA h2 v0 (upd (aI h2 v0) q4.toNatClampNeg v3)) := ⟨_, rfl⟩
  rw [← eh5] at hP
  have hf := nm_s hf eh5
  refine lv_iload_n hx hb dX12_becomes_16 rfl (lv_at hl 2 rfl) ?_
  refine lv_bipush (v := 7) hx hb dX12_becomes_17 (by decide) ?_
  refine lv_icmp_ne (tgt := 33) hx hb dX12_becomes_19 (by decide) (fun c7 => ?_) (fun c7 => ?_)
  · have hf := if_f hf c7
    exact g_vret hx hb hr hlk hP hS (ret1 hf) dX12_becomes_33
  · have hf := if_t hf c7
    refine lv_aload_n hx hb dX12_becomes_22 rfl (lv_at hl 0 rfl) ?_
    refine lv_iconst (v := 2) hx hb dX12_becomes_23 (by decide) ?_
    refine lv_dup2_11 hx hb dX12_becomes_24 rfl rfl ?_
    obtain ⟨c8, hf⟩ := gdi_s hf
    refine g_ial hx hb hK (row_A hv0) c8 hP dX12_becomes_25 ?_
    refine lv_iconst (v := 1) hx hb dX12_becomes_26 (by decide) ?_
    refine lv_iload_n hx hb dX12_becomes_27 rfl (lv_at hl 1 rfl) ?_
    refine lv_ishl hx hb dX12_becomes_28 ?_
    refine lv_iconst (v := (-1)) hx hb dX12_becomes_29 (by decide) ?_
    refine lv_ixor hx hb dX12_becomes_30 ?_
    refine lv_iand hx hb dX12_becomes_31 ?_
    obtain ⟨c10, hf⟩ := gdi_s hf
    refine g_ias hx hb hK ha hA (row_A hv0) c10 hP hS dX12_becomes_32 (fun H locs hP hS => ?_)
    obtain ⟨h9, eh9⟩ : ∃ x, x = (sA h5 v0 (upd (aI h5 v0) (2 : Int32).toNatClampNeg ((aI h5 v0 (2 : Int32).toNatClampNeg) &&& (((1 : Int32) <<< (v1 &&& 31)) ^^^ (-1))))) := ⟨_, rfl⟩
    rw [← eh9] at hP
    have hf := nm_s hf eh9
    exact g_vret hx hb hr hlk hP hS (ret1 hf) dX12_becomes_33

def X12_here (h : HS) : Option Int32 :=
    (if (fI h 66 7) ≤ (fI h 66 5) then
    some (-1)
    else
    gdi ((fI h 66 6) + (fI h 66 5)) 800 <|
    some ((aI h 81 ((fI h 66 6) + (fI h 66 5)).toNatClampNeg) &&& 255))
def uX12_here : List Cond := .code yX12_here cX12_here 1 (some .int) :: UU
def rmX12_here : Room := { frames := 0, cells := 0, slots := 0, locals := 0 }
theorem kdX12_here : yX12_here.cls = RX12 ∧ yX12_here.cls ≠ "java/lang/invoke/MethodHandle" ∧ yX12_here.cls ≠ "java/lang/invoke/VarHandle" ∧ (parseMethodDescriptor yX12_here.desc).map (fun d => d.parameters.length) = some 0 := by decide +kernel
set_option maxHeartbeats 4000000 in
set_option maxRecDepth 100000 in
theorem m_X12_here (l : Launch) (D : va_G) (a : Nat → Nat) (C : Nat → ClassId) (ha : ginj a) (h : HS)  (r : Int32) (hf : X12_here h = some r) : gM l yX12_here uX12_here rmX12_here D a C [.ref (a 66)] h (some (.int r)) h := by
  refine g_start (av := [.ref (a 66)]) (cc := cX12_here) (maxL := 1) (rt := (some .int)) (by decide) rfl (Nat.le_of_ble_eq_true rfl) ?_
  intro p e s m below meth c hx hb hr hml hown hlk hts hP hK hN ls hl
  have hA : ∀ q, gA a q → gA a q := fun _ q => q
  have hS : va_S (gA a) s.heap s.heap [] := va_S.rf
  have hl : lv_has ls 1 [(0, .ref (a 66))] := hl
  unfold X12_here at hf
  refine lv_aload_n hx hb dX12_here_0 rfl (lv_at hl 0 rfl) ?_
  refine g_get (Cn := RX12) (T := TX12) (N := 21) (v := .int (fI h 66 5)) (own := RX12) hx hb hown hts hK M_O rfl (fun _ hw => List.mem_cons_of_mem _ (u12_cls _ hw)) 5 (by decide) (List.mem_cons_of_mem _ (u12_3 _ (List.mem_of_getElem? (i := 4) rfl))) rfl rfl hP dX12_here_1 ?_
  refine lv_aload_n hx hb dX12_here_4 rfl (lv_at hl 0 rfl) ?_
  refine g_get (Cn := RX12) (T := TX12) (N := 21) (v := .int (fI h 66 7)) (own := RX12) hx hb hown hts hK M_O rfl (fun _ hw => List.mem_cons_of_mem _ (u12_cls _ hw)) 7 (by decide) (List.mem_cons_of_mem _ (u12_3 _ (List.mem_of_getElem? (i := 5) rfl))) rfl rfl hP dX12_here_5 ?_
  refine lv_icmp_ge (tgt := 32) hx hb dX12_here_8 (by decide) (fun c1 => ?_) (fun c1 => ?_)
  · have hf := if_t hf c1
    refine lv_iconst (v := (-1)) hx hb dX12_here_32 (by decide) ?_
    exact g_iret hx hb hr hlk hP hS (ret1 hf) dX12_here_33
  · have hf := if_f hf c1
    refine lv_aload_n hx hb dX12_here_11 rfl (lv_at hl 0 rfl) ?_
    refine g_get (Cn := RX12) (T := TX12) (N := 21) (v := .ref (a 81)) (own := RX12) hx hb hown hts hK M_O rfl (fun _ hw => List.mem_cons_of_mem _ (u12_cls _ hw)) 19 (by decide) (List.mem_cons_of_mem _ (u12_1 _ (List.mem_of_getElem? (i := 0) rfl))) rfl rfl hP dX12_here_12 ?_
    refine lv_aload_n hx hb dX12_here_15 rfl (lv_at hl 0 rfl) ?_
    refine g_get (Cn := RX12) (T := TX12) (N := 21) (v := .int (fI h 66 6)) (own := RX12) hx hb hown hts hK M_O rfl (fun _ hw => List.mem_cons_of_mem _ (u12_cls _ hw)) 6 (by decide) (List.mem_cons_of_mem _ (u12_3 _ (List.mem_of_getElem? (i := 6) rfl))) rfl rfl hP dX12_here_16 ?_
    refine lv_aload_n hx hb dX12_here_19 rfl (lv_at hl 0 rfl) ?_
    refine g_get (Cn := RX12) (T := TX12) (N := 21) (v := .int (fI h 66 5)) (own := RX12) hx hb hown hts hK M_O rfl (fun _ hw => List.mem_cons_of_mem _ (u12_cls _ hw)) 5 (by decide) (List.mem_cons_of_mem _ (u12_3 _ (List.mem_of_getElem? (i := 4) rfl))) rfl rfl hP dX12_here_20 ?_
    refine lv_iadd hx hb dX12_here_23 ?_
    obtain ⟨c2, hf⟩ := gdi_s hf
    refine g_ial hx hb hK (⟨by decide, rfl⟩ : gAI 81 800) c2 hP dX12_here_24 ?_
    refine lv_sipush (v := 255) hx hb dX12_here_25 (by decide) ?_
    refine lv_iand hx hb dX12_here_28 ?_
    refine lv_goto (tgt := 33) hx hb dX12_here_29 (by decide) ?_
    exact g_iret hx hb hr hlk hP hS (ret1 hf) dX12_here_33

def X12_readsNumber_B9 (v1 : Int32) (v2 : Int32) : Nat → Int32 → HS → Option (Int32 × HS)
  | 0, _, _ => none
  | fu + 1, v3, h =>
    (if v2 ≤ v3 then
    some (1, h)
    else
    (X12_here h).bind fun q4 =>
    (X12_isIn q4 48 57).bind fun q5 =>
    (if q5 = 0 then
    some (0, h)
    else
    gdi v1 3 <|
    (X12_here h).bind fun q8 =>
    gdi v1 3 <|
    nm (sA h 71 (upd (aI h 71) v1.toNatClampNeg (((10 * (aI h 71 v1.toNatClampNeg)) + q8) - 48))) fun h9 =>
    nm (sF h9 66 5 ((fI h9 66 5) + 1)) fun h11 =>
    nm (v3 + 1) fun x12 =>
    (X12_readsNumber_B9 v1 v2 fu) x12 h11))
def X12_readsNumber (h : HS) (v1 : Int32) (v2 : Int32) : Option (Int32 × HS) :=
    gdi v1 3 <|
    nm (sA h 71 (upd (aI h 71) v1.toNatClampNeg 0)) fun h1 =>
    X12_readsNumber_B9 v1 v2 FU 0 h1
def uX12_readsNumber : List Cond := .code yX12_readsNumber cX12_readsNumber 4 (some .boolean) :: UU
def rmX12_readsNumber : Room := { frames := 1, cells := 0, slots := 0, locals := 22 }
theorem kdX12_readsNumber : yX12_readsNumber.cls = RX12 ∧ yX12_readsNumber.cls ≠ "java/lang/invoke/MethodHandle" ∧ yX12_readsNumber.cls ≠ "java/lang/invoke/VarHandle" ∧ (parseMethodDescriptor yX12_readsNumber.desc).map (fun d => d.parameters.length) = some 2 := by decide +kernel
set_option maxHeartbeats 4000000 in
set_option maxRecDepth 100000 in
theorem m_X12_readsNumber (l : Launch) (D : va_G) (a : Nat → Nat) (C : Nat → ClassId) (ha : ginj a) (h : HS) (v1 : Int32) (v2 : Int32)  (r : Int32) (h' : HS) (hf : X12_readsNumber h v1 v2 = some (r, h')) : gM l yX12_readsNumber uX12_readsNumber rmX12_readsNumber D a C [.ref (a 66), .int v1, .int v2] h (some (.int r)) h' := by
  refine g_start (av := [.ref (a 66), .int v1, .int v2]) (cc := cX12_readsNumber) (maxL := 4) (rt := (some .boolean)) (by decide) rfl (Nat.le_of_ble_eq_true rfl) ?_
  intro p e s m below meth c hx hb hr hml hown hlk hts hP hK hN ls hl
  have hA : ∀ q, gA a q → gA a q := fun _ q => q
  have hS : va_S (gA a) s.heap s.heap [] := va_S.rf
  have hl : lv_has ls 4 [(0, .ref (a 66)), (1, .int v1), (2, .int v2)] := hl
  have J9 : ∀ (fu : Nat) (v3 : Int32) (h : HS), X12_readsNumber_B9 v1 v2 fu v3 h = some (r, h') → gG p l e (headSpec uX12_readsNumber rmX12_readsNumber).room s m ([.ref (a 66), .int v1, .int v2] : List Value).toArray below meth c (MQ below (gQ (some (.int r)) D a C h') ([.ref (a 66), .int v1, .int v2] : List Value).toArray s 0 0 (gA a)) D a C 4 h 9 [(0, .ref (a 66)), (1, .int v1), (2, .int v2), (3, .int v3)] [] := by
    intro fu
    induction fu with
    | zero => intro v3 h hf; exact absurd hf (by simp [X12_readsNumber_B9])
    | succ fu ih =>
      intro v3 h hf H locs ls hP hS hl
      rw [X12_readsNumber_B9] at hf
      refine lv_iload_n hx hb dX12_readsNumber_9 rfl (lv_at hl 3 rfl) ?_
      refine lv_iload_n hx hb dX12_readsNumber_10 rfl (lv_at hl 2 rfl) ?_
      refine lv_icmp_ge (tgt := 69) hx hb dX12_readsNumber_11 (by decide) (fun c3 => ?_) (fun c3 => ?_)
      · have hf := if_t hf c3
        refine lv_iconst (v := 1) hx hb dX12_readsNumber_69 (by decide) ?_
        exact g_zretW hx hb hr hlk (by decide) hP hS (ret2 hf) dX12_readsNumber_70
      · have hf := if_f hf c3
        refine lv_aload_n hx hb dX12_readsNumber_14 rfl (lv_at hl 0 rfl) ?_
        obtain ⟨q4, hq4, hf⟩ := bind_s hf
        refine g_callV (As := []) (rest := []) hx hb hml hown hts hK hN (m_X12_here l D a C ha h  q4 hq4) (cwV 0 hts (gUV (u12_3 _ (List.mem_of_getElem? (i := 8) rfl)) (u12_3 _ (List.mem_of_getElem? (i := 9) rfl)) (u12_3 _ (List.mem_of_getElem? (i := 10) rfl)) (u12_1 _ (List.mem_of_getElem? (i := 7) rfl)) (u12_3 _ (List.mem_of_getElem? (i := 3) rfl))) rfl rfl rfl kdX12_here ⟨Nat.le_of_ble_eq_true rfl, Nat.le_of_ble_eq_true rfl⟩) M_O rfl rfl hP hS hA rfl hl.1 rfl (Nat.le_of_ble_eq_true rfl) dX12_readsNumber_15 ⟨Nat.le_refl _, Nat.le_refl _⟩ (fun H locs hP hS => ?_)
        refine W.eq (g2 := F0 m 18 ls [.int q4]) rfl ?_
        refine lv_bipush (v := 48) hx hb dX12_readsNumber_18 (by decide) ?_
        refine lv_bipush (v := 57) hx hb dX12_readsNumber_20 (by decide) ?_
        obtain ⟨q5, hq5, hf⟩ := bind_s hf
        refine g_callS (As := [.int q4, .int 48, .int 57]) (rest := []) hx hb hml hown hts hK hN (m_X12_isIn l D a C ha h q4 48 57  q5 hq5) (va_cwS 3 hts (gUS (u12_1 _ (List.mem_of_getElem? (i := 5) rfl)) (u12_1 _ (List.mem_of_getElem? (i := 6) rfl)) (u12_1 _ (List.mem_of_getElem? (i := 7) rfl)) (u12_1 _ (List.mem_of_getElem? (i := 1) rfl))) rfl rfl rfl kdX12_isIn.2 ⟨Nat.le_of_ble_eq_true rfl, Nat.le_of_ble_eq_true rfl⟩) hP hS hA rfl hl.1 rfl (Nat.le_of_ble_eq_true rfl) dX12_readsNumber_22 ⟨Nat.le_refl _, Nat.le_refl _⟩ (fun H locs hP hS => ?_)
        refine W.eq (g2 := F0 m 25 ls [.int q5]) rfl ?_
        refine lv_if_ne (tgt := 30) hx hb dX12_readsNumber_25 (by decide) (fun c6 => ?_) (fun c6 => ?_)
        · have hf := if_f hf c6
          refine lv_aload_n hx hb dX12_readsNumber_30 rfl (lv_at hl 0 rfl) ?_
          refine g_get (Cn := RX12) (T := TX12) (N := 21) (v := .ref (a 71)) (own := RX12) hx hb hown hts hK M_O rfl (fun _ hw => List.mem_cons_of_mem _ (u12_cls _ hw)) 8 (by decide) (List.mem_cons_of_mem _ (u12_0 _ (List.mem_of_getElem? (i := 9) rfl))) rfl rfl hP dX12_readsNumber_31 ?_
          refine lv_iload_n hx hb dX12_readsNumber_34 rfl (lv_at hl 1 rfl) ?_
          refine lv_bipush (v := 10) hx hb dX12_readsNumber_35 (by decide) ?_
          refine lv_aload_n hx hb dX12_readsNumber_37 rfl (lv_at hl 0 rfl) ?_
          refine g_get (Cn := RX12) (T := TX12) (N := 21) (v := .ref (a 71)) (own := RX12) hx hb hown hts hK M_O rfl (fun _ hw => List.mem_cons_of_mem _ (u12_cls _ hw)) 8 (by decide) (List.mem_cons_of_mem _ (u12_0 _ (List.mem_of_getElem? (i := 9) rfl))) rfl rfl hP dX12_readsNumber_38 ?_
          refine lv_iload_n hx hb dX12_readsNumber_41 rfl (lv_at hl 1 rfl) ?_
          obtain ⟨c7, hf⟩ := gdi_s hf
          refine g_ial hx hb hK (⟨by decide, rfl⟩ : gAI 71 3) c7 hP dX12_readsNumber_42 ?_
          refine lv_imul hx hb dX12_readsNumber_43 ?_
          refine lv_aload_n hx hb dX12_readsNumber_44 rfl (lv_at hl 0 rfl) ?_
          obtain ⟨q8, hq8, hf⟩ := bind_s hf
          refine g_callV (As := []) (rest := [.int (10 * (aI h 71 v1.toNatClampNeg)), .int v1, .ref (a 71)]) hx hb hml hown hts hK hN (m_X12_here l D a C ha h  q8 hq8) (cwV 0 hts (gUV (u12_3 _ (List.mem_of_getElem? (i := 8) rfl)) (u12_3 _ (List.mem_of_getElem? (i := 9) rfl)) (u12_3 _ (List.mem_of_getElem? (i := 10) rfl)) (u12_1 _ (List.mem_of_getElem? (i := 7) rfl)) (u12_3 _ (List.mem_of_getElem? (i := 3) rfl))) rfl rfl rfl kdX12_here ⟨Nat.le_of_ble_eq_true rfl, Nat.le_of_ble_eq_true rfl⟩) M_O rfl rfl hP hS hA rfl hl.1 rfl (Nat.le_of_ble_eq_true rfl) dX12_readsNumber_45 ⟨Nat.le_refl _, Nat.le_refl _⟩ (fun H locs hP hS => ?_)
          refine W.eq (g2 := F0 m 48 ls [.int q8, .int (10 * (aI h 71 v1.toNatClampNeg)), .int v1, .ref (a 71)]) rfl ?_
          refine lv_iadd hx hb dX12_readsNumber_48 ?_
          refine lv_bipush (v := 48) hx hb dX12_readsNumber_49 (by decide) ?_
          refine lv_isub hx hb dX12_readsNumber_51 ?_
          obtain ⟨c10, hf⟩ := gdi_s hf
          refine g_ias hx hb hK ha hA (⟨by decide, rfl⟩ : gAI 71 3) c10 hP hS dX12_readsNumber_52 (fun H locs hP hS => ?_)
          obtain ⟨h9, eh9⟩ : ∃ x, x = (sA h 71 (upd (aI h 71) v1.toNatClampNeg (((10 * (aI h 71 v1.toNatClampNeg)) + q8) - 48))) := ⟨_, rfl⟩
          rw [← eh9] at hP
          have hf := nm_s hf eh9
          refine lv_aload_n hx hb dX12_readsNumber_53 rfl (lv_at hl 0 rfl) ?_
          refine lv_dup hx hb dX12_readsNumber_54 rfl ?_
          refine g_get (Cn := RX12) (T := TX12) (N := 21) (v := .int (fI h9 66 5)) (own := RX12) hx hb hown hts hK M_O rfl (fun _ hw => List.mem_cons_of_mem _ (u12_cls _ hw)) 5 (by decide) (List.mem_cons_of_mem _ (u12_3 _ (List.mem_of_getElem? (i := 4) rfl))) rfl rfl hP dX12_readsNumber_55 ?_
          refine lv_iconst (v := 1) hx hb dX12_readsNumber_58 (by decide) ?_
          refine lv_iadd hx hb dX12_readsNumber_59 ?_
          refine g_put (Cn := RX12) (T := TX12) (N := 21) (ty0 := tyX12) (own := RX12) hx hb hown hts hK ha hA M_O rfl (fun _ hw => List.mem_cons_of_mem _ (u12_cls _ hw)) tyX12_ok nmX12 5 (by decide) (List.mem_cons_of_mem _ (u12_3 _ (List.mem_of_getElem? (i := 4) rfl))) rfl rfl rfl rfl rfl hP hS dX12_readsNumber_60 (fun H locs hP hS => ?_)
          obtain ⟨h11, eh11⟩ : ∃ x, x = (sF h9 66 5 ((fI h9 66 5) + 1)) := ⟨_, rfl⟩
          rw [← eh11] at hP
          have hf := nm_s hf eh11
          obtain ⟨x12, ex12⟩ : ∃ y : Int32, y = (v3 + 1) := ⟨_, rfl⟩
          have hf := nm_s hf ex12
          refine lv_iinc (v := x12) (lv' := [(3, .int x12), (0, .ref (a 66)), (1, .int v1), (2, .int v2)]) hx hb dX12_readsNumber_63 hl (k := 3) rfl (by rw [ex12]; rfl) (by decide) rfl (fun ls hl => ?_)
          refine lv_goto (tgt := 9) hx hb dX12_readsNumber_66 (by decide) ?_
          exact ih x12 h11 hf H locs ls hP hS (lv_sub hl [1, 2, 3, 0] rfl)
        · have hf := if_t hf c6
          refine lv_iconst (v := 0) hx hb dX12_readsNumber_28 (by decide) ?_
          exact g_zretW hx hb hr hlk (by decide) hP hS (ret2 hf) dX12_readsNumber_29
  unfold X12_readsNumber at hf
  suffices hh : ∀ (H : Heap) (locs : List Loc), va_P D vwCl (gw a C h) H → va_S (gA a) s.heap H locs → W p l e (headSpec uX12_readsNumber rmX12_readsNumber).room s m ([.ref (a 66), .int v1, .int v2] : List Value).toArray below meth c H locs 0 0 (MQ below (gQ (some (.int r)) D a C h') ([.ref (a 66), .int v1, .int v2] : List Value).toArray s 0 0 (gA a)) (F0 m 0 ls []) from hh _ _ hP hS
  intro H locs hP hS
  refine lv_aload_n hx hb dX12_readsNumber_0 rfl (lv_at hl 0 rfl) ?_
  refine g_get (Cn := RX12) (T := TX12) (N := 21) (v := .ref (a 71)) (own := RX12) hx hb hown hts hK M_O rfl (fun _ hw => List.mem_cons_of_mem _ (u12_cls _ hw)) 8 (by decide) (List.mem_cons_of_mem _ (u12_0 _ (List.mem_of_getElem? (i := 9) rfl))) rfl rfl hP dX12_readsNumber_1 ?_
  refine lv_iload_n hx hb dX12_readsNumber_4 rfl (lv_at hl 1 rfl) ?_
  refine lv_iconst (v := 0) hx hb dX12_readsNumber_5 (by decide) ?_
  obtain ⟨c2, hf⟩ := gdi_s hf
  refine g_ias hx hb hK ha hA (⟨by decide, rfl⟩ : gAI 71 3) c2 hP hS dX12_readsNumber_6 (fun H locs hP hS => ?_)
  obtain ⟨h1, eh1⟩ : ∃ x, x = (sA h 71 (upd (aI h 71) v1.toNatClampNeg 0)) := ⟨_, rfl⟩
  rw [← eh1] at hP
  have hf := nm_s hf eh1
  refine lv_iconst (v := 0) hx hb dX12_readsNumber_7 (by decide) ?_
  refine lv_istore_n (lv' := [(3, .int 0), (0, .ref (a 66)), (1, .int v1), (2, .int v2)]) hx hb dX12_readsNumber_8 rfl hl (by decide) rfl (fun ls hl => ?_)
  exact J9 FU 0 h1 hf H locs ls hP hS (lv_sub hl [1, 2, 3, 0] rfl)

def X12_readsStatement_B167 (h : HS) : Option (Int32 × HS) :=
    nm (sF h 66 5 ((fI h 66 5) - 1)) fun h32 =>
    some (0, h32)
def X12_readsStatement_B179 (v2 : Int32) (h : HS) : Option (Int32 × HS) :=
    (if v2 = 0 then
    some (0, h)
    else
    (X12_here h).bind fun q29 =>
    (if q29 = 59 then
    nm (sF h 66 5 ((fI h 66 5) + 1)) fun h31 =>
    some (1, h31)
    else
    some (0, h)))
def X12_readsStatement_B153 (s0 : Int32) (h : HS) : Option (Int32 × HS) :=
    X12_readsStatement_B179 s0 h
def X12_readsStatement_B152 (h : HS) : Option (Int32 × HS) :=
    X12_readsStatement_B153 0 h
def X12_readsStatement_B107 (s0 : Int32) (h : HS) : Option (Int32 × HS) :=
    X12_readsStatement_B179 s0 h
def X12_readsStatement_B106 (h : HS) : Option (Int32 × HS) :=
    X12_readsStatement_B107 0 h
def X12_readsStatement_B84 (h : HS) : Option (Int32 × HS) :=
    (X12_readsNumber h 0 1).bind fun q24 =>
    (if q24.1 = 0 then
    X12_readsStatement_B106 q24.2
    else
    (X12_readsNumber q24.2 1 1).bind fun q26 =>
    (if q26.1 = 0 then
    X12_readsStatement_B106 q26.2
    else
    X12_readsStatement_B107 1 q26.2))
def X12_readsStatement (h : HS) : Option (Int32 × HS) :=
    (X12_here h).bind fun q1 =>
    nm (sF h 66 5 ((fI h 66 5) + 1)) fun h2 =>
    (if q1 = 100 then
    (X12_readsNumber h2 0 2).bind fun q4 =>
    X12_readsStatement_B179 q4.1 q4.2
    else
    (if q1 = 104 then
    (X12_readsNumber h2 0 1).bind fun q6 =>
    X12_readsStatement_B179 q6.1 q6.2
    else
    (if q1 = 107 then
    (X12_readsNumber h2 0 1).bind fun q8 =>
    (if q8.1 = 0 then
    X12_readsStatement_B152 q8.2
    else
    (X12_readsNumber q8.2 1 1).bind fun q10 =>
    (if q10.1 = 0 then
    X12_readsStatement_B152 q10.2
    else
    (X12_readsNumber q10.2 2 1).bind fun q12 =>
    (if q12.1 = 0 then
    X12_readsStatement_B152 q12.2
    else
    X12_readsStatement_B153 1 q12.2)))
    else
    (if q1 = 108 then
    X12_readsStatement_B84 h2
    else
    (if q1 = 112 then
    X12_readsStatement_B84 h2
    else
    X12_readsStatement_B167 h2)))))
def uX12_readsStatement : List Cond := .code yX12_readsStatement cX12_readsStatement 3 (some .boolean) :: UU
def rmX12_readsStatement : Room := { frames := 2, cells := 0, slots := 0, locals := 45 }
theorem kdX12_readsStatement : yX12_readsStatement.cls = RX12 ∧ yX12_readsStatement.cls ≠ "java/lang/invoke/MethodHandle" ∧ yX12_readsStatement.cls ≠ "java/lang/invoke/VarHandle" ∧ (parseMethodDescriptor yX12_readsStatement.desc).map (fun d => d.parameters.length) = some 0 := by decide +kernel
set_option maxHeartbeats 4000000 in
set_option maxRecDepth 100000 in
theorem m_X12_readsStatement (l : Launch) (D : va_G) (a : Nat → Nat) (C : Nat → ClassId) (ha : ginj a) (h : HS)  (r : Int32) (h' : HS) (hf : X12_readsStatement h = some (r, h')) : gM l yX12_readsStatement uX12_readsStatement rmX12_readsStatement D a C [.ref (a 66)] h (some (.int r)) h' := by
  refine g_start (av := [.ref (a 66)]) (cc := cX12_readsStatement) (maxL := 3) (rt := (some .boolean)) (by decide) rfl (Nat.le_of_ble_eq_true rfl) ?_
  intro p e s m below meth c hx hb hr hml hown hlk hts hP hK hN ls hl
  have hA : ∀ q, gA a q → gA a q := fun _ q => q
  have hS : va_S (gA a) s.heap s.heap [] := va_S.rf
  have hl : lv_has ls 3 [(0, .ref (a 66))] := hl
  have J167 : ∀ (h : HS) (_ : X12_readsStatement_B167 h = some (r, h')), gG p l e (headSpec uX12_readsStatement rmX12_readsStatement).room s m ([.ref (a 66)] : List Value).toArray below meth c (MQ below (gQ (some (.int r)) D a C h') ([.ref (a 66)] : List Value).toArray s 0 0 (gA a)) D a C 3 h 167 [(0, .ref (a 66))] [] := by
    intro h hf H locs ls hP hS hl
    unfold X12_readsStatement_B167 at hf
    refine lv_aload_n hx hb dX12_readsStatement_167 rfl (lv_at hl 0 rfl) ?_
    refine lv_dup hx hb dX12_readsStatement_168 rfl ?_
    refine g_get (Cn := RX12) (T := TX12) (N := 21) (v := .int (fI h 66 5)) (own := RX12) hx hb hown hts hK M_O rfl (fun _ hw => List.mem_cons_of_mem _ (u12_cls _ hw)) 5 (by decide) (List.mem_cons_of_mem _ (u12_3 _ (List.mem_of_getElem? (i := 4) rfl))) rfl rfl hP dX12_readsStatement_169 ?_
    refine lv_iconst (v := 1) hx hb dX12_readsStatement_172 (by decide) ?_
    refine lv_isub hx hb dX12_readsStatement_173 ?_
    refine g_put (Cn := RX12) (T := TX12) (N := 21) (ty0 := tyX12) (own := RX12) hx hb hown hts hK ha hA M_O rfl (fun _ hw => List.mem_cons_of_mem _ (u12_cls _ hw)) tyX12_ok nmX12 5 (by decide) (List.mem_cons_of_mem _ (u12_3 _ (List.mem_of_getElem? (i := 4) rfl))) rfl rfl rfl rfl rfl hP hS dX12_readsStatement_174 (fun H locs hP hS => ?_)
    obtain ⟨h32, eh32⟩ : ∃ x, x = (sF h 66 5 ((fI h 66 5) - 1)) := ⟨_, rfl⟩
    rw [← eh32] at hP
    have hf := nm_s hf eh32
    refine lv_iconst (v := 0) hx hb dX12_readsStatement_177 (by decide) ?_
    exact g_zretW hx hb hr hlk (by decide) hP hS (ret2 hf) dX12_readsStatement_178
  have J179 : ∀ (v2 : Int32) (h : HS) (_ : X12_readsStatement_B179 v2 h = some (r, h')), gG p l e (headSpec uX12_readsStatement rmX12_readsStatement).room s m ([.ref (a 66)] : List Value).toArray below meth c (MQ below (gQ (some (.int r)) D a C h') ([.ref (a 66)] : List Value).toArray s 0 0 (gA a)) D a C 3 h 179 [(0, .ref (a 66)), (2, .int v2)] [] := by
    intro v2 h hf H locs ls hP hS hl
    unfold X12_readsStatement_B179 at hf
    refine lv_iload_n hx hb dX12_readsStatement_179 rfl (lv_at hl 1 rfl) ?_
    refine lv_if_eq (tgt := 192) hx hb dX12_readsStatement_180 (by decide) (fun c28 => ?_) (fun c28 => ?_)
    · have hf := if_t hf c28
      refine lv_iconst (v := 0) hx hb dX12_readsStatement_192 (by decide) ?_
      exact g_zretW hx hb hr hlk (by decide) hP hS (ret2 hf) dX12_readsStatement_193
    · have hf := if_f hf c28
      refine lv_aload_n hx hb dX12_readsStatement_183 rfl (lv_at hl 0 rfl) ?_
      obtain ⟨q29, hq29, hf⟩ := bind_s hf
      refine g_callV (As := []) (rest := []) hx hb hml hown hts hK hN (m_X12_here l D a C ha h  q29 hq29) (cwV 0 hts (gUV (u12_3 _ (List.mem_of_getElem? (i := 8) rfl)) (u12_3 _ (List.mem_of_getElem? (i := 9) rfl)) (u12_3 _ (List.mem_of_getElem? (i := 10) rfl)) (u12_1 _ (List.mem_of_getElem? (i := 7) rfl)) (u12_3 _ (List.mem_of_getElem? (i := 3) rfl))) rfl rfl rfl kdX12_here ⟨Nat.le_of_ble_eq_true rfl, Nat.le_of_ble_eq_true rfl⟩) M_O rfl rfl hP hS hA rfl hl.1 rfl (Nat.le_of_ble_eq_true rfl) dX12_readsStatement_184 ⟨Nat.le_refl _, Nat.le_refl _⟩ (fun H locs hP hS => ?_)
      refine W.eq (g2 := F0 m 187 ls [.int q29]) rfl ?_
      refine lv_bipush (v := 59) hx hb dX12_readsStatement_187 (by decide) ?_
      refine lv_icmp_eq (tgt := 194) hx hb dX12_readsStatement_189 (by decide) (fun c30 => ?_) (fun c30 => ?_)
      · have hf := if_t hf c30
        refine lv_aload_n hx hb dX12_readsStatement_194 rfl (lv_at hl 0 rfl) ?_
        refine lv_dup hx hb dX12_readsStatement_195 rfl ?_
        refine g_get (Cn := RX12) (T := TX12) (N := 21) (v := .int (fI h 66 5)) (own := RX12) hx hb hown hts hK M_O rfl (fun _ hw => List.mem_cons_of_mem _ (u12_cls _ hw)) 5 (by decide) (List.mem_cons_of_mem _ (u12_3 _ (List.mem_of_getElem? (i := 4) rfl))) rfl rfl hP dX12_readsStatement_196 ?_
        refine lv_iconst (v := 1) hx hb dX12_readsStatement_199 (by decide) ?_
        refine lv_iadd hx hb dX12_readsStatement_200 ?_
        refine g_put (Cn := RX12) (T := TX12) (N := 21) (ty0 := tyX12) (own := RX12) hx hb hown hts hK ha hA M_O rfl (fun _ hw => List.mem_cons_of_mem _ (u12_cls _ hw)) tyX12_ok nmX12 5 (by decide) (List.mem_cons_of_mem _ (u12_3 _ (List.mem_of_getElem? (i := 4) rfl))) rfl rfl rfl rfl rfl hP hS dX12_readsStatement_201 (fun H locs hP hS => ?_)
        obtain ⟨h31, eh31⟩ : ∃ x, x = (sF h 66 5 ((fI h 66 5) + 1)) := ⟨_, rfl⟩
        rw [← eh31] at hP
        have hf := nm_s hf eh31
        refine lv_iconst (v := 1) hx hb dX12_readsStatement_204 (by decide) ?_
        exact g_zretW hx hb hr hlk (by decide) hP hS (ret2 hf) dX12_readsStatement_205
      · have hf := if_f hf c30
        refine lv_iconst (v := 0) hx hb dX12_readsStatement_192 (by decide) ?_
        exact g_zretW hx hb hr hlk (by decide) hP hS (ret2 hf) dX12_readsStatement_193
  have J153 : ∀ (s0 : Int32) (h : HS) (_ : X12_readsStatement_B153 s0 h = some (r, h')), gG p l e (headSpec uX12_readsStatement rmX12_readsStatement).room s m ([.ref (a 66)] : List Value).toArray below meth c (MQ below (gQ (some (.int r)) D a C h') ([.ref (a 66)] : List Value).toArray s 0 0 (gA a)) D a C 3 h 153 [(0, .ref (a 66))] [.int s0] := by
    intro s0 h hf H locs ls hP hS hl
    unfold X12_readsStatement_B153 at hf
    refine lv_istore_n (lv' := [(2, .int s0), (0, .ref (a 66))]) hx hb dX12_readsStatement_153 rfl hl (by decide) rfl (fun ls hl => ?_)
    refine lv_goto (tgt := 179) hx hb dX12_readsStatement_154 (by decide) ?_
    exact J179 s0 h hf H locs ls hP hS (lv_sub hl [1, 0] rfl)
  have J152 : ∀ (h : HS) (_ : X12_readsStatement_B152 h = some (r, h')), gG p l e (headSpec uX12_readsStatement rmX12_readsStatement).room s m ([.ref (a 66)] : List Value).toArray below meth c (MQ below (gQ (some (.int r)) D a C h') ([.ref (a 66)] : List Value).toArray s 0 0 (gA a)) D a C 3 h 152 [(0, .ref (a 66))] [] := by
    intro h hf H locs ls hP hS hl
    unfold X12_readsStatement_B152 at hf
    refine lv_iconst (v := 0) hx hb dX12_readsStatement_152 (by decide) ?_
    exact J153 0 h hf H locs ls hP hS (lv_sub hl [0] rfl)
  have J107 : ∀ (s0 : Int32) (h : HS) (_ : X12_readsStatement_B107 s0 h = some (r, h')), gG p l e (headSpec uX12_readsStatement rmX12_readsStatement).room s m ([.ref (a 66)] : List Value).toArray below meth c (MQ below (gQ (some (.int r)) D a C h') ([.ref (a 66)] : List Value).toArray s 0 0 (gA a)) D a C 3 h 107 [(0, .ref (a 66))] [.int s0] := by
    intro s0 h hf H locs ls hP hS hl
    unfold X12_readsStatement_B107 at hf
    refine lv_istore_n (lv' := [(2, .int s0), (0, .ref (a 66))]) hx hb dX12_readsStatement_107 rfl hl (by decide) rfl (fun ls hl => ?_)
    refine lv_goto (tgt := 179) hx hb dX12_readsStatement_108 (by decide) ?_
    exact J179 s0 h hf H locs ls hP hS (lv_sub hl [1, 0] rfl)
  have J106 : ∀ (h : HS) (_ : X12_readsStatement_B106 h = some (r, h')), gG p l e (headSpec uX12_readsStatement rmX12_readsStatement).room s m ([.ref (a 66)] : List Value).toArray below meth c (MQ below (gQ (some (.int r)) D a C h') ([.ref (a 66)] : List Value).toArray s 0 0 (gA a)) D a C 3 h 106 [(0, .ref (a 66))] [] := by
    intro h hf H locs ls hP hS hl
    unfold X12_readsStatement_B106 at hf
    refine lv_iconst (v := 0) hx hb dX12_readsStatement_106 (by decide) ?_
    exact J107 0 h hf H locs ls hP hS (lv_sub hl [0] rfl)
  have J84 : ∀ (h : HS) (_ : X12_readsStatement_B84 h = some (r, h')), gG p l e (headSpec uX12_readsStatement rmX12_readsStatement).room s m ([.ref (a 66)] : List Value).toArray below meth c (MQ below (gQ (some (.int r)) D a C h') ([.ref (a 66)] : List Value).toArray s 0 0 (gA a)) D a C 3 h 84 [(0, .ref (a 66))] [] := by
    intro h hf H locs ls hP hS hl
    unfold X12_readsStatement_B84 at hf
    refine lv_aload_n hx hb dX12_readsStatement_84 rfl (lv_at hl 0 rfl) ?_
    refine lv_iconst (v := 0) hx hb dX12_readsStatement_85 (by decide) ?_
    refine lv_iconst (v := 1) hx hb dX12_readsStatement_86 (by decide) ?_
    obtain ⟨q24, hq24, hf⟩ := bind_s hf
    refine g_callV (As := [.int 0, .int 1]) (rest := []) hx hb hml hown hts hK hN (m_X12_readsNumber l D a C ha h 0 1  q24.1 q24.2 hq24) (cwV 2 hts (gUV (u12_3 _ (List.mem_of_getElem? (i := 12) rfl)) (u12_3 _ (List.mem_of_getElem? (i := 13) rfl)) (u12_3 _ (List.mem_of_getElem? (i := 14) rfl)) (u12_1 _ (List.mem_of_getElem? (i := 7) rfl)) (u12_3 _ (List.mem_of_getElem? (i := 7) rfl))) rfl rfl rfl kdX12_readsNumber ⟨Nat.le_of_ble_eq_true rfl, Nat.le_of_ble_eq_true rfl⟩) M_O rfl rfl hP hS hA rfl hl.1 rfl (Nat.le_of_ble_eq_true rfl) dX12_readsStatement_87 ⟨Nat.le_refl _, Nat.le_refl _⟩ (fun H locs hP hS => ?_)
    refine W.eq (g2 := F0 m 90 ls [.int q24.1]) rfl ?_
    refine lv_if_eq (tgt := 106) hx hb dX12_readsStatement_90 (by decide) (fun c25 => ?_) (fun c25 => ?_)
    · have hf := if_t hf c25
      exact J106 q24.2 hf H locs ls hP hS (lv_sub hl [0] rfl)
    · have hf := if_f hf c25
      refine lv_aload_n hx hb dX12_readsStatement_93 rfl (lv_at hl 0 rfl) ?_
      refine lv_iconst (v := 1) hx hb dX12_readsStatement_94 (by decide) ?_
      refine lv_iconst (v := 1) hx hb dX12_readsStatement_95 (by decide) ?_
      obtain ⟨q26, hq26, hf⟩ := bind_s hf
      refine g_callV (As := [.int 1, .int 1]) (rest := []) hx hb hml hown hts hK hN (m_X12_readsNumber l D a C ha q24.2 1 1  q26.1 q26.2 hq26) (cwV 2 hts (gUV (u12_3 _ (List.mem_of_getElem? (i := 12) rfl)) (u12_3 _ (List.mem_of_getElem? (i := 13) rfl)) (u12_3 _ (List.mem_of_getElem? (i := 14) rfl)) (u12_1 _ (List.mem_of_getElem? (i := 7) rfl)) (u12_3 _ (List.mem_of_getElem? (i := 7) rfl))) rfl rfl rfl kdX12_readsNumber ⟨Nat.le_of_ble_eq_true rfl, Nat.le_of_ble_eq_true rfl⟩) M_O rfl rfl hP hS hA rfl hl.1 rfl (Nat.le_of_ble_eq_true rfl) dX12_readsStatement_96 ⟨Nat.le_refl _, Nat.le_refl _⟩ (fun H locs hP hS => ?_)
      refine W.eq (g2 := F0 m 99 ls [.int q26.1]) rfl ?_
      refine lv_if_eq (tgt := 106) hx hb dX12_readsStatement_99 (by decide) (fun c27 => ?_) (fun c27 => ?_)
      · have hf := if_t hf c27
        exact J106 q26.2 hf H locs ls hP hS (lv_sub hl [0] rfl)
      · have hf := if_f hf c27
        refine lv_iconst (v := 1) hx hb dX12_readsStatement_102 (by decide) ?_
        refine lv_goto (tgt := 107) hx hb dX12_readsStatement_103 (by decide) ?_
        exact J107 1 q26.2 hf H locs ls hP hS (lv_sub hl [0] rfl)
  unfold X12_readsStatement at hf
  suffices hh : ∀ (H : Heap) (locs : List Loc), va_P D vwCl (gw a C h) H → va_S (gA a) s.heap H locs → W p l e (headSpec uX12_readsStatement rmX12_readsStatement).room s m ([.ref (a 66)] : List Value).toArray below meth c H locs 0 0 (MQ below (gQ (some (.int r)) D a C h') ([.ref (a 66)] : List Value).toArray s 0 0 (gA a)) (F0 m 0 ls []) from hh _ _ hP hS
  intro H locs hP hS
  refine lv_aload_n hx hb dX12_readsStatement_0 rfl (lv_at hl 0 rfl) ?_
  obtain ⟨q1, hq1, hf⟩ := bind_s hf
  refine g_callV (As := []) (rest := []) hx hb hml hown hts hK hN (m_X12_here l D a C ha h  q1 hq1) (cwV 0 hts (gUV (u12_3 _ (List.mem_of_getElem? (i := 8) rfl)) (u12_3 _ (List.mem_of_getElem? (i := 9) rfl)) (u12_3 _ (List.mem_of_getElem? (i := 10) rfl)) (u12_1 _ (List.mem_of_getElem? (i := 7) rfl)) (u12_3 _ (List.mem_of_getElem? (i := 3) rfl))) rfl rfl rfl kdX12_here ⟨Nat.le_of_ble_eq_true rfl, Nat.le_of_ble_eq_true rfl⟩) M_O rfl rfl hP hS hA rfl hl.1 rfl (Nat.le_of_ble_eq_true rfl) dX12_readsStatement_1 ⟨Nat.le_refl _, Nat.le_refl _⟩ (fun H locs hP hS => ?_)
  refine W.eq (g2 := F0 m 4 ls [.int q1]) rfl ?_
  refine lv_istore_n (lv' := [(1, .int q1), (0, .ref (a 66))]) hx hb dX12_readsStatement_4 rfl hl (by decide) rfl (fun ls hl => ?_)
  refine lv_aload_n hx hb dX12_readsStatement_5 rfl (lv_at hl 1 rfl) ?_
  refine lv_dup hx hb dX12_readsStatement_6 rfl ?_
  refine g_get (Cn := RX12) (T := TX12) (N := 21) (v := .int (fI h 66 5)) (own := RX12) hx hb hown hts hK M_O rfl (fun _ hw => List.mem_cons_of_mem _ (u12_cls _ hw)) 5 (by decide) (List.mem_cons_of_mem _ (u12_3 _ (List.mem_of_getElem? (i := 4) rfl))) rfl rfl hP dX12_readsStatement_7 ?_
  refine lv_iconst (v := 1) hx hb dX12_readsStatement_10 (by decide) ?_
  refine lv_iadd hx hb dX12_readsStatement_11 ?_
  refine g_put (Cn := RX12) (T := TX12) (N := 21) (ty0 := tyX12) (own := RX12) hx hb hown hts hK ha hA M_O rfl (fun _ hw => List.mem_cons_of_mem _ (u12_cls _ hw)) tyX12_ok nmX12 5 (by decide) (List.mem_cons_of_mem _ (u12_3 _ (List.mem_of_getElem? (i := 4) rfl))) rfl rfl rfl rfl rfl hP hS dX12_readsStatement_12 (fun H locs hP hS => ?_)
  obtain ⟨h2, eh2⟩ : ∃ x, x = (sF h 66 5 ((fI h 66 5) + 1)) := ⟨_, rfl⟩
  rw [← eh2] at hP
  have hf := nm_s hf eh2
  refine lv_iload_n hx hb dX12_readsStatement_15 rfl (lv_at hl 0 rfl) ?_
  by_cases c3 : q1 = 100
  · have hf := if_t hf c3
    refine lv_tableIn (tgt := 157) hx hb dX12_readsStatement_16 (by rw [c3]; decide) (by rw [c3]; decide) (by rw [c3]; rfl) (by decide) ?_
    refine lv_aload_n hx hb dX12_readsStatement_157 rfl (lv_at hl 1 rfl) ?_
    refine lv_iconst (v := 0) hx hb dX12_readsStatement_158 (by decide) ?_
    refine lv_iconst (v := 2) hx hb dX12_readsStatement_159 (by decide) ?_
    obtain ⟨q4, hq4, hf⟩ := bind_s hf
    refine g_callV (As := [.int 0, .int 2]) (rest := []) hx hb hml hown hts hK hN (m_X12_readsNumber l D a C ha h2 0 2  q4.1 q4.2 hq4) (cwV 2 hts (gUV (u12_3 _ (List.mem_of_getElem? (i := 12) rfl)) (u12_3 _ (List.mem_of_getElem? (i := 13) rfl)) (u12_3 _ (List.mem_of_getElem? (i := 14) rfl)) (u12_1 _ (List.mem_of_getElem? (i := 7) rfl)) (u12_3 _ (List.mem_of_getElem? (i := 7) rfl))) rfl rfl rfl kdX12_readsNumber ⟨Nat.le_of_ble_eq_true rfl, Nat.le_of_ble_eq_true rfl⟩) M_O rfl rfl hP hS hA rfl hl.1 rfl (Nat.le_of_ble_eq_true rfl) dX12_readsStatement_160 ⟨Nat.le_refl _, Nat.le_refl _⟩ (fun H locs hP hS => ?_)
    refine W.eq (g2 := F0 m 163 ls [.int q4.1]) rfl ?_
    refine lv_istore_n (lv' := [(2, .int q4.1), (1, .int q1), (0, .ref (a 66))]) hx hb dX12_readsStatement_163 rfl hl (by decide) rfl (fun ls hl => ?_)
    refine lv_goto (tgt := 179) hx hb dX12_readsStatement_164 (by decide) ?_
    exact J179 q4.1 q4.2 hf H locs ls hP hS (lv_sub hl [2, 0] rfl)
  have hf := if_f hf c3
  by_cases c5 : q1 = 104
  · have hf := if_t hf c5
    refine lv_tableIn (tgt := 111) hx hb dX12_readsStatement_16 (by rw [c5]; decide) (by rw [c5]; decide) (by rw [c5]; rfl) (by decide) ?_
    refine lv_aload_n hx hb dX12_readsStatement_111 rfl (lv_at hl 1 rfl) ?_
    refine lv_iconst (v := 0) hx hb dX12_readsStatement_112 (by decide) ?_
    refine lv_iconst (v := 1) hx hb dX12_readsStatement_113 (by decide) ?_
    obtain ⟨q6, hq6, hf⟩ := bind_s hf
    refine g_callV (As := [.int 0, .int 1]) (rest := []) hx hb hml hown hts hK hN (m_X12_readsNumber l D a C ha h2 0 1  q6.1 q6.2 hq6) (cwV 2 hts (gUV (u12_3 _ (List.mem_of_getElem? (i := 12) rfl)) (u12_3 _ (List.mem_of_getElem? (i := 13) rfl)) (u12_3 _ (List.mem_of_getElem? (i := 14) rfl)) (u12_1 _ (List.mem_of_getElem? (i := 7) rfl)) (u12_3 _ (List.mem_of_getElem? (i := 7) rfl))) rfl rfl rfl kdX12_readsNumber ⟨Nat.le_of_ble_eq_true rfl, Nat.le_of_ble_eq_true rfl⟩) M_O rfl rfl hP hS hA rfl hl.1 rfl (Nat.le_of_ble_eq_true rfl) dX12_readsStatement_114 ⟨Nat.le_refl _, Nat.le_refl _⟩ (fun H locs hP hS => ?_)
    refine W.eq (g2 := F0 m 117 ls [.int q6.1]) rfl ?_
    refine lv_istore_n (lv' := [(2, .int q6.1), (1, .int q1), (0, .ref (a 66))]) hx hb dX12_readsStatement_117 rfl hl (by decide) rfl (fun ls hl => ?_)
    refine lv_goto (tgt := 179) hx hb dX12_readsStatement_118 (by decide) ?_
    exact J179 q6.1 q6.2 hf H locs ls hP hS (lv_sub hl [2, 0] rfl)
  have hf := if_f hf c5
  by_cases c7 : q1 = 107
  · have hf := if_t hf c7
    refine lv_tableIn (tgt := 121) hx hb dX12_readsStatement_16 (by rw [c7]; decide) (by rw [c7]; decide) (by rw [c7]; rfl) (by decide) ?_
    refine lv_aload_n hx hb dX12_readsStatement_121 rfl (lv_at hl 1 rfl) ?_
    refine lv_iconst (v := 0) hx hb dX12_readsStatement_122 (by decide) ?_
    refine lv_iconst (v := 1) hx hb dX12_readsStatement_123 (by decide) ?_
    obtain ⟨q8, hq8, hf⟩ := bind_s hf
    refine g_callV (As := [.int 0, .int 1]) (rest := []) hx hb hml hown hts hK hN (m_X12_readsNumber l D a C ha h2 0 1  q8.1 q8.2 hq8) (cwV 2 hts (gUV (u12_3 _ (List.mem_of_getElem? (i := 12) rfl)) (u12_3 _ (List.mem_of_getElem? (i := 13) rfl)) (u12_3 _ (List.mem_of_getElem? (i := 14) rfl)) (u12_1 _ (List.mem_of_getElem? (i := 7) rfl)) (u12_3 _ (List.mem_of_getElem? (i := 7) rfl))) rfl rfl rfl kdX12_readsNumber ⟨Nat.le_of_ble_eq_true rfl, Nat.le_of_ble_eq_true rfl⟩) M_O rfl rfl hP hS hA rfl hl.1 rfl (Nat.le_of_ble_eq_true rfl) dX12_readsStatement_124 ⟨Nat.le_refl _, Nat.le_refl _⟩ (fun H locs hP hS => ?_)
    refine W.eq (g2 := F0 m 127 ls [.int q8.1]) rfl ?_
    refine lv_if_eq (tgt := 152) hx hb dX12_readsStatement_127 (by decide) (fun c9 => ?_) (fun c9 => ?_)
    · have hf := if_t hf c9
      exact J152 q8.2 hf H locs ls hP hS (lv_sub hl [1] rfl)
    · have hf := if_f hf c9
      refine lv_aload_n hx hb dX12_readsStatement_130 rfl (lv_at hl 1 rfl) ?_
      refine lv_iconst (v := 1) hx hb dX12_readsStatement_131 (by decide) ?_
      refine lv_iconst (v := 1) hx hb dX12_readsStatement_132 (by decide) ?_
      obtain ⟨q10, hq10, hf⟩ := bind_s hf
      refine g_callV (As := [.int 1, .int 1]) (rest := []) hx hb hml hown hts hK hN (m_X12_readsNumber l D a C ha q8.2 1 1  q10.1 q10.2 hq10) (cwV 2 hts (gUV (u12_3 _ (List.mem_of_getElem? (i := 12) rfl)) (u12_3 _ (List.mem_of_getElem? (i := 13) rfl)) (u12_3 _ (List.mem_of_getElem? (i := 14) rfl)) (u12_1 _ (List.mem_of_getElem? (i := 7) rfl)) (u12_3 _ (List.mem_of_getElem? (i := 7) rfl))) rfl rfl rfl kdX12_readsNumber ⟨Nat.le_of_ble_eq_true rfl, Nat.le_of_ble_eq_true rfl⟩) M_O rfl rfl hP hS hA rfl hl.1 rfl (Nat.le_of_ble_eq_true rfl) dX12_readsStatement_133 ⟨Nat.le_refl _, Nat.le_refl _⟩ (fun H locs hP hS => ?_)
      refine W.eq (g2 := F0 m 136 ls [.int q10.1]) rfl ?_
      refine lv_if_eq (tgt := 152) hx hb dX12_readsStatement_136 (by decide) (fun c11 => ?_) (fun c11 => ?_)
      · have hf := if_t hf c11
        exact J152 q10.2 hf H locs ls hP hS (lv_sub hl [1] rfl)
      · have hf := if_f hf c11
        refine lv_aload_n hx hb dX12_readsStatement_139 rfl (lv_at hl 1 rfl) ?_
        refine lv_iconst (v := 2) hx hb dX12_readsStatement_140 (by decide) ?_
        refine lv_iconst (v := 1) hx hb dX12_readsStatement_141 (by decide) ?_
        obtain ⟨q12, hq12, hf⟩ := bind_s hf
        refine g_callV (As := [.int 2, .int 1]) (rest := []) hx hb hml hown hts hK hN (m_X12_readsNumber l D a C ha q10.2 2 1  q12.1 q12.2 hq12) (cwV 2 hts (gUV (u12_3 _ (List.mem_of_getElem? (i := 12) rfl)) (u12_3 _ (List.mem_of_getElem? (i := 13) rfl)) (u12_3 _ (List.mem_of_getElem? (i := 14) rfl)) (u12_1 _ (List.mem_of_getElem? (i := 7) rfl)) (u12_3 _ (List.mem_of_getElem? (i := 7) rfl))) rfl rfl rfl kdX12_readsNumber ⟨Nat.le_of_ble_eq_true rfl, Nat.le_of_ble_eq_true rfl⟩) M_O rfl rfl hP hS hA rfl hl.1 rfl (Nat.le_of_ble_eq_true rfl) dX12_readsStatement_142 ⟨Nat.le_refl _, Nat.le_refl _⟩ (fun H locs hP hS => ?_)
        refine W.eq (g2 := F0 m 145 ls [.int q12.1]) rfl ?_
        refine lv_if_eq (tgt := 152) hx hb dX12_readsStatement_145 (by decide) (fun c13 => ?_) (fun c13 => ?_)
        · have hf := if_t hf c13
          exact J152 q12.2 hf H locs ls hP hS (lv_sub hl [1] rfl)
        · have hf := if_f hf c13
          refine lv_iconst (v := 1) hx hb dX12_readsStatement_148 (by decide) ?_
          refine lv_goto (tgt := 153) hx hb dX12_readsStatement_149 (by decide) ?_
          exact J153 1 q12.2 hf H locs ls hP hS (lv_sub hl [1] rfl)
  have hf := if_f hf c7
  by_cases c14 : q1 = 108
  · have hf := if_t hf c14
    refine lv_tableIn (tgt := 84) hx hb dX12_readsStatement_16 (by rw [c14]; decide) (by rw [c14]; decide) (by rw [c14]; rfl) (by decide) ?_
    exact J84 h2 hf H locs ls hP hS (lv_sub hl [1] rfl)
  have hf := if_f hf c14
  by_cases c15 : q1 = 112
  · have hf := if_t hf c15
    refine lv_tableIn (tgt := 84) hx hb dX12_readsStatement_16 (by rw [c15]; decide) (by rw [c15]; decide) (by rw [c15]; rfl) (by decide) ?_
    exact J84 h2 hf H locs ls hP hS (lv_sub hl [1] rfl)
  have hf := if_f hf c15
  by_cases c16 : q1 = 101
  · refine lv_tableIn (tgt := 167) hx hb dX12_readsStatement_16 (by rw [c16]; decide) (by rw [c16]; decide) (by rw [c16]; rfl) (by decide) ?_
    exact J167 h2 hf H locs ls hP hS (lv_sub hl [1] rfl)
  by_cases c17 : q1 = 102
  · refine lv_tableIn (tgt := 167) hx hb dX12_readsStatement_16 (by rw [c17]; decide) (by rw [c17]; decide) (by rw [c17]; rfl) (by decide) ?_
    exact J167 h2 hf H locs ls hP hS (lv_sub hl [1] rfl)
  by_cases c18 : q1 = 103
  · refine lv_tableIn (tgt := 167) hx hb dX12_readsStatement_16 (by rw [c18]; decide) (by rw [c18]; decide) (by rw [c18]; rfl) (by decide) ?_
    exact J167 h2 hf H locs ls hP hS (lv_sub hl [1] rfl)
  by_cases c19 : q1 = 105
  · refine lv_tableIn (tgt := 167) hx hb dX12_readsStatement_16 (by rw [c19]; decide) (by rw [c19]; decide) (by rw [c19]; rfl) (by decide) ?_
    exact J167 h2 hf H locs ls hP hS (lv_sub hl [1] rfl)
  by_cases c20 : q1 = 106
  · refine lv_tableIn (tgt := 167) hx hb dX12_readsStatement_16 (by rw [c20]; decide) (by rw [c20]; decide) (by rw [c20]; rfl) (by decide) ?_
    exact J167 h2 hf H locs ls hP hS (lv_sub hl [1] rfl)
  by_cases c21 : q1 = 109
  · refine lv_tableIn (tgt := 167) hx hb dX12_readsStatement_16 (by rw [c21]; decide) (by rw [c21]; decide) (by rw [c21]; rfl) (by decide) ?_
    exact J167 h2 hf H locs ls hP hS (lv_sub hl [1] rfl)
  by_cases c22 : q1 = 110
  · refine lv_tableIn (tgt := 167) hx hb dX12_readsStatement_16 (by rw [c22]; decide) (by rw [c22]; decide) (by rw [c22]; rfl) (by decide) ?_
    exact J167 h2 hf H locs ls hP hS (lv_sub hl [1] rfl)
  by_cases c23 : q1 = 111
  · refine lv_tableIn (tgt := 167) hx hb dX12_readsStatement_16 (by rw [c23]; decide) (by rw [c23]; decide) (by rw [c23]; rfl) (by decide) ?_
    exact J167 h2 hf H locs ls hP hS (lv_sub hl [1] rfl)
  refine lv_tableOut (tgt := 167) hx hb dX12_readsStatement_16 (by have n0 := ti_nz (z := 100) (by decide) c3; have n1 := ti_nz (z := 104) (by decide) c5; have n2 := ti_nz (z := 107) (by decide) c7; have n3 := ti_nz (z := 108) (by decide) c14; have n4 := ti_nz (z := 112) (by decide) c15; have n5 := ti_nz (z := 101) (by decide) c16; have n6 := ti_nz (z := 102) (by decide) c17; have n7 := ti_nz (z := 103) (by decide) c18; have n8 := ti_nz (z := 105) (by decide) c19; have n9 := ti_nz (z := 106) (by decide) c20; have n10 := ti_nz (z := 109) (by decide) c21; have n11 := ti_nz (z := 110) (by decide) c22; have n12 := ti_nz (z := 111) (by decide) c23; omega) (by decide) ?_
  exact J167 h2 hf H locs ls hP hS (lv_sub hl [1] rfl)

def X12_adds (h : HS) (v1 : Int32) (v2 : Int32) : Option HS :=
    gdi 0 30 <|
    nm (aI h 67 (0 : Int32).toNatClampNeg) fun x2 =>
    (X12_of x2 0).bind fun q3 =>
    gdi q3 30 <|
    nm (sA h 67 (upd (aI h 67) q3.toNatClampNeg v1)) fun h4 =>
    (X12_of x2 1).bind fun q6 =>
    gdi q6 30 <|
    nm (sA h4 67 (upd (aI h4 67) q6.toNatClampNeg v2)) fun h7 =>
    (X12_of x2 2).bind fun q9 =>
    gdi q9 30 <|
    nm (sA h7 67 (upd (aI h7 67) q9.toNatClampNeg 0)) fun h10 =>
    gdi 0 30 <|
    gdi 0 30 <|
    nm (sA h10 67 (upd (aI h10 67) (0 : Int32).toNatClampNeg ((aI h10 67 (0 : Int32).toNatClampNeg) + 1))) fun h13 =>
    some h13
def uX12_adds : List Cond := .code yX12_adds cX12_adds 4 none :: UU
def rmX12_adds : Room := { frames := 1, cells := 0, slots := 0, locals := 21 }
theorem kdX12_adds : yX12_adds.cls = RX12 ∧ yX12_adds.cls ≠ "java/lang/invoke/MethodHandle" ∧ yX12_adds.cls ≠ "java/lang/invoke/VarHandle" ∧ (parseMethodDescriptor yX12_adds.desc).map (fun d => d.parameters.length) = some 2 := by decide +kernel
set_option maxHeartbeats 4000000 in
set_option maxRecDepth 100000 in
theorem m_X12_adds (l : Launch) (D : va_G) (a : Nat → Nat) (C : Nat → ClassId) (ha : ginj a) (h : HS) (v1 : Int32) (v2 : Int32)  (h' : HS) (hf : X12_adds h v1 v2 = some h') : gM l yX12_adds uX12_adds rmX12_adds D a C [.ref (a 66), .int v1, .int v2] h none h' := by
  refine g_start (av := [.ref (a 66), .int v1, .int v2]) (cc := cX12_adds) (maxL := 4) (rt := none) (by decide) rfl (Nat.le_of_ble_eq_true rfl) ?_
  intro p e s m below meth c hx hb hr hml hown hlk hts hP hK hN ls hl
  have hA : ∀ q, gA a q → gA a q := fun _ q => q
  have hS : va_S (gA a) s.heap s.heap [] := va_S.rf
  have hl : lv_has ls 4 [(0, .ref (a 66)), (1, .int v1), (2, .int v2)] := hl
  unfold X12_adds at hf
  refine lv_aload_n hx hb dX12_adds_0 rfl (lv_at hl 0 rfl) ?_
  refine g_get (Cn := RX12) (T := TX12) (N := 21) (v := .ref (a 67)) (own := RX12) hx hb hown hts hK M_O rfl (fun _ hw => List.mem_cons_of_mem _ (u12_cls _ hw)) 0 (by decide) (List.mem_cons_of_mem _ (u12_0 _ (List.mem_of_getElem? (i := 5) rfl))) rfl rfl hP dX12_adds_1 ?_
  refine lv_iconst (v := 0) hx hb dX12_adds_4 (by decide) ?_
  obtain ⟨c1, hf⟩ := gdi_s hf
  refine g_ial hx hb hK (⟨by decide, rfl⟩ : gAI 67 30) c1 hP dX12_adds_5 ?_
  refine lv_topi (fun x2 ex2 => ?_)
  have hf := nm_s hf ex2
  refine lv_istore_n (lv' := [(3, .int x2), (0, .ref (a 66)), (1, .int v1), (2, .int v2)]) hx hb dX12_adds_6 rfl hl (by decide) rfl (fun ls hl => ?_)
  refine lv_aload_n hx hb dX12_adds_7 rfl (lv_at hl 1 rfl) ?_
  refine g_get (Cn := RX12) (T := TX12) (N := 21) (v := .ref (a 67)) (own := RX12) hx hb hown hts hK M_O rfl (fun _ hw => List.mem_cons_of_mem _ (u12_cls _ hw)) 0 (by decide) (List.mem_cons_of_mem _ (u12_0 _ (List.mem_of_getElem? (i := 5) rfl))) rfl rfl hP dX12_adds_8 ?_
  refine lv_iload_n hx hb dX12_adds_11 rfl (lv_at hl 0 rfl) ?_
  refine lv_iconst (v := 0) hx hb dX12_adds_12 (by decide) ?_
  obtain ⟨q3, hq3, hf⟩ := bind_s hf
  refine g_callS (As := [.int x2, .int 0]) (rest := [.ref (a 67)]) hx hb hml hown hts hK hN (m_X12_of l D a C ha h x2 0  q3 hq3) (va_cwS 2 hts (gUS (u12_1 _ (List.mem_of_getElem? (i := 15) rfl)) (u12_1 _ (List.mem_of_getElem? (i := 16) rfl)) (u12_1 _ (List.mem_of_getElem? (i := 7) rfl)) (u12_1 _ (List.mem_of_getElem? (i := 3) rfl))) rfl rfl rfl kdX12_of.2 ⟨Nat.le_of_ble_eq_true rfl, Nat.le_of_ble_eq_true rfl⟩) hP hS hA rfl hl.1 rfl (Nat.le_of_ble_eq_true rfl) dX12_adds_13 ⟨Nat.le_refl _, Nat.le_refl _⟩ (fun H locs hP hS => ?_)
  refine W.eq (g2 := F0 m 16 ls [.int q3, .ref (a 67)]) rfl ?_
  refine lv_iload_n hx hb dX12_adds_16 rfl (lv_at hl 2 rfl) ?_
  obtain ⟨c5, hf⟩ := gdi_s hf
  refine g_ias hx hb hK ha hA (⟨by decide, rfl⟩ : gAI 67 30) c5 hP hS dX12_adds_17 (fun H locs hP hS => ?_)
  obtain ⟨h4, eh4⟩ : ∃ x, x = (sA h 67 (upd (aI h 67) q3.toNatClampNeg v1)) := ⟨_, rfl⟩
  rw [← eh4] at hP
  have hf := nm_s hf eh4
  refine lv_aload_n hx hb dX12_adds_18 rfl (lv_at hl 1 rfl) ?_
  refine g_get (Cn := RX12) (T := TX12) (N := 21) (v := .ref (a 67)) (own := RX12) hx hb hown hts hK M_O rfl (fun _ hw => List.mem_cons_of_mem _ (u12_cls _ hw)) 0 (by decide) (List.mem_cons_of_mem _ (u12_0 _ (List.mem_of_getElem? (i := 5) rfl))) rfl rfl hP dX12_adds_19 ?_
  refine lv_iload_n hx hb dX12_adds_22 rfl (lv_at hl 0 rfl) ?_
  refine lv_iconst (v := 1) hx hb dX12_adds_23 (by decide) ?_
  obtain ⟨q6, hq6, hf⟩ := bind_s hf
  refine g_callS (As := [.int x2, .int 1]) (rest := [.ref (a 67)]) hx hb hml hown hts hK hN (m_X12_of l D a C ha h4 x2 1  q6 hq6) (va_cwS 2 hts (gUS (u12_1 _ (List.mem_of_getElem? (i := 15) rfl)) (u12_1 _ (List.mem_of_getElem? (i := 16) rfl)) (u12_1 _ (List.mem_of_getElem? (i := 7) rfl)) (u12_1 _ (List.mem_of_getElem? (i := 3) rfl))) rfl rfl rfl kdX12_of.2 ⟨Nat.le_of_ble_eq_true rfl, Nat.le_of_ble_eq_true rfl⟩) hP hS hA rfl hl.1 rfl (Nat.le_of_ble_eq_true rfl) dX12_adds_24 ⟨Nat.le_refl _, Nat.le_refl _⟩ (fun H locs hP hS => ?_)
  refine W.eq (g2 := F0 m 27 ls [.int q6, .ref (a 67)]) rfl ?_
  refine lv_iload_n hx hb dX12_adds_27 rfl (lv_at hl 3 rfl) ?_
  obtain ⟨c8, hf⟩ := gdi_s hf
  refine g_ias hx hb hK ha hA (⟨by decide, rfl⟩ : gAI 67 30) c8 hP hS dX12_adds_28 (fun H locs hP hS => ?_)
  obtain ⟨h7, eh7⟩ : ∃ x, x = (sA h4 67 (upd (aI h4 67) q6.toNatClampNeg v2)) := ⟨_, rfl⟩
  rw [← eh7] at hP
  have hf := nm_s hf eh7
  refine lv_aload_n hx hb dX12_adds_29 rfl (lv_at hl 1 rfl) ?_
  refine g_get (Cn := RX12) (T := TX12) (N := 21) (v := .ref (a 67)) (own := RX12) hx hb hown hts hK M_O rfl (fun _ hw => List.mem_cons_of_mem _ (u12_cls _ hw)) 0 (by decide) (List.mem_cons_of_mem _ (u12_0 _ (List.mem_of_getElem? (i := 5) rfl))) rfl rfl hP dX12_adds_30 ?_
  refine lv_iload_n hx hb dX12_adds_33 rfl (lv_at hl 0 rfl) ?_
  refine lv_iconst (v := 2) hx hb dX12_adds_34 (by decide) ?_
  obtain ⟨q9, hq9, hf⟩ := bind_s hf
  refine g_callS (As := [.int x2, .int 2]) (rest := [.ref (a 67)]) hx hb hml hown hts hK hN (m_X12_of l D a C ha h7 x2 2  q9 hq9) (va_cwS 2 hts (gUS (u12_1 _ (List.mem_of_getElem? (i := 15) rfl)) (u12_1 _ (List.mem_of_getElem? (i := 16) rfl)) (u12_1 _ (List.mem_of_getElem? (i := 7) rfl)) (u12_1 _ (List.mem_of_getElem? (i := 3) rfl))) rfl rfl rfl kdX12_of.2 ⟨Nat.le_of_ble_eq_true rfl, Nat.le_of_ble_eq_true rfl⟩) hP hS hA rfl hl.1 rfl (Nat.le_of_ble_eq_true rfl) dX12_adds_35 ⟨Nat.le_refl _, Nat.le_refl _⟩ (fun H locs hP hS => ?_)
  refine W.eq (g2 := F0 m 38 ls [.int q9, .ref (a 67)]) rfl ?_
  refine lv_iconst (v := 0) hx hb dX12_adds_38 (by decide) ?_
  obtain ⟨c11, hf⟩ := gdi_s hf
  refine g_ias hx hb hK ha hA (⟨by decide, rfl⟩ : gAI 67 30) c11 hP hS dX12_adds_39 (fun H locs hP hS => ?_)
  obtain ⟨h10, eh10⟩ : ∃ x, x = (sA h7 67 (upd (aI h7 67) q9.toNatClampNeg 0)) := ⟨_, rfl⟩
  rw [← eh10] at hP
  have hf := nm_s hf eh10
  refine lv_aload_n hx hb dX12_adds_40 rfl (lv_at hl 1 rfl) ?_
  refine g_get (Cn := RX12) (T := TX12) (N := 21) (v := .ref (a 67)) (own := RX12) hx hb hown hts hK M_O rfl (fun _ hw => List.mem_cons_of_mem _ (u12_cls _ hw)) 0 (by decide) (List.mem_cons_of_mem _ (u12_0 _ (List.mem_of_getElem? (i := 5) rfl))) rfl rfl hP dX12_adds_41 ?_
  refine lv_iconst (v := 0) hx hb dX12_adds_44 (by decide) ?_
  refine lv_dup2_11 hx hb dX12_adds_45 rfl rfl ?_
  obtain ⟨c12, hf⟩ := gdi_s hf
  refine g_ial hx hb hK (⟨by decide, rfl⟩ : gAI 67 30) c12 hP dX12_adds_46 ?_
  refine lv_iconst (v := 1) hx hb dX12_adds_47 (by decide) ?_
  refine lv_iadd hx hb dX12_adds_48 ?_
  obtain ⟨c14, hf⟩ := gdi_s hf
  refine g_ias hx hb hK ha hA (⟨by decide, rfl⟩ : gAI 67 30) c14 hP hS dX12_adds_49 (fun H locs hP hS => ?_)
  obtain ⟨h13, eh13⟩ : ∃ x, x = (sA h10 67 (upd (aI h10 67) (0 : Int32).toNatClampNeg ((aI h10 67 (0 : Int32).toNatClampNeg) + 1))) := ⟨_, rfl⟩
  rw [← eh13] at hP
  have hf := nm_s hf eh13
  exact g_vret hx hb hr hlk hP hS (ret1 hf) dX12_adds_50

def X12_isDone_B181 (v1 : Int32) (v2 : Int32) (h : HS) : Option (Int32 × HS) :=
    (X12_isIn v2 1 60).bind fun q33 =>
    (if q33 = 0 then
    some (0, h)
    else
    gdi 1 30 <|
    (if ((aI h 67 (1 : Int32).toNatClampNeg) + v2) ≤ 999 then
    (X12_daysOn h 67 v2).bind fun q37 =>
    some (1, q37)
    else
    some (0, h)))
def X12_isDone (h : HS) (v1 : Int32) : Option (Int32 × HS) :=
    gdi 0 3 <|
    nm (aI h 71 (0 : Int32).toNatClampNeg) fun x2 =>
    gdi 1 3 <|
    nm (aI h 71 (1 : Int32).toNatClampNeg) fun x4 =>
    (if v1 = 104 then
    (X12_isOne h x2).bind fun q6 =>
    (if q6 = 0 then
    some (0, h)
    else
    (X12_isDeaf h 67 x2).bind fun q8 =>
    (if q8 = 0 then
    gdi 2 30 <|
    gdi 2 30 <|
    nm (sA h 67 (upd (aI h 67) (2 : Int32).toNatClampNeg ((aI h 67 (2 : Int32).toNatClampNeg) ^^^ ((1 : Int32) <<< (x2 &&& 31))))) fun h11 =>
    some (1, h11)
    else
    some (0, h)))
    else
    (if v1 = 107 then
    (X12_isOne h x2).bind fun q14 =>
    (if q14 = 0 then
    some (0, h)
    else
    (if x4 < 8 then
    gdi 2 3 <|
    (X12_becomes h 67 x2 x4 (aI h 71 (2 : Int32).toNatClampNeg)).bind fun q18 =>
    some (1, q18)
    else
    some (0, h)))
    else
    (if v1 = 108 then
    (X12_areTwo h x2 x4).bind fun q20 =>
    (if q20 = 0 then
    some (0, h)
    else
    (X12_changesLine h 67 x2 x4).bind fun q22 =>
    some (1, q22))
    else
    (if v1 = 112 then
    (if 8 ≤ x2 then
    some (0, h)
    else
    gdi 0 30 <|
    (if (aI h 67 (0 : Int32).toNatClampNeg) = 9 then
    some (0, h)
    else
    (X12_adds h x2 x4).bind fun q27 =>
    some (1, q27)))
    else
    X12_isDone_B181 v1 x2 h))))
def uX12_isDone : List Cond := .code yX12_isDone cX12_isDone 4 (some .boolean) :: UU
def rmX12_isDone : Room := { frames := 6, cells := 0, slots := 0, locals := 133 }
theorem kdX12_isDone : yX12_isDone.cls = RX12 ∧ yX12_isDone.cls ≠ "java/lang/invoke/MethodHandle" ∧ yX12_isDone.cls ≠ "java/lang/invoke/VarHandle" ∧ (parseMethodDescriptor yX12_isDone.desc).map (fun d => d.parameters.length) = some 1 := by decide +kernel
set_option maxHeartbeats 4000000 in
set_option maxRecDepth 100000 in
theorem m_X12_isDone (l : Launch) (D : va_G) (a : Nat → Nat) (C : Nat → ClassId) (ha : ginj a) (h : HS) (v1 : Int32)  (r : Int32) (h' : HS) (hf : X12_isDone h v1 = some (r, h')) : gM l yX12_isDone uX12_isDone rmX12_isDone D a C [.ref (a 66), .int v1] h (some (.int r)) h' := by
  refine g_start (av := [.ref (a 66), .int v1]) (cc := cX12_isDone) (maxL := 4) (rt := (some .boolean)) (by decide) rfl (Nat.le_of_ble_eq_true rfl) ?_
  intro p e s m below meth c hx hb hr hml hown hlk hts hP hK hN ls hl
  have hA : ∀ q, gA a q → gA a q := fun _ q => q
  have hS : va_S (gA a) s.heap s.heap [] := va_S.rf
  have hl : lv_has ls 4 [(0, .ref (a 66)), (1, .int v1)] := hl
  have J181 : ∀ (v2 : Int32) (h : HS) (_ : X12_isDone_B181 v1 v2 h = some (r, h')), gG p l e (headSpec uX12_isDone rmX12_isDone).room s m ([.ref (a 66), .int v1] : List Value).toArray below meth c (MQ below (gQ (some (.int r)) D a C h') ([.ref (a 66), .int v1] : List Value).toArray s 0 0 (gA a)) D a C 4 h 181 [(0, .ref (a 66)), (2, .int v2)] [] := by
    intro v2 h hf H locs ls hP hS hl
    unfold X12_isDone_B181 at hf
    refine lv_iload_n hx hb dX12_isDone_181 rfl (lv_at hl 1 rfl) ?_
    refine lv_iconst (v := 1) hx hb dX12_isDone_182 (by decide) ?_
    refine lv_bipush (v := 60) hx hb dX12_isDone_183 (by decide) ?_
    obtain ⟨q33, hq33, hf⟩ := bind_s hf
    refine g_callS (As := [.int v2, .int 1, .int 60]) (rest := []) hx hb hml hown hts hK hN (m_X12_isIn l D a C ha h v2 1 60  q33 hq33) (va_cwS 3 hts (gUS (u12_1 _ (List.mem_of_getElem? (i := 5) rfl)) (u12_1 _ (List.mem_of_getElem? (i := 6) rfl)) (u12_1 _ (List.mem_of_getElem? (i := 7) rfl)) (u12_1 _ (List.mem_of_getElem? (i := 1) rfl))) rfl rfl rfl kdX12_isIn.2 ⟨Nat.le_of_ble_eq_true rfl, Nat.le_of_ble_eq_true rfl⟩) hP hS hA rfl hl.1 rfl (Nat.le_of_ble_eq_true rfl) dX12_isDone_185 ⟨Nat.le_refl _, Nat.le_refl _⟩ (fun H locs hP hS => ?_)
    refine W.eq (g2 := F0 m 188 ls [.int q33]) rfl ?_
    refine lv_if_eq (tgt := 205) hx hb dX12_isDone_188 (by decide) (fun c34 => ?_) (fun c34 => ?_)
    · have hf := if_t hf c34
      refine lv_iconst (v := 0) hx hb dX12_isDone_205 (by decide) ?_
      exact g_zretW hx hb hr hlk (by decide) hP hS (ret2 hf) dX12_isDone_206
    · have hf := if_f hf c34
      refine lv_aload_n hx hb dX12_isDone_191 rfl (lv_at hl 0 rfl) ?_
      refine g_get (Cn := RX12) (T := TX12) (N := 21) (v := .ref (a 67)) (own := RX12) hx hb hown hts hK M_O rfl (fun _ hw => List.mem_cons_of_mem _ (u12_cls _ hw)) 0 (by decide) (List.mem_cons_of_mem _ (u12_0 _ (List.mem_of_getElem? (i := 5) rfl))) rfl rfl hP dX12_isDone_192 ?_
      refine lv_iconst (v := 1) hx hb dX12_isDone_195 (by decide) ?_
      obtain ⟨c35, hf⟩ := gdi_s hf
      refine g_ial hx hb hK (⟨by decide, rfl⟩ : gAI 67 30) c35 hP dX12_isDone_196 ?_
      refine lv_iload_n hx hb dX12_isDone_197 rfl (lv_at hl 1 rfl) ?_
      refine lv_iadd hx hb dX12_isDone_198 ?_
      refine lv_sipush (v := 999) hx hb dX12_isDone_199 (by decide) ?_
      refine lv_icmp_le (tgt := 207) hx hb dX12_isDone_202 (by decide) (fun c36 => ?_) (fun c36 => ?_)
      · have hf := if_t hf c36
        refine lv_aload_n hx hb dX12_isDone_207 rfl (lv_at hl 0 rfl) ?_
        refine g_get (Cn := RX12) (T := TX12) (N := 21) (v := .ref (a 67)) (own := RX12) hx hb hown hts hK M_O rfl (fun _ hw => List.mem_cons_of_mem _ (u12_cls _ hw)) 0 (by decide) (List.mem_cons_of_mem _ (u12_0 _ (List.mem_of_getElem? (i := 5) rfl))) rfl rfl hP dX12_isDone_208 ?_
        refine lv_iload_n hx hb dX12_isDone_211 rfl (lv_at hl 1 rfl) ?_
        obtain ⟨q37, hq37, hf⟩ := bind_s hf
        refine g_callS (As := [.ref (a 67), .int v2]) (rest := []) hx hb hml hown hts hK hN (m_X12_daysOn l D a C ha h 67 v2 (Or.inl rfl) q37 hq37) (va_cwS 2 hts (gUS (u12_4 _ (List.mem_of_getElem? (i := 6) rfl)) (u12_4 _ (List.mem_of_getElem? (i := 7) rfl)) (u12_1 _ (List.mem_of_getElem? (i := 7) rfl)) (u12_2 _ (List.mem_of_getElem? (i := 19) rfl))) rfl rfl rfl kdX12_daysOn.2 ⟨Nat.le_of_ble_eq_true rfl, Nat.le_of_ble_eq_true rfl⟩) hP hS hA rfl hl.1 rfl (Nat.le_of_ble_eq_true rfl) dX12_isDone_212 ⟨Nat.le_refl _, Nat.le_refl _⟩ (fun H locs hP hS => ?_)
        refine W.eq (g2 := F0 m 215 ls []) rfl ?_
        refine lv_iconst (v := 1) hx hb dX12_isDone_215 (by decide) ?_
        exact g_zretW hx hb hr hlk (by decide) hP hS (ret2 hf) dX12_isDone_216
      · have hf := if_f hf c36
        refine lv_iconst (v := 0) hx hb dX12_isDone_205 (by decide) ?_
        exact g_zretW hx hb hr hlk (by decide) hP hS (ret2 hf) dX12_isDone_206
  unfold X12_isDone at hf
  suffices hh : ∀ (H : Heap) (locs : List Loc), va_P D vwCl (gw a C h) H → va_S (gA a) s.heap H locs → W p l e (headSpec uX12_isDone rmX12_isDone).room s m ([.ref (a 66), .int v1] : List Value).toArray below meth c H locs 0 0 (MQ below (gQ (some (.int r)) D a C h') ([.ref (a 66), .int v1] : List Value).toArray s 0 0 (gA a)) (F0 m 0 ls []) from hh _ _ hP hS
  intro H locs hP hS
  refine lv_aload_n hx hb dX12_isDone_0 rfl (lv_at hl 0 rfl) ?_
  refine g_get (Cn := RX12) (T := TX12) (N := 21) (v := .ref (a 71)) (own := RX12) hx hb hown hts hK M_O rfl (fun _ hw => List.mem_cons_of_mem _ (u12_cls _ hw)) 8 (by decide) (List.mem_cons_of_mem _ (u12_0 _ (List.mem_of_getElem? (i := 9) rfl))) rfl rfl hP dX12_isDone_1 ?_
  refine lv_iconst (v := 0) hx hb dX12_isDone_4 (by decide) ?_
  obtain ⟨c1, hf⟩ := gdi_s hf
  refine g_ial hx hb hK (⟨by decide, rfl⟩ : gAI 71 3) c1 hP dX12_isDone_5 ?_
  refine lv_topi (fun x2 ex2 => ?_)
  have hf := nm_s hf ex2
  refine lv_istore_n (lv' := [(2, .int x2), (0, .ref (a 66)), (1, .int v1)]) hx hb dX12_isDone_6 rfl hl (by decide) rfl (fun ls hl => ?_)
  refine lv_aload_n hx hb dX12_isDone_7 rfl (lv_at hl 1 rfl) ?_
  refine g_get (Cn := RX12) (T := TX12) (N := 21) (v := .ref (a 71)) (own := RX12) hx hb hown hts hK M_O rfl (fun _ hw => List.mem_cons_of_mem _ (u12_cls _ hw)) 8 (by decide) (List.mem_cons_of_mem _ (u12_0 _ (List.mem_of_getElem? (i := 9) rfl))) rfl rfl hP dX12_isDone_8 ?_
  refine lv_iconst (v := 1) hx hb dX12_isDone_11 (by decide) ?_
  obtain ⟨c3, hf⟩ := gdi_s hf
  refine g_ial hx hb hK (⟨by decide, rfl⟩ : gAI 71 3) c3 hP dX12_isDone_12 ?_
  refine lv_topi (fun x4 ex4 => ?_)
  have hf := nm_s hf ex4
  refine lv_istore_n (lv' := [(3, .int x4), (2, .int x2), (0, .ref (a 66)), (1, .int v1)]) hx hb dX12_isDone_13 rfl hl (by decide) rfl (fun ls hl => ?_)
  refine lv_iload_n hx hb dX12_isDone_14 rfl (lv_at hl 3 rfl) ?_
  by_cases c5 : v1 = 104
  · have hf := if_t hf c5
    refine lv_tableIn (tgt := 113) hx hb dX12_isDone_15 (by rw [c5]; decide) (by rw [c5]; decide) (by rw [c5]; rfl) (by decide) ?_
    refine lv_aload_n hx hb dX12_isDone_113 rfl (lv_at hl 2 rfl) ?_
    refine lv_iload_n hx hb dX12_isDone_114 rfl (lv_at hl 1 rfl) ?_
    obtain ⟨q6, hq6, hf⟩ := bind_s hf
    refine g_callV (As := [.int x2]) (rest := []) hx hb hml hown hts hK hN (m_X12_isOne l D a C ha h x2  q6 hq6) (cwV 1 hts (gUV (u12_1 _ (List.mem_of_getElem? (i := 9) rfl)) (u12_1 _ (List.mem_of_getElem? (i := 10) rfl)) (u12_1 _ (List.mem_of_getElem? (i := 11) rfl)) (u12_1 _ (List.mem_of_getElem? (i := 7) rfl)) (u12_1 _ (List.mem_of_getElem? (i := 4) rfl))) rfl rfl rfl kdX12_isOne ⟨Nat.le_of_ble_eq_true rfl, Nat.le_of_ble_eq_true rfl⟩) M_O rfl rfl hP hS hA rfl hl.1 rfl (Nat.le_of_ble_eq_true rfl) dX12_isDone_115 ⟨Nat.le_refl _, Nat.le_refl _⟩ (fun H locs hP hS => ?_)
    refine W.eq (g2 := F0 m 118 ls [.int q6]) rfl ?_
    refine lv_if_eq (tgt := 132) hx hb dX12_isDone_118 (by decide) (fun c7 => ?_) (fun c7 => ?_)
    · have hf := if_t hf c7
      refine lv_iconst (v := 0) hx hb dX12_isDone_132 (by decide) ?_
      exact g_zretW hx hb hr hlk (by decide) hP hS (ret2 hf) dX12_isDone_133
    · have hf := if_f hf c7
      refine lv_aload_n hx hb dX12_isDone_121 rfl (lv_at hl 2 rfl) ?_
      refine g_get (Cn := RX12) (T := TX12) (N := 21) (v := .ref (a 67)) (own := RX12) hx hb hown hts hK M_O rfl (fun _ hw => List.mem_cons_of_mem _ (u12_cls _ hw)) 0 (by decide) (List.mem_cons_of_mem _ (u12_0 _ (List.mem_of_getElem? (i := 5) rfl))) rfl rfl hP dX12_isDone_122 ?_
      refine lv_iload_n hx hb dX12_isDone_125 rfl (lv_at hl 1 rfl) ?_
      obtain ⟨q8, hq8, hf⟩ := bind_s hf
      refine g_callS (As := [.ref (a 67), .int x2]) (rest := []) hx hb hml hown hts hK hN (m_X12_isDeaf l D a C ha h 67 x2 (Or.inl rfl) q8 hq8) (va_cwS 2 hts (gUS (u12_2 _ (List.mem_of_getElem? (i := 10) rfl)) (u12_2 _ (List.mem_of_getElem? (i := 11) rfl)) (u12_1 _ (List.mem_of_getElem? (i := 7) rfl)) (u12_1 _ (List.mem_of_getElem? (i := 19) rfl))) rfl rfl rfl kdX12_isDeaf.2 ⟨Nat.le_of_ble_eq_true rfl, Nat.le_of_ble_eq_true rfl⟩) hP hS hA rfl hl.1 rfl (Nat.le_of_ble_eq_true rfl) dX12_isDone_126 ⟨Nat.le_refl _, Nat.le_refl _⟩ (fun H locs hP hS => ?_)
      refine W.eq (g2 := F0 m 129 ls [.int q8]) rfl ?_
      refine lv_if_eq (tgt := 134) hx hb dX12_isDone_129 (by decide) (fun c9 => ?_) (fun c9 => ?_)
      · have hf := if_t hf c9
        refine lv_aload_n hx hb dX12_isDone_134 rfl (lv_at hl 2 rfl) ?_
        refine g_get (Cn := RX12) (T := TX12) (N := 21) (v := .ref (a 67)) (own := RX12) hx hb hown hts hK M_O rfl (fun _ hw => List.mem_cons_of_mem _ (u12_cls _ hw)) 0 (by decide) (List.mem_cons_of_mem _ (u12_0 _ (List.mem_of_getElem? (i := 5) rfl))) rfl rfl hP dX12_isDone_135 ?_
        refine lv_iconst (v := 2) hx hb dX12_isDone_138 (by decide) ?_
        refine lv_dup2_11 hx hb dX12_isDone_139 rfl rfl ?_
        obtain ⟨c10, hf⟩ := gdi_s hf
        refine g_ial hx hb hK (⟨by decide, rfl⟩ : gAI 67 30) c10 hP dX12_isDone_140 ?_
        refine lv_iconst (v := 1) hx hb dX12_isDone_141 (by decide) ?_
        refine lv_iload_n hx hb dX12_isDone_142 rfl (lv_at hl 1 rfl) ?_
        refine lv_ishl hx hb dX12_isDone_143 ?_
        refine lv_ixor hx hb dX12_isDone_144 ?_
        obtain ⟨c12, hf⟩ := gdi_s hf
        refine g_ias hx hb hK ha hA (⟨by decide, rfl⟩ : gAI 67 30) c12 hP hS dX12_isDone_145 (fun H locs hP hS => ?_)
        obtain ⟨h11, eh11⟩ : ∃ x, x = (sA h 67 (upd (aI h 67) (2 : Int32).toNatClampNeg ((aI h 67 (2 : Int32).toNatClampNeg) ^^^ ((1 : Int32) <<< (x2 &&& 31))))) := ⟨_, rfl⟩
        rw [← eh11] at hP
        have hf := nm_s hf eh11
        refine lv_iconst (v := 1) hx hb dX12_isDone_146 (by decide) ?_
        exact g_zretW hx hb hr hlk (by decide) hP hS (ret2 hf) dX12_isDone_147
      · have hf := if_f hf c9
        refine lv_iconst (v := 0) hx hb dX12_isDone_132 (by decide) ?_
        exact g_zretW hx hb hr hlk (by decide) hP hS (ret2 hf) dX12_isDone_133
  have hf := if_f hf c5
  by_cases c13 : v1 = 107
  · have hf := if_t hf c13
    refine lv_tableIn (tgt := 148) hx hb dX12_isDone_15 (by rw [c13]; decide) (by rw [c13]; decide) (by rw [c13]; rfl) (by decide) ?_
    refine lv_aload_n hx hb dX12_isDone_148 rfl (lv_at hl 2 rfl) ?_
    refine lv_iload_n hx hb dX12_isDone_149 rfl (lv_at hl 1 rfl) ?_
    obtain ⟨q14, hq14, hf⟩ := bind_s hf
    refine g_callV (As := [.int x2]) (rest := []) hx hb hml hown hts hK hN (m_X12_isOne l D a C ha h x2  q14 hq14) (cwV 1 hts (gUV (u12_1 _ (List.mem_of_getElem? (i := 9) rfl)) (u12_1 _ (List.mem_of_getElem? (i := 10) rfl)) (u12_1 _ (List.mem_of_getElem? (i := 11) rfl)) (u12_1 _ (List.mem_of_getElem? (i := 7) rfl)) (u12_1 _ (List.mem_of_getElem? (i := 4) rfl))) rfl rfl rfl kdX12_isOne ⟨Nat.le_of_ble_eq_true rfl, Nat.le_of_ble_eq_true rfl⟩) M_O rfl rfl hP hS hA rfl hl.1 rfl (Nat.le_of_ble_eq_true rfl) dX12_isDone_150 ⟨Nat.le_refl _, Nat.le_refl _⟩ (fun H locs hP hS => ?_)
    refine W.eq (g2 := F0 m 153 ls [.int q14]) rfl ?_
    refine lv_if_eq (tgt := 162) hx hb dX12_isDone_153 (by decide) (fun c15 => ?_) (fun c15 => ?_)
    · have hf := if_t hf c15
      refine lv_iconst (v := 0) hx hb dX12_isDone_162 (by decide) ?_
      exact g_zretW hx hb hr hlk (by decide) hP hS (ret2 hf) dX12_isDone_163
    · have hf := if_f hf c15
      refine lv_iload_n hx hb dX12_isDone_156 rfl (lv_at hl 0 rfl) ?_
      refine lv_bipush (v := 8) hx hb dX12_isDone_157 (by decide) ?_
      refine lv_icmp_lt (tgt := 164) hx hb dX12_isDone_159 (by decide) (fun c16 => ?_) (fun c16 => ?_)
      · have hf := if_t hf c16
        refine lv_aload_n hx hb dX12_isDone_164 rfl (lv_at hl 2 rfl) ?_
        refine g_get (Cn := RX12) (T := TX12) (N := 21) (v := .ref (a 67)) (own := RX12) hx hb hown hts hK M_O rfl (fun _ hw => List.mem_cons_of_mem _ (u12_cls _ hw)) 0 (by decide) (List.mem_cons_of_mem _ (u12_0 _ (List.mem_of_getElem? (i := 5) rfl))) rfl rfl hP dX12_isDone_165 ?_
        refine lv_iload_n hx hb dX12_isDone_168 rfl (lv_at hl 1 rfl) ?_
        refine lv_iload_n hx hb dX12_isDone_169 rfl (lv_at hl 0 rfl) ?_
        refine lv_aload_n hx hb dX12_isDone_170 rfl (lv_at hl 2 rfl) ?_
        refine g_get (Cn := RX12) (T := TX12) (N := 21) (v := .ref (a 71)) (own := RX12) hx hb hown hts hK M_O rfl (fun _ hw => List.mem_cons_of_mem _ (u12_cls _ hw)) 8 (by decide) (List.mem_cons_of_mem _ (u12_0 _ (List.mem_of_getElem? (i := 9) rfl))) rfl rfl hP dX12_isDone_171 ?_
        refine lv_iconst (v := 2) hx hb dX12_isDone_174 (by decide) ?_
        obtain ⟨c17, hf⟩ := gdi_s hf
        refine g_ial hx hb hK (⟨by decide, rfl⟩ : gAI 71 3) c17 hP dX12_isDone_175 ?_
        obtain ⟨q18, hq18, hf⟩ := bind_s hf
        refine g_callS (As := [.ref (a 67), .int x2, .int x4, .int (aI h 71 (2 : Int32).toNatClampNeg)]) (rest := []) hx hb hml hown hts hK hN (m_X12_becomes l D a C ha h 67 x2 x4 (aI h 71 (2 : Int32).toNatClampNeg) (Or.inl rfl) q18 hq18) (va_cwS 4 hts (gUS (u12_4 _ (List.mem_of_getElem? (i := 4) rfl)) (u12_4 _ (List.mem_of_getElem? (i := 5) rfl)) (u12_1 _ (List.mem_of_getElem? (i := 7) rfl)) (u12_3 _ (List.mem_of_getElem? (i := 2) rfl))) rfl rfl rfl kdX12_becomes.2 ⟨Nat.le_of_ble_eq_true rfl, Nat.le_of_ble_eq_true rfl⟩) hP hS hA rfl hl.1 rfl (Nat.le_of_ble_eq_true rfl) dX12_isDone_176 ⟨Nat.le_refl _, Nat.le_refl _⟩ (fun H locs hP hS => ?_)
        refine W.eq (g2 := F0 m 179 ls []) rfl ?_
        refine lv_iconst (v := 1) hx hb dX12_isDone_179 (by decide) ?_
        exact g_zretW hx hb hr hlk (by decide) hP hS (ret2 hf) dX12_isDone_180
      · have hf := if_f hf c16
        refine lv_iconst (v := 0) hx hb dX12_isDone_162 (by decide) ?_
        exact g_zretW hx hb hr hlk (by decide) hP hS (ret2 hf) dX12_isDone_163
  have hf := if_f hf c13
  by_cases c19 : v1 = 108
  · have hf := if_t hf c19
    refine lv_tableIn (tgt := 91) hx hb dX12_isDone_15 (by rw [c19]; decide) (by rw [c19]; decide) (by rw [c19]; rfl) (by decide) ?_
    refine lv_aload_n hx hb dX12_isDone_91 rfl (lv_at hl 2 rfl) ?_
    refine lv_iload_n hx hb dX12_isDone_92 rfl (lv_at hl 1 rfl) ?_
    refine lv_iload_n hx hb dX12_isDone_93 rfl (lv_at hl 0 rfl) ?_
    obtain ⟨q20, hq20, hf⟩ := bind_s hf
    refine g_callV (As := [.int x2, .int x4]) (rest := []) hx hb hml hown hts hK hN (m_X12_areTwo l D a C ha h x2 x4  q20 hq20) (cwV 2 hts (gUV (u12_3 _ (List.mem_of_getElem? (i := 19) rfl)) (u12_4 _ (List.mem_of_getElem? (i := 0) rfl)) (u12_4 _ (List.mem_of_getElem? (i := 1) rfl)) (u12_1 _ (List.mem_of_getElem? (i := 7) rfl)) (u12_1 _ (List.mem_of_getElem? (i := 8) rfl))) rfl rfl rfl kdX12_areTwo ⟨Nat.le_of_ble_eq_true rfl, Nat.le_of_ble_eq_true rfl⟩) M_O rfl rfl hP hS hA rfl hl.1 rfl (Nat.le_of_ble_eq_true rfl) dX12_isDone_94 ⟨Nat.le_refl _, Nat.le_refl _⟩ (fun H locs hP hS => ?_)
    refine W.eq (g2 := F0 m 97 ls [.int q20]) rfl ?_
    refine lv_if_ne (tgt := 102) hx hb dX12_isDone_97 (by decide) (fun c21 => ?_) (fun c21 => ?_)
    · have hf := if_f hf c21
      refine lv_aload_n hx hb dX12_isDone_102 rfl (lv_at hl 2 rfl) ?_
      refine g_get (Cn := RX12) (T := TX12) (N := 21) (v := .ref (a 67)) (own := RX12) hx hb hown hts hK M_O rfl (fun _ hw => List.mem_cons_of_mem _ (u12_cls _ hw)) 0 (by decide) (List.mem_cons_of_mem _ (u12_0 _ (List.mem_of_getElem? (i := 5) rfl))) rfl rfl hP dX12_isDone_103 ?_
      refine lv_iload_n hx hb dX12_isDone_106 rfl (lv_at hl 1 rfl) ?_
      refine lv_iload_n hx hb dX12_isDone_107 rfl (lv_at hl 0 rfl) ?_
      obtain ⟨q22, hq22, hf⟩ := bind_s hf
      refine g_callS (As := [.ref (a 67), .int x2, .int x4]) (rest := []) hx hb hml hown hts hK hN (m_X12_changesLine l D a C ha h 67 x2 x4 (Or.inl rfl) q22 hq22) (va_cwS 3 hts (gUS (u12_4 _ (List.mem_of_getElem? (i := 2) rfl)) (u12_4 _ (List.mem_of_getElem? (i := 3) rfl)) (u12_1 _ (List.mem_of_getElem? (i := 7) rfl)) (u12_3 _ (List.mem_of_getElem? (i := 0) rfl))) rfl rfl rfl kdX12_changesLine.2 ⟨Nat.le_of_ble_eq_true rfl, Nat.le_of_ble_eq_true rfl⟩) hP hS hA rfl hl.1 rfl (Nat.le_of_ble_eq_true rfl) dX12_isDone_108 ⟨Nat.le_refl _, Nat.le_refl _⟩ (fun H locs hP hS => ?_)
      refine W.eq (g2 := F0 m 111 ls []) rfl ?_
      refine lv_iconst (v := 1) hx hb dX12_isDone_111 (by decide) ?_
      exact g_zretW hx hb hr hlk (by decide) hP hS (ret2 hf) dX12_isDone_112
    · have hf := if_t hf c21
      refine lv_iconst (v := 0) hx hb dX12_isDone_100 (by decide) ?_
      exact g_zretW hx hb hr hlk (by decide) hP hS (ret2 hf) dX12_isDone_101
  have hf := if_f hf c19
  by_cases c23 : v1 = 112
  · have hf := if_t hf c23
    refine lv_tableIn (tgt := 64) hx hb dX12_isDone_15 (by rw [c23]; decide) (by rw [c23]; decide) (by rw [c23]; rfl) (by decide) ?_
    refine lv_iload_n hx hb dX12_isDone_64 rfl (lv_at hl 1 rfl) ?_
    refine lv_bipush (v := 8) hx hb dX12_isDone_65 (by decide) ?_
    refine lv_icmp_ge (tgt := 81) hx hb dX12_isDone_67 (by decide) (fun c24 => ?_) (fun c24 => ?_)
    · have hf := if_t hf c24
      refine lv_iconst (v := 0) hx hb dX12_isDone_81 (by decide) ?_
      exact g_zretW hx hb hr hlk (by decide) hP hS (ret2 hf) dX12_isDone_82
    · have hf := if_f hf c24
      refine lv_aload_n hx hb dX12_isDone_70 rfl (lv_at hl 2 rfl) ?_
      refine g_get (Cn := RX12) (T := TX12) (N := 21) (v := .ref (a 67)) (own := RX12) hx hb hown hts hK M_O rfl (fun _ hw => List.mem_cons_of_mem _ (u12_cls _ hw)) 0 (by decide) (List.mem_cons_of_mem _ (u12_0 _ (List.mem_of_getElem? (i := 5) rfl))) rfl rfl hP dX12_isDone_71 ?_
      refine lv_iconst (v := 0) hx hb dX12_isDone_74 (by decide) ?_
      obtain ⟨c25, hf⟩ := gdi_s hf
      refine g_ial hx hb hK (⟨by decide, rfl⟩ : gAI 67 30) c25 hP dX12_isDone_75 ?_
      refine lv_bipush (v := 9) hx hb dX12_isDone_76 (by decide) ?_
      refine lv_icmp_ne (tgt := 83) hx hb dX12_isDone_78 (by decide) (fun c26 => ?_) (fun c26 => ?_)
      · have hf := if_f hf c26
        refine lv_aload_n hx hb dX12_isDone_83 rfl (lv_at hl 2 rfl) ?_
        refine lv_iload_n hx hb dX12_isDone_84 rfl (lv_at hl 1 rfl) ?_
        refine lv_iload_n hx hb dX12_isDone_85 rfl (lv_at hl 0 rfl) ?_
        obtain ⟨q27, hq27, hf⟩ := bind_s hf
        refine g_callV (As := [.int x2, .int x4]) (rest := []) hx hb hml hown hts hK hN (m_X12_adds l D a C ha h x2 x4  q27 hq27) (cwV 2 hts (gUV (u12_3 _ (List.mem_of_getElem? (i := 16) rfl)) (u12_3 _ (List.mem_of_getElem? (i := 17) rfl)) (u12_3 _ (List.mem_of_getElem? (i := 18) rfl)) (u12_1 _ (List.mem_of_getElem? (i := 7) rfl)) (u12_3 _ (List.mem_of_getElem? (i := 15) rfl))) rfl rfl rfl kdX12_adds ⟨Nat.le_of_ble_eq_true rfl, Nat.le_of_ble_eq_true rfl⟩) M_O rfl rfl hP hS hA rfl hl.1 rfl (Nat.le_of_ble_eq_true rfl) dX12_isDone_86 ⟨Nat.le_refl _, Nat.le_refl _⟩ (fun H locs hP hS => ?_)
        refine W.eq (g2 := F0 m 89 ls []) rfl ?_
        refine lv_iconst (v := 1) hx hb dX12_isDone_89 (by decide) ?_
        exact g_zretW hx hb hr hlk (by decide) hP hS (ret2 hf) dX12_isDone_90
      · have hf := if_t hf c26
        refine lv_iconst (v := 0) hx hb dX12_isDone_81 (by decide) ?_
        exact g_zretW hx hb hr hlk (by decide) hP hS (ret2 hf) dX12_isDone_82
  have hf := if_f hf c23
  by_cases c28 : v1 = 105
  · refine lv_tableIn (tgt := 181) hx hb dX12_isDone_15 (by rw [c28]; decide) (by rw [c28]; decide) (by rw [c28]; rfl) (by decide) ?_
    exact J181 x2 h hf H locs ls hP hS (lv_sub hl [2, 1] rfl)
  by_cases c29 : v1 = 106
  · refine lv_tableIn (tgt := 181) hx hb dX12_isDone_15 (by rw [c29]; decide) (by rw [c29]; decide) (by rw [c29]; rfl) (by decide) ?_
    exact J181 x2 h hf H locs ls hP hS (lv_sub hl [2, 1] rfl)
  by_cases c30 : v1 = 109
  · refine lv_tableIn (tgt := 181) hx hb dX12_isDone_15 (by rw [c30]; decide) (by rw [c30]; decide) (by rw [c30]; rfl) (by decide) ?_
    exact J181 x2 h hf H locs ls hP hS (lv_sub hl [2, 1] rfl)
  by_cases c31 : v1 = 110
  · refine lv_tableIn (tgt := 181) hx hb dX12_isDone_15 (by rw [c31]; decide) (by rw [c31]; decide) (by rw [c31]; rfl) (by decide) ?_
    exact J181 x2 h hf H locs ls hP hS (lv_sub hl [2, 1] rfl)
  by_cases c32 : v1 = 111
  · refine lv_tableIn (tgt := 181) hx hb dX12_isDone_15 (by rw [c32]; decide) (by rw [c32]; decide) (by rw [c32]; rfl) (by decide) ?_
    exact J181 x2 h hf H locs ls hP hS (lv_sub hl [2, 1] rfl)
  refine lv_tableOut (tgt := 181) hx hb dX12_isDone_15 (by have n0 := ti_nz (z := 104) (by decide) c5; have n1 := ti_nz (z := 107) (by decide) c13; have n2 := ti_nz (z := 108) (by decide) c19; have n3 := ti_nz (z := 112) (by decide) c23; have n4 := ti_nz (z := 105) (by decide) c28; have n5 := ti_nz (z := 106) (by decide) c29; have n6 := ti_nz (z := 109) (by decide) c30; have n7 := ti_nz (z := 110) (by decide) c31; have n8 := ti_nz (z := 111) (by decide) c32; omega) (by decide) ?_
  exact J181 x2 h hf H locs ls hP hS (lv_sub hl [2, 1] rfl)

def X12_isShelf (v0 : Int32) : Option Int32 :=
    (X12_isIn v0 0 7).bind fun q1 =>
    gdb q1 <|
    some q1
def uX12_isShelf : List Cond := .code yX12_isShelf cX12_isShelf 1 (some .boolean) :: UU
def rmX12_isShelf : Room := { frames := 1, cells := 0, slots := 0, locals := 22 }
theorem kdX12_isShelf : yX12_isShelf.cls = RX12 ∧ yX12_isShelf.cls ≠ "java/lang/invoke/MethodHandle" ∧ yX12_isShelf.cls ≠ "java/lang/invoke/VarHandle" ∧ (parseMethodDescriptor yX12_isShelf.desc).map (fun d => d.parameters.length) = some 1 := by decide +kernel
set_option maxHeartbeats 4000000 in
set_option maxRecDepth 100000 in
theorem m_X12_isShelf (l : Launch) (D : va_G) (a : Nat → Nat) (C : Nat → ClassId) (ha : ginj a) (h : HS) (v0 : Int32)  (r : Int32) (hf : X12_isShelf v0 = some r) : gM l yX12_isShelf uX12_isShelf rmX12_isShelf D a C [.int v0] h (some (.int r)) h := by
  refine g_start (av := [.int v0]) (cc := cX12_isShelf) (maxL := 1) (rt := (some .boolean)) (by decide) rfl (Nat.le_of_ble_eq_true rfl) ?_
  intro p e s m below meth c hx hb hr hml hown hlk hts hP hK hN ls hl
  have hA : ∀ q, gA a q → gA a q := fun _ q => q
  have hS : va_S (gA a) s.heap s.heap [] := va_S.rf
  have hl : lv_has ls 1 [(0, .int v0)] := hl
  unfold X12_isShelf at hf
  refine lv_iload_n hx hb dX12_isShelf_0 rfl (lv_at hl 0 rfl) ?_
  refine lv_iconst (v := 0) hx hb dX12_isShelf_1 (by decide) ?_
  refine lv_bipush (v := 7) hx hb dX12_isShelf_2 (by decide) ?_
  obtain ⟨q1, hq1, hf⟩ := bind_s hf
  refine g_callS (As := [.int v0, .int 0, .int 7]) (rest := []) hx hb hml hown hts hK hN (m_X12_isIn l D a C ha h v0 0 7  q1 hq1) (va_cwS 3 hts (gUS (u12_1 _ (List.mem_of_getElem? (i := 5) rfl)) (u12_1 _ (List.mem_of_getElem? (i := 6) rfl)) (u12_1 _ (List.mem_of_getElem? (i := 7) rfl)) (u12_1 _ (List.mem_of_getElem? (i := 1) rfl))) rfl rfl rfl kdX12_isIn.2 ⟨Nat.le_of_ble_eq_true rfl, Nat.le_of_ble_eq_true rfl⟩) hP hS hA rfl hl.1 rfl (Nat.le_of_ble_eq_true rfl) dX12_isShelf_4 ⟨Nat.le_refl _, Nat.le_refl _⟩ (fun H locs hP hS => ?_)
  refine W.eq (g2 := F0 m 7 ls [.int q1]) rfl ?_
  obtain ⟨cz, hf⟩ := gdb_s hf
  exact g_zret hx hb hr hlk cz hP hS (ret1 hf) dX12_isShelf_7

def X12_wrongRow (h : HS) (v1 : Int32) (v2 : Int32) : Option Int32 :=
    (X12_isShelf v1).bind fun q1 =>
    (if q1 = 0 then
    some (-1)
    else
    gdi v1 8 <|
    (if (aI h 76 v1.toNatClampNeg) = 0 then
    some (-11)
    else
    gdi v1 8 <|
    (if (aI h 76 v1.toNatClampNeg) = 2 then
    (if v2 < 0 then
    some 0
    else
    gdi v1 8 <|
    (if (aI h 79 v1.toNatClampNeg) = v2 then
    some 0
    else
    some (-12)))
    else
    some (-12))))
def uX12_wrongRow : List Cond := .code yX12_wrongRow cX12_wrongRow 3 (some .int) :: UU
def rmX12_wrongRow : Room := { frames := 2, cells := 0, slots := 0, locals := 42 }
theorem kdX12_wrongRow : yX12_wrongRow.cls = RX12 ∧ yX12_wrongRow.cls ≠ "java/lang/invoke/MethodHandle" ∧ yX12_wrongRow.cls ≠ "java/lang/invoke/VarHandle" ∧ (parseMethodDescriptor yX12_wrongRow.desc).map (fun d => d.parameters.length) = some 2 := by decide +kernel
set_option maxHeartbeats 4000000 in
set_option maxRecDepth 100000 in
theorem m_X12_wrongRow (l : Launch) (D : va_G) (a : Nat → Nat) (C : Nat → ClassId) (ha : ginj a) (h : HS) (v1 : Int32) (v2 : Int32)  (r : Int32) (hf : X12_wrongRow h v1 v2 = some r) : gM l yX12_wrongRow uX12_wrongRow rmX12_wrongRow D a C [.ref (a 66), .int v1, .int v2] h (some (.int r)) h := by
  refine g_start (av := [.ref (a 66), .int v1, .int v2]) (cc := cX12_wrongRow) (maxL := 3) (rt := (some .int)) (by decide) rfl (Nat.le_of_ble_eq_true rfl) ?_
  intro p e s m below meth c hx hb hr hml hown hlk hts hP hK hN ls hl
  have hA : ∀ q, gA a q → gA a q := fun _ q => q
  have hS : va_S (gA a) s.heap s.heap [] := va_S.rf
  have hl : lv_has ls 3 [(0, .ref (a 66)), (1, .int v1), (2, .int v2)] := hl
  unfold X12_wrongRow at hf
  refine lv_iload_n hx hb dX12_wrongRow_0 rfl (lv_at hl 1 rfl) ?_
  obtain ⟨q1, hq1, hf⟩ := bind_s hf
  refine g_callS (As := [.int v1]) (rest := []) hx hb hml hown hts hK hN (m_X12_isShelf l D a C ha h v1  q1 hq1) (va_cwS 1 hts (gUS (u12_4 _ (List.mem_of_getElem? (i := 11) rfl)) (u12_4 _ (List.mem_of_getElem? (i := 12) rfl)) (u12_1 _ (List.mem_of_getElem? (i := 7) rfl)) (u12_4 _ (List.mem_of_getElem? (i := 9) rfl))) rfl rfl rfl kdX12_isShelf.2 ⟨Nat.le_of_ble_eq_true rfl, Nat.le_of_ble_eq_true rfl⟩) hP hS hA rfl hl.1 rfl (Nat.le_of_ble_eq_true rfl) dX12_wrongRow_1 ⟨Nat.le_refl _, Nat.le_refl _⟩ (fun H locs hP hS => ?_)
  refine W.eq (g2 := F0 m 4 ls [.int q1]) rfl ?_
  refine lv_if_ne (tgt := 11) hx hb dX12_wrongRow_4 (by decide) (fun c2 => ?_) (fun c2 => ?_)
  · have hf := if_f hf c2
    refine lv_aload_n hx hb dX12_wrongRow_11 rfl (lv_at hl 0 rfl) ?_
    refine g_get (Cn := RX12) (T := TX12) (N := 21) (v := .ref (a 76)) (own := RX12) hx hb hown hts hK M_O rfl (fun _ hw => List.mem_cons_of_mem _ (u12_cls _ hw)) 14 (by decide) (List.mem_cons_of_mem _ (u12_0 _ (List.mem_of_getElem? (i := 15) rfl))) rfl rfl hP dX12_wrongRow_12 ?_
    refine lv_iload_n hx hb dX12_wrongRow_15 rfl (lv_at hl 1 rfl) ?_
    obtain ⟨c3, hf⟩ := gdi_s hf
    refine g_ial hx hb hK (⟨by decide, rfl⟩ : gAI 76 8) c3 hP dX12_wrongRow_16 ?_
    refine lv_if_ne (tgt := 25) hx hb dX12_wrongRow_17 (by decide) (fun c4 => ?_) (fun c4 => ?_)
    · have hf := if_f hf c4
      refine lv_aload_n hx hb dX12_wrongRow_25 rfl (lv_at hl 0 rfl) ?_
      refine g_get (Cn := RX12) (T := TX12) (N := 21) (v := .ref (a 76)) (own := RX12) hx hb hown hts hK M_O rfl (fun _ hw => List.mem_cons_of_mem _ (u12_cls _ hw)) 14 (by decide) (List.mem_cons_of_mem _ (u12_0 _ (List.mem_of_getElem? (i := 15) rfl))) rfl rfl hP dX12_wrongRow_26 ?_
      refine lv_iload_n hx hb dX12_wrongRow_29 rfl (lv_at hl 1 rfl) ?_
      obtain ⟨c5, hf⟩ := gdi_s hf
      refine g_ial hx hb hK (⟨by decide, rfl⟩ : gAI 76 8) c5 hP dX12_wrongRow_30 ?_
      refine lv_iconst (v := 2) hx hb dX12_wrongRow_31 (by decide) ?_
      refine lv_icmp_ne (tgt := 49) hx hb dX12_wrongRow_32 (by decide) (fun c6 => ?_) (fun c6 => ?_)
      · have hf := if_f hf c6
        refine lv_bipush (v := (-12)) hx hb dX12_wrongRow_49 (by decide) ?_
        refine lv_goto (tgt := 55) hx hb dX12_wrongRow_51 (by decide) ?_
        exact g_iret hx hb hr hlk hP hS (ret1 hf) dX12_wrongRow_55
      · have hf := if_t hf c6
        refine lv_iload_n hx hb dX12_wrongRow_35 rfl (lv_at hl 2 rfl) ?_
        refine lv_if_lt (tgt := 54) hx hb dX12_wrongRow_36 (by decide) (fun c7 => ?_) (fun c7 => ?_)
        · have hf := if_t hf c7
          refine lv_iconst (v := 0) hx hb dX12_wrongRow_54 (by decide) ?_
          exact g_iret hx hb hr hlk hP hS (ret1 hf) dX12_wrongRow_55
        · have hf := if_f hf c7
          refine lv_aload_n hx hb dX12_wrongRow_39 rfl (lv_at hl 0 rfl) ?_
          refine g_get (Cn := RX12) (T := TX12) (N := 21) (v := .ref (a 79)) (own := RX12) hx hb hown hts hK M_O rfl (fun _ hw => List.mem_cons_of_mem _ (u12_cls _ hw)) 17 (by decide) (List.mem_cons_of_mem _ (u12_0 _ (List.mem_of_getElem? (i := 18) rfl))) rfl rfl hP dX12_wrongRow_40 ?_
          refine lv_iload_n hx hb dX12_wrongRow_43 rfl (lv_at hl 1 rfl) ?_
          obtain ⟨c8, hf⟩ := gdi_s hf
          refine g_ial hx hb hK (⟨by decide, rfl⟩ : gAI 79 8) c8 hP dX12_wrongRow_44 ?_
          refine lv_iload_n hx hb dX12_wrongRow_45 rfl (lv_at hl 2 rfl) ?_
          refine lv_icmp_eq (tgt := 54) hx hb dX12_wrongRow_46 (by decide) (fun c9 => ?_) (fun c9 => ?_)
          · have hf := if_t hf c9
            refine lv_iconst (v := 0) hx hb dX12_wrongRow_54 (by decide) ?_
            exact g_iret hx hb hr hlk hP hS (ret1 hf) dX12_wrongRow_55
          · have hf := if_f hf c9
            refine lv_bipush (v := (-12)) hx hb dX12_wrongRow_49 (by decide) ?_
            refine lv_goto (tgt := 55) hx hb dX12_wrongRow_51 (by decide) ?_
            exact g_iret hx hb hr hlk hP hS (ret1 hf) dX12_wrongRow_55
    · have hf := if_t hf c4
      refine lv_bipush (v := (-11)) hx hb dX12_wrongRow_20 (by decide) ?_
      refine lv_goto (tgt := 55) hx hb dX12_wrongRow_22 (by decide) ?_
      exact g_iret hx hb hr hlk hP hS (ret1 hf) dX12_wrongRow_55
  · have hf := if_t hf c2
    refine lv_iconst (v := (-1)) hx hb dX12_wrongRow_7 (by decide) ?_
    refine lv_goto (tgt := 55) hx hb dX12_wrongRow_8 (by decide) ?_
    exact g_iret hx hb hr hlk hP hS (ret1 hf) dX12_wrongRow_55

def X12_parish_B161 (v1 : Int32) (v3 : Int32) (v4 : Int32) (h : HS) : Option (Int32 × HS) :=
    (if v4 = 0 then
    some (v3, h)
    else
    some (v4, h))
def X12_parish_B93 (v1 : Int32) : Nat → Int32 → Int32 → HS → Option (Int32 × HS)
  | 0, _, _, _ => none
  | fu + 1, v3, v4, h =>
    (if v4 = 0 then
    (if (fI h 66 7) ≤ (fI h 66 5) then
    X12_parish_B161 v1 v3 v4 h
    else
    nm (fI h 66 5) fun x17 =>
    (X12_here h).bind fun q18 =>
    (X12_readsStatement h).bind fun q19 =>
    (X12_isDone q19.2 q18).bind fun q20 =>
    (if q20.1 = 0 then
    nm ((-2000) - x17) fun x22 =>
    (X12_copies q20.2 70 67).bind fun q23 =>
    (X12_parish_B93 v1 fu) v3 x22 q23
    else
    (X12_parish_B93 v1 fu) v3 v4 q20.2))
    else
    X12_parish_B161 v1 v3 v4 h)
def X12_parish_B77 (v1 : Int32) (v3 : Int32) (v4 : Int32) (h : HS) : Option (Int32 × HS) :=
    (X12_copies h 67 70).bind fun q13 =>
    nm (sF q13 66 5 0) fun h14 =>
    X12_parish_B93 v1 FU v3 v4 h14
def X12_parish_B58 (v1 : Int32) (k41 : Int32 → Int32 → HS → Option (Int32 × HS)) (v3 : Int32) (v4 : Int32) (h : HS) : Option (Int32 × HS) :=
    nm (v3 + 1) fun x10 =>
    (if v4 = 0 then
    (if (fI h 66 5) < (fI h 66 7) then
    k41 x10 v4 h
    else
    X12_parish_B77 v1 x10 v4 h)
    else
    X12_parish_B77 v1 x10 v4 h)
def X12_parish_B41 (v1 : Int32) : Nat → Int32 → Int32 → HS → Option (Int32 × HS)
  | 0, _, _, _ => none
  | fu + 1, v3, v4, h =>
    (X12_readsStatement h).bind fun q7 =>
    (if q7.1 = 0 then
    nm ((-1000) - (fI q7.2 66 5)) fun x9 =>
    X12_parish_B58 v1 (X12_parish_B41 v1 fu) v3 x9 q7.2
    else
    X12_parish_B58 v1 (X12_parish_B41 v1 fu) v3 v4 q7.2)
def X12_parish (h : HS) (v1 : Int32) : Option (Int32 × HS) :=
    (X12_wrongRow h v1 0).bind fun q1 =>
    (if q1 = 0 then
    nm (sF h 66 6 (100 * v1)) fun h3 =>
    gdi v1 8 <|
    nm (sF h3 66 7 (aI h3 80 v1.toNatClampNeg)) fun h5 =>
    nm (sF h5 66 5 0) fun h6 =>
    X12_parish_B41 v1 FU 0 0 h6
    else
    some (q1, h))
def uX12_parish : List Cond := .code yX12_parish cX12_parish 8 (some .int) :: UU
def rmX12_parish : Room := { frames := 7, cells := 0, slots := 0, locals := 156 }
theorem kdX12_parish : yX12_parish.cls = RX12 ∧ yX12_parish.cls ≠ "java/lang/invoke/MethodHandle" ∧ yX12_parish.cls ≠ "java/lang/invoke/VarHandle" ∧ (parseMethodDescriptor yX12_parish.desc).map (fun d => d.parameters.length) = some 1 := by decide +kernel
set_option maxHeartbeats 4000000 in
set_option maxRecDepth 100000 in
theorem m_X12_parish (l : Launch) (D : va_G) (a : Nat → Nat) (C : Nat → ClassId) (ha : ginj a) (h : HS) (v1 : Int32)  (r : Int32) (h' : HS) (hf : X12_parish h v1 = some (r, h')) : gM l yX12_parish uX12_parish rmX12_parish D a C [.ref (a 66), .int v1] h (some (.int r)) h' := by
  refine g_start (av := [.ref (a 66), .int v1]) (cc := cX12_parish) (maxL := 8) (rt := (some .int)) (by decide) rfl (Nat.le_of_ble_eq_true rfl) ?_
  intro p e s m below meth c hx hb hr hml hown hlk hts hP hK hN ls hl
  have hA : ∀ q, gA a q → gA a q := fun _ q => q
  have hS : va_S (gA a) s.heap s.heap [] := va_S.rf
  have hl : lv_has ls 8 [(0, .ref (a 66)), (1, .int v1)] := hl
  have J161 : ∀ (v3 : Int32) (v4 : Int32) (h : HS) (_ : X12_parish_B161 v1 v3 v4 h = some (r, h')), gG p l e (headSpec uX12_parish rmX12_parish).room s m ([.ref (a 66), .int v1] : List Value).toArray below meth c (MQ below (gQ (some (.int r)) D a C h') ([.ref (a 66), .int v1] : List Value).toArray s 0 0 (gA a)) D a C 8 h 161 [(3, .int v3), (4, .int v4)] [] := by
    intro v3 v4 h hf H locs ls hP hS hl
    unfold X12_parish_B161 at hf
    refine lv_iload hx hb dX12_parish_161 (lv_at hl 1 rfl) ?_
    refine lv_if_ne (tgt := 170) hx hb dX12_parish_163 (by decide) (fun c24 => ?_) (fun c24 => ?_)
    · have hf := if_f hf c24
      refine lv_iload hx hb dX12_parish_170 (lv_at hl 1 rfl) ?_
      exact g_iretW hx hb hr hlk hP hS (ret2 hf) dX12_parish_172
    · have hf := if_t hf c24
      refine lv_iload_n hx hb dX12_parish_166 rfl (lv_at hl 0 rfl) ?_
      refine lv_goto (tgt := 172) hx hb dX12_parish_167 (by decide) ?_
      exact g_iretW hx hb hr hlk hP hS (ret2 hf) dX12_parish_172
  have J93 : ∀ (fu : Nat) (v3 : Int32) (v4 : Int32) (h : HS), X12_parish_B93 v1 fu v3 v4 h = some (r, h') → gG p l e (headSpec uX12_parish rmX12_parish).room s m ([.ref (a 66), .int v1] : List Value).toArray below meth c (MQ below (gQ (some (.int r)) D a C h') ([.ref (a 66), .int v1] : List Value).toArray s 0 0 (gA a)) D a C 8 h 93 [(0, .ref (a 66)), (3, .int v3), (4, .int v4)] [] := by
    intro fu
    induction fu with
    | zero => intro v3 v4 h hf; exact absurd hf (by simp [X12_parish_B93])
    | succ fu ih =>
      intro v3 v4 h hf H locs ls hP hS hl
      rw [X12_parish_B93] at hf
      refine lv_iload hx hb dX12_parish_93 (lv_at hl 2 rfl) ?_
      refine lv_if_ne (tgt := 161) hx hb dX12_parish_95 (by decide) (fun c15 => ?_) (fun c15 => ?_)
      · have hf := if_f hf c15
        exact J161 v3 v4 h hf H locs ls hP hS (lv_sub hl [1, 2] rfl)
      · have hf := if_t hf c15
        refine lv_aload_n hx hb dX12_parish_98 rfl (lv_at hl 0 rfl) ?_
        refine g_get (Cn := RX12) (T := TX12) (N := 21) (v := .int (fI h 66 5)) (own := RX12) hx hb hown hts hK M_O rfl (fun _ hw => List.mem_cons_of_mem _ (u12_cls _ hw)) 5 (by decide) (List.mem_cons_of_mem _ (u12_3 _ (List.mem_of_getElem? (i := 4) rfl))) rfl rfl hP dX12_parish_99 ?_
        refine lv_aload_n hx hb dX12_parish_102 rfl (lv_at hl 0 rfl) ?_
        refine g_get (Cn := RX12) (T := TX12) (N := 21) (v := .int (fI h 66 7)) (own := RX12) hx hb hown hts hK M_O rfl (fun _ hw => List.mem_cons_of_mem _ (u12_cls _ hw)) 7 (by decide) (List.mem_cons_of_mem _ (u12_3 _ (List.mem_of_getElem? (i := 5) rfl))) rfl rfl hP dX12_parish_103 ?_
        refine lv_icmp_ge (tgt := 161) hx hb dX12_parish_106 (by decide) (fun c16 => ?_) (fun c16 => ?_)
        · have hf := if_t hf c16
          exact J161 v3 v4 h hf H locs ls hP hS (lv_sub hl [1, 2] rfl)
        · have hf := if_f hf c16
          refine lv_aload_n hx hb dX12_parish_109 rfl (lv_at hl 0 rfl) ?_
          refine g_get (Cn := RX12) (T := TX12) (N := 21) (v := .int (fI h 66 5)) (own := RX12) hx hb hown hts hK M_O rfl (fun _ hw => List.mem_cons_of_mem _ (u12_cls _ hw)) 5 (by decide) (List.mem_cons_of_mem _ (u12_3 _ (List.mem_of_getElem? (i := 4) rfl))) rfl rfl hP dX12_parish_110 ?_
          refine lv_topi (fun x17 ex17 => ?_)
          have hf := nm_s hf ex17
          refine lv_istore (lv' := [(5, .int x17), (0, .ref (a 66)), (3, .int v3), (4, .int v4)]) hx hb dX12_parish_113 hl (by decide) rfl (fun ls hl => ?_)
          refine lv_aload_n hx hb dX12_parish_115 rfl (lv_at hl 1 rfl) ?_
          obtain ⟨q18, hq18, hf⟩ := bind_s hf
          refine g_callV (As := []) (rest := []) hx hb hml hown hts hK hN (m_X12_here l D a C ha h  q18 hq18) (cwV 0 hts (gUV (u12_3 _ (List.mem_of_getElem? (i := 8) rfl)) (u12_3 _ (List.mem_of_getElem? (i := 9) rfl)) (u12_3 _ (List.mem_of_getElem? (i := 10) rfl)) (u12_1 _ (List.mem_of_getElem? (i := 7) rfl)) (u12_3 _ (List.mem_of_getElem? (i := 3) rfl))) rfl rfl rfl kdX12_here ⟨Nat.le_of_ble_eq_true rfl, Nat.le_of_ble_eq_true rfl⟩) M_O rfl rfl hP hS hA rfl hl.1 rfl (Nat.le_of_ble_eq_true rfl) dX12_parish_116 ⟨Nat.le_refl _, Nat.le_refl _⟩ (fun H locs hP hS => ?_)
          refine W.eq (g2 := F0 m 119 ls [.int q18]) rfl ?_
          refine lv_istore (lv' := [(6, .int q18), (5, .int x17), (0, .ref (a 66)), (3, .int v3), (4, .int v4)]) hx hb dX12_parish_119 hl (by decide) rfl (fun ls hl => ?_)
          refine lv_aload_n hx hb dX12_parish_121 rfl (lv_at hl 2 rfl) ?_
          obtain ⟨q19, hq19, hf⟩ := bind_s hf
          refine g_callV (As := []) (rest := []) hx hb hml hown hts hK hN (m_X12_readsStatement l D a C ha h  q19.1 q19.2 hq19) (cwV 0 hts (gUV (u12_4 _ (List.mem_of_getElem? (i := 16) rfl)) (u12_4 _ (List.mem_of_getElem? (i := 17) rfl)) (u12_4 _ (List.mem_of_getElem? (i := 18) rfl)) (u12_1 _ (List.mem_of_getElem? (i := 7) rfl)) (u12_3 _ (List.mem_of_getElem? (i := 11) rfl))) rfl rfl rfl kdX12_readsStatement ⟨Nat.le_of_ble_eq_true rfl, Nat.le_of_ble_eq_true rfl⟩) M_O rfl rfl hP hS hA rfl hl.1 rfl (Nat.le_of_ble_eq_true rfl) dX12_parish_122 ⟨Nat.le_refl _, Nat.le_refl _⟩ (fun H locs hP hS => ?_)
          refine W.eq (g2 := F0 m 125 ls [.int q19.1]) rfl ?_
          refine lv_istore (lv' := [(7, .int q19.1), (6, .int q18), (5, .int x17), (0, .ref (a 66)), (3, .int v3), (4, .int v4)]) hx hb dX12_parish_125 hl (by decide) rfl (fun ls hl => ?_)
          refine lv_aload_n hx hb dX12_parish_127 rfl (lv_at hl 3 rfl) ?_
          refine lv_iload hx hb dX12_parish_128 (lv_at hl 1 rfl) ?_
          obtain ⟨q20, hq20, hf⟩ := bind_s hf
          refine g_callV (As := [.int q18]) (rest := []) hx hb hml hown hts hK hN (m_X12_isDone l D a C ha q19.2 q18  q20.1 q20.2 hq20) (cwV 1 hts (gUV (u12_5 _ (List.mem_of_getElem? (i := 1) rfl)) (u12_5 _ (List.mem_of_getElem? (i := 2) rfl)) (u12_5 _ (List.mem_of_getElem? (i := 3) rfl)) (u12_1 _ (List.mem_of_getElem? (i := 7) rfl)) (u12_4 _ (List.mem_of_getElem? (i := 8) rfl))) rfl rfl rfl kdX12_isDone ⟨Nat.le_of_ble_eq_true rfl, Nat.le_of_ble_eq_true rfl⟩) M_O rfl rfl hP hS hA rfl hl.1 rfl (Nat.le_of_ble_eq_true rfl) dX12_parish_130 ⟨Nat.le_refl _, Nat.le_refl _⟩ (fun H locs hP hS => ?_)
          refine W.eq (g2 := F0 m 133 ls [.int q20.1]) rfl ?_
          refine lv_if_eq (tgt := 139) hx hb dX12_parish_133 (by decide) (fun c21 => ?_) (fun c21 => ?_)
          · have hf := if_t hf c21
            refine lv_sipush (v := (-2000)) hx hb dX12_parish_139 (by decide) ?_
            refine lv_iload hx hb dX12_parish_142 (lv_at hl 2 rfl) ?_
            refine lv_isub hx hb dX12_parish_144 ?_
            refine lv_topi (fun x22 ex22 => ?_)
            have hf := nm_s hf ex22
            refine lv_istore (lv' := [(4, .int x22), (7, .int q19.1), (6, .int q18), (5, .int x17), (0, .ref (a 66)), (3, .int v3)]) hx hb dX12_parish_145 hl (by decide) rfl (fun ls hl => ?_)
            refine lv_aload_n hx hb dX12_parish_147 rfl (lv_at hl 4 rfl) ?_
            refine g_get (Cn := RX12) (T := TX12) (N := 21) (v := .ref (a 70)) (own := RX12) hx hb hown hts hK M_O rfl (fun _ hw => List.mem_cons_of_mem _ (u12_cls _ hw)) 3 (by decide) (List.mem_cons_of_mem _ (u12_0 _ (List.mem_of_getElem? (i := 8) rfl))) rfl rfl hP dX12_parish_148 ?_
            refine lv_aload_n hx hb dX12_parish_151 rfl (lv_at hl 4 rfl) ?_
            refine g_get (Cn := RX12) (T := TX12) (N := 21) (v := .ref (a 67)) (own := RX12) hx hb hown hts hK M_O rfl (fun _ hw => List.mem_cons_of_mem _ (u12_cls _ hw)) 0 (by decide) (List.mem_cons_of_mem _ (u12_0 _ (List.mem_of_getElem? (i := 5) rfl))) rfl rfl hP dX12_parish_152 ?_
            obtain ⟨q23, hq23, hf⟩ := bind_s hf
            refine g_callS (As := [.ref (a 70), .ref (a 67)]) (rest := []) hx hb hml hown hts hK hN (m_X12_copies l D a C ha q20.2 70 67 (Or.inr (Or.inr (Or.inr rfl))) (Or.inl rfl) q23 hq23) (va_cwS 2 hts (gUS (u12_4 _ (List.mem_of_getElem? (i := 19) rfl)) (u12_5 _ (List.mem_of_getElem? (i := 0) rfl)) (u12_1 _ (List.mem_of_getElem? (i := 7) rfl)) (u12_1 _ (List.mem_of_getElem? (i := 2) rfl))) rfl rfl rfl kdX12_copies.2 ⟨Nat.le_of_ble_eq_true rfl, Nat.le_of_ble_eq_true rfl⟩) hP hS hA rfl hl.1 rfl (Nat.le_of_ble_eq_true rfl) dX12_parish_155 ⟨Nat.le_refl _, Nat.le_refl _⟩ (fun H locs hP hS => ?_)
            refine W.eq (g2 := F0 m 158 ls []) rfl ?_
            refine lv_goto (tgt := 93) hx hb dX12_parish_158 (by decide) ?_
            exact ih v3 x22 q23 hf H locs ls hP hS (lv_sub hl [4, 5, 0] rfl)
          · have hf := if_f hf c21
            refine lv_goto (tgt := 93) hx hb dX12_parish_136 (by decide) ?_
            exact ih v3 v4 q20.2 hf H locs ls hP hS (lv_sub hl [3, 4, 5] rfl)
  have J77 : ∀ (v3 : Int32) (v4 : Int32) (h : HS) (_ : X12_parish_B77 v1 v3 v4 h = some (r, h')), gG p l e (headSpec uX12_parish rmX12_parish).room s m ([.ref (a 66), .int v1] : List Value).toArray below meth c (MQ below (gQ (some (.int r)) D a C h') ([.ref (a 66), .int v1] : List Value).toArray s 0 0 (gA a)) D a C 8 h 77 [(0, .ref (a 66)), (3, .int v3), (4, .int v4)] [] := by
    intro v3 v4 h hf H locs ls hP hS hl
    unfold X12_parish_B77 at hf
    refine lv_aload_n hx hb dX12_parish_77 rfl (lv_at hl 0 rfl) ?_
    refine g_get (Cn := RX12) (T := TX12) (N := 21) (v := .ref (a 67)) (own := RX12) hx hb hown hts hK M_O rfl (fun _ hw => List.mem_cons_of_mem _ (u12_cls _ hw)) 0 (by decide) (List.mem_cons_of_mem _ (u12_0 _ (List.mem_of_getElem? (i := 5) rfl))) rfl rfl hP dX12_parish_78 ?_
    refine lv_aload_n hx hb dX12_parish_81 rfl (lv_at hl 0 rfl) ?_
    refine g_get (Cn := RX12) (T := TX12) (N := 21) (v := .ref (a 70)) (own := RX12) hx hb hown hts hK M_O rfl (fun _ hw => List.mem_cons_of_mem _ (u12_cls _ hw)) 3 (by decide) (List.mem_cons_of_mem _ (u12_0 _ (List.mem_of_getElem? (i := 8) rfl))) rfl rfl hP dX12_parish_82 ?_
    obtain ⟨q13, hq13, hf⟩ := bind_s hf
    refine g_callS (As := [.ref (a 67), .ref (a 70)]) (rest := []) hx hb hml hown hts hK hN (m_X12_copies l D a C ha h 67 70 (Or.inl rfl) (Or.inr (Or.inr (Or.inr rfl))) q13 hq13) (va_cwS 2 hts (gUS (u12_4 _ (List.mem_of_getElem? (i := 19) rfl)) (u12_5 _ (List.mem_of_getElem? (i := 0) rfl)) (u12_1 _ (List.mem_of_getElem? (i := 7) rfl)) (u12_1 _ (List.mem_of_getElem? (i := 2) rfl))) rfl rfl rfl kdX12_copies.2 ⟨Nat.le_of_ble_eq_true rfl, Nat.le_of_ble_eq_true rfl⟩) hP hS hA rfl hl.1 rfl (Nat.le_of_ble_eq_true rfl) dX12_parish_85 ⟨Nat.le_refl _, Nat.le_refl _⟩ (fun H locs hP hS => ?_)
    refine W.eq (g2 := F0 m 88 ls []) rfl ?_
    refine lv_aload_n hx hb dX12_parish_88 rfl (lv_at hl 0 rfl) ?_
    refine lv_iconst (v := 0) hx hb dX12_parish_89 (by decide) ?_
    refine g_put (Cn := RX12) (T := TX12) (N := 21) (ty0 := tyX12) (own := RX12) hx hb hown hts hK ha hA M_O rfl (fun _ hw => List.mem_cons_of_mem _ (u12_cls _ hw)) tyX12_ok nmX12 5 (by decide) (List.mem_cons_of_mem _ (u12_3 _ (List.mem_of_getElem? (i := 4) rfl))) rfl rfl rfl rfl rfl hP hS dX12_parish_90 (fun H locs hP hS => ?_)
    obtain ⟨h14, eh14⟩ : ∃ x, x = (sF q13 66 5 0) := ⟨_, rfl⟩
    rw [← eh14] at hP
    have hf := nm_s hf eh14
    exact J93 FU v3 v4 h14 hf H locs ls hP hS (lv_sub hl [0, 1, 2] rfl)
  have J58 : ∀ (k41 : Int32 → Int32 → HS → Option (Int32 × HS)) (hk41 : ∀ (v3 : Int32) (v4 : Int32) (h : HS), k41 v3 v4 h = some (r, h') → gG p l e (headSpec uX12_parish rmX12_parish).room s m ([.ref (a 66), .int v1] : List Value).toArray below meth c (MQ below (gQ (some (.int r)) D a C h') ([.ref (a 66), .int v1] : List Value).toArray s 0 0 (gA a)) D a C 8 h 41 [(0, .ref (a 66)), (3, .int v3), (4, .int v4)] []) (v3 : Int32) (v4 : Int32) (h : HS) (_ : X12_parish_B58 v1 k41 v3 v4 h = some (r, h')), gG p l e (headSpec uX12_parish rmX12_parish).room s m ([.ref (a 66), .int v1] : List Value).toArray below meth c (MQ below (gQ (some (.int r)) D a C h') ([.ref (a 66), .int v1] : List Value).toArray s 0 0 (gA a)) D a C 8 h 58 [(0, .ref (a 66)), (3, .int v3), (4, .int v4)] [] := by
    intro k41 hk41 v3 v4 h hf H locs ls hP hS hl
    unfold X12_parish_B58 at hf
    obtain ⟨x10, ex10⟩ : ∃ y : Int32, y = (v3 + 1) := ⟨_, rfl⟩
    have hf := nm_s hf ex10
    refine lv_iinc (v := x10) (lv' := [(3, .int x10), (0, .ref (a 66)), (4, .int v4)]) hx hb dX12_parish_58 hl (k := 1) rfl (by rw [ex10]; rfl) (by decide) rfl (fun ls hl => ?_)
    refine lv_iload hx hb dX12_parish_61 (lv_at hl 2 rfl) ?_
    refine lv_if_ne (tgt := 77) hx hb dX12_parish_63 (by decide) (fun c11 => ?_) (fun c11 => ?_)
    · have hf := if_f hf c11
      exact J77 x10 v4 h hf H locs ls hP hS (lv_sub hl [1, 0, 2] rfl)
    · have hf := if_t hf c11
      refine lv_aload_n hx hb dX12_parish_66 rfl (lv_at hl 1 rfl) ?_
      refine g_get (Cn := RX12) (T := TX12) (N := 21) (v := .int (fI h 66 5)) (own := RX12) hx hb hown hts hK M_O rfl (fun _ hw => List.mem_cons_of_mem _ (u12_cls _ hw)) 5 (by decide) (List.mem_cons_of_mem _ (u12_3 _ (List.mem_of_getElem? (i := 4) rfl))) rfl rfl hP dX12_parish_67 ?_
      refine lv_aload_n hx hb dX12_parish_70 rfl (lv_at hl 1 rfl) ?_
      refine g_get (Cn := RX12) (T := TX12) (N := 21) (v := .int (fI h 66 7)) (own := RX12) hx hb hown hts hK M_O rfl (fun _ hw => List.mem_cons_of_mem _ (u12_cls _ hw)) 7 (by decide) (List.mem_cons_of_mem _ (u12_3 _ (List.mem_of_getElem? (i := 5) rfl))) rfl rfl hP dX12_parish_71 ?_
      refine lv_icmp_lt (tgt := 41) hx hb dX12_parish_74 (by decide) (fun c12 => ?_) (fun c12 => ?_)
      · have hf := if_t hf c12
        exact hk41 x10 v4 h hf H locs ls hP hS (lv_sub hl [1, 0, 2] rfl)
      · have hf := if_f hf c12
        exact J77 x10 v4 h hf H locs ls hP hS (lv_sub hl [1, 0, 2] rfl)
  have J41 : ∀ (fu : Nat) (v3 : Int32) (v4 : Int32) (h : HS), X12_parish_B41 v1 fu v3 v4 h = some (r, h') → gG p l e (headSpec uX12_parish rmX12_parish).room s m ([.ref (a 66), .int v1] : List Value).toArray below meth c (MQ below (gQ (some (.int r)) D a C h') ([.ref (a 66), .int v1] : List Value).toArray s 0 0 (gA a)) D a C 8 h 41 [(0, .ref (a 66)), (3, .int v3), (4, .int v4)] [] := by
    intro fu
    induction fu with
    | zero => intro v3 v4 h hf; exact absurd hf (by simp [X12_parish_B41])
    | succ fu ih =>
      intro v3 v4 h hf H locs ls hP hS hl
      rw [X12_parish_B41] at hf
      refine lv_aload_n hx hb dX12_parish_41 rfl (lv_at hl 0 rfl) ?_
      obtain ⟨q7, hq7, hf⟩ := bind_s hf
      refine g_callV (As := []) (rest := []) hx hb hml hown hts hK hN (m_X12_readsStatement l D a C ha h  q7.1 q7.2 hq7) (cwV 0 hts (gUV (u12_4 _ (List.mem_of_getElem? (i := 16) rfl)) (u12_4 _ (List.mem_of_getElem? (i := 17) rfl)) (u12_4 _ (List.mem_of_getElem? (i := 18) rfl)) (u12_1 _ (List.mem_of_getElem? (i := 7) rfl)) (u12_3 _ (List.mem_of_getElem? (i := 11) rfl))) rfl rfl rfl kdX12_readsStatement ⟨Nat.le_of_ble_eq_true rfl, Nat.le_of_ble_eq_true rfl⟩) M_O rfl rfl hP hS hA rfl hl.1 rfl (Nat.le_of_ble_eq_true rfl) dX12_parish_42 ⟨Nat.le_refl _, Nat.le_refl _⟩ (fun H locs hP hS => ?_)
      refine W.eq (g2 := F0 m 45 ls [.int q7.1]) rfl ?_
      refine lv_if_ne (tgt := 58) hx hb dX12_parish_45 (by decide) (fun c8 => ?_) (fun c8 => ?_)
      · have hf := if_f hf c8
        exact J58 (X12_parish_B41 v1 fu) ih v3 v4 q7.2 hf H locs ls hP hS (lv_sub hl [0, 1, 2] rfl)
      · have hf := if_t hf c8
        refine lv_sipush (v := (-1000)) hx hb dX12_parish_48 (by decide) ?_
        refine lv_aload_n hx hb dX12_parish_51 rfl (lv_at hl 0 rfl) ?_
        refine g_get (Cn := RX12) (T := TX12) (N := 21) (v := .int (fI q7.2 66 5)) (own := RX12) hx hb hown hts hK M_O rfl (fun _ hw => List.mem_cons_of_mem _ (u12_cls _ hw)) 5 (by decide) (List.mem_cons_of_mem _ (u12_3 _ (List.mem_of_getElem? (i := 4) rfl))) rfl rfl hP dX12_parish_52 ?_
        refine lv_isub hx hb dX12_parish_55 ?_
        refine lv_topi (fun x9 ex9 => ?_)
        have hf := nm_s hf ex9
        refine lv_istore (lv' := [(4, .int x9), (0, .ref (a 66)), (3, .int v3)]) hx hb dX12_parish_56 hl (by decide) rfl (fun ls hl => ?_)
        exact J58 (X12_parish_B41 v1 fu) ih v3 x9 q7.2 hf H locs ls hP hS (lv_sub hl [1, 2, 0] rfl)
  unfold X12_parish at hf
  suffices hh : ∀ (H : Heap) (locs : List Loc), va_P D vwCl (gw a C h) H → va_S (gA a) s.heap H locs → W p l e (headSpec uX12_parish rmX12_parish).room s m ([.ref (a 66), .int v1] : List Value).toArray below meth c H locs 0 0 (MQ below (gQ (some (.int r)) D a C h') ([.ref (a 66), .int v1] : List Value).toArray s 0 0 (gA a)) (F0 m 0 ls []) from hh _ _ hP hS
  intro H locs hP hS
  refine lv_aload_n hx hb dX12_parish_0 rfl (lv_at hl 0 rfl) ?_
  refine lv_iload_n hx hb dX12_parish_1 rfl (lv_at hl 1 rfl) ?_
  refine lv_iconst (v := 0) hx hb dX12_parish_2 (by decide) ?_
  obtain ⟨q1, hq1, hf⟩ := bind_s hf
  refine g_callV (As := [.int v1, .int 0]) (rest := []) hx hb hml hown hts hK hN (m_X12_wrongRow l D a C ha h v1 0  q1 hq1) (cwV 2 hts (gUV (u12_4 _ (List.mem_of_getElem? (i := 13) rfl)) (u12_4 _ (List.mem_of_getElem? (i := 14) rfl)) (u12_4 _ (List.mem_of_getElem? (i := 15) rfl)) (u12_1 _ (List.mem_of_getElem? (i := 7) rfl)) (u12_4 _ (List.mem_of_getElem? (i := 10) rfl))) rfl rfl rfl kdX12_wrongRow ⟨Nat.le_of_ble_eq_true rfl, Nat.le_of_ble_eq_true rfl⟩) M_O rfl rfl hP hS hA rfl hl.1 rfl (Nat.le_of_ble_eq_true rfl) dX12_parish_3 ⟨Nat.le_refl _, Nat.le_refl _⟩ (fun H locs hP hS => ?_)
  refine W.eq (g2 := F0 m 6 ls [.int q1]) rfl ?_
  refine lv_istore_n (lv' := [(2, .int q1), (0, .ref (a 66)), (1, .int v1)]) hx hb dX12_parish_6 rfl hl (by decide) rfl (fun ls hl => ?_)
  refine lv_iload_n hx hb dX12_parish_7 rfl (lv_at hl 0 rfl) ?_
  refine lv_if_eq (tgt := 13) hx hb dX12_parish_8 (by decide) (fun c2 => ?_) (fun c2 => ?_)
  · have hf := if_t hf c2
    refine lv_aload_n hx hb dX12_parish_13 rfl (lv_at hl 1 rfl) ?_
    refine lv_bipush (v := 100) hx hb dX12_parish_14 (by decide) ?_
    refine lv_iload_n hx hb dX12_parish_16 rfl (lv_at hl 2 rfl) ?_
    refine lv_imul hx hb dX12_parish_17 ?_
    refine g_put (Cn := RX12) (T := TX12) (N := 21) (ty0 := tyX12) (own := RX12) hx hb hown hts hK ha hA M_O rfl (fun _ hw => List.mem_cons_of_mem _ (u12_cls _ hw)) tyX12_ok nmX12 6 (by decide) (List.mem_cons_of_mem _ (u12_3 _ (List.mem_of_getElem? (i := 6) rfl))) rfl rfl rfl rfl rfl hP hS dX12_parish_18 (fun H locs hP hS => ?_)
    obtain ⟨h3, eh3⟩ : ∃ x, x = (sF h 66 6 (100 * v1)) := ⟨_, rfl⟩
    rw [← eh3] at hP
    have hf := nm_s hf eh3
    refine lv_aload_n hx hb dX12_parish_21 rfl (lv_at hl 1 rfl) ?_
    refine lv_aload_n hx hb dX12_parish_22 rfl (lv_at hl 1 rfl) ?_
    refine g_get (Cn := RX12) (T := TX12) (N := 21) (v := .ref (a 80)) (own := RX12) hx hb hown hts hK M_O rfl (fun _ hw => List.mem_cons_of_mem _ (u12_cls _ hw)) 18 (by decide) (List.mem_cons_of_mem _ (u12_0 _ (List.mem_of_getElem? (i := 19) rfl))) rfl rfl hP dX12_parish_23 ?_
    refine lv_iload_n hx hb dX12_parish_26 rfl (lv_at hl 2 rfl) ?_
    obtain ⟨c4, hf⟩ := gdi_s hf
    refine g_ial hx hb hK (⟨by decide, rfl⟩ : gAI 80 8) c4 hP dX12_parish_27 ?_
    refine g_put (Cn := RX12) (T := TX12) (N := 21) (ty0 := tyX12) (own := RX12) hx hb hown hts hK ha hA M_O rfl (fun _ hw => List.mem_cons_of_mem _ (u12_cls _ hw)) tyX12_ok nmX12 7 (by decide) (List.mem_cons_of_mem _ (u12_3 _ (List.mem_of_getElem? (i := 5) rfl))) rfl rfl rfl rfl rfl hP hS dX12_parish_28 (fun H locs hP hS => ?_)
    obtain ⟨h5, eh5⟩ : ∃ x, x = (sF h3 66 7 (aI h3 80 v1.toNatClampNeg)) := ⟨_, rfl⟩
    rw [← eh5] at hP
    have hf := nm_s hf eh5
    refine lv_aload_n hx hb dX12_parish_31 rfl (lv_at hl 1 rfl) ?_
    refine lv_iconst (v := 0) hx hb dX12_parish_32 (by decide) ?_
    refine g_put (Cn := RX12) (T := TX12) (N := 21) (ty0 := tyX12) (own := RX12) hx hb hown hts hK ha hA M_O rfl (fun _ hw => List.mem_cons_of_mem _ (u12_cls _ hw)) tyX12_ok nmX12 5 (by decide) (List.mem_cons_of_mem _ (u12_3 _ (List.mem_of_getElem? (i := 4) rfl))) rfl rfl rfl rfl rfl hP hS dX12_parish_33 (fun H locs hP hS => ?_)
    obtain ⟨h6, eh6⟩ : ∃ x, x = (sF h5 66 5 0) := ⟨_, rfl⟩
    rw [← eh6] at hP
    have hf := nm_s hf eh6
    refine lv_iconst (v := 0) hx hb dX12_parish_36 (by decide) ?_
    refine lv_istore_n (lv' := [(3, .int 0), (2, .int q1), (0, .ref (a 66)), (1, .int v1)]) hx hb dX12_parish_37 rfl hl (by decide) rfl (fun ls hl => ?_)
    refine lv_iconst (v := 0) hx hb dX12_parish_38 (by decide) ?_
    refine lv_istore (lv' := [(4, .int 0), (3, .int 0), (2, .int q1), (0, .ref (a 66)), (1, .int v1)]) hx hb dX12_parish_39 hl (by decide) rfl (fun ls hl => ?_)
    exact J41 FU 0 0 h6 hf H locs ls hP hS (lv_sub hl [3, 1, 0] rfl)
  · have hf := if_f hf c2
    refine lv_iload_n hx hb dX12_parish_11 rfl (lv_at hl 0 rfl) ?_
    exact g_iretW hx hb hr hlk hP hS (ret2 hf) dX12_parish_12

def X12_knownSum_B35 (h : HS) (v0 : Nat) (v1 : Int32) (k4 : Int32 → Int32 → Option Int32) (v3 : Int32) (s0 : Int32) (s1 : Int32) : Option Int32 :=
    nm (s1 + s0) fun x8 =>
    nm (v3 + 1) fun x9 =>
    k4 x8 x9
def X12_knownSum_B4 (h : HS) (v0 : Nat) (v1 : Int32) : Nat → Int32 → Int32 → Option Int32
  | 0, _, _ => none
  | fu + 1, v2, v3 =>
    gdi 0 30 <|
    (if (aI h v0 (0 : Int32).toNatClampNeg) ≤ v3 then
    some v2
    else
    (X12_of v1 2).bind fun q3 =>
    gdi q3 30 <|
    (X12_has (aI h v0 q3.toNatClampNeg) v3).bind fun q5 =>
    (if q5 = 0 then
    X12_knownSum_B35 h v0 v1 (X12_knownSum_B4 h v0 v1 fu) v3 0 v2
    else
    (X12_number h v0 v3).bind fun q7 =>
    X12_knownSum_B35 h v0 v1 (X12_knownSum_B4 h v0 v1 fu) v3 q7 v2))
def X12_knownSum (h : HS) (v0 : Nat) (v1 : Int32) : Option Int32 :=
    X12_knownSum_B4 h v0 v1 FU 0 0
def uX12_knownSum : List Cond := .code yX12_knownSum cX12_knownSum 4 (some .int) :: UU
def rmX12_knownSum : Room := { frames := 2, cells := 0, slots := 0, locals := 43 }
theorem kdX12_knownSum : yX12_knownSum.cls = RX12 ∧ yX12_knownSum.cls ≠ "java/lang/invoke/MethodHandle" ∧ yX12_knownSum.cls ≠ "java/lang/invoke/VarHandle" ∧ (parseMethodDescriptor yX12_knownSum.desc).map (fun d => d.parameters.length) = some 2 := by decide +kernel
set_option maxHeartbeats 4000000 in
set_option maxRecDepth 100000 in
theorem m_X12_knownSum (l : Launch) (D : va_G) (a : Nat → Nat) (C : Nat → ClassId) (ha : ginj a) (h : HS) (v0 : Nat) (v1 : Int32) (hv0 : isRow v0) (r : Int32) (hf : X12_knownSum h v0 v1 = some r) : gM l yX12_knownSum uX12_knownSum rmX12_knownSum D a C [.ref (a v0), .int v1] h (some (.int r)) h := by
  refine g_start (av := [.ref (a v0), .int v1]) (cc := cX12_knownSum) (maxL := 4) (rt := (some .int)) (by decide) rfl (Nat.le_of_ble_eq_true rfl) ?_
  intro p e s m below meth c hx hb hr hml hown hlk hts hP hK hN ls hl
  have hA : ∀ q, gA a q → gA a q := fun _ q => q
  have hS : va_S (gA a) s.heap s.heap [] := va_S.rf
  have hl : lv_has ls 4 [(0, .ref (a v0)), (1, .int v1)] := hl
  have J35 : ∀ (k4 : Int32 → Int32 → Option Int32) (hk4 : ∀ (v2 : Int32) (v3 : Int32), k4 v2 v3 = some r → gG p l e (headSpec uX12_knownSum rmX12_knownSum).room s m ([.ref (a v0), .int v1] : List Value).toArray below meth c (MQ below (gQ (some (.int r)) D a C h) ([.ref (a v0), .int v1] : List Value).toArray s 0 0 (gA a)) D a C 4 h 4 [(0, .ref (a v0)), (1, .int v1), (2, .int v2), (3, .int v3)] []) (v3 : Int32) (s0 : Int32) (s1 : Int32) (_ : X12_knownSum_B35 h v0 v1 k4 v3 s0 s1 = some r), gG p l e (headSpec uX12_knownSum rmX12_knownSum).room s m ([.ref (a v0), .int v1] : List Value).toArray below meth c (MQ below (gQ (some (.int r)) D a C h) ([.ref (a v0), .int v1] : List Value).toArray s 0 0 (gA a)) D a C 4 h 35 [(0, .ref (a v0)), (1, .int v1), (3, .int v3)] [.int s0, .int s1] := by
    intro k4 hk4 v3 s0 s1 hf H locs ls hP hS hl
    unfold X12_knownSum_B35 at hf
    refine lv_iadd hx hb dX12_knownSum_35 ?_
    refine lv_topi (fun x8 ex8 => ?_)
    have hf := nm_s hf ex8
    refine lv_istore_n (lv' := [(2, .int x8), (0, .ref (a v0)), (1, .int v1), (3, .int v3)]) hx hb dX12_knownSum_36 rfl hl (by decide) rfl (fun ls hl => ?_)
    obtain ⟨x9, ex9⟩ : ∃ y : Int32, y = (v3 + 1) := ⟨_, rfl⟩
    have hf := nm_s hf ex9
    refine lv_iinc (v := x9) (lv' := [(3, .int x9), (2, .int x8), (0, .ref (a v0)), (1, .int v1)]) hx hb dX12_knownSum_37 hl (k := 3) rfl (by rw [ex9]; rfl) (by decide) rfl (fun ls hl => ?_)
    refine lv_goto (tgt := 4) hx hb dX12_knownSum_40 (by decide) ?_
    exact hk4 x8 x9 hf H locs ls hP hS (lv_sub hl [2, 3, 1, 0] rfl)
  have J4 : ∀ (fu : Nat) (v2 : Int32) (v3 : Int32), X12_knownSum_B4 h v0 v1 fu v2 v3 = some r → gG p l e (headSpec uX12_knownSum rmX12_knownSum).room s m ([.ref (a v0), .int v1] : List Value).toArray below meth c (MQ below (gQ (some (.int r)) D a C h) ([.ref (a v0), .int v1] : List Value).toArray s 0 0 (gA a)) D a C 4 h 4 [(0, .ref (a v0)), (1, .int v1), (2, .int v2), (3, .int v3)] [] := by
    intro fu
    induction fu with
    | zero => intro v2 v3 hf; exact absurd hf (by simp [X12_knownSum_B4])
    | succ fu ih =>
      intro v2 v3 hf H locs ls hP hS hl
      rw [X12_knownSum_B4] at hf
      refine lv_iload_n hx hb dX12_knownSum_4 rfl (lv_at hl 3 rfl) ?_
      refine lv_aload_n hx hb dX12_knownSum_5 rfl (lv_at hl 0 rfl) ?_
      refine lv_iconst (v := 0) hx hb dX12_knownSum_6 (by decide) ?_
      obtain ⟨c1, hf⟩ := gdi_s hf
      refine g_ial hx hb hK (row_A hv0) c1 hP dX12_knownSum_7 ?_
      refine lv_icmp_ge (tgt := 43) hx hb dX12_knownSum_8 (by decide) (fun c2 => ?_) (fun c2 => ?_)
      · have hf := if_t hf c2
        refine lv_iload_n hx hb dX12_knownSum_43 rfl (lv_at hl 2 rfl) ?_
        exact g_iret hx hb hr hlk hP hS (ret1 hf) dX12_knownSum_44
      · have hf := if_f hf c2
        refine lv_iload_n hx hb dX12_knownSum_11 rfl (lv_at hl 2 rfl) ?_
        refine lv_aload_n hx hb dX12_knownSum_12 rfl (lv_at hl 0 rfl) ?_
        refine lv_iload_n hx hb dX12_knownSum_13 rfl (lv_at hl 1 rfl) ?_
        refine lv_iconst (v := 2) hx hb dX12_knownSum_14 (by decide) ?_
        obtain ⟨q3, hq3, hf⟩ := bind_s hf
        refine g_callS (As := [.int v1, .int 2]) (rest := [.ref (a v0), .int v2]) hx hb hml hown hts hK hN (m_X12_of l D a C ha h v1 2  q3 hq3) (va_cwS 2 hts (gUS (u12_1 _ (List.mem_of_getElem? (i := 15) rfl)) (u12_1 _ (List.mem_of_getElem? (i := 16) rfl)) (u12_1 _ (List.mem_of_getElem? (i := 7) rfl)) (u12_1 _ (List.mem_of_getElem? (i := 3) rfl))) rfl rfl rfl kdX12_of.2 ⟨Nat.le_of_ble_eq_true rfl, Nat.le_of_ble_eq_true rfl⟩) hP hS hA rfl hl.1 rfl (Nat.le_of_ble_eq_true rfl) dX12_knownSum_15 ⟨Nat.le_refl _, Nat.le_refl _⟩ (fun H locs hP hS => ?_)
        refine W.eq (g2 := F0 m 18 ls [.int q3, .ref (a v0), .int v2]) rfl ?_
        obtain ⟨c4, hf⟩ := gdi_s hf
        refine g_ial hx hb hK (row_A hv0) c4 hP dX12_knownSum_18 ?_
        refine lv_iload_n hx hb dX12_knownSum_19 rfl (lv_at hl 3 rfl) ?_
        obtain ⟨q5, hq5, hf⟩ := bind_s hf
        refine g_callS (As := [.int (aI h v0 q3.toNatClampNeg), .int v3]) (rest := [.int v2]) hx hb hml hown hts hK hN (m_X12_has l D a C ha h (aI h v0 q3.toNatClampNeg) v3  q5 hq5) (va_cwS 2 hts (gUS (u12_2 _ (List.mem_of_getElem? (i := 8) rfl)) (u12_2 _ (List.mem_of_getElem? (i := 9) rfl)) (u12_1 _ (List.mem_of_getElem? (i := 7) rfl)) (u12_1 _ (List.mem_of_getElem? (i := 12) rfl))) rfl rfl rfl kdX12_has.2 ⟨Nat.le_of_ble_eq_true rfl, Nat.le_of_ble_eq_true rfl⟩) hP hS hA rfl hl.1 rfl (Nat.le_of_ble_eq_true rfl) dX12_knownSum_20 ⟨Nat.le_refl _, Nat.le_refl _⟩ (fun H locs hP hS => ?_)
        refine W.eq (g2 := F0 m 23 ls [.int q5, .int v2]) rfl ?_
        refine lv_if_eq (tgt := 34) hx hb dX12_knownSum_23 (by decide) (fun c6 => ?_) (fun c6 => ?_)
        · have hf := if_t hf c6
          refine lv_iconst (v := 0) hx hb dX12_knownSum_34 (by decide) ?_
          exact J35 (X12_knownSum_B4 h v0 v1 fu) ih v3 0 v2 hf H locs ls hP hS (lv_sub hl [0, 1, 3] rfl)
        · have hf := if_f hf c6
          refine lv_aload_n hx hb dX12_knownSum_26 rfl (lv_at hl 0 rfl) ?_
          refine lv_iload_n hx hb dX12_knownSum_27 rfl (lv_at hl 3 rfl) ?_
          obtain ⟨q7, hq7, hf⟩ := bind_s hf
          refine g_callS (As := [.ref (a v0), .int v3]) (rest := [.int v2]) hx hb hml hown hts hK hN (m_X12_number l D a C ha h v0 v3 hv0 q7 hq7) (va_cwS 2 hts (gUS (u12_2 _ (List.mem_of_getElem? (i := 2) rfl)) (u12_2 _ (List.mem_of_getElem? (i := 3) rfl)) (u12_1 _ (List.mem_of_getElem? (i := 7) rfl)) (u12_1 _ (List.mem_of_getElem? (i := 14) rfl))) rfl rfl rfl kdX12_number.2 ⟨Nat.le_of_ble_eq_true rfl, Nat.le_of_ble_eq_true rfl⟩) hP hS hA rfl hl.1 rfl (Nat.le_of_ble_eq_true rfl) dX12_knownSum_28 ⟨Nat.le_refl _, Nat.le_refl _⟩ (fun H locs hP hS => ?_)
          refine W.eq (g2 := F0 m 31 ls [.int q7, .int v2]) rfl ?_
          refine lv_goto (tgt := 35) hx hb dX12_knownSum_31 (by decide) ?_
          exact J35 (X12_knownSum_B4 h v0 v1 fu) ih v3 q7 v2 hf H locs ls hP hS (lv_sub hl [0, 1, 3] rfl)
  unfold X12_knownSum at hf
  suffices hh : ∀ (H : Heap) (locs : List Loc), va_P D vwCl (gw a C h) H → va_S (gA a) s.heap H locs → W p l e (headSpec uX12_knownSum rmX12_knownSum).room s m ([.ref (a v0), .int v1] : List Value).toArray below meth c H locs 0 0 (MQ below (gQ (some (.int r)) D a C h) ([.ref (a v0), .int v1] : List Value).toArray s 0 0 (gA a)) (F0 m 0 ls []) from hh _ _ hP hS
  intro H locs hP hS
  refine lv_iconst (v := 0) hx hb dX12_knownSum_0 (by decide) ?_
  refine lv_istore_n (lv' := [(2, .int 0), (0, .ref (a v0)), (1, .int v1)]) hx hb dX12_knownSum_1 rfl hl (by decide) rfl (fun ls hl => ?_)
  refine lv_iconst (v := 0) hx hb dX12_knownSum_2 (by decide) ?_
  refine lv_istore_n (lv' := [(3, .int 0), (2, .int 0), (0, .ref (a v0)), (1, .int v1)]) hx hb dX12_knownSum_3 rfl hl (by decide) rfl (fun ls hl => ?_)
  exact J4 FU 0 0 hf H locs ls hP hS (lv_sub hl [2, 3, 1, 0] rfl)

def X12_feelsIt (h : HS) (v0 : Nat) (v1 : Int32) : Option Int32 :=
    (X12_number h v0 v1).bind fun q1 =>
    (if q1 ≤ 0 then
    some 0
    else
    (X12_knownSum h v0 v1).bind fun q3 =>
    (if q3 ≤ (q1 * q1) then
    some 0
    else
    some 1))
def uX12_feelsIt : List Cond := .code yX12_feelsIt cX12_feelsIt 3 (some .boolean) :: UU
def rmX12_feelsIt : Room := { frames := 3, cells := 0, slots := 0, locals := 66 }
theorem kdX12_feelsIt : yX12_feelsIt.cls = RX12 ∧ yX12_feelsIt.cls ≠ "java/lang/invoke/MethodHandle" ∧ yX12_feelsIt.cls ≠ "java/lang/invoke/VarHandle" ∧ (parseMethodDescriptor yX12_feelsIt.desc).map (fun d => d.parameters.length) = some 2 := by decide +kernel
set_option maxHeartbeats 4000000 in
set_option maxRecDepth 100000 in
theorem m_X12_feelsIt (l : Launch) (D : va_G) (a : Nat → Nat) (C : Nat → ClassId) (ha : ginj a) (h : HS) (v0 : Nat) (v1 : Int32) (hv0 : isRow v0) (r : Int32) (hf : X12_feelsIt h v0 v1 = some r) : gM l yX12_feelsIt uX12_feelsIt rmX12_feelsIt D a C [.ref (a v0), .int v1] h (some (.int r)) h := by
  refine g_start (av := [.ref (a v0), .int v1]) (cc := cX12_feelsIt) (maxL := 3) (rt := (some .boolean)) (by decide) rfl (Nat.le_of_ble_eq_true rfl) ?_
  intro p e s m below meth c hx hb hr hml hown hlk hts hP hK hN ls hl
  have hA : ∀ q, gA a q → gA a q := fun _ q => q
  have hS : va_S (gA a) s.heap s.heap [] := va_S.rf
  have hl : lv_has ls 3 [(0, .ref (a v0)), (1, .int v1)] := hl
  unfold X12_feelsIt at hf
  refine lv_aload_n hx hb dX12_feelsIt_0 rfl (lv_at hl 0 rfl) ?_
  refine lv_iload_n hx hb dX12_feelsIt_1 rfl (lv_at hl 1 rfl) ?_
  obtain ⟨q1, hq1, hf⟩ := bind_s hf
  refine g_callS (As := [.ref (a v0), .int v1]) (rest := []) hx hb hml hown hts hK hN (m_X12_number l D a C ha h v0 v1 hv0 q1 hq1) (va_cwS 2 hts (gUS (u12_2 _ (List.mem_of_getElem? (i := 2) rfl)) (u12_2 _ (List.mem_of_getElem? (i := 3) rfl)) (u12_1 _ (List.mem_of_getElem? (i := 7) rfl)) (u12_1 _ (List.mem_of_getElem? (i := 14) rfl))) rfl rfl rfl kdX12_number.2 ⟨Nat.le_of_ble_eq_true rfl, Nat.le_of_ble_eq_true rfl⟩) hP hS hA rfl hl.1 rfl (Nat.le_of_ble_eq_true rfl) dX12_feelsIt_2 ⟨Nat.le_refl _, Nat.le_refl _⟩ (fun H locs hP hS => ?_)
  refine W.eq (g2 := F0 m 5 ls [.int q1]) rfl ?_
  refine lv_istore_n (lv' := [(2, .int q1), (0, .ref (a v0)), (1, .int v1)]) hx hb dX12_feelsIt_5 rfl hl (by decide) rfl (fun ls hl => ?_)
  refine lv_iload_n hx hb dX12_feelsIt_6 rfl (lv_at hl 0 rfl) ?_
  refine lv_if_le (tgt := 25) hx hb dX12_feelsIt_7 (by decide) (fun c2 => ?_) (fun c2 => ?_)
  · have hf := if_t hf c2
    refine lv_iconst (v := 0) hx hb dX12_feelsIt_25 (by decide) ?_
    exact g_zret hx hb hr hlk (by decide) hP hS (ret1 hf) dX12_feelsIt_26
  · have hf := if_f hf c2
    refine lv_iload_n hx hb dX12_feelsIt_10 rfl (lv_at hl 0 rfl) ?_
    refine lv_iload_n hx hb dX12_feelsIt_11 rfl (lv_at hl 0 rfl) ?_
    refine lv_imul hx hb dX12_feelsIt_12 ?_
    refine lv_aload_n hx hb dX12_feelsIt_13 rfl (lv_at hl 1 rfl) ?_
    refine lv_iload_n hx hb dX12_feelsIt_14 rfl (lv_at hl 2 rfl) ?_
    obtain ⟨q3, hq3, hf⟩ := bind_s hf
    refine g_callS (As := [.ref (a v0), .int v1]) (rest := [.int (q1 * q1)]) hx hb hml hown hts hK hN (m_X12_knownSum l D a C ha h v0 v1 hv0 q3 hq3) (va_cwS 2 hts (gUS (u12_5 _ (List.mem_of_getElem? (i := 7) rfl)) (u12_5 _ (List.mem_of_getElem? (i := 8) rfl)) (u12_1 _ (List.mem_of_getElem? (i := 7) rfl)) (u12_5 _ (List.mem_of_getElem? (i := 5) rfl))) rfl rfl rfl kdX12_knownSum.2 ⟨Nat.le_of_ble_eq_true rfl, Nat.le_of_ble_eq_true rfl⟩) hP hS hA rfl hl.1 rfl (Nat.le_of_ble_eq_true rfl) dX12_feelsIt_15 ⟨Nat.le_refl _, Nat.le_refl _⟩ (fun H locs hP hS => ?_)
    refine W.eq (g2 := F0 m 18 ls [.int q3, .int (q1 * q1)]) rfl ?_
    refine lv_icmp_ge (tgt := 25) hx hb dX12_feelsIt_18 (by decide) (fun c4 => ?_) (fun c4 => ?_)
    · have hf := if_t hf c4
      refine lv_iconst (v := 0) hx hb dX12_feelsIt_25 (by decide) ?_
      exact g_zret hx hb hr hlk (by decide) hP hS (ret1 hf) dX12_feelsIt_26
    · have hf := if_f hf c4
      refine lv_iconst (v := 1) hx hb dX12_feelsIt_21 (by decide) ?_
      refine lv_goto (tgt := 26) hx hb dX12_feelsIt_22 (by decide) ?_
      exact g_zret hx hb hr hlk (by decide) hP hS (ret1 hf) dX12_feelsIt_26

def X12_one (h : HS) (v1 : Int32) (v2 : Int32) : Option Int32 :=
    (X12_isOne h v1).bind fun q1 =>
    (if q1 = 0 then
    some (-1)
    else
    (X12_isIn v2 0 7).bind fun q3 =>
    (if q3 = 0 then
    some (-1)
    else
    (if v2 = 2 then
    (X12_number h 67 v1).bind fun q8 =>
    some q8
    else
    (if v2 = 3 then
    (X12_of v1 2).bind fun q10 =>
    gdi q10 30 <|
    some (aI h 67 q10.toNatClampNeg)
    else
    (if v2 = 4 then
    gdi 2 30 <|
    some (((aI h 67 (2 : Int32).toNatClampNeg) >>> (v1 &&& 31)) &&& 1)
    else
    (if v2 = 5 then
    (X12_of v1 0).bind fun q15 =>
    gdi q15 30 <|
    (X12_of v1 1).bind fun q17 =>
    gdi q17 30 <|
    gdi 1 30 <|
    (X12_tellsBy (aI h 67 q15.toNatClampNeg) (aI h 67 q17.toNatClampNeg) ((aI h 67 (1 : Int32).toNatClampNeg) + 1)).bind fun q20 =>
    some q20
    else
    (if v2 = 6 then
    (X12_cardsOf h 67 v1).bind fun q22 =>
    some q22
    else
    (if v2 = 7 then
    (X12_feelsIt h 67 v1).bind fun q24 =>
    (if q24 = 0 then
    some 0
    else
    some 1)
    else
    (X12_of v1 v2).bind fun q5 =>
    gdi q5 30 <|
    some (aI h 67 q5.toNatClampNeg)))))))))
def uX12_one : List Cond := .code yX12_one cX12_one 3 (some .int) :: UU
def rmX12_one : Room := { frames := 4, cells := 0, slots := 0, locals := 88 }
theorem kdX12_one : yX12_one.cls = RX12 ∧ yX12_one.cls ≠ "java/lang/invoke/MethodHandle" ∧ yX12_one.cls ≠ "java/lang/invoke/VarHandle" ∧ (parseMethodDescriptor yX12_one.desc).map (fun d => d.parameters.length) = some 2 := by decide +kernel
set_option maxHeartbeats 4000000 in
set_option maxRecDepth 100000 in
theorem m_X12_one (l : Launch) (D : va_G) (a : Nat → Nat) (C : Nat → ClassId) (ha : ginj a) (h : HS) (v1 : Int32) (v2 : Int32)  (r : Int32) (hf : X12_one h v1 v2 = some r) : gM l yX12_one uX12_one rmX12_one D a C [.ref (a 66), .int v1, .int v2] h (some (.int r)) h := by
  refine g_start (av := [.ref (a 66), .int v1, .int v2]) (cc := cX12_one) (maxL := 3) (rt := (some .int)) (by decide) rfl (Nat.le_of_ble_eq_true rfl) ?_
  intro p e s m below meth c hx hb hr hml hown hlk hts hP hK hN ls hl
  have hA : ∀ q, gA a q → gA a q := fun _ q => q
  have hS : va_S (gA a) s.heap s.heap [] := va_S.rf
  have hl : lv_has ls 3 [(0, .ref (a 66)), (1, .int v1), (2, .int v2)] := hl
  unfold X12_one at hf
  refine lv_aload_n hx hb dX12_one_0 rfl (lv_at hl 0 rfl) ?_
  refine lv_iload_n hx hb dX12_one_1 rfl (lv_at hl 1 rfl) ?_
  obtain ⟨q1, hq1, hf⟩ := bind_s hf
  refine g_callV (As := [.int v1]) (rest := []) hx hb hml hown hts hK hN (m_X12_isOne l D a C ha h v1  q1 hq1) (cwV 1 hts (gUV (u12_1 _ (List.mem_of_getElem? (i := 9) rfl)) (u12_1 _ (List.mem_of_getElem? (i := 10) rfl)) (u12_1 _ (List.mem_of_getElem? (i := 11) rfl)) (u12_1 _ (List.mem_of_getElem? (i := 7) rfl)) (u12_1 _ (List.mem_of_getElem? (i := 4) rfl))) rfl rfl rfl kdX12_isOne ⟨Nat.le_of_ble_eq_true rfl, Nat.le_of_ble_eq_true rfl⟩) M_O rfl rfl hP hS hA rfl hl.1 rfl (Nat.le_of_ble_eq_true rfl) dX12_one_2 ⟨Nat.le_refl _, Nat.le_refl _⟩ (fun H locs hP hS => ?_)
  refine W.eq (g2 := F0 m 5 ls [.int q1]) rfl ?_
  refine lv_if_eq (tgt := 18) hx hb dX12_one_5 (by decide) (fun c2 => ?_) (fun c2 => ?_)
  · have hf := if_t hf c2
    refine lv_iconst (v := (-1)) hx hb dX12_one_18 (by decide) ?_
    exact g_iret hx hb hr hlk hP hS (ret1 hf) dX12_one_19
  · have hf := if_f hf c2
    refine lv_iload_n hx hb dX12_one_8 rfl (lv_at hl 2 rfl) ?_
    refine lv_iconst (v := 0) hx hb dX12_one_9 (by decide) ?_
    refine lv_bipush (v := 7) hx hb dX12_one_10 (by decide) ?_
    obtain ⟨q3, hq3, hf⟩ := bind_s hf
    refine g_callS (As := [.int v2, .int 0, .int 7]) (rest := []) hx hb hml hown hts hK hN (m_X12_isIn l D a C ha h v2 0 7  q3 hq3) (va_cwS 3 hts (gUS (u12_1 _ (List.mem_of_getElem? (i := 5) rfl)) (u12_1 _ (List.mem_of_getElem? (i := 6) rfl)) (u12_1 _ (List.mem_of_getElem? (i := 7) rfl)) (u12_1 _ (List.mem_of_getElem? (i := 1) rfl))) rfl rfl rfl kdX12_isIn.2 ⟨Nat.le_of_ble_eq_true rfl, Nat.le_of_ble_eq_true rfl⟩) hP hS hA rfl hl.1 rfl (Nat.le_of_ble_eq_true rfl) dX12_one_12 ⟨Nat.le_refl _, Nat.le_refl _⟩ (fun H locs hP hS => ?_)
    refine W.eq (g2 := F0 m 15 ls [.int q3]) rfl ?_
    refine lv_if_ne (tgt := 20) hx hb dX12_one_15 (by decide) (fun c4 => ?_) (fun c4 => ?_)
    · have hf := if_f hf c4
      refine lv_iload_n hx hb dX12_one_20 rfl (lv_at hl 2 rfl) ?_
      by_cases c7 : v2 = 2
      · have hf := if_t hf c7
        refine lv_tableIn (tgt := 60) hx hb dX12_one_21 (by rw [c7]; decide) (by rw [c7]; decide) (by rw [c7]; rfl) (by decide) ?_
        refine lv_aload_n hx hb dX12_one_60 rfl (lv_at hl 0 rfl) ?_
        refine g_get (Cn := RX12) (T := TX12) (N := 21) (v := .ref (a 67)) (own := RX12) hx hb hown hts hK M_O rfl (fun _ hw => List.mem_cons_of_mem _ (u12_cls _ hw)) 0 (by decide) (List.mem_cons_of_mem _ (u12_0 _ (List.mem_of_getElem? (i := 5) rfl))) rfl rfl hP dX12_one_61 ?_
        refine lv_iload_n hx hb dX12_one_64 rfl (lv_at hl 1 rfl) ?_
        obtain ⟨q8, hq8, hf⟩ := bind_s hf
        refine g_callS (As := [.ref (a 67), .int v1]) (rest := []) hx hb hml hown hts hK hN (m_X12_number l D a C ha h 67 v1 (Or.inl rfl) q8 hq8) (va_cwS 2 hts (gUS (u12_2 _ (List.mem_of_getElem? (i := 2) rfl)) (u12_2 _ (List.mem_of_getElem? (i := 3) rfl)) (u12_1 _ (List.mem_of_getElem? (i := 7) rfl)) (u12_1 _ (List.mem_of_getElem? (i := 14) rfl))) rfl rfl rfl kdX12_number.2 ⟨Nat.le_of_ble_eq_true rfl, Nat.le_of_ble_eq_true rfl⟩) hP hS hA rfl hl.1 rfl (Nat.le_of_ble_eq_true rfl) dX12_one_65 ⟨Nat.le_refl _, Nat.le_refl _⟩ (fun H locs hP hS => ?_)
        refine W.eq (g2 := F0 m 68 ls [.int q8]) rfl ?_
        exact g_iret hx hb hr hlk hP hS (ret1 hf) dX12_one_68
      have hf := if_f hf c7
      by_cases c9 : v2 = 3
      · have hf := if_t hf c9
        refine lv_tableIn (tgt := 69) hx hb dX12_one_21 (by rw [c9]; decide) (by rw [c9]; decide) (by rw [c9]; rfl) (by decide) ?_
        refine lv_aload_n hx hb dX12_one_69 rfl (lv_at hl 0 rfl) ?_
        refine g_get (Cn := RX12) (T := TX12) (N := 21) (v := .ref (a 67)) (own := RX12) hx hb hown hts hK M_O rfl (fun _ hw => List.mem_cons_of_mem _ (u12_cls _ hw)) 0 (by decide) (List.mem_cons_of_mem _ (u12_0 _ (List.mem_of_getElem? (i := 5) rfl))) rfl rfl hP dX12_one_70 ?_
        refine lv_iload_n hx hb dX12_one_73 rfl (lv_at hl 1 rfl) ?_
        refine lv_iconst (v := 2) hx hb dX12_one_74 (by decide) ?_
        obtain ⟨q10, hq10, hf⟩ := bind_s hf
        refine g_callS (As := [.int v1, .int 2]) (rest := [.ref (a 67)]) hx hb hml hown hts hK hN (m_X12_of l D a C ha h v1 2  q10 hq10) (va_cwS 2 hts (gUS (u12_1 _ (List.mem_of_getElem? (i := 15) rfl)) (u12_1 _ (List.mem_of_getElem? (i := 16) rfl)) (u12_1 _ (List.mem_of_getElem? (i := 7) rfl)) (u12_1 _ (List.mem_of_getElem? (i := 3) rfl))) rfl rfl rfl kdX12_of.2 ⟨Nat.le_of_ble_eq_true rfl, Nat.le_of_ble_eq_true rfl⟩) hP hS hA rfl hl.1 rfl (Nat.le_of_ble_eq_true rfl) dX12_one_75 ⟨Nat.le_refl _, Nat.le_refl _⟩ (fun H locs hP hS => ?_)
        refine W.eq (g2 := F0 m 78 ls [.int q10, .ref (a 67)]) rfl ?_
        obtain ⟨c11, hf⟩ := gdi_s hf
        refine g_ial hx hb hK (⟨by decide, rfl⟩ : gAI 67 30) c11 hP dX12_one_78 ?_
        exact g_iret hx hb hr hlk hP hS (ret1 hf) dX12_one_79
      have hf := if_f hf c9
      by_cases c12 : v2 = 4
      · have hf := if_t hf c12
        refine lv_tableIn (tgt := 80) hx hb dX12_one_21 (by rw [c12]; decide) (by rw [c12]; decide) (by rw [c12]; rfl) (by decide) ?_
        refine lv_aload_n hx hb dX12_one_80 rfl (lv_at hl 0 rfl) ?_
        refine g_get (Cn := RX12) (T := TX12) (N := 21) (v := .ref (a 67)) (own := RX12) hx hb hown hts hK M_O rfl (fun _ hw => List.mem_cons_of_mem _ (u12_cls _ hw)) 0 (by decide) (List.mem_cons_of_mem _ (u12_0 _ (List.mem_of_getElem? (i := 5) rfl))) rfl rfl hP dX12_one_81 ?_
        refine lv_iconst (v := 2) hx hb dX12_one_84 (by decide) ?_
        obtain ⟨c13, hf⟩ := gdi_s hf
        refine g_ial hx hb hK (⟨by decide, rfl⟩ : gAI 67 30) c13 hP dX12_one_85 ?_
        refine lv_iload_n hx hb dX12_one_86 rfl (lv_at hl 1 rfl) ?_
        refine lv_ishr hx hb dX12_one_87 ?_
        refine lv_iconst (v := 1) hx hb dX12_one_88 (by decide) ?_
        refine lv_iand hx hb dX12_one_89 ?_
        exact g_iret hx hb hr hlk hP hS (ret1 hf) dX12_one_90
      have hf := if_f hf c12
      by_cases c14 : v2 = 5
      · have hf := if_t hf c14
        refine lv_tableIn (tgt := 91) hx hb dX12_one_21 (by rw [c14]; decide) (by rw [c14]; decide) (by rw [c14]; rfl) (by decide) ?_
        refine lv_aload_n hx hb dX12_one_91 rfl (lv_at hl 0 rfl) ?_
        refine g_get (Cn := RX12) (T := TX12) (N := 21) (v := .ref (a 67)) (own := RX12) hx hb hown hts hK M_O rfl (fun _ hw => List.mem_cons_of_mem _ (u12_cls _ hw)) 0 (by decide) (List.mem_cons_of_mem _ (u12_0 _ (List.mem_of_getElem? (i := 5) rfl))) rfl rfl hP dX12_one_92 ?_
        refine lv_iload_n hx hb dX12_one_95 rfl (lv_at hl 1 rfl) ?_
        refine lv_iconst (v := 0) hx hb dX12_one_96 (by decide) ?_
        obtain ⟨q15, hq15, hf⟩ := bind_s hf
        refine g_callS (As := [.int v1, .int 0]) (rest := [.ref (a 67)]) hx hb hml hown hts hK hN (m_X12_of l D a C ha h v1 0  q15 hq15) (va_cwS 2 hts (gUS (u12_1 _ (List.mem_of_getElem? (i := 15) rfl)) (u12_1 _ (List.mem_of_getElem? (i := 16) rfl)) (u12_1 _ (List.mem_of_getElem? (i := 7) rfl)) (u12_1 _ (List.mem_of_getElem? (i := 3) rfl))) rfl rfl rfl kdX12_of.2 ⟨Nat.le_of_ble_eq_true rfl, Nat.le_of_ble_eq_true rfl⟩) hP hS hA rfl hl.1 rfl (Nat.le_of_ble_eq_true rfl) dX12_one_97 ⟨Nat.le_refl _, Nat.le_refl _⟩ (fun H locs hP hS => ?_)
        refine W.eq (g2 := F0 m 100 ls [.int q15, .ref (a 67)]) rfl ?_
        obtain ⟨c16, hf⟩ := gdi_s hf
        refine g_ial hx hb hK (⟨by decide, rfl⟩ : gAI 67 30) c16 hP dX12_one_100 ?_
        refine lv_aload_n hx hb dX12_one_101 rfl (lv_at hl 0 rfl) ?_
        refine g_get (Cn := RX12) (T := TX12) (N := 21) (v := .ref (a 67)) (own := RX12) hx hb hown hts hK M_O rfl (fun _ hw => List.mem_cons_of_mem _ (u12_cls _ hw)) 0 (by decide) (List.mem_cons_of_mem _ (u12_0 _ (List.mem_of_getElem? (i := 5) rfl))) rfl rfl hP dX12_one_102 ?_
        refine lv_iload_n hx hb dX12_one_105 rfl (lv_at hl 1 rfl) ?_
        refine lv_iconst (v := 1) hx hb dX12_one_106 (by decide) ?_
        obtain ⟨q17, hq17, hf⟩ := bind_s hf
        refine g_callS (As := [.int v1, .int 1]) (rest := [.ref (a 67), .int (aI h 67 q15.toNatClampNeg)]) hx hb hml hown hts hK hN (m_X12_of l D a C ha h v1 1  q17 hq17) (va_cwS 2 hts (gUS (u12_1 _ (List.mem_of_getElem? (i := 15) rfl)) (u12_1 _ (List.mem_of_getElem? (i := 16) rfl)) (u12_1 _ (List.mem_of_getElem? (i := 7) rfl)) (u12_1 _ (List.mem_of_getElem? (i := 3) rfl))) rfl rfl rfl kdX12_of.2 ⟨Nat.le_of_ble_eq_true rfl, Nat.le_of_ble_eq_true rfl⟩) hP hS hA rfl hl.1 rfl (Nat.le_of_ble_eq_true rfl) dX12_one_107 ⟨Nat.le_refl _, Nat.le_refl _⟩ (fun H locs hP hS => ?_)
        refine W.eq (g2 := F0 m 110 ls [.int q17, .ref (a 67), .int (aI h 67 q15.toNatClampNeg)]) rfl ?_
        obtain ⟨c18, hf⟩ := gdi_s hf
        refine g_ial hx hb hK (⟨by decide, rfl⟩ : gAI 67 30) c18 hP dX12_one_110 ?_
        refine lv_aload_n hx hb dX12_one_111 rfl (lv_at hl 0 rfl) ?_
        refine g_get (Cn := RX12) (T := TX12) (N := 21) (v := .ref (a 67)) (own := RX12) hx hb hown hts hK M_O rfl (fun _ hw => List.mem_cons_of_mem _ (u12_cls _ hw)) 0 (by decide) (List.mem_cons_of_mem _ (u12_0 _ (List.mem_of_getElem? (i := 5) rfl))) rfl rfl hP dX12_one_112 ?_
        refine lv_iconst (v := 1) hx hb dX12_one_115 (by decide) ?_
        obtain ⟨c19, hf⟩ := gdi_s hf
        refine g_ial hx hb hK (⟨by decide, rfl⟩ : gAI 67 30) c19 hP dX12_one_116 ?_
        refine lv_iconst (v := 1) hx hb dX12_one_117 (by decide) ?_
        refine lv_iadd hx hb dX12_one_118 ?_
        obtain ⟨q20, hq20, hf⟩ := bind_s hf
        refine g_callS (As := [.int (aI h 67 q15.toNatClampNeg), .int (aI h 67 q17.toNatClampNeg), .int ((aI h 67 (1 : Int32).toNatClampNeg) + 1)]) (rest := []) hx hb hml hown hts hK hN (m_X12_tellsBy l D a C ha h (aI h 67 q15.toNatClampNeg) (aI h 67 q17.toNatClampNeg) ((aI h 67 (1 : Int32).toNatClampNeg) + 1)  q20 hq20) (va_cwS 3 hts (gUS (u12_2 _ (List.mem_of_getElem? (i := 6) rfl)) (u12_2 _ (List.mem_of_getElem? (i := 7) rfl)) (u12_1 _ (List.mem_of_getElem? (i := 7) rfl)) (u12_2 _ (List.mem_of_getElem? (i := 0) rfl))) rfl rfl rfl kdX12_tellsBy.2 ⟨Nat.le_of_ble_eq_true rfl, Nat.le_of_ble_eq_true rfl⟩) hP hS hA rfl hl.1 rfl (Nat.le_of_ble_eq_true rfl) dX12_one_119 ⟨Nat.le_refl _, Nat.le_refl _⟩ (fun H locs hP hS => ?_)
        refine W.eq (g2 := F0 m 122 ls [.int q20]) rfl ?_
        exact g_iret hx hb hr hlk hP hS (ret1 hf) dX12_one_122
      have hf := if_f hf c14
      by_cases c21 : v2 = 6
      · have hf := if_t hf c21
        refine lv_tableIn (tgt := 123) hx hb dX12_one_21 (by rw [c21]; decide) (by rw [c21]; decide) (by rw [c21]; rfl) (by decide) ?_
        refine lv_aload_n hx hb dX12_one_123 rfl (lv_at hl 0 rfl) ?_
        refine g_get (Cn := RX12) (T := TX12) (N := 21) (v := .ref (a 67)) (own := RX12) hx hb hown hts hK M_O rfl (fun _ hw => List.mem_cons_of_mem _ (u12_cls _ hw)) 0 (by decide) (List.mem_cons_of_mem _ (u12_0 _ (List.mem_of_getElem? (i := 5) rfl))) rfl rfl hP dX12_one_124 ?_
        refine lv_iload_n hx hb dX12_one_127 rfl (lv_at hl 1 rfl) ?_
        obtain ⟨q22, hq22, hf⟩ := bind_s hf
        refine g_callS (As := [.ref (a 67), .int v1]) (rest := []) hx hb hml hown hts hK hN (m_X12_cardsOf l D a C ha h 67 v1 (Or.inl rfl) q22 hq22) (va_cwS 2 hts (gUS (u12_5 _ (List.mem_of_getElem? (i := 9) rfl)) (u12_5 _ (List.mem_of_getElem? (i := 10) rfl)) (u12_1 _ (List.mem_of_getElem? (i := 7) rfl)) (u12_2 _ (List.mem_of_getElem? (i := 4) rfl))) rfl rfl rfl kdX12_cardsOf.2 ⟨Nat.le_of_ble_eq_true rfl, Nat.le_of_ble_eq_true rfl⟩) hP hS hA rfl hl.1 rfl (Nat.le_of_ble_eq_true rfl) dX12_one_128 ⟨Nat.le_refl _, Nat.le_refl _⟩ (fun H locs hP hS => ?_)
        refine W.eq (g2 := F0 m 131 ls [.int q22]) rfl ?_
        exact g_iret hx hb hr hlk hP hS (ret1 hf) dX12_one_131
      have hf := if_f hf c21
      by_cases c23 : v2 = 7
      · have hf := if_t hf c23
        refine lv_tableIn (tgt := 132) hx hb dX12_one_21 (by rw [c23]; decide) (by rw [c23]; decide) (by rw [c23]; rfl) (by decide) ?_
        refine lv_aload_n hx hb dX12_one_132 rfl (lv_at hl 0 rfl) ?_
        refine g_get (Cn := RX12) (T := TX12) (N := 21) (v := .ref (a 67)) (own := RX12) hx hb hown hts hK M_O rfl (fun _ hw => List.mem_cons_of_mem _ (u12_cls _ hw)) 0 (by decide) (List.mem_cons_of_mem _ (u12_0 _ (List.mem_of_getElem? (i := 5) rfl))) rfl rfl hP dX12_one_133 ?_
        refine lv_iload_n hx hb dX12_one_136 rfl (lv_at hl 1 rfl) ?_
        obtain ⟨q24, hq24, hf⟩ := bind_s hf
        refine g_callS (As := [.ref (a 67), .int v1]) (rest := []) hx hb hml hown hts hK hN (m_X12_feelsIt l D a C ha h 67 v1 (Or.inl rfl) q24 hq24) (va_cwS 2 hts (gUS (u12_5 _ (List.mem_of_getElem? (i := 11) rfl)) (u12_5 _ (List.mem_of_getElem? (i := 12) rfl)) (u12_1 _ (List.mem_of_getElem? (i := 7) rfl)) (u12_5 _ (List.mem_of_getElem? (i := 6) rfl))) rfl rfl rfl kdX12_feelsIt.2 ⟨Nat.le_of_ble_eq_true rfl, Nat.le_of_ble_eq_true rfl⟩) hP hS hA rfl hl.1 rfl (Nat.le_of_ble_eq_true rfl) dX12_one_137 ⟨Nat.le_refl _, Nat.le_refl _⟩ (fun H locs hP hS => ?_)
        refine W.eq (g2 := F0 m 140 ls [.int q24]) rfl ?_
        refine lv_if_eq (tgt := 147) hx hb dX12_one_140 (by decide) (fun c25 => ?_) (fun c25 => ?_)
        · have hf := if_t hf c25
          refine lv_iconst (v := 0) hx hb dX12_one_147 (by decide) ?_
          exact g_iret hx hb hr hlk hP hS (ret1 hf) dX12_one_148
        · have hf := if_f hf c25
          refine lv_iconst (v := 1) hx hb dX12_one_143 (by decide) ?_
          refine lv_goto (tgt := 148) hx hb dX12_one_144 (by decide) ?_
          exact g_iret hx hb hr hlk hP hS (ret1 hf) dX12_one_148
      have hf := if_f hf c23
      refine lv_tableOut (tgt := 149) hx hb dX12_one_21 (by have n0 := ti_nz (z := 2) (by decide) c7; have n1 := ti_nz (z := 3) (by decide) c9; have n2 := ti_nz (z := 4) (by decide) c12; have n3 := ti_nz (z := 5) (by decide) c14; have n4 := ti_nz (z := 6) (by decide) c21; have n5 := ti_nz (z := 7) (by decide) c23; omega) (by decide) ?_
      refine lv_aload_n hx hb dX12_one_149 rfl (lv_at hl 0 rfl) ?_
      refine g_get (Cn := RX12) (T := TX12) (N := 21) (v := .ref (a 67)) (own := RX12) hx hb hown hts hK M_O rfl (fun _ hw => List.mem_cons_of_mem _ (u12_cls _ hw)) 0 (by decide) (List.mem_cons_of_mem _ (u12_0 _ (List.mem_of_getElem? (i := 5) rfl))) rfl rfl hP dX12_one_150 ?_
      refine lv_iload_n hx hb dX12_one_153 rfl (lv_at hl 1 rfl) ?_
      refine lv_iload_n hx hb dX12_one_154 rfl (lv_at hl 2 rfl) ?_
      obtain ⟨q5, hq5, hf⟩ := bind_s hf
      refine g_callS (As := [.int v1, .int v2]) (rest := [.ref (a 67)]) hx hb hml hown hts hK hN (m_X12_of l D a C ha h v1 v2  q5 hq5) (va_cwS 2 hts (gUS (u12_1 _ (List.mem_of_getElem? (i := 15) rfl)) (u12_1 _ (List.mem_of_getElem? (i := 16) rfl)) (u12_1 _ (List.mem_of_getElem? (i := 7) rfl)) (u12_1 _ (List.mem_of_getElem? (i := 3) rfl))) rfl rfl rfl kdX12_of.2 ⟨Nat.le_of_ble_eq_true rfl, Nat.le_of_ble_eq_true rfl⟩) hP hS hA rfl hl.1 rfl (Nat.le_of_ble_eq_true rfl) dX12_one_155 ⟨Nat.le_refl _, Nat.le_refl _⟩ (fun H locs hP hS => ?_)
      refine W.eq (g2 := F0 m 158 ls [.int q5, .ref (a 67)]) rfl ?_
      obtain ⟨c6, hf⟩ := gdi_s hf
      refine g_ial hx hb hK (⟨by decide, rfl⟩ : gAI 67 30) c6 hP dX12_one_158 ?_
      exact g_iret hx hb hr hlk hP hS (ret1 hf) dX12_one_159
    · have hf := if_t hf c4
      refine lv_iconst (v := (-1)) hx hb dX12_one_18 (by decide) ?_
      exact g_iret hx hb hr hlk hP hS (ret1 hf) dX12_one_19

def X12_wrongKept (h : HS) (v1 : Int32) : Option Int32 :=
    (X12_isShelf v1).bind fun q1 =>
    (if q1 = 0 then
    some (-1)
    else
    gdi v1 8 <|
    (if (aI h 76 v1.toNatClampNeg) = 0 then
    some (-11)
    else
    gdi v1 8 <|
    (if (aI h 76 v1.toNatClampNeg) = 2 then
    some (-12)
    else
    some 0)))
def uX12_wrongKept : List Cond := .code yX12_wrongKept cX12_wrongKept 2 (some .int) :: UU
def rmX12_wrongKept : Room := { frames := 2, cells := 0, slots := 0, locals := 42 }
theorem kdX12_wrongKept : yX12_wrongKept.cls = RX12 ∧ yX12_wrongKept.cls ≠ "java/lang/invoke/MethodHandle" ∧ yX12_wrongKept.cls ≠ "java/lang/invoke/VarHandle" ∧ (parseMethodDescriptor yX12_wrongKept.desc).map (fun d => d.parameters.length) = some 1 := by decide +kernel
set_option maxHeartbeats 4000000 in
set_option maxRecDepth 100000 in
theorem m_X12_wrongKept (l : Launch) (D : va_G) (a : Nat → Nat) (C : Nat → ClassId) (ha : ginj a) (h : HS) (v1 : Int32)  (r : Int32) (hf : X12_wrongKept h v1 = some r) : gM l yX12_wrongKept uX12_wrongKept rmX12_wrongKept D a C [.ref (a 66), .int v1] h (some (.int r)) h := by
  refine g_start (av := [.ref (a 66), .int v1]) (cc := cX12_wrongKept) (maxL := 2) (rt := (some .int)) (by decide) rfl (Nat.le_of_ble_eq_true rfl) ?_
  intro p e s m below meth c hx hb hr hml hown hlk hts hP hK hN ls hl
  have hA : ∀ q, gA a q → gA a q := fun _ q => q
  have hS : va_S (gA a) s.heap s.heap [] := va_S.rf
  have hl : lv_has ls 2 [(0, .ref (a 66)), (1, .int v1)] := hl
  unfold X12_wrongKept at hf
  refine lv_iload_n hx hb dX12_wrongKept_0 rfl (lv_at hl 1 rfl) ?_
  obtain ⟨q1, hq1, hf⟩ := bind_s hf
  refine g_callS (As := [.int v1]) (rest := []) hx hb hml hown hts hK hN (m_X12_isShelf l D a C ha h v1  q1 hq1) (va_cwS 1 hts (gUS (u12_4 _ (List.mem_of_getElem? (i := 11) rfl)) (u12_4 _ (List.mem_of_getElem? (i := 12) rfl)) (u12_1 _ (List.mem_of_getElem? (i := 7) rfl)) (u12_4 _ (List.mem_of_getElem? (i := 9) rfl))) rfl rfl rfl kdX12_isShelf.2 ⟨Nat.le_of_ble_eq_true rfl, Nat.le_of_ble_eq_true rfl⟩) hP hS hA rfl hl.1 rfl (Nat.le_of_ble_eq_true rfl) dX12_wrongKept_1 ⟨Nat.le_refl _, Nat.le_refl _⟩ (fun H locs hP hS => ?_)
  refine W.eq (g2 := F0 m 4 ls [.int q1]) rfl ?_
  refine lv_if_ne (tgt := 11) hx hb dX12_wrongKept_4 (by decide) (fun c2 => ?_) (fun c2 => ?_)
  · have hf := if_f hf c2
    refine lv_aload_n hx hb dX12_wrongKept_11 rfl (lv_at hl 0 rfl) ?_
    refine g_get (Cn := RX12) (T := TX12) (N := 21) (v := .ref (a 76)) (own := RX12) hx hb hown hts hK M_O rfl (fun _ hw => List.mem_cons_of_mem _ (u12_cls _ hw)) 14 (by decide) (List.mem_cons_of_mem _ (u12_0 _ (List.mem_of_getElem? (i := 15) rfl))) rfl rfl hP dX12_wrongKept_12 ?_
    refine lv_iload_n hx hb dX12_wrongKept_15 rfl (lv_at hl 1 rfl) ?_
    obtain ⟨c3, hf⟩ := gdi_s hf
    refine g_ial hx hb hK (⟨by decide, rfl⟩ : gAI 76 8) c3 hP dX12_wrongKept_16 ?_
    refine lv_if_ne (tgt := 25) hx hb dX12_wrongKept_17 (by decide) (fun c4 => ?_) (fun c4 => ?_)
    · have hf := if_f hf c4
      refine lv_aload_n hx hb dX12_wrongKept_25 rfl (lv_at hl 0 rfl) ?_
      refine g_get (Cn := RX12) (T := TX12) (N := 21) (v := .ref (a 76)) (own := RX12) hx hb hown hts hK M_O rfl (fun _ hw => List.mem_cons_of_mem _ (u12_cls _ hw)) 14 (by decide) (List.mem_cons_of_mem _ (u12_0 _ (List.mem_of_getElem? (i := 15) rfl))) rfl rfl hP dX12_wrongKept_26 ?_
      refine lv_iload_n hx hb dX12_wrongKept_29 rfl (lv_at hl 1 rfl) ?_
      obtain ⟨c5, hf⟩ := gdi_s hf
      refine g_ial hx hb hK (⟨by decide, rfl⟩ : gAI 76 8) c5 hP dX12_wrongKept_30 ?_
      refine lv_iconst (v := 2) hx hb dX12_wrongKept_31 (by decide) ?_
      refine lv_icmp_ne (tgt := 40) hx hb dX12_wrongKept_32 (by decide) (fun c6 => ?_) (fun c6 => ?_)
      · have hf := if_f hf c6
        refine lv_iconst (v := 0) hx hb dX12_wrongKept_40 (by decide) ?_
        exact g_iret hx hb hr hlk hP hS (ret1 hf) dX12_wrongKept_41
      · have hf := if_t hf c6
        refine lv_bipush (v := (-12)) hx hb dX12_wrongKept_35 (by decide) ?_
        refine lv_goto (tgt := 41) hx hb dX12_wrongKept_37 (by decide) ?_
        exact g_iret hx hb hr hlk hP hS (ret1 hf) dX12_wrongKept_41
    · have hf := if_t hf c4
      refine lv_bipush (v := (-11)) hx hb dX12_wrongKept_20 (by decide) ?_
      refine lv_goto (tgt := 41) hx hb dX12_wrongKept_22 (by decide) ?_
      exact g_iret hx hb hr hlk hP hS (ret1 hf) dX12_wrongKept_41
  · have hf := if_t hf c2
    refine lv_iconst (v := (-1)) hx hb dX12_wrongKept_7 (by decide) ?_
    refine lv_goto (tgt := 41) hx hb dX12_wrongKept_8 (by decide) ?_
    exact g_iret hx hb hr hlk hP hS (ret1 hf) dX12_wrongKept_41

def X12_comes (h : HS) (v1 : Int32) : Option (Int32 × HS) :=
    (X12_wrongKept h v1).bind fun q1 =>
    (if q1 = 0 then
    gdi 0 30 <|
    (if (aI h 67 (0 : Int32).toNatClampNeg) = 9 then
    some ((-2), h)
    else
    gdi v1 8 <|
    gdi v1 8 <|
    (X12_adds h (aI h 77 v1.toNatClampNeg) (aI h 78 v1.toNatClampNeg)).bind fun q7 =>
    gdi 0 30 <|
    some (((aI q7 67 (0 : Int32).toNatClampNeg) - 1), q7))
    else
    some (q1, h))
def uX12_comes : List Cond := .code yX12_comes cX12_comes 3 (some .int) :: UU
def rmX12_comes : Room := { frames := 3, cells := 0, slots := 0, locals := 63 }
theorem kdX12_comes : yX12_comes.cls = RX12 ∧ yX12_comes.cls ≠ "java/lang/invoke/MethodHandle" ∧ yX12_comes.cls ≠ "java/lang/invoke/VarHandle" ∧ (parseMethodDescriptor yX12_comes.desc).map (fun d => d.parameters.length) = some 1 := by decide +kernel
set_option maxHeartbeats 4000000 in
set_option maxRecDepth 100000 in
theorem m_X12_comes (l : Launch) (D : va_G) (a : Nat → Nat) (C : Nat → ClassId) (ha : ginj a) (h : HS) (v1 : Int32)  (r : Int32) (h' : HS) (hf : X12_comes h v1 = some (r, h')) : gM l yX12_comes uX12_comes rmX12_comes D a C [.ref (a 66), .int v1] h (some (.int r)) h' := by
  refine g_start (av := [.ref (a 66), .int v1]) (cc := cX12_comes) (maxL := 3) (rt := (some .int)) (by decide) rfl (Nat.le_of_ble_eq_true rfl) ?_
  intro p e s m below meth c hx hb hr hml hown hlk hts hP hK hN ls hl
  have hA : ∀ q, gA a q → gA a q := fun _ q => q
  have hS : va_S (gA a) s.heap s.heap [] := va_S.rf
  have hl : lv_has ls 3 [(0, .ref (a 66)), (1, .int v1)] := hl
  unfold X12_comes at hf
  refine lv_aload_n hx hb dX12_comes_0 rfl (lv_at hl 0 rfl) ?_
  refine lv_iload_n hx hb dX12_comes_1 rfl (lv_at hl 1 rfl) ?_
  obtain ⟨q1, hq1, hf⟩ := bind_s hf
  refine g_callV (As := [.int v1]) (rest := []) hx hb hml hown hts hK hN (m_X12_wrongKept l D a C ha h v1  q1 hq1) (cwV 1 hts (gUV (u12_5 _ (List.mem_of_getElem? (i := 16) rfl)) (u12_5 _ (List.mem_of_getElem? (i := 17) rfl)) (u12_5 _ (List.mem_of_getElem? (i := 18) rfl)) (u12_1 _ (List.mem_of_getElem? (i := 7) rfl)) (u12_5 _ (List.mem_of_getElem? (i := 14) rfl))) rfl rfl rfl kdX12_wrongKept ⟨Nat.le_of_ble_eq_true rfl, Nat.le_of_ble_eq_true rfl⟩) M_O rfl rfl hP hS hA rfl hl.1 rfl (Nat.le_of_ble_eq_true rfl) dX12_comes_2 ⟨Nat.le_refl _, Nat.le_refl _⟩ (fun H locs hP hS => ?_)
  refine W.eq (g2 := F0 m 5 ls [.int q1]) rfl ?_
  refine lv_istore_n (lv' := [(2, .int q1), (0, .ref (a 66)), (1, .int v1)]) hx hb dX12_comes_5 rfl hl (by decide) rfl (fun ls hl => ?_)
  refine lv_iload_n hx hb dX12_comes_6 rfl (lv_at hl 0 rfl) ?_
  refine lv_if_eq (tgt := 12) hx hb dX12_comes_7 (by decide) (fun c2 => ?_) (fun c2 => ?_)
  · have hf := if_t hf c2
    refine lv_aload_n hx hb dX12_comes_12 rfl (lv_at hl 1 rfl) ?_
    refine g_get (Cn := RX12) (T := TX12) (N := 21) (v := .ref (a 67)) (own := RX12) hx hb hown hts hK M_O rfl (fun _ hw => List.mem_cons_of_mem _ (u12_cls _ hw)) 0 (by decide) (List.mem_cons_of_mem _ (u12_0 _ (List.mem_of_getElem? (i := 5) rfl))) rfl rfl hP dX12_comes_13 ?_
    refine lv_iconst (v := 0) hx hb dX12_comes_16 (by decide) ?_
    obtain ⟨c3, hf⟩ := gdi_s hf
    refine g_ial hx hb hK (⟨by decide, rfl⟩ : gAI 67 30) c3 hP dX12_comes_17 ?_
    refine lv_bipush (v := 9) hx hb dX12_comes_18 (by decide) ?_
    refine lv_icmp_ne (tgt := 26) hx hb dX12_comes_20 (by decide) (fun c4 => ?_) (fun c4 => ?_)
    · have hf := if_f hf c4
      refine lv_aload_n hx hb dX12_comes_26 rfl (lv_at hl 1 rfl) ?_
      refine lv_aload_n hx hb dX12_comes_27 rfl (lv_at hl 1 rfl) ?_
      refine g_get (Cn := RX12) (T := TX12) (N := 21) (v := .ref (a 77)) (own := RX12) hx hb hown hts hK M_O rfl (fun _ hw => List.mem_cons_of_mem _ (u12_cls _ hw)) 15 (by decide) (List.mem_cons_of_mem _ (u12_0 _ (List.mem_of_getElem? (i := 16) rfl))) rfl rfl hP dX12_comes_28 ?_
      refine lv_iload_n hx hb dX12_comes_31 rfl (lv_at hl 2 rfl) ?_
      obtain ⟨c5, hf⟩ := gdi_s hf
      refine g_ial hx hb hK (⟨by decide, rfl⟩ : gAI 77 8) c5 hP dX12_comes_32 ?_
      refine lv_aload_n hx hb dX12_comes_33 rfl (lv_at hl 1 rfl) ?_
      refine g_get (Cn := RX12) (T := TX12) (N := 21) (v := .ref (a 78)) (own := RX12) hx hb hown hts hK M_O rfl (fun _ hw => List.mem_cons_of_mem _ (u12_cls _ hw)) 16 (by decide) (List.mem_cons_of_mem _ (u12_0 _ (List.mem_of_getElem? (i := 17) rfl))) rfl rfl hP dX12_comes_34 ?_
      refine lv_iload_n hx hb dX12_comes_37 rfl (lv_at hl 2 rfl) ?_
      obtain ⟨c6, hf⟩ := gdi_s hf
      refine g_ial hx hb hK (⟨by decide, rfl⟩ : gAI 78 8) c6 hP dX12_comes_38 ?_
      obtain ⟨q7, hq7, hf⟩ := bind_s hf
      refine g_callV (As := [.int (aI h 77 v1.toNatClampNeg), .int (aI h 78 v1.toNatClampNeg)]) (rest := []) hx hb hml hown hts hK hN (m_X12_adds l D a C ha h (aI h 77 v1.toNatClampNeg) (aI h 78 v1.toNatClampNeg)  q7 hq7) (cwV 2 hts (gUV (u12_3 _ (List.mem_of_getElem? (i := 16) rfl)) (u12_3 _ (List.mem_of_getElem? (i := 17) rfl)) (u12_3 _ (List.mem_of_getElem? (i := 18) rfl)) (u12_1 _ (List.mem_of_getElem? (i := 7) rfl)) (u12_3 _ (List.mem_of_getElem? (i := 15) rfl))) rfl rfl rfl kdX12_adds ⟨Nat.le_of_ble_eq_true rfl, Nat.le_of_ble_eq_true rfl⟩) M_O rfl rfl hP hS hA rfl hl.1 rfl (Nat.le_of_ble_eq_true rfl) dX12_comes_39 ⟨Nat.le_refl _, Nat.le_refl _⟩ (fun H locs hP hS => ?_)
      refine W.eq (g2 := F0 m 42 ls []) rfl ?_
      refine lv_aload_n hx hb dX12_comes_42 rfl (lv_at hl 1 rfl) ?_
      refine g_get (Cn := RX12) (T := TX12) (N := 21) (v := .ref (a 67)) (own := RX12) hx hb hown hts hK M_O rfl (fun _ hw => List.mem_cons_of_mem _ (u12_cls _ hw)) 0 (by decide) (List.mem_cons_of_mem _ (u12_0 _ (List.mem_of_getElem? (i := 5) rfl))) rfl rfl hP dX12_comes_43 ?_
      refine lv_iconst (v := 0) hx hb dX12_comes_46 (by decide) ?_
      obtain ⟨c8, hf⟩ := gdi_s hf
      refine g_ial hx hb hK (⟨by decide, rfl⟩ : gAI 67 30) c8 hP dX12_comes_47 ?_
      refine lv_iconst (v := 1) hx hb dX12_comes_48 (by decide) ?_
      refine lv_isub hx hb dX12_comes_49 ?_
      exact g_iretW hx hb hr hlk hP hS (ret2 hf) dX12_comes_50
    · have hf := if_t hf c4
      refine lv_bipush (v := (-2)) hx hb dX12_comes_23 (by decide) ?_
      exact g_iretW hx hb hr hlk hP hS (ret2 hf) dX12_comes_25
  · have hf := if_f hf c2
    refine lv_iload_n hx hb dX12_comes_10 rfl (lv_at hl 0 rfl) ?_
    exact g_iretW hx hb hr hlk hP hS (ret2 hf) dX12_comes_11

def X12_line (h : HS) (v1 : Int32) (v2 : Int32) : Option (Int32 × HS) :=
    (X12_areTwo h v1 v2).bind fun q1 =>
    (if q1 = 0 then
    some ((-1), h)
    else
    (X12_changesLine h 67 v1 v2).bind fun q3 =>
    (X12_of v1 2).bind fun q4 =>
    gdi q4 30 <|
    some ((((aI q3 67 q4.toNatClampNeg) >>> (v2 &&& 31)) &&& 1), q3))
def uX12_line : List Cond := .code yX12_line cX12_line 3 (some .int) :: UU
def rmX12_line : Room := { frames := 3, cells := 0, slots := 0, locals := 65 }
theorem kdX12_line : yX12_line.cls = RX12 ∧ yX12_line.cls ≠ "java/lang/invoke/MethodHandle" ∧ yX12_line.cls ≠ "java/lang/invoke/VarHandle" ∧ (parseMethodDescriptor yX12_line.desc).map (fun d => d.parameters.length) = some 2 := by decide +kernel
set_option maxHeartbeats 4000000 in
set_option maxRecDepth 100000 in
theorem m_X12_line (l : Launch) (D : va_G) (a : Nat → Nat) (C : Nat → ClassId) (ha : ginj a) (h : HS) (v1 : Int32) (v2 : Int32)  (r : Int32) (h' : HS) (hf : X12_line h v1 v2 = some (r, h')) : gM l yX12_line uX12_line rmX12_line D a C [.ref (a 66), .int v1, .int v2] h (some (.int r)) h' := by
  refine g_start (av := [.ref (a 66), .int v1, .int v2]) (cc := cX12_line) (maxL := 3) (rt := (some .int)) (by decide) rfl (Nat.le_of_ble_eq_true rfl) ?_
  intro p e s m below meth c hx hb hr hml hown hlk hts hP hK hN ls hl
  have hA : ∀ q, gA a q → gA a q := fun _ q => q
  have hS : va_S (gA a) s.heap s.heap [] := va_S.rf
  have hl : lv_has ls 3 [(0, .ref (a 66)), (1, .int v1), (2, .int v2)] := hl
  unfold X12_line at hf
  refine lv_aload_n hx hb dX12_line_0 rfl (lv_at hl 0 rfl) ?_
  refine lv_iload_n hx hb dX12_line_1 rfl (lv_at hl 1 rfl) ?_
  refine lv_iload_n hx hb dX12_line_2 rfl (lv_at hl 2 rfl) ?_
  obtain ⟨q1, hq1, hf⟩ := bind_s hf
  refine g_callV (As := [.int v1, .int v2]) (rest := []) hx hb hml hown hts hK hN (m_X12_areTwo l D a C ha h v1 v2  q1 hq1) (cwV 2 hts (gUV (u12_3 _ (List.mem_of_getElem? (i := 19) rfl)) (u12_4 _ (List.mem_of_getElem? (i := 0) rfl)) (u12_4 _ (List.mem_of_getElem? (i := 1) rfl)) (u12_1 _ (List.mem_of_getElem? (i := 7) rfl)) (u12_1 _ (List.mem_of_getElem? (i := 8) rfl))) rfl rfl rfl kdX12_areTwo ⟨Nat.le_of_ble_eq_true rfl, Nat.le_of_ble_eq_true rfl⟩) M_O rfl rfl hP hS hA rfl hl.1 rfl (Nat.le_of_ble_eq_true rfl) dX12_line_3 ⟨Nat.le_refl _, Nat.le_refl _⟩ (fun H locs hP hS => ?_)
  refine W.eq (g2 := F0 m 6 ls [.int q1]) rfl ?_
  refine lv_if_ne (tgt := 11) hx hb dX12_line_6 (by decide) (fun c2 => ?_) (fun c2 => ?_)
  · have hf := if_f hf c2
    refine lv_aload_n hx hb dX12_line_11 rfl (lv_at hl 0 rfl) ?_
    refine g_get (Cn := RX12) (T := TX12) (N := 21) (v := .ref (a 67)) (own := RX12) hx hb hown hts hK M_O rfl (fun _ hw => List.mem_cons_of_mem _ (u12_cls _ hw)) 0 (by decide) (List.mem_cons_of_mem _ (u12_0 _ (List.mem_of_getElem? (i := 5) rfl))) rfl rfl hP dX12_line_12 ?_
    refine lv_iload_n hx hb dX12_line_15 rfl (lv_at hl 1 rfl) ?_
    refine lv_iload_n hx hb dX12_line_16 rfl (lv_at hl 2 rfl) ?_
    obtain ⟨q3, hq3, hf⟩ := bind_s hf
    refine g_callS (As := [.ref (a 67), .int v1, .int v2]) (rest := []) hx hb hml hown hts hK hN (m_X12_changesLine l D a C ha h 67 v1 v2 (Or.inl rfl) q3 hq3) (va_cwS 3 hts (gUS (u12_4 _ (List.mem_of_getElem? (i := 2) rfl)) (u12_4 _ (List.mem_of_getElem? (i := 3) rfl)) (u12_1 _ (List.mem_of_getElem? (i := 7) rfl)) (u12_3 _ (List.mem_of_getElem? (i := 0) rfl))) rfl rfl rfl kdX12_changesLine.2 ⟨Nat.le_of_ble_eq_true rfl, Nat.le_of_ble_eq_true rfl⟩) hP hS hA rfl hl.1 rfl (Nat.le_of_ble_eq_true rfl) dX12_line_17 ⟨Nat.le_refl _, Nat.le_refl _⟩ (fun H locs hP hS => ?_)
    refine W.eq (g2 := F0 m 20 ls []) rfl ?_
    refine lv_aload_n hx hb dX12_line_20 rfl (lv_at hl 0 rfl) ?_
    refine g_get (Cn := RX12) (T := TX12) (N := 21) (v := .ref (a 67)) (own := RX12) hx hb hown hts hK M_O rfl (fun _ hw => List.mem_cons_of_mem _ (u12_cls _ hw)) 0 (by decide) (List.mem_cons_of_mem _ (u12_0 _ (List.mem_of_getElem? (i := 5) rfl))) rfl rfl hP dX12_line_21 ?_
    refine lv_iload_n hx hb dX12_line_24 rfl (lv_at hl 1 rfl) ?_
    refine lv_iconst (v := 2) hx hb dX12_line_25 (by decide) ?_
    obtain ⟨q4, hq4, hf⟩ := bind_s hf
    refine g_callS (As := [.int v1, .int 2]) (rest := [.ref (a 67)]) hx hb hml hown hts hK hN (m_X12_of l D a C ha q3 v1 2  q4 hq4) (va_cwS 2 hts (gUS (u12_1 _ (List.mem_of_getElem? (i := 15) rfl)) (u12_1 _ (List.mem_of_getElem? (i := 16) rfl)) (u12_1 _ (List.mem_of_getElem? (i := 7) rfl)) (u12_1 _ (List.mem_of_getElem? (i := 3) rfl))) rfl rfl rfl kdX12_of.2 ⟨Nat.le_of_ble_eq_true rfl, Nat.le_of_ble_eq_true rfl⟩) hP hS hA rfl hl.1 rfl (Nat.le_of_ble_eq_true rfl) dX12_line_26 ⟨Nat.le_refl _, Nat.le_refl _⟩ (fun H locs hP hS => ?_)
    refine W.eq (g2 := F0 m 29 ls [.int q4, .ref (a 67)]) rfl ?_
    obtain ⟨c5, hf⟩ := gdi_s hf
    refine g_ial hx hb hK (⟨by decide, rfl⟩ : gAI 67 30) c5 hP dX12_line_29 ?_
    refine lv_iload_n hx hb dX12_line_30 rfl (lv_at hl 2 rfl) ?_
    refine lv_ishr hx hb dX12_line_31 ?_
    refine lv_iconst (v := 1) hx hb dX12_line_32 (by decide) ?_
    refine lv_iand hx hb dX12_line_33 ?_
    exact g_iretW hx hb hr hlk hP hS (ret2 hf) dX12_line_34
  · have hf := if_t hf c2
    refine lv_iconst (v := (-1)) hx hb dX12_line_9 (by decide) ?_
    exact g_iretW hx hb hr hlk hP hS (ret2 hf) dX12_line_10

def X12_told (h : HS) (v1 : Int32) : Option (Int32 × HS) :=
    (X12_isOne h v1).bind fun q1 =>
    (if q1 = 0 then
    some ((-1), h)
    else
    (X12_isDeaf h 67 v1).bind fun q3 =>
    (if q3 = 0 then
    gdi 2 30 <|
    gdi 2 30 <|
    nm (sA h 67 (upd (aI h 67) (2 : Int32).toNatClampNeg ((aI h 67 (2 : Int32).toNatClampNeg) ^^^ ((1 : Int32) <<< (v1 &&& 31))))) fun h6 =>
    gdi 2 30 <|
    some ((((aI h6 67 (2 : Int32).toNatClampNeg) >>> (v1 &&& 31)) &&& 1), h6)
    else
    some ((-3), h)))
def uX12_told : List Cond := .code yX12_told cX12_told 2 (some .int) :: UU
def rmX12_told : Room := { frames := 2, cells := 0, slots := 0, locals := 43 }
theorem kdX12_told : yX12_told.cls = RX12 ∧ yX12_told.cls ≠ "java/lang/invoke/MethodHandle" ∧ yX12_told.cls ≠ "java/lang/invoke/VarHandle" ∧ (parseMethodDescriptor yX12_told.desc).map (fun d => d.parameters.length) = some 1 := by decide +kernel
set_option maxHeartbeats 4000000 in
set_option maxRecDepth 100000 in
theorem m_X12_told (l : Launch) (D : va_G) (a : Nat → Nat) (C : Nat → ClassId) (ha : ginj a) (h : HS) (v1 : Int32)  (r : Int32) (h' : HS) (hf : X12_told h v1 = some (r, h')) : gM l yX12_told uX12_told rmX12_told D a C [.ref (a 66), .int v1] h (some (.int r)) h' := by
  refine g_start (av := [.ref (a 66), .int v1]) (cc := cX12_told) (maxL := 2) (rt := (some .int)) (by decide) rfl (Nat.le_of_ble_eq_true rfl) ?_
  intro p e s m below meth c hx hb hr hml hown hlk hts hP hK hN ls hl
  have hA : ∀ q, gA a q → gA a q := fun _ q => q
  have hS : va_S (gA a) s.heap s.heap [] := va_S.rf
  have hl : lv_has ls 2 [(0, .ref (a 66)), (1, .int v1)] := hl
  unfold X12_told at hf
  refine lv_aload_n hx hb dX12_told_0 rfl (lv_at hl 0 rfl) ?_
  refine lv_iload_n hx hb dX12_told_1 rfl (lv_at hl 1 rfl) ?_
  obtain ⟨q1, hq1, hf⟩ := bind_s hf
  refine g_callV (As := [.int v1]) (rest := []) hx hb hml hown hts hK hN (m_X12_isOne l D a C ha h v1  q1 hq1) (cwV 1 hts (gUV (u12_1 _ (List.mem_of_getElem? (i := 9) rfl)) (u12_1 _ (List.mem_of_getElem? (i := 10) rfl)) (u12_1 _ (List.mem_of_getElem? (i := 11) rfl)) (u12_1 _ (List.mem_of_getElem? (i := 7) rfl)) (u12_1 _ (List.mem_of_getElem? (i := 4) rfl))) rfl rfl rfl kdX12_isOne ⟨Nat.le_of_ble_eq_true rfl, Nat.le_of_ble_eq_true rfl⟩) M_O rfl rfl hP hS hA rfl hl.1 rfl (Nat.le_of_ble_eq_true rfl) dX12_told_2 ⟨Nat.le_refl _, Nat.le_refl _⟩ (fun H locs hP hS => ?_)
  refine W.eq (g2 := F0 m 5 ls [.int q1]) rfl ?_
  refine lv_if_ne (tgt := 10) hx hb dX12_told_5 (by decide) (fun c2 => ?_) (fun c2 => ?_)
  · have hf := if_f hf c2
    refine lv_aload_n hx hb dX12_told_10 rfl (lv_at hl 0 rfl) ?_
    refine g_get (Cn := RX12) (T := TX12) (N := 21) (v := .ref (a 67)) (own := RX12) hx hb hown hts hK M_O rfl (fun _ hw => List.mem_cons_of_mem _ (u12_cls _ hw)) 0 (by decide) (List.mem_cons_of_mem _ (u12_0 _ (List.mem_of_getElem? (i := 5) rfl))) rfl rfl hP dX12_told_11 ?_
    refine lv_iload_n hx hb dX12_told_14 rfl (lv_at hl 1 rfl) ?_
    obtain ⟨q3, hq3, hf⟩ := bind_s hf
    refine g_callS (As := [.ref (a 67), .int v1]) (rest := []) hx hb hml hown hts hK hN (m_X12_isDeaf l D a C ha h 67 v1 (Or.inl rfl) q3 hq3) (va_cwS 2 hts (gUS (u12_2 _ (List.mem_of_getElem? (i := 10) rfl)) (u12_2 _ (List.mem_of_getElem? (i := 11) rfl)) (u12_1 _ (List.mem_of_getElem? (i := 7) rfl)) (u12_1 _ (List.mem_of_getElem? (i := 19) rfl))) rfl rfl rfl kdX12_isDeaf.2 ⟨Nat.le_of_ble_eq_true rfl, Nat.le_of_ble_eq_true rfl⟩) hP hS hA rfl hl.1 rfl (Nat.le_of_ble_eq_true rfl) dX12_told_15 ⟨Nat.le_refl _, Nat.le_refl _⟩ (fun H locs hP hS => ?_)
    refine W.eq (g2 := F0 m 18 ls [.int q3]) rfl ?_
    refine lv_if_eq (tgt := 24) hx hb dX12_told_18 (by decide) (fun c4 => ?_) (fun c4 => ?_)
    · have hf := if_t hf c4
      refine lv_aload_n hx hb dX12_told_24 rfl (lv_at hl 0 rfl) ?_
      refine g_get (Cn := RX12) (T := TX12) (N := 21) (v := .ref (a 67)) (own := RX12) hx hb hown hts hK M_O rfl (fun _ hw => List.mem_cons_of_mem _ (u12_cls _ hw)) 0 (by decide) (List.mem_cons_of_mem _ (u12_0 _ (List.mem_of_getElem? (i := 5) rfl))) rfl rfl hP dX12_told_25 ?_
      refine lv_iconst (v := 2) hx hb dX12_told_28 (by decide) ?_
      refine lv_dup2_11 hx hb dX12_told_29 rfl rfl ?_
      obtain ⟨c5, hf⟩ := gdi_s hf
      refine g_ial hx hb hK (⟨by decide, rfl⟩ : gAI 67 30) c5 hP dX12_told_30 ?_
      refine lv_iconst (v := 1) hx hb dX12_told_31 (by decide) ?_
      refine lv_iload_n hx hb dX12_told_32 rfl (lv_at hl 1 rfl) ?_
      refine lv_ishl hx hb dX12_told_33 ?_
      refine lv_ixor hx hb dX12_told_34 ?_
      obtain ⟨c7, hf⟩ := gdi_s hf
      refine g_ias hx hb hK ha hA (⟨by decide, rfl⟩ : gAI 67 30) c7 hP hS dX12_told_35 (fun H locs hP hS => ?_)
      obtain ⟨h6, eh6⟩ : ∃ x, x = (sA h 67 (upd (aI h 67) (2 : Int32).toNatClampNeg ((aI h 67 (2 : Int32).toNatClampNeg) ^^^ ((1 : Int32) <<< (v1 &&& 31))))) := ⟨_, rfl⟩
      rw [← eh6] at hP
      have hf := nm_s hf eh6
      refine lv_aload_n hx hb dX12_told_36 rfl (lv_at hl 0 rfl) ?_
      refine g_get (Cn := RX12) (T := TX12) (N := 21) (v := .ref (a 67)) (own := RX12) hx hb hown hts hK M_O rfl (fun _ hw => List.mem_cons_of_mem _ (u12_cls _ hw)) 0 (by decide) (List.mem_cons_of_mem _ (u12_0 _ (List.mem_of_getElem? (i := 5) rfl))) rfl rfl hP dX12_told_37 ?_
      refine lv_iconst (v := 2) hx hb dX12_told_40 (by decide) ?_
      obtain ⟨c8, hf⟩ := gdi_s hf
      refine g_ial hx hb hK (⟨by decide, rfl⟩ : gAI 67 30) c8 hP dX12_told_41 ?_
      refine lv_iload_n hx hb dX12_told_42 rfl (lv_at hl 1 rfl) ?_
      refine lv_ishr hx hb dX12_told_43 ?_
      refine lv_iconst (v := 1) hx hb dX12_told_44 (by decide) ?_
      refine lv_iand hx hb dX12_told_45 ?_
      exact g_iretW hx hb hr hlk hP hS (ret2 hf) dX12_told_46
    · have hf := if_f hf c4
      refine lv_bipush (v := (-3)) hx hb dX12_told_21 (by decide) ?_
      exact g_iretW hx hb hr hlk hP hS (ret2 hf) dX12_told_23
  · have hf := if_t hf c2
    refine lv_iconst (v := (-1)) hx hb dX12_told_8 (by decide) ?_
    exact g_iretW hx hb hr hlk hP hS (ret2 hf) dX12_told_9

def X12_days (h : HS) (v1 : Int32) : Option (Int32 × HS) :=
    (X12_isIn v1 1 60).bind fun q1 =>
    (if q1 = 0 then
    some ((-1), h)
    else
    gdi 1 30 <|
    (if ((aI h 67 (1 : Int32).toNatClampNeg) + v1) ≤ 999 then
    (X12_daysOn h 67 v1).bind fun q5 =>
    gdi 2 30 <|
    (X12_bits (aI q5 67 (2 : Int32).toNatClampNeg)).bind fun q7 =>
    some (q7, q5)
    else
    some ((-3), h)))
def uX12_days : List Cond := .code yX12_days cX12_days 2 (some .int) :: UU
def rmX12_days : Room := { frames := 6, cells := 0, slots := 0, locals := 133 }
theorem kdX12_days : yX12_days.cls = RX12 ∧ yX12_days.cls ≠ "java/lang/invoke/MethodHandle" ∧ yX12_days.cls ≠ "java/lang/invoke/VarHandle" ∧ (parseMethodDescriptor yX12_days.desc).map (fun d => d.parameters.length) = some 1 := by decide +kernel
set_option maxHeartbeats 4000000 in
set_option maxRecDepth 100000 in
theorem m_X12_days (l : Launch) (D : va_G) (a : Nat → Nat) (C : Nat → ClassId) (ha : ginj a) (h : HS) (v1 : Int32)  (r : Int32) (h' : HS) (hf : X12_days h v1 = some (r, h')) : gM l yX12_days uX12_days rmX12_days D a C [.ref (a 66), .int v1] h (some (.int r)) h' := by
  refine g_start (av := [.ref (a 66), .int v1]) (cc := cX12_days) (maxL := 2) (rt := (some .int)) (by decide) rfl (Nat.le_of_ble_eq_true rfl) ?_
  intro p e s m below meth c hx hb hr hml hown hlk hts hP hK hN ls hl
  have hA : ∀ q, gA a q → gA a q := fun _ q => q
  have hS : va_S (gA a) s.heap s.heap [] := va_S.rf
  have hl : lv_has ls 2 [(0, .ref (a 66)), (1, .int v1)] := hl
  unfold X12_days at hf
  refine lv_iload_n hx hb dX12_days_0 rfl (lv_at hl 1 rfl) ?_
  refine lv_iconst (v := 1) hx hb dX12_days_1 (by decide) ?_
  refine lv_bipush (v := 60) hx hb dX12_days_2 (by decide) ?_
  obtain ⟨q1, hq1, hf⟩ := bind_s hf
  refine g_callS (As := [.int v1, .int 1, .int 60]) (rest := []) hx hb hml hown hts hK hN (m_X12_isIn l D a C ha h v1 1 60  q1 hq1) (va_cwS 3 hts (gUS (u12_1 _ (List.mem_of_getElem? (i := 5) rfl)) (u12_1 _ (List.mem_of_getElem? (i := 6) rfl)) (u12_1 _ (List.mem_of_getElem? (i := 7) rfl)) (u12_1 _ (List.mem_of_getElem? (i := 1) rfl))) rfl rfl rfl kdX12_isIn.2 ⟨Nat.le_of_ble_eq_true rfl, Nat.le_of_ble_eq_true rfl⟩) hP hS hA rfl hl.1 rfl (Nat.le_of_ble_eq_true rfl) dX12_days_4 ⟨Nat.le_refl _, Nat.le_refl _⟩ (fun H locs hP hS => ?_)
  refine W.eq (g2 := F0 m 7 ls [.int q1]) rfl ?_
  refine lv_if_ne (tgt := 12) hx hb dX12_days_7 (by decide) (fun c2 => ?_) (fun c2 => ?_)
  · have hf := if_f hf c2
    refine lv_aload_n hx hb dX12_days_12 rfl (lv_at hl 0 rfl) ?_
    refine g_get (Cn := RX12) (T := TX12) (N := 21) (v := .ref (a 67)) (own := RX12) hx hb hown hts hK M_O rfl (fun _ hw => List.mem_cons_of_mem _ (u12_cls _ hw)) 0 (by decide) (List.mem_cons_of_mem _ (u12_0 _ (List.mem_of_getElem? (i := 5) rfl))) rfl rfl hP dX12_days_13 ?_
    refine lv_iconst (v := 1) hx hb dX12_days_16 (by decide) ?_
    obtain ⟨c3, hf⟩ := gdi_s hf
    refine g_ial hx hb hK (⟨by decide, rfl⟩ : gAI 67 30) c3 hP dX12_days_17 ?_
    refine lv_iload_n hx hb dX12_days_18 rfl (lv_at hl 1 rfl) ?_
    refine lv_iadd hx hb dX12_days_19 ?_
    refine lv_sipush (v := 999) hx hb dX12_days_20 (by decide) ?_
    refine lv_icmp_le (tgt := 29) hx hb dX12_days_23 (by decide) (fun c4 => ?_) (fun c4 => ?_)
    · have hf := if_t hf c4
      refine lv_aload_n hx hb dX12_days_29 rfl (lv_at hl 0 rfl) ?_
      refine g_get (Cn := RX12) (T := TX12) (N := 21) (v := .ref (a 67)) (own := RX12) hx hb hown hts hK M_O rfl (fun _ hw => List.mem_cons_of_mem _ (u12_cls _ hw)) 0 (by decide) (List.mem_cons_of_mem _ (u12_0 _ (List.mem_of_getElem? (i := 5) rfl))) rfl rfl hP dX12_days_30 ?_
      refine lv_iload_n hx hb dX12_days_33 rfl (lv_at hl 1 rfl) ?_
      obtain ⟨q5, hq5, hf⟩ := bind_s hf
      refine g_callS (As := [.ref (a 67), .int v1]) (rest := []) hx hb hml hown hts hK hN (m_X12_daysOn l D a C ha h 67 v1 (Or.inl rfl) q5 hq5) (va_cwS 2 hts (gUS (u12_4 _ (List.mem_of_getElem? (i := 6) rfl)) (u12_4 _ (List.mem_of_getElem? (i := 7) rfl)) (u12_1 _ (List.mem_of_getElem? (i := 7) rfl)) (u12_2 _ (List.mem_of_getElem? (i := 19) rfl))) rfl rfl rfl kdX12_daysOn.2 ⟨Nat.le_of_ble_eq_true rfl, Nat.le_of_ble_eq_true rfl⟩) hP hS hA rfl hl.1 rfl (Nat.le_of_ble_eq_true rfl) dX12_days_34 ⟨Nat.le_refl _, Nat.le_refl _⟩ (fun H locs hP hS => ?_)
      refine W.eq (g2 := F0 m 37 ls []) rfl ?_
      refine lv_aload_n hx hb dX12_days_37 rfl (lv_at hl 0 rfl) ?_
      refine g_get (Cn := RX12) (T := TX12) (N := 21) (v := .ref (a 67)) (own := RX12) hx hb hown hts hK M_O rfl (fun _ hw => List.mem_cons_of_mem _ (u12_cls _ hw)) 0 (by decide) (List.mem_cons_of_mem _ (u12_0 _ (List.mem_of_getElem? (i := 5) rfl))) rfl rfl hP dX12_days_38 ?_
      refine lv_iconst (v := 2) hx hb dX12_days_41 (by decide) ?_
      obtain ⟨c6, hf⟩ := gdi_s hf
      refine g_ial hx hb hK (⟨by decide, rfl⟩ : gAI 67 30) c6 hP dX12_days_42 ?_
      obtain ⟨q7, hq7, hf⟩ := bind_s hf
      refine g_callS (As := [.int (aI q5 67 (2 : Int32).toNatClampNeg)]) (rest := []) hx hb hml hown hts hK hN (m_X12_bits l D a C ha q5 (aI q5 67 (2 : Int32).toNatClampNeg)  q7 hq7) (va_cwS 1 hts (gUS (u12_1 _ (List.mem_of_getElem? (i := 17) rfl)) (u12_1 _ (List.mem_of_getElem? (i := 18) rfl)) (u12_1 _ (List.mem_of_getElem? (i := 7) rfl)) (u12_1 _ (List.mem_of_getElem? (i := 13) rfl))) rfl rfl rfl kdX12_bits.2 ⟨Nat.le_of_ble_eq_true rfl, Nat.le_of_ble_eq_true rfl⟩) hP hS hA rfl hl.1 rfl (Nat.le_of_ble_eq_true rfl) dX12_days_43 ⟨Nat.le_refl _, Nat.le_refl _⟩ (fun H locs hP hS => ?_)
      refine W.eq (g2 := F0 m 46 ls [.int q7]) rfl ?_
      exact g_iretW hx hb hr hlk hP hS (ret2 hf) dX12_days_46
    · have hf := if_f hf c4
      refine lv_bipush (v := (-3)) hx hb dX12_days_26 (by decide) ?_
      exact g_iretW hx hb hr hlk hP hS (ret2 hf) dX12_days_28
  · have hf := if_t hf c2
    refine lv_iconst (v := (-1)) hx hb dX12_days_10 (by decide) ?_
    exact g_iretW hx hb hr hlk hP hS (ret2 hf) dX12_days_11

def X12_gcd_B6 (v0 : Int64) (v2 : Int64) : Nat → Int64 → Int64 → Option Int64
  | 0, _, _ => none
  | fu + 1, v4, v6 =>
    (if (lg_cmp v6 0) = 0 then
    some v4
    else
    gdzL v6 <|
    nm (v4 - v4 / v6 * v6) fun x3 =>
    (X12_gcd_B6 v0 v2 fu) v6 x3)
def X12_gcd (v0 : Int64) (v2 : Int64) : Option Int64 :=
    X12_gcd_B6 v0 v2 FU v0 v2
def uX12_gcd : List Cond := .code yX12_gcd cX12_gcd 10 (some .long) :: UU
def rmX12_gcd : Room := { frames := 0, cells := 0, slots := 0, locals := 0 }
theorem kdX12_gcd : yX12_gcd.cls = RX12 ∧ yX12_gcd.cls ≠ "java/lang/invoke/MethodHandle" ∧ yX12_gcd.cls ≠ "java/lang/invoke/VarHandle" ∧ (parseMethodDescriptor yX12_gcd.desc).map (fun d => d.parameters.length) = some 2 := by decide +kernel
set_option maxHeartbeats 4000000 in
set_option maxRecDepth 100000 in
theorem m_X12_gcd (l : Launch) (D : va_G) (a : Nat → Nat) (C : Nat → ClassId) (ha : ginj a) (h : HS) (v0 : Int64) (v2 : Int64)  (r : Int64) (hf : X12_gcd v0 v2 = some r) : gM l yX12_gcd uX12_gcd rmX12_gcd D a C [.long v0, .long v2] h (some (.long r)) h := by
  refine g_start (av := [.long v0, .long v2]) (cc := cX12_gcd) (maxL := 10) (rt := (some .long)) (by decide) rfl (Nat.le_of_ble_eq_true rfl) ?_
  intro p e s m below meth c hx hb hr hml hown hlk hts hP hK hN ls hl
  have hA : ∀ q, gA a q → gA a q := fun _ q => q
  have hS : va_S (gA a) s.heap s.heap [] := va_S.rf
  have hl : lv_has ls 10 [(0, .long v0), (2, .long v2)] := hl
  have J6 : ∀ (fu : Nat) (v4 : Int64) (v6 : Int64), X12_gcd_B6 v0 v2 fu v4 v6 = some r → gG p l e (headSpec uX12_gcd rmX12_gcd).room s m ([.long v0, .long v2] : List Value).toArray below meth c (MQ below (gQ (some (.long r)) D a C h) ([.long v0, .long v2] : List Value).toArray s 0 0 (gA a)) D a C 10 h 6 [(4, .long v4), (6, .long v6)] [] := by
    intro fu
    induction fu with
    | zero => intro v4 v6 hf; exact absurd hf (by simp [X12_gcd_B6])
    | succ fu ih =>
      intro v4 v6 hf H locs ls hP hS hl
      rw [X12_gcd_B6] at hf
      refine lv_lload hx hb dX12_gcd_6 (lv_at hl 1 rfl) ?_
      refine lv_lconst (v := 0) hx hb dX12_gcd_8 (by decide) ?_
      refine W.lcmp hx hb dX12_gcd_9 ?_
      refine lv_if_eq (tgt := 31) hx hb dX12_gcd_10 (by decide) (fun c1 => ?_) (fun c1 => ?_)
      · have hf := if_t hf c1
        refine lv_lload hx hb dX12_gcd_31 (lv_at hl 0 rfl) ?_
        exact g_lret hx hb hr hlk hP hS (ret1 hf) dX12_gcd_33
      · have hf := if_f hf c1
        refine lv_lload hx hb dX12_gcd_13 (lv_at hl 0 rfl) ?_
        refine lv_lload hx hb dX12_gcd_15 (lv_at hl 1 rfl) ?_
        obtain ⟨c2, hf⟩ := gdzL_s hf
        refine lv_lrem hx hb dX12_gcd_17 c2 ?_
        refine lv_topl (fun x3 ex3 => ?_)
        have hf := nm_s hf ex3
        refine lv_lstore (lv' := [(8, .long x3), (4, .long v4), (6, .long v6)]) hx hb dX12_gcd_18 hl (by decide) rfl (fun ls hl => ?_)
        refine lv_lload hx hb dX12_gcd_20 (lv_at hl 2 rfl) ?_
        refine lv_lstore (lv' := [(4, .long v6), (8, .long x3), (6, .long v6)]) hx hb dX12_gcd_22 hl (by decide) rfl (fun ls hl => ?_)
        refine lv_lload hx hb dX12_gcd_24 (lv_at hl 1 rfl) ?_
        refine lv_lstore (lv' := [(6, .long x3), (4, .long v6), (8, .long x3)]) hx hb dX12_gcd_26 hl (by decide) rfl (fun ls hl => ?_)
        refine lv_goto (tgt := 6) hx hb dX12_gcd_28 (by decide) ?_
        exact ih v6 x3 hf H locs ls hP hS (lv_sub hl [1, 0] rfl)
  unfold X12_gcd at hf
  suffices hh : ∀ (H : Heap) (locs : List Loc), va_P D vwCl (gw a C h) H → va_S (gA a) s.heap H locs → W p l e (headSpec uX12_gcd rmX12_gcd).room s m ([.long v0, .long v2] : List Value).toArray below meth c H locs 0 0 (MQ below (gQ (some (.long r)) D a C h) ([.long v0, .long v2] : List Value).toArray s 0 0 (gA a)) (F0 m 0 ls []) from hh _ _ hP hS
  intro H locs hP hS
  refine lv_lload_n hx hb dX12_gcd_0 rfl (lv_at hl 0 rfl) ?_
  refine lv_lstore (lv' := [(4, .long v0), (0, .long v0), (2, .long v2)]) hx hb dX12_gcd_1 hl (by decide) rfl (fun ls hl => ?_)
  refine lv_lload_n hx hb dX12_gcd_3 rfl (lv_at hl 2 rfl) ?_
  refine lv_lstore (lv' := [(6, .long v2), (4, .long v0), (0, .long v0), (2, .long v2)]) hx hb dX12_gcd_4 hl (by decide) rfl (fun ls hl => ?_)
  exact J6 FU v0 v2 hf H locs ls hP hS (lv_sub hl [1, 0] rfl)

def X12_partOf_B20 (v0 : Int64) (v2 : Int64) (v4 : Int32) (s0 : Int64) : Option Int64 :=
    (X12_gcd v0 v2).bind fun q3 =>
    gdzL q3 <|
    some (s0 / q3)
def X12_partOf (v0 : Int64) (v2 : Int64) (v4 : Int32) : Option Int64 :=
    (if (lg_cmp v0 0) = 0 then
    some (v4.toInt64)
    else
    (if v4 = 0 then
    X12_partOf_B20 v0 v2 v4 v0
    else
    X12_partOf_B20 v0 v2 v4 v2))
def uX12_partOf : List Cond := .code yX12_partOf cX12_partOf 5 (some .long) :: UU
def rmX12_partOf : Room := { frames := 1, cells := 0, slots := 0, locals := 29 }
theorem kdX12_partOf : yX12_partOf.cls = RX12 ∧ yX12_partOf.cls ≠ "java/lang/invoke/MethodHandle" ∧ yX12_partOf.cls ≠ "java/lang/invoke/VarHandle" ∧ (parseMethodDescriptor yX12_partOf.desc).map (fun d => d.parameters.length) = some 3 := by decide +kernel
set_option maxHeartbeats 4000000 in
set_option maxRecDepth 100000 in
theorem m_X12_partOf (l : Launch) (D : va_G) (a : Nat → Nat) (C : Nat → ClassId) (ha : ginj a) (h : HS) (v0 : Int64) (v2 : Int64) (v4 : Int32)  (r : Int64) (hf : X12_partOf v0 v2 v4 = some r) : gM l yX12_partOf uX12_partOf rmX12_partOf D a C [.long v0, .long v2, .int v4] h (some (.long r)) h := by
  refine g_start (av := [.long v0, .long v2, .int v4]) (cc := cX12_partOf) (maxL := 5) (rt := (some .long)) (by decide) rfl (Nat.le_of_ble_eq_true rfl) ?_
  intro p e s m below meth c hx hb hr hml hown hlk hts hP hK hN ls hl
  have hA : ∀ q, gA a q → gA a q := fun _ q => q
  have hS : va_S (gA a) s.heap s.heap [] := va_S.rf
  have hl : lv_has ls 5 [(0, .long v0), (2, .long v2), (4, .int v4)] := hl
  have J20 : ∀ (s0 : Int64) (_ : X12_partOf_B20 v0 v2 v4 s0 = some r), gG p l e (headSpec uX12_partOf rmX12_partOf).room s m ([.long v0, .long v2, .int v4] : List Value).toArray below meth c (MQ below (gQ (some (.long r)) D a C h) ([.long v0, .long v2, .int v4] : List Value).toArray s 0 0 (gA a)) D a C 5 h 20 [(0, .long v0), (2, .long v2)] [.long s0] := by
    intro s0 hf H locs ls hP hS hl
    unfold X12_partOf_B20 at hf
    refine lv_lload_n hx hb dX12_partOf_20 rfl (lv_at hl 0 rfl) ?_
    refine lv_lload_n hx hb dX12_partOf_21 rfl (lv_at hl 1 rfl) ?_
    obtain ⟨q3, hq3, hf⟩ := bind_s hf
    refine g_callS (As := [.long v0, .long v2]) (rest := [.long s0]) hx hb hml hown hts hK hN (m_X12_gcd l D a C ha h v0 v2  q3 hq3) (va_cwS 2 hts (gUS (u12_6 _ (List.mem_of_getElem? (i := 4) rfl)) (u12_6 _ (List.mem_of_getElem? (i := 5) rfl)) (u12_1 _ (List.mem_of_getElem? (i := 7) rfl)) (u12_6 _ (List.mem_of_getElem? (i := 2) rfl))) rfl rfl rfl kdX12_gcd.2 ⟨Nat.le_of_ble_eq_true rfl, Nat.le_of_ble_eq_true rfl⟩) hP hS hA rfl hl.1 rfl (Nat.le_of_ble_eq_true rfl) dX12_partOf_22 ⟨Nat.le_refl _, Nat.le_refl _⟩ (fun H locs hP hS => ?_)
    refine W.eq (g2 := F0 m 25 ls [.long q3, .long s0]) rfl ?_
    obtain ⟨c4, hf⟩ := gdzL_s hf
    refine lv_ldiv hx hb dX12_partOf_25 c4 ?_
    exact g_lret hx hb hr hlk hP hS (ret1 hf) dX12_partOf_26
  unfold X12_partOf at hf
  suffices hh : ∀ (H : Heap) (locs : List Loc), va_P D vwCl (gw a C h) H → va_S (gA a) s.heap H locs → W p l e (headSpec uX12_partOf rmX12_partOf).room s m ([.long v0, .long v2, .int v4] : List Value).toArray below meth c H locs 0 0 (MQ below (gQ (some (.long r)) D a C h) ([.long v0, .long v2, .int v4] : List Value).toArray s 0 0 (gA a)) (F0 m 0 ls []) from hh _ _ hP hS
  intro H locs hP hS
  refine lv_lload_n hx hb dX12_partOf_0 rfl (lv_at hl 0 rfl) ?_
  refine lv_lconst (v := 0) hx hb dX12_partOf_1 (by decide) ?_
  refine W.lcmp hx hb dX12_partOf_2 ?_
  refine lv_if_ne (tgt := 10) hx hb dX12_partOf_3 (by decide) (fun c1 => ?_) (fun c1 => ?_)
  · have hf := if_f hf c1
    refine lv_iload hx hb dX12_partOf_10 (lv_at hl 2 rfl) ?_
    refine lv_if_ne (tgt := 19) hx hb dX12_partOf_12 (by decide) (fun c2 => ?_) (fun c2 => ?_)
    · have hf := if_f hf c2
      refine lv_lload_n hx hb dX12_partOf_19 rfl (lv_at hl 1 rfl) ?_
      exact J20 v2 hf H locs ls hP hS (lv_sub hl [0, 1] rfl)
    · have hf := if_t hf c2
      refine lv_lload_n hx hb dX12_partOf_15 rfl (lv_at hl 0 rfl) ?_
      refine lv_goto (tgt := 20) hx hb dX12_partOf_16 (by decide) ?_
      exact J20 v0 hf H locs ls hP hS (lv_sub hl [0, 1] rfl)
  · have hf := if_t hf c1
    refine lv_iload hx hb dX12_partOf_6 (lv_at hl 2 rfl) ?_
    refine lv_i2l hx hb dX12_partOf_8 rfl ?_
    exact g_lret hx hb hr hlk hP hS (ret1 hf) dX12_partOf_9

def X12_mean (h : HS) (v1 : Int32) : Option Int64 :=
    (X12_isIn v1 0 1).bind fun q1 =>
    (if q1 = 0 then
    some 1000000001
    else
    (X12_linesIn h 67).bind fun q3 =>
    gdi 0 30 <|
    (X12_partOf (2 * (q3.toInt64)) ((aI h 67 (0 : Int32).toNatClampNeg).toInt64) v1).bind fun q5 =>
    some q5)
def uX12_mean : List Cond := .code yX12_mean cX12_mean 2 (some .long) :: UU
def rmX12_mean : Room := { frames := 3, cells := 0, slots := 0, locals := 65 }
theorem kdX12_mean : yX12_mean.cls = RX12 ∧ yX12_mean.cls ≠ "java/lang/invoke/MethodHandle" ∧ yX12_mean.cls ≠ "java/lang/invoke/VarHandle" ∧ (parseMethodDescriptor yX12_mean.desc).map (fun d => d.parameters.length) = some 1 := by decide +kernel
set_option maxHeartbeats 4000000 in
set_option maxRecDepth 100000 in
theorem m_X12_mean (l : Launch) (D : va_G) (a : Nat → Nat) (C : Nat → ClassId) (ha : ginj a) (h : HS) (v1 : Int32)  (r : Int64) (hf : X12_mean h v1 = some r) : gM l yX12_mean uX12_mean rmX12_mean D a C [.ref (a 66), .int v1] h (some (.long r)) h := by
  refine g_start (av := [.ref (a 66), .int v1]) (cc := cX12_mean) (maxL := 2) (rt := (some .long)) (by decide) rfl (Nat.le_of_ble_eq_true rfl) ?_
  intro p e s m below meth c hx hb hr hml hown hlk hts hP hK hN ls hl
  have hA : ∀ q, gA a q → gA a q := fun _ q => q
  have hS : va_S (gA a) s.heap s.heap [] := va_S.rf
  have hl : lv_has ls 2 [(0, .ref (a 66)), (1, .int v1)] := hl
  unfold X12_mean at hf
  refine lv_iload_n hx hb dX12_mean_0 rfl (lv_at hl 1 rfl) ?_
  refine lv_iconst (v := 0) hx hb dX12_mean_1 (by decide) ?_
  refine lv_iconst (v := 1) hx hb dX12_mean_2 (by decide) ?_
  obtain ⟨q1, hq1, hf⟩ := bind_s hf
  refine g_callS (As := [.int v1, .int 0, .int 1]) (rest := []) hx hb hml hown hts hK hN (m_X12_isIn l D a C ha h v1 0 1  q1 hq1) (va_cwS 3 hts (gUS (u12_1 _ (List.mem_of_getElem? (i := 5) rfl)) (u12_1 _ (List.mem_of_getElem? (i := 6) rfl)) (u12_1 _ (List.mem_of_getElem? (i := 7) rfl)) (u12_1 _ (List.mem_of_getElem? (i := 1) rfl))) rfl rfl rfl kdX12_isIn.2 ⟨Nat.le_of_ble_eq_true rfl, Nat.le_of_ble_eq_true rfl⟩) hP hS hA rfl hl.1 rfl (Nat.le_of_ble_eq_true rfl) dX12_mean_3 ⟨Nat.le_refl _, Nat.le_refl _⟩ (fun H locs hP hS => ?_)
  refine W.eq (g2 := F0 m 6 ls [.int q1]) rfl ?_
  refine lv_if_eq (tgt := 35) hx hb dX12_mean_6 (by decide) (fun c2 => ?_) (fun c2 => ?_)
  · have hf := if_t hf c2
    refine lv_ldc2 (v := 1000000001) hx hb hown (hts _ (List.mem_cons_of_mem _ (u12_6 _ (List.mem_of_getElem? (i := 7) rfl)))) dX12_mean_35 ?_
    exact g_lret hx hb hr hlk hP hS (ret1 hf) dX12_mean_38
  · have hf := if_f hf c2
    refine lv_ldc2 (v := 2) hx hb hown (hts _ (List.mem_cons_of_mem _ (u12_6 _ (List.mem_of_getElem? (i := 6) rfl)))) dX12_mean_9 ?_
    refine lv_aload_n hx hb dX12_mean_12 rfl (lv_at hl 0 rfl) ?_
    refine g_get (Cn := RX12) (T := TX12) (N := 21) (v := .ref (a 67)) (own := RX12) hx hb hown hts hK M_O rfl (fun _ hw => List.mem_cons_of_mem _ (u12_cls _ hw)) 0 (by decide) (List.mem_cons_of_mem _ (u12_0 _ (List.mem_of_getElem? (i := 5) rfl))) rfl rfl hP dX12_mean_13 ?_
    obtain ⟨q3, hq3, hf⟩ := bind_s hf
    refine g_callS (As := [.ref (a 67)]) (rest := [.long 2]) hx hb hml hown hts hK hN (m_X12_linesIn l D a C ha h 67 (Or.inl rfl) q3 hq3) (va_cwS 1 hts (gUS (u12_6 _ (List.mem_of_getElem? (i := 8) rfl)) (u12_6 _ (List.mem_of_getElem? (i := 9) rfl)) (u12_1 _ (List.mem_of_getElem? (i := 7) rfl)) (u12_3 _ (List.mem_of_getElem? (i := 1) rfl))) rfl rfl rfl kdX12_linesIn.2 ⟨Nat.le_of_ble_eq_true rfl, Nat.le_of_ble_eq_true rfl⟩) hP hS hA rfl hl.1 rfl (Nat.le_of_ble_eq_true rfl) dX12_mean_16 ⟨Nat.le_refl _, Nat.le_refl _⟩ (fun H locs hP hS => ?_)
    refine W.eq (g2 := F0 m 19 ls [.int q3, .long 2]) rfl ?_
    refine lv_i2l hx hb dX12_mean_19 rfl ?_
    refine lv_lmul hx hb dX12_mean_20 ?_
    refine lv_aload_n hx hb dX12_mean_21 rfl (lv_at hl 0 rfl) ?_
    refine g_get (Cn := RX12) (T := TX12) (N := 21) (v := .ref (a 67)) (own := RX12) hx hb hown hts hK M_O rfl (fun _ hw => List.mem_cons_of_mem _ (u12_cls _ hw)) 0 (by decide) (List.mem_cons_of_mem _ (u12_0 _ (List.mem_of_getElem? (i := 5) rfl))) rfl rfl hP dX12_mean_22 ?_
    refine lv_iconst (v := 0) hx hb dX12_mean_25 (by decide) ?_
    obtain ⟨c4, hf⟩ := gdi_s hf
    refine g_ial hx hb hK (⟨by decide, rfl⟩ : gAI 67 30) c4 hP dX12_mean_26 ?_
    refine lv_i2l hx hb dX12_mean_27 rfl ?_
    refine lv_iload_n hx hb dX12_mean_28 rfl (lv_at hl 1 rfl) ?_
    obtain ⟨q5, hq5, hf⟩ := bind_s hf
    refine g_callS (As := [.long (2 * (q3.toInt64)), .long ((aI h 67 (0 : Int32).toNatClampNeg).toInt64), .int v1]) (rest := []) hx hb hml hown hts hK hN (m_X12_partOf l D a C ha h (2 * (q3.toInt64)) ((aI h 67 (0 : Int32).toNatClampNeg).toInt64) v1  q5 hq5) (va_cwS 3 hts (gUS (u12_6 _ (List.mem_of_getElem? (i := 10) rfl)) (u12_6 _ (List.mem_of_getElem? (i := 11) rfl)) (u12_1 _ (List.mem_of_getElem? (i := 7) rfl)) (u12_6 _ (List.mem_of_getElem? (i := 3) rfl))) rfl rfl rfl kdX12_partOf.2 ⟨Nat.le_of_ble_eq_true rfl, Nat.le_of_ble_eq_true rfl⟩) hP hS hA rfl hl.1 rfl (Nat.le_of_ble_eq_true rfl) dX12_mean_29 ⟨Nat.le_refl _, Nat.le_refl _⟩ (fun H locs hP hS => ?_)
    refine W.eq (g2 := F0 m 32 ls [.long q5]) rfl ?_
    refine lv_goto (tgt := 38) hx hb dX12_mean_32 (by decide) ?_
    exact g_lret hx hb hr hlk hP hS (ret1 hf) dX12_mean_38

def X12_known_B133 (h : HS) (v1 : Int32) (v2 : Int32) (s0 : Int64) (s1 : Int64) : Option Int64 :=
    (X12_partOf s1 s0 v2).bind fun q17 =>
    some q17
def X12_known_B101 (h : HS) (v1 : Int32) (v2 : Int32) (k30 : Int64 → Int64 → Int32 → Option Int64) (v3 : Int64) (v5 : Int64) (v7 : Int32) : Option Int64 :=
    nm (v7 + 1) fun x16 =>
    k30 v3 v5 x16
def X12_known_B93 (h : HS) (v1 : Int32) (v2 : Int32) (k30 : Int64 → Int64 → Int32 → Option Int64) (v5 : Int64) (v7 : Int32) (s0 : Int64) (s1 : Int64) : Option Int64 :=
    nm (s1 + s0) fun x14 =>
    nm (v5 + 1) fun x15 =>
    X12_known_B101 h v1 v2 k30 x14 x15 v7
def X12_known_B30 (h : HS) (v1 : Int32) (v2 : Int32) : Nat → Int64 → Int64 → Int32 → Option Int64
  | 0, _, _, _ => none
  | fu + 1, v3, v5, v7 =>
    gdi 0 30 <|
    (if (aI h 67 (0 : Int32).toNatClampNeg) ≤ v7 then
    (if v1 = 0 then
    (X12_linesIn h 67).bind fun q8 =>
    X12_known_B133 h v1 v2 (2 * (q8.toInt64)) v3
    else
    X12_known_B133 h v1 v2 (840 * v5) v3)
    else
    (X12_number h 67 v7).bind fun q9 =>
    (if q9 = 0 then
    X12_known_B101 h v1 v2 (X12_known_B30 h v1 v2 fu) v3 v5 v7
    else
    (if v1 = 0 then
    X12_known_B93 h v1 v2 (X12_known_B30 h v1 v2 fu) v5 v7 ((q9.toInt64) * (q9.toInt64)) v3
    else
    (X12_knownSum h 67 v7).bind fun q12 =>
    gdzL (q9.toInt64) <|
    X12_known_B93 h v1 v2 (X12_known_B30 h v1 v2 fu) v5 v7 ((840 * (q12.toInt64)) / (q9.toInt64)) v3)))
def X12_known (h : HS) (v1 : Int32) (v2 : Int32) : Option Int64 :=
    (X12_isIn v1 0 1).bind fun q1 =>
    (if q1 = 0 then
    some 1000000001
    else
    (X12_isIn v2 0 1).bind fun q3 =>
    (if q3 = 0 then
    some 1000000001
    else
    X12_known_B30 h v1 v2 FU 0 0 0))
def uX12_known : List Cond := .code yX12_known cX12_known 9 (some .long) :: UU
def rmX12_known : Room := { frames := 3, cells := 0, slots := 0, locals := 66 }
theorem kdX12_known : yX12_known.cls = RX12 ∧ yX12_known.cls ≠ "java/lang/invoke/MethodHandle" ∧ yX12_known.cls ≠ "java/lang/invoke/VarHandle" ∧ (parseMethodDescriptor yX12_known.desc).map (fun d => d.parameters.length) = some 2 := by decide +kernel
set_option maxHeartbeats 4000000 in
set_option maxRecDepth 100000 in
theorem m_X12_known (l : Launch) (D : va_G) (a : Nat → Nat) (C : Nat → ClassId) (ha : ginj a) (h : HS) (v1 : Int32) (v2 : Int32)  (r : Int64) (hf : X12_known h v1 v2 = some r) : gM l yX12_known uX12_known rmX12_known D a C [.ref (a 66), .int v1, .int v2] h (some (.long r)) h := by
  refine g_start (av := [.ref (a 66), .int v1, .int v2]) (cc := cX12_known) (maxL := 9) (rt := (some .long)) (by decide) rfl (Nat.le_of_ble_eq_true rfl) ?_
  intro p e s m below meth c hx hb hr hml hown hlk hts hP hK hN ls hl
  have hA : ∀ q, gA a q → gA a q := fun _ q => q
  have hS : va_S (gA a) s.heap s.heap [] := va_S.rf
  have hl : lv_has ls 9 [(0, .ref (a 66)), (1, .int v1), (2, .int v2)] := hl
  have J133 : ∀ (s0 : Int64) (s1 : Int64) (_ : X12_known_B133 h v1 v2 s0 s1 = some r), gG p l e (headSpec uX12_known rmX12_known).room s m ([.ref (a 66), .int v1, .int v2] : List Value).toArray below meth c (MQ below (gQ (some (.long r)) D a C h) ([.ref (a 66), .int v1, .int v2] : List Value).toArray s 0 0 (gA a)) D a C 9 h 133 [(2, .int v2)] [.long s0, .long s1] := by
    intro s0 s1 hf H locs ls hP hS hl
    unfold X12_known_B133 at hf
    refine lv_iload_n hx hb dX12_known_133 rfl (lv_at hl 0 rfl) ?_
    obtain ⟨q17, hq17, hf⟩ := bind_s hf
    refine g_callS (As := [.long s1, .long s0, .int v2]) (rest := []) hx hb hml hown hts hK hN (m_X12_partOf l D a C ha h s1 s0 v2  q17 hq17) (va_cwS 3 hts (gUS (u12_6 _ (List.mem_of_getElem? (i := 10) rfl)) (u12_6 _ (List.mem_of_getElem? (i := 11) rfl)) (u12_1 _ (List.mem_of_getElem? (i := 7) rfl)) (u12_6 _ (List.mem_of_getElem? (i := 3) rfl))) rfl rfl rfl kdX12_partOf.2 ⟨Nat.le_of_ble_eq_true rfl, Nat.le_of_ble_eq_true rfl⟩) hP hS hA rfl hl.1 rfl (Nat.le_of_ble_eq_true rfl) dX12_known_134 ⟨Nat.le_refl _, Nat.le_refl _⟩ (fun H locs hP hS => ?_)
    refine W.eq (g2 := F0 m 137 ls [.long q17]) rfl ?_
    exact g_lret hx hb hr hlk hP hS (ret1 hf) dX12_known_137
  have J101 : ∀ (k30 : Int64 → Int64 → Int32 → Option Int64) (hk30 : ∀ (v3 : Int64) (v5 : Int64) (v7 : Int32), k30 v3 v5 v7 = some r → gG p l e (headSpec uX12_known rmX12_known).room s m ([.ref (a 66), .int v1, .int v2] : List Value).toArray below meth c (MQ below (gQ (some (.long r)) D a C h) ([.ref (a 66), .int v1, .int v2] : List Value).toArray s 0 0 (gA a)) D a C 9 h 30 [(0, .ref (a 66)), (1, .int v1), (2, .int v2), (3, .long v3), (5, .long v5), (7, .int v7)] []) (v3 : Int64) (v5 : Int64) (v7 : Int32) (_ : X12_known_B101 h v1 v2 k30 v3 v5 v7 = some r), gG p l e (headSpec uX12_known rmX12_known).room s m ([.ref (a 66), .int v1, .int v2] : List Value).toArray below meth c (MQ below (gQ (some (.long r)) D a C h) ([.ref (a 66), .int v1, .int v2] : List Value).toArray s 0 0 (gA a)) D a C 9 h 101 [(0, .ref (a 66)), (1, .int v1), (2, .int v2), (3, .long v3), (5, .long v5), (7, .int v7)] [] := by
    intro k30 hk30 v3 v5 v7 hf H locs ls hP hS hl
    unfold X12_known_B101 at hf
    obtain ⟨x16, ex16⟩ : ∃ y : Int32, y = (v7 + 1) := ⟨_, rfl⟩
    have hf := nm_s hf ex16
    refine lv_iinc (v := x16) (lv' := [(7, .int x16), (0, .ref (a 66)), (1, .int v1), (2, .int v2), (3, .long v3), (5, .long v5)]) hx hb dX12_known_101 hl (k := 5) rfl (by rw [ex16]; rfl) (by decide) rfl (fun ls hl => ?_)
    refine lv_goto (tgt := 30) hx hb dX12_known_104 (by decide) ?_
    exact hk30 v3 v5 x16 hf H locs ls hP hS (lv_sub hl [1, 2, 3, 4, 5, 0] rfl)
  have J93 : ∀ (k30 : Int64 → Int64 → Int32 → Option Int64) (hk30 : ∀ (v3 : Int64) (v5 : Int64) (v7 : Int32), k30 v3 v5 v7 = some r → gG p l e (headSpec uX12_known rmX12_known).room s m ([.ref (a 66), .int v1, .int v2] : List Value).toArray below meth c (MQ below (gQ (some (.long r)) D a C h) ([.ref (a 66), .int v1, .int v2] : List Value).toArray s 0 0 (gA a)) D a C 9 h 30 [(0, .ref (a 66)), (1, .int v1), (2, .int v2), (3, .long v3), (5, .long v5), (7, .int v7)] []) (v5 : Int64) (v7 : Int32) (s0 : Int64) (s1 : Int64) (_ : X12_known_B93 h v1 v2 k30 v5 v7 s0 s1 = some r), gG p l e (headSpec uX12_known rmX12_known).room s m ([.ref (a 66), .int v1, .int v2] : List Value).toArray below meth c (MQ below (gQ (some (.long r)) D a C h) ([.ref (a 66), .int v1, .int v2] : List Value).toArray s 0 0 (gA a)) D a C 9 h 93 [(0, .ref (a 66)), (1, .int v1), (2, .int v2), (5, .long v5), (7, .int v7)] [.long s0, .long s1] := by
    intro k30 hk30 v5 v7 s0 s1 hf H locs ls hP hS hl
    unfold X12_known_B93 at hf
    refine lv_ladd hx hb dX12_known_93 ?_
    refine lv_topl (fun x14 ex14 => ?_)
    have hf := nm_s hf ex14
    refine lv_lstore_n (lv' := [(3, .long x14), (0, .ref (a 66)), (1, .int v1), (2, .int v2), (5, .long v5), (7, .int v7)]) hx hb dX12_known_94 rfl hl (by decide) rfl (fun ls hl => ?_)
    refine lv_lload hx hb dX12_known_95 (lv_at hl 4 rfl) ?_
    refine lv_lconst (v := 1) hx hb dX12_known_97 (by decide) ?_
    refine lv_ladd hx hb dX12_known_98 ?_
    refine lv_topl (fun x15 ex15 => ?_)
    have hf := nm_s hf ex15
    refine lv_lstore (lv' := [(5, .long x15), (3, .long x14), (0, .ref (a 66)), (1, .int v1), (2, .int v2), (7, .int v7)]) hx hb dX12_known_99 hl (by decide) rfl (fun ls hl => ?_)
    exact J101 k30 hk30 x14 x15 v7 hf H locs ls hP hS (lv_sub hl [2, 3, 4, 1, 0, 5] rfl)
  have J30 : ∀ (fu : Nat) (v3 : Int64) (v5 : Int64) (v7 : Int32), X12_known_B30 h v1 v2 fu v3 v5 v7 = some r → gG p l e (headSpec uX12_known rmX12_known).room s m ([.ref (a 66), .int v1, .int v2] : List Value).toArray below meth c (MQ below (gQ (some (.long r)) D a C h) ([.ref (a 66), .int v1, .int v2] : List Value).toArray s 0 0 (gA a)) D a C 9 h 30 [(0, .ref (a 66)), (1, .int v1), (2, .int v2), (3, .long v3), (5, .long v5), (7, .int v7)] [] := by
    intro fu
    induction fu with
    | zero => intro v3 v5 v7 hf; exact absurd hf (by simp [X12_known_B30])
    | succ fu ih =>
      intro v3 v5 v7 hf H locs ls hP hS hl
      rw [X12_known_B30] at hf
      refine lv_iload hx hb dX12_known_30 (lv_at hl 5 rfl) ?_
      refine lv_aload_n hx hb dX12_known_32 rfl (lv_at hl 0 rfl) ?_
      refine g_get (Cn := RX12) (T := TX12) (N := 21) (v := .ref (a 67)) (own := RX12) hx hb hown hts hK M_O rfl (fun _ hw => List.mem_cons_of_mem _ (u12_cls _ hw)) 0 (by decide) (List.mem_cons_of_mem _ (u12_0 _ (List.mem_of_getElem? (i := 5) rfl))) rfl rfl hP dX12_known_33 ?_
      refine lv_iconst (v := 0) hx hb dX12_known_36 (by decide) ?_
      obtain ⟨c5, hf⟩ := gdi_s hf
      refine g_ial hx hb hK (⟨by decide, rfl⟩ : gAI 67 30) c5 hP dX12_known_37 ?_
      refine lv_icmp_ge (tgt := 107) hx hb dX12_known_38 (by decide) (fun c6 => ?_) (fun c6 => ?_)
      · have hf := if_t hf c6
        refine lv_lload_n hx hb dX12_known_107 rfl (lv_at hl 3 rfl) ?_
        refine lv_iload_n hx hb dX12_known_108 rfl (lv_at hl 1 rfl) ?_
        refine lv_if_ne (tgt := 127) hx hb dX12_known_109 (by decide) (fun c7 => ?_) (fun c7 => ?_)
        · have hf := if_f hf c7
          refine lv_ldc2 (v := 840) hx hb hown (hts _ (List.mem_cons_of_mem _ (u12_6 _ (List.mem_of_getElem? (i := 13) rfl)))) dX12_known_127 ?_
          refine lv_lload hx hb dX12_known_130 (lv_at hl 4 rfl) ?_
          refine lv_lmul hx hb dX12_known_132 ?_
          exact J133 (840 * v5) v3 hf H locs ls hP hS (lv_sub hl [2] rfl)
        · have hf := if_t hf c7
          refine lv_ldc2 (v := 2) hx hb hown (hts _ (List.mem_cons_of_mem _ (u12_6 _ (List.mem_of_getElem? (i := 6) rfl)))) dX12_known_112 ?_
          refine lv_aload_n hx hb dX12_known_115 rfl (lv_at hl 0 rfl) ?_
          refine g_get (Cn := RX12) (T := TX12) (N := 21) (v := .ref (a 67)) (own := RX12) hx hb hown hts hK M_O rfl (fun _ hw => List.mem_cons_of_mem _ (u12_cls _ hw)) 0 (by decide) (List.mem_cons_of_mem _ (u12_0 _ (List.mem_of_getElem? (i := 5) rfl))) rfl rfl hP dX12_known_116 ?_
          obtain ⟨q8, hq8, hf⟩ := bind_s hf
          refine g_callS (As := [.ref (a 67)]) (rest := [.long 2, .long v3]) hx hb hml hown hts hK hN (m_X12_linesIn l D a C ha h 67 (Or.inl rfl) q8 hq8) (va_cwS 1 hts (gUS (u12_6 _ (List.mem_of_getElem? (i := 8) rfl)) (u12_6 _ (List.mem_of_getElem? (i := 9) rfl)) (u12_1 _ (List.mem_of_getElem? (i := 7) rfl)) (u12_3 _ (List.mem_of_getElem? (i := 1) rfl))) rfl rfl rfl kdX12_linesIn.2 ⟨Nat.le_of_ble_eq_true rfl, Nat.le_of_ble_eq_true rfl⟩) hP hS hA rfl hl.1 rfl (Nat.le_of_ble_eq_true rfl) dX12_known_119 ⟨Nat.le_refl _, Nat.le_refl _⟩ (fun H locs hP hS => ?_)
          refine W.eq (g2 := F0 m 122 ls [.int q8, .long 2, .long v3]) rfl ?_
          refine lv_i2l hx hb dX12_known_122 rfl ?_
          refine lv_lmul hx hb dX12_known_123 ?_
          refine lv_goto (tgt := 133) hx hb dX12_known_124 (by decide) ?_
          exact J133 (2 * (q8.toInt64)) v3 hf H locs ls hP hS (lv_sub hl [2] rfl)
      · have hf := if_f hf c6
        refine lv_aload_n hx hb dX12_known_41 rfl (lv_at hl 0 rfl) ?_
        refine g_get (Cn := RX12) (T := TX12) (N := 21) (v := .ref (a 67)) (own := RX12) hx hb hown hts hK M_O rfl (fun _ hw => List.mem_cons_of_mem _ (u12_cls _ hw)) 0 (by decide) (List.mem_cons_of_mem _ (u12_0 _ (List.mem_of_getElem? (i := 5) rfl))) rfl rfl hP dX12_known_42 ?_
        refine lv_iload hx hb dX12_known_45 (lv_at hl 5 rfl) ?_
        obtain ⟨q9, hq9, hf⟩ := bind_s hf
        refine g_callS (As := [.ref (a 67), .int v7]) (rest := []) hx hb hml hown hts hK hN (m_X12_number l D a C ha h 67 v7 (Or.inl rfl) q9 hq9) (va_cwS 2 hts (gUS (u12_2 _ (List.mem_of_getElem? (i := 2) rfl)) (u12_2 _ (List.mem_of_getElem? (i := 3) rfl)) (u12_1 _ (List.mem_of_getElem? (i := 7) rfl)) (u12_1 _ (List.mem_of_getElem? (i := 14) rfl))) rfl rfl rfl kdX12_number.2 ⟨Nat.le_of_ble_eq_true rfl, Nat.le_of_ble_eq_true rfl⟩) hP hS hA rfl hl.1 rfl (Nat.le_of_ble_eq_true rfl) dX12_known_47 ⟨Nat.le_refl _, Nat.le_refl _⟩ (fun H locs hP hS => ?_)
        refine W.eq (g2 := F0 m 50 ls [.int q9]) rfl ?_
        refine lv_istore (lv' := [(8, .int q9), (0, .ref (a 66)), (1, .int v1), (2, .int v2), (3, .long v3), (5, .long v5), (7, .int v7)]) hx hb dX12_known_50 hl (by decide) rfl (fun ls hl => ?_)
        refine lv_iload hx hb dX12_known_52 (lv_at hl 0 rfl) ?_
        refine lv_if_ne (tgt := 60) hx hb dX12_known_54 (by decide) (fun c10 => ?_) (fun c10 => ?_)
        · have hf := if_f hf c10
          refine lv_lload_n hx hb dX12_known_60 rfl (lv_at hl 4 rfl) ?_
          refine lv_iload_n hx hb dX12_known_61 rfl (lv_at hl 2 rfl) ?_
          refine lv_if_ne (tgt := 75) hx hb dX12_known_62 (by decide) (fun c11 => ?_) (fun c11 => ?_)
          · have hf := if_f hf c11
            refine lv_ldc2 (v := 840) hx hb hown (hts _ (List.mem_cons_of_mem _ (u12_6 _ (List.mem_of_getElem? (i := 13) rfl)))) dX12_known_75 ?_
            refine lv_aload_n hx hb dX12_known_78 rfl (lv_at hl 1 rfl) ?_
            refine g_get (Cn := RX12) (T := TX12) (N := 21) (v := .ref (a 67)) (own := RX12) hx hb hown hts hK M_O rfl (fun _ hw => List.mem_cons_of_mem _ (u12_cls _ hw)) 0 (by decide) (List.mem_cons_of_mem _ (u12_0 _ (List.mem_of_getElem? (i := 5) rfl))) rfl rfl hP dX12_known_79 ?_
            refine lv_iload hx hb dX12_known_82 (lv_at hl 6 rfl) ?_
            obtain ⟨q12, hq12, hf⟩ := bind_s hf
            refine g_callS (As := [.ref (a 67), .int v7]) (rest := [.long 840, .long v3]) hx hb hml hown hts hK hN (m_X12_knownSum l D a C ha h 67 v7 (Or.inl rfl) q12 hq12) (va_cwS 2 hts (gUS (u12_5 _ (List.mem_of_getElem? (i := 7) rfl)) (u12_5 _ (List.mem_of_getElem? (i := 8) rfl)) (u12_1 _ (List.mem_of_getElem? (i := 7) rfl)) (u12_5 _ (List.mem_of_getElem? (i := 5) rfl))) rfl rfl rfl kdX12_knownSum.2 ⟨Nat.le_of_ble_eq_true rfl, Nat.le_of_ble_eq_true rfl⟩) hP hS hA rfl hl.1 rfl (Nat.le_of_ble_eq_true rfl) dX12_known_84 ⟨Nat.le_refl _, Nat.le_refl _⟩ (fun H locs hP hS => ?_)
            refine W.eq (g2 := F0 m 87 ls [.int q12, .long 840, .long v3]) rfl ?_
            refine lv_i2l hx hb dX12_known_87 rfl ?_
            refine lv_lmul hx hb dX12_known_88 ?_
            refine lv_iload hx hb dX12_known_89 (lv_at hl 0 rfl) ?_
            refine lv_i2l hx hb dX12_known_91 rfl ?_
            obtain ⟨c13, hf⟩ := gdzL_s hf
            refine lv_ldiv hx hb dX12_known_92 c13 ?_
            exact J93 (X12_known_B30 h v1 v2 fu) ih v5 v7 ((840 * (q12.toInt64)) / (q9.toInt64)) v3 hf H locs ls hP hS (lv_sub hl [1, 2, 3, 5, 6] rfl)
          · have hf := if_t hf c11
            refine lv_iload hx hb dX12_known_65 (lv_at hl 0 rfl) ?_
            refine lv_i2l hx hb dX12_known_67 rfl ?_
            refine lv_iload hx hb dX12_known_68 (lv_at hl 0 rfl) ?_
            refine lv_i2l hx hb dX12_known_70 rfl ?_
            refine lv_lmul hx hb dX12_known_71 ?_
            refine lv_goto (tgt := 93) hx hb dX12_known_72 (by decide) ?_
            exact J93 (X12_known_B30 h v1 v2 fu) ih v5 v7 ((q9.toInt64) * (q9.toInt64)) v3 hf H locs ls hP hS (lv_sub hl [1, 2, 3, 5, 6] rfl)
        · have hf := if_t hf c10
          refine lv_goto (tgt := 101) hx hb dX12_known_57 (by decide) ?_
          exact J101 (X12_known_B30 h v1 v2 fu) ih v3 v5 v7 hf H locs ls hP hS (lv_sub hl [1, 2, 3, 4, 5, 6] rfl)
  unfold X12_known at hf
  suffices hh : ∀ (H : Heap) (locs : List Loc), va_P D vwCl (gw a C h) H → va_S (gA a) s.heap H locs → W p l e (headSpec uX12_known rmX12_known).room s m ([.ref (a 66), .int v1, .int v2] : List Value).toArray below meth c H locs 0 0 (MQ below (gQ (some (.long r)) D a C h) ([.ref (a 66), .int v1, .int v2] : List Value).toArray s 0 0 (gA a)) (F0 m 0 ls []) from hh _ _ hP hS
  intro H locs hP hS
  refine lv_iload_n hx hb dX12_known_0 rfl (lv_at hl 1 rfl) ?_
  refine lv_iconst (v := 0) hx hb dX12_known_1 (by decide) ?_
  refine lv_iconst (v := 1) hx hb dX12_known_2 (by decide) ?_
  obtain ⟨q1, hq1, hf⟩ := bind_s hf
  refine g_callS (As := [.int v1, .int 0, .int 1]) (rest := []) hx hb hml hown hts hK hN (m_X12_isIn l D a C ha h v1 0 1  q1 hq1) (va_cwS 3 hts (gUS (u12_1 _ (List.mem_of_getElem? (i := 5) rfl)) (u12_1 _ (List.mem_of_getElem? (i := 6) rfl)) (u12_1 _ (List.mem_of_getElem? (i := 7) rfl)) (u12_1 _ (List.mem_of_getElem? (i := 1) rfl))) rfl rfl rfl kdX12_isIn.2 ⟨Nat.le_of_ble_eq_true rfl, Nat.le_of_ble_eq_true rfl⟩) hP hS hA rfl hl.1 rfl (Nat.le_of_ble_eq_true rfl) dX12_known_3 ⟨Nat.le_refl _, Nat.le_refl _⟩ (fun H locs hP hS => ?_)
  refine W.eq (g2 := F0 m 6 ls [.int q1]) rfl ?_
  refine lv_if_eq (tgt := 18) hx hb dX12_known_6 (by decide) (fun c2 => ?_) (fun c2 => ?_)
  · have hf := if_t hf c2
    refine lv_ldc2 (v := 1000000001) hx hb hown (hts _ (List.mem_cons_of_mem _ (u12_6 _ (List.mem_of_getElem? (i := 7) rfl)))) dX12_known_18 ?_
    exact g_lret hx hb hr hlk hP hS (ret1 hf) dX12_known_21
  · have hf := if_f hf c2
    refine lv_iload_n hx hb dX12_known_9 rfl (lv_at hl 2 rfl) ?_
    refine lv_iconst (v := 0) hx hb dX12_known_10 (by decide) ?_
    refine lv_iconst (v := 1) hx hb dX12_known_11 (by decide) ?_
    obtain ⟨q3, hq3, hf⟩ := bind_s hf
    refine g_callS (As := [.int v2, .int 0, .int 1]) (rest := []) hx hb hml hown hts hK hN (m_X12_isIn l D a C ha h v2 0 1  q3 hq3) (va_cwS 3 hts (gUS (u12_1 _ (List.mem_of_getElem? (i := 5) rfl)) (u12_1 _ (List.mem_of_getElem? (i := 6) rfl)) (u12_1 _ (List.mem_of_getElem? (i := 7) rfl)) (u12_1 _ (List.mem_of_getElem? (i := 1) rfl))) rfl rfl rfl kdX12_isIn.2 ⟨Nat.le_of_ble_eq_true rfl, Nat.le_of_ble_eq_true rfl⟩) hP hS hA rfl hl.1 rfl (Nat.le_of_ble_eq_true rfl) dX12_known_12 ⟨Nat.le_refl _, Nat.le_refl _⟩ (fun H locs hP hS => ?_)
    refine W.eq (g2 := F0 m 15 ls [.int q3]) rfl ?_
    refine lv_if_ne (tgt := 22) hx hb dX12_known_15 (by decide) (fun c4 => ?_) (fun c4 => ?_)
    · have hf := if_f hf c4
      refine lv_lconst (v := 0) hx hb dX12_known_22 (by decide) ?_
      refine lv_lstore_n (lv' := [(3, .long 0), (0, .ref (a 66)), (1, .int v1), (2, .int v2)]) hx hb dX12_known_23 rfl hl (by decide) rfl (fun ls hl => ?_)
      refine lv_lconst (v := 0) hx hb dX12_known_24 (by decide) ?_
      refine lv_lstore (lv' := [(5, .long 0), (3, .long 0), (0, .ref (a 66)), (1, .int v1), (2, .int v2)]) hx hb dX12_known_25 hl (by decide) rfl (fun ls hl => ?_)
      refine lv_iconst (v := 0) hx hb dX12_known_27 (by decide) ?_
      refine lv_istore (lv' := [(7, .int 0), (5, .long 0), (3, .long 0), (0, .ref (a 66)), (1, .int v1), (2, .int v2)]) hx hb dX12_known_28 hl (by decide) rfl (fun ls hl => ?_)
      exact J30 FU 0 0 0 hf H locs ls hP hS (lv_sub hl [3, 4, 5, 2, 1, 0] rfl)
    · have hf := if_t hf c4
      refine lv_ldc2 (v := 1000000001) hx hb hown (hts _ (List.mem_cons_of_mem _ (u12_6 _ (List.mem_of_getElem? (i := 7) rfl)))) dX12_known_18 ?_
      exact g_lret hx hb hr hlk hP hS (ret1 hf) dX12_known_21

def X12_feelsIn_B27 (h : HS) (v0 : Nat) (k4 : Int32 → Int32 → Option Int32) (v2 : Int32) (s0 : Int32) (s1 : Int32) : Option Int32 :=
    nm (s1 ||| s0) fun x5 =>
    nm (v2 + 1) fun x6 =>
    k4 x5 x6
def X12_feelsIn_B4 (h : HS) (v0 : Nat) : Nat → Int32 → Int32 → Option Int32
  | 0, _, _ => none
  | fu + 1, v1, v2 =>
    gdi 0 30 <|
    (if (aI h v0 (0 : Int32).toNatClampNeg) ≤ v2 then
    some v1
    else
    (X12_feelsIt h v0 v2).bind fun q3 =>
    (if q3 = 0 then
    X12_feelsIn_B27 h v0 (X12_feelsIn_B4 h v0 fu) v2 0 v1
    else
    X12_feelsIn_B27 h v0 (X12_feelsIn_B4 h v0 fu) v2 ((1 : Int32) <<< (v2 &&& 31)) v1))
def X12_feelsIn (h : HS) (v0 : Nat) : Option Int32 :=
    X12_feelsIn_B4 h v0 FU 0 0
def uX12_feelsIn : List Cond := .code yX12_feelsIn cX12_feelsIn 3 (some .int) :: UU
def rmX12_feelsIn : Room := { frames := 4, cells := 0, slots := 0, locals := 88 }
theorem kdX12_feelsIn : yX12_feelsIn.cls = RX12 ∧ yX12_feelsIn.cls ≠ "java/lang/invoke/MethodHandle" ∧ yX12_feelsIn.cls ≠ "java/lang/invoke/VarHandle" ∧ (parseMethodDescriptor yX12_feelsIn.desc).map (fun d => d.parameters.length) = some 1 := by decide +kernel
set_option maxHeartbeats 4000000 in
set_option maxRecDepth 100000 in
theorem m_X12_feelsIn (l : Launch) (D : va_G) (a : Nat → Nat) (C : Nat → ClassId) (ha : ginj a) (h : HS) (v0 : Nat) (hv0 : isRow v0) (r : Int32) (hf : X12_feelsIn h v0 = some r) : gM l yX12_feelsIn uX12_feelsIn rmX12_feelsIn D a C [.ref (a v0)] h (some (.int r)) h := by
  refine g_start (av := [.ref (a v0)]) (cc := cX12_feelsIn) (maxL := 3) (rt := (some .int)) (by decide) rfl (Nat.le_of_ble_eq_true rfl) ?_
  intro p e s m below meth c hx hb hr hml hown hlk hts hP hK hN ls hl
  have hA : ∀ q, gA a q → gA a q := fun _ q => q
  have hS : va_S (gA a) s.heap s.heap [] := va_S.rf
  have hl : lv_has ls 3 [(0, .ref (a v0))] := hl
  have J27 : ∀ (k4 : Int32 → Int32 → Option Int32) (hk4 : ∀ (v1 : Int32) (v2 : Int32), k4 v1 v2 = some r → gG p l e (headSpec uX12_feelsIn rmX12_feelsIn).room s m ([.ref (a v0)] : List Value).toArray below meth c (MQ below (gQ (some (.int r)) D a C h) ([.ref (a v0)] : List Value).toArray s 0 0 (gA a)) D a C 3 h 4 [(0, .ref (a v0)), (1, .int v1), (2, .int v2)] []) (v2 : Int32) (s0 : Int32) (s1 : Int32) (_ : X12_feelsIn_B27 h v0 k4 v2 s0 s1 = some r), gG p l e (headSpec uX12_feelsIn rmX12_feelsIn).room s m ([.ref (a v0)] : List Value).toArray below meth c (MQ below (gQ (some (.int r)) D a C h) ([.ref (a v0)] : List Value).toArray s 0 0 (gA a)) D a C 3 h 27 [(0, .ref (a v0)), (2, .int v2)] [.int s0, .int s1] := by
    intro k4 hk4 v2 s0 s1 hf H locs ls hP hS hl
    unfold X12_feelsIn_B27 at hf
    refine lv_ior hx hb dX12_feelsIn_27 ?_
    refine lv_topi (fun x5 ex5 => ?_)
    have hf := nm_s hf ex5
    refine lv_istore_n (lv' := [(1, .int x5), (0, .ref (a v0)), (2, .int v2)]) hx hb dX12_feelsIn_28 rfl hl (by decide) rfl (fun ls hl => ?_)
    obtain ⟨x6, ex6⟩ : ∃ y : Int32, y = (v2 + 1) := ⟨_, rfl⟩
    have hf := nm_s hf ex6
    refine lv_iinc (v := x6) (lv' := [(2, .int x6), (1, .int x5), (0, .ref (a v0))]) hx hb dX12_feelsIn_29 hl (k := 2) rfl (by rw [ex6]; rfl) (by decide) rfl (fun ls hl => ?_)
    refine lv_goto (tgt := 4) hx hb dX12_feelsIn_32 (by decide) ?_
    exact hk4 x5 x6 hf H locs ls hP hS (lv_sub hl [2, 1, 0] rfl)
  have J4 : ∀ (fu : Nat) (v1 : Int32) (v2 : Int32), X12_feelsIn_B4 h v0 fu v1 v2 = some r → gG p l e (headSpec uX12_feelsIn rmX12_feelsIn).room s m ([.ref (a v0)] : List Value).toArray below meth c (MQ below (gQ (some (.int r)) D a C h) ([.ref (a v0)] : List Value).toArray s 0 0 (gA a)) D a C 3 h 4 [(0, .ref (a v0)), (1, .int v1), (2, .int v2)] [] := by
    intro fu
    induction fu with
    | zero => intro v1 v2 hf; exact absurd hf (by simp [X12_feelsIn_B4])
    | succ fu ih =>
      intro v1 v2 hf H locs ls hP hS hl
      rw [X12_feelsIn_B4] at hf
      refine lv_iload_n hx hb dX12_feelsIn_4 rfl (lv_at hl 2 rfl) ?_
      refine lv_aload_n hx hb dX12_feelsIn_5 rfl (lv_at hl 0 rfl) ?_
      refine lv_iconst (v := 0) hx hb dX12_feelsIn_6 (by decide) ?_
      obtain ⟨c1, hf⟩ := gdi_s hf
      refine g_ial hx hb hK (row_A hv0) c1 hP dX12_feelsIn_7 ?_
      refine lv_icmp_ge (tgt := 35) hx hb dX12_feelsIn_8 (by decide) (fun c2 => ?_) (fun c2 => ?_)
      · have hf := if_t hf c2
        refine lv_iload_n hx hb dX12_feelsIn_35 rfl (lv_at hl 1 rfl) ?_
        exact g_iret hx hb hr hlk hP hS (ret1 hf) dX12_feelsIn_36
      · have hf := if_f hf c2
        refine lv_iload_n hx hb dX12_feelsIn_11 rfl (lv_at hl 1 rfl) ?_
        refine lv_aload_n hx hb dX12_feelsIn_12 rfl (lv_at hl 0 rfl) ?_
        refine lv_iload_n hx hb dX12_feelsIn_13 rfl (lv_at hl 2 rfl) ?_
        obtain ⟨q3, hq3, hf⟩ := bind_s hf
        refine g_callS (As := [.ref (a v0), .int v2]) (rest := [.int v1]) hx hb hml hown hts hK hN (m_X12_feelsIt l D a C ha h v0 v2 hv0 q3 hq3) (va_cwS 2 hts (gUS (u12_5 _ (List.mem_of_getElem? (i := 11) rfl)) (u12_5 _ (List.mem_of_getElem? (i := 12) rfl)) (u12_1 _ (List.mem_of_getElem? (i := 7) rfl)) (u12_5 _ (List.mem_of_getElem? (i := 6) rfl))) rfl rfl rfl kdX12_feelsIt.2 ⟨Nat.le_of_ble_eq_true rfl, Nat.le_of_ble_eq_true rfl⟩) hP hS hA rfl hl.1 rfl (Nat.le_of_ble_eq_true rfl) dX12_feelsIn_14 ⟨Nat.le_refl _, Nat.le_refl _⟩ (fun H locs hP hS => ?_)
        refine W.eq (g2 := F0 m 17 ls [.int q3, .int v1]) rfl ?_
        refine lv_if_eq (tgt := 26) hx hb dX12_feelsIn_17 (by decide) (fun c4 => ?_) (fun c4 => ?_)
        · have hf := if_t hf c4
          refine lv_iconst (v := 0) hx hb dX12_feelsIn_26 (by decide) ?_
          exact J27 (X12_feelsIn_B4 h v0 fu) ih v2 0 v1 hf H locs ls hP hS (lv_sub hl [0, 2] rfl)
        · have hf := if_f hf c4
          refine lv_iconst (v := 1) hx hb dX12_feelsIn_20 (by decide) ?_
          refine lv_iload_n hx hb dX12_feelsIn_21 rfl (lv_at hl 2 rfl) ?_
          refine lv_ishl hx hb dX12_feelsIn_22 ?_
          refine lv_goto (tgt := 27) hx hb dX12_feelsIn_23 (by decide) ?_
          exact J27 (X12_feelsIn_B4 h v0 fu) ih v2 ((1 : Int32) <<< (v2 &&& 31)) v1 hf H locs ls hP hS (lv_sub hl [0, 2] rfl)
  unfold X12_feelsIn at hf
  suffices hh : ∀ (H : Heap) (locs : List Loc), va_P D vwCl (gw a C h) H → va_S (gA a) s.heap H locs → W p l e (headSpec uX12_feelsIn rmX12_feelsIn).room s m ([.ref (a v0)] : List Value).toArray below meth c H locs 0 0 (MQ below (gQ (some (.int r)) D a C h) ([.ref (a v0)] : List Value).toArray s 0 0 (gA a)) (F0 m 0 ls []) from hh _ _ hP hS
  intro H locs hP hS
  refine lv_iconst (v := 0) hx hb dX12_feelsIn_0 (by decide) ?_
  refine lv_istore_n (lv' := [(1, .int 0), (0, .ref (a v0))]) hx hb dX12_feelsIn_1 rfl hl (by decide) rfl (fun ls hl => ?_)
  refine lv_iconst (v := 0) hx hb dX12_feelsIn_2 (by decide) ?_
  refine lv_istore_n (lv' := [(2, .int 0), (1, .int 0), (0, .ref (a v0))]) hx hb dX12_feelsIn_3 rfl hl (by decide) rfl (fun ls hl => ?_)
  exact J4 FU 0 0 hf H locs ls hP hS (lv_sub hl [2, 1, 0] rfl)

def X12_feels (h : HS) : Option Int32 :=
    (X12_feelsIn h 67).bind fun q1 =>
    some q1
def uX12_feels : List Cond := .code yX12_feels cX12_feels 1 (some .int) :: UU
def rmX12_feels : Room := { frames := 5, cells := 0, slots := 0, locals := 110 }
theorem kdX12_feels : yX12_feels.cls = RX12 ∧ yX12_feels.cls ≠ "java/lang/invoke/MethodHandle" ∧ yX12_feels.cls ≠ "java/lang/invoke/VarHandle" ∧ (parseMethodDescriptor yX12_feels.desc).map (fun d => d.parameters.length) = some 0 := by decide +kernel
set_option maxHeartbeats 4000000 in
set_option maxRecDepth 100000 in
theorem m_X12_feels (l : Launch) (D : va_G) (a : Nat → Nat) (C : Nat → ClassId) (ha : ginj a) (h : HS)  (r : Int32) (hf : X12_feels h = some r) : gM l yX12_feels uX12_feels rmX12_feels D a C [.ref (a 66)] h (some (.int r)) h := by
  refine g_start (av := [.ref (a 66)]) (cc := cX12_feels) (maxL := 1) (rt := (some .int)) (by decide) rfl (Nat.le_of_ble_eq_true rfl) ?_
  intro p e s m below meth c hx hb hr hml hown hlk hts hP hK hN ls hl
  have hA : ∀ q, gA a q → gA a q := fun _ q => q
  have hS : va_S (gA a) s.heap s.heap [] := va_S.rf
  have hl : lv_has ls 1 [(0, .ref (a 66))] := hl
  unfold X12_feels at hf
  refine lv_aload_n hx hb dX12_feels_0 rfl (lv_at hl 0 rfl) ?_
  refine g_get (Cn := RX12) (T := TX12) (N := 21) (v := .ref (a 67)) (own := RX12) hx hb hown hts hK M_O rfl (fun _ hw => List.mem_cons_of_mem _ (u12_cls _ hw)) 0 (by decide) (List.mem_cons_of_mem _ (u12_0 _ (List.mem_of_getElem? (i := 5) rfl))) rfl rfl hP dX12_feels_1 ?_
  obtain ⟨q1, hq1, hf⟩ := bind_s hf
  refine g_callS (As := [.ref (a 67)]) (rest := []) hx hb hml hown hts hK hN (m_X12_feelsIn l D a C ha h 67 (Or.inl rfl) q1 hq1) (va_cwS 1 hts (gUS (u12_6 _ (List.mem_of_getElem? (i := 17) rfl)) (u12_6 _ (List.mem_of_getElem? (i := 18) rfl)) (u12_1 _ (List.mem_of_getElem? (i := 7) rfl)) (u12_6 _ (List.mem_of_getElem? (i := 15) rfl))) rfl rfl rfl kdX12_feelsIn.2 ⟨Nat.le_of_ble_eq_true rfl, Nat.le_of_ble_eq_true rfl⟩) hP hS hA rfl hl.1 rfl (Nat.le_of_ble_eq_true rfl) dX12_feels_4 ⟨Nat.le_refl _, Nat.le_refl _⟩ (fun H locs hP hS => ?_)
  refine W.eq (g2 := F0 m 7 ls [.int q1]) rfl ?_
  exact g_iret hx hb hr hlk hP hS (ret1 hf) dX12_feels_7

def X12_fall_B143 (v1 : Int32) (k28 : Int32 → Int32 → Int32 → HS → Option (Int32 × HS)) (k45 : Int32 → Int32 → Int32 → Int32 → HS → Option (Int32 × HS)) (v2 : Int32) (v3 : Int32) (v4 : Int32) (v5 : Int32) (h : HS) : Option (Int32 × HS) :=
    nm (v5 + 1) fun x22 =>
    k45 v2 v3 v4 x22 h
def X12_fall_B82 (v1 : Int32) (k28 : Int32 → Int32 → Int32 → HS → Option (Int32 × HS)) (k45 : Int32 → Int32 → Int32 → Int32 → HS → Option (Int32 × HS)) (v2 : Int32) (v3 : Int32) (v4 : Int32) (v5 : Int32) (s0 : Int32) (s1 : Int32) (h : HS) : Option (Int32 × HS) :=
    (if s1 = s0 then
    X12_fall_B143 v1 k28 k45 v2 v3 v4 v5 h
    else
    (X12_copies h 67 68).bind fun q16 =>
    (X12_changesLine q16 68 v4 v5).bind fun q17 =>
    (X12_feelsIn q17 68).bind fun q18 =>
    (X12_bits q18).bind fun q19 =>
    (if q19 < v2 then
    nm ((10 * v4) + v5) fun x21 =>
    X12_fall_B143 v1 k28 k45 q19 x21 v4 v5 q17
    else
    X12_fall_B143 v1 k28 k45 v2 v3 v4 v5 q17))
def X12_fall_B45 (v1 : Int32) (k28 : Int32 → Int32 → Int32 → HS → Option (Int32 × HS)) : Nat → Int32 → Int32 → Int32 → Int32 → HS → Option (Int32 × HS)
  | 0, _, _, _, _, _ => none
  | fu + 1, v2, v3, v4, v5, h =>
    gdi 0 30 <|
    (if (aI h 67 (0 : Int32).toNatClampNeg) ≤ v5 then
    nm (v4 + 1) fun x10 =>
    k28 v2 v3 x10 h
    else
    (X12_of v4 2).bind fun q11 =>
    gdi q11 30 <|
    (X12_has (aI h 67 q11.toNatClampNeg) v5).bind fun q13 =>
    (if v1 = 1 then
    X12_fall_B82 v1 k28 (X12_fall_B45 v1 k28 fu) v2 v3 v4 v5 1 q13 h
    else
    X12_fall_B82 v1 k28 (X12_fall_B45 v1 k28 fu) v2 v3 v4 v5 0 q13 h))
def X12_fall_B28 (v1 : Int32) : Nat → Int32 → Int32 → Int32 → HS → Option (Int32 × HS)
  | 0, _, _, _, _ => none
  | fu + 1, v2, v3, v4, h =>
    gdi 0 30 <|
    (if (aI h 67 (0 : Int32).toNatClampNeg) ≤ v4 then
    some (v3, h)
    else
    nm (v4 + 1) fun x7 =>
    X12_fall_B45 v1 (X12_fall_B28 v1 fu) FU v2 v3 v4 x7 h)
def X12_fall (h : HS) (v1 : Int32) : Option (Int32 × HS) :=
    (X12_isIn v1 0 1).bind fun q1 =>
    (if q1 = 0 then
    some ((-1), h)
    else
    (X12_feelsIn h 67).bind fun q3 =>
    (X12_bits q3).bind fun q4 =>
    X12_fall_B28 v1 FU q4 (-4) 0 h)
def uX12_fall : List Cond := .code yX12_fall cX12_fall 7 (some .int) :: UU
def rmX12_fall : Room := { frames := 5, cells := 0, slots := 0, locals := 110 }
theorem kdX12_fall : yX12_fall.cls = RX12 ∧ yX12_fall.cls ≠ "java/lang/invoke/MethodHandle" ∧ yX12_fall.cls ≠ "java/lang/invoke/VarHandle" ∧ (parseMethodDescriptor yX12_fall.desc).map (fun d => d.parameters.length) = some 1 := by decide +kernel
set_option maxHeartbeats 4000000 in
set_option maxRecDepth 100000 in
theorem m_X12_fall (l : Launch) (D : va_G) (a : Nat → Nat) (C : Nat → ClassId) (ha : ginj a) (h : HS) (v1 : Int32)  (r : Int32) (h' : HS) (hf : X12_fall h v1 = some (r, h')) : gM l yX12_fall uX12_fall rmX12_fall D a C [.ref (a 66), .int v1] h (some (.int r)) h' := by
  refine g_start (av := [.ref (a 66), .int v1]) (cc := cX12_fall) (maxL := 7) (rt := (some .int)) (by decide) rfl (Nat.le_of_ble_eq_true rfl) ?_
  intro p e s m below meth c hx hb hr hml hown hlk hts hP hK hN ls hl
  have hA : ∀ q, gA a q → gA a q := fun _ q => q
  have hS : va_S (gA a) s.heap s.heap [] := va_S.rf
  have hl : lv_has ls 7 [(0, .ref (a 66)), (1, .int v1)] := hl
  have J143 : ∀ (k28 : Int32 → Int32 → Int32 → HS → Option (Int32 × HS)) (hk28 : ∀ (v2 : Int32) (v3 : Int32) (v4 : Int32) (h : HS), k28 v2 v3 v4 h = some (r, h') → gG p l e (headSpec uX12_fall rmX12_fall).room s m ([.ref (a 66), .int v1] : List Value).toArray below meth c (MQ below (gQ (some (.int r)) D a C h') ([.ref (a 66), .int v1] : List Value).toArray s 0 0 (gA a)) D a C 7 h 28 [(0, .ref (a 66)), (1, .int v1), (2, .int v2), (3, .int v3), (4, .int v4)] []) (k45 : Int32 → Int32 → Int32 → Int32 → HS → Option (Int32 × HS)) (hk45 : ∀ (v2 : Int32) (v3 : Int32) (v4 : Int32) (v5 : Int32) (h : HS), k45 v2 v3 v4 v5 h = some (r, h') → gG p l e (headSpec uX12_fall rmX12_fall).room s m ([.ref (a 66), .int v1] : List Value).toArray below meth c (MQ below (gQ (some (.int r)) D a C h') ([.ref (a 66), .int v1] : List Value).toArray s 0 0 (gA a)) D a C 7 h 45 [(0, .ref (a 66)), (1, .int v1), (2, .int v2), (3, .int v3), (4, .int v4), (5, .int v5)] []) (v2 : Int32) (v3 : Int32) (v4 : Int32) (v5 : Int32) (h : HS) (_ : X12_fall_B143 v1 k28 k45 v2 v3 v4 v5 h = some (r, h')), gG p l e (headSpec uX12_fall rmX12_fall).room s m ([.ref (a 66), .int v1] : List Value).toArray below meth c (MQ below (gQ (some (.int r)) D a C h') ([.ref (a 66), .int v1] : List Value).toArray s 0 0 (gA a)) D a C 7 h 143 [(0, .ref (a 66)), (1, .int v1), (2, .int v2), (3, .int v3), (4, .int v4), (5, .int v5)] [] := by
    intro k28 hk28 k45 hk45 v2 v3 v4 v5 h hf H locs ls hP hS hl
    unfold X12_fall_B143 at hf
    obtain ⟨x22, ex22⟩ : ∃ y : Int32, y = (v5 + 1) := ⟨_, rfl⟩
    have hf := nm_s hf ex22
    refine lv_iinc (v := x22) (lv' := [(5, .int x22), (0, .ref (a 66)), (1, .int v1), (2, .int v2), (3, .int v3), (4, .int v4)]) hx hb dX12_fall_143 hl (k := 5) rfl (by rw [ex22]; rfl) (by decide) rfl (fun ls hl => ?_)
    refine lv_goto (tgt := 45) hx hb dX12_fall_146 (by decide) ?_
    exact hk45 v2 v3 v4 x22 h hf H locs ls hP hS (lv_sub hl [1, 2, 3, 4, 5, 0] rfl)
  have J82 : ∀ (k28 : Int32 → Int32 → Int32 → HS → Option (Int32 × HS)) (hk28 : ∀ (v2 : Int32) (v3 : Int32) (v4 : Int32) (h : HS), k28 v2 v3 v4 h = some (r, h') → gG p l e (headSpec uX12_fall rmX12_fall).room s m ([.ref (a 66), .int v1] : List Value).toArray below meth c (MQ below (gQ (some (.int r)) D a C h') ([.ref (a 66), .int v1] : List Value).toArray s 0 0 (gA a)) D a C 7 h 28 [(0, .ref (a 66)), (1, .int v1), (2, .int v2), (3, .int v3), (4, .int v4)] []) (k45 : Int32 → Int32 → Int32 → Int32 → HS → Option (Int32 × HS)) (hk45 : ∀ (v2 : Int32) (v3 : Int32) (v4 : Int32) (v5 : Int32) (h : HS), k45 v2 v3 v4 v5 h = some (r, h') → gG p l e (headSpec uX12_fall rmX12_fall).room s m ([.ref (a 66), .int v1] : List Value).toArray below meth c (MQ below (gQ (some (.int r)) D a C h') ([.ref (a 66), .int v1] : List Value).toArray s 0 0 (gA a)) D a C 7 h 45 [(0, .ref (a 66)), (1, .int v1), (2, .int v2), (3, .int v3), (4, .int v4), (5, .int v5)] []) (v2 : Int32) (v3 : Int32) (v4 : Int32) (v5 : Int32) (s0 : Int32) (s1 : Int32) (h : HS) (_ : X12_fall_B82 v1 k28 k45 v2 v3 v4 v5 s0 s1 h = some (r, h')), gG p l e (headSpec uX12_fall rmX12_fall).room s m ([.ref (a 66), .int v1] : List Value).toArray below meth c (MQ below (gQ (some (.int r)) D a C h') ([.ref (a 66), .int v1] : List Value).toArray s 0 0 (gA a)) D a C 7 h 82 [(0, .ref (a 66)), (1, .int v1), (2, .int v2), (3, .int v3), (4, .int v4), (5, .int v5)] [.int s0, .int s1] := by
    intro k28 hk28 k45 hk45 v2 v3 v4 v5 s0 s1 h hf H locs ls hP hS hl
    unfold X12_fall_B82 at hf
    refine lv_icmp_ne (tgt := 88) hx hb dX12_fall_82 (by decide) (fun c15 => ?_) (fun c15 => ?_)
    · have hf := if_f hf c15
      refine lv_aload_n hx hb dX12_fall_88 rfl (lv_at hl 0 rfl) ?_
      refine g_get (Cn := RX12) (T := TX12) (N := 21) (v := .ref (a 67)) (own := RX12) hx hb hown hts hK M_O rfl (fun _ hw => List.mem_cons_of_mem _ (u12_cls _ hw)) 0 (by decide) (List.mem_cons_of_mem _ (u12_0 _ (List.mem_of_getElem? (i := 5) rfl))) rfl rfl hP dX12_fall_89 ?_
      refine lv_aload_n hx hb dX12_fall_92 rfl (lv_at hl 0 rfl) ?_
      refine g_get (Cn := RX12) (T := TX12) (N := 21) (v := .ref (a 68)) (own := RX12) hx hb hown hts hK M_O rfl (fun _ hw => List.mem_cons_of_mem _ (u12_cls _ hw)) 1 (by decide) (List.mem_cons_of_mem _ (u12_0 _ (List.mem_of_getElem? (i := 6) rfl))) rfl rfl hP dX12_fall_93 ?_
      obtain ⟨q16, hq16, hf⟩ := bind_s hf
      refine g_callS (As := [.ref (a 67), .ref (a 68)]) (rest := []) hx hb hml hown hts hK hN (m_X12_copies l D a C ha h 67 68 (Or.inl rfl) (Or.inr (Or.inl rfl)) q16 hq16) (va_cwS 2 hts (gUS (u12_4 _ (List.mem_of_getElem? (i := 19) rfl)) (u12_5 _ (List.mem_of_getElem? (i := 0) rfl)) (u12_1 _ (List.mem_of_getElem? (i := 7) rfl)) (u12_1 _ (List.mem_of_getElem? (i := 2) rfl))) rfl rfl rfl kdX12_copies.2 ⟨Nat.le_of_ble_eq_true rfl, Nat.le_of_ble_eq_true rfl⟩) hP hS hA rfl hl.1 rfl (Nat.le_of_ble_eq_true rfl) dX12_fall_96 ⟨Nat.le_refl _, Nat.le_refl _⟩ (fun H locs hP hS => ?_)
      refine W.eq (g2 := F0 m 99 ls []) rfl ?_
      refine lv_aload_n hx hb dX12_fall_99 rfl (lv_at hl 0 rfl) ?_
      refine g_get (Cn := RX12) (T := TX12) (N := 21) (v := .ref (a 68)) (own := RX12) hx hb hown hts hK M_O rfl (fun _ hw => List.mem_cons_of_mem _ (u12_cls _ hw)) 1 (by decide) (List.mem_cons_of_mem _ (u12_0 _ (List.mem_of_getElem? (i := 6) rfl))) rfl rfl hP dX12_fall_100 ?_
      refine lv_iload hx hb dX12_fall_103 (lv_at hl 4 rfl) ?_
      refine lv_iload hx hb dX12_fall_105 (lv_at hl 5 rfl) ?_
      obtain ⟨q17, hq17, hf⟩ := bind_s hf
      refine g_callS (As := [.ref (a 68), .int v4, .int v5]) (rest := []) hx hb hml hown hts hK hN (m_X12_changesLine l D a C ha q16 68 v4 v5 (Or.inr (Or.inl rfl)) q17 hq17) (va_cwS 3 hts (gUS (u12_4 _ (List.mem_of_getElem? (i := 2) rfl)) (u12_4 _ (List.mem_of_getElem? (i := 3) rfl)) (u12_1 _ (List.mem_of_getElem? (i := 7) rfl)) (u12_3 _ (List.mem_of_getElem? (i := 0) rfl))) rfl rfl rfl kdX12_changesLine.2 ⟨Nat.le_of_ble_eq_true rfl, Nat.le_of_ble_eq_true rfl⟩) hP hS hA rfl hl.1 rfl (Nat.le_of_ble_eq_true rfl) dX12_fall_107 ⟨Nat.le_refl _, Nat.le_refl _⟩ (fun H locs hP hS => ?_)
      refine W.eq (g2 := F0 m 110 ls []) rfl ?_
      refine lv_aload_n hx hb dX12_fall_110 rfl (lv_at hl 0 rfl) ?_
      refine g_get (Cn := RX12) (T := TX12) (N := 21) (v := .ref (a 68)) (own := RX12) hx hb hown hts hK M_O rfl (fun _ hw => List.mem_cons_of_mem _ (u12_cls _ hw)) 1 (by decide) (List.mem_cons_of_mem _ (u12_0 _ (List.mem_of_getElem? (i := 6) rfl))) rfl rfl hP dX12_fall_111 ?_
      obtain ⟨q18, hq18, hf⟩ := bind_s hf
      refine g_callS (As := [.ref (a 68)]) (rest := []) hx hb hml hown hts hK hN (m_X12_feelsIn l D a C ha q17 68 (Or.inr (Or.inl rfl)) q18 hq18) (va_cwS 1 hts (gUS (u12_6 _ (List.mem_of_getElem? (i := 17) rfl)) (u12_6 _ (List.mem_of_getElem? (i := 18) rfl)) (u12_1 _ (List.mem_of_getElem? (i := 7) rfl)) (u12_6 _ (List.mem_of_getElem? (i := 15) rfl))) rfl rfl rfl kdX12_feelsIn.2 ⟨Nat.le_of_ble_eq_true rfl, Nat.le_of_ble_eq_true rfl⟩) hP hS hA rfl hl.1 rfl (Nat.le_of_ble_eq_true rfl) dX12_fall_114 ⟨Nat.le_refl _, Nat.le_refl _⟩ (fun H locs hP hS => ?_)
      refine W.eq (g2 := F0 m 117 ls [.int q18]) rfl ?_
      obtain ⟨q19, hq19, hf⟩ := bind_s hf
      refine g_callS (As := [.int q18]) (rest := []) hx hb hml hown hts hK hN (m_X12_bits l D a C ha q17 q18  q19 hq19) (va_cwS 1 hts (gUS (u12_1 _ (List.mem_of_getElem? (i := 17) rfl)) (u12_1 _ (List.mem_of_getElem? (i := 18) rfl)) (u12_1 _ (List.mem_of_getElem? (i := 7) rfl)) (u12_1 _ (List.mem_of_getElem? (i := 13) rfl))) rfl rfl rfl kdX12_bits.2 ⟨Nat.le_of_ble_eq_true rfl, Nat.le_of_ble_eq_true rfl⟩) hP hS hA rfl hl.1 rfl (Nat.le_of_ble_eq_true rfl) dX12_fall_117 ⟨Nat.le_refl _, Nat.le_refl _⟩ (fun H locs hP hS => ?_)
      refine W.eq (g2 := F0 m 120 ls [.int q19]) rfl ?_
      refine lv_istore (lv' := [(6, .int q19), (0, .ref (a 66)), (1, .int v1), (2, .int v2), (3, .int v3), (4, .int v4), (5, .int v5)]) hx hb dX12_fall_120 hl (by decide) rfl (fun ls hl => ?_)
      refine lv_iload hx hb dX12_fall_122 (lv_at hl 0 rfl) ?_
      refine lv_iload_n hx hb dX12_fall_124 rfl (lv_at hl 3 rfl) ?_
      refine lv_icmp_lt (tgt := 131) hx hb dX12_fall_125 (by decide) (fun c20 => ?_) (fun c20 => ?_)
      · have hf := if_t hf c20
        refine lv_bipush (v := 10) hx hb dX12_fall_131 (by decide) ?_
        refine lv_iload hx hb dX12_fall_133 (lv_at hl 5 rfl) ?_
        refine lv_imul hx hb dX12_fall_135 ?_
        refine lv_iload hx hb dX12_fall_136 (lv_at hl 6 rfl) ?_
        refine lv_iadd hx hb dX12_fall_138 ?_
        refine lv_topi (fun x21 ex21 => ?_)
        have hf := nm_s hf ex21
        refine lv_istore_n (lv' := [(3, .int x21), (6, .int q19), (0, .ref (a 66)), (1, .int v1), (2, .int v2), (4, .int v4), (5, .int v5)]) hx hb dX12_fall_139 rfl hl (by decide) rfl (fun ls hl => ?_)
        refine lv_iload hx hb dX12_fall_140 (lv_at hl 1 rfl) ?_
        refine lv_istore_n (lv' := [(2, .int q19), (3, .int x21), (6, .int q19), (0, .ref (a 66)), (1, .int v1), (4, .int v4), (5, .int v5)]) hx hb dX12_fall_142 rfl hl (by decide) rfl (fun ls hl => ?_)
        exact J143 k28 hk28 k45 hk45 q19 x21 v4 v5 q17 hf H locs ls hP hS (lv_sub hl [3, 4, 0, 1, 5, 6] rfl)
      · have hf := if_f hf c20
        refine lv_goto (tgt := 143) hx hb dX12_fall_128 (by decide) ?_
        exact J143 k28 hk28 k45 hk45 v2 v3 v4 v5 q17 hf H locs ls hP hS (lv_sub hl [1, 2, 3, 4, 5, 6] rfl)
    · have hf := if_t hf c15
      refine lv_goto (tgt := 143) hx hb dX12_fall_85 (by decide) ?_
      exact J143 k28 hk28 k45 hk45 v2 v3 v4 v5 h hf H locs ls hP hS (lv_sub hl [0, 1, 2, 3, 4, 5] rfl)
  have J45 : ∀ (k28 : Int32 → Int32 → Int32 → HS → Option (Int32 × HS)) (hk28 : ∀ (v2 : Int32) (v3 : Int32) (v4 : Int32) (h : HS), k28 v2 v3 v4 h = some (r, h') → gG p l e (headSpec uX12_fall rmX12_fall).room s m ([.ref (a 66), .int v1] : List Value).toArray below meth c (MQ below (gQ (some (.int r)) D a C h') ([.ref (a 66), .int v1] : List Value).toArray s 0 0 (gA a)) D a C 7 h 28 [(0, .ref (a 66)), (1, .int v1), (2, .int v2), (3, .int v3), (4, .int v4)] []) (fu : Nat) (v2 : Int32) (v3 : Int32) (v4 : Int32) (v5 : Int32) (h : HS), X12_fall_B45 v1 k28 fu v2 v3 v4 v5 h = some (r, h') → gG p l e (headSpec uX12_fall rmX12_fall).room s m ([.ref (a 66), .int v1] : List Value).toArray below meth c (MQ below (gQ (some (.int r)) D a C h') ([.ref (a 66), .int v1] : List Value).toArray s 0 0 (gA a)) D a C 7 h 45 [(0, .ref (a 66)), (1, .int v1), (2, .int v2), (3, .int v3), (4, .int v4), (5, .int v5)] [] := by
    intro k28 hk28 fu
    induction fu with
    | zero => intro v2 v3 v4 v5 h hf; exact absurd hf (by simp [X12_fall_B45])
    | succ fu ih =>
      intro v2 v3 v4 v5 h hf H locs ls hP hS hl
      rw [X12_fall_B45] at hf
      refine lv_iload hx hb dX12_fall_45 (lv_at hl 5 rfl) ?_
      refine lv_aload_n hx hb dX12_fall_47 rfl (lv_at hl 0 rfl) ?_
      refine g_get (Cn := RX12) (T := TX12) (N := 21) (v := .ref (a 67)) (own := RX12) hx hb hown hts hK M_O rfl (fun _ hw => List.mem_cons_of_mem _ (u12_cls _ hw)) 0 (by decide) (List.mem_cons_of_mem _ (u12_0 _ (List.mem_of_getElem? (i := 5) rfl))) rfl rfl hP dX12_fall_48 ?_
      refine lv_iconst (v := 0) hx hb dX12_fall_51 (by decide) ?_
      obtain ⟨c8, hf⟩ := gdi_s hf
      refine g_ial hx hb hK (⟨by decide, rfl⟩ : gAI 67 30) c8 hP dX12_fall_52 ?_
      refine lv_icmp_ge (tgt := 149) hx hb dX12_fall_53 (by decide) (fun c9 => ?_) (fun c9 => ?_)
      · have hf := if_t hf c9
        obtain ⟨x10, ex10⟩ : ∃ y : Int32, y = (v4 + 1) := ⟨_, rfl⟩
        have hf := nm_s hf ex10
        refine lv_iinc (v := x10) (lv' := [(4, .int x10), (0, .ref (a 66)), (1, .int v1), (2, .int v2), (3, .int v3), (5, .int v5)]) hx hb dX12_fall_149 hl (k := 4) rfl (by rw [ex10]; rfl) (by decide) rfl (fun ls hl => ?_)
        refine lv_goto (tgt := 28) hx hb dX12_fall_152 (by decide) ?_
        exact hk28 v2 v3 x10 h hf H locs ls hP hS (lv_sub hl [1, 2, 3, 4, 0] rfl)
      · have hf := if_f hf c9
        refine lv_aload_n hx hb dX12_fall_56 rfl (lv_at hl 0 rfl) ?_
        refine g_get (Cn := RX12) (T := TX12) (N := 21) (v := .ref (a 67)) (own := RX12) hx hb hown hts hK M_O rfl (fun _ hw => List.mem_cons_of_mem _ (u12_cls _ hw)) 0 (by decide) (List.mem_cons_of_mem _ (u12_0 _ (List.mem_of_getElem? (i := 5) rfl))) rfl rfl hP dX12_fall_57 ?_
        refine lv_iload hx hb dX12_fall_60 (lv_at hl 4 rfl) ?_
        refine lv_iconst (v := 2) hx hb dX12_fall_62 (by decide) ?_
        obtain ⟨q11, hq11, hf⟩ := bind_s hf
        refine g_callS (As := [.int v4, .int 2]) (rest := [.ref (a 67)]) hx hb hml hown hts hK hN (m_X12_of l D a C ha h v4 2  q11 hq11) (va_cwS 2 hts (gUS (u12_1 _ (List.mem_of_getElem? (i := 15) rfl)) (u12_1 _ (List.mem_of_getElem? (i := 16) rfl)) (u12_1 _ (List.mem_of_getElem? (i := 7) rfl)) (u12_1 _ (List.mem_of_getElem? (i := 3) rfl))) rfl rfl rfl kdX12_of.2 ⟨Nat.le_of_ble_eq_true rfl, Nat.le_of_ble_eq_true rfl⟩) hP hS hA rfl hl.1 rfl (Nat.le_of_ble_eq_true rfl) dX12_fall_63 ⟨Nat.le_refl _, Nat.le_refl _⟩ (fun H locs hP hS => ?_)
        refine W.eq (g2 := F0 m 66 ls [.int q11, .ref (a 67)]) rfl ?_
        obtain ⟨c12, hf⟩ := gdi_s hf
        refine g_ial hx hb hK (⟨by decide, rfl⟩ : gAI 67 30) c12 hP dX12_fall_66 ?_
        refine lv_iload hx hb dX12_fall_67 (lv_at hl 5 rfl) ?_
        obtain ⟨q13, hq13, hf⟩ := bind_s hf
        refine g_callS (As := [.int (aI h 67 q11.toNatClampNeg), .int v5]) (rest := []) hx hb hml hown hts hK hN (m_X12_has l D a C ha h (aI h 67 q11.toNatClampNeg) v5  q13 hq13) (va_cwS 2 hts (gUS (u12_2 _ (List.mem_of_getElem? (i := 8) rfl)) (u12_2 _ (List.mem_of_getElem? (i := 9) rfl)) (u12_1 _ (List.mem_of_getElem? (i := 7) rfl)) (u12_1 _ (List.mem_of_getElem? (i := 12) rfl))) rfl rfl rfl kdX12_has.2 ⟨Nat.le_of_ble_eq_true rfl, Nat.le_of_ble_eq_true rfl⟩) hP hS hA rfl hl.1 rfl (Nat.le_of_ble_eq_true rfl) dX12_fall_69 ⟨Nat.le_refl _, Nat.le_refl _⟩ (fun H locs hP hS => ?_)
        refine W.eq (g2 := F0 m 72 ls [.int q13]) rfl ?_
        refine lv_iload_n hx hb dX12_fall_72 rfl (lv_at hl 1 rfl) ?_
        refine lv_iconst (v := 1) hx hb dX12_fall_73 (by decide) ?_
        refine lv_icmp_ne (tgt := 81) hx hb dX12_fall_74 (by decide) (fun c14 => ?_) (fun c14 => ?_)
        · have hf := if_f hf c14
          refine lv_iconst (v := 0) hx hb dX12_fall_81 (by decide) ?_
          exact J82 k28 hk28 (X12_fall_B45 v1 k28 fu) ih v2 v3 v4 v5 0 q13 h hf H locs ls hP hS (lv_sub hl [0, 1, 2, 3, 4, 5] rfl)
        · have hf := if_t hf c14
          refine lv_iconst (v := 1) hx hb dX12_fall_77 (by decide) ?_
          refine lv_goto (tgt := 82) hx hb dX12_fall_78 (by decide) ?_
          exact J82 k28 hk28 (X12_fall_B45 v1 k28 fu) ih v2 v3 v4 v5 1 q13 h hf H locs ls hP hS (lv_sub hl [0, 1, 2, 3, 4, 5] rfl)
  have J28 : ∀ (fu : Nat) (v2 : Int32) (v3 : Int32) (v4 : Int32) (h : HS), X12_fall_B28 v1 fu v2 v3 v4 h = some (r, h') → gG p l e (headSpec uX12_fall rmX12_fall).room s m ([.ref (a 66), .int v1] : List Value).toArray below meth c (MQ below (gQ (some (.int r)) D a C h') ([.ref (a 66), .int v1] : List Value).toArray s 0 0 (gA a)) D a C 7 h 28 [(0, .ref (a 66)), (1, .int v1), (2, .int v2), (3, .int v3), (4, .int v4)] [] := by
    intro fu
    induction fu with
    | zero => intro v2 v3 v4 h hf; exact absurd hf (by simp [X12_fall_B28])
    | succ fu ih =>
      intro v2 v3 v4 h hf H locs ls hP hS hl
      rw [X12_fall_B28] at hf
      refine lv_iload hx hb dX12_fall_28 (lv_at hl 4 rfl) ?_
      refine lv_aload_n hx hb dX12_fall_30 rfl (lv_at hl 0 rfl) ?_
      refine g_get (Cn := RX12) (T := TX12) (N := 21) (v := .ref (a 67)) (own := RX12) hx hb hown hts hK M_O rfl (fun _ hw => List.mem_cons_of_mem _ (u12_cls _ hw)) 0 (by decide) (List.mem_cons_of_mem _ (u12_0 _ (List.mem_of_getElem? (i := 5) rfl))) rfl rfl hP dX12_fall_31 ?_
      refine lv_iconst (v := 0) hx hb dX12_fall_34 (by decide) ?_
      obtain ⟨c5, hf⟩ := gdi_s hf
      refine g_ial hx hb hK (⟨by decide, rfl⟩ : gAI 67 30) c5 hP dX12_fall_35 ?_
      refine lv_icmp_ge (tgt := 155) hx hb dX12_fall_36 (by decide) (fun c6 => ?_) (fun c6 => ?_)
      · have hf := if_t hf c6
        refine lv_iload_n hx hb dX12_fall_155 rfl (lv_at hl 3 rfl) ?_
        exact g_iretW hx hb hr hlk hP hS (ret2 hf) dX12_fall_156
      · have hf := if_f hf c6
        refine lv_iload hx hb dX12_fall_39 (lv_at hl 4 rfl) ?_
        refine lv_iconst (v := 1) hx hb dX12_fall_41 (by decide) ?_
        refine lv_iadd hx hb dX12_fall_42 ?_
        refine lv_topi (fun x7 ex7 => ?_)
        have hf := nm_s hf ex7
        refine lv_istore (lv' := [(5, .int x7), (0, .ref (a 66)), (1, .int v1), (2, .int v2), (3, .int v3), (4, .int v4)]) hx hb dX12_fall_43 hl (by decide) rfl (fun ls hl => ?_)
        exact J45 (X12_fall_B28 v1 fu) ih FU v2 v3 v4 x7 h hf H locs ls hP hS (lv_sub hl [1, 2, 3, 4, 5, 0] rfl)
  unfold X12_fall at hf
  suffices hh : ∀ (H : Heap) (locs : List Loc), va_P D vwCl (gw a C h) H → va_S (gA a) s.heap H locs → W p l e (headSpec uX12_fall rmX12_fall).room s m ([.ref (a 66), .int v1] : List Value).toArray below meth c H locs 0 0 (MQ below (gQ (some (.int r)) D a C h') ([.ref (a 66), .int v1] : List Value).toArray s 0 0 (gA a)) (F0 m 0 ls []) from hh _ _ hP hS
  intro H locs hP hS
  refine lv_iload_n hx hb dX12_fall_0 rfl (lv_at hl 1 rfl) ?_
  refine lv_iconst (v := 0) hx hb dX12_fall_1 (by decide) ?_
  refine lv_iconst (v := 1) hx hb dX12_fall_2 (by decide) ?_
  obtain ⟨q1, hq1, hf⟩ := bind_s hf
  refine g_callS (As := [.int v1, .int 0, .int 1]) (rest := []) hx hb hml hown hts hK hN (m_X12_isIn l D a C ha h v1 0 1  q1 hq1) (va_cwS 3 hts (gUS (u12_1 _ (List.mem_of_getElem? (i := 5) rfl)) (u12_1 _ (List.mem_of_getElem? (i := 6) rfl)) (u12_1 _ (List.mem_of_getElem? (i := 7) rfl)) (u12_1 _ (List.mem_of_getElem? (i := 1) rfl))) rfl rfl rfl kdX12_isIn.2 ⟨Nat.le_of_ble_eq_true rfl, Nat.le_of_ble_eq_true rfl⟩) hP hS hA rfl hl.1 rfl (Nat.le_of_ble_eq_true rfl) dX12_fall_3 ⟨Nat.le_refl _, Nat.le_refl _⟩ (fun H locs hP hS => ?_)
  refine W.eq (g2 := F0 m 6 ls [.int q1]) rfl ?_
  refine lv_if_ne (tgt := 11) hx hb dX12_fall_6 (by decide) (fun c2 => ?_) (fun c2 => ?_)
  · have hf := if_f hf c2
    refine lv_aload_n hx hb dX12_fall_11 rfl (lv_at hl 0 rfl) ?_
    refine g_get (Cn := RX12) (T := TX12) (N := 21) (v := .ref (a 67)) (own := RX12) hx hb hown hts hK M_O rfl (fun _ hw => List.mem_cons_of_mem _ (u12_cls _ hw)) 0 (by decide) (List.mem_cons_of_mem _ (u12_0 _ (List.mem_of_getElem? (i := 5) rfl))) rfl rfl hP dX12_fall_12 ?_
    obtain ⟨q3, hq3, hf⟩ := bind_s hf
    refine g_callS (As := [.ref (a 67)]) (rest := []) hx hb hml hown hts hK hN (m_X12_feelsIn l D a C ha h 67 (Or.inl rfl) q3 hq3) (va_cwS 1 hts (gUS (u12_6 _ (List.mem_of_getElem? (i := 17) rfl)) (u12_6 _ (List.mem_of_getElem? (i := 18) rfl)) (u12_1 _ (List.mem_of_getElem? (i := 7) rfl)) (u12_6 _ (List.mem_of_getElem? (i := 15) rfl))) rfl rfl rfl kdX12_feelsIn.2 ⟨Nat.le_of_ble_eq_true rfl, Nat.le_of_ble_eq_true rfl⟩) hP hS hA rfl hl.1 rfl (Nat.le_of_ble_eq_true rfl) dX12_fall_15 ⟨Nat.le_refl _, Nat.le_refl _⟩ (fun H locs hP hS => ?_)
    refine W.eq (g2 := F0 m 18 ls [.int q3]) rfl ?_
    obtain ⟨q4, hq4, hf⟩ := bind_s hf
    refine g_callS (As := [.int q3]) (rest := []) hx hb hml hown hts hK hN (m_X12_bits l D a C ha h q3  q4 hq4) (va_cwS 1 hts (gUS (u12_1 _ (List.mem_of_getElem? (i := 17) rfl)) (u12_1 _ (List.mem_of_getElem? (i := 18) rfl)) (u12_1 _ (List.mem_of_getElem? (i := 7) rfl)) (u12_1 _ (List.mem_of_getElem? (i := 13) rfl))) rfl rfl rfl kdX12_bits.2 ⟨Nat.le_of_ble_eq_true rfl, Nat.le_of_ble_eq_true rfl⟩) hP hS hA rfl hl.1 rfl (Nat.le_of_ble_eq_true rfl) dX12_fall_18 ⟨Nat.le_refl _, Nat.le_refl _⟩ (fun H locs hP hS => ?_)
    refine W.eq (g2 := F0 m 21 ls [.int q4]) rfl ?_
    refine lv_istore_n (lv' := [(2, .int q4), (0, .ref (a 66)), (1, .int v1)]) hx hb dX12_fall_21 rfl hl (by decide) rfl (fun ls hl => ?_)
    refine lv_bipush (v := (-4)) hx hb dX12_fall_22 (by decide) ?_
    refine lv_istore_n (lv' := [(3, .int (-4)), (2, .int q4), (0, .ref (a 66)), (1, .int v1)]) hx hb dX12_fall_24 rfl hl (by decide) rfl (fun ls hl => ?_)
    refine lv_iconst (v := 0) hx hb dX12_fall_25 (by decide) ?_
    refine lv_istore (lv' := [(4, .int 0), (3, .int (-4)), (2, .int q4), (0, .ref (a 66)), (1, .int v1)]) hx hb dX12_fall_26 hl (by decide) rfl (fun ls hl => ?_)
    exact J28 FU q4 (-4) 0 h hf H locs ls hP hS (lv_sub hl [3, 4, 2, 1, 0] rfl)
  · have hf := if_t hf c2
    refine lv_iconst (v := (-1)) hx hb dX12_fall_9 (by decide) ?_
    exact g_iretW hx hb hr hlk hP hS (ret2 hf) dX12_fall_10

def X12_around_B29 (h : HS) (v0 : Nat) (v1 : Int32) (k4 : Int32 → Int32 → Option Int32) (v2 : Int32) (v3 : Int32) : Option Int32 :=
    nm (v3 + 1) fun x8 =>
    k4 v2 x8
def X12_around_B4 (h : HS) (v0 : Nat) (v1 : Int32) : Nat → Int32 → Int32 → Option Int32
  | 0, _, _ => none
  | fu + 1, v2, v3 =>
    gdi 0 30 <|
    (if (aI h v0 (0 : Int32).toNatClampNeg) ≤ v3 then
    some v2
    else
    (X12_has v1 v3).bind fun q3 =>
    (if q3 = 0 then
    X12_around_B29 h v0 v1 (X12_around_B4 h v0 v1 fu) v2 v3
    else
    (X12_of v3 2).bind fun q5 =>
    gdi q5 30 <|
    nm (v2 ||| (aI h v0 q5.toNatClampNeg)) fun x7 =>
    X12_around_B29 h v0 v1 (X12_around_B4 h v0 v1 fu) x7 v3))
def X12_around (h : HS) (v0 : Nat) (v1 : Int32) : Option Int32 :=
    X12_around_B4 h v0 v1 FU v1 0
def uX12_around : List Cond := .code yX12_around cX12_around 4 (some .int) :: UU
def rmX12_around : Room := { frames := 1, cells := 0, slots := 0, locals := 21 }
theorem kdX12_around : yX12_around.cls = RX12 ∧ yX12_around.cls ≠ "java/lang/invoke/MethodHandle" ∧ yX12_around.cls ≠ "java/lang/invoke/VarHandle" ∧ (parseMethodDescriptor yX12_around.desc).map (fun d => d.parameters.length) = some 2 := by decide +kernel
set_option maxHeartbeats 4000000 in
set_option maxRecDepth 100000 in
theorem m_X12_around (l : Launch) (D : va_G) (a : Nat → Nat) (C : Nat → ClassId) (ha : ginj a) (h : HS) (v0 : Nat) (v1 : Int32) (hv0 : isRow v0) (r : Int32) (hf : X12_around h v0 v1 = some r) : gM l yX12_around uX12_around rmX12_around D a C [.ref (a v0), .int v1] h (some (.int r)) h := by
  refine g_start (av := [.ref (a v0), .int v1]) (cc := cX12_around) (maxL := 4) (rt := (some .int)) (by decide) rfl (Nat.le_of_ble_eq_true rfl) ?_
  intro p e s m below meth c hx hb hr hml hown hlk hts hP hK hN ls hl
  have hA : ∀ q, gA a q → gA a q := fun _ q => q
  have hS : va_S (gA a) s.heap s.heap [] := va_S.rf
  have hl : lv_has ls 4 [(0, .ref (a v0)), (1, .int v1)] := hl
  have J29 : ∀ (k4 : Int32 → Int32 → Option Int32) (hk4 : ∀ (v2 : Int32) (v3 : Int32), k4 v2 v3 = some r → gG p l e (headSpec uX12_around rmX12_around).room s m ([.ref (a v0), .int v1] : List Value).toArray below meth c (MQ below (gQ (some (.int r)) D a C h) ([.ref (a v0), .int v1] : List Value).toArray s 0 0 (gA a)) D a C 4 h 4 [(0, .ref (a v0)), (1, .int v1), (2, .int v2), (3, .int v3)] []) (v2 : Int32) (v3 : Int32) (_ : X12_around_B29 h v0 v1 k4 v2 v3 = some r), gG p l e (headSpec uX12_around rmX12_around).room s m ([.ref (a v0), .int v1] : List Value).toArray below meth c (MQ below (gQ (some (.int r)) D a C h) ([.ref (a v0), .int v1] : List Value).toArray s 0 0 (gA a)) D a C 4 h 29 [(0, .ref (a v0)), (1, .int v1), (2, .int v2), (3, .int v3)] [] := by
    intro k4 hk4 v2 v3 hf H locs ls hP hS hl
    unfold X12_around_B29 at hf
    obtain ⟨x8, ex8⟩ : ∃ y : Int32, y = (v3 + 1) := ⟨_, rfl⟩
    have hf := nm_s hf ex8
    refine lv_iinc (v := x8) (lv' := [(3, .int x8), (0, .ref (a v0)), (1, .int v1), (2, .int v2)]) hx hb dX12_around_29 hl (k := 3) rfl (by rw [ex8]; rfl) (by decide) rfl (fun ls hl => ?_)
    refine lv_goto (tgt := 4) hx hb dX12_around_32 (by decide) ?_
    exact hk4 v2 x8 hf H locs ls hP hS (lv_sub hl [1, 2, 3, 0] rfl)
  have J4 : ∀ (fu : Nat) (v2 : Int32) (v3 : Int32), X12_around_B4 h v0 v1 fu v2 v3 = some r → gG p l e (headSpec uX12_around rmX12_around).room s m ([.ref (a v0), .int v1] : List Value).toArray below meth c (MQ below (gQ (some (.int r)) D a C h) ([.ref (a v0), .int v1] : List Value).toArray s 0 0 (gA a)) D a C 4 h 4 [(0, .ref (a v0)), (1, .int v1), (2, .int v2), (3, .int v3)] [] := by
    intro fu
    induction fu with
    | zero => intro v2 v3 hf; exact absurd hf (by simp [X12_around_B4])
    | succ fu ih =>
      intro v2 v3 hf H locs ls hP hS hl
      rw [X12_around_B4] at hf
      refine lv_iload_n hx hb dX12_around_4 rfl (lv_at hl 3 rfl) ?_
      refine lv_aload_n hx hb dX12_around_5 rfl (lv_at hl 0 rfl) ?_
      refine lv_iconst (v := 0) hx hb dX12_around_6 (by decide) ?_
      obtain ⟨c1, hf⟩ := gdi_s hf
      refine g_ial hx hb hK (row_A hv0) c1 hP dX12_around_7 ?_
      refine lv_icmp_ge (tgt := 35) hx hb dX12_around_8 (by decide) (fun c2 => ?_) (fun c2 => ?_)
      · have hf := if_t hf c2
        refine lv_iload_n hx hb dX12_around_35 rfl (lv_at hl 2 rfl) ?_
        exact g_iret hx hb hr hlk hP hS (ret1 hf) dX12_around_36
      · have hf := if_f hf c2
        refine lv_iload_n hx hb dX12_around_11 rfl (lv_at hl 1 rfl) ?_
        refine lv_iload_n hx hb dX12_around_12 rfl (lv_at hl 3 rfl) ?_
        obtain ⟨q3, hq3, hf⟩ := bind_s hf
        refine g_callS (As := [.int v1, .int v3]) (rest := []) hx hb hml hown hts hK hN (m_X12_has l D a C ha h v1 v3  q3 hq3) (va_cwS 2 hts (gUS (u12_2 _ (List.mem_of_getElem? (i := 8) rfl)) (u12_2 _ (List.mem_of_getElem? (i := 9) rfl)) (u12_1 _ (List.mem_of_getElem? (i := 7) rfl)) (u12_1 _ (List.mem_of_getElem? (i := 12) rfl))) rfl rfl rfl kdX12_has.2 ⟨Nat.le_of_ble_eq_true rfl, Nat.le_of_ble_eq_true rfl⟩) hP hS hA rfl hl.1 rfl (Nat.le_of_ble_eq_true rfl) dX12_around_13 ⟨Nat.le_refl _, Nat.le_refl _⟩ (fun H locs hP hS => ?_)
        refine W.eq (g2 := F0 m 16 ls [.int q3]) rfl ?_
        refine lv_if_eq (tgt := 29) hx hb dX12_around_16 (by decide) (fun c4 => ?_) (fun c4 => ?_)
        · have hf := if_t hf c4
          exact J29 (X12_around_B4 h v0 v1 fu) ih v2 v3 hf H locs ls hP hS (lv_sub hl [0, 1, 2, 3] rfl)
        · have hf := if_f hf c4
          refine lv_iload_n hx hb dX12_around_19 rfl (lv_at hl 2 rfl) ?_
          refine lv_aload_n hx hb dX12_around_20 rfl (lv_at hl 0 rfl) ?_
          refine lv_iload_n hx hb dX12_around_21 rfl (lv_at hl 3 rfl) ?_
          refine lv_iconst (v := 2) hx hb dX12_around_22 (by decide) ?_
          obtain ⟨q5, hq5, hf⟩ := bind_s hf
          refine g_callS (As := [.int v3, .int 2]) (rest := [.ref (a v0), .int v2]) hx hb hml hown hts hK hN (m_X12_of l D a C ha h v3 2  q5 hq5) (va_cwS 2 hts (gUS (u12_1 _ (List.mem_of_getElem? (i := 15) rfl)) (u12_1 _ (List.mem_of_getElem? (i := 16) rfl)) (u12_1 _ (List.mem_of_getElem? (i := 7) rfl)) (u12_1 _ (List.mem_of_getElem? (i := 3) rfl))) rfl rfl rfl kdX12_of.2 ⟨Nat.le_of_ble_eq_true rfl, Nat.le_of_ble_eq_true rfl⟩) hP hS hA rfl hl.1 rfl (Nat.le_of_ble_eq_true rfl) dX12_around_23 ⟨Nat.le_refl _, Nat.le_refl _⟩ (fun H locs hP hS => ?_)
          refine W.eq (g2 := F0 m 26 ls [.int q5, .ref (a v0), .int v2]) rfl ?_
          obtain ⟨c6, hf⟩ := gdi_s hf
          refine g_ial hx hb hK (row_A hv0) c6 hP dX12_around_26 ?_
          refine lv_ior hx hb dX12_around_27 ?_
          refine lv_topi (fun x7 ex7 => ?_)
          have hf := nm_s hf ex7
          refine lv_istore_n (lv' := [(2, .int x7), (0, .ref (a v0)), (1, .int v1), (3, .int v3)]) hx hb dX12_around_28 rfl hl (by decide) rfl (fun ls hl => ?_)
          exact J29 (X12_around_B4 h v0 v1 fu) ih x7 v3 hf H locs ls hP hS (lv_sub hl [1, 2, 0, 3] rfl)
  unfold X12_around at hf
  suffices hh : ∀ (H : Heap) (locs : List Loc), va_P D vwCl (gw a C h) H → va_S (gA a) s.heap H locs → W p l e (headSpec uX12_around rmX12_around).room s m ([.ref (a v0), .int v1] : List Value).toArray below meth c H locs 0 0 (MQ below (gQ (some (.int r)) D a C h) ([.ref (a v0), .int v1] : List Value).toArray s 0 0 (gA a)) (F0 m 0 ls []) from hh _ _ hP hS
  intro H locs hP hS
  refine lv_iload_n hx hb dX12_around_0 rfl (lv_at hl 1 rfl) ?_
  refine lv_istore_n (lv' := [(2, .int v1), (0, .ref (a v0)), (1, .int v1)]) hx hb dX12_around_1 rfl hl (by decide) rfl (fun ls hl => ?_)
  refine lv_iconst (v := 0) hx hb dX12_around_2 (by decide) ?_
  refine lv_istore_n (lv' := [(3, .int 0), (2, .int v1), (0, .ref (a v0)), (1, .int v1)]) hx hb dX12_around_3 rfl hl (by decide) rfl (fun ls hl => ?_)
  exact J4 FU v1 0 hf H locs ls hP hS (lv_sub hl [2, 3, 1, 0] rfl)

def X12_farOf_B7 (h : HS) (v1 : Int32) (v2 : Int32) : Nat → Int32 → Int32 → Option Int32
  | 0, _, _ => none
  | fu + 1, v3, v4 =>
    (if 9 < v4 then
    some (-4)
    else
    (X12_has v3 v2).bind fun q3 =>
    (if q3 = 0 then
    (X12_around h 67 v3).bind fun q5 =>
    nm (v4 + 1) fun x6 =>
    (X12_farOf_B7 h v1 v2 fu) q5 x6
    else
    some v4))
def X12_farOf (h : HS) (v1 : Int32) (v2 : Int32) : Option Int32 :=
    nm ((1 : Int32) <<< (v1 &&& 31)) fun x1 =>
    X12_farOf_B7 h v1 v2 FU x1 0
def uX12_farOf : List Cond := .code yX12_farOf cX12_farOf 5 (some .int) :: UU
def rmX12_farOf : Room := { frames := 2, cells := 0, slots := 0, locals := 44 }
theorem kdX12_farOf : yX12_farOf.cls = RX12 ∧ yX12_farOf.cls ≠ "java/lang/invoke/MethodHandle" ∧ yX12_farOf.cls ≠ "java/lang/invoke/VarHandle" ∧ (parseMethodDescriptor yX12_farOf.desc).map (fun d => d.parameters.length) = some 2 := by decide +kernel
set_option maxHeartbeats 4000000 in
set_option maxRecDepth 100000 in
theorem m_X12_farOf (l : Launch) (D : va_G) (a : Nat → Nat) (C : Nat → ClassId) (ha : ginj a) (h : HS) (v1 : Int32) (v2 : Int32)  (r : Int32) (hf : X12_farOf h v1 v2 = some r) : gM l yX12_farOf uX12_farOf rmX12_farOf D a C [.ref (a 66), .int v1, .int v2] h (some (.int r)) h := by
  refine g_start (av := [.ref (a 66), .int v1, .int v2]) (cc := cX12_farOf) (maxL := 5) (rt := (some .int)) (by decide) rfl (Nat.le_of_ble_eq_true rfl) ?_
  intro p e s m below meth c hx hb hr hml hown hlk hts hP hK hN ls hl
  have hA : ∀ q, gA a q → gA a q := fun _ q => q
  have hS : va_S (gA a) s.heap s.heap [] := va_S.rf
  have hl : lv_has ls 5 [(0, .ref (a 66)), (1, .int v1), (2, .int v2)] := hl
  have J7 : ∀ (fu : Nat) (v3 : Int32) (v4 : Int32), X12_farOf_B7 h v1 v2 fu v3 v4 = some r → gG p l e (headSpec uX12_farOf rmX12_farOf).room s m ([.ref (a 66), .int v1, .int v2] : List Value).toArray below meth c (MQ below (gQ (some (.int r)) D a C h) ([.ref (a 66), .int v1, .int v2] : List Value).toArray s 0 0 (gA a)) D a C 5 h 7 [(0, .ref (a 66)), (2, .int v2), (3, .int v3), (4, .int v4)] [] := by
    intro fu
    induction fu with
    | zero => intro v3 v4 hf; exact absurd hf (by simp [X12_farOf_B7])
    | succ fu ih =>
      intro v3 v4 hf H locs ls hP hS hl
      rw [X12_farOf_B7] at hf
      refine lv_iload hx hb dX12_farOf_7 (lv_at hl 3 rfl) ?_
      refine lv_bipush (v := 9) hx hb dX12_farOf_9 (by decide) ?_
      refine lv_icmp_gt (tgt := 40) hx hb dX12_farOf_11 (by decide) (fun c2 => ?_) (fun c2 => ?_)
      · have hf := if_t hf c2
        refine lv_bipush (v := (-4)) hx hb dX12_farOf_40 (by decide) ?_
        exact g_iret hx hb hr hlk hP hS (ret1 hf) dX12_farOf_42
      · have hf := if_f hf c2
        refine lv_iload_n hx hb dX12_farOf_14 rfl (lv_at hl 2 rfl) ?_
        refine lv_iload_n hx hb dX12_farOf_15 rfl (lv_at hl 1 rfl) ?_
        obtain ⟨q3, hq3, hf⟩ := bind_s hf
        refine g_callS (As := [.int v3, .int v2]) (rest := []) hx hb hml hown hts hK hN (m_X12_has l D a C ha h v3 v2  q3 hq3) (va_cwS 2 hts (gUS (u12_2 _ (List.mem_of_getElem? (i := 8) rfl)) (u12_2 _ (List.mem_of_getElem? (i := 9) rfl)) (u12_1 _ (List.mem_of_getElem? (i := 7) rfl)) (u12_1 _ (List.mem_of_getElem? (i := 12) rfl))) rfl rfl rfl kdX12_has.2 ⟨Nat.le_of_ble_eq_true rfl, Nat.le_of_ble_eq_true rfl⟩) hP hS hA rfl hl.1 rfl (Nat.le_of_ble_eq_true rfl) dX12_farOf_16 ⟨Nat.le_refl _, Nat.le_refl _⟩ (fun H locs hP hS => ?_)
        refine W.eq (g2 := F0 m 19 ls [.int q3]) rfl ?_
        refine lv_if_eq (tgt := 25) hx hb dX12_farOf_19 (by decide) (fun c4 => ?_) (fun c4 => ?_)
        · have hf := if_t hf c4
          refine lv_aload_n hx hb dX12_farOf_25 rfl (lv_at hl 0 rfl) ?_
          refine g_get (Cn := RX12) (T := TX12) (N := 21) (v := .ref (a 67)) (own := RX12) hx hb hown hts hK M_O rfl (fun _ hw => List.mem_cons_of_mem _ (u12_cls _ hw)) 0 (by decide) (List.mem_cons_of_mem _ (u12_0 _ (List.mem_of_getElem? (i := 5) rfl))) rfl rfl hP dX12_farOf_26 ?_
          refine lv_iload_n hx hb dX12_farOf_29 rfl (lv_at hl 2 rfl) ?_
          obtain ⟨q5, hq5, hf⟩ := bind_s hf
          refine g_callS (As := [.ref (a 67), .int v3]) (rest := []) hx hb hml hown hts hK hN (m_X12_around l D a C ha h 67 v3 (Or.inl rfl) q5 hq5) (va_cwS 2 hts (gUS (u12_7 _ (List.mem_of_getElem? (i := 2) rfl)) (u12_7 _ (List.mem_of_getElem? (i := 3) rfl)) (u12_1 _ (List.mem_of_getElem? (i := 7) rfl)) (u12_7 _ (List.mem_of_getElem? (i := 0) rfl))) rfl rfl rfl kdX12_around.2 ⟨Nat.le_of_ble_eq_true rfl, Nat.le_of_ble_eq_true rfl⟩) hP hS hA rfl hl.1 rfl (Nat.le_of_ble_eq_true rfl) dX12_farOf_30 ⟨Nat.le_refl _, Nat.le_refl _⟩ (fun H locs hP hS => ?_)
          refine W.eq (g2 := F0 m 33 ls [.int q5]) rfl ?_
          refine lv_istore_n (lv' := [(3, .int q5), (0, .ref (a 66)), (2, .int v2), (4, .int v4)]) hx hb dX12_farOf_33 rfl hl (by decide) rfl (fun ls hl => ?_)
          obtain ⟨x6, ex6⟩ : ∃ y : Int32, y = (v4 + 1) := ⟨_, rfl⟩
          have hf := nm_s hf ex6
          refine lv_iinc (v := x6) (lv' := [(4, .int x6), (3, .int q5), (0, .ref (a 66)), (2, .int v2)]) hx hb dX12_farOf_34 hl (k := 3) rfl (by rw [ex6]; rfl) (by decide) rfl (fun ls hl => ?_)
          refine lv_goto (tgt := 7) hx hb dX12_farOf_37 (by decide) ?_
          exact ih q5 x6 hf H locs ls hP hS (lv_sub hl [2, 3, 1, 0] rfl)
        · have hf := if_f hf c4
          refine lv_iload hx hb dX12_farOf_22 (lv_at hl 3 rfl) ?_
          exact g_iret hx hb hr hlk hP hS (ret1 hf) dX12_farOf_24
  unfold X12_farOf at hf
  suffices hh : ∀ (H : Heap) (locs : List Loc), va_P D vwCl (gw a C h) H → va_S (gA a) s.heap H locs → W p l e (headSpec uX12_farOf rmX12_farOf).room s m ([.ref (a 66), .int v1, .int v2] : List Value).toArray below meth c H locs 0 0 (MQ below (gQ (some (.int r)) D a C h) ([.ref (a 66), .int v1, .int v2] : List Value).toArray s 0 0 (gA a)) (F0 m 0 ls []) from hh _ _ hP hS
  intro H locs hP hS
  refine lv_iconst (v := 1) hx hb dX12_farOf_0 (by decide) ?_
  refine lv_iload_n hx hb dX12_farOf_1 rfl (lv_at hl 1 rfl) ?_
  refine lv_ishl hx hb dX12_farOf_2 ?_
  refine lv_topi (fun x1 ex1 => ?_)
  have hf := nm_s hf ex1
  refine lv_istore_n (lv' := [(3, .int x1), (0, .ref (a 66)), (1, .int v1), (2, .int v2)]) hx hb dX12_farOf_3 rfl hl (by decide) rfl (fun ls hl => ?_)
  refine lv_iconst (v := 0) hx hb dX12_farOf_4 (by decide) ?_
  refine lv_istore (lv' := [(4, .int 0), (3, .int x1), (0, .ref (a 66)), (1, .int v1), (2, .int v2)]) hx hb dX12_farOf_5 hl (by decide) rfl (fun ls hl => ?_)
  exact J7 FU x1 0 hf H locs ls hP hS (lv_sub hl [2, 4, 1, 0] rfl)

def X12_far (h : HS) (v1 : Int32) (v2 : Int32) : Option Int32 :=
    (X12_isOne h v1).bind fun q1 =>
    (if q1 = 0 then
    some (-1)
    else
    (X12_isOne h v2).bind fun q3 =>
    (if q3 = 0 then
    some (-1)
    else
    (X12_farOf h v1 v2).bind fun q5 =>
    some q5))
def uX12_far : List Cond := .code yX12_far cX12_far 3 (some .int) :: UU
def rmX12_far : Room := { frames := 3, cells := 0, slots := 0, locals := 68 }
theorem kdX12_far : yX12_far.cls = RX12 ∧ yX12_far.cls ≠ "java/lang/invoke/MethodHandle" ∧ yX12_far.cls ≠ "java/lang/invoke/VarHandle" ∧ (parseMethodDescriptor yX12_far.desc).map (fun d => d.parameters.length) = some 2 := by decide +kernel
set_option maxHeartbeats 4000000 in
set_option maxRecDepth 100000 in
theorem m_X12_far (l : Launch) (D : va_G) (a : Nat → Nat) (C : Nat → ClassId) (ha : ginj a) (h : HS) (v1 : Int32) (v2 : Int32)  (r : Int32) (hf : X12_far h v1 v2 = some r) : gM l yX12_far uX12_far rmX12_far D a C [.ref (a 66), .int v1, .int v2] h (some (.int r)) h := by
  refine g_start (av := [.ref (a 66), .int v1, .int v2]) (cc := cX12_far) (maxL := 3) (rt := (some .int)) (by decide) rfl (Nat.le_of_ble_eq_true rfl) ?_
  intro p e s m below meth c hx hb hr hml hown hlk hts hP hK hN ls hl
  have hA : ∀ q, gA a q → gA a q := fun _ q => q
  have hS : va_S (gA a) s.heap s.heap [] := va_S.rf
  have hl : lv_has ls 3 [(0, .ref (a 66)), (1, .int v1), (2, .int v2)] := hl
  unfold X12_far at hf
  refine lv_aload_n hx hb dX12_far_0 rfl (lv_at hl 0 rfl) ?_
  refine lv_iload_n hx hb dX12_far_1 rfl (lv_at hl 1 rfl) ?_
  obtain ⟨q1, hq1, hf⟩ := bind_s hf
  refine g_callV (As := [.int v1]) (rest := []) hx hb hml hown hts hK hN (m_X12_isOne l D a C ha h v1  q1 hq1) (cwV 1 hts (gUV (u12_1 _ (List.mem_of_getElem? (i := 9) rfl)) (u12_1 _ (List.mem_of_getElem? (i := 10) rfl)) (u12_1 _ (List.mem_of_getElem? (i := 11) rfl)) (u12_1 _ (List.mem_of_getElem? (i := 7) rfl)) (u12_1 _ (List.mem_of_getElem? (i := 4) rfl))) rfl rfl rfl kdX12_isOne ⟨Nat.le_of_ble_eq_true rfl, Nat.le_of_ble_eq_true rfl⟩) M_O rfl rfl hP hS hA rfl hl.1 rfl (Nat.le_of_ble_eq_true rfl) dX12_far_2 ⟨Nat.le_refl _, Nat.le_refl _⟩ (fun H locs hP hS => ?_)
  refine W.eq (g2 := F0 m 5 ls [.int q1]) rfl ?_
  refine lv_if_eq (tgt := 25) hx hb dX12_far_5 (by decide) (fun c2 => ?_) (fun c2 => ?_)
  · have hf := if_t hf c2
    refine lv_iconst (v := (-1)) hx hb dX12_far_25 (by decide) ?_
    exact g_iret hx hb hr hlk hP hS (ret1 hf) dX12_far_26
  · have hf := if_f hf c2
    refine lv_aload_n hx hb dX12_far_8 rfl (lv_at hl 0 rfl) ?_
    refine lv_iload_n hx hb dX12_far_9 rfl (lv_at hl 2 rfl) ?_
    obtain ⟨q3, hq3, hf⟩ := bind_s hf
    refine g_callV (As := [.int v2]) (rest := []) hx hb hml hown hts hK hN (m_X12_isOne l D a C ha h v2  q3 hq3) (cwV 1 hts (gUV (u12_1 _ (List.mem_of_getElem? (i := 9) rfl)) (u12_1 _ (List.mem_of_getElem? (i := 10) rfl)) (u12_1 _ (List.mem_of_getElem? (i := 11) rfl)) (u12_1 _ (List.mem_of_getElem? (i := 7) rfl)) (u12_1 _ (List.mem_of_getElem? (i := 4) rfl))) rfl rfl rfl kdX12_isOne ⟨Nat.le_of_ble_eq_true rfl, Nat.le_of_ble_eq_true rfl⟩) M_O rfl rfl hP hS hA rfl hl.1 rfl (Nat.le_of_ble_eq_true rfl) dX12_far_10 ⟨Nat.le_refl _, Nat.le_refl _⟩ (fun H locs hP hS => ?_)
    refine W.eq (g2 := F0 m 13 ls [.int q3]) rfl ?_
    refine lv_if_eq (tgt := 25) hx hb dX12_far_13 (by decide) (fun c4 => ?_) (fun c4 => ?_)
    · have hf := if_t hf c4
      refine lv_iconst (v := (-1)) hx hb dX12_far_25 (by decide) ?_
      exact g_iret hx hb hr hlk hP hS (ret1 hf) dX12_far_26
    · have hf := if_f hf c4
      refine lv_aload_n hx hb dX12_far_16 rfl (lv_at hl 0 rfl) ?_
      refine lv_iload_n hx hb dX12_far_17 rfl (lv_at hl 1 rfl) ?_
      refine lv_iload_n hx hb dX12_far_18 rfl (lv_at hl 2 rfl) ?_
      obtain ⟨q5, hq5, hf⟩ := bind_s hf
      refine g_callV (As := [.int v1, .int v2]) (rest := []) hx hb hml hown hts hK hN (m_X12_farOf l D a C ha h v1 v2  q5 hq5) (cwV 2 hts (gUV (u12_7 _ (List.mem_of_getElem? (i := 5) rfl)) (u12_7 _ (List.mem_of_getElem? (i := 6) rfl)) (u12_7 _ (List.mem_of_getElem? (i := 7) rfl)) (u12_1 _ (List.mem_of_getElem? (i := 7) rfl)) (u12_7 _ (List.mem_of_getElem? (i := 1) rfl))) rfl rfl rfl kdX12_farOf ⟨Nat.le_of_ble_eq_true rfl, Nat.le_of_ble_eq_true rfl⟩) M_O rfl rfl hP hS hA rfl hl.1 rfl (Nat.le_of_ble_eq_true rfl) dX12_far_19 ⟨Nat.le_refl _, Nat.le_refl _⟩ (fun H locs hP hS => ?_)
      refine W.eq (g2 := F0 m 22 ls [.int q5]) rfl ?_
      refine lv_goto (tgt := 26) hx hb dX12_far_22 (by decide) ?_
      exact g_iret hx hb hr hlk hP hS (ret1 hf) dX12_far_26

def X12_partsIn_B69 (h : HS) (v0 : Nat) (k12 : Int32 → Int32 → Int32 → Option Int32) (v1 : Int32) (v2 : Int32) (v3 : Int32) : Option Int32 :=
    nm (v3 + 1) fun x13 =>
    k12 v1 v2 x13
def X12_partsIn_B38 (h : HS) (v0 : Nat) (k12 : Int32 → Int32 → Int32 → Option Int32) : Nat → Int32 → Int32 → Int32 → Int32 → Int32 → Option Int32
  | 0, _, _, _, _, _ => none
  | fu + 1, v1, v2, v3, v4, v5 =>
    (if 9 ≤ v5 then
    nm (v1 &&& (v4 ^^^ (-1))) fun x9 =>
    nm (v2 + 1) fun x10 =>
    X12_partsIn_B69 h v0 k12 x9 x10 v3
    else
    (X12_around h v0 v4).bind fun q11 =>
    nm (v5 + 1) fun x12 =>
    (X12_partsIn_B38 h v0 k12 fu) v1 v2 v3 q11 x12)
def X12_partsIn_B12 (h : HS) (v0 : Nat) : Nat → Int32 → Int32 → Int32 → Option Int32
  | 0, _, _, _ => none
  | fu + 1, v1, v2, v3 =>
    gdi 0 30 <|
    (if (aI h v0 (0 : Int32).toNatClampNeg) ≤ v3 then
    some v2
    else
    (X12_has v1 v3).bind fun q5 =>
    (if q5 = 0 then
    X12_partsIn_B69 h v0 (X12_partsIn_B12 h v0 fu) v1 v2 v3
    else
    nm ((1 : Int32) <<< (v3 &&& 31)) fun x7 =>
    X12_partsIn_B38 h v0 (X12_partsIn_B12 h v0 fu) FU v1 v2 v3 x7 0))
def X12_partsIn (h : HS) (v0 : Nat) : Option Int32 :=
    gdi 0 30 <|
    nm (((1 : Int32) <<< ((aI h v0 (0 : Int32).toNatClampNeg) &&& 31)) - 1) fun x2 =>
    X12_partsIn_B12 h v0 FU x2 0 0
def uX12_partsIn : List Cond := .code yX12_partsIn cX12_partsIn 6 (some .int) :: UU
def rmX12_partsIn : Room := { frames := 2, cells := 0, slots := 0, locals := 44 }
theorem kdX12_partsIn : yX12_partsIn.cls = RX12 ∧ yX12_partsIn.cls ≠ "java/lang/invoke/MethodHandle" ∧ yX12_partsIn.cls ≠ "java/lang/invoke/VarHandle" ∧ (parseMethodDescriptor yX12_partsIn.desc).map (fun d => d.parameters.length) = some 1 := by decide +kernel
set_option maxHeartbeats 4000000 in
set_option maxRecDepth 100000 in
theorem m_X12_partsIn (l : Launch) (D : va_G) (a : Nat → Nat) (C : Nat → ClassId) (ha : ginj a) (h : HS) (v0 : Nat) (hv0 : isRow v0) (r : Int32) (hf : X12_partsIn h v0 = some r) : gM l yX12_partsIn uX12_partsIn rmX12_partsIn D a C [.ref (a v0)] h (some (.int r)) h := by
  refine g_start (av := [.ref (a v0)]) (cc := cX12_partsIn) (maxL := 6) (rt := (some .int)) (by decide) rfl (Nat.le_of_ble_eq_true rfl) ?_
  intro p e s m below meth c hx hb hr hml hown hlk hts hP hK hN ls hl
  have hA : ∀ q, gA a q → gA a q := fun _ q => q
  have hS : va_S (gA a) s.heap s.heap [] := va_S.rf
  have hl : lv_has ls 6 [(0, .ref (a v0))] := hl
  have J69 : ∀ (k12 : Int32 → Int32 → Int32 → Option Int32) (hk12 : ∀ (v1 : Int32) (v2 : Int32) (v3 : Int32), k12 v1 v2 v3 = some r → gG p l e (headSpec uX12_partsIn rmX12_partsIn).room s m ([.ref (a v0)] : List Value).toArray below meth c (MQ below (gQ (some (.int r)) D a C h) ([.ref (a v0)] : List Value).toArray s 0 0 (gA a)) D a C 6 h 12 [(0, .ref (a v0)), (1, .int v1), (2, .int v2), (3, .int v3)] []) (v1 : Int32) (v2 : Int32) (v3 : Int32) (_ : X12_partsIn_B69 h v0 k12 v1 v2 v3 = some r), gG p l e (headSpec uX12_partsIn rmX12_partsIn).room s m ([.ref (a v0)] : List Value).toArray below meth c (MQ below (gQ (some (.int r)) D a C h) ([.ref (a v0)] : List Value).toArray s 0 0 (gA a)) D a C 6 h 69 [(0, .ref (a v0)), (1, .int v1), (2, .int v2), (3, .int v3)] [] := by
    intro k12 hk12 v1 v2 v3 hf H locs ls hP hS hl
    unfold X12_partsIn_B69 at hf
    obtain ⟨x13, ex13⟩ : ∃ y : Int32, y = (v3 + 1) := ⟨_, rfl⟩
    have hf := nm_s hf ex13
    refine lv_iinc (v := x13) (lv' := [(3, .int x13), (0, .ref (a v0)), (1, .int v1), (2, .int v2)]) hx hb dX12_partsIn_69 hl (k := 3) rfl (by rw [ex13]; rfl) (by decide) rfl (fun ls hl => ?_)
    refine lv_goto (tgt := 12) hx hb dX12_partsIn_72 (by decide) ?_
    exact hk12 v1 v2 x13 hf H locs ls hP hS (lv_sub hl [1, 2, 3, 0] rfl)
  have J38 : ∀ (k12 : Int32 → Int32 → Int32 → Option Int32) (hk12 : ∀ (v1 : Int32) (v2 : Int32) (v3 : Int32), k12 v1 v2 v3 = some r → gG p l e (headSpec uX12_partsIn rmX12_partsIn).room s m ([.ref (a v0)] : List Value).toArray below meth c (MQ below (gQ (some (.int r)) D a C h) ([.ref (a v0)] : List Value).toArray s 0 0 (gA a)) D a C 6 h 12 [(0, .ref (a v0)), (1, .int v1), (2, .int v2), (3, .int v3)] []) (fu : Nat) (v1 : Int32) (v2 : Int32) (v3 : Int32) (v4 : Int32) (v5 : Int32), X12_partsIn_B38 h v0 k12 fu v1 v2 v3 v4 v5 = some r → gG p l e (headSpec uX12_partsIn rmX12_partsIn).room s m ([.ref (a v0)] : List Value).toArray below meth c (MQ below (gQ (some (.int r)) D a C h) ([.ref (a v0)] : List Value).toArray s 0 0 (gA a)) D a C 6 h 38 [(0, .ref (a v0)), (1, .int v1), (2, .int v2), (3, .int v3), (4, .int v4), (5, .int v5)] [] := by
    intro k12 hk12 fu
    induction fu with
    | zero => intro v1 v2 v3 v4 v5 hf; exact absurd hf (by simp [X12_partsIn_B38])
    | succ fu ih =>
      intro v1 v2 v3 v4 v5 hf H locs ls hP hS hl
      rw [X12_partsIn_B38] at hf
      refine lv_iload hx hb dX12_partsIn_38 (lv_at hl 5 rfl) ?_
      refine lv_bipush (v := 9) hx hb dX12_partsIn_40 (by decide) ?_
      refine lv_icmp_ge (tgt := 59) hx hb dX12_partsIn_42 (by decide) (fun c8 => ?_) (fun c8 => ?_)
      · have hf := if_t hf c8
        refine lv_iload_n hx hb dX12_partsIn_59 rfl (lv_at hl 1 rfl) ?_
        refine lv_iload hx hb dX12_partsIn_60 (lv_at hl 4 rfl) ?_
        refine lv_iconst (v := (-1)) hx hb dX12_partsIn_62 (by decide) ?_
        refine lv_ixor hx hb dX12_partsIn_63 ?_
        refine lv_iand hx hb dX12_partsIn_64 ?_
        refine lv_topi (fun x9 ex9 => ?_)
        have hf := nm_s hf ex9
        refine lv_istore_n (lv' := [(1, .int x9), (0, .ref (a v0)), (2, .int v2), (3, .int v3), (4, .int v4), (5, .int v5)]) hx hb dX12_partsIn_65 rfl hl (by decide) rfl (fun ls hl => ?_)
        obtain ⟨x10, ex10⟩ : ∃ y : Int32, y = (v2 + 1) := ⟨_, rfl⟩
        have hf := nm_s hf ex10
        refine lv_iinc (v := x10) (lv' := [(2, .int x10), (1, .int x9), (0, .ref (a v0)), (3, .int v3), (4, .int v4), (5, .int v5)]) hx hb dX12_partsIn_66 hl (k := 2) rfl (by rw [ex10]; rfl) (by decide) rfl (fun ls hl => ?_)
        exact J69 k12 hk12 x9 x10 v3 hf H locs ls hP hS (lv_sub hl [2, 1, 0, 3] rfl)
      · have hf := if_f hf c8
        refine lv_aload_n hx hb dX12_partsIn_45 rfl (lv_at hl 0 rfl) ?_
        refine lv_iload hx hb dX12_partsIn_46 (lv_at hl 4 rfl) ?_
        obtain ⟨q11, hq11, hf⟩ := bind_s hf
        refine g_callS (As := [.ref (a v0), .int v4]) (rest := []) hx hb hml hown hts hK hN (m_X12_around l D a C ha h v0 v4 hv0 q11 hq11) (va_cwS 2 hts (gUS (u12_7 _ (List.mem_of_getElem? (i := 2) rfl)) (u12_7 _ (List.mem_of_getElem? (i := 3) rfl)) (u12_1 _ (List.mem_of_getElem? (i := 7) rfl)) (u12_7 _ (List.mem_of_getElem? (i := 0) rfl))) rfl rfl rfl kdX12_around.2 ⟨Nat.le_of_ble_eq_true rfl, Nat.le_of_ble_eq_true rfl⟩) hP hS hA rfl hl.1 rfl (Nat.le_of_ble_eq_true rfl) dX12_partsIn_48 ⟨Nat.le_refl _, Nat.le_refl _⟩ (fun H locs hP hS => ?_)
        refine W.eq (g2 := F0 m 51 ls [.int q11]) rfl ?_
        refine lv_istore (lv' := [(4, .int q11), (0, .ref (a v0)), (1, .int v1), (2, .int v2), (3, .int v3), (5, .int v5)]) hx hb dX12_partsIn_51 hl (by decide) rfl (fun ls hl => ?_)
        obtain ⟨x12, ex12⟩ : ∃ y : Int32, y = (v5 + 1) := ⟨_, rfl⟩
        have hf := nm_s hf ex12
        refine lv_iinc (v := x12) (lv' := [(5, .int x12), (4, .int q11), (0, .ref (a v0)), (1, .int v1), (2, .int v2), (3, .int v3)]) hx hb dX12_partsIn_53 hl (k := 5) rfl (by rw [ex12]; rfl) (by decide) rfl (fun ls hl => ?_)
        refine lv_goto (tgt := 38) hx hb dX12_partsIn_56 (by decide) ?_
        exact ih v1 v2 v3 q11 x12 hf H locs ls hP hS (lv_sub hl [2, 3, 4, 5, 1, 0] rfl)
  have J12 : ∀ (fu : Nat) (v1 : Int32) (v2 : Int32) (v3 : Int32), X12_partsIn_B12 h v0 fu v1 v2 v3 = some r → gG p l e (headSpec uX12_partsIn rmX12_partsIn).room s m ([.ref (a v0)] : List Value).toArray below meth c (MQ below (gQ (some (.int r)) D a C h) ([.ref (a v0)] : List Value).toArray s 0 0 (gA a)) D a C 6 h 12 [(0, .ref (a v0)), (1, .int v1), (2, .int v2), (3, .int v3)] [] := by
    intro fu
    induction fu with
    | zero => intro v1 v2 v3 hf; exact absurd hf (by simp [X12_partsIn_B12])
    | succ fu ih =>
      intro v1 v2 v3 hf H locs ls hP hS hl
      rw [X12_partsIn_B12] at hf
      refine lv_iload_n hx hb dX12_partsIn_12 rfl (lv_at hl 3 rfl) ?_
      refine lv_aload_n hx hb dX12_partsIn_13 rfl (lv_at hl 0 rfl) ?_
      refine lv_iconst (v := 0) hx hb dX12_partsIn_14 (by decide) ?_
      obtain ⟨c3, hf⟩ := gdi_s hf
      refine g_ial hx hb hK (row_A hv0) c3 hP dX12_partsIn_15 ?_
      refine lv_icmp_ge (tgt := 75) hx hb dX12_partsIn_16 (by decide) (fun c4 => ?_) (fun c4 => ?_)
      · have hf := if_t hf c4
        refine lv_iload_n hx hb dX12_partsIn_75 rfl (lv_at hl 2 rfl) ?_
        exact g_iret hx hb hr hlk hP hS (ret1 hf) dX12_partsIn_76
      · have hf := if_f hf c4
        refine lv_iload_n hx hb dX12_partsIn_19 rfl (lv_at hl 1 rfl) ?_
        refine lv_iload_n hx hb dX12_partsIn_20 rfl (lv_at hl 3 rfl) ?_
        obtain ⟨q5, hq5, hf⟩ := bind_s hf
        refine g_callS (As := [.int v1, .int v3]) (rest := []) hx hb hml hown hts hK hN (m_X12_has l D a C ha h v1 v3  q5 hq5) (va_cwS 2 hts (gUS (u12_2 _ (List.mem_of_getElem? (i := 8) rfl)) (u12_2 _ (List.mem_of_getElem? (i := 9) rfl)) (u12_1 _ (List.mem_of_getElem? (i := 7) rfl)) (u12_1 _ (List.mem_of_getElem? (i := 12) rfl))) rfl rfl rfl kdX12_has.2 ⟨Nat.le_of_ble_eq_true rfl, Nat.le_of_ble_eq_true rfl⟩) hP hS hA rfl hl.1 rfl (Nat.le_of_ble_eq_true rfl) dX12_partsIn_21 ⟨Nat.le_refl _, Nat.le_refl _⟩ (fun H locs hP hS => ?_)
        refine W.eq (g2 := F0 m 24 ls [.int q5]) rfl ?_
        refine lv_if_ne (tgt := 30) hx hb dX12_partsIn_24 (by decide) (fun c6 => ?_) (fun c6 => ?_)
        · have hf := if_f hf c6
          refine lv_iconst (v := 1) hx hb dX12_partsIn_30 (by decide) ?_
          refine lv_iload_n hx hb dX12_partsIn_31 rfl (lv_at hl 3 rfl) ?_
          refine lv_ishl hx hb dX12_partsIn_32 ?_
          refine lv_topi (fun x7 ex7 => ?_)
          have hf := nm_s hf ex7
          refine lv_istore (lv' := [(4, .int x7), (0, .ref (a v0)), (1, .int v1), (2, .int v2), (3, .int v3)]) hx hb dX12_partsIn_33 hl (by decide) rfl (fun ls hl => ?_)
          refine lv_iconst (v := 0) hx hb dX12_partsIn_35 (by decide) ?_
          refine lv_istore (lv' := [(5, .int 0), (4, .int x7), (0, .ref (a v0)), (1, .int v1), (2, .int v2), (3, .int v3)]) hx hb dX12_partsIn_36 hl (by decide) rfl (fun ls hl => ?_)
          exact J38 (X12_partsIn_B12 h v0 fu) ih FU v1 v2 v3 x7 0 hf H locs ls hP hS (lv_sub hl [2, 3, 4, 5, 1, 0] rfl)
        · have hf := if_t hf c6
          refine lv_goto (tgt := 69) hx hb dX12_partsIn_27 (by decide) ?_
          exact J69 (X12_partsIn_B12 h v0 fu) ih v1 v2 v3 hf H locs ls hP hS (lv_sub hl [0, 1, 2, 3] rfl)
  unfold X12_partsIn at hf
  suffices hh : ∀ (H : Heap) (locs : List Loc), va_P D vwCl (gw a C h) H → va_S (gA a) s.heap H locs → W p l e (headSpec uX12_partsIn rmX12_partsIn).room s m ([.ref (a v0)] : List Value).toArray below meth c H locs 0 0 (MQ below (gQ (some (.int r)) D a C h) ([.ref (a v0)] : List Value).toArray s 0 0 (gA a)) (F0 m 0 ls []) from hh _ _ hP hS
  intro H locs hP hS
  refine lv_iconst (v := 1) hx hb dX12_partsIn_0 (by decide) ?_
  refine lv_aload_n hx hb dX12_partsIn_1 rfl (lv_at hl 0 rfl) ?_
  refine lv_iconst (v := 0) hx hb dX12_partsIn_2 (by decide) ?_
  obtain ⟨c1, hf⟩ := gdi_s hf
  refine g_ial hx hb hK (row_A hv0) c1 hP dX12_partsIn_3 ?_
  refine lv_ishl hx hb dX12_partsIn_4 ?_
  refine lv_iconst (v := 1) hx hb dX12_partsIn_5 (by decide) ?_
  refine lv_isub hx hb dX12_partsIn_6 ?_
  refine lv_topi (fun x2 ex2 => ?_)
  have hf := nm_s hf ex2
  refine lv_istore_n (lv' := [(1, .int x2), (0, .ref (a v0))]) hx hb dX12_partsIn_7 rfl hl (by decide) rfl (fun ls hl => ?_)
  refine lv_iconst (v := 0) hx hb dX12_partsIn_8 (by decide) ?_
  refine lv_istore_n (lv' := [(2, .int 0), (1, .int x2), (0, .ref (a v0))]) hx hb dX12_partsIn_9 rfl hl (by decide) rfl (fun ls hl => ?_)
  refine lv_iconst (v := 0) hx hb dX12_partsIn_10 (by decide) ?_
  refine lv_istore_n (lv' := [(3, .int 0), (2, .int 0), (1, .int x2), (0, .ref (a v0))]) hx hb dX12_partsIn_11 rfl hl (by decide) rfl (fun ls hl => ?_)
  exact J12 FU x2 0 0 hf H locs ls hP hS (lv_sub hl [3, 2, 1, 0] rfl)

def X12_widest_B46 (h : HS) (k4 : Int32 → Int32 → Option Int32) (k16 : Int32 → Int32 → Int32 → Option Int32) (v2 : Int32) (v3 : Int32) (s0 : Int32) : Option Int32 :=
    nm (v3 + 1) fun x9 =>
    k16 s0 v2 x9
def X12_widest_B16 (h : HS) (k4 : Int32 → Int32 → Option Int32) : Nat → Int32 → Int32 → Int32 → Option Int32
  | 0, _, _, _ => none
  | fu + 1, v1, v2, v3 =>
    gdi 0 30 <|
    (if (aI h 67 (0 : Int32).toNatClampNeg) ≤ v3 then
    nm (v2 + 1) fun x5 =>
    k4 v1 x5
    else
    (X12_farOf h v2 v3).bind fun q6 =>
    (if q6 ≤ v1 then
    X12_widest_B46 h k4 (X12_widest_B16 h k4 fu) v2 v3 v1
    else
    (X12_farOf h v2 v3).bind fun q8 =>
    X12_widest_B46 h k4 (X12_widest_B16 h k4 fu) v2 v3 q8))
def X12_widest_B4 (h : HS) : Nat → Int32 → Int32 → Option Int32
  | 0, _, _ => none
  | fu + 1, v1, v2 =>
    gdi 0 30 <|
    (if (aI h 67 (0 : Int32).toNatClampNeg) ≤ v2 then
    some v1
    else
    X12_widest_B16 h (X12_widest_B4 h fu) FU v1 v2 0)
def X12_widest (h : HS) : Option Int32 :=
    X12_widest_B4 h FU 0 0
def uX12_widest : List Cond := .code yX12_widest cX12_widest 4 (some .int) :: UU
def rmX12_widest : Room := { frames := 3, cells := 0, slots := 0, locals := 68 }
theorem kdX12_widest : yX12_widest.cls = RX12 ∧ yX12_widest.cls ≠ "java/lang/invoke/MethodHandle" ∧ yX12_widest.cls ≠ "java/lang/invoke/VarHandle" ∧ (parseMethodDescriptor yX12_widest.desc).map (fun d => d.parameters.length) = some 0 := by decide +kernel
set_option maxHeartbeats 4000000 in
set_option maxRecDepth 100000 in
theorem m_X12_widest (l : Launch) (D : va_G) (a : Nat → Nat) (C : Nat → ClassId) (ha : ginj a) (h : HS)  (r : Int32) (hf : X12_widest h = some r) : gM l yX12_widest uX12_widest rmX12_widest D a C [.ref (a 66)] h (some (.int r)) h := by
  refine g_start (av := [.ref (a 66)]) (cc := cX12_widest) (maxL := 4) (rt := (some .int)) (by decide) rfl (Nat.le_of_ble_eq_true rfl) ?_
  intro p e s m below meth c hx hb hr hml hown hlk hts hP hK hN ls hl
  have hA : ∀ q, gA a q → gA a q := fun _ q => q
  have hS : va_S (gA a) s.heap s.heap [] := va_S.rf
  have hl : lv_has ls 4 [(0, .ref (a 66))] := hl
  have J46 : ∀ (k4 : Int32 → Int32 → Option Int32) (hk4 : ∀ (v1 : Int32) (v2 : Int32), k4 v1 v2 = some r → gG p l e (headSpec uX12_widest rmX12_widest).room s m ([.ref (a 66)] : List Value).toArray below meth c (MQ below (gQ (some (.int r)) D a C h) ([.ref (a 66)] : List Value).toArray s 0 0 (gA a)) D a C 4 h 4 [(0, .ref (a 66)), (1, .int v1), (2, .int v2)] []) (k16 : Int32 → Int32 → Int32 → Option Int32) (hk16 : ∀ (v1 : Int32) (v2 : Int32) (v3 : Int32), k16 v1 v2 v3 = some r → gG p l e (headSpec uX12_widest rmX12_widest).room s m ([.ref (a 66)] : List Value).toArray below meth c (MQ below (gQ (some (.int r)) D a C h) ([.ref (a 66)] : List Value).toArray s 0 0 (gA a)) D a C 4 h 16 [(0, .ref (a 66)), (1, .int v1), (2, .int v2), (3, .int v3)] []) (v2 : Int32) (v3 : Int32) (s0 : Int32) (_ : X12_widest_B46 h k4 k16 v2 v3 s0 = some r), gG p l e (headSpec uX12_widest rmX12_widest).room s m ([.ref (a 66)] : List Value).toArray below meth c (MQ below (gQ (some (.int r)) D a C h) ([.ref (a 66)] : List Value).toArray s 0 0 (gA a)) D a C 4 h 46 [(0, .ref (a 66)), (2, .int v2), (3, .int v3)] [.int s0] := by
    intro k4 hk4 k16 hk16 v2 v3 s0 hf H locs ls hP hS hl
    unfold X12_widest_B46 at hf
    refine lv_istore_n (lv' := [(1, .int s0), (0, .ref (a 66)), (2, .int v2), (3, .int v3)]) hx hb dX12_widest_46 rfl hl (by decide) rfl (fun ls hl => ?_)
    obtain ⟨x9, ex9⟩ : ∃ y : Int32, y = (v3 + 1) := ⟨_, rfl⟩
    have hf := nm_s hf ex9
    refine lv_iinc (v := x9) (lv' := [(3, .int x9), (1, .int s0), (0, .ref (a 66)), (2, .int v2)]) hx hb dX12_widest_47 hl (k := 3) rfl (by rw [ex9]; rfl) (by decide) rfl (fun ls hl => ?_)
    refine lv_goto (tgt := 16) hx hb dX12_widest_50 (by decide) ?_
    exact hk16 s0 v2 x9 hf H locs ls hP hS (lv_sub hl [2, 1, 3, 0] rfl)
  have J16 : ∀ (k4 : Int32 → Int32 → Option Int32) (hk4 : ∀ (v1 : Int32) (v2 : Int32), k4 v1 v2 = some r → gG p l e (headSpec uX12_widest rmX12_widest).room s m ([.ref (a 66)] : List Value).toArray below meth c (MQ below (gQ (some (.int r)) D a C h) ([.ref (a 66)] : List Value).toArray s 0 0 (gA a)) D a C 4 h 4 [(0, .ref (a 66)), (1, .int v1), (2, .int v2)] []) (fu : Nat) (v1 : Int32) (v2 : Int32) (v3 : Int32), X12_widest_B16 h k4 fu v1 v2 v3 = some r → gG p l e (headSpec uX12_widest rmX12_widest).room s m ([.ref (a 66)] : List Value).toArray below meth c (MQ below (gQ (some (.int r)) D a C h) ([.ref (a 66)] : List Value).toArray s 0 0 (gA a)) D a C 4 h 16 [(0, .ref (a 66)), (1, .int v1), (2, .int v2), (3, .int v3)] [] := by
    intro k4 hk4 fu
    induction fu with
    | zero => intro v1 v2 v3 hf; exact absurd hf (by simp [X12_widest_B16])
    | succ fu ih =>
      intro v1 v2 v3 hf H locs ls hP hS hl
      rw [X12_widest_B16] at hf
      refine lv_iload_n hx hb dX12_widest_16 rfl (lv_at hl 3 rfl) ?_
      refine lv_aload_n hx hb dX12_widest_17 rfl (lv_at hl 0 rfl) ?_
      refine g_get (Cn := RX12) (T := TX12) (N := 21) (v := .ref (a 67)) (own := RX12) hx hb hown hts hK M_O rfl (fun _ hw => List.mem_cons_of_mem _ (u12_cls _ hw)) 0 (by decide) (List.mem_cons_of_mem _ (u12_0 _ (List.mem_of_getElem? (i := 5) rfl))) rfl rfl hP dX12_widest_18 ?_
      refine lv_iconst (v := 0) hx hb dX12_widest_21 (by decide) ?_
      obtain ⟨c3, hf⟩ := gdi_s hf
      refine g_ial hx hb hK (⟨by decide, rfl⟩ : gAI 67 30) c3 hP dX12_widest_22 ?_
      refine lv_icmp_ge (tgt := 53) hx hb dX12_widest_23 (by decide) (fun c4 => ?_) (fun c4 => ?_)
      · have hf := if_t hf c4
        obtain ⟨x5, ex5⟩ : ∃ y : Int32, y = (v2 + 1) := ⟨_, rfl⟩
        have hf := nm_s hf ex5
        refine lv_iinc (v := x5) (lv' := [(2, .int x5), (0, .ref (a 66)), (1, .int v1), (3, .int v3)]) hx hb dX12_widest_53 hl (k := 2) rfl (by rw [ex5]; rfl) (by decide) rfl (fun ls hl => ?_)
        refine lv_goto (tgt := 4) hx hb dX12_widest_56 (by decide) ?_
        exact hk4 v1 x5 hf H locs ls hP hS (lv_sub hl [1, 2, 0] rfl)
      · have hf := if_f hf c4
        refine lv_aload_n hx hb dX12_widest_26 rfl (lv_at hl 0 rfl) ?_
        refine lv_iload_n hx hb dX12_widest_27 rfl (lv_at hl 2 rfl) ?_
        refine lv_iload_n hx hb dX12_widest_28 rfl (lv_at hl 3 rfl) ?_
        obtain ⟨q6, hq6, hf⟩ := bind_s hf
        refine g_callV (As := [.int v2, .int v3]) (rest := []) hx hb hml hown hts hK hN (m_X12_farOf l D a C ha h v2 v3  q6 hq6) (cwV 2 hts (gUV (u12_7 _ (List.mem_of_getElem? (i := 5) rfl)) (u12_7 _ (List.mem_of_getElem? (i := 6) rfl)) (u12_7 _ (List.mem_of_getElem? (i := 7) rfl)) (u12_1 _ (List.mem_of_getElem? (i := 7) rfl)) (u12_7 _ (List.mem_of_getElem? (i := 1) rfl))) rfl rfl rfl kdX12_farOf ⟨Nat.le_of_ble_eq_true rfl, Nat.le_of_ble_eq_true rfl⟩) M_O rfl rfl hP hS hA rfl hl.1 rfl (Nat.le_of_ble_eq_true rfl) dX12_widest_29 ⟨Nat.le_refl _, Nat.le_refl _⟩ (fun H locs hP hS => ?_)
        refine W.eq (g2 := F0 m 32 ls [.int q6]) rfl ?_
        refine lv_iload_n hx hb dX12_widest_32 rfl (lv_at hl 1 rfl) ?_
        refine lv_icmp_le (tgt := 45) hx hb dX12_widest_33 (by decide) (fun c7 => ?_) (fun c7 => ?_)
        · have hf := if_t hf c7
          refine lv_iload_n hx hb dX12_widest_45 rfl (lv_at hl 1 rfl) ?_
          exact J46 k4 hk4 (X12_widest_B16 h k4 fu) ih v2 v3 v1 hf H locs ls hP hS (lv_sub hl [0, 2, 3] rfl)
        · have hf := if_f hf c7
          refine lv_aload_n hx hb dX12_widest_36 rfl (lv_at hl 0 rfl) ?_
          refine lv_iload_n hx hb dX12_widest_37 rfl (lv_at hl 2 rfl) ?_
          refine lv_iload_n hx hb dX12_widest_38 rfl (lv_at hl 3 rfl) ?_
          obtain ⟨q8, hq8, hf⟩ := bind_s hf
          refine g_callV (As := [.int v2, .int v3]) (rest := []) hx hb hml hown hts hK hN (m_X12_farOf l D a C ha h v2 v3  q8 hq8) (cwV 2 hts (gUV (u12_7 _ (List.mem_of_getElem? (i := 5) rfl)) (u12_7 _ (List.mem_of_getElem? (i := 6) rfl)) (u12_7 _ (List.mem_of_getElem? (i := 7) rfl)) (u12_1 _ (List.mem_of_getElem? (i := 7) rfl)) (u12_7 _ (List.mem_of_getElem? (i := 1) rfl))) rfl rfl rfl kdX12_farOf ⟨Nat.le_of_ble_eq_true rfl, Nat.le_of_ble_eq_true rfl⟩) M_O rfl rfl hP hS hA rfl hl.1 rfl (Nat.le_of_ble_eq_true rfl) dX12_widest_39 ⟨Nat.le_refl _, Nat.le_refl _⟩ (fun H locs hP hS => ?_)
          refine W.eq (g2 := F0 m 42 ls [.int q8]) rfl ?_
          refine lv_goto (tgt := 46) hx hb dX12_widest_42 (by decide) ?_
          exact J46 k4 hk4 (X12_widest_B16 h k4 fu) ih v2 v3 q8 hf H locs ls hP hS (lv_sub hl [0, 2, 3] rfl)
  have J4 : ∀ (fu : Nat) (v1 : Int32) (v2 : Int32), X12_widest_B4 h fu v1 v2 = some r → gG p l e (headSpec uX12_widest rmX12_widest).room s m ([.ref (a 66)] : List Value).toArray below meth c (MQ below (gQ (some (.int r)) D a C h) ([.ref (a 66)] : List Value).toArray s 0 0 (gA a)) D a C 4 h 4 [(0, .ref (a 66)), (1, .int v1), (2, .int v2)] [] := by
    intro fu
    induction fu with
    | zero => intro v1 v2 hf; exact absurd hf (by simp [X12_widest_B4])
    | succ fu ih =>
      intro v1 v2 hf H locs ls hP hS hl
      rw [X12_widest_B4] at hf
      refine lv_iload_n hx hb dX12_widest_4 rfl (lv_at hl 2 rfl) ?_
      refine lv_aload_n hx hb dX12_widest_5 rfl (lv_at hl 0 rfl) ?_
      refine g_get (Cn := RX12) (T := TX12) (N := 21) (v := .ref (a 67)) (own := RX12) hx hb hown hts hK M_O rfl (fun _ hw => List.mem_cons_of_mem _ (u12_cls _ hw)) 0 (by decide) (List.mem_cons_of_mem _ (u12_0 _ (List.mem_of_getElem? (i := 5) rfl))) rfl rfl hP dX12_widest_6 ?_
      refine lv_iconst (v := 0) hx hb dX12_widest_9 (by decide) ?_
      obtain ⟨c1, hf⟩ := gdi_s hf
      refine g_ial hx hb hK (⟨by decide, rfl⟩ : gAI 67 30) c1 hP dX12_widest_10 ?_
      refine lv_icmp_ge (tgt := 59) hx hb dX12_widest_11 (by decide) (fun c2 => ?_) (fun c2 => ?_)
      · have hf := if_t hf c2
        refine lv_iload_n hx hb dX12_widest_59 rfl (lv_at hl 1 rfl) ?_
        exact g_iret hx hb hr hlk hP hS (ret1 hf) dX12_widest_60
      · have hf := if_f hf c2
        refine lv_iconst (v := 0) hx hb dX12_widest_14 (by decide) ?_
        refine lv_istore_n (lv' := [(3, .int 0), (0, .ref (a 66)), (1, .int v1), (2, .int v2)]) hx hb dX12_widest_15 rfl hl (by decide) rfl (fun ls hl => ?_)
        exact J16 (X12_widest_B4 h fu) ih FU v1 v2 0 hf H locs ls hP hS (lv_sub hl [1, 2, 3, 0] rfl)
  unfold X12_widest at hf
  suffices hh : ∀ (H : Heap) (locs : List Loc), va_P D vwCl (gw a C h) H → va_S (gA a) s.heap H locs → W p l e (headSpec uX12_widest rmX12_widest).room s m ([.ref (a 66)] : List Value).toArray below meth c H locs 0 0 (MQ below (gQ (some (.int r)) D a C h) ([.ref (a 66)] : List Value).toArray s 0 0 (gA a)) (F0 m 0 ls []) from hh _ _ hP hS
  intro H locs hP hS
  refine lv_iconst (v := 0) hx hb dX12_widest_0 (by decide) ?_
  refine lv_istore_n (lv' := [(1, .int 0), (0, .ref (a 66))]) hx hb dX12_widest_1 rfl hl (by decide) rfl (fun ls hl => ?_)
  refine lv_iconst (v := 0) hx hb dX12_widest_2 (by decide) ?_
  refine lv_istore_n (lv' := [(2, .int 0), (1, .int 0), (0, .ref (a 66))]) hx hb dX12_widest_3 rfl hl (by decide) rfl (fun ls hl => ?_)
  exact J4 FU 0 0 hf H locs ls hP hS (lv_sub hl [2, 1, 0] rfl)

def X12_bridges_B93 (k4 : Int32 → Int32 → HS → Option (Int32 × HS)) (k18 : Int32 → Int32 → Int32 → HS → Option (Int32 × HS)) (v1 : Int32) (v2 : Int32) (v3 : Int32) (h : HS) : Option (Int32 × HS) :=
    nm (v3 + 1) fun x17 =>
    k18 v1 v2 x17 h
def X12_bridges_B91 (k4 : Int32 → Int32 → HS → Option (Int32 × HS)) (k18 : Int32 → Int32 → Int32 → HS → Option (Int32 × HS)) (v2 : Int32) (v3 : Int32) (s0 : Int32) (s1 : Int32) (h : HS) : Option (Int32 × HS) :=
    nm (s1 + s0) fun x16 =>
    X12_bridges_B93 k4 k18 x16 v2 v3 h
def X12_bridges_B18 (k4 : Int32 → Int32 → HS → Option (Int32 × HS)) : Nat → Int32 → Int32 → Int32 → HS → Option (Int32 × HS)
  | 0, _, _, _, _ => none
  | fu + 1, v1, v2, v3, h =>
    gdi 0 30 <|
    (if (aI h 67 (0 : Int32).toNatClampNeg) ≤ v3 then
    nm (v2 + 1) fun x6 =>
    k4 v1 x6 h
    else
    (X12_of v2 2).bind fun q7 =>
    gdi q7 30 <|
    (X12_has (aI h 67 q7.toNatClampNeg) v3).bind fun q9 =>
    (if q9 = 0 then
    X12_bridges_B93 k4 (X12_bridges_B18 k4 fu) v1 v2 v3 h
    else
    (X12_copies h 67 68).bind fun q11 =>
    (X12_changesLine q11 68 v2 v3).bind fun q12 =>
    (X12_partsIn q12 68).bind fun q13 =>
    (X12_partsIn q12 67).bind fun q14 =>
    (if q13 ≤ q14 then
    X12_bridges_B91 k4 (X12_bridges_B18 k4 fu) v2 v3 0 v1 q12
    else
    X12_bridges_B91 k4 (X12_bridges_B18 k4 fu) v2 v3 1 v1 q12)))
def X12_bridges_B4  : Nat → Int32 → Int32 → HS → Option (Int32 × HS)
  | 0, _, _, _ => none
  | fu + 1, v1, v2, h =>
    gdi 0 30 <|
    (if (aI h 67 (0 : Int32).toNatClampNeg) ≤ v2 then
    some (v1, h)
    else
    nm (v2 + 1) fun x3 =>
    X12_bridges_B18 (X12_bridges_B4 fu) FU v1 v2 x3 h)
def X12_bridges (h : HS) : Option (Int32 × HS) :=
    X12_bridges_B4 FU 0 0 h
def uX12_bridges : List Cond := .code yX12_bridges cX12_bridges 4 (some .int) :: UU
def rmX12_bridges : Room := { frames := 3, cells := 0, slots := 0, locals := 69 }
theorem kdX12_bridges : yX12_bridges.cls = RX12 ∧ yX12_bridges.cls ≠ "java/lang/invoke/MethodHandle" ∧ yX12_bridges.cls ≠ "java/lang/invoke/VarHandle" ∧ (parseMethodDescriptor yX12_bridges.desc).map (fun d => d.parameters.length) = some 0 := by decide +kernel
set_option maxHeartbeats 4000000 in
set_option maxRecDepth 100000 in
theorem m_X12_bridges (l : Launch) (D : va_G) (a : Nat → Nat) (C : Nat → ClassId) (ha : ginj a) (h : HS)  (r : Int32) (h' : HS) (hf : X12_bridges h = some (r, h')) : gM l yX12_bridges uX12_bridges rmX12_bridges D a C [.ref (a 66)] h (some (.int r)) h' := by
  refine g_start (av := [.ref (a 66)]) (cc := cX12_bridges) (maxL := 4) (rt := (some .int)) (by decide) rfl (Nat.le_of_ble_eq_true rfl) ?_
  intro p e s m below meth c hx hb hr hml hown hlk hts hP hK hN ls hl
  have hA : ∀ q, gA a q → gA a q := fun _ q => q
  have hS : va_S (gA a) s.heap s.heap [] := va_S.rf
  have hl : lv_has ls 4 [(0, .ref (a 66))] := hl
  have J93 : ∀ (k4 : Int32 → Int32 → HS → Option (Int32 × HS)) (hk4 : ∀ (v1 : Int32) (v2 : Int32) (h : HS), k4 v1 v2 h = some (r, h') → gG p l e (headSpec uX12_bridges rmX12_bridges).room s m ([.ref (a 66)] : List Value).toArray below meth c (MQ below (gQ (some (.int r)) D a C h') ([.ref (a 66)] : List Value).toArray s 0 0 (gA a)) D a C 4 h 4 [(0, .ref (a 66)), (1, .int v1), (2, .int v2)] []) (k18 : Int32 → Int32 → Int32 → HS → Option (Int32 × HS)) (hk18 : ∀ (v1 : Int32) (v2 : Int32) (v3 : Int32) (h : HS), k18 v1 v2 v3 h = some (r, h') → gG p l e (headSpec uX12_bridges rmX12_bridges).room s m ([.ref (a 66)] : List Value).toArray below meth c (MQ below (gQ (some (.int r)) D a C h') ([.ref (a 66)] : List Value).toArray s 0 0 (gA a)) D a C 4 h 18 [(0, .ref (a 66)), (1, .int v1), (2, .int v2), (3, .int v3)] []) (v1 : Int32) (v2 : Int32) (v3 : Int32) (h : HS) (_ : X12_bridges_B93 k4 k18 v1 v2 v3 h = some (r, h')), gG p l e (headSpec uX12_bridges rmX12_bridges).room s m ([.ref (a 66)] : List Value).toArray below meth c (MQ below (gQ (some (.int r)) D a C h') ([.ref (a 66)] : List Value).toArray s 0 0 (gA a)) D a C 4 h 93 [(0, .ref (a 66)), (1, .int v1), (2, .int v2), (3, .int v3)] [] := by
    intro k4 hk4 k18 hk18 v1 v2 v3 h hf H locs ls hP hS hl
    unfold X12_bridges_B93 at hf
    obtain ⟨x17, ex17⟩ : ∃ y : Int32, y = (v3 + 1) := ⟨_, rfl⟩
    have hf := nm_s hf ex17
    refine lv_iinc (v := x17) (lv' := [(3, .int x17), (0, .ref (a 66)), (1, .int v1), (2, .int v2)]) hx hb dX12_bridges_93 hl (k := 3) rfl (by rw [ex17]; rfl) (by decide) rfl (fun ls hl => ?_)
    refine lv_goto (tgt := 18) hx hb dX12_bridges_96 (by decide) ?_
    exact hk18 v1 v2 x17 h hf H locs ls hP hS (lv_sub hl [1, 2, 3, 0] rfl)
  have J91 : ∀ (k4 : Int32 → Int32 → HS → Option (Int32 × HS)) (hk4 : ∀ (v1 : Int32) (v2 : Int32) (h : HS), k4 v1 v2 h = some (r, h') → gG p l e (headSpec uX12_bridges rmX12_bridges).room s m ([.ref (a 66)] : List Value).toArray below meth c (MQ below (gQ (some (.int r)) D a C h') ([.ref (a 66)] : List Value).toArray s 0 0 (gA a)) D a C 4 h 4 [(0, .ref (a 66)), (1, .int v1), (2, .int v2)] []) (k18 : Int32 → Int32 → Int32 → HS → Option (Int32 × HS)) (hk18 : ∀ (v1 : Int32) (v2 : Int32) (v3 : Int32) (h : HS), k18 v1 v2 v3 h = some (r, h') → gG p l e (headSpec uX12_bridges rmX12_bridges).room s m ([.ref (a 66)] : List Value).toArray below meth c (MQ below (gQ (some (.int r)) D a C h') ([.ref (a 66)] : List Value).toArray s 0 0 (gA a)) D a C 4 h 18 [(0, .ref (a 66)), (1, .int v1), (2, .int v2), (3, .int v3)] []) (v2 : Int32) (v3 : Int32) (s0 : Int32) (s1 : Int32) (h : HS) (_ : X12_bridges_B91 k4 k18 v2 v3 s0 s1 h = some (r, h')), gG p l e (headSpec uX12_bridges rmX12_bridges).room s m ([.ref (a 66)] : List Value).toArray below meth c (MQ below (gQ (some (.int r)) D a C h') ([.ref (a 66)] : List Value).toArray s 0 0 (gA a)) D a C 4 h 91 [(0, .ref (a 66)), (2, .int v2), (3, .int v3)] [.int s0, .int s1] := by
    intro k4 hk4 k18 hk18 v2 v3 s0 s1 h hf H locs ls hP hS hl
    unfold X12_bridges_B91 at hf
    refine lv_iadd hx hb dX12_bridges_91 ?_
    refine lv_topi (fun x16 ex16 => ?_)
    have hf := nm_s hf ex16
    refine lv_istore_n (lv' := [(1, .int x16), (0, .ref (a 66)), (2, .int v2), (3, .int v3)]) hx hb dX12_bridges_92 rfl hl (by decide) rfl (fun ls hl => ?_)
    exact J93 k4 hk4 k18 hk18 x16 v2 v3 h hf H locs ls hP hS (lv_sub hl [1, 0, 2, 3] rfl)
  have J18 : ∀ (k4 : Int32 → Int32 → HS → Option (Int32 × HS)) (hk4 : ∀ (v1 : Int32) (v2 : Int32) (h : HS), k4 v1 v2 h = some (r, h') → gG p l e (headSpec uX12_bridges rmX12_bridges).room s m ([.ref (a 66)] : List Value).toArray below meth c (MQ below (gQ (some (.int r)) D a C h') ([.ref (a 66)] : List Value).toArray s 0 0 (gA a)) D a C 4 h 4 [(0, .ref (a 66)), (1, .int v1), (2, .int v2)] []) (fu : Nat) (v1 : Int32) (v2 : Int32) (v3 : Int32) (h : HS), X12_bridges_B18 k4 fu v1 v2 v3 h = some (r, h') → gG p l e (headSpec uX12_bridges rmX12_bridges).room s m ([.ref (a 66)] : List Value).toArray below meth c (MQ below (gQ (some (.int r)) D a C h') ([.ref (a 66)] : List Value).toArray s 0 0 (gA a)) D a C 4 h 18 [(0, .ref (a 66)), (1, .int v1), (2, .int v2), (3, .int v3)] [] := by
    intro k4 hk4 fu
    induction fu with
    | zero => intro v1 v2 v3 h hf; exact absurd hf (by simp [X12_bridges_B18])
    | succ fu ih =>
      intro v1 v2 v3 h hf H locs ls hP hS hl
      rw [X12_bridges_B18] at hf
      refine lv_iload_n hx hb dX12_bridges_18 rfl (lv_at hl 3 rfl) ?_
      refine lv_aload_n hx hb dX12_bridges_19 rfl (lv_at hl 0 rfl) ?_
      refine g_get (Cn := RX12) (T := TX12) (N := 21) (v := .ref (a 67)) (own := RX12) hx hb hown hts hK M_O rfl (fun _ hw => List.mem_cons_of_mem _ (u12_cls _ hw)) 0 (by decide) (List.mem_cons_of_mem _ (u12_0 _ (List.mem_of_getElem? (i := 5) rfl))) rfl rfl hP dX12_bridges_20 ?_
      refine lv_iconst (v := 0) hx hb dX12_bridges_23 (by decide) ?_
      obtain ⟨c4, hf⟩ := gdi_s hf
      refine g_ial hx hb hK (⟨by decide, rfl⟩ : gAI 67 30) c4 hP dX12_bridges_24 ?_
      refine lv_icmp_ge (tgt := 99) hx hb dX12_bridges_25 (by decide) (fun c5 => ?_) (fun c5 => ?_)
      · have hf := if_t hf c5
        obtain ⟨x6, ex6⟩ : ∃ y : Int32, y = (v2 + 1) := ⟨_, rfl⟩
        have hf := nm_s hf ex6
        refine lv_iinc (v := x6) (lv' := [(2, .int x6), (0, .ref (a 66)), (1, .int v1), (3, .int v3)]) hx hb dX12_bridges_99 hl (k := 2) rfl (by rw [ex6]; rfl) (by decide) rfl (fun ls hl => ?_)
        refine lv_goto (tgt := 4) hx hb dX12_bridges_102 (by decide) ?_
        exact hk4 v1 x6 h hf H locs ls hP hS (lv_sub hl [1, 2, 0] rfl)
      · have hf := if_f hf c5
        refine lv_aload_n hx hb dX12_bridges_28 rfl (lv_at hl 0 rfl) ?_
        refine g_get (Cn := RX12) (T := TX12) (N := 21) (v := .ref (a 67)) (own := RX12) hx hb hown hts hK M_O rfl (fun _ hw => List.mem_cons_of_mem _ (u12_cls _ hw)) 0 (by decide) (List.mem_cons_of_mem _ (u12_0 _ (List.mem_of_getElem? (i := 5) rfl))) rfl rfl hP dX12_bridges_29 ?_
        refine lv_iload_n hx hb dX12_bridges_32 rfl (lv_at hl 2 rfl) ?_
        refine lv_iconst (v := 2) hx hb dX12_bridges_33 (by decide) ?_
        obtain ⟨q7, hq7, hf⟩ := bind_s hf
        refine g_callS (As := [.int v2, .int 2]) (rest := [.ref (a 67)]) hx hb hml hown hts hK hN (m_X12_of l D a C ha h v2 2  q7 hq7) (va_cwS 2 hts (gUS (u12_1 _ (List.mem_of_getElem? (i := 15) rfl)) (u12_1 _ (List.mem_of_getElem? (i := 16) rfl)) (u12_1 _ (List.mem_of_getElem? (i := 7) rfl)) (u12_1 _ (List.mem_of_getElem? (i := 3) rfl))) rfl rfl rfl kdX12_of.2 ⟨Nat.le_of_ble_eq_true rfl, Nat.le_of_ble_eq_true rfl⟩) hP hS hA rfl hl.1 rfl (Nat.le_of_ble_eq_true rfl) dX12_bridges_34 ⟨Nat.le_refl _, Nat.le_refl _⟩ (fun H locs hP hS => ?_)
        refine W.eq (g2 := F0 m 37 ls [.int q7, .ref (a 67)]) rfl ?_
        obtain ⟨c8, hf⟩ := gdi_s hf
        refine g_ial hx hb hK (⟨by decide, rfl⟩ : gAI 67 30) c8 hP dX12_bridges_37 ?_
        refine lv_iload_n hx hb dX12_bridges_38 rfl (lv_at hl 3 rfl) ?_
        obtain ⟨q9, hq9, hf⟩ := bind_s hf
        refine g_callS (As := [.int (aI h 67 q7.toNatClampNeg), .int v3]) (rest := []) hx hb hml hown hts hK hN (m_X12_has l D a C ha h (aI h 67 q7.toNatClampNeg) v3  q9 hq9) (va_cwS 2 hts (gUS (u12_2 _ (List.mem_of_getElem? (i := 8) rfl)) (u12_2 _ (List.mem_of_getElem? (i := 9) rfl)) (u12_1 _ (List.mem_of_getElem? (i := 7) rfl)) (u12_1 _ (List.mem_of_getElem? (i := 12) rfl))) rfl rfl rfl kdX12_has.2 ⟨Nat.le_of_ble_eq_true rfl, Nat.le_of_ble_eq_true rfl⟩) hP hS hA rfl hl.1 rfl (Nat.le_of_ble_eq_true rfl) dX12_bridges_39 ⟨Nat.le_refl _, Nat.le_refl _⟩ (fun H locs hP hS => ?_)
        refine W.eq (g2 := F0 m 42 ls [.int q9]) rfl ?_
        refine lv_if_ne (tgt := 48) hx hb dX12_bridges_42 (by decide) (fun c10 => ?_) (fun c10 => ?_)
        · have hf := if_f hf c10
          refine lv_aload_n hx hb dX12_bridges_48 rfl (lv_at hl 0 rfl) ?_
          refine g_get (Cn := RX12) (T := TX12) (N := 21) (v := .ref (a 67)) (own := RX12) hx hb hown hts hK M_O rfl (fun _ hw => List.mem_cons_of_mem _ (u12_cls _ hw)) 0 (by decide) (List.mem_cons_of_mem _ (u12_0 _ (List.mem_of_getElem? (i := 5) rfl))) rfl rfl hP dX12_bridges_49 ?_
          refine lv_aload_n hx hb dX12_bridges_52 rfl (lv_at hl 0 rfl) ?_
          refine g_get (Cn := RX12) (T := TX12) (N := 21) (v := .ref (a 68)) (own := RX12) hx hb hown hts hK M_O rfl (fun _ hw => List.mem_cons_of_mem _ (u12_cls _ hw)) 1 (by decide) (List.mem_cons_of_mem _ (u12_0 _ (List.mem_of_getElem? (i := 6) rfl))) rfl rfl hP dX12_bridges_53 ?_
          obtain ⟨q11, hq11, hf⟩ := bind_s hf
          refine g_callS (As := [.ref (a 67), .ref (a 68)]) (rest := []) hx hb hml hown hts hK hN (m_X12_copies l D a C ha h 67 68 (Or.inl rfl) (Or.inr (Or.inl rfl)) q11 hq11) (va_cwS 2 hts (gUS (u12_4 _ (List.mem_of_getElem? (i := 19) rfl)) (u12_5 _ (List.mem_of_getElem? (i := 0) rfl)) (u12_1 _ (List.mem_of_getElem? (i := 7) rfl)) (u12_1 _ (List.mem_of_getElem? (i := 2) rfl))) rfl rfl rfl kdX12_copies.2 ⟨Nat.le_of_ble_eq_true rfl, Nat.le_of_ble_eq_true rfl⟩) hP hS hA rfl hl.1 rfl (Nat.le_of_ble_eq_true rfl) dX12_bridges_56 ⟨Nat.le_refl _, Nat.le_refl _⟩ (fun H locs hP hS => ?_)
          refine W.eq (g2 := F0 m 59 ls []) rfl ?_
          refine lv_aload_n hx hb dX12_bridges_59 rfl (lv_at hl 0 rfl) ?_
          refine g_get (Cn := RX12) (T := TX12) (N := 21) (v := .ref (a 68)) (own := RX12) hx hb hown hts hK M_O rfl (fun _ hw => List.mem_cons_of_mem _ (u12_cls _ hw)) 1 (by decide) (List.mem_cons_of_mem _ (u12_0 _ (List.mem_of_getElem? (i := 6) rfl))) rfl rfl hP dX12_bridges_60 ?_
          refine lv_iload_n hx hb dX12_bridges_63 rfl (lv_at hl 2 rfl) ?_
          refine lv_iload_n hx hb dX12_bridges_64 rfl (lv_at hl 3 rfl) ?_
          obtain ⟨q12, hq12, hf⟩ := bind_s hf
          refine g_callS (As := [.ref (a 68), .int v2, .int v3]) (rest := []) hx hb hml hown hts hK hN (m_X12_changesLine l D a C ha q11 68 v2 v3 (Or.inr (Or.inl rfl)) q12 hq12) (va_cwS 3 hts (gUS (u12_4 _ (List.mem_of_getElem? (i := 2) rfl)) (u12_4 _ (List.mem_of_getElem? (i := 3) rfl)) (u12_1 _ (List.mem_of_getElem? (i := 7) rfl)) (u12_3 _ (List.mem_of_getElem? (i := 0) rfl))) rfl rfl rfl kdX12_changesLine.2 ⟨Nat.le_of_ble_eq_true rfl, Nat.le_of_ble_eq_true rfl⟩) hP hS hA rfl hl.1 rfl (Nat.le_of_ble_eq_true rfl) dX12_bridges_65 ⟨Nat.le_refl _, Nat.le_refl _⟩ (fun H locs hP hS => ?_)
          refine W.eq (g2 := F0 m 68 ls []) rfl ?_
          refine lv_iload_n hx hb dX12_bridges_68 rfl (lv_at hl 1 rfl) ?_
          refine lv_aload_n hx hb dX12_bridges_69 rfl (lv_at hl 0 rfl) ?_
          refine g_get (Cn := RX12) (T := TX12) (N := 21) (v := .ref (a 68)) (own := RX12) hx hb hown hts hK M_O rfl (fun _ hw => List.mem_cons_of_mem _ (u12_cls _ hw)) 1 (by decide) (List.mem_cons_of_mem _ (u12_0 _ (List.mem_of_getElem? (i := 6) rfl))) rfl rfl hP dX12_bridges_70 ?_
          obtain ⟨q13, hq13, hf⟩ := bind_s hf
          refine g_callS (As := [.ref (a 68)]) (rest := [.int v1]) hx hb hml hown hts hK hN (m_X12_partsIn l D a C ha q12 68 (Or.inr (Or.inl rfl)) q13 hq13) (va_cwS 1 hts (gUS (u12_7 _ (List.mem_of_getElem? (i := 11) rfl)) (u12_7 _ (List.mem_of_getElem? (i := 12) rfl)) (u12_1 _ (List.mem_of_getElem? (i := 7) rfl)) (u12_7 _ (List.mem_of_getElem? (i := 8) rfl))) rfl rfl rfl kdX12_partsIn.2 ⟨Nat.le_of_ble_eq_true rfl, Nat.le_of_ble_eq_true rfl⟩) hP hS hA rfl hl.1 rfl (Nat.le_of_ble_eq_true rfl) dX12_bridges_73 ⟨Nat.le_refl _, Nat.le_refl _⟩ (fun H locs hP hS => ?_)
          refine W.eq (g2 := F0 m 76 ls [.int q13, .int v1]) rfl ?_
          refine lv_aload_n hx hb dX12_bridges_76 rfl (lv_at hl 0 rfl) ?_
          refine g_get (Cn := RX12) (T := TX12) (N := 21) (v := .ref (a 67)) (own := RX12) hx hb hown hts hK M_O rfl (fun _ hw => List.mem_cons_of_mem _ (u12_cls _ hw)) 0 (by decide) (List.mem_cons_of_mem _ (u12_0 _ (List.mem_of_getElem? (i := 5) rfl))) rfl rfl hP dX12_bridges_77 ?_
          obtain ⟨q14, hq14, hf⟩ := bind_s hf
          refine g_callS (As := [.ref (a 67)]) (rest := [.int q13, .int v1]) hx hb hml hown hts hK hN (m_X12_partsIn l D a C ha q12 67 (Or.inl rfl) q14 hq14) (va_cwS 1 hts (gUS (u12_7 _ (List.mem_of_getElem? (i := 11) rfl)) (u12_7 _ (List.mem_of_getElem? (i := 12) rfl)) (u12_1 _ (List.mem_of_getElem? (i := 7) rfl)) (u12_7 _ (List.mem_of_getElem? (i := 8) rfl))) rfl rfl rfl kdX12_partsIn.2 ⟨Nat.le_of_ble_eq_true rfl, Nat.le_of_ble_eq_true rfl⟩) hP hS hA rfl hl.1 rfl (Nat.le_of_ble_eq_true rfl) dX12_bridges_80 ⟨Nat.le_refl _, Nat.le_refl _⟩ (fun H locs hP hS => ?_)
          refine W.eq (g2 := F0 m 83 ls [.int q14, .int q13, .int v1]) rfl ?_
          refine lv_icmp_le (tgt := 90) hx hb dX12_bridges_83 (by decide) (fun c15 => ?_) (fun c15 => ?_)
          · have hf := if_t hf c15
            refine lv_iconst (v := 0) hx hb dX12_bridges_90 (by decide) ?_
            exact J91 k4 hk4 (X12_bridges_B18 k4 fu) ih v2 v3 0 v1 q12 hf H locs ls hP hS (lv_sub hl [0, 2, 3] rfl)
          · have hf := if_f hf c15
            refine lv_iconst (v := 1) hx hb dX12_bridges_86 (by decide) ?_
            refine lv_goto (tgt := 91) hx hb dX12_bridges_87 (by decide) ?_
            exact J91 k4 hk4 (X12_bridges_B18 k4 fu) ih v2 v3 1 v1 q12 hf H locs ls hP hS (lv_sub hl [0, 2, 3] rfl)
        · have hf := if_t hf c10
          refine lv_goto (tgt := 93) hx hb dX12_bridges_45 (by decide) ?_
          exact J93 k4 hk4 (X12_bridges_B18 k4 fu) ih v1 v2 v3 h hf H locs ls hP hS (lv_sub hl [0, 1, 2, 3] rfl)
  have J4 : ∀ (fu : Nat) (v1 : Int32) (v2 : Int32) (h : HS), X12_bridges_B4 fu v1 v2 h = some (r, h') → gG p l e (headSpec uX12_bridges rmX12_bridges).room s m ([.ref (a 66)] : List Value).toArray below meth c (MQ below (gQ (some (.int r)) D a C h') ([.ref (a 66)] : List Value).toArray s 0 0 (gA a)) D a C 4 h 4 [(0, .ref (a 66)), (1, .int v1), (2, .int v2)] [] := by
    intro fu
    induction fu with
    | zero => intro v1 v2 h hf; exact absurd hf (by simp [X12_bridges_B4])
    | succ fu ih =>
      intro v1 v2 h hf H locs ls hP hS hl
      rw [X12_bridges_B4] at hf
      refine lv_iload_n hx hb dX12_bridges_4 rfl (lv_at hl 2 rfl) ?_
      refine lv_aload_n hx hb dX12_bridges_5 rfl (lv_at hl 0 rfl) ?_
      refine g_get (Cn := RX12) (T := TX12) (N := 21) (v := .ref (a 67)) (own := RX12) hx hb hown hts hK M_O rfl (fun _ hw => List.mem_cons_of_mem _ (u12_cls _ hw)) 0 (by decide) (List.mem_cons_of_mem _ (u12_0 _ (List.mem_of_getElem? (i := 5) rfl))) rfl rfl hP dX12_bridges_6 ?_
      refine lv_iconst (v := 0) hx hb dX12_bridges_9 (by decide) ?_
      obtain ⟨c1, hf⟩ := gdi_s hf
      refine g_ial hx hb hK (⟨by decide, rfl⟩ : gAI 67 30) c1 hP dX12_bridges_10 ?_
      refine lv_icmp_ge (tgt := 105) hx hb dX12_bridges_11 (by decide) (fun c2 => ?_) (fun c2 => ?_)
      · have hf := if_t hf c2
        refine lv_iload_n hx hb dX12_bridges_105 rfl (lv_at hl 1 rfl) ?_
        exact g_iretW hx hb hr hlk hP hS (ret2 hf) dX12_bridges_106
      · have hf := if_f hf c2
        refine lv_iload_n hx hb dX12_bridges_14 rfl (lv_at hl 2 rfl) ?_
        refine lv_iconst (v := 1) hx hb dX12_bridges_15 (by decide) ?_
        refine lv_iadd hx hb dX12_bridges_16 ?_
        refine lv_topi (fun x3 ex3 => ?_)
        have hf := nm_s hf ex3
        refine lv_istore_n (lv' := [(3, .int x3), (0, .ref (a 66)), (1, .int v1), (2, .int v2)]) hx hb dX12_bridges_17 rfl hl (by decide) rfl (fun ls hl => ?_)
        exact J18 (X12_bridges_B4 fu) ih FU v1 v2 x3 h hf H locs ls hP hS (lv_sub hl [1, 2, 3, 0] rfl)
  unfold X12_bridges at hf
  suffices hh : ∀ (H : Heap) (locs : List Loc), va_P D vwCl (gw a C h) H → va_S (gA a) s.heap H locs → W p l e (headSpec uX12_bridges rmX12_bridges).room s m ([.ref (a 66)] : List Value).toArray below meth c H locs 0 0 (MQ below (gQ (some (.int r)) D a C h') ([.ref (a 66)] : List Value).toArray s 0 0 (gA a)) (F0 m 0 ls []) from hh _ _ hP hS
  intro H locs hP hS
  refine lv_iconst (v := 0) hx hb dX12_bridges_0 (by decide) ?_
  refine lv_istore_n (lv' := [(1, .int 0), (0, .ref (a 66))]) hx hb dX12_bridges_1 rfl hl (by decide) rfl (fun ls hl => ?_)
  refine lv_iconst (v := 0) hx hb dX12_bridges_2 (by decide) ?_
  refine lv_istore_n (lv' := [(2, .int 0), (1, .int 0), (0, .ref (a 66))]) hx hb dX12_bridges_3 rfl hl (by decide) rfl (fun ls hl => ?_)
  exact J4 FU 0 0 h hf H locs ls hP hS (lv_sub hl [2, 1, 0] rfl)

def X12_wide (h : HS) (v1 : Int32) : Option (Int32 × HS) :=
    (if v1 = 0 then
    (X12_widest h).bind fun q6 =>
    some (q6, h)
    else
    (if v1 = 1 then
    (X12_partsIn h 67).bind fun q5 =>
    some (q5, h)
    else
    (if v1 = 2 then
    (X12_bridges h).bind fun q4 =>
    some (q4.1, q4.2)
    else
    some ((-1), h))))
def uX12_wide : List Cond := .code yX12_wide cX12_wide 2 (some .int) :: UU
def rmX12_wide : Room := { frames := 4, cells := 0, slots := 0, locals := 92 }
theorem kdX12_wide : yX12_wide.cls = RX12 ∧ yX12_wide.cls ≠ "java/lang/invoke/MethodHandle" ∧ yX12_wide.cls ≠ "java/lang/invoke/VarHandle" ∧ (parseMethodDescriptor yX12_wide.desc).map (fun d => d.parameters.length) = some 1 := by decide +kernel
set_option maxHeartbeats 4000000 in
set_option maxRecDepth 100000 in
theorem m_X12_wide (l : Launch) (D : va_G) (a : Nat → Nat) (C : Nat → ClassId) (ha : ginj a) (h : HS) (v1 : Int32)  (r : Int32) (h' : HS) (hf : X12_wide h v1 = some (r, h')) : gM l yX12_wide uX12_wide rmX12_wide D a C [.ref (a 66), .int v1] h (some (.int r)) h' := by
  refine g_start (av := [.ref (a 66), .int v1]) (cc := cX12_wide) (maxL := 2) (rt := (some .int)) (by decide) rfl (Nat.le_of_ble_eq_true rfl) ?_
  intro p e s m below meth c hx hb hr hml hown hlk hts hP hK hN ls hl
  have hA : ∀ q, gA a q → gA a q := fun _ q => q
  have hS : va_S (gA a) s.heap s.heap [] := va_S.rf
  have hl : lv_has ls 2 [(0, .ref (a 66)), (1, .int v1)] := hl
  unfold X12_wide at hf
  refine lv_iload_n hx hb dX12_wide_0 rfl (lv_at hl 1 rfl) ?_
  refine lv_if_ne (tgt := 11) hx hb dX12_wide_1 (by decide) (fun c1 => ?_) (fun c1 => ?_)
  · have hf := if_f hf c1
    refine lv_iload_n hx hb dX12_wide_11 rfl (lv_at hl 1 rfl) ?_
    refine lv_iconst (v := 1) hx hb dX12_wide_12 (by decide) ?_
    refine lv_icmp_ne (tgt := 26) hx hb dX12_wide_13 (by decide) (fun c2 => ?_) (fun c2 => ?_)
    · have hf := if_f hf c2
      refine lv_iload_n hx hb dX12_wide_26 rfl (lv_at hl 1 rfl) ?_
      refine lv_iconst (v := 2) hx hb dX12_wide_27 (by decide) ?_
      refine lv_icmp_ne (tgt := 38) hx hb dX12_wide_28 (by decide) (fun c3 => ?_) (fun c3 => ?_)
      · have hf := if_f hf c3
        refine lv_iconst (v := (-1)) hx hb dX12_wide_38 (by decide) ?_
        exact g_iretW hx hb hr hlk hP hS (ret2 hf) dX12_wide_39
      · have hf := if_t hf c3
        refine lv_aload_n hx hb dX12_wide_31 rfl (lv_at hl 0 rfl) ?_
        obtain ⟨q4, hq4, hf⟩ := bind_s hf
        refine g_callV (As := []) (rest := []) hx hb hml hown hts hK hN (m_X12_bridges l D a C ha h  q4.1 q4.2 hq4) (cwV 0 hts (gUV (u12_7 _ (List.mem_of_getElem? (i := 16) rfl)) (u12_7 _ (List.mem_of_getElem? (i := 17) rfl)) (u12_7 _ (List.mem_of_getElem? (i := 18) rfl)) (u12_1 _ (List.mem_of_getElem? (i := 7) rfl)) (u12_7 _ (List.mem_of_getElem? (i := 10) rfl))) rfl rfl rfl kdX12_bridges ⟨Nat.le_of_ble_eq_true rfl, Nat.le_of_ble_eq_true rfl⟩) M_O rfl rfl hP hS hA rfl hl.1 rfl (Nat.le_of_ble_eq_true rfl) dX12_wide_32 ⟨Nat.le_refl _, Nat.le_refl _⟩ (fun H locs hP hS => ?_)
        refine W.eq (g2 := F0 m 35 ls [.int q4.1]) rfl ?_
        refine lv_goto (tgt := 39) hx hb dX12_wide_35 (by decide) ?_
        exact g_iretW hx hb hr hlk hP hS (ret2 hf) dX12_wide_39
    · have hf := if_t hf c2
      refine lv_aload_n hx hb dX12_wide_16 rfl (lv_at hl 0 rfl) ?_
      refine g_get (Cn := RX12) (T := TX12) (N := 21) (v := .ref (a 67)) (own := RX12) hx hb hown hts hK M_O rfl (fun _ hw => List.mem_cons_of_mem _ (u12_cls _ hw)) 0 (by decide) (List.mem_cons_of_mem _ (u12_0 _ (List.mem_of_getElem? (i := 5) rfl))) rfl rfl hP dX12_wide_17 ?_
      obtain ⟨q5, hq5, hf⟩ := bind_s hf
      refine g_callS (As := [.ref (a 67)]) (rest := []) hx hb hml hown hts hK hN (m_X12_partsIn l D a C ha h 67 (Or.inl rfl) q5 hq5) (va_cwS 1 hts (gUS (u12_7 _ (List.mem_of_getElem? (i := 11) rfl)) (u12_7 _ (List.mem_of_getElem? (i := 12) rfl)) (u12_1 _ (List.mem_of_getElem? (i := 7) rfl)) (u12_7 _ (List.mem_of_getElem? (i := 8) rfl))) rfl rfl rfl kdX12_partsIn.2 ⟨Nat.le_of_ble_eq_true rfl, Nat.le_of_ble_eq_true rfl⟩) hP hS hA rfl hl.1 rfl (Nat.le_of_ble_eq_true rfl) dX12_wide_20 ⟨Nat.le_refl _, Nat.le_refl _⟩ (fun H locs hP hS => ?_)
      refine W.eq (g2 := F0 m 23 ls [.int q5]) rfl ?_
      refine lv_goto (tgt := 39) hx hb dX12_wide_23 (by decide) ?_
      exact g_iretW hx hb hr hlk hP hS (ret2 hf) dX12_wide_39
  · have hf := if_t hf c1
    refine lv_aload_n hx hb dX12_wide_4 rfl (lv_at hl 0 rfl) ?_
    obtain ⟨q6, hq6, hf⟩ := bind_s hf
    refine g_callV (As := []) (rest := []) hx hb hml hown hts hK hN (m_X12_widest l D a C ha h  q6 hq6) (cwV 0 hts (gUV (u12_7 _ (List.mem_of_getElem? (i := 13) rfl)) (u12_7 _ (List.mem_of_getElem? (i := 14) rfl)) (u12_7 _ (List.mem_of_getElem? (i := 15) rfl)) (u12_1 _ (List.mem_of_getElem? (i := 7) rfl)) (u12_7 _ (List.mem_of_getElem? (i := 9) rfl))) rfl rfl rfl kdX12_widest ⟨Nat.le_of_ble_eq_true rfl, Nat.le_of_ble_eq_true rfl⟩) M_O rfl rfl hP hS hA rfl hl.1 rfl (Nat.le_of_ble_eq_true rfl) dX12_wide_5 ⟨Nat.le_refl _, Nat.le_refl _⟩ (fun H locs hP hS => ?_)
    refine W.eq (g2 := F0 m 8 ls [.int q6]) rfl ?_
    refine lv_goto (tgt := 39) hx hb dX12_wide_8 (by decide) ?_
    exact g_iretW hx hb hr hlk hP hS (ret2 hf) dX12_wide_39

def X12_hearing_B33 (h : HS) (k4 : Int32 → Int32 → Option Int32) (v2 : Int32) (s0 : Int32) (s1 : Int32) : Option Int32 :=
    nm (s1 ||| s0) fun x5 =>
    nm (v2 + 1) fun x6 =>
    k4 x5 x6
def X12_hearing_B4 (h : HS) : Nat → Int32 → Int32 → Option Int32
  | 0, _, _ => none
  | fu + 1, v1, v2 =>
    gdi 0 30 <|
    (if (aI h 67 (0 : Int32).toNatClampNeg) ≤ v2 then
    some v1
    else
    (X12_isDeaf h 67 v2).bind fun q3 =>
    (if q3 = 0 then
    X12_hearing_B33 h (X12_hearing_B4 h fu) v2 ((1 : Int32) <<< (v2 &&& 31)) v1
    else
    X12_hearing_B33 h (X12_hearing_B4 h fu) v2 0 v1))
def X12_hearing (h : HS) : Option Int32 :=
    X12_hearing_B4 h FU 0 0
def uX12_hearing : List Cond := .code yX12_hearing cX12_hearing 3 (some .int) :: UU
def rmX12_hearing : Room := { frames := 2, cells := 0, slots := 0, locals := 42 }
theorem kdX12_hearing : yX12_hearing.cls = RX12 ∧ yX12_hearing.cls ≠ "java/lang/invoke/MethodHandle" ∧ yX12_hearing.cls ≠ "java/lang/invoke/VarHandle" ∧ (parseMethodDescriptor yX12_hearing.desc).map (fun d => d.parameters.length) = some 0 := by decide +kernel
set_option maxHeartbeats 4000000 in
set_option maxRecDepth 100000 in
theorem m_X12_hearing (l : Launch) (D : va_G) (a : Nat → Nat) (C : Nat → ClassId) (ha : ginj a) (h : HS)  (r : Int32) (hf : X12_hearing h = some r) : gM l yX12_hearing uX12_hearing rmX12_hearing D a C [.ref (a 66)] h (some (.int r)) h := by
  refine g_start (av := [.ref (a 66)]) (cc := cX12_hearing) (maxL := 3) (rt := (some .int)) (by decide) rfl (Nat.le_of_ble_eq_true rfl) ?_
  intro p e s m below meth c hx hb hr hml hown hlk hts hP hK hN ls hl
  have hA : ∀ q, gA a q → gA a q := fun _ q => q
  have hS : va_S (gA a) s.heap s.heap [] := va_S.rf
  have hl : lv_has ls 3 [(0, .ref (a 66))] := hl
  have J33 : ∀ (k4 : Int32 → Int32 → Option Int32) (hk4 : ∀ (v1 : Int32) (v2 : Int32), k4 v1 v2 = some r → gG p l e (headSpec uX12_hearing rmX12_hearing).room s m ([.ref (a 66)] : List Value).toArray below meth c (MQ below (gQ (some (.int r)) D a C h) ([.ref (a 66)] : List Value).toArray s 0 0 (gA a)) D a C 3 h 4 [(0, .ref (a 66)), (1, .int v1), (2, .int v2)] []) (v2 : Int32) (s0 : Int32) (s1 : Int32) (_ : X12_hearing_B33 h k4 v2 s0 s1 = some r), gG p l e (headSpec uX12_hearing rmX12_hearing).room s m ([.ref (a 66)] : List Value).toArray below meth c (MQ below (gQ (some (.int r)) D a C h) ([.ref (a 66)] : List Value).toArray s 0 0 (gA a)) D a C 3 h 33 [(0, .ref (a 66)), (2, .int v2)] [.int s0, .int s1] := by
    intro k4 hk4 v2 s0 s1 hf H locs ls hP hS hl
    unfold X12_hearing_B33 at hf
    refine lv_ior hx hb dX12_hearing_33 ?_
    refine lv_topi (fun x5 ex5 => ?_)
    have hf := nm_s hf ex5
    refine lv_istore_n (lv' := [(1, .int x5), (0, .ref (a 66)), (2, .int v2)]) hx hb dX12_hearing_34 rfl hl (by decide) rfl (fun ls hl => ?_)
    obtain ⟨x6, ex6⟩ : ∃ y : Int32, y = (v2 + 1) := ⟨_, rfl⟩
    have hf := nm_s hf ex6
    refine lv_iinc (v := x6) (lv' := [(2, .int x6), (1, .int x5), (0, .ref (a 66))]) hx hb dX12_hearing_35 hl (k := 2) rfl (by rw [ex6]; rfl) (by decide) rfl (fun ls hl => ?_)
    refine lv_goto (tgt := 4) hx hb dX12_hearing_38 (by decide) ?_
    exact hk4 x5 x6 hf H locs ls hP hS (lv_sub hl [2, 1, 0] rfl)
  have J4 : ∀ (fu : Nat) (v1 : Int32) (v2 : Int32), X12_hearing_B4 h fu v1 v2 = some r → gG p l e (headSpec uX12_hearing rmX12_hearing).room s m ([.ref (a 66)] : List Value).toArray below meth c (MQ below (gQ (some (.int r)) D a C h) ([.ref (a 66)] : List Value).toArray s 0 0 (gA a)) D a C 3 h 4 [(0, .ref (a 66)), (1, .int v1), (2, .int v2)] [] := by
    intro fu
    induction fu with
    | zero => intro v1 v2 hf; exact absurd hf (by simp [X12_hearing_B4])
    | succ fu ih =>
      intro v1 v2 hf H locs ls hP hS hl
      rw [X12_hearing_B4] at hf
      refine lv_iload_n hx hb dX12_hearing_4 rfl (lv_at hl 2 rfl) ?_
      refine lv_aload_n hx hb dX12_hearing_5 rfl (lv_at hl 0 rfl) ?_
      refine g_get (Cn := RX12) (T := TX12) (N := 21) (v := .ref (a 67)) (own := RX12) hx hb hown hts hK M_O rfl (fun _ hw => List.mem_cons_of_mem _ (u12_cls _ hw)) 0 (by decide) (List.mem_cons_of_mem _ (u12_0 _ (List.mem_of_getElem? (i := 5) rfl))) rfl rfl hP dX12_hearing_6 ?_
      refine lv_iconst (v := 0) hx hb dX12_hearing_9 (by decide) ?_
      obtain ⟨c1, hf⟩ := gdi_s hf
      refine g_ial hx hb hK (⟨by decide, rfl⟩ : gAI 67 30) c1 hP dX12_hearing_10 ?_
      refine lv_icmp_ge (tgt := 41) hx hb dX12_hearing_11 (by decide) (fun c2 => ?_) (fun c2 => ?_)
      · have hf := if_t hf c2
        refine lv_iload_n hx hb dX12_hearing_41 rfl (lv_at hl 1 rfl) ?_
        exact g_iret hx hb hr hlk hP hS (ret1 hf) dX12_hearing_42
      · have hf := if_f hf c2
        refine lv_iload_n hx hb dX12_hearing_14 rfl (lv_at hl 1 rfl) ?_
        refine lv_aload_n hx hb dX12_hearing_15 rfl (lv_at hl 0 rfl) ?_
        refine g_get (Cn := RX12) (T := TX12) (N := 21) (v := .ref (a 67)) (own := RX12) hx hb hown hts hK M_O rfl (fun _ hw => List.mem_cons_of_mem _ (u12_cls _ hw)) 0 (by decide) (List.mem_cons_of_mem _ (u12_0 _ (List.mem_of_getElem? (i := 5) rfl))) rfl rfl hP dX12_hearing_16 ?_
        refine lv_iload_n hx hb dX12_hearing_19 rfl (lv_at hl 2 rfl) ?_
        obtain ⟨q3, hq3, hf⟩ := bind_s hf
        refine g_callS (As := [.ref (a 67), .int v2]) (rest := [.int v1]) hx hb hml hown hts hK hN (m_X12_isDeaf l D a C ha h 67 v2 (Or.inl rfl) q3 hq3) (va_cwS 2 hts (gUS (u12_2 _ (List.mem_of_getElem? (i := 10) rfl)) (u12_2 _ (List.mem_of_getElem? (i := 11) rfl)) (u12_1 _ (List.mem_of_getElem? (i := 7) rfl)) (u12_1 _ (List.mem_of_getElem? (i := 19) rfl))) rfl rfl rfl kdX12_isDeaf.2 ⟨Nat.le_of_ble_eq_true rfl, Nat.le_of_ble_eq_true rfl⟩) hP hS hA rfl hl.1 rfl (Nat.le_of_ble_eq_true rfl) dX12_hearing_20 ⟨Nat.le_refl _, Nat.le_refl _⟩ (fun H locs hP hS => ?_)
        refine W.eq (g2 := F0 m 23 ls [.int q3, .int v1]) rfl ?_
        refine lv_if_eq (tgt := 30) hx hb dX12_hearing_23 (by decide) (fun c4 => ?_) (fun c4 => ?_)
        · have hf := if_t hf c4
          refine lv_iconst (v := 1) hx hb dX12_hearing_30 (by decide) ?_
          refine lv_iload_n hx hb dX12_hearing_31 rfl (lv_at hl 2 rfl) ?_
          refine lv_ishl hx hb dX12_hearing_32 ?_
          exact J33 (X12_hearing_B4 h fu) ih v2 ((1 : Int32) <<< (v2 &&& 31)) v1 hf H locs ls hP hS (lv_sub hl [0, 2] rfl)
        · have hf := if_f hf c4
          refine lv_iconst (v := 0) hx hb dX12_hearing_26 (by decide) ?_
          refine lv_goto (tgt := 33) hx hb dX12_hearing_27 (by decide) ?_
          exact J33 (X12_hearing_B4 h fu) ih v2 0 v1 hf H locs ls hP hS (lv_sub hl [0, 2] rfl)
  unfold X12_hearing at hf
  suffices hh : ∀ (H : Heap) (locs : List Loc), va_P D vwCl (gw a C h) H → va_S (gA a) s.heap H locs → W p l e (headSpec uX12_hearing rmX12_hearing).room s m ([.ref (a 66)] : List Value).toArray below meth c H locs 0 0 (MQ below (gQ (some (.int r)) D a C h) ([.ref (a 66)] : List Value).toArray s 0 0 (gA a)) (F0 m 0 ls []) from hh _ _ hP hS
  intro H locs hP hS
  refine lv_iconst (v := 0) hx hb dX12_hearing_0 (by decide) ?_
  refine lv_istore_n (lv' := [(1, .int 0), (0, .ref (a 66))]) hx hb dX12_hearing_1 rfl hl (by decide) rfl (fun ls hl => ?_)
  refine lv_iconst (v := 0) hx hb dX12_hearing_2 (by decide) ?_
  refine lv_istore_n (lv' := [(2, .int 0), (1, .int 0), (0, .ref (a 66))]) hx hb dX12_hearing_3 rfl hl (by decide) rfl (fun ls hl => ?_)
  exact J4 FU 0 0 hf H locs ls hP hS (lv_sub hl [2, 1, 0] rfl)

def X12_stamps_B138 (v1 : Int32) (v2 : Int32) (v3 : Int32) (k39 : Int32 → Int32 → Int32 → HS → Option (Int32 × HS)) (v4 : Int32) (v5 : Int32) (v6 : Int32) (h : HS) : Option (Int32 × HS) :=
    nm (v6 + 1) fun x25 =>
    k39 v4 v5 x25 h
def X12_stamps_B39 (v1 : Int32) (v2 : Int32) (v3 : Int32) : Nat → Int32 → Int32 → Int32 → HS → Option (Int32 × HS)
  | 0, _, _, _, _ => none
  | fu + 1, v4, v5, v6, h =>
    gdi 0 30 <|
    (if ((1 : Int32) <<< ((aI h 67 (0 : Int32).toNatClampNeg) &&& 31)) ≤ v6 then
    (if 0 ≤ v5 then
    (if v3 = 0 then
    some (v4, h)
    else
    some (v5, h))
    else
    some (0, h))
    else
    (X12_bits v6).bind fun q11 =>
    (if q11 = v1 then
    (X12_hearing h).bind fun q13 =>
    (if (v6 &&& (q13 ^^^ (-1))) = 0 then
    (X12_copies h 67 68).bind fun q15 =>
    gdi 2 30 <|
    gdi 2 30 <|
    nm (sA q15 68 (upd (aI q15 68) (2 : Int32).toNatClampNeg ((aI q15 68 (2 : Int32).toNatClampNeg) ||| v6))) fun h17 =>
    (X12_daysOn h17 68 v2).bind fun q19 =>
    gdi 2 30 <|
    (X12_bits (aI q19 68 (2 : Int32).toNatClampNeg)).bind fun q21 =>
    (if v5 < q21 then
    gdi 2 30 <|
    (X12_bits (aI q19 68 (2 : Int32).toNatClampNeg)).bind fun q24 =>
    X12_stamps_B138 v1 v2 v3 (X12_stamps_B39 v1 v2 v3 fu) v6 q24 v6 q19
    else
    X12_stamps_B138 v1 v2 v3 (X12_stamps_B39 v1 v2 v3 fu) v4 v5 v6 q19)
    else
    X12_stamps_B138 v1 v2 v3 (X12_stamps_B39 v1 v2 v3 fu) v4 v5 v6 h)
    else
    X12_stamps_B138 v1 v2 v3 (X12_stamps_B39 v1 v2 v3 fu) v4 v5 v6 h))
def X12_stamps (h : HS) (v1 : Int32) (v2 : Int32) (v3 : Int32) : Option (Int32 × HS) :=
    (X12_isIn v1 1 4).bind fun q1 =>
    (if q1 = 0 then
    some ((-1), h)
    else
    (X12_isIn v2 0 30).bind fun q3 =>
    (if q3 = 0 then
    some ((-1), h)
    else
    (X12_isIn v3 0 1).bind fun q5 =>
    (if q5 = 0 then
    some ((-1), h)
    else
    X12_stamps_B39 v1 v2 v3 FU 0 (-1) 0 h)))
def uX12_stamps : List Cond := .code yX12_stamps cX12_stamps 7 (some .int) :: UU
def rmX12_stamps : Room := { frames := 6, cells := 0, slots := 0, locals := 133 }
theorem kdX12_stamps : yX12_stamps.cls = RX12 ∧ yX12_stamps.cls ≠ "java/lang/invoke/MethodHandle" ∧ yX12_stamps.cls ≠ "java/lang/invoke/VarHandle" ∧ (parseMethodDescriptor yX12_stamps.desc).map (fun d => d.parameters.length) = some 3 := by decide +kernel
set_option maxHeartbeats 4000000 in
set_option maxRecDepth 100000 in
theorem m_X12_stamps (l : Launch) (D : va_G) (a : Nat → Nat) (C : Nat → ClassId) (ha : ginj a) (h : HS) (v1 : Int32) (v2 : Int32) (v3 : Int32)  (r : Int32) (h' : HS) (hf : X12_stamps h v1 v2 v3 = some (r, h')) : gM l yX12_stamps uX12_stamps rmX12_stamps D a C [.ref (a 66), .int v1, .int v2, .int v3] h (some (.int r)) h' := by
  refine g_start (av := [.ref (a 66), .int v1, .int v2, .int v3]) (cc := cX12_stamps) (maxL := 7) (rt := (some .int)) (by decide) rfl (Nat.le_of_ble_eq_true rfl) ?_
  intro p e s m below meth c hx hb hr hml hown hlk hts hP hK hN ls hl
  have hA : ∀ q, gA a q → gA a q := fun _ q => q
  have hS : va_S (gA a) s.heap s.heap [] := va_S.rf
  have hl : lv_has ls 7 [(0, .ref (a 66)), (1, .int v1), (2, .int v2), (3, .int v3)] := hl
  have J138 : ∀ (k39 : Int32 → Int32 → Int32 → HS → Option (Int32 × HS)) (hk39 : ∀ (v4 : Int32) (v5 : Int32) (v6 : Int32) (h : HS), k39 v4 v5 v6 h = some (r, h') → gG p l e (headSpec uX12_stamps rmX12_stamps).room s m ([.ref (a 66), .int v1, .int v2, .int v3] : List Value).toArray below meth c (MQ below (gQ (some (.int r)) D a C h') ([.ref (a 66), .int v1, .int v2, .int v3] : List Value).toArray s 0 0 (gA a)) D a C 7 h 39 [(0, .ref (a 66)), (1, .int v1), (2, .int v2), (3, .int v3), (4, .int v4), (5, .int v5), (6, .int v6)] []) (v4 : Int32) (v5 : Int32) (v6 : Int32) (h : HS) (_ : X12_stamps_B138 v1 v2 v3 k39 v4 v5 v6 h = some (r, h')), gG p l e (headSpec uX12_stamps rmX12_stamps).room s m ([.ref (a 66), .int v1, .int v2, .int v3] : List Value).toArray below meth c (MQ below (gQ (some (.int r)) D a C h') ([.ref (a 66), .int v1, .int v2, .int v3] : List Value).toArray s 0 0 (gA a)) D a C 7 h 138 [(0, .ref (a 66)), (1, .int v1), (2, .int v2), (3, .int v3), (4, .int v4), (5, .int v5), (6, .int v6)] [] := by
    intro k39 hk39 v4 v5 v6 h hf H locs ls hP hS hl
    unfold X12_stamps_B138 at hf
    obtain ⟨x25, ex25⟩ : ∃ y : Int32, y = (v6 + 1) := ⟨_, rfl⟩
    have hf := nm_s hf ex25
    refine lv_iinc (v := x25) (lv' := [(6, .int x25), (0, .ref (a 66)), (1, .int v1), (2, .int v2), (3, .int v3), (4, .int v4), (5, .int v5)]) hx hb dX12_stamps_138 hl (k := 6) rfl (by rw [ex25]; rfl) (by decide) rfl (fun ls hl => ?_)
    refine lv_goto (tgt := 39) hx hb dX12_stamps_141 (by decide) ?_
    exact hk39 v4 v5 x25 h hf H locs ls hP hS (lv_sub hl [1, 2, 3, 4, 5, 6, 0] rfl)
  have J39 : ∀ (fu : Nat) (v4 : Int32) (v5 : Int32) (v6 : Int32) (h : HS), X12_stamps_B39 v1 v2 v3 fu v4 v5 v6 h = some (r, h') → gG p l e (headSpec uX12_stamps rmX12_stamps).room s m ([.ref (a 66), .int v1, .int v2, .int v3] : List Value).toArray below meth c (MQ below (gQ (some (.int r)) D a C h') ([.ref (a 66), .int v1, .int v2, .int v3] : List Value).toArray s 0 0 (gA a)) D a C 7 h 39 [(0, .ref (a 66)), (1, .int v1), (2, .int v2), (3, .int v3), (4, .int v4), (5, .int v5), (6, .int v6)] [] := by
    intro fu
    induction fu with
    | zero => intro v4 v5 v6 h hf; exact absurd hf (by simp [X12_stamps_B39])
    | succ fu ih =>
      intro v4 v5 v6 h hf H locs ls hP hS hl
      rw [X12_stamps_B39] at hf
      refine lv_iload hx hb dX12_stamps_39 (lv_at hl 6 rfl) ?_
      refine lv_iconst (v := 1) hx hb dX12_stamps_41 (by decide) ?_
      refine lv_aload_n hx hb dX12_stamps_42 rfl (lv_at hl 0 rfl) ?_
      refine g_get (Cn := RX12) (T := TX12) (N := 21) (v := .ref (a 67)) (own := RX12) hx hb hown hts hK M_O rfl (fun _ hw => List.mem_cons_of_mem _ (u12_cls _ hw)) 0 (by decide) (List.mem_cons_of_mem _ (u12_0 _ (List.mem_of_getElem? (i := 5) rfl))) rfl rfl hP dX12_stamps_43 ?_
      refine lv_iconst (v := 0) hx hb dX12_stamps_46 (by decide) ?_
      obtain ⟨c7, hf⟩ := gdi_s hf
      refine g_ial hx hb hK (⟨by decide, rfl⟩ : gAI 67 30) c7 hP dX12_stamps_47 ?_
      refine lv_ishl hx hb dX12_stamps_48 ?_
      refine lv_icmp_ge (tgt := 144) hx hb dX12_stamps_49 (by decide) (fun c8 => ?_) (fun c8 => ?_)
      · have hf := if_t hf c8
        refine lv_iload hx hb dX12_stamps_144 (lv_at hl 5 rfl) ?_
        refine lv_if_ge (tgt := 153) hx hb dX12_stamps_146 (by decide) (fun c9 => ?_) (fun c9 => ?_)
        · have hf := if_t hf c9
          refine lv_iload_n hx hb dX12_stamps_153 rfl (lv_at hl 3 rfl) ?_
          refine lv_if_ne (tgt := 162) hx hb dX12_stamps_154 (by decide) (fun c10 => ?_) (fun c10 => ?_)
          · have hf := if_f hf c10
            refine lv_iload hx hb dX12_stamps_162 (lv_at hl 5 rfl) ?_
            exact g_iretW hx hb hr hlk hP hS (ret2 hf) dX12_stamps_164
          · have hf := if_t hf c10
            refine lv_iload hx hb dX12_stamps_157 (lv_at hl 4 rfl) ?_
            refine lv_goto (tgt := 164) hx hb dX12_stamps_159 (by decide) ?_
            exact g_iretW hx hb hr hlk hP hS (ret2 hf) dX12_stamps_164
        · have hf := if_f hf c9
          refine lv_iconst (v := 0) hx hb dX12_stamps_149 (by decide) ?_
          refine lv_goto (tgt := 164) hx hb dX12_stamps_150 (by decide) ?_
          exact g_iretW hx hb hr hlk hP hS (ret2 hf) dX12_stamps_164
      · have hf := if_f hf c8
        refine lv_iload hx hb dX12_stamps_52 (lv_at hl 6 rfl) ?_
        obtain ⟨q11, hq11, hf⟩ := bind_s hf
        refine g_callS (As := [.int v6]) (rest := []) hx hb hml hown hts hK hN (m_X12_bits l D a C ha h v6  q11 hq11) (va_cwS 1 hts (gUS (u12_1 _ (List.mem_of_getElem? (i := 17) rfl)) (u12_1 _ (List.mem_of_getElem? (i := 18) rfl)) (u12_1 _ (List.mem_of_getElem? (i := 7) rfl)) (u12_1 _ (List.mem_of_getElem? (i := 13) rfl))) rfl rfl rfl kdX12_bits.2 ⟨Nat.le_of_ble_eq_true rfl, Nat.le_of_ble_eq_true rfl⟩) hP hS hA rfl hl.1 rfl (Nat.le_of_ble_eq_true rfl) dX12_stamps_54 ⟨Nat.le_refl _, Nat.le_refl _⟩ (fun H locs hP hS => ?_)
        refine W.eq (g2 := F0 m 57 ls [.int q11]) rfl ?_
        refine lv_iload_n hx hb dX12_stamps_57 rfl (lv_at hl 1 rfl) ?_
        refine lv_icmp_ne (tgt := 138) hx hb dX12_stamps_58 (by decide) (fun c12 => ?_) (fun c12 => ?_)
        · have hf := if_f hf c12
          exact J138 (X12_stamps_B39 v1 v2 v3 fu) ih v4 v5 v6 h hf H locs ls hP hS (lv_sub hl [0, 1, 2, 3, 4, 5, 6] rfl)
        · have hf := if_t hf c12
          refine lv_iload hx hb dX12_stamps_61 (lv_at hl 6 rfl) ?_
          refine lv_aload_n hx hb dX12_stamps_63 rfl (lv_at hl 0 rfl) ?_
          obtain ⟨q13, hq13, hf⟩ := bind_s hf
          refine g_callV (As := []) (rest := [.int v6]) hx hb hml hown hts hK hN (m_X12_hearing l D a C ha h  q13 hq13) (cwV 0 hts (gUV (u12_8 _ (List.mem_of_getElem? (i := 1) rfl)) (u12_8 _ (List.mem_of_getElem? (i := 2) rfl)) (u12_8 _ (List.mem_of_getElem? (i := 3) rfl)) (u12_1 _ (List.mem_of_getElem? (i := 7) rfl)) (u12_8 _ (List.mem_of_getElem? (i := 0) rfl))) rfl rfl rfl kdX12_hearing ⟨Nat.le_of_ble_eq_true rfl, Nat.le_of_ble_eq_true rfl⟩) M_O rfl rfl hP hS hA rfl hl.1 rfl (Nat.le_of_ble_eq_true rfl) dX12_stamps_64 ⟨Nat.le_refl _, Nat.le_refl _⟩ (fun H locs hP hS => ?_)
          refine W.eq (g2 := F0 m 67 ls [.int q13, .int v6]) rfl ?_
          refine lv_iconst (v := (-1)) hx hb dX12_stamps_67 (by decide) ?_
          refine lv_ixor hx hb dX12_stamps_68 ?_
          refine lv_iand hx hb dX12_stamps_69 ?_
          refine lv_if_eq (tgt := 76) hx hb dX12_stamps_70 (by decide) (fun c14 => ?_) (fun c14 => ?_)
          · have hf := if_t hf c14
            refine lv_aload_n hx hb dX12_stamps_76 rfl (lv_at hl 0 rfl) ?_
            refine g_get (Cn := RX12) (T := TX12) (N := 21) (v := .ref (a 67)) (own := RX12) hx hb hown hts hK M_O rfl (fun _ hw => List.mem_cons_of_mem _ (u12_cls _ hw)) 0 (by decide) (List.mem_cons_of_mem _ (u12_0 _ (List.mem_of_getElem? (i := 5) rfl))) rfl rfl hP dX12_stamps_77 ?_
            refine lv_aload_n hx hb dX12_stamps_80 rfl (lv_at hl 0 rfl) ?_
            refine g_get (Cn := RX12) (T := TX12) (N := 21) (v := .ref (a 68)) (own := RX12) hx hb hown hts hK M_O rfl (fun _ hw => List.mem_cons_of_mem _ (u12_cls _ hw)) 1 (by decide) (List.mem_cons_of_mem _ (u12_0 _ (List.mem_of_getElem? (i := 6) rfl))) rfl rfl hP dX12_stamps_81 ?_
            obtain ⟨q15, hq15, hf⟩ := bind_s hf
            refine g_callS (As := [.ref (a 67), .ref (a 68)]) (rest := []) hx hb hml hown hts hK hN (m_X12_copies l D a C ha h 67 68 (Or.inl rfl) (Or.inr (Or.inl rfl)) q15 hq15) (va_cwS 2 hts (gUS (u12_4 _ (List.mem_of_getElem? (i := 19) rfl)) (u12_5 _ (List.mem_of_getElem? (i := 0) rfl)) (u12_1 _ (List.mem_of_getElem? (i := 7) rfl)) (u12_1 _ (List.mem_of_getElem? (i := 2) rfl))) rfl rfl rfl kdX12_copies.2 ⟨Nat.le_of_ble_eq_true rfl, Nat.le_of_ble_eq_true rfl⟩) hP hS hA rfl hl.1 rfl (Nat.le_of_ble_eq_true rfl) dX12_stamps_84 ⟨Nat.le_refl _, Nat.le_refl _⟩ (fun H locs hP hS => ?_)
            refine W.eq (g2 := F0 m 87 ls []) rfl ?_
            refine lv_aload_n hx hb dX12_stamps_87 rfl (lv_at hl 0 rfl) ?_
            refine g_get (Cn := RX12) (T := TX12) (N := 21) (v := .ref (a 68)) (own := RX12) hx hb hown hts hK M_O rfl (fun _ hw => List.mem_cons_of_mem _ (u12_cls _ hw)) 1 (by decide) (List.mem_cons_of_mem _ (u12_0 _ (List.mem_of_getElem? (i := 6) rfl))) rfl rfl hP dX12_stamps_88 ?_
            refine lv_iconst (v := 2) hx hb dX12_stamps_91 (by decide) ?_
            refine lv_dup2_11 hx hb dX12_stamps_92 rfl rfl ?_
            obtain ⟨c16, hf⟩ := gdi_s hf
            refine g_ial hx hb hK (⟨by decide, rfl⟩ : gAI 68 30) c16 hP dX12_stamps_93 ?_
            refine lv_iload hx hb dX12_stamps_94 (lv_at hl 6 rfl) ?_
            refine lv_ior hx hb dX12_stamps_96 ?_
            obtain ⟨c18, hf⟩ := gdi_s hf
            refine g_ias hx hb hK ha hA (⟨by decide, rfl⟩ : gAI 68 30) c18 hP hS dX12_stamps_97 (fun H locs hP hS => ?_)
            obtain ⟨h17, eh17⟩ : ∃ x, x = (sA q15 68 (upd (aI q15 68) (2 : Int32).toNatClampNeg ((aI q15 68 (2 : Int32).toNatClampNeg) ||| v6))) := ⟨_, rfl⟩
            rw [← eh17] at hP
            have hf := nm_s hf eh17
            refine lv_aload_n hx hb dX12_stamps_98 rfl (lv_at hl 0 rfl) ?_
            refine g_get (Cn := RX12) (T := TX12) (N := 21) (v := .ref (a 68)) (own := RX12) hx hb hown hts hK M_O rfl (fun _ hw => List.mem_cons_of_mem _ (u12_cls _ hw)) 1 (by decide) (List.mem_cons_of_mem _ (u12_0 _ (List.mem_of_getElem? (i := 6) rfl))) rfl rfl hP dX12_stamps_99 ?_
            refine lv_iload_n hx hb dX12_stamps_102 rfl (lv_at hl 2 rfl) ?_
            obtain ⟨q19, hq19, hf⟩ := bind_s hf
            refine g_callS (As := [.ref (a 68), .int v2]) (rest := []) hx hb hml hown hts hK hN (m_X12_daysOn l D a C ha h17 68 v2 (Or.inr (Or.inl rfl)) q19 hq19) (va_cwS 2 hts (gUS (u12_4 _ (List.mem_of_getElem? (i := 6) rfl)) (u12_4 _ (List.mem_of_getElem? (i := 7) rfl)) (u12_1 _ (List.mem_of_getElem? (i := 7) rfl)) (u12_2 _ (List.mem_of_getElem? (i := 19) rfl))) rfl rfl rfl kdX12_daysOn.2 ⟨Nat.le_of_ble_eq_true rfl, Nat.le_of_ble_eq_true rfl⟩) hP hS hA rfl hl.1 rfl (Nat.le_of_ble_eq_true rfl) dX12_stamps_103 ⟨Nat.le_refl _, Nat.le_refl _⟩ (fun H locs hP hS => ?_)
            refine W.eq (g2 := F0 m 106 ls []) rfl ?_
            refine lv_aload_n hx hb dX12_stamps_106 rfl (lv_at hl 0 rfl) ?_
            refine g_get (Cn := RX12) (T := TX12) (N := 21) (v := .ref (a 68)) (own := RX12) hx hb hown hts hK M_O rfl (fun _ hw => List.mem_cons_of_mem _ (u12_cls _ hw)) 1 (by decide) (List.mem_cons_of_mem _ (u12_0 _ (List.mem_of_getElem? (i := 6) rfl))) rfl rfl hP dX12_stamps_107 ?_
            refine lv_iconst (v := 2) hx hb dX12_stamps_110 (by decide) ?_
            obtain ⟨c20, hf⟩ := gdi_s hf
            refine g_ial hx hb hK (⟨by decide, rfl⟩ : gAI 68 30) c20 hP dX12_stamps_111 ?_
            obtain ⟨q21, hq21, hf⟩ := bind_s hf
            refine g_callS (As := [.int (aI q19 68 (2 : Int32).toNatClampNeg)]) (rest := []) hx hb hml hown hts hK hN (m_X12_bits l D a C ha q19 (aI q19 68 (2 : Int32).toNatClampNeg)  q21 hq21) (va_cwS 1 hts (gUS (u12_1 _ (List.mem_of_getElem? (i := 17) rfl)) (u12_1 _ (List.mem_of_getElem? (i := 18) rfl)) (u12_1 _ (List.mem_of_getElem? (i := 7) rfl)) (u12_1 _ (List.mem_of_getElem? (i := 13) rfl))) rfl rfl rfl kdX12_bits.2 ⟨Nat.le_of_ble_eq_true rfl, Nat.le_of_ble_eq_true rfl⟩) hP hS hA rfl hl.1 rfl (Nat.le_of_ble_eq_true rfl) dX12_stamps_112 ⟨Nat.le_refl _, Nat.le_refl _⟩ (fun H locs hP hS => ?_)
            refine W.eq (g2 := F0 m 115 ls [.int q21]) rfl ?_
            refine lv_iload hx hb dX12_stamps_115 (lv_at hl 5 rfl) ?_
            refine lv_icmp_gt (tgt := 123) hx hb dX12_stamps_117 (by decide) (fun c22 => ?_) (fun c22 => ?_)
            · have hf := if_t hf c22
              refine lv_iload hx hb dX12_stamps_123 (lv_at hl 6 rfl) ?_
              refine lv_istore (lv' := [(4, .int v6), (0, .ref (a 66)), (1, .int v1), (2, .int v2), (3, .int v3), (5, .int v5), (6, .int v6)]) hx hb dX12_stamps_125 hl (by decide) rfl (fun ls hl => ?_)
              refine lv_aload_n hx hb dX12_stamps_127 rfl (lv_at hl 1 rfl) ?_
              refine g_get (Cn := RX12) (T := TX12) (N := 21) (v := .ref (a 68)) (own := RX12) hx hb hown hts hK M_O rfl (fun _ hw => List.mem_cons_of_mem _ (u12_cls _ hw)) 1 (by decide) (List.mem_cons_of_mem _ (u12_0 _ (List.mem_of_getElem? (i := 6) rfl))) rfl rfl hP dX12_stamps_128 ?_
              refine lv_iconst (v := 2) hx hb dX12_stamps_131 (by decide) ?_
              obtain ⟨c23, hf⟩ := gdi_s hf
              refine g_ial hx hb hK (⟨by decide, rfl⟩ : gAI 68 30) c23 hP dX12_stamps_132 ?_
              obtain ⟨q24, hq24, hf⟩ := bind_s hf
              refine g_callS (As := [.int (aI q19 68 (2 : Int32).toNatClampNeg)]) (rest := []) hx hb hml hown hts hK hN (m_X12_bits l D a C ha q19 (aI q19 68 (2 : Int32).toNatClampNeg)  q24 hq24) (va_cwS 1 hts (gUS (u12_1 _ (List.mem_of_getElem? (i := 17) rfl)) (u12_1 _ (List.mem_of_getElem? (i := 18) rfl)) (u12_1 _ (List.mem_of_getElem? (i := 7) rfl)) (u12_1 _ (List.mem_of_getElem? (i := 13) rfl))) rfl rfl rfl kdX12_bits.2 ⟨Nat.le_of_ble_eq_true rfl, Nat.le_of_ble_eq_true rfl⟩) hP hS hA rfl hl.1 rfl (Nat.le_of_ble_eq_true rfl) dX12_stamps_133 ⟨Nat.le_refl _, Nat.le_refl _⟩ (fun H locs hP hS => ?_)
              refine W.eq (g2 := F0 m 136 ls [.int q24]) rfl ?_
              refine lv_istore (lv' := [(5, .int q24), (4, .int v6), (0, .ref (a 66)), (1, .int v1), (2, .int v2), (3, .int v3), (6, .int v6)]) hx hb dX12_stamps_136 hl (by decide) rfl (fun ls hl => ?_)
              exact J138 (X12_stamps_B39 v1 v2 v3 fu) ih v6 q24 v6 q19 hf H locs ls hP hS (lv_sub hl [2, 3, 4, 5, 1, 0, 6] rfl)
            · have hf := if_f hf c22
              refine lv_goto (tgt := 138) hx hb dX12_stamps_120 (by decide) ?_
              exact J138 (X12_stamps_B39 v1 v2 v3 fu) ih v4 v5 v6 q19 hf H locs ls hP hS (lv_sub hl [0, 1, 2, 3, 4, 5, 6] rfl)
          · have hf := if_f hf c14
            refine lv_goto (tgt := 138) hx hb dX12_stamps_73 (by decide) ?_
            exact J138 (X12_stamps_B39 v1 v2 v3 fu) ih v4 v5 v6 h hf H locs ls hP hS (lv_sub hl [0, 1, 2, 3, 4, 5, 6] rfl)
  unfold X12_stamps at hf
  suffices hh : ∀ (H : Heap) (locs : List Loc), va_P D vwCl (gw a C h) H → va_S (gA a) s.heap H locs → W p l e (headSpec uX12_stamps rmX12_stamps).room s m ([.ref (a 66), .int v1, .int v2, .int v3] : List Value).toArray below meth c H locs 0 0 (MQ below (gQ (some (.int r)) D a C h') ([.ref (a 66), .int v1, .int v2, .int v3] : List Value).toArray s 0 0 (gA a)) (F0 m 0 ls []) from hh _ _ hP hS
  intro H locs hP hS
  refine lv_iload_n hx hb dX12_stamps_0 rfl (lv_at hl 1 rfl) ?_
  refine lv_iconst (v := 1) hx hb dX12_stamps_1 (by decide) ?_
  refine lv_iconst (v := 4) hx hb dX12_stamps_2 (by decide) ?_
  obtain ⟨q1, hq1, hf⟩ := bind_s hf
  refine g_callS (As := [.int v1, .int 1, .int 4]) (rest := []) hx hb hml hown hts hK hN (m_X12_isIn l D a C ha h v1 1 4  q1 hq1) (va_cwS 3 hts (gUS (u12_1 _ (List.mem_of_getElem? (i := 5) rfl)) (u12_1 _ (List.mem_of_getElem? (i := 6) rfl)) (u12_1 _ (List.mem_of_getElem? (i := 7) rfl)) (u12_1 _ (List.mem_of_getElem? (i := 1) rfl))) rfl rfl rfl kdX12_isIn.2 ⟨Nat.le_of_ble_eq_true rfl, Nat.le_of_ble_eq_true rfl⟩) hP hS hA rfl hl.1 rfl (Nat.le_of_ble_eq_true rfl) dX12_stamps_3 ⟨Nat.le_refl _, Nat.le_refl _⟩ (fun H locs hP hS => ?_)
  refine W.eq (g2 := F0 m 6 ls [.int q1]) rfl ?_
  refine lv_if_eq (tgt := 28) hx hb dX12_stamps_6 (by decide) (fun c2 => ?_) (fun c2 => ?_)
  · have hf := if_t hf c2
    refine lv_iconst (v := (-1)) hx hb dX12_stamps_28 (by decide) ?_
    exact g_iretW hx hb hr hlk hP hS (ret2 hf) dX12_stamps_29
  · have hf := if_f hf c2
    refine lv_iload_n hx hb dX12_stamps_9 rfl (lv_at hl 2 rfl) ?_
    refine lv_iconst (v := 0) hx hb dX12_stamps_10 (by decide) ?_
    refine lv_bipush (v := 30) hx hb dX12_stamps_11 (by decide) ?_
    obtain ⟨q3, hq3, hf⟩ := bind_s hf
    refine g_callS (As := [.int v2, .int 0, .int 30]) (rest := []) hx hb hml hown hts hK hN (m_X12_isIn l D a C ha h v2 0 30  q3 hq3) (va_cwS 3 hts (gUS (u12_1 _ (List.mem_of_getElem? (i := 5) rfl)) (u12_1 _ (List.mem_of_getElem? (i := 6) rfl)) (u12_1 _ (List.mem_of_getElem? (i := 7) rfl)) (u12_1 _ (List.mem_of_getElem? (i := 1) rfl))) rfl rfl rfl kdX12_isIn.2 ⟨Nat.le_of_ble_eq_true rfl, Nat.le_of_ble_eq_true rfl⟩) hP hS hA rfl hl.1 rfl (Nat.le_of_ble_eq_true rfl) dX12_stamps_13 ⟨Nat.le_refl _, Nat.le_refl _⟩ (fun H locs hP hS => ?_)
    refine W.eq (g2 := F0 m 16 ls [.int q3]) rfl ?_
    refine lv_if_eq (tgt := 28) hx hb dX12_stamps_16 (by decide) (fun c4 => ?_) (fun c4 => ?_)
    · have hf := if_t hf c4
      refine lv_iconst (v := (-1)) hx hb dX12_stamps_28 (by decide) ?_
      exact g_iretW hx hb hr hlk hP hS (ret2 hf) dX12_stamps_29
    · have hf := if_f hf c4
      refine lv_iload_n hx hb dX12_stamps_19 rfl (lv_at hl 3 rfl) ?_
      refine lv_iconst (v := 0) hx hb dX12_stamps_20 (by decide) ?_
      refine lv_iconst (v := 1) hx hb dX12_stamps_21 (by decide) ?_
      obtain ⟨q5, hq5, hf⟩ := bind_s hf
      refine g_callS (As := [.int v3, .int 0, .int 1]) (rest := []) hx hb hml hown hts hK hN (m_X12_isIn l D a C ha h v3 0 1  q5 hq5) (va_cwS 3 hts (gUS (u12_1 _ (List.mem_of_getElem? (i := 5) rfl)) (u12_1 _ (List.mem_of_getElem? (i := 6) rfl)) (u12_1 _ (List.mem_of_getElem? (i := 7) rfl)) (u12_1 _ (List.mem_of_getElem? (i := 1) rfl))) rfl rfl rfl kdX12_isIn.2 ⟨Nat.le_of_ble_eq_true rfl, Nat.le_of_ble_eq_true rfl⟩) hP hS hA rfl hl.1 rfl (Nat.le_of_ble_eq_true rfl) dX12_stamps_22 ⟨Nat.le_refl _, Nat.le_refl _⟩ (fun H locs hP hS => ?_)
      refine W.eq (g2 := F0 m 25 ls [.int q5]) rfl ?_
      refine lv_if_ne (tgt := 30) hx hb dX12_stamps_25 (by decide) (fun c6 => ?_) (fun c6 => ?_)
      · have hf := if_f hf c6
        refine lv_iconst (v := 0) hx hb dX12_stamps_30 (by decide) ?_
        refine lv_istore (lv' := [(4, .int 0), (0, .ref (a 66)), (1, .int v1), (2, .int v2), (3, .int v3)]) hx hb dX12_stamps_31 hl (by decide) rfl (fun ls hl => ?_)
        refine lv_iconst (v := (-1)) hx hb dX12_stamps_33 (by decide) ?_
        refine lv_istore (lv' := [(5, .int (-1)), (4, .int 0), (0, .ref (a 66)), (1, .int v1), (2, .int v2), (3, .int v3)]) hx hb dX12_stamps_34 hl (by decide) rfl (fun ls hl => ?_)
        refine lv_iconst (v := 0) hx hb dX12_stamps_36 (by decide) ?_
        refine lv_istore (lv' := [(6, .int 0), (5, .int (-1)), (4, .int 0), (0, .ref (a 66)), (1, .int v1), (2, .int v2), (3, .int v3)]) hx hb dX12_stamps_37 hl (by decide) rfl (fun ls hl => ?_)
        exact J39 FU 0 (-1) 0 h hf H locs ls hP hS (lv_sub hl [3, 4, 5, 6, 2, 1, 0] rfl)
      · have hf := if_t hf c6
        refine lv_iconst (v := (-1)) hx hb dX12_stamps_28 (by decide) ?_
        exact g_iretW hx hb hr hlk hP hS (ret2 hf) dX12_stamps_29

def X12_isLate (v0 : Int32) : Option Int32 :=
    (X12_isIn v0 0 60).bind fun q1 =>
    gdb q1 <|
    some q1
def uX12_isLate : List Cond := .code yX12_isLate cX12_isLate 1 (some .boolean) :: UU
def rmX12_isLate : Room := { frames := 1, cells := 0, slots := 0, locals := 22 }
theorem kdX12_isLate : yX12_isLate.cls = RX12 ∧ yX12_isLate.cls ≠ "java/lang/invoke/MethodHandle" ∧ yX12_isLate.cls ≠ "java/lang/invoke/VarHandle" ∧ (parseMethodDescriptor yX12_isLate.desc).map (fun d => d.parameters.length) = some 1 := by decide +kernel
set_option maxHeartbeats 4000000 in
set_option maxRecDepth 100000 in
theorem m_X12_isLate (l : Launch) (D : va_G) (a : Nat → Nat) (C : Nat → ClassId) (ha : ginj a) (h : HS) (v0 : Int32)  (r : Int32) (hf : X12_isLate v0 = some r) : gM l yX12_isLate uX12_isLate rmX12_isLate D a C [.int v0] h (some (.int r)) h := by
  refine g_start (av := [.int v0]) (cc := cX12_isLate) (maxL := 1) (rt := (some .boolean)) (by decide) rfl (Nat.le_of_ble_eq_true rfl) ?_
  intro p e s m below meth c hx hb hr hml hown hlk hts hP hK hN ls hl
  have hA : ∀ q, gA a q → gA a q := fun _ q => q
  have hS : va_S (gA a) s.heap s.heap [] := va_S.rf
  have hl : lv_has ls 1 [(0, .int v0)] := hl
  unfold X12_isLate at hf
  refine lv_iload_n hx hb dX12_isLate_0 rfl (lv_at hl 0 rfl) ?_
  refine lv_iconst (v := 0) hx hb dX12_isLate_1 (by decide) ?_
  refine lv_bipush (v := 60) hx hb dX12_isLate_2 (by decide) ?_
  obtain ⟨q1, hq1, hf⟩ := bind_s hf
  refine g_callS (As := [.int v0, .int 0, .int 60]) (rest := []) hx hb hml hown hts hK hN (m_X12_isIn l D a C ha h v0 0 60  q1 hq1) (va_cwS 3 hts (gUS (u12_1 _ (List.mem_of_getElem? (i := 5) rfl)) (u12_1 _ (List.mem_of_getElem? (i := 6) rfl)) (u12_1 _ (List.mem_of_getElem? (i := 7) rfl)) (u12_1 _ (List.mem_of_getElem? (i := 1) rfl))) rfl rfl rfl kdX12_isIn.2 ⟨Nat.le_of_ble_eq_true rfl, Nat.le_of_ble_eq_true rfl⟩) hP hS hA rfl hl.1 rfl (Nat.le_of_ble_eq_true rfl) dX12_isLate_4 ⟨Nat.le_refl _, Nat.le_refl _⟩ (fun H locs hP hS => ?_)
  refine W.eq (g2 := F0 m 7 ls [.int q1]) rfl ?_
  obtain ⟨cz, hf⟩ := gdb_s hf
  exact g_zret hx hb hr hlk cz hP hS (ret1 hf) dX12_isLate_7

def X12_then (h : HS) (v1 : Int32) : Option (Int32 × HS) :=
    (X12_isLate v1).bind fun q1 =>
    (if q1 = 0 then
    some ((-1), h)
    else
    (X12_copies h 67 68).bind fun q3 =>
    (X12_daysOn q3 68 v1).bind fun q4 =>
    gdi 2 30 <|
    some ((aI q4 68 (2 : Int32).toNatClampNeg), q4))
def uX12_then : List Cond := .code yX12_then cX12_then 2 (some .int) :: UU
def rmX12_then : Room := { frames := 6, cells := 0, slots := 0, locals := 133 }
theorem kdX12_then : yX12_then.cls = RX12 ∧ yX12_then.cls ≠ "java/lang/invoke/MethodHandle" ∧ yX12_then.cls ≠ "java/lang/invoke/VarHandle" ∧ (parseMethodDescriptor yX12_then.desc).map (fun d => d.parameters.length) = some 1 := by decide +kernel
set_option maxHeartbeats 4000000 in
set_option maxRecDepth 100000 in
theorem m_X12_then (l : Launch) (D : va_G) (a : Nat → Nat) (C : Nat → ClassId) (ha : ginj a) (h : HS) (v1 : Int32)  (r : Int32) (h' : HS) (hf : X12_then h v1 = some (r, h')) : gM l yX12_then uX12_then rmX12_then D a C [.ref (a 66), .int v1] h (some (.int r)) h' := by
  refine g_start (av := [.ref (a 66), .int v1]) (cc := cX12_then) (maxL := 2) (rt := (some .int)) (by decide) rfl (Nat.le_of_ble_eq_true rfl) ?_
  intro p e s m below meth c hx hb hr hml hown hlk hts hP hK hN ls hl
  have hA : ∀ q, gA a q → gA a q := fun _ q => q
  have hS : va_S (gA a) s.heap s.heap [] := va_S.rf
  have hl : lv_has ls 2 [(0, .ref (a 66)), (1, .int v1)] := hl
  unfold X12_then at hf
  refine lv_iload_n hx hb dX12_then_0 rfl (lv_at hl 1 rfl) ?_
  obtain ⟨q1, hq1, hf⟩ := bind_s hf
  refine g_callS (As := [.int v1]) (rest := []) hx hb hml hown hts hK hN (m_X12_isLate l D a C ha h v1  q1 hq1) (va_cwS 1 hts (gUS (u12_8 _ (List.mem_of_getElem? (i := 6) rfl)) (u12_8 _ (List.mem_of_getElem? (i := 7) rfl)) (u12_1 _ (List.mem_of_getElem? (i := 7) rfl)) (u12_8 _ (List.mem_of_getElem? (i := 5) rfl))) rfl rfl rfl kdX12_isLate.2 ⟨Nat.le_of_ble_eq_true rfl, Nat.le_of_ble_eq_true rfl⟩) hP hS hA rfl hl.1 rfl (Nat.le_of_ble_eq_true rfl) dX12_then_1 ⟨Nat.le_refl _, Nat.le_refl _⟩ (fun H locs hP hS => ?_)
  refine W.eq (g2 := F0 m 4 ls [.int q1]) rfl ?_
  refine lv_if_ne (tgt := 9) hx hb dX12_then_4 (by decide) (fun c2 => ?_) (fun c2 => ?_)
  · have hf := if_f hf c2
    refine lv_aload_n hx hb dX12_then_9 rfl (lv_at hl 0 rfl) ?_
    refine g_get (Cn := RX12) (T := TX12) (N := 21) (v := .ref (a 67)) (own := RX12) hx hb hown hts hK M_O rfl (fun _ hw => List.mem_cons_of_mem _ (u12_cls _ hw)) 0 (by decide) (List.mem_cons_of_mem _ (u12_0 _ (List.mem_of_getElem? (i := 5) rfl))) rfl rfl hP dX12_then_10 ?_
    refine lv_aload_n hx hb dX12_then_13 rfl (lv_at hl 0 rfl) ?_
    refine g_get (Cn := RX12) (T := TX12) (N := 21) (v := .ref (a 68)) (own := RX12) hx hb hown hts hK M_O rfl (fun _ hw => List.mem_cons_of_mem _ (u12_cls _ hw)) 1 (by decide) (List.mem_cons_of_mem _ (u12_0 _ (List.mem_of_getElem? (i := 6) rfl))) rfl rfl hP dX12_then_14 ?_
    obtain ⟨q3, hq3, hf⟩ := bind_s hf
    refine g_callS (As := [.ref (a 67), .ref (a 68)]) (rest := []) hx hb hml hown hts hK hN (m_X12_copies l D a C ha h 67 68 (Or.inl rfl) (Or.inr (Or.inl rfl)) q3 hq3) (va_cwS 2 hts (gUS (u12_4 _ (List.mem_of_getElem? (i := 19) rfl)) (u12_5 _ (List.mem_of_getElem? (i := 0) rfl)) (u12_1 _ (List.mem_of_getElem? (i := 7) rfl)) (u12_1 _ (List.mem_of_getElem? (i := 2) rfl))) rfl rfl rfl kdX12_copies.2 ⟨Nat.le_of_ble_eq_true rfl, Nat.le_of_ble_eq_true rfl⟩) hP hS hA rfl hl.1 rfl (Nat.le_of_ble_eq_true rfl) dX12_then_17 ⟨Nat.le_refl _, Nat.le_refl _⟩ (fun H locs hP hS => ?_)
    refine W.eq (g2 := F0 m 20 ls []) rfl ?_
    refine lv_aload_n hx hb dX12_then_20 rfl (lv_at hl 0 rfl) ?_
    refine g_get (Cn := RX12) (T := TX12) (N := 21) (v := .ref (a 68)) (own := RX12) hx hb hown hts hK M_O rfl (fun _ hw => List.mem_cons_of_mem _ (u12_cls _ hw)) 1 (by decide) (List.mem_cons_of_mem _ (u12_0 _ (List.mem_of_getElem? (i := 6) rfl))) rfl rfl hP dX12_then_21 ?_
    refine lv_iload_n hx hb dX12_then_24 rfl (lv_at hl 1 rfl) ?_
    obtain ⟨q4, hq4, hf⟩ := bind_s hf
    refine g_callS (As := [.ref (a 68), .int v1]) (rest := []) hx hb hml hown hts hK hN (m_X12_daysOn l D a C ha q3 68 v1 (Or.inr (Or.inl rfl)) q4 hq4) (va_cwS 2 hts (gUS (u12_4 _ (List.mem_of_getElem? (i := 6) rfl)) (u12_4 _ (List.mem_of_getElem? (i := 7) rfl)) (u12_1 _ (List.mem_of_getElem? (i := 7) rfl)) (u12_2 _ (List.mem_of_getElem? (i := 19) rfl))) rfl rfl rfl kdX12_daysOn.2 ⟨Nat.le_of_ble_eq_true rfl, Nat.le_of_ble_eq_true rfl⟩) hP hS hA rfl hl.1 rfl (Nat.le_of_ble_eq_true rfl) dX12_then_25 ⟨Nat.le_refl _, Nat.le_refl _⟩ (fun H locs hP hS => ?_)
    refine W.eq (g2 := F0 m 28 ls []) rfl ?_
    refine lv_aload_n hx hb dX12_then_28 rfl (lv_at hl 0 rfl) ?_
    refine g_get (Cn := RX12) (T := TX12) (N := 21) (v := .ref (a 68)) (own := RX12) hx hb hown hts hK M_O rfl (fun _ hw => List.mem_cons_of_mem _ (u12_cls _ hw)) 1 (by decide) (List.mem_cons_of_mem _ (u12_0 _ (List.mem_of_getElem? (i := 6) rfl))) rfl rfl hP dX12_then_29 ?_
    refine lv_iconst (v := 2) hx hb dX12_then_32 (by decide) ?_
    obtain ⟨c5, hf⟩ := gdi_s hf
    refine g_ial hx hb hK (⟨by decide, rfl⟩ : gAI 68 30) c5 hP dX12_then_33 ?_
    exact g_iretW hx hb hr hlk hP hS (ret2 hf) dX12_then_34
  · have hf := if_t hf c2
    refine lv_iconst (v := (-1)) hx hb dX12_then_7 (by decide) ?_
    exact g_iretW hx hb hr hlk hP hS (ret2 hf) dX12_then_8

def X12_hears_B23 (v1 : Int32) : Nat → Int32 → HS → Option (Int32 × HS)
  | 0, _, _ => none
  | fu + 1, v2, h =>
    (if 60 < v2 then
    some ((-4), h)
    else
    gdi 2 30 <|
    (X12_has (aI h 68 (2 : Int32).toNatClampNeg) v1).bind fun q6 =>
    (if q6 = 0 then
    (X12_day h 68 0).bind fun q8 =>
    nm (v2 + 1) fun x9 =>
    (X12_hears_B23 v1 fu) x9 q8
    else
    some (v2, h)))
def X12_hears (h : HS) (v1 : Int32) : Option (Int32 × HS) :=
    (X12_isOne h v1).bind fun q1 =>
    (if q1 = 0 then
    some ((-1), h)
    else
    (X12_copies h 67 68).bind fun q3 =>
    X12_hears_B23 v1 FU 0 q3)
def uX12_hears : List Cond := .code yX12_hears cX12_hears 3 (some .int) :: UU
def rmX12_hears : Room := { frames := 5, cells := 0, slots := 0, locals := 111 }
theorem kdX12_hears : yX12_hears.cls = RX12 ∧ yX12_hears.cls ≠ "java/lang/invoke/MethodHandle" ∧ yX12_hears.cls ≠ "java/lang/invoke/VarHandle" ∧ (parseMethodDescriptor yX12_hears.desc).map (fun d => d.parameters.length) = some 1 := by decide +kernel
set_option maxHeartbeats 4000000 in
set_option maxRecDepth 100000 in
theorem m_X12_hears (l : Launch) (D : va_G) (a : Nat → Nat) (C : Nat → ClassId) (ha : ginj a) (h : HS) (v1 : Int32)  (r : Int32) (h' : HS) (hf : X12_hears h v1 = some (r, h')) : gM l yX12_hears uX12_hears rmX12_hears D a C [.ref (a 66), .int v1] h (some (.int r)) h' := by
  refine g_start (av := [.ref (a 66), .int v1]) (cc := cX12_hears) (maxL := 3) (rt := (some .int)) (by decide) rfl (Nat.le_of_ble_eq_true rfl) ?_
  intro p e s m below meth c hx hb hr hml hown hlk hts hP hK hN ls hl
  have hA : ∀ q, gA a q → gA a q := fun _ q => q
  have hS : va_S (gA a) s.heap s.heap [] := va_S.rf
  have hl : lv_has ls 3 [(0, .ref (a 66)), (1, .int v1)] := hl
  have J23 : ∀ (fu : Nat) (v2 : Int32) (h : HS), X12_hears_B23 v1 fu v2 h = some (r, h') → gG p l e (headSpec uX12_hears rmX12_hears).room s m ([.ref (a 66), .int v1] : List Value).toArray below meth c (MQ below (gQ (some (.int r)) D a C h') ([.ref (a 66), .int v1] : List Value).toArray s 0 0 (gA a)) D a C 3 h 23 [(0, .ref (a 66)), (1, .int v1), (2, .int v2)] [] := by
    intro fu
    induction fu with
    | zero => intro v2 h hf; exact absurd hf (by simp [X12_hears_B23])
    | succ fu ih =>
      intro v2 h hf H locs ls hP hS hl
      rw [X12_hears_B23] at hf
      refine lv_iload_n hx hb dX12_hears_23 rfl (lv_at hl 2 rfl) ?_
      refine lv_bipush (v := 60) hx hb dX12_hears_24 (by decide) ?_
      refine lv_icmp_gt (tgt := 58) hx hb dX12_hears_26 (by decide) (fun c4 => ?_) (fun c4 => ?_)
      · have hf := if_t hf c4
        refine lv_bipush (v := (-4)) hx hb dX12_hears_58 (by decide) ?_
        exact g_iretW hx hb hr hlk hP hS (ret2 hf) dX12_hears_60
      · have hf := if_f hf c4
        refine lv_aload_n hx hb dX12_hears_29 rfl (lv_at hl 0 rfl) ?_
        refine g_get (Cn := RX12) (T := TX12) (N := 21) (v := .ref (a 68)) (own := RX12) hx hb hown hts hK M_O rfl (fun _ hw => List.mem_cons_of_mem _ (u12_cls _ hw)) 1 (by decide) (List.mem_cons_of_mem _ (u12_0 _ (List.mem_of_getElem? (i := 6) rfl))) rfl rfl hP dX12_hears_30 ?_
        refine lv_iconst (v := 2) hx hb dX12_hears_33 (by decide) ?_
        obtain ⟨c5, hf⟩ := gdi_s hf
        refine g_ial hx hb hK (⟨by decide, rfl⟩ : gAI 68 30) c5 hP dX12_hears_34 ?_
        refine lv_iload_n hx hb dX12_hears_35 rfl (lv_at hl 1 rfl) ?_
        obtain ⟨q6, hq6, hf⟩ := bind_s hf
        refine g_callS (As := [.int (aI h 68 (2 : Int32).toNatClampNeg), .int v1]) (rest := []) hx hb hml hown hts hK hN (m_X12_has l D a C ha h (aI h 68 (2 : Int32).toNatClampNeg) v1  q6 hq6) (va_cwS 2 hts (gUS (u12_2 _ (List.mem_of_getElem? (i := 8) rfl)) (u12_2 _ (List.mem_of_getElem? (i := 9) rfl)) (u12_1 _ (List.mem_of_getElem? (i := 7) rfl)) (u12_1 _ (List.mem_of_getElem? (i := 12) rfl))) rfl rfl rfl kdX12_has.2 ⟨Nat.le_of_ble_eq_true rfl, Nat.le_of_ble_eq_true rfl⟩) hP hS hA rfl hl.1 rfl (Nat.le_of_ble_eq_true rfl) dX12_hears_36 ⟨Nat.le_refl _, Nat.le_refl _⟩ (fun H locs hP hS => ?_)
        refine W.eq (g2 := F0 m 39 ls [.int q6]) rfl ?_
        refine lv_if_eq (tgt := 44) hx hb dX12_hears_39 (by decide) (fun c7 => ?_) (fun c7 => ?_)
        · have hf := if_t hf c7
          refine lv_aload_n hx hb dX12_hears_44 rfl (lv_at hl 0 rfl) ?_
          refine g_get (Cn := RX12) (T := TX12) (N := 21) (v := .ref (a 68)) (own := RX12) hx hb hown hts hK M_O rfl (fun _ hw => List.mem_cons_of_mem _ (u12_cls _ hw)) 1 (by decide) (List.mem_cons_of_mem _ (u12_0 _ (List.mem_of_getElem? (i := 6) rfl))) rfl rfl hP dX12_hears_45 ?_
          refine lv_iconst (v := 0) hx hb dX12_hears_48 (by decide) ?_
          obtain ⟨q8, hq8, hf⟩ := bind_s hf
          refine g_callS (As := [.ref (a 68), .int 0]) (rest := []) hx hb hml hown hts hK hN (m_X12_day l D a C ha h 68 0 (Or.inr (Or.inl rfl)) q8 hq8) (va_cwS 2 hts (gUS (u12_2 _ (List.mem_of_getElem? (i := 17) rfl)) (u12_2 _ (List.mem_of_getElem? (i := 18) rfl)) (u12_1 _ (List.mem_of_getElem? (i := 7) rfl)) (u12_2 _ (List.mem_of_getElem? (i := 16) rfl))) rfl rfl rfl kdX12_day.2 ⟨Nat.le_of_ble_eq_true rfl, Nat.le_of_ble_eq_true rfl⟩) hP hS hA rfl hl.1 rfl (Nat.le_of_ble_eq_true rfl) dX12_hears_49 ⟨Nat.le_refl _, Nat.le_refl _⟩ (fun H locs hP hS => ?_)
          refine W.eq (g2 := F0 m 52 ls []) rfl ?_
          obtain ⟨x9, ex9⟩ : ∃ y : Int32, y = (v2 + 1) := ⟨_, rfl⟩
          have hf := nm_s hf ex9
          refine lv_iinc (v := x9) (lv' := [(2, .int x9), (0, .ref (a 66)), (1, .int v1)]) hx hb dX12_hears_52 hl (k := 2) rfl (by rw [ex9]; rfl) (by decide) rfl (fun ls hl => ?_)
          refine lv_goto (tgt := 23) hx hb dX12_hears_55 (by decide) ?_
          exact ih x9 q8 hf H locs ls hP hS (lv_sub hl [1, 2, 0] rfl)
        · have hf := if_f hf c7
          refine lv_iload_n hx hb dX12_hears_42 rfl (lv_at hl 2 rfl) ?_
          exact g_iretW hx hb hr hlk hP hS (ret2 hf) dX12_hears_43
  unfold X12_hears at hf
  suffices hh : ∀ (H : Heap) (locs : List Loc), va_P D vwCl (gw a C h) H → va_S (gA a) s.heap H locs → W p l e (headSpec uX12_hears rmX12_hears).room s m ([.ref (a 66), .int v1] : List Value).toArray below meth c H locs 0 0 (MQ below (gQ (some (.int r)) D a C h') ([.ref (a 66), .int v1] : List Value).toArray s 0 0 (gA a)) (F0 m 0 ls []) from hh _ _ hP hS
  intro H locs hP hS
  refine lv_aload_n hx hb dX12_hears_0 rfl (lv_at hl 0 rfl) ?_
  refine lv_iload_n hx hb dX12_hears_1 rfl (lv_at hl 1 rfl) ?_
  obtain ⟨q1, hq1, hf⟩ := bind_s hf
  refine g_callV (As := [.int v1]) (rest := []) hx hb hml hown hts hK hN (m_X12_isOne l D a C ha h v1  q1 hq1) (cwV 1 hts (gUV (u12_1 _ (List.mem_of_getElem? (i := 9) rfl)) (u12_1 _ (List.mem_of_getElem? (i := 10) rfl)) (u12_1 _ (List.mem_of_getElem? (i := 11) rfl)) (u12_1 _ (List.mem_of_getElem? (i := 7) rfl)) (u12_1 _ (List.mem_of_getElem? (i := 4) rfl))) rfl rfl rfl kdX12_isOne ⟨Nat.le_of_ble_eq_true rfl, Nat.le_of_ble_eq_true rfl⟩) M_O rfl rfl hP hS hA rfl hl.1 rfl (Nat.le_of_ble_eq_true rfl) dX12_hears_2 ⟨Nat.le_refl _, Nat.le_refl _⟩ (fun H locs hP hS => ?_)
  refine W.eq (g2 := F0 m 5 ls [.int q1]) rfl ?_
  refine lv_if_ne (tgt := 10) hx hb dX12_hears_5 (by decide) (fun c2 => ?_) (fun c2 => ?_)
  · have hf := if_f hf c2
    refine lv_aload_n hx hb dX12_hears_10 rfl (lv_at hl 0 rfl) ?_
    refine g_get (Cn := RX12) (T := TX12) (N := 21) (v := .ref (a 67)) (own := RX12) hx hb hown hts hK M_O rfl (fun _ hw => List.mem_cons_of_mem _ (u12_cls _ hw)) 0 (by decide) (List.mem_cons_of_mem _ (u12_0 _ (List.mem_of_getElem? (i := 5) rfl))) rfl rfl hP dX12_hears_11 ?_
    refine lv_aload_n hx hb dX12_hears_14 rfl (lv_at hl 0 rfl) ?_
    refine g_get (Cn := RX12) (T := TX12) (N := 21) (v := .ref (a 68)) (own := RX12) hx hb hown hts hK M_O rfl (fun _ hw => List.mem_cons_of_mem _ (u12_cls _ hw)) 1 (by decide) (List.mem_cons_of_mem _ (u12_0 _ (List.mem_of_getElem? (i := 6) rfl))) rfl rfl hP dX12_hears_15 ?_
    obtain ⟨q3, hq3, hf⟩ := bind_s hf
    refine g_callS (As := [.ref (a 67), .ref (a 68)]) (rest := []) hx hb hml hown hts hK hN (m_X12_copies l D a C ha h 67 68 (Or.inl rfl) (Or.inr (Or.inl rfl)) q3 hq3) (va_cwS 2 hts (gUS (u12_4 _ (List.mem_of_getElem? (i := 19) rfl)) (u12_5 _ (List.mem_of_getElem? (i := 0) rfl)) (u12_1 _ (List.mem_of_getElem? (i := 7) rfl)) (u12_1 _ (List.mem_of_getElem? (i := 2) rfl))) rfl rfl rfl kdX12_copies.2 ⟨Nat.le_of_ble_eq_true rfl, Nat.le_of_ble_eq_true rfl⟩) hP hS hA rfl hl.1 rfl (Nat.le_of_ble_eq_true rfl) dX12_hears_18 ⟨Nat.le_refl _, Nat.le_refl _⟩ (fun H locs hP hS => ?_)
    refine W.eq (g2 := F0 m 21 ls []) rfl ?_
    refine lv_iconst (v := 0) hx hb dX12_hears_21 (by decide) ?_
    refine lv_istore_n (lv' := [(2, .int 0), (0, .ref (a 66)), (1, .int v1)]) hx hb dX12_hears_22 rfl hl (by decide) rfl (fun ls hl => ?_)
    exact J23 FU 0 q3 hf H locs ls hP hS (lv_sub hl [1, 2, 0] rfl)
  · have hf := if_t hf c2
    refine lv_iconst (v := (-1)) hx hb dX12_hears_8 (by decide) ?_
    exact g_iretW hx hb hr hlk hP hS (ret2 hf) dX12_hears_9

def X12_asked_B242 (v1 : Int32) (v2 : Int32) (v3 : Int32) (v4 : Int32) (k80 : Int64 → Int32 → HS → Option (Int64 × HS)) : Nat → Int64 → Int32 → Int32 → HS → Option (Int64 × HS)
  | 0, _, _, _, _ => none
  | fu + 1, v5, v7, v8, h =>
    (if 9 ≤ v8 then
    nm (v7 + 1) fun x44 =>
    k80 v5 x44 h
    else
    gdi v8 9 <|
    gdi v8 9 <|
    nm (sL h 72 (vp_updL (aL h 72) v8.toNatClampNeg (aL h 73 v8.toNatClampNeg))) fun h46 =>
    nm (v8 + 1) fun x48 =>
    (X12_asked_B242 v1 v2 v3 v4 k80 fu) v5 v7 x48 h46)
def X12_asked_B227 (v1 : Int32) (v2 : Int32) (v3 : Int32) (v4 : Int32) (k80 : Int64 → Int32 → HS → Option (Int64 × HS)) (k121 : Int64 → Int32 → Int32 → HS → Option (Int64 × HS)) (k172 : Int64 → Int32 → Int32 → Int32 → Int32 → HS → Option (Int64 × HS)) (v5 : Int64) (v7 : Int32) (v8 : Int32) (v9 : Int32) (v10 : Int32) (h : HS) : Option (Int64 × HS) :=
    nm (v10 + 1) fun x42 =>
    k172 v5 v7 v8 v9 x42 h
def X12_asked_B172 (v1 : Int32) (v2 : Int32) (v3 : Int32) (v4 : Int32) (k80 : Int64 → Int32 → HS → Option (Int64 × HS)) (k121 : Int64 → Int32 → Int32 → HS → Option (Int64 × HS)) : Nat → Int64 → Int32 → Int32 → Int32 → Int32 → HS → Option (Int64 × HS)
  | 0, _, _, _, _, _, _ => none
  | fu + 1, v5, v7, v8, v9, v10, h =>
    gdi 0 30 <|
    (if (aI h 67 (0 : Int32).toNatClampNeg) ≤ v10 then
    nm (v8 + 1) fun x32 =>
    k121 v5 v7 x32 h
    else
    (X12_of v8 2).bind fun q33 =>
    gdi q33 30 <|
    (X12_has (aI h 67 q33.toNatClampNeg) v10).bind fun q35 =>
    (if q35 = 0 then
    X12_asked_B227 v1 v2 v3 v4 k80 k121 (X12_asked_B172 v1 v2 v3 v4 k80 k121 fu) v5 v7 v8 v9 v10 h
    else
    gdi v10 9 <|
    gdz v9 <|
    gdi v8 9 <|
    gdi v10 9 <|
    nm (sL h 73 (vp_updL (aL h 73) v10.toNatClampNeg ((aL h 73 v10.toNatClampNeg) + (((840 / v9).toInt64) * (aL h 72 v8.toNatClampNeg))))) fun h40 =>
    X12_asked_B227 v1 v2 v3 v4 k80 k121 (X12_asked_B172 v1 v2 v3 v4 k80 k121 fu) v5 v7 v8 v9 v10 h40))
def X12_asked_B169 (v1 : Int32) (v2 : Int32) (v3 : Int32) (v4 : Int32) (k80 : Int64 → Int32 → HS → Option (Int64 × HS)) (k121 : Int64 → Int32 → Int32 → HS → Option (Int64 × HS)) (v5 : Int64) (v7 : Int32) (v8 : Int32) (v9 : Int32) (h : HS) : Option (Int64 × HS) :=
    X12_asked_B172 v1 v2 v3 v4 k80 k121 FU v5 v7 v8 v9 0 h
def X12_asked_B121 (v1 : Int32) (v2 : Int32) (v3 : Int32) (v4 : Int32) (k80 : Int64 → Int32 → HS → Option (Int64 × HS)) : Nat → Int64 → Int32 → Int32 → HS → Option (Int64 × HS)
  | 0, _, _, _, _ => none
  | fu + 1, v5, v7, v8, h =>
    gdi 0 30 <|
    (if (aI h 67 (0 : Int32).toNatClampNeg) ≤ v8 then
    X12_asked_B242 v1 v2 v3 v4 k80 FU v5 v7 0 h
    else
    (X12_number h 67 v8).bind fun q24 =>
    (if q24 = 0 then
    gdi v8 9 <|
    gdi v8 9 <|
    gdi v8 9 <|
    nm (sL h 73 (vp_updL (aL h 73) v8.toNatClampNeg ((aL h 73 v8.toNatClampNeg) + (840 * (aL h 72 v8.toNatClampNeg))))) fun h28 =>
    X12_asked_B169 v1 v2 v3 v4 k80 (X12_asked_B121 v1 v2 v3 v4 k80 fu) v5 v7 v8 q24 h28
    else
    X12_asked_B169 v1 v2 v3 v4 k80 (X12_asked_B121 v1 v2 v3 v4 k80 fu) v5 v7 v8 q24 h))
def X12_asked_B97 (v1 : Int32) (v2 : Int32) (v3 : Int32) (v4 : Int32) (k80 : Int64 → Int32 → HS → Option (Int64 × HS)) : Nat → Int64 → Int32 → Int32 → HS → Option (Int64 × HS)
  | 0, _, _, _, _ => none
  | fu + 1, v5, v7, v8, h =>
    (if 9 ≤ v8 then
    X12_asked_B121 v1 v2 v3 v4 k80 FU v5 v7 0 h
    else
    gdi v8 9 <|
    nm (sL h 73 (vp_updL (aL h 73) v8.toNatClampNeg 0)) fun h19 =>
    nm (v8 + 1) fun x21 =>
    (X12_asked_B97 v1 v2 v3 v4 k80 fu) v5 v7 x21 h19)
def X12_asked_B80 (v1 : Int32) (v2 : Int32) (v3 : Int32) (v4 : Int32) : Nat → Int64 → Int32 → HS → Option (Int64 × HS)
  | 0, _, _, _ => none
  | fu + 1, v5, v7, h =>
    (if v3 ≤ v7 then
    gdi v2 9 <|
    (X12_partOf (aL h 72 v2.toNatClampNeg) v5 v4).bind fun q16 =>
    some (q16, h)
    else
    nm (v5 * 840) fun x17 =>
    X12_asked_B97 v1 v2 v3 v4 (X12_asked_B80 v1 v2 v3 v4 fu) FU x17 v7 0 h)
def X12_asked_B70 (v1 : Int32) (v2 : Int32) (v3 : Int32) (v4 : Int32) (k46 : Int64 → Int32 → HS → Option (Int64 × HS)) (v5 : Int64) (v7 : Int32) (s0 : Int64) (s1 : Int32) (h : HS) : Option (Int64 × HS) :=
    gdi s1 9 <|
    nm (sL h 72 (vp_updL (aL h 72) s1.toNatClampNeg s0)) fun h11 =>
    nm (v7 + 1) fun x13 =>
    k46 v5 x13 h11
def X12_asked_B46 (v1 : Int32) (v2 : Int32) (v3 : Int32) (v4 : Int32) : Nat → Int64 → Int32 → HS → Option (Int64 × HS)
  | 0, _, _, _ => none
  | fu + 1, v5, v7, h =>
    (if 9 ≤ v7 then
    X12_asked_B80 v1 v2 v3 v4 FU v5 0 h
    else
    (if v7 = v1 then
    X12_asked_B70 v1 v2 v3 v4 (X12_asked_B46 v1 v2 v3 v4 fu) v5 v7 1 v7 h
    else
    X12_asked_B70 v1 v2 v3 v4 (X12_asked_B46 v1 v2 v3 v4 fu) v5 v7 0 v7 h))
def X12_asked (h : HS) (v1 : Int32) (v2 : Int32) (v3 : Int32) (v4 : Int32) : Option (Int64 × HS) :=
    (X12_isOne h v1).bind fun q1 =>
    (if q1 = 0 then
    some (1000000001, h)
    else
    (X12_isOne h v2).bind fun q3 =>
    (if q3 = 0 then
    some (1000000001, h)
    else
    (X12_isIn v3 0 6).bind fun q5 =>
    (if q5 = 0 then
    some (1000000001, h)
    else
    (X12_isIn v4 0 1).bind fun q7 =>
    (if q7 = 0 then
    some (1000000001, h)
    else
    X12_asked_B46 v1 v2 v3 v4 FU 1 0 h))))
def uX12_asked : List Cond := .code yX12_asked cX12_asked 11 (some .long) :: UU
def rmX12_asked : Room := { frames := 2, cells := 0, slots := 0, locals := 53 }
theorem kdX12_asked : yX12_asked.cls = RX12 ∧ yX12_asked.cls ≠ "java/lang/invoke/MethodHandle" ∧ yX12_asked.cls ≠ "java/lang/invoke/VarHandle" ∧ (parseMethodDescriptor yX12_asked.desc).map (fun d => d.parameters.length) = some 4 := by decide +kernel
set_option maxHeartbeats 4000000 in
set_option maxRecDepth 100000 in
theorem m_X12_asked (l : Launch) (D : va_G) (a : Nat → Nat) (C : Nat → ClassId) (ha : ginj a) (h : HS) (v1 : Int32) (v2 : Int32) (v3 : Int32) (v4 : Int32)  (r : Int64) (h' : HS) (hf : X12_asked h v1 v2 v3 v4 = some (r, h')) : gM l yX12_asked uX12_asked rmX12_asked D a C [.ref (a 66), .int v1, .int v2, .int v3, .int v4] h (some (.long r)) h' := by
  refine g_start (av := [.ref (a 66), .int v1, .int v2, .int v3, .int v4]) (cc := cX12_asked) (maxL := 11) (rt := (some .long)) (by decide) rfl (Nat.le_of_ble_eq_true rfl) ?_
  intro p e s m below meth c hx hb hr hml hown hlk hts hP hK hN ls hl
  have hA : ∀ q, gA a q → gA a q := fun _ q => q
  have hS : va_S (gA a) s.heap s.heap [] := va_S.rf
  have hl : lv_has ls 11 [(0, .ref (a 66)), (1, .int v1), (2, .int v2), (3, .int v3), (4, .int v4)] := hl
  have J242 : ∀ (k80 : Int64 → Int32 → HS → Option (Int64 × HS)) (hk80 : ∀ (v5 : Int64) (v7 : Int32) (h : HS), k80 v5 v7 h = some (r, h') → gG p l e (headSpec uX12_asked rmX12_asked).room s m ([.ref (a 66), .int v1, .int v2, .int v3, .int v4] : List Value).toArray below meth c (MQ below (gQ (some (.long r)) D a C h') ([.ref (a 66), .int v1, .int v2, .int v3, .int v4] : List Value).toArray s 0 0 (gA a)) D a C 11 h 80 [(0, .ref (a 66)), (2, .int v2), (3, .int v3), (4, .int v4), (5, .long v5), (7, .int v7)] []) (fu : Nat) (v5 : Int64) (v7 : Int32) (v8 : Int32) (h : HS), X12_asked_B242 v1 v2 v3 v4 k80 fu v5 v7 v8 h = some (r, h') → gG p l e (headSpec uX12_asked rmX12_asked).room s m ([.ref (a 66), .int v1, .int v2, .int v3, .int v4] : List Value).toArray below meth c (MQ below (gQ (some (.long r)) D a C h') ([.ref (a 66), .int v1, .int v2, .int v3, .int v4] : List Value).toArray s 0 0 (gA a)) D a C 11 h 242 [(0, .ref (a 66)), (2, .int v2), (3, .int v3), (4, .int v4), (5, .long v5), (7, .int v7), (8, .int v8)] [] := by
    intro k80 hk80 fu
    induction fu with
    | zero => intro v5 v7 v8 h hf; exact absurd hf (by simp [X12_asked_B242])
    | succ fu ih =>
      intro v5 v7 v8 h hf H locs ls hP hS hl
      rw [X12_asked_B242] at hf
      refine lv_iload hx hb dX12_asked_242 (lv_at hl 6 rfl) ?_
      refine lv_bipush (v := 9) hx hb dX12_asked_244 (by decide) ?_
      refine lv_icmp_ge (tgt := 269) hx hb dX12_asked_246 (by decide) (fun c43 => ?_) (fun c43 => ?_)
      · have hf := if_t hf c43
        obtain ⟨x44, ex44⟩ : ∃ y : Int32, y = (v7 + 1) := ⟨_, rfl⟩
        have hf := nm_s hf ex44
        refine lv_iinc (v := x44) (lv' := [(7, .int x44), (0, .ref (a 66)), (2, .int v2), (3, .int v3), (4, .int v4), (5, .long v5), (8, .int v8)]) hx hb dX12_asked_269 hl (k := 5) rfl (by rw [ex44]; rfl) (by decide) rfl (fun ls hl => ?_)
        refine lv_goto (tgt := 80) hx hb dX12_asked_272 (by decide) ?_
        exact hk80 v5 x44 h hf H locs ls hP hS (lv_sub hl [1, 2, 3, 4, 5, 0] rfl)
      · have hf := if_f hf c43
        refine lv_aload_n hx hb dX12_asked_249 rfl (lv_at hl 0 rfl) ?_
        refine g_get (Cn := RX12) (T := TX12) (N := 21) (v := .ref (a 72)) (own := RX12) hx hb hown hts hK M_O rfl (fun _ hw => List.mem_cons_of_mem _ (u12_cls _ hw)) 9 (by decide) (List.mem_cons_of_mem _ (u12_0 _ (List.mem_of_getElem? (i := 11) rfl))) rfl rfl hP dX12_asked_250 ?_
        refine lv_iload hx hb dX12_asked_253 (lv_at hl 6 rfl) ?_
        refine lv_aload_n hx hb dX12_asked_255 rfl (lv_at hl 0 rfl) ?_
        refine g_get (Cn := RX12) (T := TX12) (N := 21) (v := .ref (a 73)) (own := RX12) hx hb hown hts hK M_O rfl (fun _ hw => List.mem_cons_of_mem _ (u12_cls _ hw)) 10 (by decide) (List.mem_cons_of_mem _ (u12_0 _ (List.mem_of_getElem? (i := 12) rfl))) rfl rfl hP dX12_asked_256 ?_
        refine lv_iload hx hb dX12_asked_259 (lv_at hl 6 rfl) ?_
        obtain ⟨c45, hf⟩ := gdi_s hf
        refine g_lal hx hb hK (⟨by decide, rfl⟩ : gAL 73 9) c45 hP dX12_asked_261 ?_
        obtain ⟨c47, hf⟩ := gdi_s hf
        refine g_las hx hb hK ha hA (⟨by decide, rfl⟩ : gAL 72 9) c47 hP hS dX12_asked_262 (fun H locs hP hS => ?_)
        obtain ⟨h46, eh46⟩ : ∃ x, x = (sL h 72 (vp_updL (aL h 72) v8.toNatClampNeg (aL h 73 v8.toNatClampNeg))) := ⟨_, rfl⟩
        rw [← eh46] at hP
        have hf := nm_s hf eh46
        obtain ⟨x48, ex48⟩ : ∃ y : Int32, y = (v8 + 1) := ⟨_, rfl⟩
        have hf := nm_s hf ex48
        refine lv_iinc (v := x48) (lv' := [(8, .int x48), (0, .ref (a 66)), (2, .int v2), (3, .int v3), (4, .int v4), (5, .long v5), (7, .int v7)]) hx hb dX12_asked_263 hl (k := 6) rfl (by rw [ex48]; rfl) (by decide) rfl (fun ls hl => ?_)
        refine lv_goto (tgt := 242) hx hb dX12_asked_266 (by decide) ?_
        exact ih v5 v7 x48 h46 hf H locs ls hP hS (lv_sub hl [1, 2, 3, 4, 5, 6, 0] rfl)
  have J227 : ∀ (k80 : Int64 → Int32 → HS → Option (Int64 × HS)) (hk80 : ∀ (v5 : Int64) (v7 : Int32) (h : HS), k80 v5 v7 h = some (r, h') → gG p l e (headSpec uX12_asked rmX12_asked).room s m ([.ref (a 66), .int v1, .int v2, .int v3, .int v4] : List Value).toArray below meth c (MQ below (gQ (some (.long r)) D a C h') ([.ref (a 66), .int v1, .int v2, .int v3, .int v4] : List Value).toArray s 0 0 (gA a)) D a C 11 h 80 [(0, .ref (a 66)), (2, .int v2), (3, .int v3), (4, .int v4), (5, .long v5), (7, .int v7)] []) (k121 : Int64 → Int32 → Int32 → HS → Option (Int64 × HS)) (hk121 : ∀ (v5 : Int64) (v7 : Int32) (v8 : Int32) (h : HS), k121 v5 v7 v8 h = some (r, h') → gG p l e (headSpec uX12_asked rmX12_asked).room s m ([.ref (a 66), .int v1, .int v2, .int v3, .int v4] : List Value).toArray below meth c (MQ below (gQ (some (.long r)) D a C h') ([.ref (a 66), .int v1, .int v2, .int v3, .int v4] : List Value).toArray s 0 0 (gA a)) D a C 11 h 121 [(0, .ref (a 66)), (2, .int v2), (3, .int v3), (4, .int v4), (5, .long v5), (7, .int v7), (8, .int v8)] []) (k172 : Int64 → Int32 → Int32 → Int32 → Int32 → HS → Option (Int64 × HS)) (hk172 : ∀ (v5 : Int64) (v7 : Int32) (v8 : Int32) (v9 : Int32) (v10 : Int32) (h : HS), k172 v5 v7 v8 v9 v10 h = some (r, h') → gG p l e (headSpec uX12_asked rmX12_asked).room s m ([.ref (a 66), .int v1, .int v2, .int v3, .int v4] : List Value).toArray below meth c (MQ below (gQ (some (.long r)) D a C h') ([.ref (a 66), .int v1, .int v2, .int v3, .int v4] : List Value).toArray s 0 0 (gA a)) D a C 11 h 172 [(0, .ref (a 66)), (2, .int v2), (3, .int v3), (4, .int v4), (5, .long v5), (7, .int v7), (8, .int v8), (9, .int v9), (10, .int v10)] []) (v5 : Int64) (v7 : Int32) (v8 : Int32) (v9 : Int32) (v10 : Int32) (h : HS) (_ : X12_asked_B227 v1 v2 v3 v4 k80 k121 k172 v5 v7 v8 v9 v10 h = some (r, h')), gG p l e (headSpec uX12_asked rmX12_asked).room s m ([.ref (a 66), .int v1, .int v2, .int v3, .int v4] : List Value).toArray below meth c (MQ below (gQ (some (.long r)) D a C h') ([.ref (a 66), .int v1, .int v2, .int v3, .int v4] : List Value).toArray s 0 0 (gA a)) D a C 11 h 227 [(0, .ref (a 66)), (2, .int v2), (3, .int v3), (4, .int v4), (5, .long v5), (7, .int v7), (8, .int v8), (9, .int v9), (10, .int v10)] [] := by
    intro k80 hk80 k121 hk121 k172 hk172 v5 v7 v8 v9 v10 h hf H locs ls hP hS hl
    unfold X12_asked_B227 at hf
    obtain ⟨x42, ex42⟩ : ∃ y : Int32, y = (v10 + 1) := ⟨_, rfl⟩
    have hf := nm_s hf ex42
    refine lv_iinc (v := x42) (lv' := [(10, .int x42), (0, .ref (a 66)), (2, .int v2), (3, .int v3), (4, .int v4), (5, .long v5), (7, .int v7), (8, .int v8), (9, .int v9)]) hx hb dX12_asked_227 hl (k := 8) rfl (by rw [ex42]; rfl) (by decide) rfl (fun ls hl => ?_)
    refine lv_goto (tgt := 172) hx hb dX12_asked_230 (by decide) ?_
    exact hk172 v5 v7 v8 v9 x42 h hf H locs ls hP hS (lv_sub hl [1, 2, 3, 4, 5, 6, 7, 8, 0] rfl)
  have J172 : ∀ (k80 : Int64 → Int32 → HS → Option (Int64 × HS)) (hk80 : ∀ (v5 : Int64) (v7 : Int32) (h : HS), k80 v5 v7 h = some (r, h') → gG p l e (headSpec uX12_asked rmX12_asked).room s m ([.ref (a 66), .int v1, .int v2, .int v3, .int v4] : List Value).toArray below meth c (MQ below (gQ (some (.long r)) D a C h') ([.ref (a 66), .int v1, .int v2, .int v3, .int v4] : List Value).toArray s 0 0 (gA a)) D a C 11 h 80 [(0, .ref (a 66)), (2, .int v2), (3, .int v3), (4, .int v4), (5, .long v5), (7, .int v7)] []) (k121 : Int64 → Int32 → Int32 → HS → Option (Int64 × HS)) (hk121 : ∀ (v5 : Int64) (v7 : Int32) (v8 : Int32) (h : HS), k121 v5 v7 v8 h = some (r, h') → gG p l e (headSpec uX12_asked rmX12_asked).room s m ([.ref (a 66), .int v1, .int v2, .int v3, .int v4] : List Value).toArray below meth c (MQ below (gQ (some (.long r)) D a C h') ([.ref (a 66), .int v1, .int v2, .int v3, .int v4] : List Value).toArray s 0 0 (gA a)) D a C 11 h 121 [(0, .ref (a 66)), (2, .int v2), (3, .int v3), (4, .int v4), (5, .long v5), (7, .int v7), (8, .int v8)] []) (fu : Nat) (v5 : Int64) (v7 : Int32) (v8 : Int32) (v9 : Int32) (v10 : Int32) (h : HS), X12_asked_B172 v1 v2 v3 v4 k80 k121 fu v5 v7 v8 v9 v10 h = some (r, h') → gG p l e (headSpec uX12_asked rmX12_asked).room s m ([.ref (a 66), .int v1, .int v2, .int v3, .int v4] : List Value).toArray below meth c (MQ below (gQ (some (.long r)) D a C h') ([.ref (a 66), .int v1, .int v2, .int v3, .int v4] : List Value).toArray s 0 0 (gA a)) D a C 11 h 172 [(0, .ref (a 66)), (2, .int v2), (3, .int v3), (4, .int v4), (5, .long v5), (7, .int v7), (8, .int v8), (9, .int v9), (10, .int v10)] [] := by
    intro k80 hk80 k121 hk121 fu
    induction fu with
    | zero => intro v5 v7 v8 v9 v10 h hf; exact absurd hf (by simp [X12_asked_B172])
    | succ fu ih =>
      intro v5 v7 v8 v9 v10 h hf H locs ls hP hS hl
      rw [X12_asked_B172] at hf
      refine lv_iload hx hb dX12_asked_172 (lv_at hl 8 rfl) ?_
      refine lv_aload_n hx hb dX12_asked_174 rfl (lv_at hl 0 rfl) ?_
      refine g_get (Cn := RX12) (T := TX12) (N := 21) (v := .ref (a 67)) (own := RX12) hx hb hown hts hK M_O rfl (fun _ hw => List.mem_cons_of_mem _ (u12_cls _ hw)) 0 (by decide) (List.mem_cons_of_mem _ (u12_0 _ (List.mem_of_getElem? (i := 5) rfl))) rfl rfl hP dX12_asked_175 ?_
      refine lv_iconst (v := 0) hx hb dX12_asked_178 (by decide) ?_
      obtain ⟨c30, hf⟩ := gdi_s hf
      refine g_ial hx hb hK (⟨by decide, rfl⟩ : gAI 67 30) c30 hP dX12_asked_179 ?_
      refine lv_icmp_ge (tgt := 233) hx hb dX12_asked_180 (by decide) (fun c31 => ?_) (fun c31 => ?_)
      · have hf := if_t hf c31
        obtain ⟨x32, ex32⟩ : ∃ y : Int32, y = (v8 + 1) := ⟨_, rfl⟩
        have hf := nm_s hf ex32
        refine lv_iinc (v := x32) (lv' := [(8, .int x32), (0, .ref (a 66)), (2, .int v2), (3, .int v3), (4, .int v4), (5, .long v5), (7, .int v7), (9, .int v9), (10, .int v10)]) hx hb dX12_asked_233 hl (k := 6) rfl (by rw [ex32]; rfl) (by decide) rfl (fun ls hl => ?_)
        refine lv_goto (tgt := 121) hx hb dX12_asked_236 (by decide) ?_
        exact hk121 v5 v7 x32 h hf H locs ls hP hS (lv_sub hl [1, 2, 3, 4, 5, 6, 0] rfl)
      · have hf := if_f hf c31
        refine lv_aload_n hx hb dX12_asked_183 rfl (lv_at hl 0 rfl) ?_
        refine g_get (Cn := RX12) (T := TX12) (N := 21) (v := .ref (a 67)) (own := RX12) hx hb hown hts hK M_O rfl (fun _ hw => List.mem_cons_of_mem _ (u12_cls _ hw)) 0 (by decide) (List.mem_cons_of_mem _ (u12_0 _ (List.mem_of_getElem? (i := 5) rfl))) rfl rfl hP dX12_asked_184 ?_
        refine lv_iload hx hb dX12_asked_187 (lv_at hl 6 rfl) ?_
        refine lv_iconst (v := 2) hx hb dX12_asked_189 (by decide) ?_
        obtain ⟨q33, hq33, hf⟩ := bind_s hf
        refine g_callS (As := [.int v8, .int 2]) (rest := [.ref (a 67)]) hx hb hml hown hts hK hN (m_X12_of l D a C ha h v8 2  q33 hq33) (va_cwS 2 hts (gUS (u12_1 _ (List.mem_of_getElem? (i := 15) rfl)) (u12_1 _ (List.mem_of_getElem? (i := 16) rfl)) (u12_1 _ (List.mem_of_getElem? (i := 7) rfl)) (u12_1 _ (List.mem_of_getElem? (i := 3) rfl))) rfl rfl rfl kdX12_of.2 ⟨Nat.le_of_ble_eq_true rfl, Nat.le_of_ble_eq_true rfl⟩) hP hS hA rfl hl.1 rfl (Nat.le_of_ble_eq_true rfl) dX12_asked_190 ⟨Nat.le_refl _, Nat.le_refl _⟩ (fun H locs hP hS => ?_)
        refine W.eq (g2 := F0 m 193 ls [.int q33, .ref (a 67)]) rfl ?_
        obtain ⟨c34, hf⟩ := gdi_s hf
        refine g_ial hx hb hK (⟨by decide, rfl⟩ : gAI 67 30) c34 hP dX12_asked_193 ?_
        refine lv_iload hx hb dX12_asked_194 (lv_at hl 8 rfl) ?_
        obtain ⟨q35, hq35, hf⟩ := bind_s hf
        refine g_callS (As := [.int (aI h 67 q33.toNatClampNeg), .int v10]) (rest := []) hx hb hml hown hts hK hN (m_X12_has l D a C ha h (aI h 67 q33.toNatClampNeg) v10  q35 hq35) (va_cwS 2 hts (gUS (u12_2 _ (List.mem_of_getElem? (i := 8) rfl)) (u12_2 _ (List.mem_of_getElem? (i := 9) rfl)) (u12_1 _ (List.mem_of_getElem? (i := 7) rfl)) (u12_1 _ (List.mem_of_getElem? (i := 12) rfl))) rfl rfl rfl kdX12_has.2 ⟨Nat.le_of_ble_eq_true rfl, Nat.le_of_ble_eq_true rfl⟩) hP hS hA rfl hl.1 rfl (Nat.le_of_ble_eq_true rfl) dX12_asked_196 ⟨Nat.le_refl _, Nat.le_refl _⟩ (fun H locs hP hS => ?_)
        refine W.eq (g2 := F0 m 199 ls [.int q35]) rfl ?_
        refine lv_if_eq (tgt := 227) hx hb dX12_asked_199 (by decide) (fun c36 => ?_) (fun c36 => ?_)
        · have hf := if_t hf c36
          exact J227 k80 hk80 k121 hk121 (X12_asked_B172 v1 v2 v3 v4 k80 k121 fu) ih v5 v7 v8 v9 v10 h hf H locs ls hP hS (lv_sub hl [0, 1, 2, 3, 4, 5, 6, 7, 8] rfl)
        · have hf := if_f hf c36
          refine lv_aload_n hx hb dX12_asked_202 rfl (lv_at hl 0 rfl) ?_
          refine g_get (Cn := RX12) (T := TX12) (N := 21) (v := .ref (a 73)) (own := RX12) hx hb hown hts hK M_O rfl (fun _ hw => List.mem_cons_of_mem _ (u12_cls _ hw)) 10 (by decide) (List.mem_cons_of_mem _ (u12_0 _ (List.mem_of_getElem? (i := 12) rfl))) rfl rfl hP dX12_asked_203 ?_
          refine lv_iload hx hb dX12_asked_206 (lv_at hl 8 rfl) ?_
          refine lv_dup2_11 hx hb dX12_asked_208 rfl rfl ?_
          obtain ⟨c37, hf⟩ := gdi_s hf
          refine g_lal hx hb hK (⟨by decide, rfl⟩ : gAL 73 9) c37 hP dX12_asked_209 ?_
          refine lv_sipush (v := 840) hx hb dX12_asked_210 (by decide) ?_
          refine lv_iload hx hb dX12_asked_213 (lv_at hl 7 rfl) ?_
          obtain ⟨c38, hf⟩ := gdz_s hf
          refine lv_idiv hx hb dX12_asked_215 c38 ?_
          refine lv_i2l hx hb dX12_asked_216 rfl ?_
          refine lv_aload_n hx hb dX12_asked_217 rfl (lv_at hl 0 rfl) ?_
          refine g_get (Cn := RX12) (T := TX12) (N := 21) (v := .ref (a 72)) (own := RX12) hx hb hown hts hK M_O rfl (fun _ hw => List.mem_cons_of_mem _ (u12_cls _ hw)) 9 (by decide) (List.mem_cons_of_mem _ (u12_0 _ (List.mem_of_getElem? (i := 11) rfl))) rfl rfl hP dX12_asked_218 ?_
          refine lv_iload hx hb dX12_asked_221 (lv_at hl 6 rfl) ?_
          obtain ⟨c39, hf⟩ := gdi_s hf
          refine g_lal hx hb hK (⟨by decide, rfl⟩ : gAL 72 9) c39 hP dX12_asked_223 ?_
          refine lv_lmul hx hb dX12_asked_224 ?_
          refine lv_ladd hx hb dX12_asked_225 ?_
          obtain ⟨c41, hf⟩ := gdi_s hf
          refine g_las hx hb hK ha hA (⟨by decide, rfl⟩ : gAL 73 9) c41 hP hS dX12_asked_226 (fun H locs hP hS => ?_)
          obtain ⟨h40, eh40⟩ : ∃ x, x = (sL h 73 (vp_updL (aL h 73) v10.toNatClampNeg ((aL h 73 v10.toNatClampNeg) + (((840 / v9).toInt64) * (aL h 72 v8.toNatClampNeg))))) := ⟨_, rfl⟩
          rw [← eh40] at hP
          have hf := nm_s hf eh40
          exact J227 k80 hk80 k121 hk121 (X12_asked_B172 v1 v2 v3 v4 k80 k121 fu) ih v5 v7 v8 v9 v10 h40 hf H locs ls hP hS (lv_sub hl [0, 1, 2, 3, 4, 5, 6, 7, 8] rfl)
  have J169 : ∀ (k80 : Int64 → Int32 → HS → Option (Int64 × HS)) (hk80 : ∀ (v5 : Int64) (v7 : Int32) (h : HS), k80 v5 v7 h = some (r, h') → gG p l e (headSpec uX12_asked rmX12_asked).room s m ([.ref (a 66), .int v1, .int v2, .int v3, .int v4] : List Value).toArray below meth c (MQ below (gQ (some (.long r)) D a C h') ([.ref (a 66), .int v1, .int v2, .int v3, .int v4] : List Value).toArray s 0 0 (gA a)) D a C 11 h 80 [(0, .ref (a 66)), (2, .int v2), (3, .int v3), (4, .int v4), (5, .long v5), (7, .int v7)] []) (k121 : Int64 → Int32 → Int32 → HS → Option (Int64 × HS)) (hk121 : ∀ (v5 : Int64) (v7 : Int32) (v8 : Int32) (h : HS), k121 v5 v7 v8 h = some (r, h') → gG p l e (headSpec uX12_asked rmX12_asked).room s m ([.ref (a 66), .int v1, .int v2, .int v3, .int v4] : List Value).toArray below meth c (MQ below (gQ (some (.long r)) D a C h') ([.ref (a 66), .int v1, .int v2, .int v3, .int v4] : List Value).toArray s 0 0 (gA a)) D a C 11 h 121 [(0, .ref (a 66)), (2, .int v2), (3, .int v3), (4, .int v4), (5, .long v5), (7, .int v7), (8, .int v8)] []) (v5 : Int64) (v7 : Int32) (v8 : Int32) (v9 : Int32) (h : HS) (_ : X12_asked_B169 v1 v2 v3 v4 k80 k121 v5 v7 v8 v9 h = some (r, h')), gG p l e (headSpec uX12_asked rmX12_asked).room s m ([.ref (a 66), .int v1, .int v2, .int v3, .int v4] : List Value).toArray below meth c (MQ below (gQ (some (.long r)) D a C h') ([.ref (a 66), .int v1, .int v2, .int v3, .int v4] : List Value).toArray s 0 0 (gA a)) D a C 11 h 169 [(0, .ref (a 66)), (2, .int v2), (3, .int v3), (4, .int v4), (5, .long v5), (7, .int v7), (8, .int v8), (9, .int v9)] [] := by
    intro k80 hk80 k121 hk121 v5 v7 v8 v9 h hf H locs ls hP hS hl
    unfold X12_asked_B169 at hf
    refine lv_iconst (v := 0) hx hb dX12_asked_169 (by decide) ?_
    refine lv_istore (lv' := [(10, .int 0), (0, .ref (a 66)), (2, .int v2), (3, .int v3), (4, .int v4), (5, .long v5), (7, .int v7), (8, .int v8), (9, .int v9)]) hx hb dX12_asked_170 hl (by decide) rfl (fun ls hl => ?_)
    exact J172 k80 hk80 k121 hk121 FU v5 v7 v8 v9 0 h hf H locs ls hP hS (lv_sub hl [1, 2, 3, 4, 5, 6, 7, 8, 0] rfl)
  have J121 : ∀ (k80 : Int64 → Int32 → HS → Option (Int64 × HS)) (hk80 : ∀ (v5 : Int64) (v7 : Int32) (h : HS), k80 v5 v7 h = some (r, h') → gG p l e (headSpec uX12_asked rmX12_asked).room s m ([.ref (a 66), .int v1, .int v2, .int v3, .int v4] : List Value).toArray below meth c (MQ below (gQ (some (.long r)) D a C h') ([.ref (a 66), .int v1, .int v2, .int v3, .int v4] : List Value).toArray s 0 0 (gA a)) D a C 11 h 80 [(0, .ref (a 66)), (2, .int v2), (3, .int v3), (4, .int v4), (5, .long v5), (7, .int v7)] []) (fu : Nat) (v5 : Int64) (v7 : Int32) (v8 : Int32) (h : HS), X12_asked_B121 v1 v2 v3 v4 k80 fu v5 v7 v8 h = some (r, h') → gG p l e (headSpec uX12_asked rmX12_asked).room s m ([.ref (a 66), .int v1, .int v2, .int v3, .int v4] : List Value).toArray below meth c (MQ below (gQ (some (.long r)) D a C h') ([.ref (a 66), .int v1, .int v2, .int v3, .int v4] : List Value).toArray s 0 0 (gA a)) D a C 11 h 121 [(0, .ref (a 66)), (2, .int v2), (3, .int v3), (4, .int v4), (5, .long v5), (7, .int v7), (8, .int v8)] [] := by
    intro k80 hk80 fu
    induction fu with
    | zero => intro v5 v7 v8 h hf; exact absurd hf (by simp [X12_asked_B121])
    | succ fu ih =>
      intro v5 v7 v8 h hf H locs ls hP hS hl
      rw [X12_asked_B121] at hf
      refine lv_iload hx hb dX12_asked_121 (lv_at hl 6 rfl) ?_
      refine lv_aload_n hx hb dX12_asked_123 rfl (lv_at hl 0 rfl) ?_
      refine g_get (Cn := RX12) (T := TX12) (N := 21) (v := .ref (a 67)) (own := RX12) hx hb hown hts hK M_O rfl (fun _ hw => List.mem_cons_of_mem _ (u12_cls _ hw)) 0 (by decide) (List.mem_cons_of_mem _ (u12_0 _ (List.mem_of_getElem? (i := 5) rfl))) rfl rfl hP dX12_asked_124 ?_
      refine lv_iconst (v := 0) hx hb dX12_asked_127 (by decide) ?_
      obtain ⟨c22, hf⟩ := gdi_s hf
      refine g_ial hx hb hK (⟨by decide, rfl⟩ : gAI 67 30) c22 hP dX12_asked_128 ?_
      refine lv_icmp_ge (tgt := 239) hx hb dX12_asked_129 (by decide) (fun c23 => ?_) (fun c23 => ?_)
      · have hf := if_t hf c23
        refine lv_iconst (v := 0) hx hb dX12_asked_239 (by decide) ?_
        refine lv_istore (lv' := [(8, .int 0), (0, .ref (a 66)), (2, .int v2), (3, .int v3), (4, .int v4), (5, .long v5), (7, .int v7)]) hx hb dX12_asked_240 hl (by decide) rfl (fun ls hl => ?_)
        exact J242 k80 hk80 FU v5 v7 0 h hf H locs ls hP hS (lv_sub hl [1, 2, 3, 4, 5, 6, 0] rfl)
      · have hf := if_f hf c23
        refine lv_aload_n hx hb dX12_asked_132 rfl (lv_at hl 0 rfl) ?_
        refine g_get (Cn := RX12) (T := TX12) (N := 21) (v := .ref (a 67)) (own := RX12) hx hb hown hts hK M_O rfl (fun _ hw => List.mem_cons_of_mem _ (u12_cls _ hw)) 0 (by decide) (List.mem_cons_of_mem _ (u12_0 _ (List.mem_of_getElem? (i := 5) rfl))) rfl rfl hP dX12_asked_133 ?_
        refine lv_iload hx hb dX12_asked_136 (lv_at hl 6 rfl) ?_
        obtain ⟨q24, hq24, hf⟩ := bind_s hf
        refine g_callS (As := [.ref (a 67), .int v8]) (rest := []) hx hb hml hown hts hK hN (m_X12_number l D a C ha h 67 v8 (Or.inl rfl) q24 hq24) (va_cwS 2 hts (gUS (u12_2 _ (List.mem_of_getElem? (i := 2) rfl)) (u12_2 _ (List.mem_of_getElem? (i := 3) rfl)) (u12_1 _ (List.mem_of_getElem? (i := 7) rfl)) (u12_1 _ (List.mem_of_getElem? (i := 14) rfl))) rfl rfl rfl kdX12_number.2 ⟨Nat.le_of_ble_eq_true rfl, Nat.le_of_ble_eq_true rfl⟩) hP hS hA rfl hl.1 rfl (Nat.le_of_ble_eq_true rfl) dX12_asked_138 ⟨Nat.le_refl _, Nat.le_refl _⟩ (fun H locs hP hS => ?_)
        refine W.eq (g2 := F0 m 141 ls [.int q24]) rfl ?_
        refine lv_istore (lv' := [(9, .int q24), (0, .ref (a 66)), (2, .int v2), (3, .int v3), (4, .int v4), (5, .long v5), (7, .int v7), (8, .int v8)]) hx hb dX12_asked_141 hl (by decide) rfl (fun ls hl => ?_)
        refine lv_iload hx hb dX12_asked_143 (lv_at hl 0 rfl) ?_
        refine lv_if_ne (tgt := 169) hx hb dX12_asked_145 (by decide) (fun c25 => ?_) (fun c25 => ?_)
        · have hf := if_f hf c25
          exact J169 k80 hk80 (X12_asked_B121 v1 v2 v3 v4 k80 fu) ih v5 v7 v8 q24 h hf H locs ls hP hS (lv_sub hl [1, 2, 3, 4, 5, 6, 7, 0] rfl)
        · have hf := if_t hf c25
          refine lv_aload_n hx hb dX12_asked_148 rfl (lv_at hl 1 rfl) ?_
          refine g_get (Cn := RX12) (T := TX12) (N := 21) (v := .ref (a 73)) (own := RX12) hx hb hown hts hK M_O rfl (fun _ hw => List.mem_cons_of_mem _ (u12_cls _ hw)) 10 (by decide) (List.mem_cons_of_mem _ (u12_0 _ (List.mem_of_getElem? (i := 12) rfl))) rfl rfl hP dX12_asked_149 ?_
          refine lv_iload hx hb dX12_asked_152 (lv_at hl 7 rfl) ?_
          refine lv_dup2_11 hx hb dX12_asked_154 rfl rfl ?_
          obtain ⟨c26, hf⟩ := gdi_s hf
          refine g_lal hx hb hK (⟨by decide, rfl⟩ : gAL 73 9) c26 hP dX12_asked_155 ?_
          refine lv_ldc2 (v := 840) hx hb hown (hts _ (List.mem_cons_of_mem _ (u12_6 _ (List.mem_of_getElem? (i := 13) rfl)))) dX12_asked_156 ?_
          refine lv_aload_n hx hb dX12_asked_159 rfl (lv_at hl 1 rfl) ?_
          refine g_get (Cn := RX12) (T := TX12) (N := 21) (v := .ref (a 72)) (own := RX12) hx hb hown hts hK M_O rfl (fun _ hw => List.mem_cons_of_mem _ (u12_cls _ hw)) 9 (by decide) (List.mem_cons_of_mem _ (u12_0 _ (List.mem_of_getElem? (i := 11) rfl))) rfl rfl hP dX12_asked_160 ?_
          refine lv_iload hx hb dX12_asked_163 (lv_at hl 7 rfl) ?_
          obtain ⟨c27, hf⟩ := gdi_s hf
          refine g_lal hx hb hK (⟨by decide, rfl⟩ : gAL 72 9) c27 hP dX12_asked_165 ?_
          refine lv_lmul hx hb dX12_asked_166 ?_
          refine lv_ladd hx hb dX12_asked_167 ?_
          obtain ⟨c29, hf⟩ := gdi_s hf
          refine g_las hx hb hK ha hA (⟨by decide, rfl⟩ : gAL 73 9) c29 hP hS dX12_asked_168 (fun H locs hP hS => ?_)
          obtain ⟨h28, eh28⟩ : ∃ x, x = (sL h 73 (vp_updL (aL h 73) v8.toNatClampNeg ((aL h 73 v8.toNatClampNeg) + (840 * (aL h 72 v8.toNatClampNeg))))) := ⟨_, rfl⟩
          rw [← eh28] at hP
          have hf := nm_s hf eh28
          exact J169 k80 hk80 (X12_asked_B121 v1 v2 v3 v4 k80 fu) ih v5 v7 v8 q24 h28 hf H locs ls hP hS (lv_sub hl [1, 2, 3, 4, 5, 6, 7, 0] rfl)
  have J97 : ∀ (k80 : Int64 → Int32 → HS → Option (Int64 × HS)) (hk80 : ∀ (v5 : Int64) (v7 : Int32) (h : HS), k80 v5 v7 h = some (r, h') → gG p l e (headSpec uX12_asked rmX12_asked).room s m ([.ref (a 66), .int v1, .int v2, .int v3, .int v4] : List Value).toArray below meth c (MQ below (gQ (some (.long r)) D a C h') ([.ref (a 66), .int v1, .int v2, .int v3, .int v4] : List Value).toArray s 0 0 (gA a)) D a C 11 h 80 [(0, .ref (a 66)), (2, .int v2), (3, .int v3), (4, .int v4), (5, .long v5), (7, .int v7)] []) (fu : Nat) (v5 : Int64) (v7 : Int32) (v8 : Int32) (h : HS), X12_asked_B97 v1 v2 v3 v4 k80 fu v5 v7 v8 h = some (r, h') → gG p l e (headSpec uX12_asked rmX12_asked).room s m ([.ref (a 66), .int v1, .int v2, .int v3, .int v4] : List Value).toArray below meth c (MQ below (gQ (some (.long r)) D a C h') ([.ref (a 66), .int v1, .int v2, .int v3, .int v4] : List Value).toArray s 0 0 (gA a)) D a C 11 h 97 [(0, .ref (a 66)), (2, .int v2), (3, .int v3), (4, .int v4), (5, .long v5), (7, .int v7), (8, .int v8)] [] := by
    intro k80 hk80 fu
    induction fu with
    | zero => intro v5 v7 v8 h hf; exact absurd hf (by simp [X12_asked_B97])
    | succ fu ih =>
      intro v5 v7 v8 h hf H locs ls hP hS hl
      rw [X12_asked_B97] at hf
      refine lv_iload hx hb dX12_asked_97 (lv_at hl 6 rfl) ?_
      refine lv_bipush (v := 9) hx hb dX12_asked_99 (by decide) ?_
      refine lv_icmp_ge (tgt := 118) hx hb dX12_asked_101 (by decide) (fun c18 => ?_) (fun c18 => ?_)
      · have hf := if_t hf c18
        refine lv_iconst (v := 0) hx hb dX12_asked_118 (by decide) ?_
        refine lv_istore (lv' := [(8, .int 0), (0, .ref (a 66)), (2, .int v2), (3, .int v3), (4, .int v4), (5, .long v5), (7, .int v7)]) hx hb dX12_asked_119 hl (by decide) rfl (fun ls hl => ?_)
        exact J121 k80 hk80 FU v5 v7 0 h hf H locs ls hP hS (lv_sub hl [1, 2, 3, 4, 5, 6, 0] rfl)
      · have hf := if_f hf c18
        refine lv_aload_n hx hb dX12_asked_104 rfl (lv_at hl 0 rfl) ?_
        refine g_get (Cn := RX12) (T := TX12) (N := 21) (v := .ref (a 73)) (own := RX12) hx hb hown hts hK M_O rfl (fun _ hw => List.mem_cons_of_mem _ (u12_cls _ hw)) 10 (by decide) (List.mem_cons_of_mem _ (u12_0 _ (List.mem_of_getElem? (i := 12) rfl))) rfl rfl hP dX12_asked_105 ?_
        refine lv_iload hx hb dX12_asked_108 (lv_at hl 6 rfl) ?_
        refine lv_lconst (v := 0) hx hb dX12_asked_110 (by decide) ?_
        obtain ⟨c20, hf⟩ := gdi_s hf
        refine g_las hx hb hK ha hA (⟨by decide, rfl⟩ : gAL 73 9) c20 hP hS dX12_asked_111 (fun H locs hP hS => ?_)
        obtain ⟨h19, eh19⟩ : ∃ x, x = (sL h 73 (vp_updL (aL h 73) v8.toNatClampNeg 0)) := ⟨_, rfl⟩
        rw [← eh19] at hP
        have hf := nm_s hf eh19
        obtain ⟨x21, ex21⟩ : ∃ y : Int32, y = (v8 + 1) := ⟨_, rfl⟩
        have hf := nm_s hf ex21
        refine lv_iinc (v := x21) (lv' := [(8, .int x21), (0, .ref (a 66)), (2, .int v2), (3, .int v3), (4, .int v4), (5, .long v5), (7, .int v7)]) hx hb dX12_asked_112 hl (k := 6) rfl (by rw [ex21]; rfl) (by decide) rfl (fun ls hl => ?_)
        refine lv_goto (tgt := 97) hx hb dX12_asked_115 (by decide) ?_
        exact ih v5 v7 x21 h19 hf H locs ls hP hS (lv_sub hl [1, 2, 3, 4, 5, 6, 0] rfl)
  have J80 : ∀ (fu : Nat) (v5 : Int64) (v7 : Int32) (h : HS), X12_asked_B80 v1 v2 v3 v4 fu v5 v7 h = some (r, h') → gG p l e (headSpec uX12_asked rmX12_asked).room s m ([.ref (a 66), .int v1, .int v2, .int v3, .int v4] : List Value).toArray below meth c (MQ below (gQ (some (.long r)) D a C h') ([.ref (a 66), .int v1, .int v2, .int v3, .int v4] : List Value).toArray s 0 0 (gA a)) D a C 11 h 80 [(0, .ref (a 66)), (2, .int v2), (3, .int v3), (4, .int v4), (5, .long v5), (7, .int v7)] [] := by
    intro fu
    induction fu with
    | zero => intro v5 v7 h hf; exact absurd hf (by simp [X12_asked_B80])
    | succ fu ih =>
      intro v5 v7 h hf H locs ls hP hS hl
      rw [X12_asked_B80] at hf
      refine lv_iload hx hb dX12_asked_80 (lv_at hl 5 rfl) ?_
      refine lv_iload_n hx hb dX12_asked_82 rfl (lv_at hl 2 rfl) ?_
      refine lv_icmp_ge (tgt := 275) hx hb dX12_asked_83 (by decide) (fun c14 => ?_) (fun c14 => ?_)
      · have hf := if_t hf c14
        refine lv_aload_n hx hb dX12_asked_275 rfl (lv_at hl 0 rfl) ?_
        refine g_get (Cn := RX12) (T := TX12) (N := 21) (v := .ref (a 72)) (own := RX12) hx hb hown hts hK M_O rfl (fun _ hw => List.mem_cons_of_mem _ (u12_cls _ hw)) 9 (by decide) (List.mem_cons_of_mem _ (u12_0 _ (List.mem_of_getElem? (i := 11) rfl))) rfl rfl hP dX12_asked_276 ?_
        refine lv_iload_n hx hb dX12_asked_279 rfl (lv_at hl 1 rfl) ?_
        obtain ⟨c15, hf⟩ := gdi_s hf
        refine g_lal hx hb hK (⟨by decide, rfl⟩ : gAL 72 9) c15 hP dX12_asked_280 ?_
        refine lv_lload hx hb dX12_asked_281 (lv_at hl 4 rfl) ?_
        refine lv_iload hx hb dX12_asked_283 (lv_at hl 3 rfl) ?_
        obtain ⟨q16, hq16, hf⟩ := bind_s hf
        refine g_callS (As := [.long (aL h 72 v2.toNatClampNeg), .long v5, .int v4]) (rest := []) hx hb hml hown hts hK hN (m_X12_partOf l D a C ha h (aL h 72 v2.toNatClampNeg) v5 v4  q16 hq16) (va_cwS 3 hts (gUS (u12_6 _ (List.mem_of_getElem? (i := 10) rfl)) (u12_6 _ (List.mem_of_getElem? (i := 11) rfl)) (u12_1 _ (List.mem_of_getElem? (i := 7) rfl)) (u12_6 _ (List.mem_of_getElem? (i := 3) rfl))) rfl rfl rfl kdX12_partOf.2 ⟨Nat.le_of_ble_eq_true rfl, Nat.le_of_ble_eq_true rfl⟩) hP hS hA rfl hl.1 rfl (Nat.le_of_ble_eq_true rfl) dX12_asked_285 ⟨Nat.le_refl _, Nat.le_refl _⟩ (fun H locs hP hS => ?_)
        refine W.eq (g2 := F0 m 288 ls [.long q16]) rfl ?_
        exact g_lretW hx hb hr hlk hP hS (ret2 hf) dX12_asked_288
      · have hf := if_f hf c14
        refine lv_lload hx hb dX12_asked_86 (lv_at hl 4 rfl) ?_
        refine lv_ldc2 (v := 840) hx hb hown (hts _ (List.mem_cons_of_mem _ (u12_6 _ (List.mem_of_getElem? (i := 13) rfl)))) dX12_asked_88 ?_
        refine lv_lmul hx hb dX12_asked_91 ?_
        refine lv_topl (fun x17 ex17 => ?_)
        have hf := nm_s hf ex17
        refine lv_lstore (lv' := [(5, .long x17), (0, .ref (a 66)), (2, .int v2), (3, .int v3), (4, .int v4), (7, .int v7)]) hx hb dX12_asked_92 hl (by decide) rfl (fun ls hl => ?_)
        refine lv_iconst (v := 0) hx hb dX12_asked_94 (by decide) ?_
        refine lv_istore (lv' := [(8, .int 0), (5, .long x17), (0, .ref (a 66)), (2, .int v2), (3, .int v3), (4, .int v4), (7, .int v7)]) hx hb dX12_asked_95 hl (by decide) rfl (fun ls hl => ?_)
        exact J97 (X12_asked_B80 v1 v2 v3 v4 fu) ih FU x17 v7 0 h hf H locs ls hP hS (lv_sub hl [2, 3, 4, 5, 1, 6, 0] rfl)
  have J70 : ∀ (k46 : Int64 → Int32 → HS → Option (Int64 × HS)) (hk46 : ∀ (v5 : Int64) (v7 : Int32) (h : HS), k46 v5 v7 h = some (r, h') → gG p l e (headSpec uX12_asked rmX12_asked).room s m ([.ref (a 66), .int v1, .int v2, .int v3, .int v4] : List Value).toArray below meth c (MQ below (gQ (some (.long r)) D a C h') ([.ref (a 66), .int v1, .int v2, .int v3, .int v4] : List Value).toArray s 0 0 (gA a)) D a C 11 h 46 [(0, .ref (a 66)), (1, .int v1), (2, .int v2), (3, .int v3), (4, .int v4), (5, .long v5), (7, .int v7)] []) (v5 : Int64) (v7 : Int32) (s0 : Int64) (s1 : Int32) (h : HS) (_ : X12_asked_B70 v1 v2 v3 v4 k46 v5 v7 s0 s1 h = some (r, h')), gG p l e (headSpec uX12_asked rmX12_asked).room s m ([.ref (a 66), .int v1, .int v2, .int v3, .int v4] : List Value).toArray below meth c (MQ below (gQ (some (.long r)) D a C h') ([.ref (a 66), .int v1, .int v2, .int v3, .int v4] : List Value).toArray s 0 0 (gA a)) D a C 11 h 70 [(0, .ref (a 66)), (1, .int v1), (2, .int v2), (3, .int v3), (4, .int v4), (5, .long v5), (7, .int v7)] [.long s0, .int s1, .ref (a 72)] := by
    intro k46 hk46 v5 v7 s0 s1 h hf H locs ls hP hS hl
    unfold X12_asked_B70 at hf
    obtain ⟨c12, hf⟩ := gdi_s hf
    refine g_las hx hb hK ha hA (⟨by decide, rfl⟩ : gAL 72 9) c12 hP hS dX12_asked_70 (fun H locs hP hS => ?_)
    obtain ⟨h11, eh11⟩ : ∃ x, x = (sL h 72 (vp_updL (aL h 72) s1.toNatClampNeg s0)) := ⟨_, rfl⟩
    rw [← eh11] at hP
    have hf := nm_s hf eh11
    obtain ⟨x13, ex13⟩ : ∃ y : Int32, y = (v7 + 1) := ⟨_, rfl⟩
    have hf := nm_s hf ex13
    refine lv_iinc (v := x13) (lv' := [(7, .int x13), (0, .ref (a 66)), (1, .int v1), (2, .int v2), (3, .int v3), (4, .int v4), (5, .long v5)]) hx hb dX12_asked_71 hl (k := 6) rfl (by rw [ex13]; rfl) (by decide) rfl (fun ls hl => ?_)
    refine lv_goto (tgt := 46) hx hb dX12_asked_74 (by decide) ?_
    exact hk46 v5 x13 h11 hf H locs ls hP hS (lv_sub hl [1, 2, 3, 4, 5, 6, 0] rfl)
  have J46 : ∀ (fu : Nat) (v5 : Int64) (v7 : Int32) (h : HS), X12_asked_B46 v1 v2 v3 v4 fu v5 v7 h = some (r, h') → gG p l e (headSpec uX12_asked rmX12_asked).room s m ([.ref (a 66), .int v1, .int v2, .int v3, .int v4] : List Value).toArray below meth c (MQ below (gQ (some (.long r)) D a C h') ([.ref (a 66), .int v1, .int v2, .int v3, .int v4] : List Value).toArray s 0 0 (gA a)) D a C 11 h 46 [(0, .ref (a 66)), (1, .int v1), (2, .int v2), (3, .int v3), (4, .int v4), (5, .long v5), (7, .int v7)] [] := by
    intro fu
    induction fu with
    | zero => intro v5 v7 h hf; exact absurd hf (by simp [X12_asked_B46])
    | succ fu ih =>
      intro v5 v7 h hf H locs ls hP hS hl
      rw [X12_asked_B46] at hf
      refine lv_iload hx hb dX12_asked_46 (lv_at hl 6 rfl) ?_
      refine lv_bipush (v := 9) hx hb dX12_asked_48 (by decide) ?_
      refine lv_icmp_ge (tgt := 77) hx hb dX12_asked_50 (by decide) (fun c9 => ?_) (fun c9 => ?_)
      · have hf := if_t hf c9
        refine lv_iconst (v := 0) hx hb dX12_asked_77 (by decide) ?_
        refine lv_istore (lv' := [(7, .int 0), (0, .ref (a 66)), (1, .int v1), (2, .int v2), (3, .int v3), (4, .int v4), (5, .long v5)]) hx hb dX12_asked_78 hl (by decide) rfl (fun ls hl => ?_)
        exact J80 FU v5 0 h hf H locs ls hP hS (lv_sub hl [1, 3, 4, 5, 6, 0] rfl)
      · have hf := if_f hf c9
        refine lv_aload_n hx hb dX12_asked_53 rfl (lv_at hl 0 rfl) ?_
        refine g_get (Cn := RX12) (T := TX12) (N := 21) (v := .ref (a 72)) (own := RX12) hx hb hown hts hK M_O rfl (fun _ hw => List.mem_cons_of_mem _ (u12_cls _ hw)) 9 (by decide) (List.mem_cons_of_mem _ (u12_0 _ (List.mem_of_getElem? (i := 11) rfl))) rfl rfl hP dX12_asked_54 ?_
        refine lv_iload hx hb dX12_asked_57 (lv_at hl 6 rfl) ?_
        refine lv_iload hx hb dX12_asked_59 (lv_at hl 6 rfl) ?_
        refine lv_iload_n hx hb dX12_asked_61 rfl (lv_at hl 1 rfl) ?_
        refine lv_icmp_ne (tgt := 69) hx hb dX12_asked_62 (by decide) (fun c10 => ?_) (fun c10 => ?_)
        · have hf := if_f hf c10
          refine lv_lconst (v := 0) hx hb dX12_asked_69 (by decide) ?_
          exact J70 (X12_asked_B46 v1 v2 v3 v4 fu) ih v5 v7 0 v7 h hf H locs ls hP hS (lv_sub hl [0, 1, 2, 3, 4, 5, 6] rfl)
        · have hf := if_t hf c10
          refine lv_lconst (v := 1) hx hb dX12_asked_65 (by decide) ?_
          refine lv_goto (tgt := 70) hx hb dX12_asked_66 (by decide) ?_
          exact J70 (X12_asked_B46 v1 v2 v3 v4 fu) ih v5 v7 1 v7 h hf H locs ls hP hS (lv_sub hl [0, 1, 2, 3, 4, 5, 6] rfl)
  unfold X12_asked at hf
  suffices hh : ∀ (H : Heap) (locs : List Loc), va_P D vwCl (gw a C h) H → va_S (gA a) s.heap H locs → W p l e (headSpec uX12_asked rmX12_asked).room s m ([.ref (a 66), .int v1, .int v2, .int v3, .int v4] : List Value).toArray below meth c H locs 0 0 (MQ below (gQ (some (.long r)) D a C h') ([.ref (a 66), .int v1, .int v2, .int v3, .int v4] : List Value).toArray s 0 0 (gA a)) (F0 m 0 ls []) from hh _ _ hP hS
  intro H locs hP hS
  refine lv_aload_n hx hb dX12_asked_0 rfl (lv_at hl 0 rfl) ?_
  refine lv_iload_n hx hb dX12_asked_1 rfl (lv_at hl 1 rfl) ?_
  obtain ⟨q1, hq1, hf⟩ := bind_s hf
  refine g_callV (As := [.int v1]) (rest := []) hx hb hml hown hts hK hN (m_X12_isOne l D a C ha h v1  q1 hq1) (cwV 1 hts (gUV (u12_1 _ (List.mem_of_getElem? (i := 9) rfl)) (u12_1 _ (List.mem_of_getElem? (i := 10) rfl)) (u12_1 _ (List.mem_of_getElem? (i := 11) rfl)) (u12_1 _ (List.mem_of_getElem? (i := 7) rfl)) (u12_1 _ (List.mem_of_getElem? (i := 4) rfl))) rfl rfl rfl kdX12_isOne ⟨Nat.le_of_ble_eq_true rfl, Nat.le_of_ble_eq_true rfl⟩) M_O rfl rfl hP hS hA rfl hl.1 rfl (Nat.le_of_ble_eq_true rfl) dX12_asked_2 ⟨Nat.le_refl _, Nat.le_refl _⟩ (fun H locs hP hS => ?_)
  refine W.eq (g2 := F0 m 5 ls [.int q1]) rfl ?_
  refine lv_if_eq (tgt := 36) hx hb dX12_asked_5 (by decide) (fun c2 => ?_) (fun c2 => ?_)
  · have hf := if_t hf c2
    refine lv_ldc2 (v := 1000000001) hx hb hown (hts _ (List.mem_cons_of_mem _ (u12_6 _ (List.mem_of_getElem? (i := 7) rfl)))) dX12_asked_36 ?_
    exact g_lretW hx hb hr hlk hP hS (ret2 hf) dX12_asked_39
  · have hf := if_f hf c2
    refine lv_aload_n hx hb dX12_asked_8 rfl (lv_at hl 0 rfl) ?_
    refine lv_iload_n hx hb dX12_asked_9 rfl (lv_at hl 2 rfl) ?_
    obtain ⟨q3, hq3, hf⟩ := bind_s hf
    refine g_callV (As := [.int v2]) (rest := []) hx hb hml hown hts hK hN (m_X12_isOne l D a C ha h v2  q3 hq3) (cwV 1 hts (gUV (u12_1 _ (List.mem_of_getElem? (i := 9) rfl)) (u12_1 _ (List.mem_of_getElem? (i := 10) rfl)) (u12_1 _ (List.mem_of_getElem? (i := 11) rfl)) (u12_1 _ (List.mem_of_getElem? (i := 7) rfl)) (u12_1 _ (List.mem_of_getElem? (i := 4) rfl))) rfl rfl rfl kdX12_isOne ⟨Nat.le_of_ble_eq_true rfl, Nat.le_of_ble_eq_true rfl⟩) M_O rfl rfl hP hS hA rfl hl.1 rfl (Nat.le_of_ble_eq_true rfl) dX12_asked_10 ⟨Nat.le_refl _, Nat.le_refl _⟩ (fun H locs hP hS => ?_)
    refine W.eq (g2 := F0 m 13 ls [.int q3]) rfl ?_
    refine lv_if_eq (tgt := 36) hx hb dX12_asked_13 (by decide) (fun c4 => ?_) (fun c4 => ?_)
    · have hf := if_t hf c4
      refine lv_ldc2 (v := 1000000001) hx hb hown (hts _ (List.mem_cons_of_mem _ (u12_6 _ (List.mem_of_getElem? (i := 7) rfl)))) dX12_asked_36 ?_
      exact g_lretW hx hb hr hlk hP hS (ret2 hf) dX12_asked_39
    · have hf := if_f hf c4
      refine lv_iload_n hx hb dX12_asked_16 rfl (lv_at hl 3 rfl) ?_
      refine lv_iconst (v := 0) hx hb dX12_asked_17 (by decide) ?_
      refine lv_bipush (v := 6) hx hb dX12_asked_18 (by decide) ?_
      obtain ⟨q5, hq5, hf⟩ := bind_s hf
      refine g_callS (As := [.int v3, .int 0, .int 6]) (rest := []) hx hb hml hown hts hK hN (m_X12_isIn l D a C ha h v3 0 6  q5 hq5) (va_cwS 3 hts (gUS (u12_1 _ (List.mem_of_getElem? (i := 5) rfl)) (u12_1 _ (List.mem_of_getElem? (i := 6) rfl)) (u12_1 _ (List.mem_of_getElem? (i := 7) rfl)) (u12_1 _ (List.mem_of_getElem? (i := 1) rfl))) rfl rfl rfl kdX12_isIn.2 ⟨Nat.le_of_ble_eq_true rfl, Nat.le_of_ble_eq_true rfl⟩) hP hS hA rfl hl.1 rfl (Nat.le_of_ble_eq_true rfl) dX12_asked_20 ⟨Nat.le_refl _, Nat.le_refl _⟩ (fun H locs hP hS => ?_)
      refine W.eq (g2 := F0 m 23 ls [.int q5]) rfl ?_
      refine lv_if_eq (tgt := 36) hx hb dX12_asked_23 (by decide) (fun c6 => ?_) (fun c6 => ?_)
      · have hf := if_t hf c6
        refine lv_ldc2 (v := 1000000001) hx hb hown (hts _ (List.mem_cons_of_mem _ (u12_6 _ (List.mem_of_getElem? (i := 7) rfl)))) dX12_asked_36 ?_
        exact g_lretW hx hb hr hlk hP hS (ret2 hf) dX12_asked_39
      · have hf := if_f hf c6
        refine lv_iload hx hb dX12_asked_26 (lv_at hl 4 rfl) ?_
        refine lv_iconst (v := 0) hx hb dX12_asked_28 (by decide) ?_
        refine lv_iconst (v := 1) hx hb dX12_asked_29 (by decide) ?_
        obtain ⟨q7, hq7, hf⟩ := bind_s hf
        refine g_callS (As := [.int v4, .int 0, .int 1]) (rest := []) hx hb hml hown hts hK hN (m_X12_isIn l D a C ha h v4 0 1  q7 hq7) (va_cwS 3 hts (gUS (u12_1 _ (List.mem_of_getElem? (i := 5) rfl)) (u12_1 _ (List.mem_of_getElem? (i := 6) rfl)) (u12_1 _ (List.mem_of_getElem? (i := 7) rfl)) (u12_1 _ (List.mem_of_getElem? (i := 1) rfl))) rfl rfl rfl kdX12_isIn.2 ⟨Nat.le_of_ble_eq_true rfl, Nat.le_of_ble_eq_true rfl⟩) hP hS hA rfl hl.1 rfl (Nat.le_of_ble_eq_true rfl) dX12_asked_30 ⟨Nat.le_refl _, Nat.le_refl _⟩ (fun H locs hP hS => ?_)
        refine W.eq (g2 := F0 m 33 ls [.int q7]) rfl ?_
        refine lv_if_ne (tgt := 40) hx hb dX12_asked_33 (by decide) (fun c8 => ?_) (fun c8 => ?_)
        · have hf := if_f hf c8
          refine lv_lconst (v := 1) hx hb dX12_asked_40 (by decide) ?_
          refine lv_lstore (lv' := [(5, .long 1), (0, .ref (a 66)), (1, .int v1), (2, .int v2), (3, .int v3), (4, .int v4)]) hx hb dX12_asked_41 hl (by decide) rfl (fun ls hl => ?_)
          refine lv_iconst (v := 0) hx hb dX12_asked_43 (by decide) ?_
          refine lv_istore (lv' := [(7, .int 0), (5, .long 1), (0, .ref (a 66)), (1, .int v1), (2, .int v2), (3, .int v3), (4, .int v4)]) hx hb dX12_asked_44 hl (by decide) rfl (fun ls hl => ?_)
          exact J46 FU 1 0 h hf H locs ls hP hS (lv_sub hl [2, 3, 4, 5, 6, 1, 0] rfl)
        · have hf := if_t hf c8
          refine lv_ldc2 (v := 1000000001) hx hb hown (hts _ (List.mem_cons_of_mem _ (u12_6 _ (List.mem_of_getElem? (i := 7) rfl)))) dX12_asked_36 ?_
          exact g_lretW hx hb hr hlk hP hS (ret2 hf) dX12_asked_39

def X12_settles (h : HS) (v1 : Int32) (v2 : Int32) : Option Int64 :=
    (X12_isOne h v1).bind fun q1 =>
    (if q1 = 0 then
    some 1000000001
    else
    (X12_isIn v2 0 1).bind fun q3 =>
    (if q3 = 0 then
    some 1000000001
    else
    (X12_number h 67 v1).bind fun q5 =>
    (X12_linesIn h 67).bind fun q6 =>
    (X12_partOf (q5.toInt64) (2 * (q6.toInt64)) v2).bind fun q7 =>
    some q7))
def uX12_settles : List Cond := .code yX12_settles cX12_settles 3 (some .long) :: UU
def rmX12_settles : Room := { frames := 3, cells := 0, slots := 0, locals := 65 }
theorem kdX12_settles : yX12_settles.cls = RX12 ∧ yX12_settles.cls ≠ "java/lang/invoke/MethodHandle" ∧ yX12_settles.cls ≠ "java/lang/invoke/VarHandle" ∧ (parseMethodDescriptor yX12_settles.desc).map (fun d => d.parameters.length) = some 2 := by decide +kernel
set_option maxHeartbeats 4000000 in
set_option maxRecDepth 100000 in
theorem m_X12_settles (l : Launch) (D : va_G) (a : Nat → Nat) (C : Nat → ClassId) (ha : ginj a) (h : HS) (v1 : Int32) (v2 : Int32)  (r : Int64) (hf : X12_settles h v1 v2 = some r) : gM l yX12_settles uX12_settles rmX12_settles D a C [.ref (a 66), .int v1, .int v2] h (some (.long r)) h := by
  refine g_start (av := [.ref (a 66), .int v1, .int v2]) (cc := cX12_settles) (maxL := 3) (rt := (some .long)) (by decide) rfl (Nat.le_of_ble_eq_true rfl) ?_
  intro p e s m below meth c hx hb hr hml hown hlk hts hP hK hN ls hl
  have hA : ∀ q, gA a q → gA a q := fun _ q => q
  have hS : va_S (gA a) s.heap s.heap [] := va_S.rf
  have hl : lv_has ls 3 [(0, .ref (a 66)), (1, .int v1), (2, .int v2)] := hl
  unfold X12_settles at hf
  refine lv_aload_n hx hb dX12_settles_0 rfl (lv_at hl 0 rfl) ?_
  refine lv_iload_n hx hb dX12_settles_1 rfl (lv_at hl 1 rfl) ?_
  obtain ⟨q1, hq1, hf⟩ := bind_s hf
  refine g_callV (As := [.int v1]) (rest := []) hx hb hml hown hts hK hN (m_X12_isOne l D a C ha h v1  q1 hq1) (cwV 1 hts (gUV (u12_1 _ (List.mem_of_getElem? (i := 9) rfl)) (u12_1 _ (List.mem_of_getElem? (i := 10) rfl)) (u12_1 _ (List.mem_of_getElem? (i := 11) rfl)) (u12_1 _ (List.mem_of_getElem? (i := 7) rfl)) (u12_1 _ (List.mem_of_getElem? (i := 4) rfl))) rfl rfl rfl kdX12_isOne ⟨Nat.le_of_ble_eq_true rfl, Nat.le_of_ble_eq_true rfl⟩) M_O rfl rfl hP hS hA rfl hl.1 rfl (Nat.le_of_ble_eq_true rfl) dX12_settles_2 ⟨Nat.le_refl _, Nat.le_refl _⟩ (fun H locs hP hS => ?_)
  refine W.eq (g2 := F0 m 5 ls [.int q1]) rfl ?_
  refine lv_if_eq (tgt := 45) hx hb dX12_settles_5 (by decide) (fun c2 => ?_) (fun c2 => ?_)
  · have hf := if_t hf c2
    refine lv_ldc2 (v := 1000000001) hx hb hown (hts _ (List.mem_cons_of_mem _ (u12_6 _ (List.mem_of_getElem? (i := 7) rfl)))) dX12_settles_45 ?_
    exact g_lret hx hb hr hlk hP hS (ret1 hf) dX12_settles_48
  · have hf := if_f hf c2
    refine lv_iload_n hx hb dX12_settles_8 rfl (lv_at hl 2 rfl) ?_
    refine lv_iconst (v := 0) hx hb dX12_settles_9 (by decide) ?_
    refine lv_iconst (v := 1) hx hb dX12_settles_10 (by decide) ?_
    obtain ⟨q3, hq3, hf⟩ := bind_s hf
    refine g_callS (As := [.int v2, .int 0, .int 1]) (rest := []) hx hb hml hown hts hK hN (m_X12_isIn l D a C ha h v2 0 1  q3 hq3) (va_cwS 3 hts (gUS (u12_1 _ (List.mem_of_getElem? (i := 5) rfl)) (u12_1 _ (List.mem_of_getElem? (i := 6) rfl)) (u12_1 _ (List.mem_of_getElem? (i := 7) rfl)) (u12_1 _ (List.mem_of_getElem? (i := 1) rfl))) rfl rfl rfl kdX12_isIn.2 ⟨Nat.le_of_ble_eq_true rfl, Nat.le_of_ble_eq_true rfl⟩) hP hS hA rfl hl.1 rfl (Nat.le_of_ble_eq_true rfl) dX12_settles_11 ⟨Nat.le_refl _, Nat.le_refl _⟩ (fun H locs hP hS => ?_)
    refine W.eq (g2 := F0 m 14 ls [.int q3]) rfl ?_
    refine lv_if_eq (tgt := 45) hx hb dX12_settles_14 (by decide) (fun c4 => ?_) (fun c4 => ?_)
    · have hf := if_t hf c4
      refine lv_ldc2 (v := 1000000001) hx hb hown (hts _ (List.mem_cons_of_mem _ (u12_6 _ (List.mem_of_getElem? (i := 7) rfl)))) dX12_settles_45 ?_
      exact g_lret hx hb hr hlk hP hS (ret1 hf) dX12_settles_48
    · have hf := if_f hf c4
      refine lv_aload_n hx hb dX12_settles_17 rfl (lv_at hl 0 rfl) ?_
      refine g_get (Cn := RX12) (T := TX12) (N := 21) (v := .ref (a 67)) (own := RX12) hx hb hown hts hK M_O rfl (fun _ hw => List.mem_cons_of_mem _ (u12_cls _ hw)) 0 (by decide) (List.mem_cons_of_mem _ (u12_0 _ (List.mem_of_getElem? (i := 5) rfl))) rfl rfl hP dX12_settles_18 ?_
      refine lv_iload_n hx hb dX12_settles_21 rfl (lv_at hl 1 rfl) ?_
      obtain ⟨q5, hq5, hf⟩ := bind_s hf
      refine g_callS (As := [.ref (a 67), .int v1]) (rest := []) hx hb hml hown hts hK hN (m_X12_number l D a C ha h 67 v1 (Or.inl rfl) q5 hq5) (va_cwS 2 hts (gUS (u12_2 _ (List.mem_of_getElem? (i := 2) rfl)) (u12_2 _ (List.mem_of_getElem? (i := 3) rfl)) (u12_1 _ (List.mem_of_getElem? (i := 7) rfl)) (u12_1 _ (List.mem_of_getElem? (i := 14) rfl))) rfl rfl rfl kdX12_number.2 ⟨Nat.le_of_ble_eq_true rfl, Nat.le_of_ble_eq_true rfl⟩) hP hS hA rfl hl.1 rfl (Nat.le_of_ble_eq_true rfl) dX12_settles_22 ⟨Nat.le_refl _, Nat.le_refl _⟩ (fun H locs hP hS => ?_)
      refine W.eq (g2 := F0 m 25 ls [.int q5]) rfl ?_
      refine lv_i2l hx hb dX12_settles_25 rfl ?_
      refine lv_ldc2 (v := 2) hx hb hown (hts _ (List.mem_cons_of_mem _ (u12_6 _ (List.mem_of_getElem? (i := 6) rfl)))) dX12_settles_26 ?_
      refine lv_aload_n hx hb dX12_settles_29 rfl (lv_at hl 0 rfl) ?_
      refine g_get (Cn := RX12) (T := TX12) (N := 21) (v := .ref (a 67)) (own := RX12) hx hb hown hts hK M_O rfl (fun _ hw => List.mem_cons_of_mem _ (u12_cls _ hw)) 0 (by decide) (List.mem_cons_of_mem _ (u12_0 _ (List.mem_of_getElem? (i := 5) rfl))) rfl rfl hP dX12_settles_30 ?_
      obtain ⟨q6, hq6, hf⟩ := bind_s hf
      refine g_callS (As := [.ref (a 67)]) (rest := [.long 2, .long (q5.toInt64)]) hx hb hml hown hts hK hN (m_X12_linesIn l D a C ha h 67 (Or.inl rfl) q6 hq6) (va_cwS 1 hts (gUS (u12_6 _ (List.mem_of_getElem? (i := 8) rfl)) (u12_6 _ (List.mem_of_getElem? (i := 9) rfl)) (u12_1 _ (List.mem_of_getElem? (i := 7) rfl)) (u12_3 _ (List.mem_of_getElem? (i := 1) rfl))) rfl rfl rfl kdX12_linesIn.2 ⟨Nat.le_of_ble_eq_true rfl, Nat.le_of_ble_eq_true rfl⟩) hP hS hA rfl hl.1 rfl (Nat.le_of_ble_eq_true rfl) dX12_settles_33 ⟨Nat.le_refl _, Nat.le_refl _⟩ (fun H locs hP hS => ?_)
      refine W.eq (g2 := F0 m 36 ls [.int q6, .long 2, .long (q5.toInt64)]) rfl ?_
      refine lv_i2l hx hb dX12_settles_36 rfl ?_
      refine lv_lmul hx hb dX12_settles_37 ?_
      refine lv_iload_n hx hb dX12_settles_38 rfl (lv_at hl 2 rfl) ?_
      obtain ⟨q7, hq7, hf⟩ := bind_s hf
      refine g_callS (As := [.long (q5.toInt64), .long (2 * (q6.toInt64)), .int v2]) (rest := []) hx hb hml hown hts hK hN (m_X12_partOf l D a C ha h (q5.toInt64) (2 * (q6.toInt64)) v2  q7 hq7) (va_cwS 3 hts (gUS (u12_6 _ (List.mem_of_getElem? (i := 10) rfl)) (u12_6 _ (List.mem_of_getElem? (i := 11) rfl)) (u12_1 _ (List.mem_of_getElem? (i := 7) rfl)) (u12_6 _ (List.mem_of_getElem? (i := 3) rfl))) rfl rfl rfl kdX12_partOf.2 ⟨Nat.le_of_ble_eq_true rfl, Nat.le_of_ble_eq_true rfl⟩) hP hS hA rfl hl.1 rfl (Nat.le_of_ble_eq_true rfl) dX12_settles_39 ⟨Nat.le_refl _, Nat.le_refl _⟩ (fun H locs hP hS => ?_)
      refine W.eq (g2 := F0 m 42 ls [.long q7]) rfl ?_
      refine lv_goto (tgt := 48) hx hb dX12_settles_42 (by decide) ?_
      exact g_lret hx hb hr hlk hP hS (ret1 hf) dX12_settles_48

def X12_isCircle_B75 (h : HS) (v1 : Int32) (v2 : Int32) (k2 : Int32 → Option Int32) (v3 : Int32) : Option Int32 :=
    nm (v3 + 1) fun x13 =>
    k2 x13
def X12_isCircle_B2 (h : HS) (v1 : Int32) (v2 : Int32) : Nat → Int32 → Option Int32
  | 0, _ => none
  | fu + 1, v3 =>
    gdi 0 30 <|
    (if (aI h 67 (0 : Int32).toNatClampNeg) ≤ v3 then
    some 1
    else
    (X12_has v1 v3).bind fun q3 =>
    (if q3 = 0 then
    X12_isCircle_B75 h v1 v2 (X12_isCircle_B2 h v1 v2 fu) v3
    else
    nm (v1 &&& (((1 : Int32) <<< (v3 &&& 31)) ^^^ (-1))) fun x5 =>
    (if v2 = 0 then
    (X12_of v3 2).bind fun q7 =>
    gdi q7 30 <|
    (if (x5 &&& (aI h 67 q7.toNatClampNeg)) = 0 then
    X12_isCircle_B75 h v1 v2 (X12_isCircle_B2 h v1 v2 fu) v3
    else
    some 0)
    else
    (X12_of v3 2).bind fun q10 =>
    gdi q10 30 <|
    (if (x5 &&& ((aI h 67 q10.toNatClampNeg) ^^^ (-1))) = 0 then
    X12_isCircle_B75 h v1 v2 (X12_isCircle_B2 h v1 v2 fu) v3
    else
    some 0))))
def X12_isCircle (h : HS) (v1 : Int32) (v2 : Int32) : Option Int32 :=
    X12_isCircle_B2 h v1 v2 FU 0
def uX12_isCircle : List Cond := .code yX12_isCircle cX12_isCircle 5 (some .boolean) :: UU
def rmX12_isCircle : Room := { frames := 1, cells := 0, slots := 0, locals := 21 }
theorem kdX12_isCircle : yX12_isCircle.cls = RX12 ∧ yX12_isCircle.cls ≠ "java/lang/invoke/MethodHandle" ∧ yX12_isCircle.cls ≠ "java/lang/invoke/VarHandle" ∧ (parseMethodDescriptor yX12_isCircle.desc).map (fun d => d.parameters.length) = some 2 := by decide +kernel
set_option maxHeartbeats 4000000 in
set_option maxRecDepth 100000 in
theorem m_X12_isCircle (l : Launch) (D : va_G) (a : Nat → Nat) (C : Nat → ClassId) (ha : ginj a) (h : HS) (v1 : Int32) (v2 : Int32)  (r : Int32) (hf : X12_isCircle h v1 v2 = some r) : gM l yX12_isCircle uX12_isCircle rmX12_isCircle D a C [.ref (a 66), .int v1, .int v2] h (some (.int r)) h := by
  refine g_start (av := [.ref (a 66), .int v1, .int v2]) (cc := cX12_isCircle) (maxL := 5) (rt := (some .boolean)) (by decide) rfl (Nat.le_of_ble_eq_true rfl) ?_
  intro p e s m below meth c hx hb hr hml hown hlk hts hP hK hN ls hl
  have hA : ∀ q, gA a q → gA a q := fun _ q => q
  have hS : va_S (gA a) s.heap s.heap [] := va_S.rf
  have hl : lv_has ls 5 [(0, .ref (a 66)), (1, .int v1), (2, .int v2)] := hl
  have J75 : ∀ (k2 : Int32 → Option Int32) (hk2 : ∀ (v3 : Int32), k2 v3 = some r → gG p l e (headSpec uX12_isCircle rmX12_isCircle).room s m ([.ref (a 66), .int v1, .int v2] : List Value).toArray below meth c (MQ below (gQ (some (.int r)) D a C h) ([.ref (a 66), .int v1, .int v2] : List Value).toArray s 0 0 (gA a)) D a C 5 h 2 [(0, .ref (a 66)), (1, .int v1), (2, .int v2), (3, .int v3)] []) (v3 : Int32) (_ : X12_isCircle_B75 h v1 v2 k2 v3 = some r), gG p l e (headSpec uX12_isCircle rmX12_isCircle).room s m ([.ref (a 66), .int v1, .int v2] : List Value).toArray below meth c (MQ below (gQ (some (.int r)) D a C h) ([.ref (a 66), .int v1, .int v2] : List Value).toArray s 0 0 (gA a)) D a C 5 h 75 [(0, .ref (a 66)), (1, .int v1), (2, .int v2), (3, .int v3)] [] := by
    intro k2 hk2 v3 hf H locs ls hP hS hl
    unfold X12_isCircle_B75 at hf
    obtain ⟨x13, ex13⟩ : ∃ y : Int32, y = (v3 + 1) := ⟨_, rfl⟩
    have hf := nm_s hf ex13
    refine lv_iinc (v := x13) (lv' := [(3, .int x13), (0, .ref (a 66)), (1, .int v1), (2, .int v2)]) hx hb dX12_isCircle_75 hl (k := 3) rfl (by rw [ex13]; rfl) (by decide) rfl (fun ls hl => ?_)
    refine lv_goto (tgt := 2) hx hb dX12_isCircle_78 (by decide) ?_
    exact hk2 x13 hf H locs ls hP hS (lv_sub hl [1, 2, 3, 0] rfl)
  have J2 : ∀ (fu : Nat) (v3 : Int32), X12_isCircle_B2 h v1 v2 fu v3 = some r → gG p l e (headSpec uX12_isCircle rmX12_isCircle).room s m ([.ref (a 66), .int v1, .int v2] : List Value).toArray below meth c (MQ below (gQ (some (.int r)) D a C h) ([.ref (a 66), .int v1, .int v2] : List Value).toArray s 0 0 (gA a)) D a C 5 h 2 [(0, .ref (a 66)), (1, .int v1), (2, .int v2), (3, .int v3)] [] := by
    intro fu
    induction fu with
    | zero => intro v3 hf; exact absurd hf (by simp [X12_isCircle_B2])
    | succ fu ih =>
      intro v3 hf H locs ls hP hS hl
      rw [X12_isCircle_B2] at hf
      refine lv_iload_n hx hb dX12_isCircle_2 rfl (lv_at hl 3 rfl) ?_
      refine lv_aload_n hx hb dX12_isCircle_3 rfl (lv_at hl 0 rfl) ?_
      refine g_get (Cn := RX12) (T := TX12) (N := 21) (v := .ref (a 67)) (own := RX12) hx hb hown hts hK M_O rfl (fun _ hw => List.mem_cons_of_mem _ (u12_cls _ hw)) 0 (by decide) (List.mem_cons_of_mem _ (u12_0 _ (List.mem_of_getElem? (i := 5) rfl))) rfl rfl hP dX12_isCircle_4 ?_
      refine lv_iconst (v := 0) hx hb dX12_isCircle_7 (by decide) ?_
      obtain ⟨c1, hf⟩ := gdi_s hf
      refine g_ial hx hb hK (⟨by decide, rfl⟩ : gAI 67 30) c1 hP dX12_isCircle_8 ?_
      refine lv_icmp_ge (tgt := 81) hx hb dX12_isCircle_9 (by decide) (fun c2 => ?_) (fun c2 => ?_)
      · have hf := if_t hf c2
        refine lv_iconst (v := 1) hx hb dX12_isCircle_81 (by decide) ?_
        exact g_zret hx hb hr hlk (by decide) hP hS (ret1 hf) dX12_isCircle_82
      · have hf := if_f hf c2
        refine lv_iload_n hx hb dX12_isCircle_12 rfl (lv_at hl 1 rfl) ?_
        refine lv_iload_n hx hb dX12_isCircle_13 rfl (lv_at hl 3 rfl) ?_
        obtain ⟨q3, hq3, hf⟩ := bind_s hf
        refine g_callS (As := [.int v1, .int v3]) (rest := []) hx hb hml hown hts hK hN (m_X12_has l D a C ha h v1 v3  q3 hq3) (va_cwS 2 hts (gUS (u12_2 _ (List.mem_of_getElem? (i := 8) rfl)) (u12_2 _ (List.mem_of_getElem? (i := 9) rfl)) (u12_1 _ (List.mem_of_getElem? (i := 7) rfl)) (u12_1 _ (List.mem_of_getElem? (i := 12) rfl))) rfl rfl rfl kdX12_has.2 ⟨Nat.le_of_ble_eq_true rfl, Nat.le_of_ble_eq_true rfl⟩) hP hS hA rfl hl.1 rfl (Nat.le_of_ble_eq_true rfl) dX12_isCircle_14 ⟨Nat.le_refl _, Nat.le_refl _⟩ (fun H locs hP hS => ?_)
        refine W.eq (g2 := F0 m 17 ls [.int q3]) rfl ?_
        refine lv_if_ne (tgt := 23) hx hb dX12_isCircle_17 (by decide) (fun c4 => ?_) (fun c4 => ?_)
        · have hf := if_f hf c4
          refine lv_iload_n hx hb dX12_isCircle_23 rfl (lv_at hl 1 rfl) ?_
          refine lv_iconst (v := 1) hx hb dX12_isCircle_24 (by decide) ?_
          refine lv_iload_n hx hb dX12_isCircle_25 rfl (lv_at hl 3 rfl) ?_
          refine lv_ishl hx hb dX12_isCircle_26 ?_
          refine lv_iconst (v := (-1)) hx hb dX12_isCircle_27 (by decide) ?_
          refine lv_ixor hx hb dX12_isCircle_28 ?_
          refine lv_iand hx hb dX12_isCircle_29 ?_
          refine lv_topi (fun x5 ex5 => ?_)
          have hf := nm_s hf ex5
          refine lv_istore (lv' := [(4, .int x5), (0, .ref (a 66)), (1, .int v1), (2, .int v2), (3, .int v3)]) hx hb dX12_isCircle_30 hl (by decide) rfl (fun ls hl => ?_)
          refine lv_iload_n hx hb dX12_isCircle_32 rfl (lv_at hl 3 rfl) ?_
          refine lv_if_eq (tgt := 57) hx hb dX12_isCircle_33 (by decide) (fun c6 => ?_) (fun c6 => ?_)
          · have hf := if_t hf c6
            refine lv_iload hx hb dX12_isCircle_57 (lv_at hl 0 rfl) ?_
            refine lv_aload_n hx hb dX12_isCircle_59 rfl (lv_at hl 1 rfl) ?_
            refine g_get (Cn := RX12) (T := TX12) (N := 21) (v := .ref (a 67)) (own := RX12) hx hb hown hts hK M_O rfl (fun _ hw => List.mem_cons_of_mem _ (u12_cls _ hw)) 0 (by decide) (List.mem_cons_of_mem _ (u12_0 _ (List.mem_of_getElem? (i := 5) rfl))) rfl rfl hP dX12_isCircle_60 ?_
            refine lv_iload_n hx hb dX12_isCircle_63 rfl (lv_at hl 4 rfl) ?_
            refine lv_iconst (v := 2) hx hb dX12_isCircle_64 (by decide) ?_
            obtain ⟨q7, hq7, hf⟩ := bind_s hf
            refine g_callS (As := [.int v3, .int 2]) (rest := [.ref (a 67), .int x5]) hx hb hml hown hts hK hN (m_X12_of l D a C ha h v3 2  q7 hq7) (va_cwS 2 hts (gUS (u12_1 _ (List.mem_of_getElem? (i := 15) rfl)) (u12_1 _ (List.mem_of_getElem? (i := 16) rfl)) (u12_1 _ (List.mem_of_getElem? (i := 7) rfl)) (u12_1 _ (List.mem_of_getElem? (i := 3) rfl))) rfl rfl rfl kdX12_of.2 ⟨Nat.le_of_ble_eq_true rfl, Nat.le_of_ble_eq_true rfl⟩) hP hS hA rfl hl.1 rfl (Nat.le_of_ble_eq_true rfl) dX12_isCircle_65 ⟨Nat.le_refl _, Nat.le_refl _⟩ (fun H locs hP hS => ?_)
            refine W.eq (g2 := F0 m 68 ls [.int q7, .ref (a 67), .int x5]) rfl ?_
            obtain ⟨c8, hf⟩ := gdi_s hf
            refine g_ial hx hb hK (⟨by decide, rfl⟩ : gAI 67 30) c8 hP dX12_isCircle_68 ?_
            refine lv_iand hx hb dX12_isCircle_69 ?_
            refine lv_if_eq (tgt := 75) hx hb dX12_isCircle_70 (by decide) (fun c9 => ?_) (fun c9 => ?_)
            · have hf := if_t hf c9
              exact J75 (X12_isCircle_B2 h v1 v2 fu) ih v3 hf H locs ls hP hS (lv_sub hl [1, 2, 3, 4] rfl)
            · have hf := if_f hf c9
              refine lv_iconst (v := 0) hx hb dX12_isCircle_73 (by decide) ?_
              exact g_zret hx hb hr hlk (by decide) hP hS (ret1 hf) dX12_isCircle_74
          · have hf := if_f hf c6
            refine lv_iload hx hb dX12_isCircle_36 (lv_at hl 0 rfl) ?_
            refine lv_aload_n hx hb dX12_isCircle_38 rfl (lv_at hl 1 rfl) ?_
            refine g_get (Cn := RX12) (T := TX12) (N := 21) (v := .ref (a 67)) (own := RX12) hx hb hown hts hK M_O rfl (fun _ hw => List.mem_cons_of_mem _ (u12_cls _ hw)) 0 (by decide) (List.mem_cons_of_mem _ (u12_0 _ (List.mem_of_getElem? (i := 5) rfl))) rfl rfl hP dX12_isCircle_39 ?_
            refine lv_iload_n hx hb dX12_isCircle_42 rfl (lv_at hl 4 rfl) ?_
            refine lv_iconst (v := 2) hx hb dX12_isCircle_43 (by decide) ?_
            obtain ⟨q10, hq10, hf⟩ := bind_s hf
            refine g_callS (As := [.int v3, .int 2]) (rest := [.ref (a 67), .int x5]) hx hb hml hown hts hK hN (m_X12_of l D a C ha h v3 2  q10 hq10) (va_cwS 2 hts (gUS (u12_1 _ (List.mem_of_getElem? (i := 15) rfl)) (u12_1 _ (List.mem_of_getElem? (i := 16) rfl)) (u12_1 _ (List.mem_of_getElem? (i := 7) rfl)) (u12_1 _ (List.mem_of_getElem? (i := 3) rfl))) rfl rfl rfl kdX12_of.2 ⟨Nat.le_of_ble_eq_true rfl, Nat.le_of_ble_eq_true rfl⟩) hP hS hA rfl hl.1 rfl (Nat.le_of_ble_eq_true rfl) dX12_isCircle_44 ⟨Nat.le_refl _, Nat.le_refl _⟩ (fun H locs hP hS => ?_)
            refine W.eq (g2 := F0 m 47 ls [.int q10, .ref (a 67), .int x5]) rfl ?_
            obtain ⟨c11, hf⟩ := gdi_s hf
            refine g_ial hx hb hK (⟨by decide, rfl⟩ : gAI 67 30) c11 hP dX12_isCircle_47 ?_
            refine lv_iconst (v := (-1)) hx hb dX12_isCircle_48 (by decide) ?_
            refine lv_ixor hx hb dX12_isCircle_49 ?_
            refine lv_iand hx hb dX12_isCircle_50 ?_
            refine lv_if_eq (tgt := 75) hx hb dX12_isCircle_51 (by decide) (fun c12 => ?_) (fun c12 => ?_)
            · have hf := if_t hf c12
              exact J75 (X12_isCircle_B2 h v1 v2 fu) ih v3 hf H locs ls hP hS (lv_sub hl [1, 2, 3, 4] rfl)
            · have hf := if_f hf c12
              refine lv_goto (tgt := 73) hx hb dX12_isCircle_54 (by decide) ?_
              refine lv_iconst (v := 0) hx hb dX12_isCircle_73 (by decide) ?_
              exact g_zret hx hb hr hlk (by decide) hP hS (ret1 hf) dX12_isCircle_74
        · have hf := if_t hf c4
          refine lv_goto (tgt := 75) hx hb dX12_isCircle_20 (by decide) ?_
          exact J75 (X12_isCircle_B2 h v1 v2 fu) ih v3 hf H locs ls hP hS (lv_sub hl [0, 1, 2, 3] rfl)
  unfold X12_isCircle at hf
  suffices hh : ∀ (H : Heap) (locs : List Loc), va_P D vwCl (gw a C h) H → va_S (gA a) s.heap H locs → W p l e (headSpec uX12_isCircle rmX12_isCircle).room s m ([.ref (a 66), .int v1, .int v2] : List Value).toArray below meth c H locs 0 0 (MQ below (gQ (some (.int r)) D a C h) ([.ref (a 66), .int v1, .int v2] : List Value).toArray s 0 0 (gA a)) (F0 m 0 ls []) from hh _ _ hP hS
  intro H locs hP hS
  refine lv_iconst (v := 0) hx hb dX12_isCircle_0 (by decide) ?_
  refine lv_istore_n (lv' := [(3, .int 0), (0, .ref (a 66)), (1, .int v1), (2, .int v2)]) hx hb dX12_isCircle_1 rfl hl (by decide) rfl (fun ls hl => ?_)
  exact J2 FU 0 hf H locs ls hP hS (lv_sub hl [1, 2, 3, 0] rfl)

def X12_largest_B38 (h : HS) (v1 : Int32) (k4 : Int32 → Int32 → Option Int32) (v2 : Int32) (v3 : Int32) : Option Int32 :=
    nm (v3 + 1) fun x8 =>
    k4 v2 x8
def X12_largest_B4 (h : HS) (v1 : Int32) : Nat → Int32 → Int32 → Option Int32
  | 0, _, _ => none
  | fu + 1, v2, v3 =>
    gdi 0 30 <|
    (if ((1 : Int32) <<< ((aI h 67 (0 : Int32).toNatClampNeg) &&& 31)) ≤ v3 then
    some v2
    else
    (X12_bits v3).bind fun q3 =>
    (X12_bits v2).bind fun q4 =>
    (if q3 ≤ q4 then
    X12_largest_B38 h v1 (X12_largest_B4 h v1 fu) v2 v3
    else
    (X12_isCircle h v3 v1).bind fun q6 =>
    (if q6 = 0 then
    X12_largest_B38 h v1 (X12_largest_B4 h v1 fu) v2 v3
    else
    X12_largest_B38 h v1 (X12_largest_B4 h v1 fu) v3 v3)))
def X12_largest (h : HS) (v1 : Int32) : Option Int32 :=
    X12_largest_B4 h v1 FU 0 0
def uX12_largest : List Cond := .code yX12_largest cX12_largest 4 (some .int) :: UU
def rmX12_largest : Room := { frames := 2, cells := 0, slots := 0, locals := 45 }
theorem kdX12_largest : yX12_largest.cls = RX12 ∧ yX12_largest.cls ≠ "java/lang/invoke/MethodHandle" ∧ yX12_largest.cls ≠ "java/lang/invoke/VarHandle" ∧ (parseMethodDescriptor yX12_largest.desc).map (fun d => d.parameters.length) = some 1 := by decide +kernel
set_option maxHeartbeats 4000000 in
set_option maxRecDepth 100000 in
theorem m_X12_largest (l : Launch) (D : va_G) (a : Nat → Nat) (C : Nat → ClassId) (ha : ginj a) (h : HS) (v1 : Int32)  (r : Int32) (hf : X12_largest h v1 = some r) : gM l yX12_largest uX12_largest rmX12_largest D a C [.ref (a 66), .int v1] h (some (.int r)) h := by
  refine g_start (av := [.ref (a 66), .int v1]) (cc := cX12_largest) (maxL := 4) (rt := (some .int)) (by decide) rfl (Nat.le_of_ble_eq_true rfl) ?_
  intro p e s m below meth c hx hb hr hml hown hlk hts hP hK hN ls hl
  have hA : ∀ q, gA a q → gA a q := fun _ q => q
  have hS : va_S (gA a) s.heap s.heap [] := va_S.rf
  have hl : lv_has ls 4 [(0, .ref (a 66)), (1, .int v1)] := hl
  have J38 : ∀ (k4 : Int32 → Int32 → Option Int32) (hk4 : ∀ (v2 : Int32) (v3 : Int32), k4 v2 v3 = some r → gG p l e (headSpec uX12_largest rmX12_largest).room s m ([.ref (a 66), .int v1] : List Value).toArray below meth c (MQ below (gQ (some (.int r)) D a C h) ([.ref (a 66), .int v1] : List Value).toArray s 0 0 (gA a)) D a C 4 h 4 [(0, .ref (a 66)), (1, .int v1), (2, .int v2), (3, .int v3)] []) (v2 : Int32) (v3 : Int32) (_ : X12_largest_B38 h v1 k4 v2 v3 = some r), gG p l e (headSpec uX12_largest rmX12_largest).room s m ([.ref (a 66), .int v1] : List Value).toArray below meth c (MQ below (gQ (some (.int r)) D a C h) ([.ref (a 66), .int v1] : List Value).toArray s 0 0 (gA a)) D a C 4 h 38 [(0, .ref (a 66)), (1, .int v1), (2, .int v2), (3, .int v3)] [] := by
    intro k4 hk4 v2 v3 hf H locs ls hP hS hl
    unfold X12_largest_B38 at hf
    obtain ⟨x8, ex8⟩ : ∃ y : Int32, y = (v3 + 1) := ⟨_, rfl⟩
    have hf := nm_s hf ex8
    refine lv_iinc (v := x8) (lv' := [(3, .int x8), (0, .ref (a 66)), (1, .int v1), (2, .int v2)]) hx hb dX12_largest_38 hl (k := 3) rfl (by rw [ex8]; rfl) (by decide) rfl (fun ls hl => ?_)
    refine lv_goto (tgt := 4) hx hb dX12_largest_41 (by decide) ?_
    exact hk4 v2 x8 hf H locs ls hP hS (lv_sub hl [1, 2, 3, 0] rfl)
  have J4 : ∀ (fu : Nat) (v2 : Int32) (v3 : Int32), X12_largest_B4 h v1 fu v2 v3 = some r → gG p l e (headSpec uX12_largest rmX12_largest).room s m ([.ref (a 66), .int v1] : List Value).toArray below meth c (MQ below (gQ (some (.int r)) D a C h) ([.ref (a 66), .int v1] : List Value).toArray s 0 0 (gA a)) D a C 4 h 4 [(0, .ref (a 66)), (1, .int v1), (2, .int v2), (3, .int v3)] [] := by
    intro fu
    induction fu with
    | zero => intro v2 v3 hf; exact absurd hf (by simp [X12_largest_B4])
    | succ fu ih =>
      intro v2 v3 hf H locs ls hP hS hl
      rw [X12_largest_B4] at hf
      refine lv_iload_n hx hb dX12_largest_4 rfl (lv_at hl 3 rfl) ?_
      refine lv_iconst (v := 1) hx hb dX12_largest_5 (by decide) ?_
      refine lv_aload_n hx hb dX12_largest_6 rfl (lv_at hl 0 rfl) ?_
      refine g_get (Cn := RX12) (T := TX12) (N := 21) (v := .ref (a 67)) (own := RX12) hx hb hown hts hK M_O rfl (fun _ hw => List.mem_cons_of_mem _ (u12_cls _ hw)) 0 (by decide) (List.mem_cons_of_mem _ (u12_0 _ (List.mem_of_getElem? (i := 5) rfl))) rfl rfl hP dX12_largest_7 ?_
      refine lv_iconst (v := 0) hx hb dX12_largest_10 (by decide) ?_
      obtain ⟨c1, hf⟩ := gdi_s hf
      refine g_ial hx hb hK (⟨by decide, rfl⟩ : gAI 67 30) c1 hP dX12_largest_11 ?_
      refine lv_ishl hx hb dX12_largest_12 ?_
      refine lv_icmp_ge (tgt := 44) hx hb dX12_largest_13 (by decide) (fun c2 => ?_) (fun c2 => ?_)
      · have hf := if_t hf c2
        refine lv_iload_n hx hb dX12_largest_44 rfl (lv_at hl 2 rfl) ?_
        exact g_iret hx hb hr hlk hP hS (ret1 hf) dX12_largest_45
      · have hf := if_f hf c2
        refine lv_iload_n hx hb dX12_largest_16 rfl (lv_at hl 3 rfl) ?_
        obtain ⟨q3, hq3, hf⟩ := bind_s hf
        refine g_callS (As := [.int v3]) (rest := []) hx hb hml hown hts hK hN (m_X12_bits l D a C ha h v3  q3 hq3) (va_cwS 1 hts (gUS (u12_1 _ (List.mem_of_getElem? (i := 17) rfl)) (u12_1 _ (List.mem_of_getElem? (i := 18) rfl)) (u12_1 _ (List.mem_of_getElem? (i := 7) rfl)) (u12_1 _ (List.mem_of_getElem? (i := 13) rfl))) rfl rfl rfl kdX12_bits.2 ⟨Nat.le_of_ble_eq_true rfl, Nat.le_of_ble_eq_true rfl⟩) hP hS hA rfl hl.1 rfl (Nat.le_of_ble_eq_true rfl) dX12_largest_17 ⟨Nat.le_refl _, Nat.le_refl _⟩ (fun H locs hP hS => ?_)
        refine W.eq (g2 := F0 m 20 ls [.int q3]) rfl ?_
        refine lv_iload_n hx hb dX12_largest_20 rfl (lv_at hl 2 rfl) ?_
        obtain ⟨q4, hq4, hf⟩ := bind_s hf
        refine g_callS (As := [.int v2]) (rest := [.int q3]) hx hb hml hown hts hK hN (m_X12_bits l D a C ha h v2  q4 hq4) (va_cwS 1 hts (gUS (u12_1 _ (List.mem_of_getElem? (i := 17) rfl)) (u12_1 _ (List.mem_of_getElem? (i := 18) rfl)) (u12_1 _ (List.mem_of_getElem? (i := 7) rfl)) (u12_1 _ (List.mem_of_getElem? (i := 13) rfl))) rfl rfl rfl kdX12_bits.2 ⟨Nat.le_of_ble_eq_true rfl, Nat.le_of_ble_eq_true rfl⟩) hP hS hA rfl hl.1 rfl (Nat.le_of_ble_eq_true rfl) dX12_largest_21 ⟨Nat.le_refl _, Nat.le_refl _⟩ (fun H locs hP hS => ?_)
        refine W.eq (g2 := F0 m 24 ls [.int q4, .int q3]) rfl ?_
        refine lv_icmp_le (tgt := 38) hx hb dX12_largest_24 (by decide) (fun c5 => ?_) (fun c5 => ?_)
        · have hf := if_t hf c5
          exact J38 (X12_largest_B4 h v1 fu) ih v2 v3 hf H locs ls hP hS (lv_sub hl [0, 1, 2, 3] rfl)
        · have hf := if_f hf c5
          refine lv_aload_n hx hb dX12_largest_27 rfl (lv_at hl 0 rfl) ?_
          refine lv_iload_n hx hb dX12_largest_28 rfl (lv_at hl 3 rfl) ?_
          refine lv_iload_n hx hb dX12_largest_29 rfl (lv_at hl 1 rfl) ?_
          obtain ⟨q6, hq6, hf⟩ := bind_s hf
          refine g_callV (As := [.int v3, .int v1]) (rest := []) hx hb hml hown hts hK hN (m_X12_isCircle l D a C ha h v3 v1  q6 hq6) (cwV 2 hts (gUV (u12_8 _ (List.mem_of_getElem? (i := 14) rfl)) (u12_8 _ (List.mem_of_getElem? (i := 15) rfl)) (u12_8 _ (List.mem_of_getElem? (i := 16) rfl)) (u12_1 _ (List.mem_of_getElem? (i := 7) rfl)) (u12_8 _ (List.mem_of_getElem? (i := 12) rfl))) rfl rfl rfl kdX12_isCircle ⟨Nat.le_of_ble_eq_true rfl, Nat.le_of_ble_eq_true rfl⟩) M_O rfl rfl hP hS hA rfl hl.1 rfl (Nat.le_of_ble_eq_true rfl) dX12_largest_30 ⟨Nat.le_refl _, Nat.le_refl _⟩ (fun H locs hP hS => ?_)
          refine W.eq (g2 := F0 m 33 ls [.int q6]) rfl ?_
          refine lv_if_eq (tgt := 38) hx hb dX12_largest_33 (by decide) (fun c7 => ?_) (fun c7 => ?_)
          · have hf := if_t hf c7
            exact J38 (X12_largest_B4 h v1 fu) ih v2 v3 hf H locs ls hP hS (lv_sub hl [0, 1, 2, 3] rfl)
          · have hf := if_f hf c7
            refine lv_iload_n hx hb dX12_largest_36 rfl (lv_at hl 3 rfl) ?_
            refine lv_istore_n (lv' := [(2, .int v3), (0, .ref (a 66)), (1, .int v1), (3, .int v3)]) hx hb dX12_largest_37 rfl hl (by decide) rfl (fun ls hl => ?_)
            exact J38 (X12_largest_B4 h v1 fu) ih v3 v3 hf H locs ls hP hS (lv_sub hl [1, 2, 0, 3] rfl)
  unfold X12_largest at hf
  suffices hh : ∀ (H : Heap) (locs : List Loc), va_P D vwCl (gw a C h) H → va_S (gA a) s.heap H locs → W p l e (headSpec uX12_largest rmX12_largest).room s m ([.ref (a 66), .int v1] : List Value).toArray below meth c H locs 0 0 (MQ below (gQ (some (.int r)) D a C h) ([.ref (a 66), .int v1] : List Value).toArray s 0 0 (gA a)) (F0 m 0 ls []) from hh _ _ hP hS
  intro H locs hP hS
  refine lv_iconst (v := 0) hx hb dX12_largest_0 (by decide) ?_
  refine lv_istore_n (lv' := [(2, .int 0), (0, .ref (a 66)), (1, .int v1)]) hx hb dX12_largest_1 rfl hl (by decide) rfl (fun ls hl => ?_)
  refine lv_iconst (v := 0) hx hb dX12_largest_2 (by decide) ?_
  refine lv_istore_n (lv' := [(3, .int 0), (2, .int 0), (0, .ref (a 66)), (1, .int v1)]) hx hb dX12_largest_3 rfl hl (by decide) rfl (fun ls hl => ?_)
  exact J4 FU 0 0 hf H locs ls hP hS (lv_sub hl [2, 3, 1, 0] rfl)

def X12_pews_B83 (k9 : Int32 → HS → Option (Int32 × HS)) (k31 : Int32 → Int32 → HS → Option (Int32 × HS)) (v1 : Int32) (v2 : Int32) (h : HS) : Option (Int32 × HS) :=
    nm ((v2 - 1) &&& v1) fun x19 =>
    k31 v1 x19 h
def X12_pews_B31 (k9 : Int32 → HS → Option (Int32 × HS)) : Nat → Int32 → Int32 → HS → Option (Int32 × HS)
  | 0, _, _, _ => none
  | fu + 1, v1, v2, h =>
    (if v2 ≤ 0 then
    nm (v1 + 1) fun x10 =>
    k9 x10 h
    else
    gdi (v1 &&& (v2 ^^^ (-1))) 512 <|
    gdi v1 512 <|
    (if (aI h 74 v1.toNatClampNeg) ≤ ((aI h 74 (v1 &&& (v2 ^^^ (-1))).toNatClampNeg) + 1) then
    X12_pews_B83 k9 (X12_pews_B31 k9 fu) v1 v2 h
    else
    (X12_isCircle h v2 0).bind fun q14 =>
    (if q14 = 0 then
    X12_pews_B83 k9 (X12_pews_B31 k9 fu) v1 v2 h
    else
    gdi (v1 &&& (v2 ^^^ (-1))) 512 <|
    gdi v1 512 <|
    nm (sA h 74 (upd (aI h 74) v1.toNatClampNeg ((aI h 74 (v1 &&& (v2 ^^^ (-1))).toNatClampNeg) + 1))) fun h17 =>
    X12_pews_B83 k9 (X12_pews_B31 k9 fu) v1 v2 h17)))
def X12_pews_B9  : Nat → Int32 → HS → Option (Int32 × HS)
  | 0, _, _ => none
  | fu + 1, v1, h =>
    gdi 0 30 <|
    (if ((1 : Int32) <<< ((aI h 67 (0 : Int32).toNatClampNeg) &&& 31)) ≤ v1 then
    gdi 0 30 <|
    gdi (((1 : Int32) <<< ((aI h 67 (0 : Int32).toNatClampNeg) &&& 31)) - 1) 512 <|
    some ((aI h 74 (((1 : Int32) <<< ((aI h 67 (0 : Int32).toNatClampNeg) &&& 31)) - 1).toNatClampNeg), h)
    else
    gdi v1 512 <|
    nm (sA h 74 (upd (aI h 74) v1.toNatClampNeg 1000000000)) fun h7 =>
    X12_pews_B31 (X12_pews_B9 fu) FU v1 v1 h7)
def X12_pews (h : HS) : Option (Int32 × HS) :=
    gdi 0 512 <|
    nm (sA h 74 (upd (aI h 74) (0 : Int32).toNatClampNeg 0)) fun h1 =>
    X12_pews_B9 FU 1 h1
def uX12_pews : List Cond := .code yX12_pews cX12_pews 3 (some .int) :: UU
def rmX12_pews : Room := { frames := 2, cells := 0, slots := 0, locals := 45 }
theorem kdX12_pews : yX12_pews.cls = RX12 ∧ yX12_pews.cls ≠ "java/lang/invoke/MethodHandle" ∧ yX12_pews.cls ≠ "java/lang/invoke/VarHandle" ∧ (parseMethodDescriptor yX12_pews.desc).map (fun d => d.parameters.length) = some 0 := by decide +kernel
set_option maxHeartbeats 4000000 in
set_option maxRecDepth 100000 in
theorem m_X12_pews (l : Launch) (D : va_G) (a : Nat → Nat) (C : Nat → ClassId) (ha : ginj a) (h : HS)  (r : Int32) (h' : HS) (hf : X12_pews h = some (r, h')) : gM l yX12_pews uX12_pews rmX12_pews D a C [.ref (a 66)] h (some (.int r)) h' := by
  refine g_start (av := [.ref (a 66)]) (cc := cX12_pews) (maxL := 3) (rt := (some .int)) (by decide) rfl (Nat.le_of_ble_eq_true rfl) ?_
  intro p e s m below meth c hx hb hr hml hown hlk hts hP hK hN ls hl
  have hA : ∀ q, gA a q → gA a q := fun _ q => q
  have hS : va_S (gA a) s.heap s.heap [] := va_S.rf
  have hl : lv_has ls 3 [(0, .ref (a 66))] := hl
  have J83 : ∀ (k9 : Int32 → HS → Option (Int32 × HS)) (hk9 : ∀ (v1 : Int32) (h : HS), k9 v1 h = some (r, h') → gG p l e (headSpec uX12_pews rmX12_pews).room s m ([.ref (a 66)] : List Value).toArray below meth c (MQ below (gQ (some (.int r)) D a C h') ([.ref (a 66)] : List Value).toArray s 0 0 (gA a)) D a C 3 h 9 [(0, .ref (a 66)), (1, .int v1)] []) (k31 : Int32 → Int32 → HS → Option (Int32 × HS)) (hk31 : ∀ (v1 : Int32) (v2 : Int32) (h : HS), k31 v1 v2 h = some (r, h') → gG p l e (headSpec uX12_pews rmX12_pews).room s m ([.ref (a 66)] : List Value).toArray below meth c (MQ below (gQ (some (.int r)) D a C h') ([.ref (a 66)] : List Value).toArray s 0 0 (gA a)) D a C 3 h 31 [(0, .ref (a 66)), (1, .int v1), (2, .int v2)] []) (v1 : Int32) (v2 : Int32) (h : HS) (_ : X12_pews_B83 k9 k31 v1 v2 h = some (r, h')), gG p l e (headSpec uX12_pews rmX12_pews).room s m ([.ref (a 66)] : List Value).toArray below meth c (MQ below (gQ (some (.int r)) D a C h') ([.ref (a 66)] : List Value).toArray s 0 0 (gA a)) D a C 3 h 83 [(0, .ref (a 66)), (1, .int v1), (2, .int v2)] [] := by
    intro k9 hk9 k31 hk31 v1 v2 h hf H locs ls hP hS hl
    unfold X12_pews_B83 at hf
    refine lv_iload_n hx hb dX12_pews_83 rfl (lv_at hl 2 rfl) ?_
    refine lv_iconst (v := 1) hx hb dX12_pews_84 (by decide) ?_
    refine lv_isub hx hb dX12_pews_85 ?_
    refine lv_iload_n hx hb dX12_pews_86 rfl (lv_at hl 1 rfl) ?_
    refine lv_iand hx hb dX12_pews_87 ?_
    refine lv_topi (fun x19 ex19 => ?_)
    have hf := nm_s hf ex19
    refine lv_istore_n (lv' := [(2, .int x19), (0, .ref (a 66)), (1, .int v1)]) hx hb dX12_pews_88 rfl hl (by decide) rfl (fun ls hl => ?_)
    refine lv_goto (tgt := 31) hx hb dX12_pews_89 (by decide) ?_
    exact hk31 v1 x19 h hf H locs ls hP hS (lv_sub hl [1, 2, 0] rfl)
  have J31 : ∀ (k9 : Int32 → HS → Option (Int32 × HS)) (hk9 : ∀ (v1 : Int32) (h : HS), k9 v1 h = some (r, h') → gG p l e (headSpec uX12_pews rmX12_pews).room s m ([.ref (a 66)] : List Value).toArray below meth c (MQ below (gQ (some (.int r)) D a C h') ([.ref (a 66)] : List Value).toArray s 0 0 (gA a)) D a C 3 h 9 [(0, .ref (a 66)), (1, .int v1)] []) (fu : Nat) (v1 : Int32) (v2 : Int32) (h : HS), X12_pews_B31 k9 fu v1 v2 h = some (r, h') → gG p l e (headSpec uX12_pews rmX12_pews).room s m ([.ref (a 66)] : List Value).toArray below meth c (MQ below (gQ (some (.int r)) D a C h') ([.ref (a 66)] : List Value).toArray s 0 0 (gA a)) D a C 3 h 31 [(0, .ref (a 66)), (1, .int v1), (2, .int v2)] [] := by
    intro k9 hk9 fu
    induction fu with
    | zero => intro v1 v2 h hf; exact absurd hf (by simp [X12_pews_B31])
    | succ fu ih =>
      intro v1 v2 h hf H locs ls hP hS hl
      rw [X12_pews_B31] at hf
      refine lv_iload_n hx hb dX12_pews_31 rfl (lv_at hl 2 rfl) ?_
      refine lv_if_le (tgt := 92) hx hb dX12_pews_32 (by decide) (fun c9 => ?_) (fun c9 => ?_)
      · have hf := if_t hf c9
        obtain ⟨x10, ex10⟩ : ∃ y : Int32, y = (v1 + 1) := ⟨_, rfl⟩
        have hf := nm_s hf ex10
        refine lv_iinc (v := x10) (lv' := [(1, .int x10), (0, .ref (a 66)), (2, .int v2)]) hx hb dX12_pews_92 hl (k := 1) rfl (by rw [ex10]; rfl) (by decide) rfl (fun ls hl => ?_)
        refine lv_goto (tgt := 9) hx hb dX12_pews_95 (by decide) ?_
        exact hk9 x10 h hf H locs ls hP hS (lv_sub hl [1, 0] rfl)
      · have hf := if_f hf c9
        refine lv_aload_n hx hb dX12_pews_35 rfl (lv_at hl 0 rfl) ?_
        refine g_get (Cn := RX12) (T := TX12) (N := 21) (v := .ref (a 74)) (own := RX12) hx hb hown hts hK M_O rfl (fun _ hw => List.mem_cons_of_mem _ (u12_cls _ hw)) 11 (by decide) (List.mem_cons_of_mem _ (u12_0 _ (List.mem_of_getElem? (i := 13) rfl))) rfl rfl hP dX12_pews_36 ?_
        refine lv_iload_n hx hb dX12_pews_39 rfl (lv_at hl 1 rfl) ?_
        refine lv_iload_n hx hb dX12_pews_40 rfl (lv_at hl 2 rfl) ?_
        refine lv_iconst (v := (-1)) hx hb dX12_pews_41 (by decide) ?_
        refine lv_ixor hx hb dX12_pews_42 ?_
        refine lv_iand hx hb dX12_pews_43 ?_
        obtain ⟨c11, hf⟩ := gdi_s hf
        refine g_ial hx hb hK (⟨by decide, rfl⟩ : gAI 74 512) c11 hP dX12_pews_44 ?_
        refine lv_iconst (v := 1) hx hb dX12_pews_45 (by decide) ?_
        refine lv_iadd hx hb dX12_pews_46 ?_
        refine lv_aload_n hx hb dX12_pews_47 rfl (lv_at hl 0 rfl) ?_
        refine g_get (Cn := RX12) (T := TX12) (N := 21) (v := .ref (a 74)) (own := RX12) hx hb hown hts hK M_O rfl (fun _ hw => List.mem_cons_of_mem _ (u12_cls _ hw)) 11 (by decide) (List.mem_cons_of_mem _ (u12_0 _ (List.mem_of_getElem? (i := 13) rfl))) rfl rfl hP dX12_pews_48 ?_
        refine lv_iload_n hx hb dX12_pews_51 rfl (lv_at hl 1 rfl) ?_
        obtain ⟨c12, hf⟩ := gdi_s hf
        refine g_ial hx hb hK (⟨by decide, rfl⟩ : gAI 74 512) c12 hP dX12_pews_52 ?_
        refine lv_icmp_ge (tgt := 83) hx hb dX12_pews_53 (by decide) (fun c13 => ?_) (fun c13 => ?_)
        · have hf := if_t hf c13
          exact J83 k9 hk9 (X12_pews_B31 k9 fu) ih v1 v2 h hf H locs ls hP hS (lv_sub hl [0, 1, 2] rfl)
        · have hf := if_f hf c13
          refine lv_aload_n hx hb dX12_pews_56 rfl (lv_at hl 0 rfl) ?_
          refine lv_iload_n hx hb dX12_pews_57 rfl (lv_at hl 2 rfl) ?_
          refine lv_iconst (v := 0) hx hb dX12_pews_58 (by decide) ?_
          obtain ⟨q14, hq14, hf⟩ := bind_s hf
          refine g_callV (As := [.int v2, .int 0]) (rest := []) hx hb hml hown hts hK hN (m_X12_isCircle l D a C ha h v2 0  q14 hq14) (cwV 2 hts (gUV (u12_8 _ (List.mem_of_getElem? (i := 14) rfl)) (u12_8 _ (List.mem_of_getElem? (i := 15) rfl)) (u12_8 _ (List.mem_of_getElem? (i := 16) rfl)) (u12_1 _ (List.mem_of_getElem? (i := 7) rfl)) (u12_8 _ (List.mem_of_getElem? (i := 12) rfl))) rfl rfl rfl kdX12_isCircle ⟨Nat.le_of_ble_eq_true rfl, Nat.le_of_ble_eq_true rfl⟩) M_O rfl rfl hP hS hA rfl hl.1 rfl (Nat.le_of_ble_eq_true rfl) dX12_pews_59 ⟨Nat.le_refl _, Nat.le_refl _⟩ (fun H locs hP hS => ?_)
          refine W.eq (g2 := F0 m 62 ls [.int q14]) rfl ?_
          refine lv_if_eq (tgt := 83) hx hb dX12_pews_62 (by decide) (fun c15 => ?_) (fun c15 => ?_)
          · have hf := if_t hf c15
            exact J83 k9 hk9 (X12_pews_B31 k9 fu) ih v1 v2 h hf H locs ls hP hS (lv_sub hl [0, 1, 2] rfl)
          · have hf := if_f hf c15
            refine lv_aload_n hx hb dX12_pews_65 rfl (lv_at hl 0 rfl) ?_
            refine g_get (Cn := RX12) (T := TX12) (N := 21) (v := .ref (a 74)) (own := RX12) hx hb hown hts hK M_O rfl (fun _ hw => List.mem_cons_of_mem _ (u12_cls _ hw)) 11 (by decide) (List.mem_cons_of_mem _ (u12_0 _ (List.mem_of_getElem? (i := 13) rfl))) rfl rfl hP dX12_pews_66 ?_
            refine lv_iload_n hx hb dX12_pews_69 rfl (lv_at hl 1 rfl) ?_
            refine lv_aload_n hx hb dX12_pews_70 rfl (lv_at hl 0 rfl) ?_
            refine g_get (Cn := RX12) (T := TX12) (N := 21) (v := .ref (a 74)) (own := RX12) hx hb hown hts hK M_O rfl (fun _ hw => List.mem_cons_of_mem _ (u12_cls _ hw)) 11 (by decide) (List.mem_cons_of_mem _ (u12_0 _ (List.mem_of_getElem? (i := 13) rfl))) rfl rfl hP dX12_pews_71 ?_
            refine lv_iload_n hx hb dX12_pews_74 rfl (lv_at hl 1 rfl) ?_
            refine lv_iload_n hx hb dX12_pews_75 rfl (lv_at hl 2 rfl) ?_
            refine lv_iconst (v := (-1)) hx hb dX12_pews_76 (by decide) ?_
            refine lv_ixor hx hb dX12_pews_77 ?_
            refine lv_iand hx hb dX12_pews_78 ?_
            obtain ⟨c16, hf⟩ := gdi_s hf
            refine g_ial hx hb hK (⟨by decide, rfl⟩ : gAI 74 512) c16 hP dX12_pews_79 ?_
            refine lv_iconst (v := 1) hx hb dX12_pews_80 (by decide) ?_
            refine lv_iadd hx hb dX12_pews_81 ?_
            obtain ⟨c18, hf⟩ := gdi_s hf
            refine g_ias hx hb hK ha hA (⟨by decide, rfl⟩ : gAI 74 512) c18 hP hS dX12_pews_82 (fun H locs hP hS => ?_)
            obtain ⟨h17, eh17⟩ : ∃ x, x = (sA h 74 (upd (aI h 74) v1.toNatClampNeg ((aI h 74 (v1 &&& (v2 ^^^ (-1))).toNatClampNeg) + 1))) := ⟨_, rfl⟩
            rw [← eh17] at hP
            have hf := nm_s hf eh17
            exact J83 k9 hk9 (X12_pews_B31 k9 fu) ih v1 v2 h17 hf H locs ls hP hS (lv_sub hl [0, 1, 2] rfl)
  have J9 : ∀ (fu : Nat) (v1 : Int32) (h : HS), X12_pews_B9 fu v1 h = some (r, h') → gG p l e (headSpec uX12_pews rmX12_pews).room s m ([.ref (a 66)] : List Value).toArray below meth c (MQ below (gQ (some (.int r)) D a C h') ([.ref (a 66)] : List Value).toArray s 0 0 (gA a)) D a C 3 h 9 [(0, .ref (a 66)), (1, .int v1)] [] := by
    intro fu
    induction fu with
    | zero => intro v1 h hf; exact absurd hf (by simp [X12_pews_B9])
    | succ fu ih =>
      intro v1 h hf H locs ls hP hS hl
      rw [X12_pews_B9] at hf
      refine lv_iload_n hx hb dX12_pews_9 rfl (lv_at hl 1 rfl) ?_
      refine lv_iconst (v := 1) hx hb dX12_pews_10 (by decide) ?_
      refine lv_aload_n hx hb dX12_pews_11 rfl (lv_at hl 0 rfl) ?_
      refine g_get (Cn := RX12) (T := TX12) (N := 21) (v := .ref (a 67)) (own := RX12) hx hb hown hts hK M_O rfl (fun _ hw => List.mem_cons_of_mem _ (u12_cls _ hw)) 0 (by decide) (List.mem_cons_of_mem _ (u12_0 _ (List.mem_of_getElem? (i := 5) rfl))) rfl rfl hP dX12_pews_12 ?_
      refine lv_iconst (v := 0) hx hb dX12_pews_15 (by decide) ?_
      obtain ⟨c3, hf⟩ := gdi_s hf
      refine g_ial hx hb hK (⟨by decide, rfl⟩ : gAI 67 30) c3 hP dX12_pews_16 ?_
      refine lv_ishl hx hb dX12_pews_17 ?_
      refine lv_icmp_ge (tgt := 98) hx hb dX12_pews_18 (by decide) (fun c4 => ?_) (fun c4 => ?_)
      · have hf := if_t hf c4
        refine lv_aload_n hx hb dX12_pews_98 rfl (lv_at hl 0 rfl) ?_
        refine g_get (Cn := RX12) (T := TX12) (N := 21) (v := .ref (a 74)) (own := RX12) hx hb hown hts hK M_O rfl (fun _ hw => List.mem_cons_of_mem _ (u12_cls _ hw)) 11 (by decide) (List.mem_cons_of_mem _ (u12_0 _ (List.mem_of_getElem? (i := 13) rfl))) rfl rfl hP dX12_pews_99 ?_
        refine lv_iconst (v := 1) hx hb dX12_pews_102 (by decide) ?_
        refine lv_aload_n hx hb dX12_pews_103 rfl (lv_at hl 0 rfl) ?_
        refine g_get (Cn := RX12) (T := TX12) (N := 21) (v := .ref (a 67)) (own := RX12) hx hb hown hts hK M_O rfl (fun _ hw => List.mem_cons_of_mem _ (u12_cls _ hw)) 0 (by decide) (List.mem_cons_of_mem _ (u12_0 _ (List.mem_of_getElem? (i := 5) rfl))) rfl rfl hP dX12_pews_104 ?_
        refine lv_iconst (v := 0) hx hb dX12_pews_107 (by decide) ?_
        obtain ⟨c5, hf⟩ := gdi_s hf
        refine g_ial hx hb hK (⟨by decide, rfl⟩ : gAI 67 30) c5 hP dX12_pews_108 ?_
        refine lv_ishl hx hb dX12_pews_109 ?_
        refine lv_iconst (v := 1) hx hb dX12_pews_110 (by decide) ?_
        refine lv_isub hx hb dX12_pews_111 ?_
        obtain ⟨c6, hf⟩ := gdi_s hf
        refine g_ial hx hb hK (⟨by decide, rfl⟩ : gAI 74 512) c6 hP dX12_pews_112 ?_
        exact g_iretW hx hb hr hlk hP hS (ret2 hf) dX12_pews_113
      · have hf := if_f hf c4
        refine lv_aload_n hx hb dX12_pews_21 rfl (lv_at hl 0 rfl) ?_
        refine g_get (Cn := RX12) (T := TX12) (N := 21) (v := .ref (a 74)) (own := RX12) hx hb hown hts hK M_O rfl (fun _ hw => List.mem_cons_of_mem _ (u12_cls _ hw)) 11 (by decide) (List.mem_cons_of_mem _ (u12_0 _ (List.mem_of_getElem? (i := 13) rfl))) rfl rfl hP dX12_pews_22 ?_
        refine lv_iload_n hx hb dX12_pews_25 rfl (lv_at hl 1 rfl) ?_
        refine lv_ldc (v := 1000000000) hx hb hown (hts _ (List.mem_cons_of_mem _ (u12_8 _ (List.mem_of_getElem? (i := 18) rfl)))) dX12_pews_26 ?_
        obtain ⟨c8, hf⟩ := gdi_s hf
        refine g_ias hx hb hK ha hA (⟨by decide, rfl⟩ : gAI 74 512) c8 hP hS dX12_pews_28 (fun H locs hP hS => ?_)
        obtain ⟨h7, eh7⟩ : ∃ x, x = (sA h 74 (upd (aI h 74) v1.toNatClampNeg 1000000000)) := ⟨_, rfl⟩
        rw [← eh7] at hP
        have hf := nm_s hf eh7
        refine lv_iload_n hx hb dX12_pews_29 rfl (lv_at hl 1 rfl) ?_
        refine lv_istore_n (lv' := [(2, .int v1), (0, .ref (a 66)), (1, .int v1)]) hx hb dX12_pews_30 rfl hl (by decide) rfl (fun ls hl => ?_)
        exact J31 (X12_pews_B9 fu) ih FU v1 v1 h7 hf H locs ls hP hS (lv_sub hl [1, 2, 0] rfl)
  unfold X12_pews at hf
  suffices hh : ∀ (H : Heap) (locs : List Loc), va_P D vwCl (gw a C h) H → va_S (gA a) s.heap H locs → W p l e (headSpec uX12_pews rmX12_pews).room s m ([.ref (a 66)] : List Value).toArray below meth c H locs 0 0 (MQ below (gQ (some (.int r)) D a C h') ([.ref (a 66)] : List Value).toArray s 0 0 (gA a)) (F0 m 0 ls []) from hh _ _ hP hS
  intro H locs hP hS
  refine lv_aload_n hx hb dX12_pews_0 rfl (lv_at hl 0 rfl) ?_
  refine g_get (Cn := RX12) (T := TX12) (N := 21) (v := .ref (a 74)) (own := RX12) hx hb hown hts hK M_O rfl (fun _ hw => List.mem_cons_of_mem _ (u12_cls _ hw)) 11 (by decide) (List.mem_cons_of_mem _ (u12_0 _ (List.mem_of_getElem? (i := 13) rfl))) rfl rfl hP dX12_pews_1 ?_
  refine lv_iconst (v := 0) hx hb dX12_pews_4 (by decide) ?_
  refine lv_iconst (v := 0) hx hb dX12_pews_5 (by decide) ?_
  obtain ⟨c2, hf⟩ := gdi_s hf
  refine g_ias hx hb hK ha hA (⟨by decide, rfl⟩ : gAI 74 512) c2 hP hS dX12_pews_6 (fun H locs hP hS => ?_)
  obtain ⟨h1, eh1⟩ : ∃ x, x = (sA h 74 (upd (aI h 74) (0 : Int32).toNatClampNeg 0)) := ⟨_, rfl⟩
  rw [← eh1] at hP
  have hf := nm_s hf eh1
  refine lv_iconst (v := 1) hx hb dX12_pews_7 (by decide) ?_
  refine lv_istore_n (lv' := [(1, .int 1), (0, .ref (a 66))]) hx hb dX12_pews_8 rfl hl (by decide) rfl (fun ls hl => ?_)
  exact J9 FU 1 h1 hf H locs ls hP hS (lv_sub hl [1, 0] rfl)

def X12_circle (h : HS) (v1 : Int32) : Option (Int32 × HS) :=
    (if v1 = 0 then
    (X12_largest h 1).bind fun q6 =>
    some (q6, h)
    else
    (if v1 = 1 then
    (X12_largest h 0).bind fun q5 =>
    some (q5, h)
    else
    (if v1 = 2 then
    (X12_pews h).bind fun q4 =>
    some (q4.1, q4.2)
    else
    some ((-1), h))))
def uX12_circle : List Cond := .code yX12_circle cX12_circle 2 (some .int) :: UU
def rmX12_circle : Room := { frames := 3, cells := 0, slots := 0, locals := 68 }
theorem kdX12_circle : yX12_circle.cls = RX12 ∧ yX12_circle.cls ≠ "java/lang/invoke/MethodHandle" ∧ yX12_circle.cls ≠ "java/lang/invoke/VarHandle" ∧ (parseMethodDescriptor yX12_circle.desc).map (fun d => d.parameters.length) = some 1 := by decide +kernel
set_option maxHeartbeats 4000000 in
set_option maxRecDepth 100000 in
theorem m_X12_circle (l : Launch) (D : va_G) (a : Nat → Nat) (C : Nat → ClassId) (ha : ginj a) (h : HS) (v1 : Int32)  (r : Int32) (h' : HS) (hf : X12_circle h v1 = some (r, h')) : gM l yX12_circle uX12_circle rmX12_circle D a C [.ref (a 66), .int v1] h (some (.int r)) h' := by
  refine g_start (av := [.ref (a 66), .int v1]) (cc := cX12_circle) (maxL := 2) (rt := (some .int)) (by decide) rfl (Nat.le_of_ble_eq_true rfl) ?_
  intro p e s m below meth c hx hb hr hml hown hlk hts hP hK hN ls hl
  have hA : ∀ q, gA a q → gA a q := fun _ q => q
  have hS : va_S (gA a) s.heap s.heap [] := va_S.rf
  have hl : lv_has ls 2 [(0, .ref (a 66)), (1, .int v1)] := hl
  unfold X12_circle at hf
  refine lv_iload_n hx hb dX12_circle_0 rfl (lv_at hl 1 rfl) ?_
  refine lv_if_ne (tgt := 12) hx hb dX12_circle_1 (by decide) (fun c1 => ?_) (fun c1 => ?_)
  · have hf := if_f hf c1
    refine lv_iload_n hx hb dX12_circle_12 rfl (lv_at hl 1 rfl) ?_
    refine lv_iconst (v := 1) hx hb dX12_circle_13 (by decide) ?_
    refine lv_icmp_ne (tgt := 25) hx hb dX12_circle_14 (by decide) (fun c2 => ?_) (fun c2 => ?_)
    · have hf := if_f hf c2
      refine lv_iload_n hx hb dX12_circle_25 rfl (lv_at hl 1 rfl) ?_
      refine lv_iconst (v := 2) hx hb dX12_circle_26 (by decide) ?_
      refine lv_icmp_ne (tgt := 37) hx hb dX12_circle_27 (by decide) (fun c3 => ?_) (fun c3 => ?_)
      · have hf := if_f hf c3
        refine lv_iconst (v := (-1)) hx hb dX12_circle_37 (by decide) ?_
        exact g_iretW hx hb hr hlk hP hS (ret2 hf) dX12_circle_38
      · have hf := if_t hf c3
        refine lv_aload_n hx hb dX12_circle_30 rfl (lv_at hl 0 rfl) ?_
        obtain ⟨q4, hq4, hf⟩ := bind_s hf
        refine g_callV (As := []) (rest := []) hx hb hml hown hts hK hN (m_X12_pews l D a C ha h  q4.1 q4.2 hq4) (cwV 0 hts (gUV (u12_9 _ (List.mem_of_getElem? (i := 2) rfl)) (u12_9 _ (List.mem_of_getElem? (i := 3) rfl)) (u12_9 _ (List.mem_of_getElem? (i := 4) rfl)) (u12_1 _ (List.mem_of_getElem? (i := 7) rfl)) (u12_8 _ (List.mem_of_getElem? (i := 17) rfl))) rfl rfl rfl kdX12_pews ⟨Nat.le_of_ble_eq_true rfl, Nat.le_of_ble_eq_true rfl⟩) M_O rfl rfl hP hS hA rfl hl.1 rfl (Nat.le_of_ble_eq_true rfl) dX12_circle_31 ⟨Nat.le_refl _, Nat.le_refl _⟩ (fun H locs hP hS => ?_)
        refine W.eq (g2 := F0 m 34 ls [.int q4.1]) rfl ?_
        refine lv_goto (tgt := 38) hx hb dX12_circle_34 (by decide) ?_
        exact g_iretW hx hb hr hlk hP hS (ret2 hf) dX12_circle_38
    · have hf := if_t hf c2
      refine lv_aload_n hx hb dX12_circle_17 rfl (lv_at hl 0 rfl) ?_
      refine lv_iconst (v := 0) hx hb dX12_circle_18 (by decide) ?_
      obtain ⟨q5, hq5, hf⟩ := bind_s hf
      refine g_callV (As := [.int 0]) (rest := []) hx hb hml hown hts hK hN (m_X12_largest l D a C ha h 0  q5 hq5) (cwV 1 hts (gUV (u12_8 _ (List.mem_of_getElem? (i := 19) rfl)) (u12_9 _ (List.mem_of_getElem? (i := 0) rfl)) (u12_9 _ (List.mem_of_getElem? (i := 1) rfl)) (u12_1 _ (List.mem_of_getElem? (i := 7) rfl)) (u12_8 _ (List.mem_of_getElem? (i := 13) rfl))) rfl rfl rfl kdX12_largest ⟨Nat.le_of_ble_eq_true rfl, Nat.le_of_ble_eq_true rfl⟩) M_O rfl rfl hP hS hA rfl hl.1 rfl (Nat.le_of_ble_eq_true rfl) dX12_circle_19 ⟨Nat.le_refl _, Nat.le_refl _⟩ (fun H locs hP hS => ?_)
      refine W.eq (g2 := F0 m 22 ls [.int q5]) rfl ?_
      refine lv_goto (tgt := 38) hx hb dX12_circle_22 (by decide) ?_
      exact g_iretW hx hb hr hlk hP hS (ret2 hf) dX12_circle_38
  · have hf := if_t hf c1
    refine lv_aload_n hx hb dX12_circle_4 rfl (lv_at hl 0 rfl) ?_
    refine lv_iconst (v := 1) hx hb dX12_circle_5 (by decide) ?_
    obtain ⟨q6, hq6, hf⟩ := bind_s hf
    refine g_callV (As := [.int 1]) (rest := []) hx hb hml hown hts hK hN (m_X12_largest l D a C ha h 1  q6 hq6) (cwV 1 hts (gUV (u12_8 _ (List.mem_of_getElem? (i := 19) rfl)) (u12_9 _ (List.mem_of_getElem? (i := 0) rfl)) (u12_9 _ (List.mem_of_getElem? (i := 1) rfl)) (u12_1 _ (List.mem_of_getElem? (i := 7) rfl)) (u12_8 _ (List.mem_of_getElem? (i := 13) rfl))) rfl rfl rfl kdX12_largest ⟨Nat.le_of_ble_eq_true rfl, Nat.le_of_ble_eq_true rfl⟩) M_O rfl rfl hP hS hA rfl hl.1 rfl (Nat.le_of_ble_eq_true rfl) dX12_circle_6 ⟨Nat.le_refl _, Nat.le_refl _⟩ (fun H locs hP hS => ?_)
    refine W.eq (g2 := F0 m 9 ls [.int q6]) rfl ?_
    refine lv_goto (tgt := 38) hx hb dX12_circle_9 (by decide) ?_
    exact g_iretW hx hb hr hlk hP hS (ret2 hf) dX12_circle_38

def X12_leastIn_B2 (v0 : Int32) : Nat → Int32 → Option Int32
  | 0, _ => none
  | fu + 1, v1 =>
    (X12_has v0 v1).bind fun q1 =>
    (if q1 = 0 then
    nm (v1 + 1) fun x3 =>
    (X12_leastIn_B2 v0 fu) x3
    else
    some v1)
def X12_leastIn (v0 : Int32) : Option Int32 :=
    X12_leastIn_B2 v0 FU 0
def uX12_leastIn : List Cond := .code yX12_leastIn cX12_leastIn 2 (some .int) :: UU
def rmX12_leastIn : Room := { frames := 1, cells := 0, slots := 0, locals := 21 }
theorem kdX12_leastIn : yX12_leastIn.cls = RX12 ∧ yX12_leastIn.cls ≠ "java/lang/invoke/MethodHandle" ∧ yX12_leastIn.cls ≠ "java/lang/invoke/VarHandle" ∧ (parseMethodDescriptor yX12_leastIn.desc).map (fun d => d.parameters.length) = some 1 := by decide +kernel
set_option maxHeartbeats 4000000 in
set_option maxRecDepth 100000 in
theorem m_X12_leastIn (l : Launch) (D : va_G) (a : Nat → Nat) (C : Nat → ClassId) (ha : ginj a) (h : HS) (v0 : Int32)  (r : Int32) (hf : X12_leastIn v0 = some r) : gM l yX12_leastIn uX12_leastIn rmX12_leastIn D a C [.int v0] h (some (.int r)) h := by
  refine g_start (av := [.int v0]) (cc := cX12_leastIn) (maxL := 2) (rt := (some .int)) (by decide) rfl (Nat.le_of_ble_eq_true rfl) ?_
  intro p e s m below meth c hx hb hr hml hown hlk hts hP hK hN ls hl
  have hA : ∀ q, gA a q → gA a q := fun _ q => q
  have hS : va_S (gA a) s.heap s.heap [] := va_S.rf
  have hl : lv_has ls 2 [(0, .int v0)] := hl
  have J2 : ∀ (fu : Nat) (v1 : Int32), X12_leastIn_B2 v0 fu v1 = some r → gG p l e (headSpec uX12_leastIn rmX12_leastIn).room s m ([.int v0] : List Value).toArray below meth c (MQ below (gQ (some (.int r)) D a C h) ([.int v0] : List Value).toArray s 0 0 (gA a)) D a C 2 h 2 [(0, .int v0), (1, .int v1)] [] := by
    intro fu
    induction fu with
    | zero => intro v1 hf; exact absurd hf (by simp [X12_leastIn_B2])
    | succ fu ih =>
      intro v1 hf H locs ls hP hS hl
      rw [X12_leastIn_B2] at hf
      refine lv_iload_n hx hb dX12_leastIn_2 rfl (lv_at hl 0 rfl) ?_
      refine lv_iload_n hx hb dX12_leastIn_3 rfl (lv_at hl 1 rfl) ?_
      obtain ⟨q1, hq1, hf⟩ := bind_s hf
      refine g_callS (As := [.int v0, .int v1]) (rest := []) hx hb hml hown hts hK hN (m_X12_has l D a C ha h v0 v1  q1 hq1) (va_cwS 2 hts (gUS (u12_2 _ (List.mem_of_getElem? (i := 8) rfl)) (u12_2 _ (List.mem_of_getElem? (i := 9) rfl)) (u12_1 _ (List.mem_of_getElem? (i := 7) rfl)) (u12_1 _ (List.mem_of_getElem? (i := 12) rfl))) rfl rfl rfl kdX12_has.2 ⟨Nat.le_of_ble_eq_true rfl, Nat.le_of_ble_eq_true rfl⟩) hP hS hA rfl hl.1 rfl (Nat.le_of_ble_eq_true rfl) dX12_leastIn_4 ⟨Nat.le_refl _, Nat.le_refl _⟩ (fun H locs hP hS => ?_)
      refine W.eq (g2 := F0 m 7 ls [.int q1]) rfl ?_
      refine lv_if_ne (tgt := 16) hx hb dX12_leastIn_7 (by decide) (fun c2 => ?_) (fun c2 => ?_)
      · have hf := if_f hf c2
        refine lv_iload_n hx hb dX12_leastIn_16 rfl (lv_at hl 1 rfl) ?_
        exact g_iret hx hb hr hlk hP hS (ret1 hf) dX12_leastIn_17
      · have hf := if_t hf c2
        obtain ⟨x3, ex3⟩ : ∃ y : Int32, y = (v1 + 1) := ⟨_, rfl⟩
        have hf := nm_s hf ex3
        refine lv_iinc (v := x3) (lv' := [(1, .int x3), (0, .int v0)]) hx hb dX12_leastIn_10 hl (k := 1) rfl (by rw [ex3]; rfl) (by decide) rfl (fun ls hl => ?_)
        refine lv_goto (tgt := 2) hx hb dX12_leastIn_13 (by decide) ?_
        exact ih x3 hf H locs ls hP hS (lv_sub hl [1, 0] rfl)
  unfold X12_leastIn at hf
  suffices hh : ∀ (H : Heap) (locs : List Loc), va_P D vwCl (gw a C h) H → va_S (gA a) s.heap H locs → W p l e (headSpec uX12_leastIn rmX12_leastIn).room s m ([.int v0] : List Value).toArray below meth c H locs 0 0 (MQ below (gQ (some (.int r)) D a C h) ([.int v0] : List Value).toArray s 0 0 (gA a)) (F0 m 0 ls []) from hh _ _ hP hS
  intro H locs hP hS
  refine lv_iconst (v := 0) hx hb dX12_leastIn_0 (by decide) ?_
  refine lv_istore_n (lv' := [(1, .int 0), (0, .int v0)]) hx hb dX12_leastIn_1 rfl hl (by decide) rfl (fun ls hl => ?_)
  exact J2 FU 0 hf H locs ls hP hS (lv_sub hl [1, 0] rfl)

def X12_warms_B121 (k9 : Int32 → HS → Option HS) (k44 : Int32 → Int32 → Int32 → Int32 → HS → Option HS) (v1 : Int32) (v2 : Int32) (v3 : Int32) (v4 : Int32) (h : HS) : Option HS :=
    nm (v4 + 1) fun x23 =>
    k44 v1 v2 v3 x23 h
def X12_warms_B120 (k9 : Int32 → HS → Option HS) (k44 : Int32 → Int32 → Int32 → Int32 → HS → Option HS) (v1 : Int32) (v2 : Int32) (v4 : Int32) (s0 : Int32) (h : HS) : Option HS :=
    X12_warms_B121 k9 k44 v1 v2 s0 v4 h
def X12_warms_B44 (k9 : Int32 → HS → Option HS) : Nat → Int32 → Int32 → Int32 → Int32 → HS → Option HS
  | 0, _, _, _, _, _ => none
  | fu + 1, v1, v2, v3, v4, h =>
    gdi 0 30 <|
    (if (aI h 67 (0 : Int32).toNatClampNeg) ≤ v4 then
    gdi v1 512 <|
    nm (sA h 74 (upd (aI h 74) v1.toNatClampNeg v3)) fun h11 =>
    nm (v1 + 1) fun x13 =>
    k9 x13 h11
    else
    (X12_has v1 v4).bind fun q14 =>
    (if q14 = 0 then
    X12_warms_B121 k9 (X12_warms_B44 k9 fu) v1 v2 v3 v4 h
    else
    (X12_of v2 2).bind fun q16 =>
    gdi q16 30 <|
    (X12_has (aI h 67 q16.toNatClampNeg) v4).bind fun q18 =>
    (if q18 = 0 then
    X12_warms_B121 k9 (X12_warms_B44 k9 fu) v1 v2 v3 v4 h
    else
    gdi ((v1 &&& (((1 : Int32) <<< (v2 &&& 31)) ^^^ (-1))) &&& (((1 : Int32) <<< (v4 &&& 31)) ^^^ (-1))) 512 <|
    nm (1 + (aI h 74 ((v1 &&& (((1 : Int32) <<< (v2 &&& 31)) ^^^ (-1))) &&& (((1 : Int32) <<< (v4 &&& 31)) ^^^ (-1))).toNatClampNeg)) fun x21 =>
    (if x21 ≤ v3 then
    X12_warms_B120 k9 (X12_warms_B44 k9 fu) v1 v2 v4 v3 h
    else
    X12_warms_B120 k9 (X12_warms_B44 k9 fu) v1 v2 v4 x21 h))))
def X12_warms_B9  : Nat → Int32 → HS → Option HS
  | 0, _, _ => none
  | fu + 1, v1, h =>
    gdi 0 30 <|
    (if ((1 : Int32) <<< ((aI h 67 (0 : Int32).toNatClampNeg) &&& 31)) ≤ v1 then
    some h
    else
    (X12_leastIn v1).bind fun q5 =>
    gdi (v1 &&& (((1 : Int32) <<< (q5 &&& 31)) ^^^ (-1))) 512 <|
    nm (aI h 74 (v1 &&& (((1 : Int32) <<< (q5 &&& 31)) ^^^ (-1))).toNatClampNeg) fun x7 =>
    nm (q5 + 1) fun x8 =>
    X12_warms_B44 (X12_warms_B9 fu) FU v1 q5 x7 x8 h)
def X12_warms (h : HS) : Option HS :=
    gdi 0 512 <|
    nm (sA h 74 (upd (aI h 74) (0 : Int32).toNatClampNeg 0)) fun h1 =>
    X12_warms_B9 FU 1 h1
def uX12_warms : List Cond := .code yX12_warms cX12_warms 6 none :: UU
def rmX12_warms : Room := { frames := 2, cells := 0, slots := 0, locals := 42 }
theorem kdX12_warms : yX12_warms.cls = RX12 ∧ yX12_warms.cls ≠ "java/lang/invoke/MethodHandle" ∧ yX12_warms.cls ≠ "java/lang/invoke/VarHandle" ∧ (parseMethodDescriptor yX12_warms.desc).map (fun d => d.parameters.length) = some 0 := by decide +kernel
set_option maxHeartbeats 4000000 in
set_option maxRecDepth 100000 in
theorem m_X12_warms (l : Launch) (D : va_G) (a : Nat → Nat) (C : Nat → ClassId) (ha : ginj a) (h : HS)  (h' : HS) (hf : X12_warms h = some h') : gM l yX12_warms uX12_warms rmX12_warms D a C [.ref (a 66)] h none h' := by
  refine g_start (av := [.ref (a 66)]) (cc := cX12_warms) (maxL := 6) (rt := none) (by decide) rfl (Nat.le_of_ble_eq_true rfl) ?_
  intro p e s m below meth c hx hb hr hml hown hlk hts hP hK hN ls hl
  have hA : ∀ q, gA a q → gA a q := fun _ q => q
  have hS : va_S (gA a) s.heap s.heap [] := va_S.rf
  have hl : lv_has ls 6 [(0, .ref (a 66))] := hl
  have J121 : ∀ (k9 : Int32 → HS → Option HS) (hk9 : ∀ (v1 : Int32) (h : HS), k9 v1 h = some h' → gG p l e (headSpec uX12_warms rmX12_warms).room s m ([.ref (a 66)] : List Value).toArray below meth c (MQ below (gQ none D a C h') ([.ref (a 66)] : List Value).toArray s 0 0 (gA a)) D a C 6 h 9 [(0, .ref (a 66)), (1, .int v1)] []) (k44 : Int32 → Int32 → Int32 → Int32 → HS → Option HS) (hk44 : ∀ (v1 : Int32) (v2 : Int32) (v3 : Int32) (v4 : Int32) (h : HS), k44 v1 v2 v3 v4 h = some h' → gG p l e (headSpec uX12_warms rmX12_warms).room s m ([.ref (a 66)] : List Value).toArray below meth c (MQ below (gQ none D a C h') ([.ref (a 66)] : List Value).toArray s 0 0 (gA a)) D a C 6 h 44 [(0, .ref (a 66)), (1, .int v1), (2, .int v2), (3, .int v3), (4, .int v4)] []) (v1 : Int32) (v2 : Int32) (v3 : Int32) (v4 : Int32) (h : HS) (_ : X12_warms_B121 k9 k44 v1 v2 v3 v4 h = some h'), gG p l e (headSpec uX12_warms rmX12_warms).room s m ([.ref (a 66)] : List Value).toArray below meth c (MQ below (gQ none D a C h') ([.ref (a 66)] : List Value).toArray s 0 0 (gA a)) D a C 6 h 121 [(0, .ref (a 66)), (1, .int v1), (2, .int v2), (3, .int v3), (4, .int v4)] [] := by
    intro k9 hk9 k44 hk44 v1 v2 v3 v4 h hf H locs ls hP hS hl
    unfold X12_warms_B121 at hf
    obtain ⟨x23, ex23⟩ : ∃ y : Int32, y = (v4 + 1) := ⟨_, rfl⟩
    have hf := nm_s hf ex23
    refine lv_iinc (v := x23) (lv' := [(4, .int x23), (0, .ref (a 66)), (1, .int v1), (2, .int v2), (3, .int v3)]) hx hb dX12_warms_121 hl (k := 4) rfl (by rw [ex23]; rfl) (by decide) rfl (fun ls hl => ?_)
    refine lv_goto (tgt := 44) hx hb dX12_warms_124 (by decide) ?_
    exact hk44 v1 v2 v3 x23 h hf H locs ls hP hS (lv_sub hl [1, 2, 3, 4, 0] rfl)
  have J120 : ∀ (k9 : Int32 → HS → Option HS) (hk9 : ∀ (v1 : Int32) (h : HS), k9 v1 h = some h' → gG p l e (headSpec uX12_warms rmX12_warms).room s m ([.ref (a 66)] : List Value).toArray below meth c (MQ below (gQ none D a C h') ([.ref (a 66)] : List Value).toArray s 0 0 (gA a)) D a C 6 h 9 [(0, .ref (a 66)), (1, .int v1)] []) (k44 : Int32 → Int32 → Int32 → Int32 → HS → Option HS) (hk44 : ∀ (v1 : Int32) (v2 : Int32) (v3 : Int32) (v4 : Int32) (h : HS), k44 v1 v2 v3 v4 h = some h' → gG p l e (headSpec uX12_warms rmX12_warms).room s m ([.ref (a 66)] : List Value).toArray below meth c (MQ below (gQ none D a C h') ([.ref (a 66)] : List Value).toArray s 0 0 (gA a)) D a C 6 h 44 [(0, .ref (a 66)), (1, .int v1), (2, .int v2), (3, .int v3), (4, .int v4)] []) (v1 : Int32) (v2 : Int32) (v4 : Int32) (s0 : Int32) (h : HS) (_ : X12_warms_B120 k9 k44 v1 v2 v4 s0 h = some h'), gG p l e (headSpec uX12_warms rmX12_warms).room s m ([.ref (a 66)] : List Value).toArray below meth c (MQ below (gQ none D a C h') ([.ref (a 66)] : List Value).toArray s 0 0 (gA a)) D a C 6 h 120 [(0, .ref (a 66)), (1, .int v1), (2, .int v2), (4, .int v4)] [.int s0] := by
    intro k9 hk9 k44 hk44 v1 v2 v4 s0 h hf H locs ls hP hS hl
    unfold X12_warms_B120 at hf
    refine lv_istore_n (lv' := [(3, .int s0), (0, .ref (a 66)), (1, .int v1), (2, .int v2), (4, .int v4)]) hx hb dX12_warms_120 rfl hl (by decide) rfl (fun ls hl => ?_)
    exact J121 k9 hk9 k44 hk44 v1 v2 s0 v4 h hf H locs ls hP hS (lv_sub hl [1, 2, 3, 0, 4] rfl)
  have J44 : ∀ (k9 : Int32 → HS → Option HS) (hk9 : ∀ (v1 : Int32) (h : HS), k9 v1 h = some h' → gG p l e (headSpec uX12_warms rmX12_warms).room s m ([.ref (a 66)] : List Value).toArray below meth c (MQ below (gQ none D a C h') ([.ref (a 66)] : List Value).toArray s 0 0 (gA a)) D a C 6 h 9 [(0, .ref (a 66)), (1, .int v1)] []) (fu : Nat) (v1 : Int32) (v2 : Int32) (v3 : Int32) (v4 : Int32) (h : HS), X12_warms_B44 k9 fu v1 v2 v3 v4 h = some h' → gG p l e (headSpec uX12_warms rmX12_warms).room s m ([.ref (a 66)] : List Value).toArray below meth c (MQ below (gQ none D a C h') ([.ref (a 66)] : List Value).toArray s 0 0 (gA a)) D a C 6 h 44 [(0, .ref (a 66)), (1, .int v1), (2, .int v2), (3, .int v3), (4, .int v4)] [] := by
    intro k9 hk9 fu
    induction fu with
    | zero => intro v1 v2 v3 v4 h hf; exact absurd hf (by simp [X12_warms_B44])
    | succ fu ih =>
      intro v1 v2 v3 v4 h hf H locs ls hP hS hl
      rw [X12_warms_B44] at hf
      refine lv_iload hx hb dX12_warms_44 (lv_at hl 4 rfl) ?_
      refine lv_aload_n hx hb dX12_warms_46 rfl (lv_at hl 0 rfl) ?_
      refine g_get (Cn := RX12) (T := TX12) (N := 21) (v := .ref (a 67)) (own := RX12) hx hb hown hts hK M_O rfl (fun _ hw => List.mem_cons_of_mem _ (u12_cls _ hw)) 0 (by decide) (List.mem_cons_of_mem _ (u12_0 _ (List.mem_of_getElem? (i := 5) rfl))) rfl rfl hP dX12_warms_47 ?_
      refine lv_iconst (v := 0) hx hb dX12_warms_50 (by decide) ?_
      obtain ⟨c9, hf⟩ := gdi_s hf
      refine g_ial hx hb hK (⟨by decide, rfl⟩ : gAI 67 30) c9 hP dX12_warms_51 ?_
      refine lv_icmp_ge (tgt := 127) hx hb dX12_warms_52 (by decide) (fun c10 => ?_) (fun c10 => ?_)
      · have hf := if_t hf c10
        refine lv_aload_n hx hb dX12_warms_127 rfl (lv_at hl 0 rfl) ?_
        refine g_get (Cn := RX12) (T := TX12) (N := 21) (v := .ref (a 74)) (own := RX12) hx hb hown hts hK M_O rfl (fun _ hw => List.mem_cons_of_mem _ (u12_cls _ hw)) 11 (by decide) (List.mem_cons_of_mem _ (u12_0 _ (List.mem_of_getElem? (i := 13) rfl))) rfl rfl hP dX12_warms_128 ?_
        refine lv_iload_n hx hb dX12_warms_131 rfl (lv_at hl 1 rfl) ?_
        refine lv_iload_n hx hb dX12_warms_132 rfl (lv_at hl 3 rfl) ?_
        obtain ⟨c12, hf⟩ := gdi_s hf
        refine g_ias hx hb hK ha hA (⟨by decide, rfl⟩ : gAI 74 512) c12 hP hS dX12_warms_133 (fun H locs hP hS => ?_)
        obtain ⟨h11, eh11⟩ : ∃ x, x = (sA h 74 (upd (aI h 74) v1.toNatClampNeg v3)) := ⟨_, rfl⟩
        rw [← eh11] at hP
        have hf := nm_s hf eh11
        obtain ⟨x13, ex13⟩ : ∃ y : Int32, y = (v1 + 1) := ⟨_, rfl⟩
        have hf := nm_s hf ex13
        refine lv_iinc (v := x13) (lv' := [(1, .int x13), (0, .ref (a 66)), (2, .int v2), (3, .int v3), (4, .int v4)]) hx hb dX12_warms_134 hl (k := 1) rfl (by rw [ex13]; rfl) (by decide) rfl (fun ls hl => ?_)
        refine lv_goto (tgt := 9) hx hb dX12_warms_137 (by decide) ?_
        exact hk9 x13 h11 hf H locs ls hP hS (lv_sub hl [1, 0] rfl)
      · have hf := if_f hf c10
        refine lv_iload_n hx hb dX12_warms_55 rfl (lv_at hl 1 rfl) ?_
        refine lv_iload hx hb dX12_warms_56 (lv_at hl 4 rfl) ?_
        obtain ⟨q14, hq14, hf⟩ := bind_s hf
        refine g_callS (As := [.int v1, .int v4]) (rest := []) hx hb hml hown hts hK hN (m_X12_has l D a C ha h v1 v4  q14 hq14) (va_cwS 2 hts (gUS (u12_2 _ (List.mem_of_getElem? (i := 8) rfl)) (u12_2 _ (List.mem_of_getElem? (i := 9) rfl)) (u12_1 _ (List.mem_of_getElem? (i := 7) rfl)) (u12_1 _ (List.mem_of_getElem? (i := 12) rfl))) rfl rfl rfl kdX12_has.2 ⟨Nat.le_of_ble_eq_true rfl, Nat.le_of_ble_eq_true rfl⟩) hP hS hA rfl hl.1 rfl (Nat.le_of_ble_eq_true rfl) dX12_warms_58 ⟨Nat.le_refl _, Nat.le_refl _⟩ (fun H locs hP hS => ?_)
        refine W.eq (g2 := F0 m 61 ls [.int q14]) rfl ?_
        refine lv_if_eq (tgt := 121) hx hb dX12_warms_61 (by decide) (fun c15 => ?_) (fun c15 => ?_)
        · have hf := if_t hf c15
          exact J121 k9 hk9 (X12_warms_B44 k9 fu) ih v1 v2 v3 v4 h hf H locs ls hP hS (lv_sub hl [0, 1, 2, 3, 4] rfl)
        · have hf := if_f hf c15
          refine lv_aload_n hx hb dX12_warms_64 rfl (lv_at hl 0 rfl) ?_
          refine g_get (Cn := RX12) (T := TX12) (N := 21) (v := .ref (a 67)) (own := RX12) hx hb hown hts hK M_O rfl (fun _ hw => List.mem_cons_of_mem _ (u12_cls _ hw)) 0 (by decide) (List.mem_cons_of_mem _ (u12_0 _ (List.mem_of_getElem? (i := 5) rfl))) rfl rfl hP dX12_warms_65 ?_
          refine lv_iload_n hx hb dX12_warms_68 rfl (lv_at hl 2 rfl) ?_
          refine lv_iconst (v := 2) hx hb dX12_warms_69 (by decide) ?_
          obtain ⟨q16, hq16, hf⟩ := bind_s hf
          refine g_callS (As := [.int v2, .int 2]) (rest := [.ref (a 67)]) hx hb hml hown hts hK hN (m_X12_of l D a C ha h v2 2  q16 hq16) (va_cwS 2 hts (gUS (u12_1 _ (List.mem_of_getElem? (i := 15) rfl)) (u12_1 _ (List.mem_of_getElem? (i := 16) rfl)) (u12_1 _ (List.mem_of_getElem? (i := 7) rfl)) (u12_1 _ (List.mem_of_getElem? (i := 3) rfl))) rfl rfl rfl kdX12_of.2 ⟨Nat.le_of_ble_eq_true rfl, Nat.le_of_ble_eq_true rfl⟩) hP hS hA rfl hl.1 rfl (Nat.le_of_ble_eq_true rfl) dX12_warms_70 ⟨Nat.le_refl _, Nat.le_refl _⟩ (fun H locs hP hS => ?_)
          refine W.eq (g2 := F0 m 73 ls [.int q16, .ref (a 67)]) rfl ?_
          obtain ⟨c17, hf⟩ := gdi_s hf
          refine g_ial hx hb hK (⟨by decide, rfl⟩ : gAI 67 30) c17 hP dX12_warms_73 ?_
          refine lv_iload hx hb dX12_warms_74 (lv_at hl 4 rfl) ?_
          obtain ⟨q18, hq18, hf⟩ := bind_s hf
          refine g_callS (As := [.int (aI h 67 q16.toNatClampNeg), .int v4]) (rest := []) hx hb hml hown hts hK hN (m_X12_has l D a C ha h (aI h 67 q16.toNatClampNeg) v4  q18 hq18) (va_cwS 2 hts (gUS (u12_2 _ (List.mem_of_getElem? (i := 8) rfl)) (u12_2 _ (List.mem_of_getElem? (i := 9) rfl)) (u12_1 _ (List.mem_of_getElem? (i := 7) rfl)) (u12_1 _ (List.mem_of_getElem? (i := 12) rfl))) rfl rfl rfl kdX12_has.2 ⟨Nat.le_of_ble_eq_true rfl, Nat.le_of_ble_eq_true rfl⟩) hP hS hA rfl hl.1 rfl (Nat.le_of_ble_eq_true rfl) dX12_warms_76 ⟨Nat.le_refl _, Nat.le_refl _⟩ (fun H locs hP hS => ?_)
          refine W.eq (g2 := F0 m 79 ls [.int q18]) rfl ?_
          refine lv_if_ne (tgt := 85) hx hb dX12_warms_79 (by decide) (fun c19 => ?_) (fun c19 => ?_)
          · have hf := if_f hf c19
            refine lv_iconst (v := 1) hx hb dX12_warms_85 (by decide) ?_
            refine lv_aload_n hx hb dX12_warms_86 rfl (lv_at hl 0 rfl) ?_
            refine g_get (Cn := RX12) (T := TX12) (N := 21) (v := .ref (a 74)) (own := RX12) hx hb hown hts hK M_O rfl (fun _ hw => List.mem_cons_of_mem _ (u12_cls _ hw)) 11 (by decide) (List.mem_cons_of_mem _ (u12_0 _ (List.mem_of_getElem? (i := 13) rfl))) rfl rfl hP dX12_warms_87 ?_
            refine lv_iload_n hx hb dX12_warms_90 rfl (lv_at hl 1 rfl) ?_
            refine lv_iconst (v := 1) hx hb dX12_warms_91 (by decide) ?_
            refine lv_iload_n hx hb dX12_warms_92 rfl (lv_at hl 2 rfl) ?_
            refine lv_ishl hx hb dX12_warms_93 ?_
            refine lv_iconst (v := (-1)) hx hb dX12_warms_94 (by decide) ?_
            refine lv_ixor hx hb dX12_warms_95 ?_
            refine lv_iand hx hb dX12_warms_96 ?_
            refine lv_iconst (v := 1) hx hb dX12_warms_97 (by decide) ?_
            refine lv_iload hx hb dX12_warms_98 (lv_at hl 4 rfl) ?_
            refine lv_ishl hx hb dX12_warms_100 ?_
            refine lv_iconst (v := (-1)) hx hb dX12_warms_101 (by decide) ?_
            refine lv_ixor hx hb dX12_warms_102 ?_
            refine lv_iand hx hb dX12_warms_103 ?_
            obtain ⟨c20, hf⟩ := gdi_s hf
            refine g_ial hx hb hK (⟨by decide, rfl⟩ : gAI 74 512) c20 hP dX12_warms_104 ?_
            refine lv_iadd hx hb dX12_warms_105 ?_
            refine lv_topi (fun x21 ex21 => ?_)
            have hf := nm_s hf ex21
            refine lv_istore (lv' := [(5, .int x21), (0, .ref (a 66)), (1, .int v1), (2, .int v2), (3, .int v3), (4, .int v4)]) hx hb dX12_warms_106 hl (by decide) rfl (fun ls hl => ?_)
            refine lv_iload hx hb dX12_warms_108 (lv_at hl 0 rfl) ?_
            refine lv_iload_n hx hb dX12_warms_110 rfl (lv_at hl 4 rfl) ?_
            refine lv_icmp_le (tgt := 119) hx hb dX12_warms_111 (by decide) (fun c22 => ?_) (fun c22 => ?_)
            · have hf := if_t hf c22
              refine lv_iload_n hx hb dX12_warms_119 rfl (lv_at hl 4 rfl) ?_
              exact J120 k9 hk9 (X12_warms_B44 k9 fu) ih v1 v2 v4 v3 h hf H locs ls hP hS (lv_sub hl [1, 2, 3, 5] rfl)
            · have hf := if_f hf c22
              refine lv_iload hx hb dX12_warms_114 (lv_at hl 0 rfl) ?_
              refine lv_goto (tgt := 120) hx hb dX12_warms_116 (by decide) ?_
              exact J120 k9 hk9 (X12_warms_B44 k9 fu) ih v1 v2 v4 x21 h hf H locs ls hP hS (lv_sub hl [1, 2, 3, 5] rfl)
          · have hf := if_t hf c19
            refine lv_goto (tgt := 121) hx hb dX12_warms_82 (by decide) ?_
            exact J121 k9 hk9 (X12_warms_B44 k9 fu) ih v1 v2 v3 v4 h hf H locs ls hP hS (lv_sub hl [0, 1, 2, 3, 4] rfl)
  have J9 : ∀ (fu : Nat) (v1 : Int32) (h : HS), X12_warms_B9 fu v1 h = some h' → gG p l e (headSpec uX12_warms rmX12_warms).room s m ([.ref (a 66)] : List Value).toArray below meth c (MQ below (gQ none D a C h') ([.ref (a 66)] : List Value).toArray s 0 0 (gA a)) D a C 6 h 9 [(0, .ref (a 66)), (1, .int v1)] [] := by
    intro fu
    induction fu with
    | zero => intro v1 h hf; exact absurd hf (by simp [X12_warms_B9])
    | succ fu ih =>
      intro v1 h hf H locs ls hP hS hl
      rw [X12_warms_B9] at hf
      refine lv_iload_n hx hb dX12_warms_9 rfl (lv_at hl 1 rfl) ?_
      refine lv_iconst (v := 1) hx hb dX12_warms_10 (by decide) ?_
      refine lv_aload_n hx hb dX12_warms_11 rfl (lv_at hl 0 rfl) ?_
      refine g_get (Cn := RX12) (T := TX12) (N := 21) (v := .ref (a 67)) (own := RX12) hx hb hown hts hK M_O rfl (fun _ hw => List.mem_cons_of_mem _ (u12_cls _ hw)) 0 (by decide) (List.mem_cons_of_mem _ (u12_0 _ (List.mem_of_getElem? (i := 5) rfl))) rfl rfl hP dX12_warms_12 ?_
      refine lv_iconst (v := 0) hx hb dX12_warms_15 (by decide) ?_
      obtain ⟨c3, hf⟩ := gdi_s hf
      refine g_ial hx hb hK (⟨by decide, rfl⟩ : gAI 67 30) c3 hP dX12_warms_16 ?_
      refine lv_ishl hx hb dX12_warms_17 ?_
      refine lv_icmp_ge (tgt := 140) hx hb dX12_warms_18 (by decide) (fun c4 => ?_) (fun c4 => ?_)
      · have hf := if_t hf c4
        exact g_vret hx hb hr hlk hP hS (ret1 hf) dX12_warms_140
      · have hf := if_f hf c4
        refine lv_iload_n hx hb dX12_warms_21 rfl (lv_at hl 1 rfl) ?_
        obtain ⟨q5, hq5, hf⟩ := bind_s hf
        refine g_callS (As := [.int v1]) (rest := []) hx hb hml hown hts hK hN (m_X12_leastIn l D a C ha h v1  q5 hq5) (va_cwS 1 hts (gUS (u12_9 _ (List.mem_of_getElem? (i := 8) rfl)) (u12_9 _ (List.mem_of_getElem? (i := 9) rfl)) (u12_1 _ (List.mem_of_getElem? (i := 7) rfl)) (u12_9 _ (List.mem_of_getElem? (i := 6) rfl))) rfl rfl rfl kdX12_leastIn.2 ⟨Nat.le_of_ble_eq_true rfl, Nat.le_of_ble_eq_true rfl⟩) hP hS hA rfl hl.1 rfl (Nat.le_of_ble_eq_true rfl) dX12_warms_22 ⟨Nat.le_refl _, Nat.le_refl _⟩ (fun H locs hP hS => ?_)
        refine W.eq (g2 := F0 m 25 ls [.int q5]) rfl ?_
        refine lv_istore_n (lv' := [(2, .int q5), (0, .ref (a 66)), (1, .int v1)]) hx hb dX12_warms_25 rfl hl (by decide) rfl (fun ls hl => ?_)
        refine lv_aload_n hx hb dX12_warms_26 rfl (lv_at hl 1 rfl) ?_
        refine g_get (Cn := RX12) (T := TX12) (N := 21) (v := .ref (a 74)) (own := RX12) hx hb hown hts hK M_O rfl (fun _ hw => List.mem_cons_of_mem _ (u12_cls _ hw)) 11 (by decide) (List.mem_cons_of_mem _ (u12_0 _ (List.mem_of_getElem? (i := 13) rfl))) rfl rfl hP dX12_warms_27 ?_
        refine lv_iload_n hx hb dX12_warms_30 rfl (lv_at hl 2 rfl) ?_
        refine lv_iconst (v := 1) hx hb dX12_warms_31 (by decide) ?_
        refine lv_iload_n hx hb dX12_warms_32 rfl (lv_at hl 0 rfl) ?_
        refine lv_ishl hx hb dX12_warms_33 ?_
        refine lv_iconst (v := (-1)) hx hb dX12_warms_34 (by decide) ?_
        refine lv_ixor hx hb dX12_warms_35 ?_
        refine lv_iand hx hb dX12_warms_36 ?_
        obtain ⟨c6, hf⟩ := gdi_s hf
        refine g_ial hx hb hK (⟨by decide, rfl⟩ : gAI 74 512) c6 hP dX12_warms_37 ?_
        refine lv_topi (fun x7 ex7 => ?_)
        have hf := nm_s hf ex7
        refine lv_istore_n (lv' := [(3, .int x7), (2, .int q5), (0, .ref (a 66)), (1, .int v1)]) hx hb dX12_warms_38 rfl hl (by decide) rfl (fun ls hl => ?_)
        refine lv_iload_n hx hb dX12_warms_39 rfl (lv_at hl 1 rfl) ?_
        refine lv_iconst (v := 1) hx hb dX12_warms_40 (by decide) ?_
        refine lv_iadd hx hb dX12_warms_41 ?_
        refine lv_topi (fun x8 ex8 => ?_)
        have hf := nm_s hf ex8
        refine lv_istore (lv' := [(4, .int x8), (3, .int x7), (2, .int q5), (0, .ref (a 66)), (1, .int v1)]) hx hb dX12_warms_42 hl (by decide) rfl (fun ls hl => ?_)
        exact J44 (X12_warms_B9 fu) ih FU v1 q5 x7 x8 h hf H locs ls hP hS (lv_sub hl [3, 4, 2, 1, 0] rfl)
  unfold X12_warms at hf
  suffices hh : ∀ (H : Heap) (locs : List Loc), va_P D vwCl (gw a C h) H → va_S (gA a) s.heap H locs → W p l e (headSpec uX12_warms rmX12_warms).room s m ([.ref (a 66)] : List Value).toArray below meth c H locs 0 0 (MQ below (gQ none D a C h') ([.ref (a 66)] : List Value).toArray s 0 0 (gA a)) (F0 m 0 ls []) from hh _ _ hP hS
  intro H locs hP hS
  refine lv_aload_n hx hb dX12_warms_0 rfl (lv_at hl 0 rfl) ?_
  refine g_get (Cn := RX12) (T := TX12) (N := 21) (v := .ref (a 74)) (own := RX12) hx hb hown hts hK M_O rfl (fun _ hw => List.mem_cons_of_mem _ (u12_cls _ hw)) 11 (by decide) (List.mem_cons_of_mem _ (u12_0 _ (List.mem_of_getElem? (i := 13) rfl))) rfl rfl hP dX12_warms_1 ?_
  refine lv_iconst (v := 0) hx hb dX12_warms_4 (by decide) ?_
  refine lv_iconst (v := 0) hx hb dX12_warms_5 (by decide) ?_
  obtain ⟨c2, hf⟩ := gdi_s hf
  refine g_ias hx hb hK ha hA (⟨by decide, rfl⟩ : gAI 74 512) c2 hP hS dX12_warms_6 (fun H locs hP hS => ?_)
  obtain ⟨h1, eh1⟩ : ∃ x, x = (sA h 74 (upd (aI h 74) (0 : Int32).toNatClampNeg 0)) := ⟨_, rfl⟩
  rw [← eh1] at hP
  have hf := nm_s hf eh1
  refine lv_iconst (v := 1) hx hb dX12_warms_7 (by decide) ?_
  refine lv_istore_n (lv' := [(1, .int 1), (0, .ref (a 66))]) hx hb dX12_warms_8 rfl hl (by decide) rfl (fun ls hl => ?_)
  exact J9 FU 1 h1 hf H locs ls hP hS (lv_sub hl [1, 0] rfl)

def X12_beside_B75 (h : HS) (v1 : Int32) (k9 : Int32 → Int32 → Option Int32) (v2 : Int32) (v3 : Int32) : Option Int32 :=
    nm (v3 + 1) fun x14 =>
    k9 v2 x14
def X12_beside_B9 (h : HS) (v1 : Int32) : Nat → Int32 → Int32 → Option Int32
  | 0, _, _ => none
  | fu + 1, v2, v3 =>
    gdi 0 30 <|
    (if (aI h 67 (0 : Int32).toNatClampNeg) ≤ v3 then
    some (-4)
    else
    (X12_has v1 v3).bind fun q5 =>
    (if q5 = 0 then
    X12_beside_B75 h v1 (X12_beside_B9 h v1 fu) v2 v3
    else
    (X12_of v2 2).bind fun q7 =>
    gdi q7 30 <|
    (X12_has (aI h 67 q7.toNatClampNeg) v3).bind fun q9 =>
    (if q9 = 0 then
    X12_beside_B75 h v1 (X12_beside_B9 h v1 fu) v2 v3
    else
    gdi ((v1 &&& (((1 : Int32) <<< (v2 &&& 31)) ^^^ (-1))) &&& (((1 : Int32) <<< (v3 &&& 31)) ^^^ (-1))) 512 <|
    gdi v1 512 <|
    (if (1 + (aI h 74 ((v1 &&& (((1 : Int32) <<< (v2 &&& 31)) ^^^ (-1))) &&& (((1 : Int32) <<< (v3 &&& 31)) ^^^ (-1))).toNatClampNeg)) = (aI h 74 v1.toNatClampNeg) then
    some v3
    else
    X12_beside_B75 h v1 (X12_beside_B9 h v1 fu) v2 v3))))
def X12_beside (h : HS) (v1 : Int32) : Option Int32 :=
    (X12_leastIn v1).bind fun q1 =>
    nm (q1 + 1) fun x2 =>
    X12_beside_B9 h v1 FU q1 x2
def uX12_beside : List Cond := .code yX12_beside cX12_beside 4 (some .int) :: UU
def rmX12_beside : Room := { frames := 2, cells := 0, slots := 0, locals := 42 }
theorem kdX12_beside : yX12_beside.cls = RX12 ∧ yX12_beside.cls ≠ "java/lang/invoke/MethodHandle" ∧ yX12_beside.cls ≠ "java/lang/invoke/VarHandle" ∧ (parseMethodDescriptor yX12_beside.desc).map (fun d => d.parameters.length) = some 1 := by decide +kernel
set_option maxHeartbeats 4000000 in
set_option maxRecDepth 100000 in
theorem m_X12_beside (l : Launch) (D : va_G) (a : Nat → Nat) (C : Nat → ClassId) (ha : ginj a) (h : HS) (v1 : Int32)  (r : Int32) (hf : X12_beside h v1 = some r) : gM l yX12_beside uX12_beside rmX12_beside D a C [.ref (a 66), .int v1] h (some (.int r)) h := by
  refine g_start (av := [.ref (a 66), .int v1]) (cc := cX12_beside) (maxL := 4) (rt := (some .int)) (by decide) rfl (Nat.le_of_ble_eq_true rfl) ?_
  intro p e s m below meth c hx hb hr hml hown hlk hts hP hK hN ls hl
  have hA : ∀ q, gA a q → gA a q := fun _ q => q
  have hS : va_S (gA a) s.heap s.heap [] := va_S.rf
  have hl : lv_has ls 4 [(0, .ref (a 66)), (1, .int v1)] := hl
  have J75 : ∀ (k9 : Int32 → Int32 → Option Int32) (hk9 : ∀ (v2 : Int32) (v3 : Int32), k9 v2 v3 = some r → gG p l e (headSpec uX12_beside rmX12_beside).room s m ([.ref (a 66), .int v1] : List Value).toArray below meth c (MQ below (gQ (some (.int r)) D a C h) ([.ref (a 66), .int v1] : List Value).toArray s 0 0 (gA a)) D a C 4 h 9 [(0, .ref (a 66)), (1, .int v1), (2, .int v2), (3, .int v3)] []) (v2 : Int32) (v3 : Int32) (_ : X12_beside_B75 h v1 k9 v2 v3 = some r), gG p l e (headSpec uX12_beside rmX12_beside).room s m ([.ref (a 66), .int v1] : List Value).toArray below meth c (MQ below (gQ (some (.int r)) D a C h) ([.ref (a 66), .int v1] : List Value).toArray s 0 0 (gA a)) D a C 4 h 75 [(0, .ref (a 66)), (1, .int v1), (2, .int v2), (3, .int v3)] [] := by
    intro k9 hk9 v2 v3 hf H locs ls hP hS hl
    unfold X12_beside_B75 at hf
    obtain ⟨x14, ex14⟩ : ∃ y : Int32, y = (v3 + 1) := ⟨_, rfl⟩
    have hf := nm_s hf ex14
    refine lv_iinc (v := x14) (lv' := [(3, .int x14), (0, .ref (a 66)), (1, .int v1), (2, .int v2)]) hx hb dX12_beside_75 hl (k := 3) rfl (by rw [ex14]; rfl) (by decide) rfl (fun ls hl => ?_)
    refine lv_goto (tgt := 9) hx hb dX12_beside_78 (by decide) ?_
    exact hk9 v2 x14 hf H locs ls hP hS (lv_sub hl [1, 2, 3, 0] rfl)
  have J9 : ∀ (fu : Nat) (v2 : Int32) (v3 : Int32), X12_beside_B9 h v1 fu v2 v3 = some r → gG p l e (headSpec uX12_beside rmX12_beside).room s m ([.ref (a 66), .int v1] : List Value).toArray below meth c (MQ below (gQ (some (.int r)) D a C h) ([.ref (a 66), .int v1] : List Value).toArray s 0 0 (gA a)) D a C 4 h 9 [(0, .ref (a 66)), (1, .int v1), (2, .int v2), (3, .int v3)] [] := by
    intro fu
    induction fu with
    | zero => intro v2 v3 hf; exact absurd hf (by simp [X12_beside_B9])
    | succ fu ih =>
      intro v2 v3 hf H locs ls hP hS hl
      rw [X12_beside_B9] at hf
      refine lv_iload_n hx hb dX12_beside_9 rfl (lv_at hl 3 rfl) ?_
      refine lv_aload_n hx hb dX12_beside_10 rfl (lv_at hl 0 rfl) ?_
      refine g_get (Cn := RX12) (T := TX12) (N := 21) (v := .ref (a 67)) (own := RX12) hx hb hown hts hK M_O rfl (fun _ hw => List.mem_cons_of_mem _ (u12_cls _ hw)) 0 (by decide) (List.mem_cons_of_mem _ (u12_0 _ (List.mem_of_getElem? (i := 5) rfl))) rfl rfl hP dX12_beside_11 ?_
      refine lv_iconst (v := 0) hx hb dX12_beside_14 (by decide) ?_
      obtain ⟨c3, hf⟩ := gdi_s hf
      refine g_ial hx hb hK (⟨by decide, rfl⟩ : gAI 67 30) c3 hP dX12_beside_15 ?_
      refine lv_icmp_ge (tgt := 81) hx hb dX12_beside_16 (by decide) (fun c4 => ?_) (fun c4 => ?_)
      · have hf := if_t hf c4
        refine lv_bipush (v := (-4)) hx hb dX12_beside_81 (by decide) ?_
        exact g_iret hx hb hr hlk hP hS (ret1 hf) dX12_beside_83
      · have hf := if_f hf c4
        refine lv_iload_n hx hb dX12_beside_19 rfl (lv_at hl 1 rfl) ?_
        refine lv_iload_n hx hb dX12_beside_20 rfl (lv_at hl 3 rfl) ?_
        obtain ⟨q5, hq5, hf⟩ := bind_s hf
        refine g_callS (As := [.int v1, .int v3]) (rest := []) hx hb hml hown hts hK hN (m_X12_has l D a C ha h v1 v3  q5 hq5) (va_cwS 2 hts (gUS (u12_2 _ (List.mem_of_getElem? (i := 8) rfl)) (u12_2 _ (List.mem_of_getElem? (i := 9) rfl)) (u12_1 _ (List.mem_of_getElem? (i := 7) rfl)) (u12_1 _ (List.mem_of_getElem? (i := 12) rfl))) rfl rfl rfl kdX12_has.2 ⟨Nat.le_of_ble_eq_true rfl, Nat.le_of_ble_eq_true rfl⟩) hP hS hA rfl hl.1 rfl (Nat.le_of_ble_eq_true rfl) dX12_beside_21 ⟨Nat.le_refl _, Nat.le_refl _⟩ (fun H locs hP hS => ?_)
        refine W.eq (g2 := F0 m 24 ls [.int q5]) rfl ?_
        refine lv_if_eq (tgt := 75) hx hb dX12_beside_24 (by decide) (fun c6 => ?_) (fun c6 => ?_)
        · have hf := if_t hf c6
          exact J75 (X12_beside_B9 h v1 fu) ih v2 v3 hf H locs ls hP hS (lv_sub hl [0, 1, 2, 3] rfl)
        · have hf := if_f hf c6
          refine lv_aload_n hx hb dX12_beside_27 rfl (lv_at hl 0 rfl) ?_
          refine g_get (Cn := RX12) (T := TX12) (N := 21) (v := .ref (a 67)) (own := RX12) hx hb hown hts hK M_O rfl (fun _ hw => List.mem_cons_of_mem _ (u12_cls _ hw)) 0 (by decide) (List.mem_cons_of_mem _ (u12_0 _ (List.mem_of_getElem? (i := 5) rfl))) rfl rfl hP dX12_beside_28 ?_
          refine lv_iload_n hx hb dX12_beside_31 rfl (lv_at hl 2 rfl) ?_
          refine lv_iconst (v := 2) hx hb dX12_beside_32 (by decide) ?_
          obtain ⟨q7, hq7, hf⟩ := bind_s hf
          refine g_callS (As := [.int v2, .int 2]) (rest := [.ref (a 67)]) hx hb hml hown hts hK hN (m_X12_of l D a C ha h v2 2  q7 hq7) (va_cwS 2 hts (gUS (u12_1 _ (List.mem_of_getElem? (i := 15) rfl)) (u12_1 _ (List.mem_of_getElem? (i := 16) rfl)) (u12_1 _ (List.mem_of_getElem? (i := 7) rfl)) (u12_1 _ (List.mem_of_getElem? (i := 3) rfl))) rfl rfl rfl kdX12_of.2 ⟨Nat.le_of_ble_eq_true rfl, Nat.le_of_ble_eq_true rfl⟩) hP hS hA rfl hl.1 rfl (Nat.le_of_ble_eq_true rfl) dX12_beside_33 ⟨Nat.le_refl _, Nat.le_refl _⟩ (fun H locs hP hS => ?_)
          refine W.eq (g2 := F0 m 36 ls [.int q7, .ref (a 67)]) rfl ?_
          obtain ⟨c8, hf⟩ := gdi_s hf
          refine g_ial hx hb hK (⟨by decide, rfl⟩ : gAI 67 30) c8 hP dX12_beside_36 ?_
          refine lv_iload_n hx hb dX12_beside_37 rfl (lv_at hl 3 rfl) ?_
          obtain ⟨q9, hq9, hf⟩ := bind_s hf
          refine g_callS (As := [.int (aI h 67 q7.toNatClampNeg), .int v3]) (rest := []) hx hb hml hown hts hK hN (m_X12_has l D a C ha h (aI h 67 q7.toNatClampNeg) v3  q9 hq9) (va_cwS 2 hts (gUS (u12_2 _ (List.mem_of_getElem? (i := 8) rfl)) (u12_2 _ (List.mem_of_getElem? (i := 9) rfl)) (u12_1 _ (List.mem_of_getElem? (i := 7) rfl)) (u12_1 _ (List.mem_of_getElem? (i := 12) rfl))) rfl rfl rfl kdX12_has.2 ⟨Nat.le_of_ble_eq_true rfl, Nat.le_of_ble_eq_true rfl⟩) hP hS hA rfl hl.1 rfl (Nat.le_of_ble_eq_true rfl) dX12_beside_38 ⟨Nat.le_refl _, Nat.le_refl _⟩ (fun H locs hP hS => ?_)
          refine W.eq (g2 := F0 m 41 ls [.int q9]) rfl ?_
          refine lv_if_eq (tgt := 75) hx hb dX12_beside_41 (by decide) (fun c10 => ?_) (fun c10 => ?_)
          · have hf := if_t hf c10
            exact J75 (X12_beside_B9 h v1 fu) ih v2 v3 hf H locs ls hP hS (lv_sub hl [0, 1, 2, 3] rfl)
          · have hf := if_f hf c10
            refine lv_iconst (v := 1) hx hb dX12_beside_44 (by decide) ?_
            refine lv_aload_n hx hb dX12_beside_45 rfl (lv_at hl 0 rfl) ?_
            refine g_get (Cn := RX12) (T := TX12) (N := 21) (v := .ref (a 74)) (own := RX12) hx hb hown hts hK M_O rfl (fun _ hw => List.mem_cons_of_mem _ (u12_cls _ hw)) 11 (by decide) (List.mem_cons_of_mem _ (u12_0 _ (List.mem_of_getElem? (i := 13) rfl))) rfl rfl hP dX12_beside_46 ?_
            refine lv_iload_n hx hb dX12_beside_49 rfl (lv_at hl 1 rfl) ?_
            refine lv_iconst (v := 1) hx hb dX12_beside_50 (by decide) ?_
            refine lv_iload_n hx hb dX12_beside_51 rfl (lv_at hl 2 rfl) ?_
            refine lv_ishl hx hb dX12_beside_52 ?_
            refine lv_iconst (v := (-1)) hx hb dX12_beside_53 (by decide) ?_
            refine lv_ixor hx hb dX12_beside_54 ?_
            refine lv_iand hx hb dX12_beside_55 ?_
            refine lv_iconst (v := 1) hx hb dX12_beside_56 (by decide) ?_
            refine lv_iload_n hx hb dX12_beside_57 rfl (lv_at hl 3 rfl) ?_
            refine lv_ishl hx hb dX12_beside_58 ?_
            refine lv_iconst (v := (-1)) hx hb dX12_beside_59 (by decide) ?_
            refine lv_ixor hx hb dX12_beside_60 ?_
            refine lv_iand hx hb dX12_beside_61 ?_
            obtain ⟨c11, hf⟩ := gdi_s hf
            refine g_ial hx hb hK (⟨by decide, rfl⟩ : gAI 74 512) c11 hP dX12_beside_62 ?_
            refine lv_iadd hx hb dX12_beside_63 ?_
            refine lv_aload_n hx hb dX12_beside_64 rfl (lv_at hl 0 rfl) ?_
            refine g_get (Cn := RX12) (T := TX12) (N := 21) (v := .ref (a 74)) (own := RX12) hx hb hown hts hK M_O rfl (fun _ hw => List.mem_cons_of_mem _ (u12_cls _ hw)) 11 (by decide) (List.mem_cons_of_mem _ (u12_0 _ (List.mem_of_getElem? (i := 13) rfl))) rfl rfl hP dX12_beside_65 ?_
            refine lv_iload_n hx hb dX12_beside_68 rfl (lv_at hl 1 rfl) ?_
            obtain ⟨c12, hf⟩ := gdi_s hf
            refine g_ial hx hb hK (⟨by decide, rfl⟩ : gAI 74 512) c12 hP dX12_beside_69 ?_
            refine lv_icmp_ne (tgt := 75) hx hb dX12_beside_70 (by decide) (fun c13 => ?_) (fun c13 => ?_)
            · have hf := if_f hf c13
              exact J75 (X12_beside_B9 h v1 fu) ih v2 v3 hf H locs ls hP hS (lv_sub hl [0, 1, 2, 3] rfl)
            · have hf := if_t hf c13
              refine lv_iload_n hx hb dX12_beside_73 rfl (lv_at hl 3 rfl) ?_
              exact g_iret hx hb hr hlk hP hS (ret1 hf) dX12_beside_74
  unfold X12_beside at hf
  suffices hh : ∀ (H : Heap) (locs : List Loc), va_P D vwCl (gw a C h) H → va_S (gA a) s.heap H locs → W p l e (headSpec uX12_beside rmX12_beside).room s m ([.ref (a 66), .int v1] : List Value).toArray below meth c H locs 0 0 (MQ below (gQ (some (.int r)) D a C h) ([.ref (a 66), .int v1] : List Value).toArray s 0 0 (gA a)) (F0 m 0 ls []) from hh _ _ hP hS
  intro H locs hP hS
  refine lv_iload_n hx hb dX12_beside_0 rfl (lv_at hl 1 rfl) ?_
  obtain ⟨q1, hq1, hf⟩ := bind_s hf
  refine g_callS (As := [.int v1]) (rest := []) hx hb hml hown hts hK hN (m_X12_leastIn l D a C ha h v1  q1 hq1) (va_cwS 1 hts (gUS (u12_9 _ (List.mem_of_getElem? (i := 8) rfl)) (u12_9 _ (List.mem_of_getElem? (i := 9) rfl)) (u12_1 _ (List.mem_of_getElem? (i := 7) rfl)) (u12_9 _ (List.mem_of_getElem? (i := 6) rfl))) rfl rfl rfl kdX12_leastIn.2 ⟨Nat.le_of_ble_eq_true rfl, Nat.le_of_ble_eq_true rfl⟩) hP hS hA rfl hl.1 rfl (Nat.le_of_ble_eq_true rfl) dX12_beside_1 ⟨Nat.le_refl _, Nat.le_refl _⟩ (fun H locs hP hS => ?_)
  refine W.eq (g2 := F0 m 4 ls [.int q1]) rfl ?_
  refine lv_istore_n (lv' := [(2, .int q1), (0, .ref (a 66)), (1, .int v1)]) hx hb dX12_beside_4 rfl hl (by decide) rfl (fun ls hl => ?_)
  refine lv_iload_n hx hb dX12_beside_5 rfl (lv_at hl 0 rfl) ?_
  refine lv_iconst (v := 1) hx hb dX12_beside_6 (by decide) ?_
  refine lv_iadd hx hb dX12_beside_7 ?_
  refine lv_topi (fun x2 ex2 => ?_)
  have hf := nm_s hf ex2
  refine lv_istore_n (lv' := [(3, .int x2), (2, .int q1), (0, .ref (a 66)), (1, .int v1)]) hx hb dX12_beside_8 rfl hl (by decide) rfl (fun ls hl => ?_)
  exact J9 FU q1 x2 hf H locs ls hP hS (lv_sub hl [2, 3, 1, 0] rfl)

def X12_fire_B97 (v1 : Int32) (k41 : Int32 → HS → Option (Int32 × HS)) (s0 : Int32) (s1 : Int32) (h : HS) : Option (Int32 × HS) :=
    nm (s1 &&& s0) fun x15 =>
    k41 x15 h
def X12_fire_B41 (v1 : Int32) : Nat → Int32 → HS → Option (Int32 × HS)
  | 0, _, _ => none
  | fu + 1, v2, h =>
    (if v2 = 0 then
    some ((-4), h)
    else
    (X12_leastIn v2).bind fun q10 =>
    (X12_beside h v2).bind fun q11 =>
    (if q10 = v1 then
    some (q11, h)
    else
    (if q11 = v1 then
    some (q10, h)
    else
    (if 0 ≤ q11 then
    X12_fire_B97 v1 (X12_fire_B41 v1 fu) ((((1 : Int32) <<< (q10 &&& 31)) ||| ((1 : Int32) <<< (q11 &&& 31))) ^^^ (-1)) v2 h
    else
    X12_fire_B97 v1 (X12_fire_B41 v1 fu) (((1 : Int32) <<< (q10 &&& 31)) ^^^ (-1)) v2 h))))
def X12_fire_B15 (v1 : Int32) (h : HS) : Option (Int32 × HS) :=
    (X12_warms h).bind fun q4 =>
    gdi 0 30 <|
    nm (((1 : Int32) <<< ((aI q4 67 (0 : Int32).toNatClampNeg) &&& 31)) - 1) fun x6 =>
    (if 0 ≤ v1 then
    X12_fire_B41 v1 FU x6 q4
    else
    gdi x6 512 <|
    some ((aI q4 74 x6.toNatClampNeg), q4))
def X12_fire (h : HS) (v1 : Int32) : Option (Int32 × HS) :=
    (if v1 = (-1) then
    X12_fire_B15 v1 h
    else
    (X12_isOne h v1).bind fun q2 =>
    (if q2 = 0 then
    some ((-1), h)
    else
    X12_fire_B15 v1 h))
def uX12_fire : List Cond := .code yX12_fire cX12_fire 5 (some .int) :: UU
def rmX12_fire : Room := { frames := 3, cells := 0, slots := 0, locals := 67 }
theorem kdX12_fire : yX12_fire.cls = RX12 ∧ yX12_fire.cls ≠ "java/lang/invoke/MethodHandle" ∧ yX12_fire.cls ≠ "java/lang/invoke/VarHandle" ∧ (parseMethodDescriptor yX12_fire.desc).map (fun d => d.parameters.length) = some 1 := by decide +kernel
set_option maxHeartbeats 4000000 in
set_option maxRecDepth 100000 in
theorem m_X12_fire (l : Launch) (D : va_G) (a : Nat → Nat) (C : Nat → ClassId) (ha : ginj a) (h : HS) (v1 : Int32)  (r : Int32) (h' : HS) (hf : X12_fire h v1 = some (r, h')) : gM l yX12_fire uX12_fire rmX12_fire D a C [.ref (a 66), .int v1] h (some (.int r)) h' := by
  refine g_start (av := [.ref (a 66), .int v1]) (cc := cX12_fire) (maxL := 5) (rt := (some .int)) (by decide) rfl (Nat.le_of_ble_eq_true rfl) ?_
  intro p e s m below meth c hx hb hr hml hown hlk hts hP hK hN ls hl
  have hA : ∀ q, gA a q → gA a q := fun _ q => q
  have hS : va_S (gA a) s.heap s.heap [] := va_S.rf
  have hl : lv_has ls 5 [(0, .ref (a 66)), (1, .int v1)] := hl
  have J97 : ∀ (k41 : Int32 → HS → Option (Int32 × HS)) (hk41 : ∀ (v2 : Int32) (h : HS), k41 v2 h = some (r, h') → gG p l e (headSpec uX12_fire rmX12_fire).room s m ([.ref (a 66), .int v1] : List Value).toArray below meth c (MQ below (gQ (some (.int r)) D a C h') ([.ref (a 66), .int v1] : List Value).toArray s 0 0 (gA a)) D a C 5 h 41 [(0, .ref (a 66)), (1, .int v1), (2, .int v2)] []) (s0 : Int32) (s1 : Int32) (h : HS) (_ : X12_fire_B97 v1 k41 s0 s1 h = some (r, h')), gG p l e (headSpec uX12_fire rmX12_fire).room s m ([.ref (a 66), .int v1] : List Value).toArray below meth c (MQ below (gQ (some (.int r)) D a C h') ([.ref (a 66), .int v1] : List Value).toArray s 0 0 (gA a)) D a C 5 h 97 [(0, .ref (a 66)), (1, .int v1)] [.int s0, .int s1] := by
    intro k41 hk41 s0 s1 h hf H locs ls hP hS hl
    unfold X12_fire_B97 at hf
    refine lv_iand hx hb dX12_fire_97 ?_
    refine lv_topi (fun x15 ex15 => ?_)
    have hf := nm_s hf ex15
    refine lv_istore_n (lv' := [(2, .int x15), (0, .ref (a 66)), (1, .int v1)]) hx hb dX12_fire_98 rfl hl (by decide) rfl (fun ls hl => ?_)
    refine lv_goto (tgt := 41) hx hb dX12_fire_99 (by decide) ?_
    exact hk41 x15 h hf H locs ls hP hS (lv_sub hl [1, 2, 0] rfl)
  have J41 : ∀ (fu : Nat) (v2 : Int32) (h : HS), X12_fire_B41 v1 fu v2 h = some (r, h') → gG p l e (headSpec uX12_fire rmX12_fire).room s m ([.ref (a 66), .int v1] : List Value).toArray below meth c (MQ below (gQ (some (.int r)) D a C h') ([.ref (a 66), .int v1] : List Value).toArray s 0 0 (gA a)) D a C 5 h 41 [(0, .ref (a 66)), (1, .int v1), (2, .int v2)] [] := by
    intro fu
    induction fu with
    | zero => intro v2 h hf; exact absurd hf (by simp [X12_fire_B41])
    | succ fu ih =>
      intro v2 h hf H locs ls hP hS hl
      rw [X12_fire_B41] at hf
      refine lv_iload_n hx hb dX12_fire_41 rfl (lv_at hl 2 rfl) ?_
      refine lv_if_eq (tgt := 102) hx hb dX12_fire_42 (by decide) (fun c9 => ?_) (fun c9 => ?_)
      · have hf := if_t hf c9
        refine lv_bipush (v := (-4)) hx hb dX12_fire_102 (by decide) ?_
        exact g_iretW hx hb hr hlk hP hS (ret2 hf) dX12_fire_104
      · have hf := if_f hf c9
        refine lv_iload_n hx hb dX12_fire_45 rfl (lv_at hl 2 rfl) ?_
        obtain ⟨q10, hq10, hf⟩ := bind_s hf
        refine g_callS (As := [.int v2]) (rest := []) hx hb hml hown hts hK hN (m_X12_leastIn l D a C ha h v2  q10 hq10) (va_cwS 1 hts (gUS (u12_9 _ (List.mem_of_getElem? (i := 8) rfl)) (u12_9 _ (List.mem_of_getElem? (i := 9) rfl)) (u12_1 _ (List.mem_of_getElem? (i := 7) rfl)) (u12_9 _ (List.mem_of_getElem? (i := 6) rfl))) rfl rfl rfl kdX12_leastIn.2 ⟨Nat.le_of_ble_eq_true rfl, Nat.le_of_ble_eq_true rfl⟩) hP hS hA rfl hl.1 rfl (Nat.le_of_ble_eq_true rfl) dX12_fire_46 ⟨Nat.le_refl _, Nat.le_refl _⟩ (fun H locs hP hS => ?_)
        refine W.eq (g2 := F0 m 49 ls [.int q10]) rfl ?_
        refine lv_istore_n (lv' := [(3, .int q10), (0, .ref (a 66)), (1, .int v1), (2, .int v2)]) hx hb dX12_fire_49 rfl hl (by decide) rfl (fun ls hl => ?_)
        refine lv_aload_n hx hb dX12_fire_50 rfl (lv_at hl 1 rfl) ?_
        refine lv_iload_n hx hb dX12_fire_51 rfl (lv_at hl 3 rfl) ?_
        obtain ⟨q11, hq11, hf⟩ := bind_s hf
        refine g_callV (As := [.int v2]) (rest := []) hx hb hml hown hts hK hN (m_X12_beside l D a C ha h v2  q11 hq11) (cwV 1 hts (gUV (u12_9 _ (List.mem_of_getElem? (i := 14) rfl)) (u12_9 _ (List.mem_of_getElem? (i := 15) rfl)) (u12_9 _ (List.mem_of_getElem? (i := 16) rfl)) (u12_1 _ (List.mem_of_getElem? (i := 7) rfl)) (u12_9 _ (List.mem_of_getElem? (i := 10) rfl))) rfl rfl rfl kdX12_beside ⟨Nat.le_of_ble_eq_true rfl, Nat.le_of_ble_eq_true rfl⟩) M_O rfl rfl hP hS hA rfl hl.1 rfl (Nat.le_of_ble_eq_true rfl) dX12_fire_52 ⟨Nat.le_refl _, Nat.le_refl _⟩ (fun H locs hP hS => ?_)
        refine W.eq (g2 := F0 m 55 ls [.int q11]) rfl ?_
        refine lv_istore (lv' := [(4, .int q11), (3, .int q10), (0, .ref (a 66)), (1, .int v1), (2, .int v2)]) hx hb dX12_fire_55 hl (by decide) rfl (fun ls hl => ?_)
        refine lv_iload_n hx hb dX12_fire_57 rfl (lv_at hl 1 rfl) ?_
        refine lv_iload_n hx hb dX12_fire_58 rfl (lv_at hl 3 rfl) ?_
        refine lv_icmp_ne (tgt := 65) hx hb dX12_fire_59 (by decide) (fun c12 => ?_) (fun c12 => ?_)
        · have hf := if_f hf c12
          refine lv_iload hx hb dX12_fire_65 (lv_at hl 0 rfl) ?_
          refine lv_iload_n hx hb dX12_fire_67 rfl (lv_at hl 3 rfl) ?_
          refine lv_icmp_ne (tgt := 73) hx hb dX12_fire_68 (by decide) (fun c13 => ?_) (fun c13 => ?_)
          · have hf := if_f hf c13
            refine lv_iload_n hx hb dX12_fire_73 rfl (lv_at hl 4 rfl) ?_
            refine lv_iload hx hb dX12_fire_74 (lv_at hl 0 rfl) ?_
            refine lv_if_ge (tgt := 87) hx hb dX12_fire_76 (by decide) (fun c14 => ?_) (fun c14 => ?_)
            · have hf := if_t hf c14
              refine lv_iconst (v := 1) hx hb dX12_fire_87 (by decide) ?_
              refine lv_iload_n hx hb dX12_fire_88 rfl (lv_at hl 1 rfl) ?_
              refine lv_ishl hx hb dX12_fire_89 ?_
              refine lv_iconst (v := 1) hx hb dX12_fire_90 (by decide) ?_
              refine lv_iload hx hb dX12_fire_91 (lv_at hl 0 rfl) ?_
              refine lv_ishl hx hb dX12_fire_93 ?_
              refine lv_ior hx hb dX12_fire_94 ?_
              refine lv_iconst (v := (-1)) hx hb dX12_fire_95 (by decide) ?_
              refine lv_ixor hx hb dX12_fire_96 ?_
              exact J97 (X12_fire_B41 v1 fu) ih ((((1 : Int32) <<< (q10 &&& 31)) ||| ((1 : Int32) <<< (q11 &&& 31))) ^^^ (-1)) v2 h hf H locs ls hP hS (lv_sub hl [2, 3] rfl)
            · have hf := if_f hf c14
              refine lv_iconst (v := 1) hx hb dX12_fire_79 (by decide) ?_
              refine lv_iload_n hx hb dX12_fire_80 rfl (lv_at hl 1 rfl) ?_
              refine lv_ishl hx hb dX12_fire_81 ?_
              refine lv_iconst (v := (-1)) hx hb dX12_fire_82 (by decide) ?_
              refine lv_ixor hx hb dX12_fire_83 ?_
              refine lv_goto (tgt := 97) hx hb dX12_fire_84 (by decide) ?_
              exact J97 (X12_fire_B41 v1 fu) ih (((1 : Int32) <<< (q10 &&& 31)) ^^^ (-1)) v2 h hf H locs ls hP hS (lv_sub hl [2, 3] rfl)
          · have hf := if_t hf c13
            refine lv_iload_n hx hb dX12_fire_71 rfl (lv_at hl 1 rfl) ?_
            exact g_iretW hx hb hr hlk hP hS (ret2 hf) dX12_fire_72
        · have hf := if_t hf c12
          refine lv_iload hx hb dX12_fire_62 (lv_at hl 0 rfl) ?_
          exact g_iretW hx hb hr hlk hP hS (ret2 hf) dX12_fire_64
  have J15 : ∀ (h : HS) (_ : X12_fire_B15 v1 h = some (r, h')), gG p l e (headSpec uX12_fire rmX12_fire).room s m ([.ref (a 66), .int v1] : List Value).toArray below meth c (MQ below (gQ (some (.int r)) D a C h') ([.ref (a 66), .int v1] : List Value).toArray s 0 0 (gA a)) D a C 5 h 15 [(0, .ref (a 66)), (1, .int v1)] [] := by
    intro h hf H locs ls hP hS hl
    unfold X12_fire_B15 at hf
    refine lv_aload_n hx hb dX12_fire_15 rfl (lv_at hl 0 rfl) ?_
    obtain ⟨q4, hq4, hf⟩ := bind_s hf
    refine g_callV (As := []) (rest := []) hx hb hml hown hts hK hN (m_X12_warms l D a C ha h  q4 hq4) (cwV 0 hts (gUV (u12_9 _ (List.mem_of_getElem? (i := 11) rfl)) (u12_9 _ (List.mem_of_getElem? (i := 12) rfl)) (u12_9 _ (List.mem_of_getElem? (i := 13) rfl)) (u12_1 _ (List.mem_of_getElem? (i := 7) rfl)) (u12_9 _ (List.mem_of_getElem? (i := 7) rfl))) rfl rfl rfl kdX12_warms ⟨Nat.le_of_ble_eq_true rfl, Nat.le_of_ble_eq_true rfl⟩) M_O rfl rfl hP hS hA rfl hl.1 rfl (Nat.le_of_ble_eq_true rfl) dX12_fire_16 ⟨Nat.le_refl _, Nat.le_refl _⟩ (fun H locs hP hS => ?_)
    refine W.eq (g2 := F0 m 19 ls []) rfl ?_
    refine lv_iconst (v := 1) hx hb dX12_fire_19 (by decide) ?_
    refine lv_aload_n hx hb dX12_fire_20 rfl (lv_at hl 0 rfl) ?_
    refine g_get (Cn := RX12) (T := TX12) (N := 21) (v := .ref (a 67)) (own := RX12) hx hb hown hts hK M_O rfl (fun _ hw => List.mem_cons_of_mem _ (u12_cls _ hw)) 0 (by decide) (List.mem_cons_of_mem _ (u12_0 _ (List.mem_of_getElem? (i := 5) rfl))) rfl rfl hP dX12_fire_21 ?_
    refine lv_iconst (v := 0) hx hb dX12_fire_24 (by decide) ?_
    obtain ⟨c5, hf⟩ := gdi_s hf
    refine g_ial hx hb hK (⟨by decide, rfl⟩ : gAI 67 30) c5 hP dX12_fire_25 ?_
    refine lv_ishl hx hb dX12_fire_26 ?_
    refine lv_iconst (v := 1) hx hb dX12_fire_27 (by decide) ?_
    refine lv_isub hx hb dX12_fire_28 ?_
    refine lv_topi (fun x6 ex6 => ?_)
    have hf := nm_s hf ex6
    refine lv_istore_n (lv' := [(2, .int x6), (0, .ref (a 66)), (1, .int v1)]) hx hb dX12_fire_29 rfl hl (by decide) rfl (fun ls hl => ?_)
    refine lv_iload_n hx hb dX12_fire_30 rfl (lv_at hl 2 rfl) ?_
    refine lv_if_ge (tgt := 41) hx hb dX12_fire_31 (by decide) (fun c7 => ?_) (fun c7 => ?_)
    · have hf := if_t hf c7
      exact J41 FU x6 q4 hf H locs ls hP hS (lv_sub hl [1, 2, 0] rfl)
    · have hf := if_f hf c7
      refine lv_aload_n hx hb dX12_fire_34 rfl (lv_at hl 1 rfl) ?_
      refine g_get (Cn := RX12) (T := TX12) (N := 21) (v := .ref (a 74)) (own := RX12) hx hb hown hts hK M_O rfl (fun _ hw => List.mem_cons_of_mem _ (u12_cls _ hw)) 11 (by decide) (List.mem_cons_of_mem _ (u12_0 _ (List.mem_of_getElem? (i := 13) rfl))) rfl rfl hP dX12_fire_35 ?_
      refine lv_iload_n hx hb dX12_fire_38 rfl (lv_at hl 0 rfl) ?_
      obtain ⟨c8, hf⟩ := gdi_s hf
      refine g_ial hx hb hK (⟨by decide, rfl⟩ : gAI 74 512) c8 hP dX12_fire_39 ?_
      exact g_iretW hx hb hr hlk hP hS (ret2 hf) dX12_fire_40
  unfold X12_fire at hf
  suffices hh : ∀ (H : Heap) (locs : List Loc), va_P D vwCl (gw a C h) H → va_S (gA a) s.heap H locs → W p l e (headSpec uX12_fire rmX12_fire).room s m ([.ref (a 66), .int v1] : List Value).toArray below meth c H locs 0 0 (MQ below (gQ (some (.int r)) D a C h') ([.ref (a 66), .int v1] : List Value).toArray s 0 0 (gA a)) (F0 m 0 ls []) from hh _ _ hP hS
  intro H locs hP hS
  refine lv_iload_n hx hb dX12_fire_0 rfl (lv_at hl 1 rfl) ?_
  refine lv_iconst (v := (-1)) hx hb dX12_fire_1 (by decide) ?_
  refine lv_icmp_eq (tgt := 15) hx hb dX12_fire_2 (by decide) (fun c1 => ?_) (fun c1 => ?_)
  · have hf := if_t hf c1
    exact J15 h hf H locs ls hP hS (lv_sub hl [0, 1] rfl)
  · have hf := if_f hf c1
    refine lv_aload_n hx hb dX12_fire_5 rfl (lv_at hl 0 rfl) ?_
    refine lv_iload_n hx hb dX12_fire_6 rfl (lv_at hl 1 rfl) ?_
    obtain ⟨q2, hq2, hf⟩ := bind_s hf
    refine g_callV (As := [.int v1]) (rest := []) hx hb hml hown hts hK hN (m_X12_isOne l D a C ha h v1  q2 hq2) (cwV 1 hts (gUV (u12_1 _ (List.mem_of_getElem? (i := 9) rfl)) (u12_1 _ (List.mem_of_getElem? (i := 10) rfl)) (u12_1 _ (List.mem_of_getElem? (i := 11) rfl)) (u12_1 _ (List.mem_of_getElem? (i := 7) rfl)) (u12_1 _ (List.mem_of_getElem? (i := 4) rfl))) rfl rfl rfl kdX12_isOne ⟨Nat.le_of_ble_eq_true rfl, Nat.le_of_ble_eq_true rfl⟩) M_O rfl rfl hP hS hA rfl hl.1 rfl (Nat.le_of_ble_eq_true rfl) dX12_fire_7 ⟨Nat.le_refl _, Nat.le_refl _⟩ (fun H locs hP hS => ?_)
    refine W.eq (g2 := F0 m 10 ls [.int q2]) rfl ?_
    refine lv_if_ne (tgt := 15) hx hb dX12_fire_10 (by decide) (fun c3 => ?_) (fun c3 => ?_)
    · have hf := if_f hf c3
      exact J15 h hf H locs ls hP hS (lv_sub hl [0, 1] rfl)
    · have hf := if_t hf c3
      refine lv_iconst (v := (-1)) hx hb dX12_fire_13 (by decide) ?_
      exact g_iretW hx hb hr hlk hP hS (ret2 hf) dX12_fire_14

def X12_greatestTold_B26 (h : HS) (v1 : Int32) (k4 : Int32 → Int32 → Option Int32) (v2 : Int32) (v3 : Int32) : Option Int32 :=
    nm (v3 + 1) fun x5 =>
    k4 v2 x5
def X12_greatestTold_B4 (h : HS) (v1 : Int32) : Nat → Int32 → Int32 → Option Int32
  | 0, _, _ => none
  | fu + 1, v2, v3 =>
    (if v1 ≤ v3 then
    some v2
    else
    gdi v3 9 <|
    gdi v2 9 <|
    (if (aI h 75 v3.toNatClampNeg) ≤ (aI h 75 v2.toNatClampNeg) then
    X12_greatestTold_B26 h v1 (X12_greatestTold_B4 h v1 fu) v2 v3
    else
    X12_greatestTold_B26 h v1 (X12_greatestTold_B4 h v1 fu) v3 v3))
def X12_greatestTold (h : HS) (v1 : Int32) : Option Int32 :=
    X12_greatestTold_B4 h v1 FU 0 0
def uX12_greatestTold : List Cond := .code yX12_greatestTold cX12_greatestTold 4 (some .int) :: UU
def rmX12_greatestTold : Room := { frames := 0, cells := 0, slots := 0, locals := 0 }
theorem kdX12_greatestTold : yX12_greatestTold.cls = RX12 ∧ yX12_greatestTold.cls ≠ "java/lang/invoke/MethodHandle" ∧ yX12_greatestTold.cls ≠ "java/lang/invoke/VarHandle" ∧ (parseMethodDescriptor yX12_greatestTold.desc).map (fun d => d.parameters.length) = some 1 := by decide +kernel
set_option maxHeartbeats 4000000 in
set_option maxRecDepth 100000 in
theorem m_X12_greatestTold (l : Launch) (D : va_G) (a : Nat → Nat) (C : Nat → ClassId) (ha : ginj a) (h : HS) (v1 : Int32)  (r : Int32) (hf : X12_greatestTold h v1 = some r) : gM l yX12_greatestTold uX12_greatestTold rmX12_greatestTold D a C [.ref (a 66), .int v1] h (some (.int r)) h := by
  refine g_start (av := [.ref (a 66), .int v1]) (cc := cX12_greatestTold) (maxL := 4) (rt := (some .int)) (by decide) rfl (Nat.le_of_ble_eq_true rfl) ?_
  intro p e s m below meth c hx hb hr hml hown hlk hts hP hK hN ls hl
  have hA : ∀ q, gA a q → gA a q := fun _ q => q
  have hS : va_S (gA a) s.heap s.heap [] := va_S.rf
  have hl : lv_has ls 4 [(0, .ref (a 66)), (1, .int v1)] := hl
  have J26 : ∀ (k4 : Int32 → Int32 → Option Int32) (hk4 : ∀ (v2 : Int32) (v3 : Int32), k4 v2 v3 = some r → gG p l e (headSpec uX12_greatestTold rmX12_greatestTold).room s m ([.ref (a 66), .int v1] : List Value).toArray below meth c (MQ below (gQ (some (.int r)) D a C h) ([.ref (a 66), .int v1] : List Value).toArray s 0 0 (gA a)) D a C 4 h 4 [(0, .ref (a 66)), (1, .int v1), (2, .int v2), (3, .int v3)] []) (v2 : Int32) (v3 : Int32) (_ : X12_greatestTold_B26 h v1 k4 v2 v3 = some r), gG p l e (headSpec uX12_greatestTold rmX12_greatestTold).room s m ([.ref (a 66), .int v1] : List Value).toArray below meth c (MQ below (gQ (some (.int r)) D a C h) ([.ref (a 66), .int v1] : List Value).toArray s 0 0 (gA a)) D a C 4 h 26 [(0, .ref (a 66)), (1, .int v1), (2, .int v2), (3, .int v3)] [] := by
    intro k4 hk4 v2 v3 hf H locs ls hP hS hl
    unfold X12_greatestTold_B26 at hf
    obtain ⟨x5, ex5⟩ : ∃ y : Int32, y = (v3 + 1) := ⟨_, rfl⟩
    have hf := nm_s hf ex5
    refine lv_iinc (v := x5) (lv' := [(3, .int x5), (0, .ref (a 66)), (1, .int v1), (2, .int v2)]) hx hb dX12_greatestTold_26 hl (k := 3) rfl (by rw [ex5]; rfl) (by decide) rfl (fun ls hl => ?_)
    refine lv_goto (tgt := 4) hx hb dX12_greatestTold_29 (by decide) ?_
    exact hk4 v2 x5 hf H locs ls hP hS (lv_sub hl [1, 2, 3, 0] rfl)
  have J4 : ∀ (fu : Nat) (v2 : Int32) (v3 : Int32), X12_greatestTold_B4 h v1 fu v2 v3 = some r → gG p l e (headSpec uX12_greatestTold rmX12_greatestTold).room s m ([.ref (a 66), .int v1] : List Value).toArray below meth c (MQ below (gQ (some (.int r)) D a C h) ([.ref (a 66), .int v1] : List Value).toArray s 0 0 (gA a)) D a C 4 h 4 [(0, .ref (a 66)), (1, .int v1), (2, .int v2), (3, .int v3)] [] := by
    intro fu
    induction fu with
    | zero => intro v2 v3 hf; exact absurd hf (by simp [X12_greatestTold_B4])
    | succ fu ih =>
      intro v2 v3 hf H locs ls hP hS hl
      rw [X12_greatestTold_B4] at hf
      refine lv_iload_n hx hb dX12_greatestTold_4 rfl (lv_at hl 3 rfl) ?_
      refine lv_iload_n hx hb dX12_greatestTold_5 rfl (lv_at hl 1 rfl) ?_
      refine lv_icmp_ge (tgt := 32) hx hb dX12_greatestTold_6 (by decide) (fun c1 => ?_) (fun c1 => ?_)
      · have hf := if_t hf c1
        refine lv_iload_n hx hb dX12_greatestTold_32 rfl (lv_at hl 2 rfl) ?_
        exact g_iret hx hb hr hlk hP hS (ret1 hf) dX12_greatestTold_33
      · have hf := if_f hf c1
        refine lv_aload_n hx hb dX12_greatestTold_9 rfl (lv_at hl 0 rfl) ?_
        refine g_get (Cn := RX12) (T := TX12) (N := 21) (v := .ref (a 75)) (own := RX12) hx hb hown hts hK M_O rfl (fun _ hw => List.mem_cons_of_mem _ (u12_cls _ hw)) 12 (by decide) (List.mem_cons_of_mem _ (u12_0 _ (List.mem_of_getElem? (i := 14) rfl))) rfl rfl hP dX12_greatestTold_10 ?_
        refine lv_iload_n hx hb dX12_greatestTold_13 rfl (lv_at hl 3 rfl) ?_
        obtain ⟨c2, hf⟩ := gdi_s hf
        refine g_ial hx hb hK (⟨by decide, rfl⟩ : gAI 75 9) c2 hP dX12_greatestTold_14 ?_
        refine lv_aload_n hx hb dX12_greatestTold_15 rfl (lv_at hl 0 rfl) ?_
        refine g_get (Cn := RX12) (T := TX12) (N := 21) (v := .ref (a 75)) (own := RX12) hx hb hown hts hK M_O rfl (fun _ hw => List.mem_cons_of_mem _ (u12_cls _ hw)) 12 (by decide) (List.mem_cons_of_mem _ (u12_0 _ (List.mem_of_getElem? (i := 14) rfl))) rfl rfl hP dX12_greatestTold_16 ?_
        refine lv_iload_n hx hb dX12_greatestTold_19 rfl (lv_at hl 2 rfl) ?_
        obtain ⟨c3, hf⟩ := gdi_s hf
        refine g_ial hx hb hK (⟨by decide, rfl⟩ : gAI 75 9) c3 hP dX12_greatestTold_20 ?_
        refine lv_icmp_le (tgt := 26) hx hb dX12_greatestTold_21 (by decide) (fun c4 => ?_) (fun c4 => ?_)
        · have hf := if_t hf c4
          exact J26 (X12_greatestTold_B4 h v1 fu) ih v2 v3 hf H locs ls hP hS (lv_sub hl [0, 1, 2, 3] rfl)
        · have hf := if_f hf c4
          refine lv_iload_n hx hb dX12_greatestTold_24 rfl (lv_at hl 3 rfl) ?_
          refine lv_istore_n (lv' := [(2, .int v3), (0, .ref (a 66)), (1, .int v1), (3, .int v3)]) hx hb dX12_greatestTold_25 rfl hl (by decide) rfl (fun ls hl => ?_)
          exact J26 (X12_greatestTold_B4 h v1 fu) ih v3 v3 hf H locs ls hP hS (lv_sub hl [1, 2, 0, 3] rfl)
  unfold X12_greatestTold at hf
  suffices hh : ∀ (H : Heap) (locs : List Loc), va_P D vwCl (gw a C h) H → va_S (gA a) s.heap H locs → W p l e (headSpec uX12_greatestTold rmX12_greatestTold).room s m ([.ref (a 66), .int v1] : List Value).toArray below meth c H locs 0 0 (MQ below (gQ (some (.int r)) D a C h) ([.ref (a 66), .int v1] : List Value).toArray s 0 0 (gA a)) (F0 m 0 ls []) from hh _ _ hP hS
  intro H locs hP hS
  refine lv_iconst (v := 0) hx hb dX12_greatestTold_0 (by decide) ?_
  refine lv_istore_n (lv' := [(2, .int 0), (0, .ref (a 66)), (1, .int v1)]) hx hb dX12_greatestTold_1 rfl hl (by decide) rfl (fun ls hl => ?_)
  refine lv_iconst (v := 0) hx hb dX12_greatestTold_2 (by decide) ?_
  refine lv_istore_n (lv' := [(3, .int 0), (2, .int 0), (0, .ref (a 66)), (1, .int v1)]) hx hb dX12_greatestTold_3 rfl hl (by decide) rfl (fun ls hl => ?_)
  exact J4 FU 0 0 hf H locs ls hP hS (lv_sub hl [2, 3, 1, 0] rfl)

def X12_could_B182 (v1 : Int32) (k83 : Int32 → Int32 → HS → Option (Int32 × HS)) (k119 : Int32 → Int32 → Int32 → Int32 → HS → Option (Int32 × HS)) (k130 : Int32 → Int32 → Int32 → Int32 → Int32 → Int32 → HS → Option (Int32 × HS)) (v3 : Int32) (v4 : Int32) (v6 : Int32) (v7 : Int32) (v8 : Int32) (v9 : Int32) (h : HS) : Option (Int32 × HS) :=
    nm (v9 + 1) fun x38 =>
    k130 v3 v4 v6 v7 v8 x38 h
def X12_could_B178 (v1 : Int32) (k83 : Int32 → Int32 → HS → Option (Int32 × HS)) (k119 : Int32 → Int32 → Int32 → Int32 → HS → Option (Int32 × HS)) (k130 : Int32 → Int32 → Int32 → Int32 → Int32 → Int32 → HS → Option (Int32 × HS)) (v3 : Int32) (v4 : Int32) (v6 : Int32) (v7 : Int32) (v9 : Int32) (h : HS) : Option (Int32 × HS) :=
    X12_could_B182 v1 k83 k119 k130 v3 v4 v6 v7 v9 v9 h
def X12_could_B130 (v1 : Int32) (k83 : Int32 → Int32 → HS → Option (Int32 × HS)) (k119 : Int32 → Int32 → Int32 → Int32 → HS → Option (Int32 × HS)) : Nat → Int32 → Int32 → Int32 → Int32 → Int32 → Int32 → HS → Option (Int32 × HS)
  | 0, _, _, _, _, _, _, _ => none
  | fu + 1, v3, v4, v6, v7, v8, v9, h =>
    (if v3 ≤ v9 then
    (if 0 ≤ v8 then
    gdi v8 9 <|
    gdi v8 9 <|
    nm (sA h 75 (upd (aI h 75) v8.toNatClampNeg ((aI h 75 v8.toNatClampNeg) - 1))) fun h26 =>
    nm (v7 ||| ((1 : Int32) <<< (v8 &&& 31))) fun x28 =>
    nm (v6 + (-1)) fun x29 =>
    k119 v3 v4 x29 x28 h26
    else
    some (0, h))
    else
    (X12_has v7 v9).bind fun q30 =>
    (if q30 = 0 then
    gdi v9 9 <|
    (if (aI h 75 v9.toNatClampNeg) ≤ 0 then
    X12_could_B182 v1 k83 k119 (X12_could_B130 v1 k83 k119 fu) v3 v4 v6 v7 v8 v9 h
    else
    (if v8 < 0 then
    X12_could_B178 v1 k83 k119 (X12_could_B130 v1 k83 k119 fu) v3 v4 v6 v7 v9 h
    else
    gdi v9 9 <|
    gdi v8 9 <|
    (if (aI h 75 v9.toNatClampNeg) ≤ (aI h 75 v8.toNatClampNeg) then
    X12_could_B182 v1 k83 k119 (X12_could_B130 v1 k83 k119 fu) v3 v4 v6 v7 v8 v9 h
    else
    X12_could_B178 v1 k83 k119 (X12_could_B130 v1 k83 k119 fu) v3 v4 v6 v7 v9 h)))
    else
    X12_could_B182 v1 k83 k119 (X12_could_B130 v1 k83 k119 fu) v3 v4 v6 v7 v8 v9 h))
def X12_could_B119 (v1 : Int32) (k83 : Int32 → Int32 → HS → Option (Int32 × HS)) : Nat → Int32 → Int32 → Int32 → Int32 → HS → Option (Int32 × HS)
  | 0, _, _, _, _, _ => none
  | fu + 1, v3, v4, v6, v7, h =>
    (if v6 ≤ 0 then
    nm (v4 + 1) fun x22 =>
    k83 v3 x22 h
    else
    X12_could_B130 v1 k83 (X12_could_B119 v1 k83 fu) FU v3 v4 v6 v7 (-1) 0 h)
def X12_could_B83 (v1 : Int32) : Nat → Int32 → Int32 → HS → Option (Int32 × HS)
  | 0, _, _, _ => none
  | fu + 1, v3, v4, h =>
    (if v3 ≤ v4 then
    some (1, h)
    else
    (X12_greatestTold h v3).bind fun q15 =>
    gdi q15 9 <|
    nm (aI h 75 q15.toNatClampNeg) fun x17 =>
    nm ((1 : Int32) <<< (q15 &&& 31)) fun x18 =>
    gdi q15 9 <|
    nm (sA h 75 (upd (aI h 75) q15.toNatClampNeg 0)) fun h19 =>
    X12_could_B119 v1 (X12_could_B83 v1 fu) FU v3 v4 x17 x18 h19)
def X12_could_B31 (v1 : Int32) : Nat → Int32 → Int32 → HS → Option (Int32 × HS)
  | 0, _, _, _ => none
  | fu + 1, v3, v4, h =>
    (if v3 ≤ v4 then
    X12_could_B83 v1 FU v3 0 h
    else
    gdi ((100 * v1) + v4) 800 <|
    gdi v4 9 <|
    nm (sA h 75 (upd (aI h 75) v4.toNatClampNeg (aI h 81 ((100 * v1) + v4).toNatClampNeg))) fun h8 =>
    gdi v4 9 <|
    (X12_isIn (aI h8 75 v4.toNatClampNeg) 0 8).bind fun q11 =>
    (if q11 = 0 then
    some (0, h8)
    else
    nm (v4 + 1) fun x13 =>
    (X12_could_B31 v1 fu) v3 x13 h8))
def X12_could (h : HS) (v1 : Int32) : Option (Int32 × HS) :=
    (X12_wrongRow h v1 (-1)).bind fun q1 =>
    (if q1 = 0 then
    gdi v1 8 <|
    nm (aI h 80 v1.toNatClampNeg) fun x4 =>
    (if x4 ≤ 9 then
    X12_could_B31 v1 FU x4 0 h
    else
    some (0, h))
    else
    some (q1, h))
def uX12_could : List Cond := .code yX12_could cX12_could 10 (some .int) :: UU
def rmX12_could : Room := { frames := 3, cells := 0, slots := 0, locals := 64 }
theorem kdX12_could : yX12_could.cls = RX12 ∧ yX12_could.cls ≠ "java/lang/invoke/MethodHandle" ∧ yX12_could.cls ≠ "java/lang/invoke/VarHandle" ∧ (parseMethodDescriptor yX12_could.desc).map (fun d => d.parameters.length) = some 1 := by decide +kernel
set_option maxHeartbeats 4000000 in
set_option maxRecDepth 100000 in
theorem m_X12_could (l : Launch) (D : va_G) (a : Nat → Nat) (C : Nat → ClassId) (ha : ginj a) (h : HS) (v1 : Int32)  (r : Int32) (h' : HS) (hf : X12_could h v1 = some (r, h')) : gM l yX12_could uX12_could rmX12_could D a C [.ref (a 66), .int v1] h (some (.int r)) h' := by
  refine g_start (av := [.ref (a 66), .int v1]) (cc := cX12_could) (maxL := 10) (rt := (some .int)) (by decide) rfl (Nat.le_of_ble_eq_true rfl) ?_
  intro p e s m below meth c hx hb hr hml hown hlk hts hP hK hN ls hl
  have hA : ∀ q, gA a q → gA a q := fun _ q => q
  have hS : va_S (gA a) s.heap s.heap [] := va_S.rf
  have hl : lv_has ls 10 [(0, .ref (a 66)), (1, .int v1)] := hl
  have J182 : ∀ (k83 : Int32 → Int32 → HS → Option (Int32 × HS)) (hk83 : ∀ (v3 : Int32) (v4 : Int32) (h : HS), k83 v3 v4 h = some (r, h') → gG p l e (headSpec uX12_could rmX12_could).room s m ([.ref (a 66), .int v1] : List Value).toArray below meth c (MQ below (gQ (some (.int r)) D a C h') ([.ref (a 66), .int v1] : List Value).toArray s 0 0 (gA a)) D a C 10 h 83 [(0, .ref (a 66)), (3, .int v3), (4, .int v4)] []) (k119 : Int32 → Int32 → Int32 → Int32 → HS → Option (Int32 × HS)) (hk119 : ∀ (v3 : Int32) (v4 : Int32) (v6 : Int32) (v7 : Int32) (h : HS), k119 v3 v4 v6 v7 h = some (r, h') → gG p l e (headSpec uX12_could rmX12_could).room s m ([.ref (a 66), .int v1] : List Value).toArray below meth c (MQ below (gQ (some (.int r)) D a C h') ([.ref (a 66), .int v1] : List Value).toArray s 0 0 (gA a)) D a C 10 h 119 [(0, .ref (a 66)), (3, .int v3), (4, .int v4), (6, .int v6), (7, .int v7)] []) (k130 : Int32 → Int32 → Int32 → Int32 → Int32 → Int32 → HS → Option (Int32 × HS)) (hk130 : ∀ (v3 : Int32) (v4 : Int32) (v6 : Int32) (v7 : Int32) (v8 : Int32) (v9 : Int32) (h : HS), k130 v3 v4 v6 v7 v8 v9 h = some (r, h') → gG p l e (headSpec uX12_could rmX12_could).room s m ([.ref (a 66), .int v1] : List Value).toArray below meth c (MQ below (gQ (some (.int r)) D a C h') ([.ref (a 66), .int v1] : List Value).toArray s 0 0 (gA a)) D a C 10 h 130 [(0, .ref (a 66)), (3, .int v3), (4, .int v4), (6, .int v6), (7, .int v7), (8, .int v8), (9, .int v9)] []) (v3 : Int32) (v4 : Int32) (v6 : Int32) (v7 : Int32) (v8 : Int32) (v9 : Int32) (h : HS) (_ : X12_could_B182 v1 k83 k119 k130 v3 v4 v6 v7 v8 v9 h = some (r, h')), gG p l e (headSpec uX12_could rmX12_could).room s m ([.ref (a 66), .int v1] : List Value).toArray below meth c (MQ below (gQ (some (.int r)) D a C h') ([.ref (a 66), .int v1] : List Value).toArray s 0 0 (gA a)) D a C 10 h 182 [(0, .ref (a 66)), (3, .int v3), (4, .int v4), (6, .int v6), (7, .int v7), (8, .int v8), (9, .int v9)] [] := by
    intro k83 hk83 k119 hk119 k130 hk130 v3 v4 v6 v7 v8 v9 h hf H locs ls hP hS hl
    unfold X12_could_B182 at hf
    obtain ⟨x38, ex38⟩ : ∃ y : Int32, y = (v9 + 1) := ⟨_, rfl⟩
    have hf := nm_s hf ex38
    refine lv_iinc (v := x38) (lv' := [(9, .int x38), (0, .ref (a 66)), (3, .int v3), (4, .int v4), (6, .int v6), (7, .int v7), (8, .int v8)]) hx hb dX12_could_182 hl (k := 6) rfl (by rw [ex38]; rfl) (by decide) rfl (fun ls hl => ?_)
    refine lv_goto (tgt := 130) hx hb dX12_could_185 (by decide) ?_
    exact hk130 v3 v4 v6 v7 v8 x38 h hf H locs ls hP hS (lv_sub hl [1, 2, 3, 4, 5, 6, 0] rfl)
  have J178 : ∀ (k83 : Int32 → Int32 → HS → Option (Int32 × HS)) (hk83 : ∀ (v3 : Int32) (v4 : Int32) (h : HS), k83 v3 v4 h = some (r, h') → gG p l e (headSpec uX12_could rmX12_could).room s m ([.ref (a 66), .int v1] : List Value).toArray below meth c (MQ below (gQ (some (.int r)) D a C h') ([.ref (a 66), .int v1] : List Value).toArray s 0 0 (gA a)) D a C 10 h 83 [(0, .ref (a 66)), (3, .int v3), (4, .int v4)] []) (k119 : Int32 → Int32 → Int32 → Int32 → HS → Option (Int32 × HS)) (hk119 : ∀ (v3 : Int32) (v4 : Int32) (v6 : Int32) (v7 : Int32) (h : HS), k119 v3 v4 v6 v7 h = some (r, h') → gG p l e (headSpec uX12_could rmX12_could).room s m ([.ref (a 66), .int v1] : List Value).toArray below meth c (MQ below (gQ (some (.int r)) D a C h') ([.ref (a 66), .int v1] : List Value).toArray s 0 0 (gA a)) D a C 10 h 119 [(0, .ref (a 66)), (3, .int v3), (4, .int v4), (6, .int v6), (7, .int v7)] []) (k130 : Int32 → Int32 → Int32 → Int32 → Int32 → Int32 → HS → Option (Int32 × HS)) (hk130 : ∀ (v3 : Int32) (v4 : Int32) (v6 : Int32) (v7 : Int32) (v8 : Int32) (v9 : Int32) (h : HS), k130 v3 v4 v6 v7 v8 v9 h = some (r, h') → gG p l e (headSpec uX12_could rmX12_could).room s m ([.ref (a 66), .int v1] : List Value).toArray below meth c (MQ below (gQ (some (.int r)) D a C h') ([.ref (a 66), .int v1] : List Value).toArray s 0 0 (gA a)) D a C 10 h 130 [(0, .ref (a 66)), (3, .int v3), (4, .int v4), (6, .int v6), (7, .int v7), (8, .int v8), (9, .int v9)] []) (v3 : Int32) (v4 : Int32) (v6 : Int32) (v7 : Int32) (v9 : Int32) (h : HS) (_ : X12_could_B178 v1 k83 k119 k130 v3 v4 v6 v7 v9 h = some (r, h')), gG p l e (headSpec uX12_could rmX12_could).room s m ([.ref (a 66), .int v1] : List Value).toArray below meth c (MQ below (gQ (some (.int r)) D a C h') ([.ref (a 66), .int v1] : List Value).toArray s 0 0 (gA a)) D a C 10 h 178 [(0, .ref (a 66)), (3, .int v3), (4, .int v4), (6, .int v6), (7, .int v7), (9, .int v9)] [] := by
    intro k83 hk83 k119 hk119 k130 hk130 v3 v4 v6 v7 v9 h hf H locs ls hP hS hl
    unfold X12_could_B178 at hf
    refine lv_iload hx hb dX12_could_178 (lv_at hl 5 rfl) ?_
    refine lv_istore (lv' := [(8, .int v9), (0, .ref (a 66)), (3, .int v3), (4, .int v4), (6, .int v6), (7, .int v7), (9, .int v9)]) hx hb dX12_could_180 hl (by decide) rfl (fun ls hl => ?_)
    exact J182 k83 hk83 k119 hk119 k130 hk130 v3 v4 v6 v7 v9 v9 h hf H locs ls hP hS (lv_sub hl [1, 2, 3, 4, 5, 0, 6] rfl)
  have J130 : ∀ (k83 : Int32 → Int32 → HS → Option (Int32 × HS)) (hk83 : ∀ (v3 : Int32) (v4 : Int32) (h : HS), k83 v3 v4 h = some (r, h') → gG p l e (headSpec uX12_could rmX12_could).room s m ([.ref (a 66), .int v1] : List Value).toArray below meth c (MQ below (gQ (some (.int r)) D a C h') ([.ref (a 66), .int v1] : List Value).toArray s 0 0 (gA a)) D a C 10 h 83 [(0, .ref (a 66)), (3, .int v3), (4, .int v4)] []) (k119 : Int32 → Int32 → Int32 → Int32 → HS → Option (Int32 × HS)) (hk119 : ∀ (v3 : Int32) (v4 : Int32) (v6 : Int32) (v7 : Int32) (h : HS), k119 v3 v4 v6 v7 h = some (r, h') → gG p l e (headSpec uX12_could rmX12_could).room s m ([.ref (a 66), .int v1] : List Value).toArray below meth c (MQ below (gQ (some (.int r)) D a C h') ([.ref (a 66), .int v1] : List Value).toArray s 0 0 (gA a)) D a C 10 h 119 [(0, .ref (a 66)), (3, .int v3), (4, .int v4), (6, .int v6), (7, .int v7)] []) (fu : Nat) (v3 : Int32) (v4 : Int32) (v6 : Int32) (v7 : Int32) (v8 : Int32) (v9 : Int32) (h : HS), X12_could_B130 v1 k83 k119 fu v3 v4 v6 v7 v8 v9 h = some (r, h') → gG p l e (headSpec uX12_could rmX12_could).room s m ([.ref (a 66), .int v1] : List Value).toArray below meth c (MQ below (gQ (some (.int r)) D a C h') ([.ref (a 66), .int v1] : List Value).toArray s 0 0 (gA a)) D a C 10 h 130 [(0, .ref (a 66)), (3, .int v3), (4, .int v4), (6, .int v6), (7, .int v7), (8, .int v8), (9, .int v9)] [] := by
    intro k83 hk83 k119 hk119 fu
    induction fu with
    | zero => intro v3 v4 v6 v7 v8 v9 h hf; exact absurd hf (by simp [X12_could_B130])
    | succ fu ih =>
      intro v3 v4 v6 v7 v8 v9 h hf H locs ls hP hS hl
      rw [X12_could_B130] at hf
      refine lv_iload hx hb dX12_could_130 (lv_at hl 6 rfl) ?_
      refine lv_iload_n hx hb dX12_could_132 rfl (lv_at hl 1 rfl) ?_
      refine lv_icmp_ge (tgt := 188) hx hb dX12_could_133 (by decide) (fun c23 => ?_) (fun c23 => ?_)
      · have hf := if_t hf c23
        refine lv_iload hx hb dX12_could_188 (lv_at hl 5 rfl) ?_
        refine lv_if_ge (tgt := 195) hx hb dX12_could_190 (by decide) (fun c24 => ?_) (fun c24 => ?_)
        · have hf := if_t hf c24
          refine lv_aload_n hx hb dX12_could_195 rfl (lv_at hl 0 rfl) ?_
          refine g_get (Cn := RX12) (T := TX12) (N := 21) (v := .ref (a 75)) (own := RX12) hx hb hown hts hK M_O rfl (fun _ hw => List.mem_cons_of_mem _ (u12_cls _ hw)) 12 (by decide) (List.mem_cons_of_mem _ (u12_0 _ (List.mem_of_getElem? (i := 14) rfl))) rfl rfl hP dX12_could_196 ?_
          refine lv_iload hx hb dX12_could_199 (lv_at hl 5 rfl) ?_
          refine lv_dup2_11 hx hb dX12_could_201 rfl rfl ?_
          obtain ⟨c25, hf⟩ := gdi_s hf
          refine g_ial hx hb hK (⟨by decide, rfl⟩ : gAI 75 9) c25 hP dX12_could_202 ?_
          refine lv_iconst (v := 1) hx hb dX12_could_203 (by decide) ?_
          refine lv_isub hx hb dX12_could_204 ?_
          obtain ⟨c27, hf⟩ := gdi_s hf
          refine g_ias hx hb hK ha hA (⟨by decide, rfl⟩ : gAI 75 9) c27 hP hS dX12_could_205 (fun H locs hP hS => ?_)
          obtain ⟨h26, eh26⟩ : ∃ x, x = (sA h 75 (upd (aI h 75) v8.toNatClampNeg ((aI h 75 v8.toNatClampNeg) - 1))) := ⟨_, rfl⟩
          rw [← eh26] at hP
          have hf := nm_s hf eh26
          refine lv_iload hx hb dX12_could_206 (lv_at hl 4 rfl) ?_
          refine lv_iconst (v := 1) hx hb dX12_could_208 (by decide) ?_
          refine lv_iload hx hb dX12_could_209 (lv_at hl 5 rfl) ?_
          refine lv_ishl hx hb dX12_could_211 ?_
          refine lv_ior hx hb dX12_could_212 ?_
          refine lv_topi (fun x28 ex28 => ?_)
          have hf := nm_s hf ex28
          refine lv_istore (lv' := [(7, .int x28), (0, .ref (a 66)), (3, .int v3), (4, .int v4), (6, .int v6), (8, .int v8), (9, .int v9)]) hx hb dX12_could_213 hl (by decide) rfl (fun ls hl => ?_)
          obtain ⟨x29, ex29⟩ : ∃ y : Int32, y = (v6 + (-1)) := ⟨_, rfl⟩
          have hf := nm_s hf ex29
          refine lv_iinc (v := x29) (lv' := [(6, .int x29), (7, .int x28), (0, .ref (a 66)), (3, .int v3), (4, .int v4), (8, .int v8), (9, .int v9)]) hx hb dX12_could_215 hl (k := 4) rfl (by rw [ex29]; rfl) (by decide) rfl (fun ls hl => ?_)
          refine lv_goto (tgt := 119) hx hb dX12_could_218 (by decide) ?_
          exact hk119 v3 v4 x29 x28 h26 hf H locs ls hP hS (lv_sub hl [2, 3, 4, 0, 1] rfl)
        · have hf := if_f hf c24
          refine lv_iconst (v := 0) hx hb dX12_could_193 (by decide) ?_
          exact g_iretW hx hb hr hlk hP hS (ret2 hf) dX12_could_194
      · have hf := if_f hf c23
        refine lv_iload hx hb dX12_could_136 (lv_at hl 4 rfl) ?_
        refine lv_iload hx hb dX12_could_138 (lv_at hl 6 rfl) ?_
        obtain ⟨q30, hq30, hf⟩ := bind_s hf
        refine g_callS (As := [.int v7, .int v9]) (rest := []) hx hb hml hown hts hK hN (m_X12_has l D a C ha h v7 v9  q30 hq30) (va_cwS 2 hts (gUS (u12_2 _ (List.mem_of_getElem? (i := 8) rfl)) (u12_2 _ (List.mem_of_getElem? (i := 9) rfl)) (u12_1 _ (List.mem_of_getElem? (i := 7) rfl)) (u12_1 _ (List.mem_of_getElem? (i := 12) rfl))) rfl rfl rfl kdX12_has.2 ⟨Nat.le_of_ble_eq_true rfl, Nat.le_of_ble_eq_true rfl⟩) hP hS hA rfl hl.1 rfl (Nat.le_of_ble_eq_true rfl) dX12_could_140 ⟨Nat.le_refl _, Nat.le_refl _⟩ (fun H locs hP hS => ?_)
        refine W.eq (g2 := F0 m 143 ls [.int q30]) rfl ?_
        refine lv_if_ne (tgt := 182) hx hb dX12_could_143 (by decide) (fun c31 => ?_) (fun c31 => ?_)
        · have hf := if_f hf c31
          exact J182 k83 hk83 k119 hk119 (X12_could_B130 v1 k83 k119 fu) ih v3 v4 v6 v7 v8 v9 h hf H locs ls hP hS (lv_sub hl [0, 1, 2, 3, 4, 5, 6] rfl)
        · have hf := if_t hf c31
          refine lv_aload_n hx hb dX12_could_146 rfl (lv_at hl 0 rfl) ?_
          refine g_get (Cn := RX12) (T := TX12) (N := 21) (v := .ref (a 75)) (own := RX12) hx hb hown hts hK M_O rfl (fun _ hw => List.mem_cons_of_mem _ (u12_cls _ hw)) 12 (by decide) (List.mem_cons_of_mem _ (u12_0 _ (List.mem_of_getElem? (i := 14) rfl))) rfl rfl hP dX12_could_147 ?_
          refine lv_iload hx hb dX12_could_150 (lv_at hl 6 rfl) ?_
          obtain ⟨c32, hf⟩ := gdi_s hf
          refine g_ial hx hb hK (⟨by decide, rfl⟩ : gAI 75 9) c32 hP dX12_could_152 ?_
          refine lv_if_le (tgt := 182) hx hb dX12_could_153 (by decide) (fun c33 => ?_) (fun c33 => ?_)
          · have hf := if_t hf c33
            exact J182 k83 hk83 k119 hk119 (X12_could_B130 v1 k83 k119 fu) ih v3 v4 v6 v7 v8 v9 h hf H locs ls hP hS (lv_sub hl [0, 1, 2, 3, 4, 5, 6] rfl)
          · have hf := if_f hf c33
            refine lv_iload hx hb dX12_could_156 (lv_at hl 5 rfl) ?_
            refine lv_if_lt (tgt := 178) hx hb dX12_could_158 (by decide) (fun c34 => ?_) (fun c34 => ?_)
            · have hf := if_t hf c34
              exact J178 k83 hk83 k119 hk119 (X12_could_B130 v1 k83 k119 fu) ih v3 v4 v6 v7 v9 h hf H locs ls hP hS (lv_sub hl [0, 1, 2, 3, 4, 6] rfl)
            · have hf := if_f hf c34
              refine lv_aload_n hx hb dX12_could_161 rfl (lv_at hl 0 rfl) ?_
              refine g_get (Cn := RX12) (T := TX12) (N := 21) (v := .ref (a 75)) (own := RX12) hx hb hown hts hK M_O rfl (fun _ hw => List.mem_cons_of_mem _ (u12_cls _ hw)) 12 (by decide) (List.mem_cons_of_mem _ (u12_0 _ (List.mem_of_getElem? (i := 14) rfl))) rfl rfl hP dX12_could_162 ?_
              refine lv_iload hx hb dX12_could_165 (lv_at hl 6 rfl) ?_
              obtain ⟨c35, hf⟩ := gdi_s hf
              refine g_ial hx hb hK (⟨by decide, rfl⟩ : gAI 75 9) c35 hP dX12_could_167 ?_
              refine lv_aload_n hx hb dX12_could_168 rfl (lv_at hl 0 rfl) ?_
              refine g_get (Cn := RX12) (T := TX12) (N := 21) (v := .ref (a 75)) (own := RX12) hx hb hown hts hK M_O rfl (fun _ hw => List.mem_cons_of_mem _ (u12_cls _ hw)) 12 (by decide) (List.mem_cons_of_mem _ (u12_0 _ (List.mem_of_getElem? (i := 14) rfl))) rfl rfl hP dX12_could_169 ?_
              refine lv_iload hx hb dX12_could_172 (lv_at hl 5 rfl) ?_
              obtain ⟨c36, hf⟩ := gdi_s hf
              refine g_ial hx hb hK (⟨by decide, rfl⟩ : gAI 75 9) c36 hP dX12_could_174 ?_
              refine lv_icmp_le (tgt := 182) hx hb dX12_could_175 (by decide) (fun c37 => ?_) (fun c37 => ?_)
              · have hf := if_t hf c37
                exact J182 k83 hk83 k119 hk119 (X12_could_B130 v1 k83 k119 fu) ih v3 v4 v6 v7 v8 v9 h hf H locs ls hP hS (lv_sub hl [0, 1, 2, 3, 4, 5, 6] rfl)
              · have hf := if_f hf c37
                exact J178 k83 hk83 k119 hk119 (X12_could_B130 v1 k83 k119 fu) ih v3 v4 v6 v7 v9 h hf H locs ls hP hS (lv_sub hl [0, 1, 2, 3, 4, 6] rfl)
  have J119 : ∀ (k83 : Int32 → Int32 → HS → Option (Int32 × HS)) (hk83 : ∀ (v3 : Int32) (v4 : Int32) (h : HS), k83 v3 v4 h = some (r, h') → gG p l e (headSpec uX12_could rmX12_could).room s m ([.ref (a 66), .int v1] : List Value).toArray below meth c (MQ below (gQ (some (.int r)) D a C h') ([.ref (a 66), .int v1] : List Value).toArray s 0 0 (gA a)) D a C 10 h 83 [(0, .ref (a 66)), (3, .int v3), (4, .int v4)] []) (fu : Nat) (v3 : Int32) (v4 : Int32) (v6 : Int32) (v7 : Int32) (h : HS), X12_could_B119 v1 k83 fu v3 v4 v6 v7 h = some (r, h') → gG p l e (headSpec uX12_could rmX12_could).room s m ([.ref (a 66), .int v1] : List Value).toArray below meth c (MQ below (gQ (some (.int r)) D a C h') ([.ref (a 66), .int v1] : List Value).toArray s 0 0 (gA a)) D a C 10 h 119 [(0, .ref (a 66)), (3, .int v3), (4, .int v4), (6, .int v6), (7, .int v7)] [] := by
    intro k83 hk83 fu
    induction fu with
    | zero => intro v3 v4 v6 v7 h hf; exact absurd hf (by simp [X12_could_B119])
    | succ fu ih =>
      intro v3 v4 v6 v7 h hf H locs ls hP hS hl
      rw [X12_could_B119] at hf
      refine lv_iload hx hb dX12_could_119 (lv_at hl 3 rfl) ?_
      refine lv_if_le (tgt := 221) hx hb dX12_could_121 (by decide) (fun c21 => ?_) (fun c21 => ?_)
      · have hf := if_t hf c21
        obtain ⟨x22, ex22⟩ : ∃ y : Int32, y = (v4 + 1) := ⟨_, rfl⟩
        have hf := nm_s hf ex22
        refine lv_iinc (v := x22) (lv' := [(4, .int x22), (0, .ref (a 66)), (3, .int v3), (6, .int v6), (7, .int v7)]) hx hb dX12_could_221 hl (k := 2) rfl (by rw [ex22]; rfl) (by decide) rfl (fun ls hl => ?_)
        refine lv_goto (tgt := 83) hx hb dX12_could_224 (by decide) ?_
        exact hk83 v3 x22 h hf H locs ls hP hS (lv_sub hl [1, 2, 0] rfl)
      · have hf := if_f hf c21
        refine lv_iconst (v := (-1)) hx hb dX12_could_124 (by decide) ?_
        refine lv_istore (lv' := [(8, .int (-1)), (0, .ref (a 66)), (3, .int v3), (4, .int v4), (6, .int v6), (7, .int v7)]) hx hb dX12_could_125 hl (by decide) rfl (fun ls hl => ?_)
        refine lv_iconst (v := 0) hx hb dX12_could_127 (by decide) ?_
        refine lv_istore (lv' := [(9, .int 0), (8, .int (-1)), (0, .ref (a 66)), (3, .int v3), (4, .int v4), (6, .int v6), (7, .int v7)]) hx hb dX12_could_128 hl (by decide) rfl (fun ls hl => ?_)
        exact J130 k83 hk83 (X12_could_B119 v1 k83 fu) ih FU v3 v4 v6 v7 (-1) 0 h hf H locs ls hP hS (lv_sub hl [2, 3, 4, 5, 6, 1, 0] rfl)
  have J83 : ∀ (fu : Nat) (v3 : Int32) (v4 : Int32) (h : HS), X12_could_B83 v1 fu v3 v4 h = some (r, h') → gG p l e (headSpec uX12_could rmX12_could).room s m ([.ref (a 66), .int v1] : List Value).toArray below meth c (MQ below (gQ (some (.int r)) D a C h') ([.ref (a 66), .int v1] : List Value).toArray s 0 0 (gA a)) D a C 10 h 83 [(0, .ref (a 66)), (3, .int v3), (4, .int v4)] [] := by
    intro fu
    induction fu with
    | zero => intro v3 v4 h hf; exact absurd hf (by simp [X12_could_B83])
    | succ fu ih =>
      intro v3 v4 h hf H locs ls hP hS hl
      rw [X12_could_B83] at hf
      refine lv_iload hx hb dX12_could_83 (lv_at hl 2 rfl) ?_
      refine lv_iload_n hx hb dX12_could_85 rfl (lv_at hl 1 rfl) ?_
      refine lv_icmp_ge (tgt := 227) hx hb dX12_could_86 (by decide) (fun c14 => ?_) (fun c14 => ?_)
      · have hf := if_t hf c14
        refine lv_iconst (v := 1) hx hb dX12_could_227 (by decide) ?_
        exact g_iretW hx hb hr hlk hP hS (ret2 hf) dX12_could_228
      · have hf := if_f hf c14
        refine lv_aload_n hx hb dX12_could_89 rfl (lv_at hl 0 rfl) ?_
        refine lv_iload_n hx hb dX12_could_90 rfl (lv_at hl 1 rfl) ?_
        obtain ⟨q15, hq15, hf⟩ := bind_s hf
        refine g_callV (As := [.int v3]) (rest := []) hx hb hml hown hts hK hN (m_X12_greatestTold l D a C ha h v3  q15 hq15) (cwV 1 hts (gUV (u12_10 _ (List.mem_of_getElem? (i := 0) rfl)) (u12_10 _ (List.mem_of_getElem? (i := 1) rfl)) (u12_10 _ (List.mem_of_getElem? (i := 2) rfl)) (u12_1 _ (List.mem_of_getElem? (i := 7) rfl)) (u12_9 _ (List.mem_of_getElem? (i := 18) rfl))) rfl rfl rfl kdX12_greatestTold ⟨Nat.le_of_ble_eq_true rfl, Nat.le_of_ble_eq_true rfl⟩) M_O rfl rfl hP hS hA rfl hl.1 rfl (Nat.le_of_ble_eq_true rfl) dX12_could_91 ⟨Nat.le_refl _, Nat.le_refl _⟩ (fun H locs hP hS => ?_)
        refine W.eq (g2 := F0 m 94 ls [.int q15]) rfl ?_
        refine lv_istore (lv' := [(5, .int q15), (0, .ref (a 66)), (3, .int v3), (4, .int v4)]) hx hb dX12_could_94 hl (by decide) rfl (fun ls hl => ?_)
        refine lv_aload_n hx hb dX12_could_96 rfl (lv_at hl 1 rfl) ?_
        refine g_get (Cn := RX12) (T := TX12) (N := 21) (v := .ref (a 75)) (own := RX12) hx hb hown hts hK M_O rfl (fun _ hw => List.mem_cons_of_mem _ (u12_cls _ hw)) 12 (by decide) (List.mem_cons_of_mem _ (u12_0 _ (List.mem_of_getElem? (i := 14) rfl))) rfl rfl hP dX12_could_97 ?_
        refine lv_iload hx hb dX12_could_100 (lv_at hl 0 rfl) ?_
        obtain ⟨c16, hf⟩ := gdi_s hf
        refine g_ial hx hb hK (⟨by decide, rfl⟩ : gAI 75 9) c16 hP dX12_could_102 ?_
        refine lv_topi (fun x17 ex17 => ?_)
        have hf := nm_s hf ex17
        refine lv_istore (lv' := [(6, .int x17), (5, .int q15), (0, .ref (a 66)), (3, .int v3), (4, .int v4)]) hx hb dX12_could_103 hl (by decide) rfl (fun ls hl => ?_)
        refine lv_iconst (v := 1) hx hb dX12_could_105 (by decide) ?_
        refine lv_iload hx hb dX12_could_106 (lv_at hl 1 rfl) ?_
        refine lv_ishl hx hb dX12_could_108 ?_
        refine lv_topi (fun x18 ex18 => ?_)
        have hf := nm_s hf ex18
        refine lv_istore (lv' := [(7, .int x18), (6, .int x17), (5, .int q15), (0, .ref (a 66)), (3, .int v3), (4, .int v4)]) hx hb dX12_could_109 hl (by decide) rfl (fun ls hl => ?_)
        refine lv_aload_n hx hb dX12_could_111 rfl (lv_at hl 3 rfl) ?_
        refine g_get (Cn := RX12) (T := TX12) (N := 21) (v := .ref (a 75)) (own := RX12) hx hb hown hts hK M_O rfl (fun _ hw => List.mem_cons_of_mem _ (u12_cls _ hw)) 12 (by decide) (List.mem_cons_of_mem _ (u12_0 _ (List.mem_of_getElem? (i := 14) rfl))) rfl rfl hP dX12_could_112 ?_
        refine lv_iload hx hb dX12_could_115 (lv_at hl 2 rfl) ?_
        refine lv_iconst (v := 0) hx hb dX12_could_117 (by decide) ?_
        obtain ⟨c20, hf⟩ := gdi_s hf
        refine g_ias hx hb hK ha hA (⟨by decide, rfl⟩ : gAI 75 9) c20 hP hS dX12_could_118 (fun H locs hP hS => ?_)
        obtain ⟨h19, eh19⟩ : ∃ x, x = (sA h 75 (upd (aI h 75) q15.toNatClampNeg 0)) := ⟨_, rfl⟩
        rw [← eh19] at hP
        have hf := nm_s hf eh19
        exact J119 (X12_could_B83 v1 fu) ih FU v3 v4 x17 x18 h19 hf H locs ls hP hS (lv_sub hl [3, 4, 5, 1, 0] rfl)
  have J31 : ∀ (fu : Nat) (v3 : Int32) (v4 : Int32) (h : HS), X12_could_B31 v1 fu v3 v4 h = some (r, h') → gG p l e (headSpec uX12_could rmX12_could).room s m ([.ref (a 66), .int v1] : List Value).toArray below meth c (MQ below (gQ (some (.int r)) D a C h') ([.ref (a 66), .int v1] : List Value).toArray s 0 0 (gA a)) D a C 10 h 31 [(0, .ref (a 66)), (1, .int v1), (3, .int v3), (4, .int v4)] [] := by
    intro fu
    induction fu with
    | zero => intro v3 v4 h hf; exact absurd hf (by simp [X12_could_B31])
    | succ fu ih =>
      intro v3 v4 h hf H locs ls hP hS hl
      rw [X12_could_B31] at hf
      refine lv_iload hx hb dX12_could_31 (lv_at hl 3 rfl) ?_
      refine lv_iload_n hx hb dX12_could_33 rfl (lv_at hl 2 rfl) ?_
      refine lv_icmp_ge (tgt := 80) hx hb dX12_could_34 (by decide) (fun c6 => ?_) (fun c6 => ?_)
      · have hf := if_t hf c6
        refine lv_iconst (v := 0) hx hb dX12_could_80 (by decide) ?_
        refine lv_istore (lv' := [(4, .int 0), (0, .ref (a 66)), (1, .int v1), (3, .int v3)]) hx hb dX12_could_81 hl (by decide) rfl (fun ls hl => ?_)
        exact J83 FU v3 0 h hf H locs ls hP hS (lv_sub hl [1, 3, 0] rfl)
      · have hf := if_f hf c6
        refine lv_aload_n hx hb dX12_could_37 rfl (lv_at hl 0 rfl) ?_
        refine g_get (Cn := RX12) (T := TX12) (N := 21) (v := .ref (a 75)) (own := RX12) hx hb hown hts hK M_O rfl (fun _ hw => List.mem_cons_of_mem _ (u12_cls _ hw)) 12 (by decide) (List.mem_cons_of_mem _ (u12_0 _ (List.mem_of_getElem? (i := 14) rfl))) rfl rfl hP dX12_could_38 ?_
        refine lv_iload hx hb dX12_could_41 (lv_at hl 3 rfl) ?_
        refine lv_aload_n hx hb dX12_could_43 rfl (lv_at hl 0 rfl) ?_
        refine g_get (Cn := RX12) (T := TX12) (N := 21) (v := .ref (a 81)) (own := RX12) hx hb hown hts hK M_O rfl (fun _ hw => List.mem_cons_of_mem _ (u12_cls _ hw)) 19 (by decide) (List.mem_cons_of_mem _ (u12_1 _ (List.mem_of_getElem? (i := 0) rfl))) rfl rfl hP dX12_could_44 ?_
        refine lv_bipush (v := 100) hx hb dX12_could_47 (by decide) ?_
        refine lv_iload_n hx hb dX12_could_49 rfl (lv_at hl 1 rfl) ?_
        refine lv_imul hx hb dX12_could_50 ?_
        refine lv_iload hx hb dX12_could_51 (lv_at hl 3 rfl) ?_
        refine lv_iadd hx hb dX12_could_53 ?_
        obtain ⟨c7, hf⟩ := gdi_s hf
        refine g_ial hx hb hK (⟨by decide, rfl⟩ : gAI 81 800) c7 hP dX12_could_54 ?_
        obtain ⟨c9, hf⟩ := gdi_s hf
        refine g_ias hx hb hK ha hA (⟨by decide, rfl⟩ : gAI 75 9) c9 hP hS dX12_could_55 (fun H locs hP hS => ?_)
        obtain ⟨h8, eh8⟩ : ∃ x, x = (sA h 75 (upd (aI h 75) v4.toNatClampNeg (aI h 81 ((100 * v1) + v4).toNatClampNeg))) := ⟨_, rfl⟩
        rw [← eh8] at hP
        have hf := nm_s hf eh8
        refine lv_aload_n hx hb dX12_could_56 rfl (lv_at hl 0 rfl) ?_
        refine g_get (Cn := RX12) (T := TX12) (N := 21) (v := .ref (a 75)) (own := RX12) hx hb hown hts hK M_O rfl (fun _ hw => List.mem_cons_of_mem _ (u12_cls _ hw)) 12 (by decide) (List.mem_cons_of_mem _ (u12_0 _ (List.mem_of_getElem? (i := 14) rfl))) rfl rfl hP dX12_could_57 ?_
        refine lv_iload hx hb dX12_could_60 (lv_at hl 3 rfl) ?_
        obtain ⟨c10, hf⟩ := gdi_s hf
        refine g_ial hx hb hK (⟨by decide, rfl⟩ : gAI 75 9) c10 hP dX12_could_62 ?_
        refine lv_iconst (v := 0) hx hb dX12_could_63 (by decide) ?_
        refine lv_bipush (v := 8) hx hb dX12_could_64 (by decide) ?_
        obtain ⟨q11, hq11, hf⟩ := bind_s hf
        refine g_callS (As := [.int (aI h8 75 v4.toNatClampNeg), .int 0, .int 8]) (rest := []) hx hb hml hown hts hK hN (m_X12_isIn l D a C ha h8 (aI h8 75 v4.toNatClampNeg) 0 8  q11 hq11) (va_cwS 3 hts (gUS (u12_1 _ (List.mem_of_getElem? (i := 5) rfl)) (u12_1 _ (List.mem_of_getElem? (i := 6) rfl)) (u12_1 _ (List.mem_of_getElem? (i := 7) rfl)) (u12_1 _ (List.mem_of_getElem? (i := 1) rfl))) rfl rfl rfl kdX12_isIn.2 ⟨Nat.le_of_ble_eq_true rfl, Nat.le_of_ble_eq_true rfl⟩) hP hS hA rfl hl.1 rfl (Nat.le_of_ble_eq_true rfl) dX12_could_66 ⟨Nat.le_refl _, Nat.le_refl _⟩ (fun H locs hP hS => ?_)
        refine W.eq (g2 := F0 m 69 ls [.int q11]) rfl ?_
        refine lv_if_ne (tgt := 74) hx hb dX12_could_69 (by decide) (fun c12 => ?_) (fun c12 => ?_)
        · have hf := if_f hf c12
          obtain ⟨x13, ex13⟩ : ∃ y : Int32, y = (v4 + 1) := ⟨_, rfl⟩
          have hf := nm_s hf ex13
          refine lv_iinc (v := x13) (lv' := [(4, .int x13), (0, .ref (a 66)), (1, .int v1), (3, .int v3)]) hx hb dX12_could_74 hl (k := 3) rfl (by rw [ex13]; rfl) (by decide) rfl (fun ls hl => ?_)
          refine lv_goto (tgt := 31) hx hb dX12_could_77 (by decide) ?_
          exact ih v3 x13 h8 hf H locs ls hP hS (lv_sub hl [1, 2, 3, 0] rfl)
        · have hf := if_t hf c12
          refine lv_iconst (v := 0) hx hb dX12_could_72 (by decide) ?_
          exact g_iretW hx hb hr hlk hP hS (ret2 hf) dX12_could_73
  unfold X12_could at hf
  suffices hh : ∀ (H : Heap) (locs : List Loc), va_P D vwCl (gw a C h) H → va_S (gA a) s.heap H locs → W p l e (headSpec uX12_could rmX12_could).room s m ([.ref (a 66), .int v1] : List Value).toArray below meth c H locs 0 0 (MQ below (gQ (some (.int r)) D a C h') ([.ref (a 66), .int v1] : List Value).toArray s 0 0 (gA a)) (F0 m 0 ls []) from hh _ _ hP hS
  intro H locs hP hS
  refine lv_aload_n hx hb dX12_could_0 rfl (lv_at hl 0 rfl) ?_
  refine lv_iload_n hx hb dX12_could_1 rfl (lv_at hl 1 rfl) ?_
  refine lv_iconst (v := (-1)) hx hb dX12_could_2 (by decide) ?_
  obtain ⟨q1, hq1, hf⟩ := bind_s hf
  refine g_callV (As := [.int v1, .int (-1)]) (rest := []) hx hb hml hown hts hK hN (m_X12_wrongRow l D a C ha h v1 (-1)  q1 hq1) (cwV 2 hts (gUV (u12_4 _ (List.mem_of_getElem? (i := 13) rfl)) (u12_4 _ (List.mem_of_getElem? (i := 14) rfl)) (u12_4 _ (List.mem_of_getElem? (i := 15) rfl)) (u12_1 _ (List.mem_of_getElem? (i := 7) rfl)) (u12_4 _ (List.mem_of_getElem? (i := 10) rfl))) rfl rfl rfl kdX12_wrongRow ⟨Nat.le_of_ble_eq_true rfl, Nat.le_of_ble_eq_true rfl⟩) M_O rfl rfl hP hS hA rfl hl.1 rfl (Nat.le_of_ble_eq_true rfl) dX12_could_3 ⟨Nat.le_refl _, Nat.le_refl _⟩ (fun H locs hP hS => ?_)
  refine W.eq (g2 := F0 m 6 ls [.int q1]) rfl ?_
  refine lv_istore_n (lv' := [(2, .int q1), (0, .ref (a 66)), (1, .int v1)]) hx hb dX12_could_6 rfl hl (by decide) rfl (fun ls hl => ?_)
  refine lv_iload_n hx hb dX12_could_7 rfl (lv_at hl 0 rfl) ?_
  refine lv_if_eq (tgt := 13) hx hb dX12_could_8 (by decide) (fun c2 => ?_) (fun c2 => ?_)
  · have hf := if_t hf c2
    refine lv_aload_n hx hb dX12_could_13 rfl (lv_at hl 1 rfl) ?_
    refine g_get (Cn := RX12) (T := TX12) (N := 21) (v := .ref (a 80)) (own := RX12) hx hb hown hts hK M_O rfl (fun _ hw => List.mem_cons_of_mem _ (u12_cls _ hw)) 18 (by decide) (List.mem_cons_of_mem _ (u12_0 _ (List.mem_of_getElem? (i := 19) rfl))) rfl rfl hP dX12_could_14 ?_
    refine lv_iload_n hx hb dX12_could_17 rfl (lv_at hl 2 rfl) ?_
    obtain ⟨c3, hf⟩ := gdi_s hf
    refine g_ial hx hb hK (⟨by decide, rfl⟩ : gAI 80 8) c3 hP dX12_could_18 ?_
    refine lv_topi (fun x4 ex4 => ?_)
    have hf := nm_s hf ex4
    refine lv_istore_n (lv' := [(3, .int x4), (2, .int q1), (0, .ref (a 66)), (1, .int v1)]) hx hb dX12_could_19 rfl hl (by decide) rfl (fun ls hl => ?_)
    refine lv_iload_n hx hb dX12_could_20 rfl (lv_at hl 0 rfl) ?_
    refine lv_bipush (v := 9) hx hb dX12_could_21 (by decide) ?_
    refine lv_icmp_le (tgt := 28) hx hb dX12_could_23 (by decide) (fun c5 => ?_) (fun c5 => ?_)
    · have hf := if_t hf c5
      refine lv_iconst (v := 0) hx hb dX12_could_28 (by decide) ?_
      refine lv_istore (lv' := [(4, .int 0), (3, .int x4), (2, .int q1), (0, .ref (a 66)), (1, .int v1)]) hx hb dX12_could_29 hl (by decide) rfl (fun ls hl => ?_)
      exact J31 FU x4 0 h hf H locs ls hP hS (lv_sub hl [3, 4, 1, 0] rfl)
    · have hf := if_f hf c5
      refine lv_iconst (v := 0) hx hb dX12_could_26 (by decide) ?_
      exact g_iretW hx hb hr hlk hP hS (ret2 hf) dX12_could_27
  · have hf := if_f hf c2
    refine lv_iload_n hx hb dX12_could_11 rfl (lv_at hl 0 rfl) ?_
    exact g_iretW hx hb hr hlk hP hS (ret2 hf) dX12_could_12

def X12_leastOf (v0 : Int32) : Option Int32 :=
    (if v0 = 0 then
    some (-128)
    else
    (if v0 = 1 then
    some (-32768)
    else
    some (-2147483648)))
def uX12_leastOf : List Cond := .code yX12_leastOf cX12_leastOf 1 (some .int) :: UU
def rmX12_leastOf : Room := { frames := 0, cells := 0, slots := 0, locals := 0 }
theorem kdX12_leastOf : yX12_leastOf.cls = RX12 ∧ yX12_leastOf.cls ≠ "java/lang/invoke/MethodHandle" ∧ yX12_leastOf.cls ≠ "java/lang/invoke/VarHandle" ∧ (parseMethodDescriptor yX12_leastOf.desc).map (fun d => d.parameters.length) = some 1 := by decide +kernel
set_option maxHeartbeats 4000000 in
set_option maxRecDepth 100000 in
theorem m_X12_leastOf (l : Launch) (D : va_G) (a : Nat → Nat) (C : Nat → ClassId) (ha : ginj a) (h : HS) (v0 : Int32)  (r : Int32) (hf : X12_leastOf v0 = some r) : gM l yX12_leastOf uX12_leastOf rmX12_leastOf D a C [.int v0] h (some (.int r)) h := by
  refine g_start (av := [.int v0]) (cc := cX12_leastOf) (maxL := 1) (rt := (some .int)) (by decide) rfl (Nat.le_of_ble_eq_true rfl) ?_
  intro p e s m below meth c hx hb hr hml hown hlk hts hP hK hN ls hl
  have hA : ∀ q, gA a q → gA a q := fun _ q => q
  have hS : va_S (gA a) s.heap s.heap [] := va_S.rf
  have hl : lv_has ls 1 [(0, .int v0)] := hl
  unfold X12_leastOf at hf
  refine lv_iload_n hx hb dX12_leastOf_0 rfl (lv_at hl 0 rfl) ?_
  refine lv_if_ne (tgt := 9) hx hb dX12_leastOf_1 (by decide) (fun c1 => ?_) (fun c1 => ?_)
  · have hf := if_f hf c1
    refine lv_iload_n hx hb dX12_leastOf_9 rfl (lv_at hl 0 rfl) ?_
    refine lv_iconst (v := 1) hx hb dX12_leastOf_10 (by decide) ?_
    refine lv_icmp_ne (tgt := 20) hx hb dX12_leastOf_11 (by decide) (fun c2 => ?_) (fun c2 => ?_)
    · have hf := if_f hf c2
      refine lv_ldc (v := (-2147483648)) hx hb hown (hts _ (List.mem_cons_of_mem _ (u12_10 _ (List.mem_of_getElem? (i := 4) rfl)))) dX12_leastOf_20 ?_
      exact g_iret hx hb hr hlk hP hS (ret1 hf) dX12_leastOf_22
    · have hf := if_t hf c2
      refine lv_sipush (v := (-32768)) hx hb dX12_leastOf_14 (by decide) ?_
      refine lv_goto (tgt := 22) hx hb dX12_leastOf_17 (by decide) ?_
      exact g_iret hx hb hr hlk hP hS (ret1 hf) dX12_leastOf_22
  · have hf := if_t hf c1
    refine lv_bipush (v := (-128)) hx hb dX12_leastOf_4 (by decide) ?_
    refine lv_goto (tgt := 22) hx hb dX12_leastOf_6 (by decide) ?_
    exact g_iret hx hb hr hlk hP hS (ret1 hf) dX12_leastOf_22

def X12_isTold (h : HS) (v1 : Int32) (v2 : Int32) (v3 : Int32) : Option Int32 :=
    gdi ((100 * v1) + v2) 800 <|
    gdi v1 8 <|
    (X12_leastOf (aI h 79 v1.toNatClampNeg)).bind fun q3 =>
    (if (aI h 81 ((100 * v1) + v2).toNatClampNeg) = q3 then
    some 1
    else
    gdi ((100 * v1) + v2) 800 <|
    (if (aI h 81 ((100 * v1) + v2).toNatClampNeg) = v3 then
    some 1
    else
    some 0))
def uX12_isTold : List Cond := .code yX12_isTold cX12_isTold 4 (some .boolean) :: UU
def rmX12_isTold : Room := { frames := 1, cells := 0, slots := 0, locals := 20 }
theorem kdX12_isTold : yX12_isTold.cls = RX12 ∧ yX12_isTold.cls ≠ "java/lang/invoke/MethodHandle" ∧ yX12_isTold.cls ≠ "java/lang/invoke/VarHandle" ∧ (parseMethodDescriptor yX12_isTold.desc).map (fun d => d.parameters.length) = some 3 := by decide +kernel
set_option maxHeartbeats 4000000 in
set_option maxRecDepth 100000 in
theorem m_X12_isTold (l : Launch) (D : va_G) (a : Nat → Nat) (C : Nat → ClassId) (ha : ginj a) (h : HS) (v1 : Int32) (v2 : Int32) (v3 : Int32)  (r : Int32) (hf : X12_isTold h v1 v2 v3 = some r) : gM l yX12_isTold uX12_isTold rmX12_isTold D a C [.ref (a 66), .int v1, .int v2, .int v3] h (some (.int r)) h := by
  refine g_start (av := [.ref (a 66), .int v1, .int v2, .int v3]) (cc := cX12_isTold) (maxL := 4) (rt := (some .boolean)) (by decide) rfl (Nat.le_of_ble_eq_true rfl) ?_
  intro p e s m below meth c hx hb hr hml hown hlk hts hP hK hN ls hl
  have hA : ∀ q, gA a q → gA a q := fun _ q => q
  have hS : va_S (gA a) s.heap s.heap [] := va_S.rf
  have hl : lv_has ls 4 [(0, .ref (a 66)), (1, .int v1), (2, .int v2), (3, .int v3)] := hl
  unfold X12_isTold at hf
  refine lv_aload_n hx hb dX12_isTold_0 rfl (lv_at hl 0 rfl) ?_
  refine g_get (Cn := RX12) (T := TX12) (N := 21) (v := .ref (a 81)) (own := RX12) hx hb hown hts hK M_O rfl (fun _ hw => List.mem_cons_of_mem _ (u12_cls _ hw)) 19 (by decide) (List.mem_cons_of_mem _ (u12_1 _ (List.mem_of_getElem? (i := 0) rfl))) rfl rfl hP dX12_isTold_1 ?_
  refine lv_bipush (v := 100) hx hb dX12_isTold_4 (by decide) ?_
  refine lv_iload_n hx hb dX12_isTold_6 rfl (lv_at hl 1 rfl) ?_
  refine lv_imul hx hb dX12_isTold_7 ?_
  refine lv_iload_n hx hb dX12_isTold_8 rfl (lv_at hl 2 rfl) ?_
  refine lv_iadd hx hb dX12_isTold_9 ?_
  obtain ⟨c1, hf⟩ := gdi_s hf
  refine g_ial hx hb hK (⟨by decide, rfl⟩ : gAI 81 800) c1 hP dX12_isTold_10 ?_
  refine lv_aload_n hx hb dX12_isTold_11 rfl (lv_at hl 0 rfl) ?_
  refine g_get (Cn := RX12) (T := TX12) (N := 21) (v := .ref (a 79)) (own := RX12) hx hb hown hts hK M_O rfl (fun _ hw => List.mem_cons_of_mem _ (u12_cls _ hw)) 17 (by decide) (List.mem_cons_of_mem _ (u12_0 _ (List.mem_of_getElem? (i := 18) rfl))) rfl rfl hP dX12_isTold_12 ?_
  refine lv_iload_n hx hb dX12_isTold_15 rfl (lv_at hl 1 rfl) ?_
  obtain ⟨c2, hf⟩ := gdi_s hf
  refine g_ial hx hb hK (⟨by decide, rfl⟩ : gAI 79 8) c2 hP dX12_isTold_16 ?_
  obtain ⟨q3, hq3, hf⟩ := bind_s hf
  refine g_callS (As := [.int (aI h 79 v1.toNatClampNeg)]) (rest := [.int (aI h 81 ((100 * v1) + v2).toNatClampNeg)]) hx hb hml hown hts hK hN (m_X12_leastOf l D a C ha h (aI h 79 v1.toNatClampNeg)  q3 hq3) (va_cwS 1 hts (gUS (u12_10 _ (List.mem_of_getElem? (i := 6) rfl)) (u12_10 _ (List.mem_of_getElem? (i := 7) rfl)) (u12_1 _ (List.mem_of_getElem? (i := 7) rfl)) (u12_10 _ (List.mem_of_getElem? (i := 3) rfl))) rfl rfl rfl kdX12_leastOf.2 ⟨Nat.le_of_ble_eq_true rfl, Nat.le_of_ble_eq_true rfl⟩) hP hS hA rfl hl.1 rfl (Nat.le_of_ble_eq_true rfl) dX12_isTold_17 ⟨Nat.le_refl _, Nat.le_refl _⟩ (fun H locs hP hS => ?_)
  refine W.eq (g2 := F0 m 20 ls [.int q3, .int (aI h 81 ((100 * v1) + v2).toNatClampNeg)]) rfl ?_
  refine lv_icmp_eq (tgt := 38) hx hb dX12_isTold_20 (by decide) (fun c4 => ?_) (fun c4 => ?_)
  · have hf := if_t hf c4
    refine lv_iconst (v := 1) hx hb dX12_isTold_38 (by decide) ?_
    refine lv_goto (tgt := 43) hx hb dX12_isTold_39 (by decide) ?_
    exact g_zret hx hb hr hlk (by decide) hP hS (ret1 hf) dX12_isTold_43
  · have hf := if_f hf c4
    refine lv_aload_n hx hb dX12_isTold_23 rfl (lv_at hl 0 rfl) ?_
    refine g_get (Cn := RX12) (T := TX12) (N := 21) (v := .ref (a 81)) (own := RX12) hx hb hown hts hK M_O rfl (fun _ hw => List.mem_cons_of_mem _ (u12_cls _ hw)) 19 (by decide) (List.mem_cons_of_mem _ (u12_1 _ (List.mem_of_getElem? (i := 0) rfl))) rfl rfl hP dX12_isTold_24 ?_
    refine lv_bipush (v := 100) hx hb dX12_isTold_27 (by decide) ?_
    refine lv_iload_n hx hb dX12_isTold_29 rfl (lv_at hl 1 rfl) ?_
    refine lv_imul hx hb dX12_isTold_30 ?_
    refine lv_iload_n hx hb dX12_isTold_31 rfl (lv_at hl 2 rfl) ?_
    refine lv_iadd hx hb dX12_isTold_32 ?_
    obtain ⟨c5, hf⟩ := gdi_s hf
    refine g_ial hx hb hK (⟨by decide, rfl⟩ : gAI 81 800) c5 hP dX12_isTold_33 ?_
    refine lv_iload_n hx hb dX12_isTold_34 rfl (lv_at hl 3 rfl) ?_
    refine lv_icmp_ne (tgt := 42) hx hb dX12_isTold_35 (by decide) (fun c6 => ?_) (fun c6 => ?_)
    · have hf := if_f hf c6
      refine lv_iconst (v := 0) hx hb dX12_isTold_42 (by decide) ?_
      exact g_zret hx hb hr hlk (by decide) hP hS (ret1 hf) dX12_isTold_43
    · have hf := if_t hf c6
      refine lv_iconst (v := 1) hx hb dX12_isTold_38 (by decide) ?_
      refine lv_goto (tgt := 43) hx hb dX12_isTold_39 (by decide) ?_
      exact g_zret hx hb hr hlk (by decide) hP hS (ret1 hf) dX12_isTold_43

def X12_isHeardSo_B2 (v1 : Int32) : Nat → Int32 → HS → Option (Int32 × HS)
  | 0, _, _ => none
  | fu + 1, v2, h =>
    gdi v1 8 <|
    (if (aI h 80 v1.toNatClampNeg) ≤ v2 then
    some (1, h)
    else
    gdi 2 30 <|
    (X12_bits (aI h 68 (2 : Int32).toNatClampNeg)).bind fun q4 =>
    (X12_isTold h v1 v2 q4).bind fun q5 =>
    (if q5 = 0 then
    some (0, h)
    else
    (X12_day h 68 0).bind fun q7 =>
    nm (v2 + 1) fun x8 =>
    (X12_isHeardSo_B2 v1 fu) x8 q7))
def X12_isHeardSo (h : HS) (v1 : Int32) : Option (Int32 × HS) :=
    X12_isHeardSo_B2 v1 FU 0 h
def uX12_isHeardSo : List Cond := .code yX12_isHeardSo cX12_isHeardSo 3 (some .boolean) :: UU
def rmX12_isHeardSo : Room := { frames := 5, cells := 0, slots := 0, locals := 111 }
theorem kdX12_isHeardSo : yX12_isHeardSo.cls = RX12 ∧ yX12_isHeardSo.cls ≠ "java/lang/invoke/MethodHandle" ∧ yX12_isHeardSo.cls ≠ "java/lang/invoke/VarHandle" ∧ (parseMethodDescriptor yX12_isHeardSo.desc).map (fun d => d.parameters.length) = some 1 := by decide +kernel
set_option maxHeartbeats 4000000 in
set_option maxRecDepth 100000 in
theorem m_X12_isHeardSo (l : Launch) (D : va_G) (a : Nat → Nat) (C : Nat → ClassId) (ha : ginj a) (h : HS) (v1 : Int32)  (r : Int32) (h' : HS) (hf : X12_isHeardSo h v1 = some (r, h')) : gM l yX12_isHeardSo uX12_isHeardSo rmX12_isHeardSo D a C [.ref (a 66), .int v1] h (some (.int r)) h' := by
  refine g_start (av := [.ref (a 66), .int v1]) (cc := cX12_isHeardSo) (maxL := 3) (rt := (some .boolean)) (by decide) rfl (Nat.le_of_ble_eq_true rfl) ?_
  intro p e s m below meth c hx hb hr hml hown hlk hts hP hK hN ls hl
  have hA : ∀ q, gA a q → gA a q := fun _ q => q
  have hS : va_S (gA a) s.heap s.heap [] := va_S.rf
  have hl : lv_has ls 3 [(0, .ref (a 66)), (1, .int v1)] := hl
  have J2 : ∀ (fu : Nat) (v2 : Int32) (h : HS), X12_isHeardSo_B2 v1 fu v2 h = some (r, h') → gG p l e (headSpec uX12_isHeardSo rmX12_isHeardSo).room s m ([.ref (a 66), .int v1] : List Value).toArray below meth c (MQ below (gQ (some (.int r)) D a C h') ([.ref (a 66), .int v1] : List Value).toArray s 0 0 (gA a)) D a C 3 h 2 [(0, .ref (a 66)), (1, .int v1), (2, .int v2)] [] := by
    intro fu
    induction fu with
    | zero => intro v2 h hf; exact absurd hf (by simp [X12_isHeardSo_B2])
    | succ fu ih =>
      intro v2 h hf H locs ls hP hS hl
      rw [X12_isHeardSo_B2] at hf
      refine lv_iload_n hx hb dX12_isHeardSo_2 rfl (lv_at hl 2 rfl) ?_
      refine lv_aload_n hx hb dX12_isHeardSo_3 rfl (lv_at hl 0 rfl) ?_
      refine g_get (Cn := RX12) (T := TX12) (N := 21) (v := .ref (a 80)) (own := RX12) hx hb hown hts hK M_O rfl (fun _ hw => List.mem_cons_of_mem _ (u12_cls _ hw)) 18 (by decide) (List.mem_cons_of_mem _ (u12_0 _ (List.mem_of_getElem? (i := 19) rfl))) rfl rfl hP dX12_isHeardSo_4 ?_
      refine lv_iload_n hx hb dX12_isHeardSo_7 rfl (lv_at hl 1 rfl) ?_
      obtain ⟨c1, hf⟩ := gdi_s hf
      refine g_ial hx hb hK (⟨by decide, rfl⟩ : gAI 80 8) c1 hP dX12_isHeardSo_8 ?_
      refine lv_icmp_ge (tgt := 46) hx hb dX12_isHeardSo_9 (by decide) (fun c2 => ?_) (fun c2 => ?_)
      · have hf := if_t hf c2
        refine lv_iconst (v := 1) hx hb dX12_isHeardSo_46 (by decide) ?_
        exact g_zretW hx hb hr hlk (by decide) hP hS (ret2 hf) dX12_isHeardSo_47
      · have hf := if_f hf c2
        refine lv_aload_n hx hb dX12_isHeardSo_12 rfl (lv_at hl 0 rfl) ?_
        refine lv_iload_n hx hb dX12_isHeardSo_13 rfl (lv_at hl 1 rfl) ?_
        refine lv_iload_n hx hb dX12_isHeardSo_14 rfl (lv_at hl 2 rfl) ?_
        refine lv_aload_n hx hb dX12_isHeardSo_15 rfl (lv_at hl 0 rfl) ?_
        refine g_get (Cn := RX12) (T := TX12) (N := 21) (v := .ref (a 68)) (own := RX12) hx hb hown hts hK M_O rfl (fun _ hw => List.mem_cons_of_mem _ (u12_cls _ hw)) 1 (by decide) (List.mem_cons_of_mem _ (u12_0 _ (List.mem_of_getElem? (i := 6) rfl))) rfl rfl hP dX12_isHeardSo_16 ?_
        refine lv_iconst (v := 2) hx hb dX12_isHeardSo_19 (by decide) ?_
        obtain ⟨c3, hf⟩ := gdi_s hf
        refine g_ial hx hb hK (⟨by decide, rfl⟩ : gAI 68 30) c3 hP dX12_isHeardSo_20 ?_
        obtain ⟨q4, hq4, hf⟩ := bind_s hf
        refine g_callS (As := [.int (aI h 68 (2 : Int32).toNatClampNeg)]) (rest := [.int v2, .int v1, .ref (a 66)]) hx hb hml hown hts hK hN (m_X12_bits l D a C ha h (aI h 68 (2 : Int32).toNatClampNeg)  q4 hq4) (va_cwS 1 hts (gUS (u12_1 _ (List.mem_of_getElem? (i := 17) rfl)) (u12_1 _ (List.mem_of_getElem? (i := 18) rfl)) (u12_1 _ (List.mem_of_getElem? (i := 7) rfl)) (u12_1 _ (List.mem_of_getElem? (i := 13) rfl))) rfl rfl rfl kdX12_bits.2 ⟨Nat.le_of_ble_eq_true rfl, Nat.le_of_ble_eq_true rfl⟩) hP hS hA rfl hl.1 rfl (Nat.le_of_ble_eq_true rfl) dX12_isHeardSo_21 ⟨Nat.le_refl _, Nat.le_refl _⟩ (fun H locs hP hS => ?_)
        refine W.eq (g2 := F0 m 24 ls [.int q4, .int v2, .int v1, .ref (a 66)]) rfl ?_
        obtain ⟨q5, hq5, hf⟩ := bind_s hf
        refine g_callV (As := [.int v1, .int v2, .int q4]) (rest := []) hx hb hml hown hts hK hN (m_X12_isTold l D a C ha h v1 v2 q4  q5 hq5) (cwV 3 hts (gUV (u12_10 _ (List.mem_of_getElem? (i := 8) rfl)) (u12_10 _ (List.mem_of_getElem? (i := 9) rfl)) (u12_10 _ (List.mem_of_getElem? (i := 10) rfl)) (u12_1 _ (List.mem_of_getElem? (i := 7) rfl)) (u12_10 _ (List.mem_of_getElem? (i := 5) rfl))) rfl rfl rfl kdX12_isTold ⟨Nat.le_of_ble_eq_true rfl, Nat.le_of_ble_eq_true rfl⟩) M_O rfl rfl hP hS hA rfl hl.1 rfl (Nat.le_of_ble_eq_true rfl) dX12_isHeardSo_24 ⟨Nat.le_refl _, Nat.le_refl _⟩ (fun H locs hP hS => ?_)
        refine W.eq (g2 := F0 m 27 ls [.int q5]) rfl ?_
        refine lv_if_ne (tgt := 32) hx hb dX12_isHeardSo_27 (by decide) (fun c6 => ?_) (fun c6 => ?_)
        · have hf := if_f hf c6
          refine lv_aload_n hx hb dX12_isHeardSo_32 rfl (lv_at hl 0 rfl) ?_
          refine g_get (Cn := RX12) (T := TX12) (N := 21) (v := .ref (a 68)) (own := RX12) hx hb hown hts hK M_O rfl (fun _ hw => List.mem_cons_of_mem _ (u12_cls _ hw)) 1 (by decide) (List.mem_cons_of_mem _ (u12_0 _ (List.mem_of_getElem? (i := 6) rfl))) rfl rfl hP dX12_isHeardSo_33 ?_
          refine lv_iconst (v := 0) hx hb dX12_isHeardSo_36 (by decide) ?_
          obtain ⟨q7, hq7, hf⟩ := bind_s hf
          refine g_callS (As := [.ref (a 68), .int 0]) (rest := []) hx hb hml hown hts hK hN (m_X12_day l D a C ha h 68 0 (Or.inr (Or.inl rfl)) q7 hq7) (va_cwS 2 hts (gUS (u12_2 _ (List.mem_of_getElem? (i := 17) rfl)) (u12_2 _ (List.mem_of_getElem? (i := 18) rfl)) (u12_1 _ (List.mem_of_getElem? (i := 7) rfl)) (u12_2 _ (List.mem_of_getElem? (i := 16) rfl))) rfl rfl rfl kdX12_day.2 ⟨Nat.le_of_ble_eq_true rfl, Nat.le_of_ble_eq_true rfl⟩) hP hS hA rfl hl.1 rfl (Nat.le_of_ble_eq_true rfl) dX12_isHeardSo_37 ⟨Nat.le_refl _, Nat.le_refl _⟩ (fun H locs hP hS => ?_)
          refine W.eq (g2 := F0 m 40 ls []) rfl ?_
          obtain ⟨x8, ex8⟩ : ∃ y : Int32, y = (v2 + 1) := ⟨_, rfl⟩
          have hf := nm_s hf ex8
          refine lv_iinc (v := x8) (lv' := [(2, .int x8), (0, .ref (a 66)), (1, .int v1)]) hx hb dX12_isHeardSo_40 hl (k := 2) rfl (by rw [ex8]; rfl) (by decide) rfl (fun ls hl => ?_)
          refine lv_goto (tgt := 2) hx hb dX12_isHeardSo_43 (by decide) ?_
          exact ih x8 q7 hf H locs ls hP hS (lv_sub hl [1, 2, 0] rfl)
        · have hf := if_t hf c6
          refine lv_iconst (v := 0) hx hb dX12_isHeardSo_30 (by decide) ?_
          exact g_zretW hx hb hr hlk (by decide) hP hS (ret2 hf) dX12_isHeardSo_31
  unfold X12_isHeardSo at hf
  suffices hh : ∀ (H : Heap) (locs : List Loc), va_P D vwCl (gw a C h) H → va_S (gA a) s.heap H locs → W p l e (headSpec uX12_isHeardSo rmX12_isHeardSo).room s m ([.ref (a 66), .int v1] : List Value).toArray below meth c H locs 0 0 (MQ below (gQ (some (.int r)) D a C h') ([.ref (a 66), .int v1] : List Value).toArray s 0 0 (gA a)) (F0 m 0 ls []) from hh _ _ hP hS
  intro H locs hP hS
  refine lv_iconst (v := 0) hx hb dX12_isHeardSo_0 (by decide) ?_
  refine lv_istore_n (lv' := [(2, .int 0), (0, .ref (a 66)), (1, .int v1)]) hx hb dX12_isHeardSo_1 rfl hl (by decide) rfl (fun ls hl => ?_)
  exact J2 FU 0 h hf H locs ls hP hS (lv_sub hl [1, 2, 0] rfl)

def X12_whatIs_B133 (v1 : Int32) (v2 : Int32) (v3 : Int32) (k41 : Int32 → Int32 → HS → Option (Int32 × HS)) (v6 : Int32) (s0 : Int32) (s1 : Int32) (h : HS) : Option (Int32 × HS) :=
    nm (s1 ||| s0) fun x19 =>
    nm (v6 + 1) fun x20 =>
    k41 x19 x20 h
def X12_whatIs_B112 (v1 : Int32) (v2 : Int32) (v3 : Int32) (k41 : Int32 → Int32 → HS → Option (Int32 × HS)) (v5 : Int32) (v6 : Int32) (s0 : Int32) (s1 : Int32) (s2 : Int32) (h : HS) : Option (Int32 × HS) :=
    (X12_becomes h 68 s2 s1 s0).bind fun q16 =>
    (X12_isHeardSo q16 v1).bind fun q17 =>
    (if q17.1 = 0 then
    X12_whatIs_B133 v1 v2 v3 k41 v6 0 v5 q17.2
    else
    X12_whatIs_B133 v1 v2 v3 k41 v6 ((1 : Int32) <<< (v6 &&& 31)) v5 q17.2)
def X12_whatIs_B92 (v1 : Int32) (v2 : Int32) (v3 : Int32) (k41 : Int32 → Int32 → HS → Option (Int32 × HS)) (v5 : Int32) (v6 : Int32) (s0 : Int32) (s1 : Int32) (h : HS) : Option (Int32 × HS) :=
    (if v3 = 1 then
    X12_whatIs_B112 v1 v2 v3 k41 v5 v6 v6 s0 s1 h
    else
    (X12_of v2 1).bind fun q14 =>
    gdi q14 30 <|
    X12_whatIs_B112 v1 v2 v3 k41 v5 v6 (aI h 67 q14.toNatClampNeg) s0 s1 h)
def X12_whatIs_B54 (v1 : Int32) (v2 : Int32) (v3 : Int32) (k41 : Int32 → Int32 → HS → Option (Int32 × HS)) (v5 : Int32) (v6 : Int32) (s0 : Int32) (s1 : Int32) (h : HS) : Option (Int32 × HS) :=
    (if s0 ≤ s1 then
    some (v5, h)
    else
    (X12_copies h 67 68).bind fun q9 =>
    (if v3 = 0 then
    X12_whatIs_B92 v1 v2 v3 k41 v5 v6 v6 v2 q9
    else
    (X12_of v2 0).bind fun q11 =>
    gdi q11 30 <|
    X12_whatIs_B92 v1 v2 v3 k41 v5 v6 (aI q9 67 q11.toNatClampNeg) v2 q9))
def X12_whatIs_B41 (v1 : Int32) (v2 : Int32) (v3 : Int32) : Nat → Int32 → Int32 → HS → Option (Int32 × HS)
  | 0, _, _, _ => none
  | fu + 1, v5, v6, h =>
    (if v3 = 0 then
    X12_whatIs_B54 v1 v2 v3 (X12_whatIs_B41 v1 v2 v3 fu) v5 v6 8 v6 h
    else
    X12_whatIs_B54 v1 v2 v3 (X12_whatIs_B41 v1 v2 v3 fu) v5 v6 10 v6 h)
def X12_whatIs (h : HS) (v1 : Int32) (v2 : Int32) (v3 : Int32) : Option (Int32 × HS) :=
    (X12_isOne h v2).bind fun q1 =>
    (if q1 = 0 then
    some ((-1), h)
    else
    (X12_isIn v3 0 1).bind fun q3 =>
    (if q3 = 0 then
    some ((-1), h)
    else
    (X12_wrongRow h v1 (-1)).bind fun q5 =>
    (if q5 = 0 then
    X12_whatIs_B41 v1 v2 v3 FU 0 0 h
    else
    some (q5, h))))
def uX12_whatIs : List Cond := .code yX12_whatIs cX12_whatIs 7 (some .int) :: UU
def rmX12_whatIs : Room := { frames := 6, cells := 0, slots := 0, locals := 133 }
theorem kdX12_whatIs : yX12_whatIs.cls = RX12 ∧ yX12_whatIs.cls ≠ "java/lang/invoke/MethodHandle" ∧ yX12_whatIs.cls ≠ "java/lang/invoke/VarHandle" ∧ (parseMethodDescriptor yX12_whatIs.desc).map (fun d => d.parameters.length) = some 3 := by decide +kernel
set_option maxHeartbeats 4000000 in
set_option maxRecDepth 100000 in
theorem m_X12_whatIs (l : Launch) (D : va_G) (a : Nat → Nat) (C : Nat → ClassId) (ha : ginj a) (h : HS) (v1 : Int32) (v2 : Int32) (v3 : Int32)  (r : Int32) (h' : HS) (hf : X12_whatIs h v1 v2 v3 = some (r, h')) : gM l yX12_whatIs uX12_whatIs rmX12_whatIs D a C [.ref (a 66), .int v1, .int v2, .int v3] h (some (.int r)) h' := by
  refine g_start (av := [.ref (a 66), .int v1, .int v2, .int v3]) (cc := cX12_whatIs) (maxL := 7) (rt := (some .int)) (by decide) rfl (Nat.le_of_ble_eq_true rfl) ?_
  intro p e s m below meth c hx hb hr hml hown hlk hts hP hK hN ls hl
  have hA : ∀ q, gA a q → gA a q := fun _ q => q
  have hS : va_S (gA a) s.heap s.heap [] := va_S.rf
  have hl : lv_has ls 7 [(0, .ref (a 66)), (1, .int v1), (2, .int v2), (3, .int v3)] := hl
  have J133 : ∀ (k41 : Int32 → Int32 → HS → Option (Int32 × HS)) (hk41 : ∀ (v5 : Int32) (v6 : Int32) (h : HS), k41 v5 v6 h = some (r, h') → gG p l e (headSpec uX12_whatIs rmX12_whatIs).room s m ([.ref (a 66), .int v1, .int v2, .int v3] : List Value).toArray below meth c (MQ below (gQ (some (.int r)) D a C h') ([.ref (a 66), .int v1, .int v2, .int v3] : List Value).toArray s 0 0 (gA a)) D a C 7 h 41 [(0, .ref (a 66)), (1, .int v1), (2, .int v2), (3, .int v3), (5, .int v5), (6, .int v6)] []) (v6 : Int32) (s0 : Int32) (s1 : Int32) (h : HS) (_ : X12_whatIs_B133 v1 v2 v3 k41 v6 s0 s1 h = some (r, h')), gG p l e (headSpec uX12_whatIs rmX12_whatIs).room s m ([.ref (a 66), .int v1, .int v2, .int v3] : List Value).toArray below meth c (MQ below (gQ (some (.int r)) D a C h') ([.ref (a 66), .int v1, .int v2, .int v3] : List Value).toArray s 0 0 (gA a)) D a C 7 h 133 [(0, .ref (a 66)), (1, .int v1), (2, .int v2), (3, .int v3), (6, .int v6)] [.int s0, .int s1] := by
    intro k41 hk41 v6 s0 s1 h hf H locs ls hP hS hl
    unfold X12_whatIs_B133 at hf
    refine lv_ior hx hb dX12_whatIs_133 ?_
    refine lv_topi (fun x19 ex19 => ?_)
    have hf := nm_s hf ex19
    refine lv_istore (lv' := [(5, .int x19), (0, .ref (a 66)), (1, .int v1), (2, .int v2), (3, .int v3), (6, .int v6)]) hx hb dX12_whatIs_134 hl (by decide) rfl (fun ls hl => ?_)
    obtain ⟨x20, ex20⟩ : ∃ y : Int32, y = (v6 + 1) := ⟨_, rfl⟩
    have hf := nm_s hf ex20
    refine lv_iinc (v := x20) (lv' := [(6, .int x20), (5, .int x19), (0, .ref (a 66)), (1, .int v1), (2, .int v2), (3, .int v3)]) hx hb dX12_whatIs_136 hl (k := 5) rfl (by rw [ex20]; rfl) (by decide) rfl (fun ls hl => ?_)
    refine lv_goto (tgt := 41) hx hb dX12_whatIs_139 (by decide) ?_
    exact hk41 x19 x20 h hf H locs ls hP hS (lv_sub hl [2, 3, 4, 5, 1, 0] rfl)
  have J112 : ∀ (k41 : Int32 → Int32 → HS → Option (Int32 × HS)) (hk41 : ∀ (v5 : Int32) (v6 : Int32) (h : HS), k41 v5 v6 h = some (r, h') → gG p l e (headSpec uX12_whatIs rmX12_whatIs).room s m ([.ref (a 66), .int v1, .int v2, .int v3] : List Value).toArray below meth c (MQ below (gQ (some (.int r)) D a C h') ([.ref (a 66), .int v1, .int v2, .int v3] : List Value).toArray s 0 0 (gA a)) D a C 7 h 41 [(0, .ref (a 66)), (1, .int v1), (2, .int v2), (3, .int v3), (5, .int v5), (6, .int v6)] []) (v5 : Int32) (v6 : Int32) (s0 : Int32) (s1 : Int32) (s2 : Int32) (h : HS) (_ : X12_whatIs_B112 v1 v2 v3 k41 v5 v6 s0 s1 s2 h = some (r, h')), gG p l e (headSpec uX12_whatIs rmX12_whatIs).room s m ([.ref (a 66), .int v1, .int v2, .int v3] : List Value).toArray below meth c (MQ below (gQ (some (.int r)) D a C h') ([.ref (a 66), .int v1, .int v2, .int v3] : List Value).toArray s 0 0 (gA a)) D a C 7 h 112 [(0, .ref (a 66)), (1, .int v1), (2, .int v2), (3, .int v3), (5, .int v5), (6, .int v6)] [.int s0, .int s1, .int s2, .ref (a 68)] := by
    intro k41 hk41 v5 v6 s0 s1 s2 h hf H locs ls hP hS hl
    unfold X12_whatIs_B112 at hf
    obtain ⟨q16, hq16, hf⟩ := bind_s hf
    refine g_callS (As := [.ref (a 68), .int s2, .int s1, .int s0]) (rest := []) hx hb hml hown hts hK hN (m_X12_becomes l D a C ha h 68 s2 s1 s0 (Or.inr (Or.inl rfl)) q16 hq16) (va_cwS 4 hts (gUS (u12_4 _ (List.mem_of_getElem? (i := 4) rfl)) (u12_4 _ (List.mem_of_getElem? (i := 5) rfl)) (u12_1 _ (List.mem_of_getElem? (i := 7) rfl)) (u12_3 _ (List.mem_of_getElem? (i := 2) rfl))) rfl rfl rfl kdX12_becomes.2 ⟨Nat.le_of_ble_eq_true rfl, Nat.le_of_ble_eq_true rfl⟩) hP hS hA rfl hl.1 rfl (Nat.le_of_ble_eq_true rfl) dX12_whatIs_112 ⟨Nat.le_refl _, Nat.le_refl _⟩ (fun H locs hP hS => ?_)
    refine W.eq (g2 := F0 m 115 ls []) rfl ?_
    refine lv_iload hx hb dX12_whatIs_115 (lv_at hl 4 rfl) ?_
    refine lv_aload_n hx hb dX12_whatIs_117 rfl (lv_at hl 0 rfl) ?_
    refine lv_iload_n hx hb dX12_whatIs_118 rfl (lv_at hl 1 rfl) ?_
    obtain ⟨q17, hq17, hf⟩ := bind_s hf
    refine g_callV (As := [.int v1]) (rest := [.int v5]) hx hb hml hown hts hK hN (m_X12_isHeardSo l D a C ha q16 v1  q17.1 q17.2 hq17) (cwV 1 hts (gUV (u12_10 _ (List.mem_of_getElem? (i := 12) rfl)) (u12_10 _ (List.mem_of_getElem? (i := 13) rfl)) (u12_10 _ (List.mem_of_getElem? (i := 14) rfl)) (u12_1 _ (List.mem_of_getElem? (i := 7) rfl)) (u12_10 _ (List.mem_of_getElem? (i := 11) rfl))) rfl rfl rfl kdX12_isHeardSo ⟨Nat.le_of_ble_eq_true rfl, Nat.le_of_ble_eq_true rfl⟩) M_O rfl rfl hP hS hA rfl hl.1 rfl (Nat.le_of_ble_eq_true rfl) dX12_whatIs_119 ⟨Nat.le_refl _, Nat.le_refl _⟩ (fun H locs hP hS => ?_)
    refine W.eq (g2 := F0 m 122 ls [.int q17.1, .int v5]) rfl ?_
    refine lv_if_eq (tgt := 132) hx hb dX12_whatIs_122 (by decide) (fun c18 => ?_) (fun c18 => ?_)
    · have hf := if_t hf c18
      refine lv_iconst (v := 0) hx hb dX12_whatIs_132 (by decide) ?_
      exact J133 k41 hk41 v6 0 v5 q17.2 hf H locs ls hP hS (lv_sub hl [0, 1, 2, 3, 5] rfl)
    · have hf := if_f hf c18
      refine lv_iconst (v := 1) hx hb dX12_whatIs_125 (by decide) ?_
      refine lv_iload hx hb dX12_whatIs_126 (lv_at hl 5 rfl) ?_
      refine lv_ishl hx hb dX12_whatIs_128 ?_
      refine lv_goto (tgt := 133) hx hb dX12_whatIs_129 (by decide) ?_
      exact J133 k41 hk41 v6 ((1 : Int32) <<< (v6 &&& 31)) v5 q17.2 hf H locs ls hP hS (lv_sub hl [0, 1, 2, 3, 5] rfl)
  have J92 : ∀ (k41 : Int32 → Int32 → HS → Option (Int32 × HS)) (hk41 : ∀ (v5 : Int32) (v6 : Int32) (h : HS), k41 v5 v6 h = some (r, h') → gG p l e (headSpec uX12_whatIs rmX12_whatIs).room s m ([.ref (a 66), .int v1, .int v2, .int v3] : List Value).toArray below meth c (MQ below (gQ (some (.int r)) D a C h') ([.ref (a 66), .int v1, .int v2, .int v3] : List Value).toArray s 0 0 (gA a)) D a C 7 h 41 [(0, .ref (a 66)), (1, .int v1), (2, .int v2), (3, .int v3), (5, .int v5), (6, .int v6)] []) (v5 : Int32) (v6 : Int32) (s0 : Int32) (s1 : Int32) (h : HS) (_ : X12_whatIs_B92 v1 v2 v3 k41 v5 v6 s0 s1 h = some (r, h')), gG p l e (headSpec uX12_whatIs rmX12_whatIs).room s m ([.ref (a 66), .int v1, .int v2, .int v3] : List Value).toArray below meth c (MQ below (gQ (some (.int r)) D a C h') ([.ref (a 66), .int v1, .int v2, .int v3] : List Value).toArray s 0 0 (gA a)) D a C 7 h 92 [(0, .ref (a 66)), (1, .int v1), (2, .int v2), (3, .int v3), (5, .int v5), (6, .int v6)] [.int s0, .int s1, .ref (a 68)] := by
    intro k41 hk41 v5 v6 s0 s1 h hf H locs ls hP hS hl
    unfold X12_whatIs_B92 at hf
    refine lv_iload_n hx hb dX12_whatIs_92 rfl (lv_at hl 3 rfl) ?_
    refine lv_iconst (v := 1) hx hb dX12_whatIs_93 (by decide) ?_
    refine lv_icmp_ne (tgt := 102) hx hb dX12_whatIs_94 (by decide) (fun c13 => ?_) (fun c13 => ?_)
    · have hf := if_f hf c13
      refine lv_aload_n hx hb dX12_whatIs_102 rfl (lv_at hl 0 rfl) ?_
      refine g_get (Cn := RX12) (T := TX12) (N := 21) (v := .ref (a 67)) (own := RX12) hx hb hown hts hK M_O rfl (fun _ hw => List.mem_cons_of_mem _ (u12_cls _ hw)) 0 (by decide) (List.mem_cons_of_mem _ (u12_0 _ (List.mem_of_getElem? (i := 5) rfl))) rfl rfl hP dX12_whatIs_103 ?_
      refine lv_iload_n hx hb dX12_whatIs_106 rfl (lv_at hl 2 rfl) ?_
      refine lv_iconst (v := 1) hx hb dX12_whatIs_107 (by decide) ?_
      obtain ⟨q14, hq14, hf⟩ := bind_s hf
      refine g_callS (As := [.int v2, .int 1]) (rest := [.ref (a 67), .int s0, .int s1, .ref (a 68)]) hx hb hml hown hts hK hN (m_X12_of l D a C ha h v2 1  q14 hq14) (va_cwS 2 hts (gUS (u12_1 _ (List.mem_of_getElem? (i := 15) rfl)) (u12_1 _ (List.mem_of_getElem? (i := 16) rfl)) (u12_1 _ (List.mem_of_getElem? (i := 7) rfl)) (u12_1 _ (List.mem_of_getElem? (i := 3) rfl))) rfl rfl rfl kdX12_of.2 ⟨Nat.le_of_ble_eq_true rfl, Nat.le_of_ble_eq_true rfl⟩) hP hS hA rfl hl.1 rfl (Nat.le_of_ble_eq_true rfl) dX12_whatIs_108 ⟨Nat.le_refl _, Nat.le_refl _⟩ (fun H locs hP hS => ?_)
      refine W.eq (g2 := F0 m 111 ls [.int q14, .ref (a 67), .int s0, .int s1, .ref (a 68)]) rfl ?_
      obtain ⟨c15, hf⟩ := gdi_s hf
      refine g_ial hx hb hK (⟨by decide, rfl⟩ : gAI 67 30) c15 hP dX12_whatIs_111 ?_
      exact J112 k41 hk41 v5 v6 (aI h 67 q14.toNatClampNeg) s0 s1 h hf H locs ls hP hS (lv_sub hl [0, 1, 2, 3, 4, 5] rfl)
    · have hf := if_t hf c13
      refine lv_iload hx hb dX12_whatIs_97 (lv_at hl 5 rfl) ?_
      refine lv_goto (tgt := 112) hx hb dX12_whatIs_99 (by decide) ?_
      exact J112 k41 hk41 v5 v6 v6 s0 s1 h hf H locs ls hP hS (lv_sub hl [0, 1, 2, 3, 4, 5] rfl)
  have J54 : ∀ (k41 : Int32 → Int32 → HS → Option (Int32 × HS)) (hk41 : ∀ (v5 : Int32) (v6 : Int32) (h : HS), k41 v5 v6 h = some (r, h') → gG p l e (headSpec uX12_whatIs rmX12_whatIs).room s m ([.ref (a 66), .int v1, .int v2, .int v3] : List Value).toArray below meth c (MQ below (gQ (some (.int r)) D a C h') ([.ref (a 66), .int v1, .int v2, .int v3] : List Value).toArray s 0 0 (gA a)) D a C 7 h 41 [(0, .ref (a 66)), (1, .int v1), (2, .int v2), (3, .int v3), (5, .int v5), (6, .int v6)] []) (v5 : Int32) (v6 : Int32) (s0 : Int32) (s1 : Int32) (h : HS) (_ : X12_whatIs_B54 v1 v2 v3 k41 v5 v6 s0 s1 h = some (r, h')), gG p l e (headSpec uX12_whatIs rmX12_whatIs).room s m ([.ref (a 66), .int v1, .int v2, .int v3] : List Value).toArray below meth c (MQ below (gQ (some (.int r)) D a C h') ([.ref (a 66), .int v1, .int v2, .int v3] : List Value).toArray s 0 0 (gA a)) D a C 7 h 54 [(0, .ref (a 66)), (1, .int v1), (2, .int v2), (3, .int v3), (5, .int v5), (6, .int v6)] [.int s0, .int s1] := by
    intro k41 hk41 v5 v6 s0 s1 h hf H locs ls hP hS hl
    unfold X12_whatIs_B54 at hf
    refine lv_icmp_ge (tgt := 142) hx hb dX12_whatIs_54 (by decide) (fun c8 => ?_) (fun c8 => ?_)
    · have hf := if_t hf c8
      refine lv_iload hx hb dX12_whatIs_142 (lv_at hl 4 rfl) ?_
      exact g_iretW hx hb hr hlk hP hS (ret2 hf) dX12_whatIs_144
    · have hf := if_f hf c8
      refine lv_aload_n hx hb dX12_whatIs_57 rfl (lv_at hl 0 rfl) ?_
      refine g_get (Cn := RX12) (T := TX12) (N := 21) (v := .ref (a 67)) (own := RX12) hx hb hown hts hK M_O rfl (fun _ hw => List.mem_cons_of_mem _ (u12_cls _ hw)) 0 (by decide) (List.mem_cons_of_mem _ (u12_0 _ (List.mem_of_getElem? (i := 5) rfl))) rfl rfl hP dX12_whatIs_58 ?_
      refine lv_aload_n hx hb dX12_whatIs_61 rfl (lv_at hl 0 rfl) ?_
      refine g_get (Cn := RX12) (T := TX12) (N := 21) (v := .ref (a 68)) (own := RX12) hx hb hown hts hK M_O rfl (fun _ hw => List.mem_cons_of_mem _ (u12_cls _ hw)) 1 (by decide) (List.mem_cons_of_mem _ (u12_0 _ (List.mem_of_getElem? (i := 6) rfl))) rfl rfl hP dX12_whatIs_62 ?_
      obtain ⟨q9, hq9, hf⟩ := bind_s hf
      refine g_callS (As := [.ref (a 67), .ref (a 68)]) (rest := []) hx hb hml hown hts hK hN (m_X12_copies l D a C ha h 67 68 (Or.inl rfl) (Or.inr (Or.inl rfl)) q9 hq9) (va_cwS 2 hts (gUS (u12_4 _ (List.mem_of_getElem? (i := 19) rfl)) (u12_5 _ (List.mem_of_getElem? (i := 0) rfl)) (u12_1 _ (List.mem_of_getElem? (i := 7) rfl)) (u12_1 _ (List.mem_of_getElem? (i := 2) rfl))) rfl rfl rfl kdX12_copies.2 ⟨Nat.le_of_ble_eq_true rfl, Nat.le_of_ble_eq_true rfl⟩) hP hS hA rfl hl.1 rfl (Nat.le_of_ble_eq_true rfl) dX12_whatIs_65 ⟨Nat.le_refl _, Nat.le_refl _⟩ (fun H locs hP hS => ?_)
      refine W.eq (g2 := F0 m 68 ls []) rfl ?_
      refine lv_aload_n hx hb dX12_whatIs_68 rfl (lv_at hl 0 rfl) ?_
      refine g_get (Cn := RX12) (T := TX12) (N := 21) (v := .ref (a 68)) (own := RX12) hx hb hown hts hK M_O rfl (fun _ hw => List.mem_cons_of_mem _ (u12_cls _ hw)) 1 (by decide) (List.mem_cons_of_mem _ (u12_0 _ (List.mem_of_getElem? (i := 6) rfl))) rfl rfl hP dX12_whatIs_69 ?_
      refine lv_iload_n hx hb dX12_whatIs_72 rfl (lv_at hl 2 rfl) ?_
      refine lv_iload_n hx hb dX12_whatIs_73 rfl (lv_at hl 3 rfl) ?_
      refine lv_if_ne (tgt := 82) hx hb dX12_whatIs_74 (by decide) (fun c10 => ?_) (fun c10 => ?_)
      · have hf := if_f hf c10
        refine lv_aload_n hx hb dX12_whatIs_82 rfl (lv_at hl 0 rfl) ?_
        refine g_get (Cn := RX12) (T := TX12) (N := 21) (v := .ref (a 67)) (own := RX12) hx hb hown hts hK M_O rfl (fun _ hw => List.mem_cons_of_mem _ (u12_cls _ hw)) 0 (by decide) (List.mem_cons_of_mem _ (u12_0 _ (List.mem_of_getElem? (i := 5) rfl))) rfl rfl hP dX12_whatIs_83 ?_
        refine lv_iload_n hx hb dX12_whatIs_86 rfl (lv_at hl 2 rfl) ?_
        refine lv_iconst (v := 0) hx hb dX12_whatIs_87 (by decide) ?_
        obtain ⟨q11, hq11, hf⟩ := bind_s hf
        refine g_callS (As := [.int v2, .int 0]) (rest := [.ref (a 67), .int v2, .ref (a 68)]) hx hb hml hown hts hK hN (m_X12_of l D a C ha q9 v2 0  q11 hq11) (va_cwS 2 hts (gUS (u12_1 _ (List.mem_of_getElem? (i := 15) rfl)) (u12_1 _ (List.mem_of_getElem? (i := 16) rfl)) (u12_1 _ (List.mem_of_getElem? (i := 7) rfl)) (u12_1 _ (List.mem_of_getElem? (i := 3) rfl))) rfl rfl rfl kdX12_of.2 ⟨Nat.le_of_ble_eq_true rfl, Nat.le_of_ble_eq_true rfl⟩) hP hS hA rfl hl.1 rfl (Nat.le_of_ble_eq_true rfl) dX12_whatIs_88 ⟨Nat.le_refl _, Nat.le_refl _⟩ (fun H locs hP hS => ?_)
        refine W.eq (g2 := F0 m 91 ls [.int q11, .ref (a 67), .int v2, .ref (a 68)]) rfl ?_
        obtain ⟨c12, hf⟩ := gdi_s hf
        refine g_ial hx hb hK (⟨by decide, rfl⟩ : gAI 67 30) c12 hP dX12_whatIs_91 ?_
        exact J92 k41 hk41 v5 v6 (aI q9 67 q11.toNatClampNeg) v2 q9 hf H locs ls hP hS (lv_sub hl [0, 1, 2, 3, 4, 5] rfl)
      · have hf := if_t hf c10
        refine lv_iload hx hb dX12_whatIs_77 (lv_at hl 5 rfl) ?_
        refine lv_goto (tgt := 92) hx hb dX12_whatIs_79 (by decide) ?_
        exact J92 k41 hk41 v5 v6 v6 v2 q9 hf H locs ls hP hS (lv_sub hl [0, 1, 2, 3, 4, 5] rfl)
  have J41 : ∀ (fu : Nat) (v5 : Int32) (v6 : Int32) (h : HS), X12_whatIs_B41 v1 v2 v3 fu v5 v6 h = some (r, h') → gG p l e (headSpec uX12_whatIs rmX12_whatIs).room s m ([.ref (a 66), .int v1, .int v2, .int v3] : List Value).toArray below meth c (MQ below (gQ (some (.int r)) D a C h') ([.ref (a 66), .int v1, .int v2, .int v3] : List Value).toArray s 0 0 (gA a)) D a C 7 h 41 [(0, .ref (a 66)), (1, .int v1), (2, .int v2), (3, .int v3), (5, .int v5), (6, .int v6)] [] := by
    intro fu
    induction fu with
    | zero => intro v5 v6 h hf; exact absurd hf (by simp [X12_whatIs_B41])
    | succ fu ih =>
      intro v5 v6 h hf H locs ls hP hS hl
      rw [X12_whatIs_B41] at hf
      refine lv_iload hx hb dX12_whatIs_41 (lv_at hl 5 rfl) ?_
      refine lv_iload_n hx hb dX12_whatIs_43 rfl (lv_at hl 3 rfl) ?_
      refine lv_if_ne (tgt := 52) hx hb dX12_whatIs_44 (by decide) (fun c7 => ?_) (fun c7 => ?_)
      · have hf := if_f hf c7
        refine lv_bipush (v := 10) hx hb dX12_whatIs_52 (by decide) ?_
        exact J54 (X12_whatIs_B41 v1 v2 v3 fu) ih v5 v6 10 v6 h hf H locs ls hP hS (lv_sub hl [0, 1, 2, 3, 4, 5] rfl)
      · have hf := if_t hf c7
        refine lv_bipush (v := 8) hx hb dX12_whatIs_47 (by decide) ?_
        refine lv_goto (tgt := 54) hx hb dX12_whatIs_49 (by decide) ?_
        exact J54 (X12_whatIs_B41 v1 v2 v3 fu) ih v5 v6 8 v6 h hf H locs ls hP hS (lv_sub hl [0, 1, 2, 3, 4, 5] rfl)
  unfold X12_whatIs at hf
  suffices hh : ∀ (H : Heap) (locs : List Loc), va_P D vwCl (gw a C h) H → va_S (gA a) s.heap H locs → W p l e (headSpec uX12_whatIs rmX12_whatIs).room s m ([.ref (a 66), .int v1, .int v2, .int v3] : List Value).toArray below meth c H locs 0 0 (MQ below (gQ (some (.int r)) D a C h') ([.ref (a 66), .int v1, .int v2, .int v3] : List Value).toArray s 0 0 (gA a)) (F0 m 0 ls []) from hh _ _ hP hS
  intro H locs hP hS
  refine lv_aload_n hx hb dX12_whatIs_0 rfl (lv_at hl 0 rfl) ?_
  refine lv_iload_n hx hb dX12_whatIs_1 rfl (lv_at hl 2 rfl) ?_
  obtain ⟨q1, hq1, hf⟩ := bind_s hf
  refine g_callV (As := [.int v2]) (rest := []) hx hb hml hown hts hK hN (m_X12_isOne l D a C ha h v2  q1 hq1) (cwV 1 hts (gUV (u12_1 _ (List.mem_of_getElem? (i := 9) rfl)) (u12_1 _ (List.mem_of_getElem? (i := 10) rfl)) (u12_1 _ (List.mem_of_getElem? (i := 11) rfl)) (u12_1 _ (List.mem_of_getElem? (i := 7) rfl)) (u12_1 _ (List.mem_of_getElem? (i := 4) rfl))) rfl rfl rfl kdX12_isOne ⟨Nat.le_of_ble_eq_true rfl, Nat.le_of_ble_eq_true rfl⟩) M_O rfl rfl hP hS hA rfl hl.1 rfl (Nat.le_of_ble_eq_true rfl) dX12_whatIs_2 ⟨Nat.le_refl _, Nat.le_refl _⟩ (fun H locs hP hS => ?_)
  refine W.eq (g2 := F0 m 5 ls [.int q1]) rfl ?_
  refine lv_if_eq (tgt := 17) hx hb dX12_whatIs_5 (by decide) (fun c2 => ?_) (fun c2 => ?_)
  · have hf := if_t hf c2
    refine lv_iconst (v := (-1)) hx hb dX12_whatIs_17 (by decide) ?_
    exact g_iretW hx hb hr hlk hP hS (ret2 hf) dX12_whatIs_18
  · have hf := if_f hf c2
    refine lv_iload_n hx hb dX12_whatIs_8 rfl (lv_at hl 3 rfl) ?_
    refine lv_iconst (v := 0) hx hb dX12_whatIs_9 (by decide) ?_
    refine lv_iconst (v := 1) hx hb dX12_whatIs_10 (by decide) ?_
    obtain ⟨q3, hq3, hf⟩ := bind_s hf
    refine g_callS (As := [.int v3, .int 0, .int 1]) (rest := []) hx hb hml hown hts hK hN (m_X12_isIn l D a C ha h v3 0 1  q3 hq3) (va_cwS 3 hts (gUS (u12_1 _ (List.mem_of_getElem? (i := 5) rfl)) (u12_1 _ (List.mem_of_getElem? (i := 6) rfl)) (u12_1 _ (List.mem_of_getElem? (i := 7) rfl)) (u12_1 _ (List.mem_of_getElem? (i := 1) rfl))) rfl rfl rfl kdX12_isIn.2 ⟨Nat.le_of_ble_eq_true rfl, Nat.le_of_ble_eq_true rfl⟩) hP hS hA rfl hl.1 rfl (Nat.le_of_ble_eq_true rfl) dX12_whatIs_11 ⟨Nat.le_refl _, Nat.le_refl _⟩ (fun H locs hP hS => ?_)
    refine W.eq (g2 := F0 m 14 ls [.int q3]) rfl ?_
    refine lv_if_ne (tgt := 19) hx hb dX12_whatIs_14 (by decide) (fun c4 => ?_) (fun c4 => ?_)
    · have hf := if_f hf c4
      refine lv_aload_n hx hb dX12_whatIs_19 rfl (lv_at hl 0 rfl) ?_
      refine lv_iload_n hx hb dX12_whatIs_20 rfl (lv_at hl 1 rfl) ?_
      refine lv_iconst (v := (-1)) hx hb dX12_whatIs_21 (by decide) ?_
      obtain ⟨q5, hq5, hf⟩ := bind_s hf
      refine g_callV (As := [.int v1, .int (-1)]) (rest := []) hx hb hml hown hts hK hN (m_X12_wrongRow l D a C ha h v1 (-1)  q5 hq5) (cwV 2 hts (gUV (u12_4 _ (List.mem_of_getElem? (i := 13) rfl)) (u12_4 _ (List.mem_of_getElem? (i := 14) rfl)) (u12_4 _ (List.mem_of_getElem? (i := 15) rfl)) (u12_1 _ (List.mem_of_getElem? (i := 7) rfl)) (u12_4 _ (List.mem_of_getElem? (i := 10) rfl))) rfl rfl rfl kdX12_wrongRow ⟨Nat.le_of_ble_eq_true rfl, Nat.le_of_ble_eq_true rfl⟩) M_O rfl rfl hP hS hA rfl hl.1 rfl (Nat.le_of_ble_eq_true rfl) dX12_whatIs_22 ⟨Nat.le_refl _, Nat.le_refl _⟩ (fun H locs hP hS => ?_)
      refine W.eq (g2 := F0 m 25 ls [.int q5]) rfl ?_
      refine lv_istore (lv' := [(4, .int q5), (0, .ref (a 66)), (1, .int v1), (2, .int v2), (3, .int v3)]) hx hb dX12_whatIs_25 hl (by decide) rfl (fun ls hl => ?_)
      refine lv_iload hx hb dX12_whatIs_27 (lv_at hl 0 rfl) ?_
      refine lv_if_eq (tgt := 35) hx hb dX12_whatIs_29 (by decide) (fun c6 => ?_) (fun c6 => ?_)
      · have hf := if_t hf c6
        refine lv_iconst (v := 0) hx hb dX12_whatIs_35 (by decide) ?_
        refine lv_istore (lv' := [(5, .int 0), (4, .int q5), (0, .ref (a 66)), (1, .int v1), (2, .int v2), (3, .int v3)]) hx hb dX12_whatIs_36 hl (by decide) rfl (fun ls hl => ?_)
        refine lv_iconst (v := 0) hx hb dX12_whatIs_38 (by decide) ?_
        refine lv_istore (lv' := [(6, .int 0), (5, .int 0), (4, .int q5), (0, .ref (a 66)), (1, .int v1), (2, .int v2), (3, .int v3)]) hx hb dX12_whatIs_39 hl (by decide) rfl (fun ls hl => ?_)
        exact J41 FU 0 0 h hf H locs ls hP hS (lv_sub hl [3, 4, 5, 6, 1, 0] rfl)
      · have hf := if_f hf c6
        refine lv_iload hx hb dX12_whatIs_32 (lv_at hl 0 rfl) ?_
        exact g_iretW hx hb hr hlk hP hS (ret2 hf) dX12_whatIs_34
    · have hf := if_t hf c4
      refine lv_iconst (v := (-1)) hx hb dX12_whatIs_17 (by decide) ?_
      exact g_iretW hx hb hr hlk hP hS (ret2 hf) dX12_whatIs_18

def X12_whoBegan_B92 (v1 : Int32) (k18 : Int32 → Int32 → HS → Option (Int32 × HS)) (v3 : Int32) (v4 : Int32) (h : HS) : Option (Int32 × HS) :=
    nm (v4 + 1) fun x14 =>
    k18 v3 x14 h
def X12_whoBegan_B90 (v1 : Int32) (k18 : Int32 → Int32 → HS → Option (Int32 × HS)) (v4 : Int32) (s0 : Int32) (s1 : Int32) (h : HS) : Option (Int32 × HS) :=
    nm (s1 ||| s0) fun x13 =>
    X12_whoBegan_B92 v1 k18 x13 v4 h
def X12_whoBegan_B18 (v1 : Int32) : Nat → Int32 → Int32 → HS → Option (Int32 × HS)
  | 0, _, _, _ => none
  | fu + 1, v3, v4, h =>
    gdi 0 30 <|
    (if (aI h 67 (0 : Int32).toNatClampNeg) ≤ v4 then
    some (v3, h)
    else
    (X12_isDeaf h 67 v4).bind fun q5 =>
    (if q5 = 0 then
    (X12_copies h 67 68).bind fun q7 =>
    gdi 2 30 <|
    nm (sA q7 68 (upd (aI q7 68) (2 : Int32).toNatClampNeg ((1 : Int32) <<< (v4 &&& 31)))) fun h8 =>
    (X12_day h8 68 0).bind fun q10 =>
    (X12_isHeardSo q10 v1).bind fun q11 =>
    (if q11.1 = 0 then
    X12_whoBegan_B90 v1 (X12_whoBegan_B18 v1 fu) v4 0 v3 q11.2
    else
    X12_whoBegan_B90 v1 (X12_whoBegan_B18 v1 fu) v4 ((1 : Int32) <<< (v4 &&& 31)) v3 q11.2)
    else
    X12_whoBegan_B92 v1 (X12_whoBegan_B18 v1 fu) v3 v4 h))
def X12_whoBegan (h : HS) (v1 : Int32) : Option (Int32 × HS) :=
    (X12_wrongRow h v1 (-1)).bind fun q1 =>
    (if q1 = 0 then
    X12_whoBegan_B18 v1 FU 0 0 h
    else
    some (q1, h))
def uX12_whoBegan : List Cond := .code yX12_whoBegan cX12_whoBegan 5 (some .int) :: UU
def rmX12_whoBegan : Room := { frames := 6, cells := 0, slots := 0, locals := 133 }
theorem kdX12_whoBegan : yX12_whoBegan.cls = RX12 ∧ yX12_whoBegan.cls ≠ "java/lang/invoke/MethodHandle" ∧ yX12_whoBegan.cls ≠ "java/lang/invoke/VarHandle" ∧ (parseMethodDescriptor yX12_whoBegan.desc).map (fun d => d.parameters.length) = some 1 := by decide +kernel
set_option maxHeartbeats 4000000 in
set_option maxRecDepth 100000 in
theorem m_X12_whoBegan (l : Launch) (D : va_G) (a : Nat → Nat) (C : Nat → ClassId) (ha : ginj a) (h : HS) (v1 : Int32)  (r : Int32) (h' : HS) (hf : X12_whoBegan h v1 = some (r, h')) : gM l yX12_whoBegan uX12_whoBegan rmX12_whoBegan D a C [.ref (a 66), .int v1] h (some (.int r)) h' := by
  refine g_start (av := [.ref (a 66), .int v1]) (cc := cX12_whoBegan) (maxL := 5) (rt := (some .int)) (by decide) rfl (Nat.le_of_ble_eq_true rfl) ?_
  intro p e s m below meth c hx hb hr hml hown hlk hts hP hK hN ls hl
  have hA : ∀ q, gA a q → gA a q := fun _ q => q
  have hS : va_S (gA a) s.heap s.heap [] := va_S.rf
  have hl : lv_has ls 5 [(0, .ref (a 66)), (1, .int v1)] := hl
  have J92 : ∀ (k18 : Int32 → Int32 → HS → Option (Int32 × HS)) (hk18 : ∀ (v3 : Int32) (v4 : Int32) (h : HS), k18 v3 v4 h = some (r, h') → gG p l e (headSpec uX12_whoBegan rmX12_whoBegan).room s m ([.ref (a 66), .int v1] : List Value).toArray below meth c (MQ below (gQ (some (.int r)) D a C h') ([.ref (a 66), .int v1] : List Value).toArray s 0 0 (gA a)) D a C 5 h 18 [(0, .ref (a 66)), (1, .int v1), (3, .int v3), (4, .int v4)] []) (v3 : Int32) (v4 : Int32) (h : HS) (_ : X12_whoBegan_B92 v1 k18 v3 v4 h = some (r, h')), gG p l e (headSpec uX12_whoBegan rmX12_whoBegan).room s m ([.ref (a 66), .int v1] : List Value).toArray below meth c (MQ below (gQ (some (.int r)) D a C h') ([.ref (a 66), .int v1] : List Value).toArray s 0 0 (gA a)) D a C 5 h 92 [(0, .ref (a 66)), (1, .int v1), (3, .int v3), (4, .int v4)] [] := by
    intro k18 hk18 v3 v4 h hf H locs ls hP hS hl
    unfold X12_whoBegan_B92 at hf
    obtain ⟨x14, ex14⟩ : ∃ y : Int32, y = (v4 + 1) := ⟨_, rfl⟩
    have hf := nm_s hf ex14
    refine lv_iinc (v := x14) (lv' := [(4, .int x14), (0, .ref (a 66)), (1, .int v1), (3, .int v3)]) hx hb dX12_whoBegan_92 hl (k := 3) rfl (by rw [ex14]; rfl) (by decide) rfl (fun ls hl => ?_)
    refine lv_goto (tgt := 18) hx hb dX12_whoBegan_95 (by decide) ?_
    exact hk18 v3 x14 h hf H locs ls hP hS (lv_sub hl [1, 2, 3, 0] rfl)
  have J90 : ∀ (k18 : Int32 → Int32 → HS → Option (Int32 × HS)) (hk18 : ∀ (v3 : Int32) (v4 : Int32) (h : HS), k18 v3 v4 h = some (r, h') → gG p l e (headSpec uX12_whoBegan rmX12_whoBegan).room s m ([.ref (a 66), .int v1] : List Value).toArray below meth c (MQ below (gQ (some (.int r)) D a C h') ([.ref (a 66), .int v1] : List Value).toArray s 0 0 (gA a)) D a C 5 h 18 [(0, .ref (a 66)), (1, .int v1), (3, .int v3), (4, .int v4)] []) (v4 : Int32) (s0 : Int32) (s1 : Int32) (h : HS) (_ : X12_whoBegan_B90 v1 k18 v4 s0 s1 h = some (r, h')), gG p l e (headSpec uX12_whoBegan rmX12_whoBegan).room s m ([.ref (a 66), .int v1] : List Value).toArray below meth c (MQ below (gQ (some (.int r)) D a C h') ([.ref (a 66), .int v1] : List Value).toArray s 0 0 (gA a)) D a C 5 h 90 [(0, .ref (a 66)), (1, .int v1), (4, .int v4)] [.int s0, .int s1] := by
    intro k18 hk18 v4 s0 s1 h hf H locs ls hP hS hl
    unfold X12_whoBegan_B90 at hf
    refine lv_ior hx hb dX12_whoBegan_90 ?_
    refine lv_topi (fun x13 ex13 => ?_)
    have hf := nm_s hf ex13
    refine lv_istore_n (lv' := [(3, .int x13), (0, .ref (a 66)), (1, .int v1), (4, .int v4)]) hx hb dX12_whoBegan_91 rfl hl (by decide) rfl (fun ls hl => ?_)
    exact J92 k18 hk18 x13 v4 h hf H locs ls hP hS (lv_sub hl [1, 2, 0, 3] rfl)
  have J18 : ∀ (fu : Nat) (v3 : Int32) (v4 : Int32) (h : HS), X12_whoBegan_B18 v1 fu v3 v4 h = some (r, h') → gG p l e (headSpec uX12_whoBegan rmX12_whoBegan).room s m ([.ref (a 66), .int v1] : List Value).toArray below meth c (MQ below (gQ (some (.int r)) D a C h') ([.ref (a 66), .int v1] : List Value).toArray s 0 0 (gA a)) D a C 5 h 18 [(0, .ref (a 66)), (1, .int v1), (3, .int v3), (4, .int v4)] [] := by
    intro fu
    induction fu with
    | zero => intro v3 v4 h hf; exact absurd hf (by simp [X12_whoBegan_B18])
    | succ fu ih =>
      intro v3 v4 h hf H locs ls hP hS hl
      rw [X12_whoBegan_B18] at hf
      refine lv_iload hx hb dX12_whoBegan_18 (lv_at hl 3 rfl) ?_
      refine lv_aload_n hx hb dX12_whoBegan_20 rfl (lv_at hl 0 rfl) ?_
      refine g_get (Cn := RX12) (T := TX12) (N := 21) (v := .ref (a 67)) (own := RX12) hx hb hown hts hK M_O rfl (fun _ hw => List.mem_cons_of_mem _ (u12_cls _ hw)) 0 (by decide) (List.mem_cons_of_mem _ (u12_0 _ (List.mem_of_getElem? (i := 5) rfl))) rfl rfl hP dX12_whoBegan_21 ?_
      refine lv_iconst (v := 0) hx hb dX12_whoBegan_24 (by decide) ?_
      obtain ⟨c3, hf⟩ := gdi_s hf
      refine g_ial hx hb hK (⟨by decide, rfl⟩ : gAI 67 30) c3 hP dX12_whoBegan_25 ?_
      refine lv_icmp_ge (tgt := 98) hx hb dX12_whoBegan_26 (by decide) (fun c4 => ?_) (fun c4 => ?_)
      · have hf := if_t hf c4
        refine lv_iload_n hx hb dX12_whoBegan_98 rfl (lv_at hl 2 rfl) ?_
        exact g_iretW hx hb hr hlk hP hS (ret2 hf) dX12_whoBegan_99
      · have hf := if_f hf c4
        refine lv_aload_n hx hb dX12_whoBegan_29 rfl (lv_at hl 0 rfl) ?_
        refine g_get (Cn := RX12) (T := TX12) (N := 21) (v := .ref (a 67)) (own := RX12) hx hb hown hts hK M_O rfl (fun _ hw => List.mem_cons_of_mem _ (u12_cls _ hw)) 0 (by decide) (List.mem_cons_of_mem _ (u12_0 _ (List.mem_of_getElem? (i := 5) rfl))) rfl rfl hP dX12_whoBegan_30 ?_
        refine lv_iload hx hb dX12_whoBegan_33 (lv_at hl 3 rfl) ?_
        obtain ⟨q5, hq5, hf⟩ := bind_s hf
        refine g_callS (As := [.ref (a 67), .int v4]) (rest := []) hx hb hml hown hts hK hN (m_X12_isDeaf l D a C ha h 67 v4 (Or.inl rfl) q5 hq5) (va_cwS 2 hts (gUS (u12_2 _ (List.mem_of_getElem? (i := 10) rfl)) (u12_2 _ (List.mem_of_getElem? (i := 11) rfl)) (u12_1 _ (List.mem_of_getElem? (i := 7) rfl)) (u12_1 _ (List.mem_of_getElem? (i := 19) rfl))) rfl rfl rfl kdX12_isDeaf.2 ⟨Nat.le_of_ble_eq_true rfl, Nat.le_of_ble_eq_true rfl⟩) hP hS hA rfl hl.1 rfl (Nat.le_of_ble_eq_true rfl) dX12_whoBegan_35 ⟨Nat.le_refl _, Nat.le_refl _⟩ (fun H locs hP hS => ?_)
        refine W.eq (g2 := F0 m 38 ls [.int q5]) rfl ?_
        refine lv_if_eq (tgt := 44) hx hb dX12_whoBegan_38 (by decide) (fun c6 => ?_) (fun c6 => ?_)
        · have hf := if_t hf c6
          refine lv_aload_n hx hb dX12_whoBegan_44 rfl (lv_at hl 0 rfl) ?_
          refine g_get (Cn := RX12) (T := TX12) (N := 21) (v := .ref (a 67)) (own := RX12) hx hb hown hts hK M_O rfl (fun _ hw => List.mem_cons_of_mem _ (u12_cls _ hw)) 0 (by decide) (List.mem_cons_of_mem _ (u12_0 _ (List.mem_of_getElem? (i := 5) rfl))) rfl rfl hP dX12_whoBegan_45 ?_
          refine lv_aload_n hx hb dX12_whoBegan_48 rfl (lv_at hl 0 rfl) ?_
          refine g_get (Cn := RX12) (T := TX12) (N := 21) (v := .ref (a 68)) (own := RX12) hx hb hown hts hK M_O rfl (fun _ hw => List.mem_cons_of_mem _ (u12_cls _ hw)) 1 (by decide) (List.mem_cons_of_mem _ (u12_0 _ (List.mem_of_getElem? (i := 6) rfl))) rfl rfl hP dX12_whoBegan_49 ?_
          obtain ⟨q7, hq7, hf⟩ := bind_s hf
          refine g_callS (As := [.ref (a 67), .ref (a 68)]) (rest := []) hx hb hml hown hts hK hN (m_X12_copies l D a C ha h 67 68 (Or.inl rfl) (Or.inr (Or.inl rfl)) q7 hq7) (va_cwS 2 hts (gUS (u12_4 _ (List.mem_of_getElem? (i := 19) rfl)) (u12_5 _ (List.mem_of_getElem? (i := 0) rfl)) (u12_1 _ (List.mem_of_getElem? (i := 7) rfl)) (u12_1 _ (List.mem_of_getElem? (i := 2) rfl))) rfl rfl rfl kdX12_copies.2 ⟨Nat.le_of_ble_eq_true rfl, Nat.le_of_ble_eq_true rfl⟩) hP hS hA rfl hl.1 rfl (Nat.le_of_ble_eq_true rfl) dX12_whoBegan_52 ⟨Nat.le_refl _, Nat.le_refl _⟩ (fun H locs hP hS => ?_)
          refine W.eq (g2 := F0 m 55 ls []) rfl ?_
          refine lv_aload_n hx hb dX12_whoBegan_55 rfl (lv_at hl 0 rfl) ?_
          refine g_get (Cn := RX12) (T := TX12) (N := 21) (v := .ref (a 68)) (own := RX12) hx hb hown hts hK M_O rfl (fun _ hw => List.mem_cons_of_mem _ (u12_cls _ hw)) 1 (by decide) (List.mem_cons_of_mem _ (u12_0 _ (List.mem_of_getElem? (i := 6) rfl))) rfl rfl hP dX12_whoBegan_56 ?_
          refine lv_iconst (v := 2) hx hb dX12_whoBegan_59 (by decide) ?_
          refine lv_iconst (v := 1) hx hb dX12_whoBegan_60 (by decide) ?_
          refine lv_iload hx hb dX12_whoBegan_61 (lv_at hl 3 rfl) ?_
          refine lv_ishl hx hb dX12_whoBegan_63 ?_
          obtain ⟨c9, hf⟩ := gdi_s hf
          refine g_ias hx hb hK ha hA (⟨by decide, rfl⟩ : gAI 68 30) c9 hP hS dX12_whoBegan_64 (fun H locs hP hS => ?_)
          obtain ⟨h8, eh8⟩ : ∃ x, x = (sA q7 68 (upd (aI q7 68) (2 : Int32).toNatClampNeg ((1 : Int32) <<< (v4 &&& 31)))) := ⟨_, rfl⟩
          rw [← eh8] at hP
          have hf := nm_s hf eh8
          refine lv_aload_n hx hb dX12_whoBegan_65 rfl (lv_at hl 0 rfl) ?_
          refine g_get (Cn := RX12) (T := TX12) (N := 21) (v := .ref (a 68)) (own := RX12) hx hb hown hts hK M_O rfl (fun _ hw => List.mem_cons_of_mem _ (u12_cls _ hw)) 1 (by decide) (List.mem_cons_of_mem _ (u12_0 _ (List.mem_of_getElem? (i := 6) rfl))) rfl rfl hP dX12_whoBegan_66 ?_
          refine lv_iconst (v := 0) hx hb dX12_whoBegan_69 (by decide) ?_
          obtain ⟨q10, hq10, hf⟩ := bind_s hf
          refine g_callS (As := [.ref (a 68), .int 0]) (rest := []) hx hb hml hown hts hK hN (m_X12_day l D a C ha h8 68 0 (Or.inr (Or.inl rfl)) q10 hq10) (va_cwS 2 hts (gUS (u12_2 _ (List.mem_of_getElem? (i := 17) rfl)) (u12_2 _ (List.mem_of_getElem? (i := 18) rfl)) (u12_1 _ (List.mem_of_getElem? (i := 7) rfl)) (u12_2 _ (List.mem_of_getElem? (i := 16) rfl))) rfl rfl rfl kdX12_day.2 ⟨Nat.le_of_ble_eq_true rfl, Nat.le_of_ble_eq_true rfl⟩) hP hS hA rfl hl.1 rfl (Nat.le_of_ble_eq_true rfl) dX12_whoBegan_70 ⟨Nat.le_refl _, Nat.le_refl _⟩ (fun H locs hP hS => ?_)
          refine W.eq (g2 := F0 m 73 ls []) rfl ?_
          refine lv_iload_n hx hb dX12_whoBegan_73 rfl (lv_at hl 2 rfl) ?_
          refine lv_aload_n hx hb dX12_whoBegan_74 rfl (lv_at hl 0 rfl) ?_
          refine lv_iload_n hx hb dX12_whoBegan_75 rfl (lv_at hl 1 rfl) ?_
          obtain ⟨q11, hq11, hf⟩ := bind_s hf
          refine g_callV (As := [.int v1]) (rest := [.int v3]) hx hb hml hown hts hK hN (m_X12_isHeardSo l D a C ha q10 v1  q11.1 q11.2 hq11) (cwV 1 hts (gUV (u12_10 _ (List.mem_of_getElem? (i := 12) rfl)) (u12_10 _ (List.mem_of_getElem? (i := 13) rfl)) (u12_10 _ (List.mem_of_getElem? (i := 14) rfl)) (u12_1 _ (List.mem_of_getElem? (i := 7) rfl)) (u12_10 _ (List.mem_of_getElem? (i := 11) rfl))) rfl rfl rfl kdX12_isHeardSo ⟨Nat.le_of_ble_eq_true rfl, Nat.le_of_ble_eq_true rfl⟩) M_O rfl rfl hP hS hA rfl hl.1 rfl (Nat.le_of_ble_eq_true rfl) dX12_whoBegan_76 ⟨Nat.le_refl _, Nat.le_refl _⟩ (fun H locs hP hS => ?_)
          refine W.eq (g2 := F0 m 79 ls [.int q11.1, .int v3]) rfl ?_
          refine lv_if_eq (tgt := 89) hx hb dX12_whoBegan_79 (by decide) (fun c12 => ?_) (fun c12 => ?_)
          · have hf := if_t hf c12
            refine lv_iconst (v := 0) hx hb dX12_whoBegan_89 (by decide) ?_
            exact J90 (X12_whoBegan_B18 v1 fu) ih v4 0 v3 q11.2 hf H locs ls hP hS (lv_sub hl [0, 1, 3] rfl)
          · have hf := if_f hf c12
            refine lv_iconst (v := 1) hx hb dX12_whoBegan_82 (by decide) ?_
            refine lv_iload hx hb dX12_whoBegan_83 (lv_at hl 3 rfl) ?_
            refine lv_ishl hx hb dX12_whoBegan_85 ?_
            refine lv_goto (tgt := 90) hx hb dX12_whoBegan_86 (by decide) ?_
            exact J90 (X12_whoBegan_B18 v1 fu) ih v4 ((1 : Int32) <<< (v4 &&& 31)) v3 q11.2 hf H locs ls hP hS (lv_sub hl [0, 1, 3] rfl)
        · have hf := if_f hf c6
          refine lv_goto (tgt := 92) hx hb dX12_whoBegan_41 (by decide) ?_
          exact J92 (X12_whoBegan_B18 v1 fu) ih v3 v4 h hf H locs ls hP hS (lv_sub hl [0, 1, 2, 3] rfl)
  unfold X12_whoBegan at hf
  suffices hh : ∀ (H : Heap) (locs : List Loc), va_P D vwCl (gw a C h) H → va_S (gA a) s.heap H locs → W p l e (headSpec uX12_whoBegan rmX12_whoBegan).room s m ([.ref (a 66), .int v1] : List Value).toArray below meth c H locs 0 0 (MQ below (gQ (some (.int r)) D a C h') ([.ref (a 66), .int v1] : List Value).toArray s 0 0 (gA a)) (F0 m 0 ls []) from hh _ _ hP hS
  intro H locs hP hS
  refine lv_aload_n hx hb dX12_whoBegan_0 rfl (lv_at hl 0 rfl) ?_
  refine lv_iload_n hx hb dX12_whoBegan_1 rfl (lv_at hl 1 rfl) ?_
  refine lv_iconst (v := (-1)) hx hb dX12_whoBegan_2 (by decide) ?_
  obtain ⟨q1, hq1, hf⟩ := bind_s hf
  refine g_callV (As := [.int v1, .int (-1)]) (rest := []) hx hb hml hown hts hK hN (m_X12_wrongRow l D a C ha h v1 (-1)  q1 hq1) (cwV 2 hts (gUV (u12_4 _ (List.mem_of_getElem? (i := 13) rfl)) (u12_4 _ (List.mem_of_getElem? (i := 14) rfl)) (u12_4 _ (List.mem_of_getElem? (i := 15) rfl)) (u12_1 _ (List.mem_of_getElem? (i := 7) rfl)) (u12_4 _ (List.mem_of_getElem? (i := 10) rfl))) rfl rfl rfl kdX12_wrongRow ⟨Nat.le_of_ble_eq_true rfl, Nat.le_of_ble_eq_true rfl⟩) M_O rfl rfl hP hS hA rfl hl.1 rfl (Nat.le_of_ble_eq_true rfl) dX12_whoBegan_3 ⟨Nat.le_refl _, Nat.le_refl _⟩ (fun H locs hP hS => ?_)
  refine W.eq (g2 := F0 m 6 ls [.int q1]) rfl ?_
  refine lv_istore_n (lv' := [(2, .int q1), (0, .ref (a 66)), (1, .int v1)]) hx hb dX12_whoBegan_6 rfl hl (by decide) rfl (fun ls hl => ?_)
  refine lv_iload_n hx hb dX12_whoBegan_7 rfl (lv_at hl 0 rfl) ?_
  refine lv_if_eq (tgt := 13) hx hb dX12_whoBegan_8 (by decide) (fun c2 => ?_) (fun c2 => ?_)
  · have hf := if_t hf c2
    refine lv_iconst (v := 0) hx hb dX12_whoBegan_13 (by decide) ?_
    refine lv_istore_n (lv' := [(3, .int 0), (2, .int q1), (0, .ref (a 66)), (1, .int v1)]) hx hb dX12_whoBegan_14 rfl hl (by decide) rfl (fun ls hl => ?_)
    refine lv_iconst (v := 0) hx hb dX12_whoBegan_15 (by decide) ?_
    refine lv_istore (lv' := [(4, .int 0), (3, .int 0), (2, .int q1), (0, .ref (a 66)), (1, .int v1)]) hx hb dX12_whoBegan_16 hl (by decide) rfl (fun ls hl => ?_)
    exact J18 FU 0 0 h hf H locs ls hP hS (lv_sub hl [3, 4, 1, 0] rfl)
  · have hf := if_f hf c2
    refine lv_iload_n hx hb dX12_whoBegan_11 rfl (lv_at hl 0 rfl) ?_
    exact g_iretW hx hb hr hlk hP hS (ret2 hf) dX12_whoBegan_12

def X12_hasBy_B14 (v1 : Int32) (v2 : Int32) (v3 : Int32) (v4 : Int32) (v5 : Int32) (v6 : Int32) : Nat → Int32 → HS → Option (Int32 × HS)
  | 0, _, _ => none
  | fu + 1, v7, h =>
    (if v6 ≤ v7 then
    gdi 2 30 <|
    (X12_of v1 2).bind fun q4 =>
    gdi q4 30 <|
    (X12_bits ((aI h 68 (2 : Int32).toNatClampNeg) &&& (aI h 67 q4.toNatClampNeg))).bind fun q6 =>
    (if v1 = v2 then
    some ((q6 - (2 * v3)), h)
    else
    some ((q6 - (2 * v5)), h))
    else
    (X12_day h 68 (((1 - v3) <<< (v2 &&& 31)) ||| ((1 - v5) <<< (v4 &&& 31)))).bind fun q8 =>
    nm (v7 + 1) fun x9 =>
    (X12_hasBy_B14 v1 v2 v3 v4 v5 v6 fu) x9 q8)
def X12_hasBy (h : HS) (v1 : Int32) (v2 : Int32) (v3 : Int32) (v4 : Int32) (v5 : Int32) (v6 : Int32) : Option (Int32 × HS) :=
    (X12_copies h 67 68).bind fun q1 =>
    X12_hasBy_B14 v1 v2 v3 v4 v5 v6 FU 0 q1
def uX12_hasBy : List Cond := .code yX12_hasBy cX12_hasBy 8 (some .int) :: UU
def rmX12_hasBy : Room := { frames := 5, cells := 0, slots := 0, locals := 111 }
theorem kdX12_hasBy : yX12_hasBy.cls = RX12 ∧ yX12_hasBy.cls ≠ "java/lang/invoke/MethodHandle" ∧ yX12_hasBy.cls ≠ "java/lang/invoke/VarHandle" ∧ (parseMethodDescriptor yX12_hasBy.desc).map (fun d => d.parameters.length) = some 6 := by decide +kernel
set_option maxHeartbeats 4000000 in
set_option maxRecDepth 100000 in
theorem m_X12_hasBy (l : Launch) (D : va_G) (a : Nat → Nat) (C : Nat → ClassId) (ha : ginj a) (h : HS) (v1 : Int32) (v2 : Int32) (v3 : Int32) (v4 : Int32) (v5 : Int32) (v6 : Int32)  (r : Int32) (h' : HS) (hf : X12_hasBy h v1 v2 v3 v4 v5 v6 = some (r, h')) : gM l yX12_hasBy uX12_hasBy rmX12_hasBy D a C [.ref (a 66), .int v1, .int v2, .int v3, .int v4, .int v5, .int v6] h (some (.int r)) h' := by
  refine g_start (av := [.ref (a 66), .int v1, .int v2, .int v3, .int v4, .int v5, .int v6]) (cc := cX12_hasBy) (maxL := 8) (rt := (some .int)) (by decide) rfl (Nat.le_of_ble_eq_true rfl) ?_
  intro p e s m below meth c hx hb hr hml hown hlk hts hP hK hN ls hl
  have hA : ∀ q, gA a q → gA a q := fun _ q => q
  have hS : va_S (gA a) s.heap s.heap [] := va_S.rf
  have hl : lv_has ls 8 [(0, .ref (a 66)), (1, .int v1), (2, .int v2), (3, .int v3), (4, .int v4), (5, .int v5), (6, .int v6)] := hl
  have J14 : ∀ (fu : Nat) (v7 : Int32) (h : HS), X12_hasBy_B14 v1 v2 v3 v4 v5 v6 fu v7 h = some (r, h') → gG p l e (headSpec uX12_hasBy rmX12_hasBy).room s m ([.ref (a 66), .int v1, .int v2, .int v3, .int v4, .int v5, .int v6] : List Value).toArray below meth c (MQ below (gQ (some (.int r)) D a C h') ([.ref (a 66), .int v1, .int v2, .int v3, .int v4, .int v5, .int v6] : List Value).toArray s 0 0 (gA a)) D a C 8 h 14 [(0, .ref (a 66)), (1, .int v1), (2, .int v2), (3, .int v3), (4, .int v4), (5, .int v5), (6, .int v6), (7, .int v7)] [] := by
    intro fu
    induction fu with
    | zero => intro v7 h hf; exact absurd hf (by simp [X12_hasBy_B14])
    | succ fu ih =>
      intro v7 h hf H locs ls hP hS hl
      rw [X12_hasBy_B14] at hf
      refine lv_iload hx hb dX12_hasBy_14 (lv_at hl 7 rfl) ?_
      refine lv_iload hx hb dX12_hasBy_16 (lv_at hl 6 rfl) ?_
      refine lv_icmp_ge (tgt := 47) hx hb dX12_hasBy_18 (by decide) (fun c2 => ?_) (fun c2 => ?_)
      · have hf := if_t hf c2
        refine lv_aload_n hx hb dX12_hasBy_47 rfl (lv_at hl 0 rfl) ?_
        refine g_get (Cn := RX12) (T := TX12) (N := 21) (v := .ref (a 68)) (own := RX12) hx hb hown hts hK M_O rfl (fun _ hw => List.mem_cons_of_mem _ (u12_cls _ hw)) 1 (by decide) (List.mem_cons_of_mem _ (u12_0 _ (List.mem_of_getElem? (i := 6) rfl))) rfl rfl hP dX12_hasBy_48 ?_
        refine lv_iconst (v := 2) hx hb dX12_hasBy_51 (by decide) ?_
        obtain ⟨c3, hf⟩ := gdi_s hf
        refine g_ial hx hb hK (⟨by decide, rfl⟩ : gAI 68 30) c3 hP dX12_hasBy_52 ?_
        refine lv_aload_n hx hb dX12_hasBy_53 rfl (lv_at hl 0 rfl) ?_
        refine g_get (Cn := RX12) (T := TX12) (N := 21) (v := .ref (a 67)) (own := RX12) hx hb hown hts hK M_O rfl (fun _ hw => List.mem_cons_of_mem _ (u12_cls _ hw)) 0 (by decide) (List.mem_cons_of_mem _ (u12_0 _ (List.mem_of_getElem? (i := 5) rfl))) rfl rfl hP dX12_hasBy_54 ?_
        refine lv_iload_n hx hb dX12_hasBy_57 rfl (lv_at hl 1 rfl) ?_
        refine lv_iconst (v := 2) hx hb dX12_hasBy_58 (by decide) ?_
        obtain ⟨q4, hq4, hf⟩ := bind_s hf
        refine g_callS (As := [.int v1, .int 2]) (rest := [.ref (a 67), .int (aI h 68 (2 : Int32).toNatClampNeg)]) hx hb hml hown hts hK hN (m_X12_of l D a C ha h v1 2  q4 hq4) (va_cwS 2 hts (gUS (u12_1 _ (List.mem_of_getElem? (i := 15) rfl)) (u12_1 _ (List.mem_of_getElem? (i := 16) rfl)) (u12_1 _ (List.mem_of_getElem? (i := 7) rfl)) (u12_1 _ (List.mem_of_getElem? (i := 3) rfl))) rfl rfl rfl kdX12_of.2 ⟨Nat.le_of_ble_eq_true rfl, Nat.le_of_ble_eq_true rfl⟩) hP hS hA rfl hl.1 rfl (Nat.le_of_ble_eq_true rfl) dX12_hasBy_59 ⟨Nat.le_refl _, Nat.le_refl _⟩ (fun H locs hP hS => ?_)
        refine W.eq (g2 := F0 m 62 ls [.int q4, .ref (a 67), .int (aI h 68 (2 : Int32).toNatClampNeg)]) rfl ?_
        obtain ⟨c5, hf⟩ := gdi_s hf
        refine g_ial hx hb hK (⟨by decide, rfl⟩ : gAI 67 30) c5 hP dX12_hasBy_62 ?_
        refine lv_iand hx hb dX12_hasBy_63 ?_
        obtain ⟨q6, hq6, hf⟩ := bind_s hf
        refine g_callS (As := [.int ((aI h 68 (2 : Int32).toNatClampNeg) &&& (aI h 67 q4.toNatClampNeg))]) (rest := []) hx hb hml hown hts hK hN (m_X12_bits l D a C ha h ((aI h 68 (2 : Int32).toNatClampNeg) &&& (aI h 67 q4.toNatClampNeg))  q6 hq6) (va_cwS 1 hts (gUS (u12_1 _ (List.mem_of_getElem? (i := 17) rfl)) (u12_1 _ (List.mem_of_getElem? (i := 18) rfl)) (u12_1 _ (List.mem_of_getElem? (i := 7) rfl)) (u12_1 _ (List.mem_of_getElem? (i := 13) rfl))) rfl rfl rfl kdX12_bits.2 ⟨Nat.le_of_ble_eq_true rfl, Nat.le_of_ble_eq_true rfl⟩) hP hS hA rfl hl.1 rfl (Nat.le_of_ble_eq_true rfl) dX12_hasBy_64 ⟨Nat.le_refl _, Nat.le_refl _⟩ (fun H locs hP hS => ?_)
        refine W.eq (g2 := F0 m 67 ls [.int q6]) rfl ?_
        refine lv_iconst (v := 2) hx hb dX12_hasBy_67 (by decide) ?_
        refine lv_iload_n hx hb dX12_hasBy_68 rfl (lv_at hl 1 rfl) ?_
        refine lv_iload_n hx hb dX12_hasBy_69 rfl (lv_at hl 2 rfl) ?_
        refine lv_icmp_ne (tgt := 77) hx hb dX12_hasBy_70 (by decide) (fun c7 => ?_) (fun c7 => ?_)
        · have hf := if_f hf c7
          refine lv_iload hx hb dX12_hasBy_77 (lv_at hl 5 rfl) ?_
          refine lv_imul hx hb dX12_hasBy_79 ?_
          refine lv_isub hx hb dX12_hasBy_80 ?_
          exact g_iretW hx hb hr hlk hP hS (ret2 hf) dX12_hasBy_81
        · have hf := if_t hf c7
          refine lv_iload_n hx hb dX12_hasBy_73 rfl (lv_at hl 3 rfl) ?_
          refine lv_goto (tgt := 79) hx hb dX12_hasBy_74 (by decide) ?_
          refine lv_imul hx hb dX12_hasBy_79 ?_
          refine lv_isub hx hb dX12_hasBy_80 ?_
          exact g_iretW hx hb hr hlk hP hS (ret2 hf) dX12_hasBy_81
      · have hf := if_f hf c2
        refine lv_aload_n hx hb dX12_hasBy_21 rfl (lv_at hl 0 rfl) ?_
        refine g_get (Cn := RX12) (T := TX12) (N := 21) (v := .ref (a 68)) (own := RX12) hx hb hown hts hK M_O rfl (fun _ hw => List.mem_cons_of_mem _ (u12_cls _ hw)) 1 (by decide) (List.mem_cons_of_mem _ (u12_0 _ (List.mem_of_getElem? (i := 6) rfl))) rfl rfl hP dX12_hasBy_22 ?_
        refine lv_iconst (v := 1) hx hb dX12_hasBy_25 (by decide) ?_
        refine lv_iload_n hx hb dX12_hasBy_26 rfl (lv_at hl 3 rfl) ?_
        refine lv_isub hx hb dX12_hasBy_27 ?_
        refine lv_iload_n hx hb dX12_hasBy_28 rfl (lv_at hl 2 rfl) ?_
        refine lv_ishl hx hb dX12_hasBy_29 ?_
        refine lv_iconst (v := 1) hx hb dX12_hasBy_30 (by decide) ?_
        refine lv_iload hx hb dX12_hasBy_31 (lv_at hl 5 rfl) ?_
        refine lv_isub hx hb dX12_hasBy_33 ?_
        refine lv_iload hx hb dX12_hasBy_34 (lv_at hl 4 rfl) ?_
        refine lv_ishl hx hb dX12_hasBy_36 ?_
        refine lv_ior hx hb dX12_hasBy_37 ?_
        obtain ⟨q8, hq8, hf⟩ := bind_s hf
        refine g_callS (As := [.ref (a 68), .int (((1 - v3) <<< (v2 &&& 31)) ||| ((1 - v5) <<< (v4 &&& 31)))]) (rest := []) hx hb hml hown hts hK hN (m_X12_day l D a C ha h 68 (((1 - v3) <<< (v2 &&& 31)) ||| ((1 - v5) <<< (v4 &&& 31))) (Or.inr (Or.inl rfl)) q8 hq8) (va_cwS 2 hts (gUS (u12_2 _ (List.mem_of_getElem? (i := 17) rfl)) (u12_2 _ (List.mem_of_getElem? (i := 18) rfl)) (u12_1 _ (List.mem_of_getElem? (i := 7) rfl)) (u12_2 _ (List.mem_of_getElem? (i := 16) rfl))) rfl rfl rfl kdX12_day.2 ⟨Nat.le_of_ble_eq_true rfl, Nat.le_of_ble_eq_true rfl⟩) hP hS hA rfl hl.1 rfl (Nat.le_of_ble_eq_true rfl) dX12_hasBy_38 ⟨Nat.le_refl _, Nat.le_refl _⟩ (fun H locs hP hS => ?_)
        refine W.eq (g2 := F0 m 41 ls []) rfl ?_
        obtain ⟨x9, ex9⟩ : ∃ y : Int32, y = (v7 + 1) := ⟨_, rfl⟩
        have hf := nm_s hf ex9
        refine lv_iinc (v := x9) (lv' := [(7, .int x9), (0, .ref (a 66)), (1, .int v1), (2, .int v2), (3, .int v3), (4, .int v4), (5, .int v5), (6, .int v6)]) hx hb dX12_hasBy_41 hl (k := 7) rfl (by rw [ex9]; rfl) (by decide) rfl (fun ls hl => ?_)
        refine lv_goto (tgt := 14) hx hb dX12_hasBy_44 (by decide) ?_
        exact ih x9 q8 hf H locs ls hP hS (lv_sub hl [1, 2, 3, 4, 5, 6, 7, 0] rfl)
  unfold X12_hasBy at hf
  suffices hh : ∀ (H : Heap) (locs : List Loc), va_P D vwCl (gw a C h) H → va_S (gA a) s.heap H locs → W p l e (headSpec uX12_hasBy rmX12_hasBy).room s m ([.ref (a 66), .int v1, .int v2, .int v3, .int v4, .int v5, .int v6] : List Value).toArray below meth c H locs 0 0 (MQ below (gQ (some (.int r)) D a C h') ([.ref (a 66), .int v1, .int v2, .int v3, .int v4, .int v5, .int v6] : List Value).toArray s 0 0 (gA a)) (F0 m 0 ls []) from hh _ _ hP hS
  intro H locs hP hS
  refine lv_aload_n hx hb dX12_hasBy_0 rfl (lv_at hl 0 rfl) ?_
  refine g_get (Cn := RX12) (T := TX12) (N := 21) (v := .ref (a 67)) (own := RX12) hx hb hown hts hK M_O rfl (fun _ hw => List.mem_cons_of_mem _ (u12_cls _ hw)) 0 (by decide) (List.mem_cons_of_mem _ (u12_0 _ (List.mem_of_getElem? (i := 5) rfl))) rfl rfl hP dX12_hasBy_1 ?_
  refine lv_aload_n hx hb dX12_hasBy_4 rfl (lv_at hl 0 rfl) ?_
  refine g_get (Cn := RX12) (T := TX12) (N := 21) (v := .ref (a 68)) (own := RX12) hx hb hown hts hK M_O rfl (fun _ hw => List.mem_cons_of_mem _ (u12_cls _ hw)) 1 (by decide) (List.mem_cons_of_mem _ (u12_0 _ (List.mem_of_getElem? (i := 6) rfl))) rfl rfl hP dX12_hasBy_5 ?_
  obtain ⟨q1, hq1, hf⟩ := bind_s hf
  refine g_callS (As := [.ref (a 67), .ref (a 68)]) (rest := []) hx hb hml hown hts hK hN (m_X12_copies l D a C ha h 67 68 (Or.inl rfl) (Or.inr (Or.inl rfl)) q1 hq1) (va_cwS 2 hts (gUS (u12_4 _ (List.mem_of_getElem? (i := 19) rfl)) (u12_5 _ (List.mem_of_getElem? (i := 0) rfl)) (u12_1 _ (List.mem_of_getElem? (i := 7) rfl)) (u12_1 _ (List.mem_of_getElem? (i := 2) rfl))) rfl rfl rfl kdX12_copies.2 ⟨Nat.le_of_ble_eq_true rfl, Nat.le_of_ble_eq_true rfl⟩) hP hS hA rfl hl.1 rfl (Nat.le_of_ble_eq_true rfl) dX12_hasBy_8 ⟨Nat.le_refl _, Nat.le_refl _⟩ (fun H locs hP hS => ?_)
  refine W.eq (g2 := F0 m 11 ls []) rfl ?_
  refine lv_iconst (v := 0) hx hb dX12_hasBy_11 (by decide) ?_
  refine lv_istore (lv' := [(7, .int 0), (0, .ref (a 66)), (1, .int v1), (2, .int v2), (3, .int v3), (4, .int v4), (5, .int v5), (6, .int v6)]) hx hb dX12_hasBy_12 hl (by decide) rfl (fun ls hl => ?_)
  exact J14 FU 0 q1 hf H locs ls hP hS (lv_sub hl [1, 2, 3, 4, 5, 6, 7, 0] rfl)

def X12_two_B138 (v1 : Int32) (v2 : Int32) (v3 : Int32) (k53 : Int32 → HS → Option (Int32 × HS)) (v4 : Int32) (h : HS) : Option (Int32 × HS) :=
    nm (v4 + 1) fun x20 =>
    k53 x20 h
def X12_two_B53 (v1 : Int32) (v2 : Int32) (v3 : Int32) : Nat → Int32 → HS → Option (Int32 × HS)
  | 0, _, _ => none
  | fu + 1, v4, h =>
    (if 4 ≤ v4 then
    some ((-4), h)
    else
    nm (v4 / 2) fun x12 =>
    nm (v4 - v4 / 2 * 2) fun x13 =>
    (X12_hasBy h v1 v1 (1 - x12) v2 x13 v3).bind fun q14 =>
    (X12_hasBy q14.2 v1 v1 x12 v2 x13 v3).bind fun q15 =>
    (if q15.1 < q14.1 then
    X12_two_B138 v1 v2 v3 (X12_two_B53 v1 v2 v3 fu) v4 q15.2
    else
    (X12_hasBy q15.2 v2 v1 x12 v2 (1 - x13) v3).bind fun q17 =>
    (X12_hasBy q17.2 v2 v1 x12 v2 x13 v3).bind fun q18 =>
    (if q18.1 < q17.1 then
    X12_two_B138 v1 v2 v3 (X12_two_B53 v1 v2 v3 fu) v4 q18.2
    else
    some (((10 * x12) + x13), q18.2))))
def X12_two (h : HS) (v1 : Int32) (v2 : Int32) (v3 : Int32) : Option (Int32 × HS) :=
    (X12_areTwo h v1 v2).bind fun q1 =>
    (if q1 = 0 then
    some ((-1), h)
    else
    (X12_isIn v3 1 30).bind fun q3 =>
    (if q3 = 0 then
    some ((-1), h)
    else
    gdi 2 30 <|
    (X12_has (aI h 67 (2 : Int32).toNatClampNeg) v1).bind fun q6 =>
    (if q6 = 0 then
    some ((-3), h)
    else
    gdi 2 30 <|
    (X12_has (aI h 67 (2 : Int32).toNatClampNeg) v2).bind fun q9 =>
    (if q9 = 0 then
    some ((-3), h)
    else
    X12_two_B53 v1 v2 v3 FU 0 h))))
def uX12_two : List Cond := .code yX12_two cX12_two 7 (some .int) :: UU
def rmX12_two : Room := { frames := 6, cells := 0, slots := 0, locals := 138 }
theorem kdX12_two : yX12_two.cls = RX12 ∧ yX12_two.cls ≠ "java/lang/invoke/MethodHandle" ∧ yX12_two.cls ≠ "java/lang/invoke/VarHandle" ∧ (parseMethodDescriptor yX12_two.desc).map (fun d => d.parameters.length) = some 3 := by decide +kernel
set_option maxHeartbeats 4000000 in
set_option maxRecDepth 100000 in
theorem m_X12_two (l : Launch) (D : va_G) (a : Nat → Nat) (C : Nat → ClassId) (ha : ginj a) (h : HS) (v1 : Int32) (v2 : Int32) (v3 : Int32)  (r : Int32) (h' : HS) (hf : X12_two h v1 v2 v3 = some (r, h')) : gM l yX12_two uX12_two rmX12_two D a C [.ref (a 66), .int v1, .int v2, .int v3] h (some (.int r)) h' := by
  refine g_start (av := [.ref (a 66), .int v1, .int v2, .int v3]) (cc := cX12_two) (maxL := 7) (rt := (some .int)) (by decide) rfl (Nat.le_of_ble_eq_true rfl) ?_
  intro p e s m below meth c hx hb hr hml hown hlk hts hP hK hN ls hl
  have hA : ∀ q, gA a q → gA a q := fun _ q => q
  have hS : va_S (gA a) s.heap s.heap [] := va_S.rf
  have hl : lv_has ls 7 [(0, .ref (a 66)), (1, .int v1), (2, .int v2), (3, .int v3)] := hl
  have J138 : ∀ (k53 : Int32 → HS → Option (Int32 × HS)) (hk53 : ∀ (v4 : Int32) (h : HS), k53 v4 h = some (r, h') → gG p l e (headSpec uX12_two rmX12_two).room s m ([.ref (a 66), .int v1, .int v2, .int v3] : List Value).toArray below meth c (MQ below (gQ (some (.int r)) D a C h') ([.ref (a 66), .int v1, .int v2, .int v3] : List Value).toArray s 0 0 (gA a)) D a C 7 h 53 [(0, .ref (a 66)), (1, .int v1), (2, .int v2), (3, .int v3), (4, .int v4)] []) (v4 : Int32) (h : HS) (_ : X12_two_B138 v1 v2 v3 k53 v4 h = some (r, h')), gG p l e (headSpec uX12_two rmX12_two).room s m ([.ref (a 66), .int v1, .int v2, .int v3] : List Value).toArray below meth c (MQ below (gQ (some (.int r)) D a C h') ([.ref (a 66), .int v1, .int v2, .int v3] : List Value).toArray s 0 0 (gA a)) D a C 7 h 138 [(0, .ref (a 66)), (1, .int v1), (2, .int v2), (3, .int v3), (4, .int v4)] [] := by
    intro k53 hk53 v4 h hf H locs ls hP hS hl
    unfold X12_two_B138 at hf
    obtain ⟨x20, ex20⟩ : ∃ y : Int32, y = (v4 + 1) := ⟨_, rfl⟩
    have hf := nm_s hf ex20
    refine lv_iinc (v := x20) (lv' := [(4, .int x20), (0, .ref (a 66)), (1, .int v1), (2, .int v2), (3, .int v3)]) hx hb dX12_two_138 hl (k := 4) rfl (by rw [ex20]; rfl) (by decide) rfl (fun ls hl => ?_)
    refine lv_goto (tgt := 53) hx hb dX12_two_141 (by decide) ?_
    exact hk53 x20 h hf H locs ls hP hS (lv_sub hl [1, 2, 3, 4, 0] rfl)
  have J53 : ∀ (fu : Nat) (v4 : Int32) (h : HS), X12_two_B53 v1 v2 v3 fu v4 h = some (r, h') → gG p l e (headSpec uX12_two rmX12_two).room s m ([.ref (a 66), .int v1, .int v2, .int v3] : List Value).toArray below meth c (MQ below (gQ (some (.int r)) D a C h') ([.ref (a 66), .int v1, .int v2, .int v3] : List Value).toArray s 0 0 (gA a)) D a C 7 h 53 [(0, .ref (a 66)), (1, .int v1), (2, .int v2), (3, .int v3), (4, .int v4)] [] := by
    intro fu
    induction fu with
    | zero => intro v4 h hf; exact absurd hf (by simp [X12_two_B53])
    | succ fu ih =>
      intro v4 h hf H locs ls hP hS hl
      rw [X12_two_B53] at hf
      refine lv_iload hx hb dX12_two_53 (lv_at hl 4 rfl) ?_
      refine lv_iconst (v := 4) hx hb dX12_two_55 (by decide) ?_
      refine lv_icmp_ge (tgt := 144) hx hb dX12_two_56 (by decide) (fun c11 => ?_) (fun c11 => ?_)
      · have hf := if_t hf c11
        refine lv_bipush (v := (-4)) hx hb dX12_two_144 (by decide) ?_
        exact g_iretW hx hb hr hlk hP hS (ret2 hf) dX12_two_146
      · have hf := if_f hf c11
        refine lv_iload hx hb dX12_two_59 (lv_at hl 4 rfl) ?_
        refine lv_iconst (v := 2) hx hb dX12_two_61 (by decide) ?_
        refine lv_idiv hx hb dX12_two_62 (by decide) ?_
        refine lv_topi (fun x12 ex12 => ?_)
        have hf := nm_s hf ex12
        refine lv_istore (lv' := [(5, .int x12), (0, .ref (a 66)), (1, .int v1), (2, .int v2), (3, .int v3), (4, .int v4)]) hx hb dX12_two_63 hl (by decide) rfl (fun ls hl => ?_)
        refine lv_iload hx hb dX12_two_65 (lv_at hl 5 rfl) ?_
        refine lv_iconst (v := 2) hx hb dX12_two_67 (by decide) ?_
        refine lv_irem hx hb dX12_two_68 (by decide) ?_
        refine lv_topi (fun x13 ex13 => ?_)
        have hf := nm_s hf ex13
        refine lv_istore (lv' := [(6, .int x13), (5, .int x12), (0, .ref (a 66)), (1, .int v1), (2, .int v2), (3, .int v3), (4, .int v4)]) hx hb dX12_two_69 hl (by decide) rfl (fun ls hl => ?_)
        refine lv_aload_n hx hb dX12_two_71 rfl (lv_at hl 2 rfl) ?_
        refine lv_iload_n hx hb dX12_two_72 rfl (lv_at hl 3 rfl) ?_
        refine lv_iload_n hx hb dX12_two_73 rfl (lv_at hl 3 rfl) ?_
        refine lv_iconst (v := 1) hx hb dX12_two_74 (by decide) ?_
        refine lv_iload hx hb dX12_two_75 (lv_at hl 1 rfl) ?_
        refine lv_isub hx hb dX12_two_77 ?_
        refine lv_iload_n hx hb dX12_two_78 rfl (lv_at hl 4 rfl) ?_
        refine lv_iload hx hb dX12_two_79 (lv_at hl 0 rfl) ?_
        refine lv_iload_n hx hb dX12_two_81 rfl (lv_at hl 5 rfl) ?_
        obtain ⟨q14, hq14, hf⟩ := bind_s hf
        refine g_callV (As := [.int v1, .int v1, .int (1 - x12), .int v2, .int x13, .int v3]) (rest := []) hx hb hml hown hts hK hN (m_X12_hasBy l D a C ha h v1 v1 (1 - x12) v2 x13 v3  q14.1 q14.2 hq14) (cwV 6 hts (gUV (u12_10 _ (List.mem_of_getElem? (i := 18) rfl)) (u12_10 _ (List.mem_of_getElem? (i := 19) rfl)) (u12_11 _ (List.mem_of_getElem? (i := 0) rfl)) (u12_1 _ (List.mem_of_getElem? (i := 7) rfl)) (u12_10 _ (List.mem_of_getElem? (i := 17) rfl))) rfl rfl rfl kdX12_hasBy ⟨Nat.le_of_ble_eq_true rfl, Nat.le_of_ble_eq_true rfl⟩) M_O rfl rfl hP hS hA rfl hl.1 rfl (Nat.le_of_ble_eq_true rfl) dX12_two_82 ⟨Nat.le_refl _, Nat.le_refl _⟩ (fun H locs hP hS => ?_)
        refine W.eq (g2 := F0 m 85 ls [.int q14.1]) rfl ?_
        refine lv_aload_n hx hb dX12_two_85 rfl (lv_at hl 2 rfl) ?_
        refine lv_iload_n hx hb dX12_two_86 rfl (lv_at hl 3 rfl) ?_
        refine lv_iload_n hx hb dX12_two_87 rfl (lv_at hl 3 rfl) ?_
        refine lv_iload hx hb dX12_two_88 (lv_at hl 1 rfl) ?_
        refine lv_iload_n hx hb dX12_two_90 rfl (lv_at hl 4 rfl) ?_
        refine lv_iload hx hb dX12_two_91 (lv_at hl 0 rfl) ?_
        refine lv_iload_n hx hb dX12_two_93 rfl (lv_at hl 5 rfl) ?_
        obtain ⟨q15, hq15, hf⟩ := bind_s hf
        refine g_callV (As := [.int v1, .int v1, .int x12, .int v2, .int x13, .int v3]) (rest := [.int q14.1]) hx hb hml hown hts hK hN (m_X12_hasBy l D a C ha q14.2 v1 v1 x12 v2 x13 v3  q15.1 q15.2 hq15) (cwV 6 hts (gUV (u12_10 _ (List.mem_of_getElem? (i := 18) rfl)) (u12_10 _ (List.mem_of_getElem? (i := 19) rfl)) (u12_11 _ (List.mem_of_getElem? (i := 0) rfl)) (u12_1 _ (List.mem_of_getElem? (i := 7) rfl)) (u12_10 _ (List.mem_of_getElem? (i := 17) rfl))) rfl rfl rfl kdX12_hasBy ⟨Nat.le_of_ble_eq_true rfl, Nat.le_of_ble_eq_true rfl⟩) M_O rfl rfl hP hS hA rfl hl.1 rfl (Nat.le_of_ble_eq_true rfl) dX12_two_94 ⟨Nat.le_refl _, Nat.le_refl _⟩ (fun H locs hP hS => ?_)
        refine W.eq (g2 := F0 m 97 ls [.int q15.1, .int q14.1]) rfl ?_
        refine lv_icmp_gt (tgt := 138) hx hb dX12_two_97 (by decide) (fun c16 => ?_) (fun c16 => ?_)
        · have hf := if_t hf c16
          exact J138 (X12_two_B53 v1 v2 v3 fu) ih v4 q15.2 hf H locs ls hP hS (lv_sub hl [2, 3, 4, 5, 6] rfl)
        · have hf := if_f hf c16
          refine lv_aload_n hx hb dX12_two_100 rfl (lv_at hl 2 rfl) ?_
          refine lv_iload_n hx hb dX12_two_101 rfl (lv_at hl 4 rfl) ?_
          refine lv_iload_n hx hb dX12_two_102 rfl (lv_at hl 3 rfl) ?_
          refine lv_iload hx hb dX12_two_103 (lv_at hl 1 rfl) ?_
          refine lv_iload_n hx hb dX12_two_105 rfl (lv_at hl 4 rfl) ?_
          refine lv_iconst (v := 1) hx hb dX12_two_106 (by decide) ?_
          refine lv_iload hx hb dX12_two_107 (lv_at hl 0 rfl) ?_
          refine lv_isub hx hb dX12_two_109 ?_
          refine lv_iload_n hx hb dX12_two_110 rfl (lv_at hl 5 rfl) ?_
          obtain ⟨q17, hq17, hf⟩ := bind_s hf
          refine g_callV (As := [.int v2, .int v1, .int x12, .int v2, .int (1 - x13), .int v3]) (rest := []) hx hb hml hown hts hK hN (m_X12_hasBy l D a C ha q15.2 v2 v1 x12 v2 (1 - x13) v3  q17.1 q17.2 hq17) (cwV 6 hts (gUV (u12_10 _ (List.mem_of_getElem? (i := 18) rfl)) (u12_10 _ (List.mem_of_getElem? (i := 19) rfl)) (u12_11 _ (List.mem_of_getElem? (i := 0) rfl)) (u12_1 _ (List.mem_of_getElem? (i := 7) rfl)) (u12_10 _ (List.mem_of_getElem? (i := 17) rfl))) rfl rfl rfl kdX12_hasBy ⟨Nat.le_of_ble_eq_true rfl, Nat.le_of_ble_eq_true rfl⟩) M_O rfl rfl hP hS hA rfl hl.1 rfl (Nat.le_of_ble_eq_true rfl) dX12_two_111 ⟨Nat.le_refl _, Nat.le_refl _⟩ (fun H locs hP hS => ?_)
          refine W.eq (g2 := F0 m 114 ls [.int q17.1]) rfl ?_
          refine lv_aload_n hx hb dX12_two_114 rfl (lv_at hl 2 rfl) ?_
          refine lv_iload_n hx hb dX12_two_115 rfl (lv_at hl 4 rfl) ?_
          refine lv_iload_n hx hb dX12_two_116 rfl (lv_at hl 3 rfl) ?_
          refine lv_iload hx hb dX12_two_117 (lv_at hl 1 rfl) ?_
          refine lv_iload_n hx hb dX12_two_119 rfl (lv_at hl 4 rfl) ?_
          refine lv_iload hx hb dX12_two_120 (lv_at hl 0 rfl) ?_
          refine lv_iload_n hx hb dX12_two_122 rfl (lv_at hl 5 rfl) ?_
          obtain ⟨q18, hq18, hf⟩ := bind_s hf
          refine g_callV (As := [.int v2, .int v1, .int x12, .int v2, .int x13, .int v3]) (rest := [.int q17.1]) hx hb hml hown hts hK hN (m_X12_hasBy l D a C ha q17.2 v2 v1 x12 v2 x13 v3  q18.1 q18.2 hq18) (cwV 6 hts (gUV (u12_10 _ (List.mem_of_getElem? (i := 18) rfl)) (u12_10 _ (List.mem_of_getElem? (i := 19) rfl)) (u12_11 _ (List.mem_of_getElem? (i := 0) rfl)) (u12_1 _ (List.mem_of_getElem? (i := 7) rfl)) (u12_10 _ (List.mem_of_getElem? (i := 17) rfl))) rfl rfl rfl kdX12_hasBy ⟨Nat.le_of_ble_eq_true rfl, Nat.le_of_ble_eq_true rfl⟩) M_O rfl rfl hP hS hA rfl hl.1 rfl (Nat.le_of_ble_eq_true rfl) dX12_two_123 ⟨Nat.le_refl _, Nat.le_refl _⟩ (fun H locs hP hS => ?_)
          refine W.eq (g2 := F0 m 126 ls [.int q18.1, .int q17.1]) rfl ?_
          refine lv_icmp_gt (tgt := 138) hx hb dX12_two_126 (by decide) (fun c19 => ?_) (fun c19 => ?_)
          · have hf := if_t hf c19
            exact J138 (X12_two_B53 v1 v2 v3 fu) ih v4 q18.2 hf H locs ls hP hS (lv_sub hl [2, 3, 4, 5, 6] rfl)
          · have hf := if_f hf c19
            refine lv_bipush (v := 10) hx hb dX12_two_129 (by decide) ?_
            refine lv_iload hx hb dX12_two_131 (lv_at hl 1 rfl) ?_
            refine lv_imul hx hb dX12_two_133 ?_
            refine lv_iload hx hb dX12_two_134 (lv_at hl 0 rfl) ?_
            refine lv_iadd hx hb dX12_two_136 ?_
            exact g_iretW hx hb hr hlk hP hS (ret2 hf) dX12_two_137
  unfold X12_two at hf
  suffices hh : ∀ (H : Heap) (locs : List Loc), va_P D vwCl (gw a C h) H → va_S (gA a) s.heap H locs → W p l e (headSpec uX12_two rmX12_two).room s m ([.ref (a 66), .int v1, .int v2, .int v3] : List Value).toArray below meth c H locs 0 0 (MQ below (gQ (some (.int r)) D a C h') ([.ref (a 66), .int v1, .int v2, .int v3] : List Value).toArray s 0 0 (gA a)) (F0 m 0 ls []) from hh _ _ hP hS
  intro H locs hP hS
  refine lv_aload_n hx hb dX12_two_0 rfl (lv_at hl 0 rfl) ?_
  refine lv_iload_n hx hb dX12_two_1 rfl (lv_at hl 1 rfl) ?_
  refine lv_iload_n hx hb dX12_two_2 rfl (lv_at hl 2 rfl) ?_
  obtain ⟨q1, hq1, hf⟩ := bind_s hf
  refine g_callV (As := [.int v1, .int v2]) (rest := []) hx hb hml hown hts hK hN (m_X12_areTwo l D a C ha h v1 v2  q1 hq1) (cwV 2 hts (gUV (u12_3 _ (List.mem_of_getElem? (i := 19) rfl)) (u12_4 _ (List.mem_of_getElem? (i := 0) rfl)) (u12_4 _ (List.mem_of_getElem? (i := 1) rfl)) (u12_1 _ (List.mem_of_getElem? (i := 7) rfl)) (u12_1 _ (List.mem_of_getElem? (i := 8) rfl))) rfl rfl rfl kdX12_areTwo ⟨Nat.le_of_ble_eq_true rfl, Nat.le_of_ble_eq_true rfl⟩) M_O rfl rfl hP hS hA rfl hl.1 rfl (Nat.le_of_ble_eq_true rfl) dX12_two_3 ⟨Nat.le_refl _, Nat.le_refl _⟩ (fun H locs hP hS => ?_)
  refine W.eq (g2 := F0 m 6 ls [.int q1]) rfl ?_
  refine lv_if_eq (tgt := 19) hx hb dX12_two_6 (by decide) (fun c2 => ?_) (fun c2 => ?_)
  · have hf := if_t hf c2
    refine lv_iconst (v := (-1)) hx hb dX12_two_19 (by decide) ?_
    exact g_iretW hx hb hr hlk hP hS (ret2 hf) dX12_two_20
  · have hf := if_f hf c2
    refine lv_iload_n hx hb dX12_two_9 rfl (lv_at hl 3 rfl) ?_
    refine lv_iconst (v := 1) hx hb dX12_two_10 (by decide) ?_
    refine lv_bipush (v := 30) hx hb dX12_two_11 (by decide) ?_
    obtain ⟨q3, hq3, hf⟩ := bind_s hf
    refine g_callS (As := [.int v3, .int 1, .int 30]) (rest := []) hx hb hml hown hts hK hN (m_X12_isIn l D a C ha h v3 1 30  q3 hq3) (va_cwS 3 hts (gUS (u12_1 _ (List.mem_of_getElem? (i := 5) rfl)) (u12_1 _ (List.mem_of_getElem? (i := 6) rfl)) (u12_1 _ (List.mem_of_getElem? (i := 7) rfl)) (u12_1 _ (List.mem_of_getElem? (i := 1) rfl))) rfl rfl rfl kdX12_isIn.2 ⟨Nat.le_of_ble_eq_true rfl, Nat.le_of_ble_eq_true rfl⟩) hP hS hA rfl hl.1 rfl (Nat.le_of_ble_eq_true rfl) dX12_two_13 ⟨Nat.le_refl _, Nat.le_refl _⟩ (fun H locs hP hS => ?_)
    refine W.eq (g2 := F0 m 16 ls [.int q3]) rfl ?_
    refine lv_if_ne (tgt := 21) hx hb dX12_two_16 (by decide) (fun c4 => ?_) (fun c4 => ?_)
    · have hf := if_f hf c4
      refine lv_aload_n hx hb dX12_two_21 rfl (lv_at hl 0 rfl) ?_
      refine g_get (Cn := RX12) (T := TX12) (N := 21) (v := .ref (a 67)) (own := RX12) hx hb hown hts hK M_O rfl (fun _ hw => List.mem_cons_of_mem _ (u12_cls _ hw)) 0 (by decide) (List.mem_cons_of_mem _ (u12_0 _ (List.mem_of_getElem? (i := 5) rfl))) rfl rfl hP dX12_two_22 ?_
      refine lv_iconst (v := 2) hx hb dX12_two_25 (by decide) ?_
      obtain ⟨c5, hf⟩ := gdi_s hf
      refine g_ial hx hb hK (⟨by decide, rfl⟩ : gAI 67 30) c5 hP dX12_two_26 ?_
      refine lv_iload_n hx hb dX12_two_27 rfl (lv_at hl 1 rfl) ?_
      obtain ⟨q6, hq6, hf⟩ := bind_s hf
      refine g_callS (As := [.int (aI h 67 (2 : Int32).toNatClampNeg), .int v1]) (rest := []) hx hb hml hown hts hK hN (m_X12_has l D a C ha h (aI h 67 (2 : Int32).toNatClampNeg) v1  q6 hq6) (va_cwS 2 hts (gUS (u12_2 _ (List.mem_of_getElem? (i := 8) rfl)) (u12_2 _ (List.mem_of_getElem? (i := 9) rfl)) (u12_1 _ (List.mem_of_getElem? (i := 7) rfl)) (u12_1 _ (List.mem_of_getElem? (i := 12) rfl))) rfl rfl rfl kdX12_has.2 ⟨Nat.le_of_ble_eq_true rfl, Nat.le_of_ble_eq_true rfl⟩) hP hS hA rfl hl.1 rfl (Nat.le_of_ble_eq_true rfl) dX12_two_28 ⟨Nat.le_refl _, Nat.le_refl _⟩ (fun H locs hP hS => ?_)
      refine W.eq (g2 := F0 m 31 ls [.int q6]) rfl ?_
      refine lv_if_eq (tgt := 47) hx hb dX12_two_31 (by decide) (fun c7 => ?_) (fun c7 => ?_)
      · have hf := if_t hf c7
        refine lv_bipush (v := (-3)) hx hb dX12_two_47 (by decide) ?_
        exact g_iretW hx hb hr hlk hP hS (ret2 hf) dX12_two_49
      · have hf := if_f hf c7
        refine lv_aload_n hx hb dX12_two_34 rfl (lv_at hl 0 rfl) ?_
        refine g_get (Cn := RX12) (T := TX12) (N := 21) (v := .ref (a 67)) (own := RX12) hx hb hown hts hK M_O rfl (fun _ hw => List.mem_cons_of_mem _ (u12_cls _ hw)) 0 (by decide) (List.mem_cons_of_mem _ (u12_0 _ (List.mem_of_getElem? (i := 5) rfl))) rfl rfl hP dX12_two_35 ?_
        refine lv_iconst (v := 2) hx hb dX12_two_38 (by decide) ?_
        obtain ⟨c8, hf⟩ := gdi_s hf
        refine g_ial hx hb hK (⟨by decide, rfl⟩ : gAI 67 30) c8 hP dX12_two_39 ?_
        refine lv_iload_n hx hb dX12_two_40 rfl (lv_at hl 2 rfl) ?_
        obtain ⟨q9, hq9, hf⟩ := bind_s hf
        refine g_callS (As := [.int (aI h 67 (2 : Int32).toNatClampNeg), .int v2]) (rest := []) hx hb hml hown hts hK hN (m_X12_has l D a C ha h (aI h 67 (2 : Int32).toNatClampNeg) v2  q9 hq9) (va_cwS 2 hts (gUS (u12_2 _ (List.mem_of_getElem? (i := 8) rfl)) (u12_2 _ (List.mem_of_getElem? (i := 9) rfl)) (u12_1 _ (List.mem_of_getElem? (i := 7) rfl)) (u12_1 _ (List.mem_of_getElem? (i := 12) rfl))) rfl rfl rfl kdX12_has.2 ⟨Nat.le_of_ble_eq_true rfl, Nat.le_of_ble_eq_true rfl⟩) hP hS hA rfl hl.1 rfl (Nat.le_of_ble_eq_true rfl) dX12_two_41 ⟨Nat.le_refl _, Nat.le_refl _⟩ (fun H locs hP hS => ?_)
        refine W.eq (g2 := F0 m 44 ls [.int q9]) rfl ?_
        refine lv_if_ne (tgt := 50) hx hb dX12_two_44 (by decide) (fun c10 => ?_) (fun c10 => ?_)
        · have hf := if_f hf c10
          refine lv_iconst (v := 0) hx hb dX12_two_50 (by decide) ?_
          refine lv_istore (lv' := [(4, .int 0), (0, .ref (a 66)), (1, .int v1), (2, .int v2), (3, .int v3)]) hx hb dX12_two_51 hl (by decide) rfl (fun ls hl => ?_)
          exact J53 FU 0 h hf H locs ls hP hS (lv_sub hl [1, 2, 3, 4, 0] rfl)
        · have hf := if_t hf c10
          refine lv_bipush (v := (-3)) hx hb dX12_two_47 (by decide) ?_
          exact g_iretW hx hb hr hlk hP hS (ret2 hf) dX12_two_49
    · have hf := if_t hf c4
      refine lv_iconst (v := (-1)) hx hb dX12_two_19 (by decide) ?_
      exact g_iretW hx hb hr hlk hP hS (ret2 hf) dX12_two_20

def X12_storms_B176 (v1 : Int32) (v2 : Int32) (v3 : Int32) (v4 : Int32) (k73 : Int64 → Int64 → Int32 → HS → Option (Int64 × HS)) (v7 : Int64) (v9 : Int32) (s0 : Int64) (s1 : Int64) (h : HS) : Option (Int64 × HS) :=
    nm (s1 + s0) fun x26 =>
    nm (v9 + 1) fun x27 =>
    k73 x26 v7 x27 h
def X12_storms_B146 (v1 : Int32) (v2 : Int32) (v3 : Int32) (v4 : Int32) (k73 : Int64 → Int64 → Int32 → HS → Option (Int64 × HS)) (k98 : Int64 → Int64 → Int32 → Int64 → Int32 → HS → Option (Int64 × HS)) (v5 : Int64) (v7 : Int64) (v9 : Int32) (v10 : Int64) (v12 : Int32) (s0 : Int32) (h : HS) : Option (Int64 × HS) :=
    (X12_day h 68 s0).bind fun q24 =>
    nm (v12 + 1) fun x25 =>
    k98 v5 v7 v9 v10 x25 q24
def X12_storms_B124 (v1 : Int32) (v2 : Int32) (v3 : Int32) (v4 : Int32) (k73 : Int64 → Int64 → Int32 → HS → Option (Int64 × HS)) (k98 : Int64 → Int64 → Int32 → Int64 → Int32 → HS → Option (Int64 × HS)) (v5 : Int64) (v7 : Int64) (v9 : Int32) (v12 : Int32) (s0 : Int64) (s1 : Int64) (h : HS) : Option (Int64 × HS) :=
    nm (s1 * s0) fun x21 =>
    (X12_has v9 v12).bind fun q22 =>
    (if q22 = 0 then
    X12_storms_B146 v1 v2 v3 v4 k73 k98 v5 v7 v9 x21 v12 0 h
    else
    X12_storms_B146 v1 v2 v3 v4 k73 k98 v5 v7 v9 x21 v12 (-1) h)
def X12_storms_B98 (v1 : Int32) (v2 : Int32) (v3 : Int32) (v4 : Int32) (k73 : Int64 → Int64 → Int32 → HS → Option (Int64 × HS)) : Nat → Int64 → Int64 → Int32 → Int64 → Int32 → HS → Option (Int64 × HS)
  | 0, _, _, _, _, _, _ => none
  | fu + 1, v5, v7, v9, v10, v12, h =>
    (if v2 ≤ v12 then
    gdi 2 30 <|
    (X12_has (aI h 68 (2 : Int32).toNatClampNeg) v1).bind fun q17 =>
    (if q17 = 0 then
    X12_storms_B176 v1 v2 v3 v4 k73 v7 v9 0 v5 h
    else
    X12_storms_B176 v1 v2 v3 v4 k73 v7 v9 v10 v5 h)
    else
    (X12_has v9 v12).bind fun q19 =>
    (if q19 = 0 then
    X12_storms_B124 v1 v2 v3 v4 k73 (X12_storms_B98 v1 v2 v3 v4 k73 fu) v5 v7 v9 v12 ((v3 - 1).toInt64) v10 h
    else
    X12_storms_B124 v1 v2 v3 v4 k73 (X12_storms_B98 v1 v2 v3 v4 k73 fu) v5 v7 v9 v12 1 v10 h))
def X12_storms_B73 (v1 : Int32) (v2 : Int32) (v3 : Int32) (v4 : Int32) : Nat → Int64 → Int64 → Int32 → HS → Option (Int64 × HS)
  | 0, _, _, _, _ => none
  | fu + 1, v5, v7, v9, h =>
    (if ((1 : Int32) <<< (v2 &&& 31)) ≤ v9 then
    (X12_partOf v5 v7 v4).bind fun q13 =>
    some (q13, h)
    else
    (X12_copies h 67 68).bind fun q14 =>
    X12_storms_B98 v1 v2 v3 v4 (X12_storms_B73 v1 v2 v3 v4 fu) FU v5 v7 v9 1 0 q14)
def X12_storms_B51 (v1 : Int32) (v2 : Int32) (v3 : Int32) (v4 : Int32) : Nat → Int64 → Int64 → Int32 → HS → Option (Int64 × HS)
  | 0, _, _, _, _ => none
  | fu + 1, v5, v7, v9, h =>
    (if v2 ≤ v9 then
    X12_storms_B73 v1 v2 v3 v4 FU v5 v7 0 h
    else
    nm (v7 * (v3.toInt64)) fun x10 =>
    nm (v9 + 1) fun x11 =>
    (X12_storms_B51 v1 v2 v3 v4 fu) v5 x10 x11 h)
def X12_storms (h : HS) (v1 : Int32) (v2 : Int32) (v3 : Int32) (v4 : Int32) : Option (Int64 × HS) :=
    (X12_isOne h v1).bind fun q1 =>
    (if q1 = 0 then
    some (1000000001, h)
    else
    (X12_isIn v2 0 7).bind fun q3 =>
    (if q3 = 0 then
    some (1000000001, h)
    else
    (X12_isIn v3 2 20).bind fun q5 =>
    (if q5 = 0 then
    some (1000000001, h)
    else
    (X12_isIn v4 0 1).bind fun q7 =>
    (if q7 = 0 then
    some (1000000001, h)
    else
    X12_storms_B51 v1 v2 v3 v4 FU 0 1 0 h))))
def uX12_storms : List Cond := .code yX12_storms cX12_storms 13 (some .long) :: UU
def rmX12_storms : Room := { frames := 5, cells := 0, slots := 0, locals := 111 }
theorem kdX12_storms : yX12_storms.cls = RX12 ∧ yX12_storms.cls ≠ "java/lang/invoke/MethodHandle" ∧ yX12_storms.cls ≠ "java/lang/invoke/VarHandle" ∧ (parseMethodDescriptor yX12_storms.desc).map (fun d => d.parameters.length) = some 4 := by decide +kernel
set_option maxHeartbeats 4000000 in
set_option maxRecDepth 100000 in
theorem m_X12_storms (l : Launch) (D : va_G) (a : Nat → Nat) (C : Nat → ClassId) (ha : ginj a) (h : HS) (v1 : Int32) (v2 : Int32) (v3 : Int32) (v4 : Int32)  (r : Int64) (h' : HS) (hf : X12_storms h v1 v2 v3 v4 = some (r, h')) : gM l yX12_storms uX12_storms rmX12_storms D a C [.ref (a 66), .int v1, .int v2, .int v3, .int v4] h (some (.long r)) h' := by
  refine g_start (av := [.ref (a 66), .int v1, .int v2, .int v3, .int v4]) (cc := cX12_storms) (maxL := 13) (rt := (some .long)) (by decide) rfl (Nat.le_of_ble_eq_true rfl) ?_
  intro p e s m below meth c hx hb hr hml hown hlk hts hP hK hN ls hl
  have hA : ∀ q, gA a q → gA a q := fun _ q => q
  have hS : va_S (gA a) s.heap s.heap [] := va_S.rf
  have hl : lv_has ls 13 [(0, .ref (a 66)), (1, .int v1), (2, .int v2), (3, .int v3), (4, .int v4)] := hl
  have J176 : ∀ (k73 : Int64 → Int64 → Int32 → HS → Option (Int64 × HS)) (hk73 : ∀ (v5 : Int64) (v7 : Int64) (v9 : Int32) (h : HS), k73 v5 v7 v9 h = some (r, h') → gG p l e (headSpec uX12_storms rmX12_storms).room s m ([.ref (a 66), .int v1, .int v2, .int v3, .int v4] : List Value).toArray below meth c (MQ below (gQ (some (.long r)) D a C h') ([.ref (a 66), .int v1, .int v2, .int v3, .int v4] : List Value).toArray s 0 0 (gA a)) D a C 13 h 73 [(0, .ref (a 66)), (1, .int v1), (2, .int v2), (3, .int v3), (4, .int v4), (5, .long v5), (7, .long v7), (9, .int v9)] []) (v7 : Int64) (v9 : Int32) (s0 : Int64) (s1 : Int64) (h : HS) (_ : X12_storms_B176 v1 v2 v3 v4 k73 v7 v9 s0 s1 h = some (r, h')), gG p l e (headSpec uX12_storms rmX12_storms).room s m ([.ref (a 66), .int v1, .int v2, .int v3, .int v4] : List Value).toArray below meth c (MQ below (gQ (some (.long r)) D a C h') ([.ref (a 66), .int v1, .int v2, .int v3, .int v4] : List Value).toArray s 0 0 (gA a)) D a C 13 h 176 [(0, .ref (a 66)), (1, .int v1), (2, .int v2), (3, .int v3), (4, .int v4), (7, .long v7), (9, .int v9)] [.long s0, .long s1] := by
    intro k73 hk73 v7 v9 s0 s1 h hf H locs ls hP hS hl
    unfold X12_storms_B176 at hf
    refine lv_ladd hx hb dX12_storms_176 ?_
    refine lv_topl (fun x26 ex26 => ?_)
    have hf := nm_s hf ex26
    refine lv_lstore (lv' := [(5, .long x26), (0, .ref (a 66)), (1, .int v1), (2, .int v2), (3, .int v3), (4, .int v4), (7, .long v7), (9, .int v9)]) hx hb dX12_storms_177 hl (by decide) rfl (fun ls hl => ?_)
    obtain ⟨x27, ex27⟩ : ∃ y : Int32, y = (v9 + 1) := ⟨_, rfl⟩
    have hf := nm_s hf ex27
    refine lv_iinc (v := x27) (lv' := [(9, .int x27), (5, .long x26), (0, .ref (a 66)), (1, .int v1), (2, .int v2), (3, .int v3), (4, .int v4), (7, .long v7)]) hx hb dX12_storms_179 hl (k := 7) rfl (by rw [ex27]; rfl) (by decide) rfl (fun ls hl => ?_)
    refine lv_goto (tgt := 73) hx hb dX12_storms_182 (by decide) ?_
    exact hk73 x26 v7 x27 h hf H locs ls hP hS (lv_sub hl [2, 3, 4, 5, 6, 1, 7, 0] rfl)
  have J146 : ∀ (k73 : Int64 → Int64 → Int32 → HS → Option (Int64 × HS)) (hk73 : ∀ (v5 : Int64) (v7 : Int64) (v9 : Int32) (h : HS), k73 v5 v7 v9 h = some (r, h') → gG p l e (headSpec uX12_storms rmX12_storms).room s m ([.ref (a 66), .int v1, .int v2, .int v3, .int v4] : List Value).toArray below meth c (MQ below (gQ (some (.long r)) D a C h') ([.ref (a 66), .int v1, .int v2, .int v3, .int v4] : List Value).toArray s 0 0 (gA a)) D a C 13 h 73 [(0, .ref (a 66)), (1, .int v1), (2, .int v2), (3, .int v3), (4, .int v4), (5, .long v5), (7, .long v7), (9, .int v9)] []) (k98 : Int64 → Int64 → Int32 → Int64 → Int32 → HS → Option (Int64 × HS)) (hk98 : ∀ (v5 : Int64) (v7 : Int64) (v9 : Int32) (v10 : Int64) (v12 : Int32) (h : HS), k98 v5 v7 v9 v10 v12 h = some (r, h') → gG p l e (headSpec uX12_storms rmX12_storms).room s m ([.ref (a 66), .int v1, .int v2, .int v3, .int v4] : List Value).toArray below meth c (MQ below (gQ (some (.long r)) D a C h') ([.ref (a 66), .int v1, .int v2, .int v3, .int v4] : List Value).toArray s 0 0 (gA a)) D a C 13 h 98 [(0, .ref (a 66)), (1, .int v1), (2, .int v2), (3, .int v3), (4, .int v4), (5, .long v5), (7, .long v7), (9, .int v9), (10, .long v10), (12, .int v12)] []) (v5 : Int64) (v7 : Int64) (v9 : Int32) (v10 : Int64) (v12 : Int32) (s0 : Int32) (h : HS) (_ : X12_storms_B146 v1 v2 v3 v4 k73 k98 v5 v7 v9 v10 v12 s0 h = some (r, h')), gG p l e (headSpec uX12_storms rmX12_storms).room s m ([.ref (a 66), .int v1, .int v2, .int v3, .int v4] : List Value).toArray below meth c (MQ below (gQ (some (.long r)) D a C h') ([.ref (a 66), .int v1, .int v2, .int v3, .int v4] : List Value).toArray s 0 0 (gA a)) D a C 13 h 146 [(0, .ref (a 66)), (1, .int v1), (2, .int v2), (3, .int v3), (4, .int v4), (5, .long v5), (7, .long v7), (9, .int v9), (10, .long v10), (12, .int v12)] [.int s0, .ref (a 68)] := by
    intro k73 hk73 k98 hk98 v5 v7 v9 v10 v12 s0 h hf H locs ls hP hS hl
    unfold X12_storms_B146 at hf
    obtain ⟨q24, hq24, hf⟩ := bind_s hf
    refine g_callS (As := [.ref (a 68), .int s0]) (rest := []) hx hb hml hown hts hK hN (m_X12_day l D a C ha h 68 s0 (Or.inr (Or.inl rfl)) q24 hq24) (va_cwS 2 hts (gUS (u12_2 _ (List.mem_of_getElem? (i := 17) rfl)) (u12_2 _ (List.mem_of_getElem? (i := 18) rfl)) (u12_1 _ (List.mem_of_getElem? (i := 7) rfl)) (u12_2 _ (List.mem_of_getElem? (i := 16) rfl))) rfl rfl rfl kdX12_day.2 ⟨Nat.le_of_ble_eq_true rfl, Nat.le_of_ble_eq_true rfl⟩) hP hS hA rfl hl.1 rfl (Nat.le_of_ble_eq_true rfl) dX12_storms_146 ⟨Nat.le_refl _, Nat.le_refl _⟩ (fun H locs hP hS => ?_)
    refine W.eq (g2 := F0 m 149 ls []) rfl ?_
    obtain ⟨x25, ex25⟩ : ∃ y : Int32, y = (v12 + 1) := ⟨_, rfl⟩
    have hf := nm_s hf ex25
    refine lv_iinc (v := x25) (lv' := [(12, .int x25), (0, .ref (a 66)), (1, .int v1), (2, .int v2), (3, .int v3), (4, .int v4), (5, .long v5), (7, .long v7), (9, .int v9), (10, .long v10)]) hx hb dX12_storms_149 hl (k := 9) rfl (by rw [ex25]; rfl) (by decide) rfl (fun ls hl => ?_)
    refine lv_goto (tgt := 98) hx hb dX12_storms_152 (by decide) ?_
    exact hk98 v5 v7 v9 v10 x25 q24 hf H locs ls hP hS (lv_sub hl [1, 2, 3, 4, 5, 6, 7, 8, 9, 0] rfl)
  have J124 : ∀ (k73 : Int64 → Int64 → Int32 → HS → Option (Int64 × HS)) (hk73 : ∀ (v5 : Int64) (v7 : Int64) (v9 : Int32) (h : HS), k73 v5 v7 v9 h = some (r, h') → gG p l e (headSpec uX12_storms rmX12_storms).room s m ([.ref (a 66), .int v1, .int v2, .int v3, .int v4] : List Value).toArray below meth c (MQ below (gQ (some (.long r)) D a C h') ([.ref (a 66), .int v1, .int v2, .int v3, .int v4] : List Value).toArray s 0 0 (gA a)) D a C 13 h 73 [(0, .ref (a 66)), (1, .int v1), (2, .int v2), (3, .int v3), (4, .int v4), (5, .long v5), (7, .long v7), (9, .int v9)] []) (k98 : Int64 → Int64 → Int32 → Int64 → Int32 → HS → Option (Int64 × HS)) (hk98 : ∀ (v5 : Int64) (v7 : Int64) (v9 : Int32) (v10 : Int64) (v12 : Int32) (h : HS), k98 v5 v7 v9 v10 v12 h = some (r, h') → gG p l e (headSpec uX12_storms rmX12_storms).room s m ([.ref (a 66), .int v1, .int v2, .int v3, .int v4] : List Value).toArray below meth c (MQ below (gQ (some (.long r)) D a C h') ([.ref (a 66), .int v1, .int v2, .int v3, .int v4] : List Value).toArray s 0 0 (gA a)) D a C 13 h 98 [(0, .ref (a 66)), (1, .int v1), (2, .int v2), (3, .int v3), (4, .int v4), (5, .long v5), (7, .long v7), (9, .int v9), (10, .long v10), (12, .int v12)] []) (v5 : Int64) (v7 : Int64) (v9 : Int32) (v12 : Int32) (s0 : Int64) (s1 : Int64) (h : HS) (_ : X12_storms_B124 v1 v2 v3 v4 k73 k98 v5 v7 v9 v12 s0 s1 h = some (r, h')), gG p l e (headSpec uX12_storms rmX12_storms).room s m ([.ref (a 66), .int v1, .int v2, .int v3, .int v4] : List Value).toArray below meth c (MQ below (gQ (some (.long r)) D a C h') ([.ref (a 66), .int v1, .int v2, .int v3, .int v4] : List Value).toArray s 0 0 (gA a)) D a C 13 h 124 [(0, .ref (a 66)), (1, .int v1), (2, .int v2), (3, .int v3), (4, .int v4), (5, .long v5), (7, .long v7), (9, .int v9), (12, .int v12)] [.long s0, .long s1] := by
    intro k73 hk73 k98 hk98 v5 v7 v9 v12 s0 s1 h hf H locs ls hP hS hl
    unfold X12_storms_B124 at hf
    refine lv_lmul hx hb dX12_storms_124 ?_
    refine lv_topl (fun x21 ex21 => ?_)
    have hf := nm_s hf ex21
    refine lv_lstore (lv' := [(10, .long x21), (0, .ref (a 66)), (1, .int v1), (2, .int v2), (3, .int v3), (4, .int v4), (5, .long v5), (7, .long v7), (9, .int v9), (12, .int v12)]) hx hb dX12_storms_125 hl (by decide) rfl (fun ls hl => ?_)
    refine lv_aload_n hx hb dX12_storms_127 rfl (lv_at hl 1 rfl) ?_
    refine g_get (Cn := RX12) (T := TX12) (N := 21) (v := .ref (a 68)) (own := RX12) hx hb hown hts hK M_O rfl (fun _ hw => List.mem_cons_of_mem _ (u12_cls _ hw)) 1 (by decide) (List.mem_cons_of_mem _ (u12_0 _ (List.mem_of_getElem? (i := 6) rfl))) rfl rfl hP dX12_storms_128 ?_
    refine lv_iload hx hb dX12_storms_131 (lv_at hl 8 rfl) ?_
    refine lv_iload hx hb dX12_storms_133 (lv_at hl 9 rfl) ?_
    obtain ⟨q22, hq22, hf⟩ := bind_s hf
    refine g_callS (As := [.int v9, .int v12]) (rest := [.ref (a 68)]) hx hb hml hown hts hK hN (m_X12_has l D a C ha h v9 v12  q22 hq22) (va_cwS 2 hts (gUS (u12_2 _ (List.mem_of_getElem? (i := 8) rfl)) (u12_2 _ (List.mem_of_getElem? (i := 9) rfl)) (u12_1 _ (List.mem_of_getElem? (i := 7) rfl)) (u12_1 _ (List.mem_of_getElem? (i := 12) rfl))) rfl rfl rfl kdX12_has.2 ⟨Nat.le_of_ble_eq_true rfl, Nat.le_of_ble_eq_true rfl⟩) hP hS hA rfl hl.1 rfl (Nat.le_of_ble_eq_true rfl) dX12_storms_135 ⟨Nat.le_refl _, Nat.le_refl _⟩ (fun H locs hP hS => ?_)
    refine W.eq (g2 := F0 m 138 ls [.int q22, .ref (a 68)]) rfl ?_
    refine lv_if_eq (tgt := 145) hx hb dX12_storms_138 (by decide) (fun c23 => ?_) (fun c23 => ?_)
    · have hf := if_t hf c23
      refine lv_iconst (v := 0) hx hb dX12_storms_145 (by decide) ?_
      exact J146 k73 hk73 k98 hk98 v5 v7 v9 x21 v12 0 h hf H locs ls hP hS (lv_sub hl [1, 2, 3, 4, 5, 6, 7, 8, 0, 9] rfl)
    · have hf := if_f hf c23
      refine lv_iconst (v := (-1)) hx hb dX12_storms_141 (by decide) ?_
      refine lv_goto (tgt := 146) hx hb dX12_storms_142 (by decide) ?_
      exact J146 k73 hk73 k98 hk98 v5 v7 v9 x21 v12 (-1) h hf H locs ls hP hS (lv_sub hl [1, 2, 3, 4, 5, 6, 7, 8, 0, 9] rfl)
  have J98 : ∀ (k73 : Int64 → Int64 → Int32 → HS → Option (Int64 × HS)) (hk73 : ∀ (v5 : Int64) (v7 : Int64) (v9 : Int32) (h : HS), k73 v5 v7 v9 h = some (r, h') → gG p l e (headSpec uX12_storms rmX12_storms).room s m ([.ref (a 66), .int v1, .int v2, .int v3, .int v4] : List Value).toArray below meth c (MQ below (gQ (some (.long r)) D a C h') ([.ref (a 66), .int v1, .int v2, .int v3, .int v4] : List Value).toArray s 0 0 (gA a)) D a C 13 h 73 [(0, .ref (a 66)), (1, .int v1), (2, .int v2), (3, .int v3), (4, .int v4), (5, .long v5), (7, .long v7), (9, .int v9)] []) (fu : Nat) (v5 : Int64) (v7 : Int64) (v9 : Int32) (v10 : Int64) (v12 : Int32) (h : HS), X12_storms_B98 v1 v2 v3 v4 k73 fu v5 v7 v9 v10 v12 h = some (r, h') → gG p l e (headSpec uX12_storms rmX12_storms).room s m ([.ref (a 66), .int v1, .int v2, .int v3, .int v4] : List Value).toArray below meth c (MQ below (gQ (some (.long r)) D a C h') ([.ref (a 66), .int v1, .int v2, .int v3, .int v4] : List Value).toArray s 0 0 (gA a)) D a C 13 h 98 [(0, .ref (a 66)), (1, .int v1), (2, .int v2), (3, .int v3), (4, .int v4), (5, .long v5), (7, .long v7), (9, .int v9), (10, .long v10), (12, .int v12)] [] := by
    intro k73 hk73 fu
    induction fu with
    | zero => intro v5 v7 v9 v10 v12 h hf; exact absurd hf (by simp [X12_storms_B98])
    | succ fu ih =>
      intro v5 v7 v9 v10 v12 h hf H locs ls hP hS hl
      rw [X12_storms_B98] at hf
      refine lv_iload hx hb dX12_storms_98 (lv_at hl 9 rfl) ?_
      refine lv_iload_n hx hb dX12_storms_100 rfl (lv_at hl 2 rfl) ?_
      refine lv_icmp_ge (tgt := 155) hx hb dX12_storms_101 (by decide) (fun c15 => ?_) (fun c15 => ?_)
      · have hf := if_t hf c15
        refine lv_lload hx hb dX12_storms_155 (lv_at hl 5 rfl) ?_
        refine lv_aload_n hx hb dX12_storms_157 rfl (lv_at hl 0 rfl) ?_
        refine g_get (Cn := RX12) (T := TX12) (N := 21) (v := .ref (a 68)) (own := RX12) hx hb hown hts hK M_O rfl (fun _ hw => List.mem_cons_of_mem _ (u12_cls _ hw)) 1 (by decide) (List.mem_cons_of_mem _ (u12_0 _ (List.mem_of_getElem? (i := 6) rfl))) rfl rfl hP dX12_storms_158 ?_
        refine lv_iconst (v := 2) hx hb dX12_storms_161 (by decide) ?_
        obtain ⟨c16, hf⟩ := gdi_s hf
        refine g_ial hx hb hK (⟨by decide, rfl⟩ : gAI 68 30) c16 hP dX12_storms_162 ?_
        refine lv_iload_n hx hb dX12_storms_163 rfl (lv_at hl 1 rfl) ?_
        obtain ⟨q17, hq17, hf⟩ := bind_s hf
        refine g_callS (As := [.int (aI h 68 (2 : Int32).toNatClampNeg), .int v1]) (rest := [.long v5]) hx hb hml hown hts hK hN (m_X12_has l D a C ha h (aI h 68 (2 : Int32).toNatClampNeg) v1  q17 hq17) (va_cwS 2 hts (gUS (u12_2 _ (List.mem_of_getElem? (i := 8) rfl)) (u12_2 _ (List.mem_of_getElem? (i := 9) rfl)) (u12_1 _ (List.mem_of_getElem? (i := 7) rfl)) (u12_1 _ (List.mem_of_getElem? (i := 12) rfl))) rfl rfl rfl kdX12_has.2 ⟨Nat.le_of_ble_eq_true rfl, Nat.le_of_ble_eq_true rfl⟩) hP hS hA rfl hl.1 rfl (Nat.le_of_ble_eq_true rfl) dX12_storms_164 ⟨Nat.le_refl _, Nat.le_refl _⟩ (fun H locs hP hS => ?_)
        refine W.eq (g2 := F0 m 167 ls [.int q17, .long v5]) rfl ?_
        refine lv_if_eq (tgt := 175) hx hb dX12_storms_167 (by decide) (fun c18 => ?_) (fun c18 => ?_)
        · have hf := if_t hf c18
          refine lv_lconst (v := 0) hx hb dX12_storms_175 (by decide) ?_
          exact J176 k73 hk73 v7 v9 0 v5 h hf H locs ls hP hS (lv_sub hl [0, 1, 2, 3, 4, 6, 7] rfl)
        · have hf := if_f hf c18
          refine lv_lload hx hb dX12_storms_170 (lv_at hl 8 rfl) ?_
          refine lv_goto (tgt := 176) hx hb dX12_storms_172 (by decide) ?_
          exact J176 k73 hk73 v7 v9 v10 v5 h hf H locs ls hP hS (lv_sub hl [0, 1, 2, 3, 4, 6, 7] rfl)
      · have hf := if_f hf c15
        refine lv_lload hx hb dX12_storms_104 (lv_at hl 8 rfl) ?_
        refine lv_iload hx hb dX12_storms_106 (lv_at hl 7 rfl) ?_
        refine lv_iload hx hb dX12_storms_108 (lv_at hl 9 rfl) ?_
        obtain ⟨q19, hq19, hf⟩ := bind_s hf
        refine g_callS (As := [.int v9, .int v12]) (rest := [.long v10]) hx hb hml hown hts hK hN (m_X12_has l D a C ha h v9 v12  q19 hq19) (va_cwS 2 hts (gUS (u12_2 _ (List.mem_of_getElem? (i := 8) rfl)) (u12_2 _ (List.mem_of_getElem? (i := 9) rfl)) (u12_1 _ (List.mem_of_getElem? (i := 7) rfl)) (u12_1 _ (List.mem_of_getElem? (i := 12) rfl))) rfl rfl rfl kdX12_has.2 ⟨Nat.le_of_ble_eq_true rfl, Nat.le_of_ble_eq_true rfl⟩) hP hS hA rfl hl.1 rfl (Nat.le_of_ble_eq_true rfl) dX12_storms_110 ⟨Nat.le_refl _, Nat.le_refl _⟩ (fun H locs hP hS => ?_)
        refine W.eq (g2 := F0 m 113 ls [.int q19, .long v10]) rfl ?_
        refine lv_if_eq (tgt := 120) hx hb dX12_storms_113 (by decide) (fun c20 => ?_) (fun c20 => ?_)
        · have hf := if_t hf c20
          refine lv_iload_n hx hb dX12_storms_120 rfl (lv_at hl 3 rfl) ?_
          refine lv_iconst (v := 1) hx hb dX12_storms_121 (by decide) ?_
          refine lv_isub hx hb dX12_storms_122 ?_
          refine lv_i2l hx hb dX12_storms_123 rfl ?_
          exact J124 k73 hk73 (X12_storms_B98 v1 v2 v3 v4 k73 fu) ih v5 v7 v9 v12 ((v3 - 1).toInt64) v10 h hf H locs ls hP hS (lv_sub hl [0, 1, 2, 3, 4, 5, 6, 7, 9] rfl)
        · have hf := if_f hf c20
          refine lv_lconst (v := 1) hx hb dX12_storms_116 (by decide) ?_
          refine lv_goto (tgt := 124) hx hb dX12_storms_117 (by decide) ?_
          exact J124 k73 hk73 (X12_storms_B98 v1 v2 v3 v4 k73 fu) ih v5 v7 v9 v12 1 v10 h hf H locs ls hP hS (lv_sub hl [0, 1, 2, 3, 4, 5, 6, 7, 9] rfl)
  have J73 : ∀ (fu : Nat) (v5 : Int64) (v7 : Int64) (v9 : Int32) (h : HS), X12_storms_B73 v1 v2 v3 v4 fu v5 v7 v9 h = some (r, h') → gG p l e (headSpec uX12_storms rmX12_storms).room s m ([.ref (a 66), .int v1, .int v2, .int v3, .int v4] : List Value).toArray below meth c (MQ below (gQ (some (.long r)) D a C h') ([.ref (a 66), .int v1, .int v2, .int v3, .int v4] : List Value).toArray s 0 0 (gA a)) D a C 13 h 73 [(0, .ref (a 66)), (1, .int v1), (2, .int v2), (3, .int v3), (4, .int v4), (5, .long v5), (7, .long v7), (9, .int v9)] [] := by
    intro fu
    induction fu with
    | zero => intro v5 v7 v9 h hf; exact absurd hf (by simp [X12_storms_B73])
    | succ fu ih =>
      intro v5 v7 v9 h hf H locs ls hP hS hl
      rw [X12_storms_B73] at hf
      refine lv_iload hx hb dX12_storms_73 (lv_at hl 7 rfl) ?_
      refine lv_iconst (v := 1) hx hb dX12_storms_75 (by decide) ?_
      refine lv_iload_n hx hb dX12_storms_76 rfl (lv_at hl 2 rfl) ?_
      refine lv_ishl hx hb dX12_storms_77 ?_
      refine lv_icmp_ge (tgt := 185) hx hb dX12_storms_78 (by decide) (fun c12 => ?_) (fun c12 => ?_)
      · have hf := if_t hf c12
        refine lv_lload hx hb dX12_storms_185 (lv_at hl 5 rfl) ?_
        refine lv_lload hx hb dX12_storms_187 (lv_at hl 6 rfl) ?_
        refine lv_iload hx hb dX12_storms_189 (lv_at hl 4 rfl) ?_
        obtain ⟨q13, hq13, hf⟩ := bind_s hf
        refine g_callS (As := [.long v5, .long v7, .int v4]) (rest := []) hx hb hml hown hts hK hN (m_X12_partOf l D a C ha h v5 v7 v4  q13 hq13) (va_cwS 3 hts (gUS (u12_6 _ (List.mem_of_getElem? (i := 10) rfl)) (u12_6 _ (List.mem_of_getElem? (i := 11) rfl)) (u12_1 _ (List.mem_of_getElem? (i := 7) rfl)) (u12_6 _ (List.mem_of_getElem? (i := 3) rfl))) rfl rfl rfl kdX12_partOf.2 ⟨Nat.le_of_ble_eq_true rfl, Nat.le_of_ble_eq_true rfl⟩) hP hS hA rfl hl.1 rfl (Nat.le_of_ble_eq_true rfl) dX12_storms_191 ⟨Nat.le_refl _, Nat.le_refl _⟩ (fun H locs hP hS => ?_)
        refine W.eq (g2 := F0 m 194 ls [.long q13]) rfl ?_
        exact g_lretW hx hb hr hlk hP hS (ret2 hf) dX12_storms_194
      · have hf := if_f hf c12
        refine lv_lconst (v := 1) hx hb dX12_storms_81 (by decide) ?_
        refine lv_lstore (lv' := [(10, .long 1), (0, .ref (a 66)), (1, .int v1), (2, .int v2), (3, .int v3), (4, .int v4), (5, .long v5), (7, .long v7), (9, .int v9)]) hx hb dX12_storms_82 hl (by decide) rfl (fun ls hl => ?_)
        refine lv_aload_n hx hb dX12_storms_84 rfl (lv_at hl 1 rfl) ?_
        refine g_get (Cn := RX12) (T := TX12) (N := 21) (v := .ref (a 67)) (own := RX12) hx hb hown hts hK M_O rfl (fun _ hw => List.mem_cons_of_mem _ (u12_cls _ hw)) 0 (by decide) (List.mem_cons_of_mem _ (u12_0 _ (List.mem_of_getElem? (i := 5) rfl))) rfl rfl hP dX12_storms_85 ?_
        refine lv_aload_n hx hb dX12_storms_88 rfl (lv_at hl 1 rfl) ?_
        refine g_get (Cn := RX12) (T := TX12) (N := 21) (v := .ref (a 68)) (own := RX12) hx hb hown hts hK M_O rfl (fun _ hw => List.mem_cons_of_mem _ (u12_cls _ hw)) 1 (by decide) (List.mem_cons_of_mem _ (u12_0 _ (List.mem_of_getElem? (i := 6) rfl))) rfl rfl hP dX12_storms_89 ?_
        obtain ⟨q14, hq14, hf⟩ := bind_s hf
        refine g_callS (As := [.ref (a 67), .ref (a 68)]) (rest := []) hx hb hml hown hts hK hN (m_X12_copies l D a C ha h 67 68 (Or.inl rfl) (Or.inr (Or.inl rfl)) q14 hq14) (va_cwS 2 hts (gUS (u12_4 _ (List.mem_of_getElem? (i := 19) rfl)) (u12_5 _ (List.mem_of_getElem? (i := 0) rfl)) (u12_1 _ (List.mem_of_getElem? (i := 7) rfl)) (u12_1 _ (List.mem_of_getElem? (i := 2) rfl))) rfl rfl rfl kdX12_copies.2 ⟨Nat.le_of_ble_eq_true rfl, Nat.le_of_ble_eq_true rfl⟩) hP hS hA rfl hl.1 rfl (Nat.le_of_ble_eq_true rfl) dX12_storms_92 ⟨Nat.le_refl _, Nat.le_refl _⟩ (fun H locs hP hS => ?_)
        refine W.eq (g2 := F0 m 95 ls []) rfl ?_
        refine lv_iconst (v := 0) hx hb dX12_storms_95 (by decide) ?_
        refine lv_istore (lv' := [(12, .int 0), (10, .long 1), (0, .ref (a 66)), (1, .int v1), (2, .int v2), (3, .int v3), (4, .int v4), (5, .long v5), (7, .long v7), (9, .int v9)]) hx hb dX12_storms_96 hl (by decide) rfl (fun ls hl => ?_)
        exact J98 (X12_storms_B73 v1 v2 v3 v4 fu) ih FU v5 v7 v9 1 0 q14 hf H locs ls hP hS (lv_sub hl [2, 3, 4, 5, 6, 7, 8, 9, 1, 0] rfl)
  have J51 : ∀ (fu : Nat) (v5 : Int64) (v7 : Int64) (v9 : Int32) (h : HS), X12_storms_B51 v1 v2 v3 v4 fu v5 v7 v9 h = some (r, h') → gG p l e (headSpec uX12_storms rmX12_storms).room s m ([.ref (a 66), .int v1, .int v2, .int v3, .int v4] : List Value).toArray below meth c (MQ below (gQ (some (.long r)) D a C h') ([.ref (a 66), .int v1, .int v2, .int v3, .int v4] : List Value).toArray s 0 0 (gA a)) D a C 13 h 51 [(0, .ref (a 66)), (1, .int v1), (2, .int v2), (3, .int v3), (4, .int v4), (5, .long v5), (7, .long v7), (9, .int v9)] [] := by
    intro fu
    induction fu with
    | zero => intro v5 v7 v9 h hf; exact absurd hf (by simp [X12_storms_B51])
    | succ fu ih =>
      intro v5 v7 v9 h hf H locs ls hP hS hl
      rw [X12_storms_B51] at hf
      refine lv_iload hx hb dX12_storms_51 (lv_at hl 7 rfl) ?_
      refine lv_iload_n hx hb dX12_storms_53 rfl (lv_at hl 2 rfl) ?_
      refine lv_icmp_ge (tgt := 70) hx hb dX12_storms_54 (by decide) (fun c9 => ?_) (fun c9 => ?_)
      · have hf := if_t hf c9
        refine lv_iconst (v := 0) hx hb dX12_storms_70 (by decide) ?_
        refine lv_istore (lv' := [(9, .int 0), (0, .ref (a 66)), (1, .int v1), (2, .int v2), (3, .int v3), (4, .int v4), (5, .long v5), (7, .long v7)]) hx hb dX12_storms_71 hl (by decide) rfl (fun ls hl => ?_)
        exact J73 FU v5 v7 0 h hf H locs ls hP hS (lv_sub hl [1, 2, 3, 4, 5, 6, 7, 0] rfl)
      · have hf := if_f hf c9
        refine lv_lload hx hb dX12_storms_57 (lv_at hl 6 rfl) ?_
        refine lv_iload_n hx hb dX12_storms_59 rfl (lv_at hl 3 rfl) ?_
        refine lv_i2l hx hb dX12_storms_60 rfl ?_
        refine lv_lmul hx hb dX12_storms_61 ?_
        refine lv_topl (fun x10 ex10 => ?_)
        have hf := nm_s hf ex10
        refine lv_lstore (lv' := [(7, .long x10), (0, .ref (a 66)), (1, .int v1), (2, .int v2), (3, .int v3), (4, .int v4), (5, .long v5), (9, .int v9)]) hx hb dX12_storms_62 hl (by decide) rfl (fun ls hl => ?_)
        obtain ⟨x11, ex11⟩ : ∃ y : Int32, y = (v9 + 1) := ⟨_, rfl⟩
        have hf := nm_s hf ex11
        refine lv_iinc (v := x11) (lv' := [(9, .int x11), (7, .long x10), (0, .ref (a 66)), (1, .int v1), (2, .int v2), (3, .int v3), (4, .int v4), (5, .long v5)]) hx hb dX12_storms_64 hl (k := 7) rfl (by rw [ex11]; rfl) (by decide) rfl (fun ls hl => ?_)
        refine lv_goto (tgt := 51) hx hb dX12_storms_67 (by decide) ?_
        exact ih v5 x10 x11 h hf H locs ls hP hS (lv_sub hl [2, 3, 4, 5, 6, 7, 1, 0] rfl)
  unfold X12_storms at hf
  suffices hh : ∀ (H : Heap) (locs : List Loc), va_P D vwCl (gw a C h) H → va_S (gA a) s.heap H locs → W p l e (headSpec uX12_storms rmX12_storms).room s m ([.ref (a 66), .int v1, .int v2, .int v3, .int v4] : List Value).toArray below meth c H locs 0 0 (MQ below (gQ (some (.long r)) D a C h') ([.ref (a 66), .int v1, .int v2, .int v3, .int v4] : List Value).toArray s 0 0 (gA a)) (F0 m 0 ls []) from hh _ _ hP hS
  intro H locs hP hS
  refine lv_aload_n hx hb dX12_storms_0 rfl (lv_at hl 0 rfl) ?_
  refine lv_iload_n hx hb dX12_storms_1 rfl (lv_at hl 1 rfl) ?_
  obtain ⟨q1, hq1, hf⟩ := bind_s hf
  refine g_callV (As := [.int v1]) (rest := []) hx hb hml hown hts hK hN (m_X12_isOne l D a C ha h v1  q1 hq1) (cwV 1 hts (gUV (u12_1 _ (List.mem_of_getElem? (i := 9) rfl)) (u12_1 _ (List.mem_of_getElem? (i := 10) rfl)) (u12_1 _ (List.mem_of_getElem? (i := 11) rfl)) (u12_1 _ (List.mem_of_getElem? (i := 7) rfl)) (u12_1 _ (List.mem_of_getElem? (i := 4) rfl))) rfl rfl rfl kdX12_isOne ⟨Nat.le_of_ble_eq_true rfl, Nat.le_of_ble_eq_true rfl⟩) M_O rfl rfl hP hS hA rfl hl.1 rfl (Nat.le_of_ble_eq_true rfl) dX12_storms_2 ⟨Nat.le_refl _, Nat.le_refl _⟩ (fun H locs hP hS => ?_)
  refine W.eq (g2 := F0 m 5 ls [.int q1]) rfl ?_
  refine lv_if_eq (tgt := 38) hx hb dX12_storms_5 (by decide) (fun c2 => ?_) (fun c2 => ?_)
  · have hf := if_t hf c2
    refine lv_ldc2 (v := 1000000001) hx hb hown (hts _ (List.mem_cons_of_mem _ (u12_6 _ (List.mem_of_getElem? (i := 7) rfl)))) dX12_storms_38 ?_
    exact g_lretW hx hb hr hlk hP hS (ret2 hf) dX12_storms_41
  · have hf := if_f hf c2
    refine lv_iload_n hx hb dX12_storms_8 rfl (lv_at hl 2 rfl) ?_
    refine lv_iconst (v := 0) hx hb dX12_storms_9 (by decide) ?_
    refine lv_bipush (v := 7) hx hb dX12_storms_10 (by decide) ?_
    obtain ⟨q3, hq3, hf⟩ := bind_s hf
    refine g_callS (As := [.int v2, .int 0, .int 7]) (rest := []) hx hb hml hown hts hK hN (m_X12_isIn l D a C ha h v2 0 7  q3 hq3) (va_cwS 3 hts (gUS (u12_1 _ (List.mem_of_getElem? (i := 5) rfl)) (u12_1 _ (List.mem_of_getElem? (i := 6) rfl)) (u12_1 _ (List.mem_of_getElem? (i := 7) rfl)) (u12_1 _ (List.mem_of_getElem? (i := 1) rfl))) rfl rfl rfl kdX12_isIn.2 ⟨Nat.le_of_ble_eq_true rfl, Nat.le_of_ble_eq_true rfl⟩) hP hS hA rfl hl.1 rfl (Nat.le_of_ble_eq_true rfl) dX12_storms_12 ⟨Nat.le_refl _, Nat.le_refl _⟩ (fun H locs hP hS => ?_)
    refine W.eq (g2 := F0 m 15 ls [.int q3]) rfl ?_
    refine lv_if_eq (tgt := 38) hx hb dX12_storms_15 (by decide) (fun c4 => ?_) (fun c4 => ?_)
    · have hf := if_t hf c4
      refine lv_ldc2 (v := 1000000001) hx hb hown (hts _ (List.mem_cons_of_mem _ (u12_6 _ (List.mem_of_getElem? (i := 7) rfl)))) dX12_storms_38 ?_
      exact g_lretW hx hb hr hlk hP hS (ret2 hf) dX12_storms_41
    · have hf := if_f hf c4
      refine lv_iload_n hx hb dX12_storms_18 rfl (lv_at hl 3 rfl) ?_
      refine lv_iconst (v := 2) hx hb dX12_storms_19 (by decide) ?_
      refine lv_bipush (v := 20) hx hb dX12_storms_20 (by decide) ?_
      obtain ⟨q5, hq5, hf⟩ := bind_s hf
      refine g_callS (As := [.int v3, .int 2, .int 20]) (rest := []) hx hb hml hown hts hK hN (m_X12_isIn l D a C ha h v3 2 20  q5 hq5) (va_cwS 3 hts (gUS (u12_1 _ (List.mem_of_getElem? (i := 5) rfl)) (u12_1 _ (List.mem_of_getElem? (i := 6) rfl)) (u12_1 _ (List.mem_of_getElem? (i := 7) rfl)) (u12_1 _ (List.mem_of_getElem? (i := 1) rfl))) rfl rfl rfl kdX12_isIn.2 ⟨Nat.le_of_ble_eq_true rfl, Nat.le_of_ble_eq_true rfl⟩) hP hS hA rfl hl.1 rfl (Nat.le_of_ble_eq_true rfl) dX12_storms_22 ⟨Nat.le_refl _, Nat.le_refl _⟩ (fun H locs hP hS => ?_)
      refine W.eq (g2 := F0 m 25 ls [.int q5]) rfl ?_
      refine lv_if_eq (tgt := 38) hx hb dX12_storms_25 (by decide) (fun c6 => ?_) (fun c6 => ?_)
      · have hf := if_t hf c6
        refine lv_ldc2 (v := 1000000001) hx hb hown (hts _ (List.mem_cons_of_mem _ (u12_6 _ (List.mem_of_getElem? (i := 7) rfl)))) dX12_storms_38 ?_
        exact g_lretW hx hb hr hlk hP hS (ret2 hf) dX12_storms_41
      · have hf := if_f hf c6
        refine lv_iload hx hb dX12_storms_28 (lv_at hl 4 rfl) ?_
        refine lv_iconst (v := 0) hx hb dX12_storms_30 (by decide) ?_
        refine lv_iconst (v := 1) hx hb dX12_storms_31 (by decide) ?_
        obtain ⟨q7, hq7, hf⟩ := bind_s hf
        refine g_callS (As := [.int v4, .int 0, .int 1]) (rest := []) hx hb hml hown hts hK hN (m_X12_isIn l D a C ha h v4 0 1  q7 hq7) (va_cwS 3 hts (gUS (u12_1 _ (List.mem_of_getElem? (i := 5) rfl)) (u12_1 _ (List.mem_of_getElem? (i := 6) rfl)) (u12_1 _ (List.mem_of_getElem? (i := 7) rfl)) (u12_1 _ (List.mem_of_getElem? (i := 1) rfl))) rfl rfl rfl kdX12_isIn.2 ⟨Nat.le_of_ble_eq_true rfl, Nat.le_of_ble_eq_true rfl⟩) hP hS hA rfl hl.1 rfl (Nat.le_of_ble_eq_true rfl) dX12_storms_32 ⟨Nat.le_refl _, Nat.le_refl _⟩ (fun H locs hP hS => ?_)
        refine W.eq (g2 := F0 m 35 ls [.int q7]) rfl ?_
        refine lv_if_ne (tgt := 42) hx hb dX12_storms_35 (by decide) (fun c8 => ?_) (fun c8 => ?_)
        · have hf := if_f hf c8
          refine lv_lconst (v := 0) hx hb dX12_storms_42 (by decide) ?_
          refine lv_lstore (lv' := [(5, .long 0), (0, .ref (a 66)), (1, .int v1), (2, .int v2), (3, .int v3), (4, .int v4)]) hx hb dX12_storms_43 hl (by decide) rfl (fun ls hl => ?_)
          refine lv_lconst (v := 1) hx hb dX12_storms_45 (by decide) ?_
          refine lv_lstore (lv' := [(7, .long 1), (5, .long 0), (0, .ref (a 66)), (1, .int v1), (2, .int v2), (3, .int v3), (4, .int v4)]) hx hb dX12_storms_46 hl (by decide) rfl (fun ls hl => ?_)
          refine lv_iconst (v := 0) hx hb dX12_storms_48 (by decide) ?_
          refine lv_istore (lv' := [(9, .int 0), (7, .long 1), (5, .long 0), (0, .ref (a 66)), (1, .int v1), (2, .int v2), (3, .int v3), (4, .int v4)]) hx hb dX12_storms_49 hl (by decide) rfl (fun ls hl => ?_)
          exact J51 FU 0 1 0 h hf H locs ls hP hS (lv_sub hl [3, 4, 5, 6, 7, 2, 1, 0] rfl)
        · have hf := if_t hf c8
          refine lv_ldc2 (v := 1000000001) hx hb hown (hts _ (List.mem_cons_of_mem _ (u12_6 _ (List.mem_of_getElem? (i := 7) rfl)))) dX12_storms_38 ?_
          exact g_lretW hx hb hr hlk hP hS (ret2 hf) dX12_storms_41

def X12_forged_B15 (h : HS) (v1 : Int32) : Nat → Int32 → Option Int32
  | 0, _ => none
  | fu + 1, v3 =>
    gdi v1 8 <|
    (if (aI h 80 v1.toNatClampNeg) ≤ v3 then
    some (-4)
    else
    (X12_isOne h v3).bind fun q5 =>
    (if q5 = 0 then
    some v3
    else
    gdi ((100 * v1) + v3) 800 <|
    (X12_number h 67 v3).bind fun q8 =>
    (if (aI h 81 ((100 * v1) + v3).toNatClampNeg) = q8 then
    nm (v3 + 1) fun x10 =>
    (X12_forged_B15 h v1 fu) x10
    else
    some v3)))
def X12_forged (h : HS) (v1 : Int32) : Option Int32 :=
    (X12_wrongRow h v1 (-1)).bind fun q1 =>
    (if q1 = 0 then
    X12_forged_B15 h v1 FU 0
    else
    some q1)
def uX12_forged : List Cond := .code yX12_forged cX12_forged 4 (some .int) :: UU
def rmX12_forged : Room := { frames := 3, cells := 0, slots := 0, locals := 64 }
theorem kdX12_forged : yX12_forged.cls = RX12 ∧ yX12_forged.cls ≠ "java/lang/invoke/MethodHandle" ∧ yX12_forged.cls ≠ "java/lang/invoke/VarHandle" ∧ (parseMethodDescriptor yX12_forged.desc).map (fun d => d.parameters.length) = some 1 := by decide +kernel
set_option maxHeartbeats 4000000 in
set_option maxRecDepth 100000 in
theorem m_X12_forged (l : Launch) (D : va_G) (a : Nat → Nat) (C : Nat → ClassId) (ha : ginj a) (h : HS) (v1 : Int32)  (r : Int32) (hf : X12_forged h v1 = some r) : gM l yX12_forged uX12_forged rmX12_forged D a C [.ref (a 66), .int v1] h (some (.int r)) h := by
  refine g_start (av := [.ref (a 66), .int v1]) (cc := cX12_forged) (maxL := 4) (rt := (some .int)) (by decide) rfl (Nat.le_of_ble_eq_true rfl) ?_
  intro p e s m below meth c hx hb hr hml hown hlk hts hP hK hN ls hl
  have hA : ∀ q, gA a q → gA a q := fun _ q => q
  have hS : va_S (gA a) s.heap s.heap [] := va_S.rf
  have hl : lv_has ls 4 [(0, .ref (a 66)), (1, .int v1)] := hl
  have J15 : ∀ (fu : Nat) (v3 : Int32), X12_forged_B15 h v1 fu v3 = some r → gG p l e (headSpec uX12_forged rmX12_forged).room s m ([.ref (a 66), .int v1] : List Value).toArray below meth c (MQ below (gQ (some (.int r)) D a C h) ([.ref (a 66), .int v1] : List Value).toArray s 0 0 (gA a)) D a C 4 h 15 [(0, .ref (a 66)), (1, .int v1), (3, .int v3)] [] := by
    intro fu
    induction fu with
    | zero => intro v3 hf; exact absurd hf (by simp [X12_forged_B15])
    | succ fu ih =>
      intro v3 hf H locs ls hP hS hl
      rw [X12_forged_B15] at hf
      refine lv_iload_n hx hb dX12_forged_15 rfl (lv_at hl 2 rfl) ?_
      refine lv_aload_n hx hb dX12_forged_16 rfl (lv_at hl 0 rfl) ?_
      refine g_get (Cn := RX12) (T := TX12) (N := 21) (v := .ref (a 80)) (own := RX12) hx hb hown hts hK M_O rfl (fun _ hw => List.mem_cons_of_mem _ (u12_cls _ hw)) 18 (by decide) (List.mem_cons_of_mem _ (u12_0 _ (List.mem_of_getElem? (i := 19) rfl))) rfl rfl hP dX12_forged_17 ?_
      refine lv_iload_n hx hb dX12_forged_20 rfl (lv_at hl 1 rfl) ?_
      obtain ⟨c3, hf⟩ := gdi_s hf
      refine g_ial hx hb hK (⟨by decide, rfl⟩ : gAI 80 8) c3 hP dX12_forged_21 ?_
      refine lv_icmp_ge (tgt := 63) hx hb dX12_forged_22 (by decide) (fun c4 => ?_) (fun c4 => ?_)
      · have hf := if_t hf c4
        refine lv_bipush (v := (-4)) hx hb dX12_forged_63 (by decide) ?_
        exact g_iret hx hb hr hlk hP hS (ret1 hf) dX12_forged_65
      · have hf := if_f hf c4
        refine lv_aload_n hx hb dX12_forged_25 rfl (lv_at hl 0 rfl) ?_
        refine lv_iload_n hx hb dX12_forged_26 rfl (lv_at hl 2 rfl) ?_
        obtain ⟨q5, hq5, hf⟩ := bind_s hf
        refine g_callV (As := [.int v3]) (rest := []) hx hb hml hown hts hK hN (m_X12_isOne l D a C ha h v3  q5 hq5) (cwV 1 hts (gUV (u12_1 _ (List.mem_of_getElem? (i := 9) rfl)) (u12_1 _ (List.mem_of_getElem? (i := 10) rfl)) (u12_1 _ (List.mem_of_getElem? (i := 11) rfl)) (u12_1 _ (List.mem_of_getElem? (i := 7) rfl)) (u12_1 _ (List.mem_of_getElem? (i := 4) rfl))) rfl rfl rfl kdX12_isOne ⟨Nat.le_of_ble_eq_true rfl, Nat.le_of_ble_eq_true rfl⟩) M_O rfl rfl hP hS hA rfl hl.1 rfl (Nat.le_of_ble_eq_true rfl) dX12_forged_27 ⟨Nat.le_refl _, Nat.le_refl _⟩ (fun H locs hP hS => ?_)
        refine W.eq (g2 := F0 m 30 ls [.int q5]) rfl ?_
        refine lv_if_eq (tgt := 55) hx hb dX12_forged_30 (by decide) (fun c6 => ?_) (fun c6 => ?_)
        · have hf := if_t hf c6
          refine lv_iload_n hx hb dX12_forged_55 rfl (lv_at hl 2 rfl) ?_
          exact g_iret hx hb hr hlk hP hS (ret1 hf) dX12_forged_56
        · have hf := if_f hf c6
          refine lv_aload_n hx hb dX12_forged_33 rfl (lv_at hl 0 rfl) ?_
          refine g_get (Cn := RX12) (T := TX12) (N := 21) (v := .ref (a 81)) (own := RX12) hx hb hown hts hK M_O rfl (fun _ hw => List.mem_cons_of_mem _ (u12_cls _ hw)) 19 (by decide) (List.mem_cons_of_mem _ (u12_1 _ (List.mem_of_getElem? (i := 0) rfl))) rfl rfl hP dX12_forged_34 ?_
          refine lv_bipush (v := 100) hx hb dX12_forged_37 (by decide) ?_
          refine lv_iload_n hx hb dX12_forged_39 rfl (lv_at hl 1 rfl) ?_
          refine lv_imul hx hb dX12_forged_40 ?_
          refine lv_iload_n hx hb dX12_forged_41 rfl (lv_at hl 2 rfl) ?_
          refine lv_iadd hx hb dX12_forged_42 ?_
          obtain ⟨c7, hf⟩ := gdi_s hf
          refine g_ial hx hb hK (⟨by decide, rfl⟩ : gAI 81 800) c7 hP dX12_forged_43 ?_
          refine lv_aload_n hx hb dX12_forged_44 rfl (lv_at hl 0 rfl) ?_
          refine g_get (Cn := RX12) (T := TX12) (N := 21) (v := .ref (a 67)) (own := RX12) hx hb hown hts hK M_O rfl (fun _ hw => List.mem_cons_of_mem _ (u12_cls _ hw)) 0 (by decide) (List.mem_cons_of_mem _ (u12_0 _ (List.mem_of_getElem? (i := 5) rfl))) rfl rfl hP dX12_forged_45 ?_
          refine lv_iload_n hx hb dX12_forged_48 rfl (lv_at hl 2 rfl) ?_
          obtain ⟨q8, hq8, hf⟩ := bind_s hf
          refine g_callS (As := [.ref (a 67), .int v3]) (rest := [.int (aI h 81 ((100 * v1) + v3).toNatClampNeg)]) hx hb hml hown hts hK hN (m_X12_number l D a C ha h 67 v3 (Or.inl rfl) q8 hq8) (va_cwS 2 hts (gUS (u12_2 _ (List.mem_of_getElem? (i := 2) rfl)) (u12_2 _ (List.mem_of_getElem? (i := 3) rfl)) (u12_1 _ (List.mem_of_getElem? (i := 7) rfl)) (u12_1 _ (List.mem_of_getElem? (i := 14) rfl))) rfl rfl rfl kdX12_number.2 ⟨Nat.le_of_ble_eq_true rfl, Nat.le_of_ble_eq_true rfl⟩) hP hS hA rfl hl.1 rfl (Nat.le_of_ble_eq_true rfl) dX12_forged_49 ⟨Nat.le_refl _, Nat.le_refl _⟩ (fun H locs hP hS => ?_)
          refine W.eq (g2 := F0 m 52 ls [.int q8, .int (aI h 81 ((100 * v1) + v3).toNatClampNeg)]) rfl ?_
          refine lv_icmp_eq (tgt := 57) hx hb dX12_forged_52 (by decide) (fun c9 => ?_) (fun c9 => ?_)
          · have hf := if_t hf c9
            obtain ⟨x10, ex10⟩ : ∃ y : Int32, y = (v3 + 1) := ⟨_, rfl⟩
            have hf := nm_s hf ex10
            refine lv_iinc (v := x10) (lv' := [(3, .int x10), (0, .ref (a 66)), (1, .int v1)]) hx hb dX12_forged_57 hl (k := 2) rfl (by rw [ex10]; rfl) (by decide) rfl (fun ls hl => ?_)
            refine lv_goto (tgt := 15) hx hb dX12_forged_60 (by decide) ?_
            exact ih x10 hf H locs ls hP hS (lv_sub hl [1, 2, 0] rfl)
          · have hf := if_f hf c9
            refine lv_iload_n hx hb dX12_forged_55 rfl (lv_at hl 2 rfl) ?_
            exact g_iret hx hb hr hlk hP hS (ret1 hf) dX12_forged_56
  unfold X12_forged at hf
  suffices hh : ∀ (H : Heap) (locs : List Loc), va_P D vwCl (gw a C h) H → va_S (gA a) s.heap H locs → W p l e (headSpec uX12_forged rmX12_forged).room s m ([.ref (a 66), .int v1] : List Value).toArray below meth c H locs 0 0 (MQ below (gQ (some (.int r)) D a C h) ([.ref (a 66), .int v1] : List Value).toArray s 0 0 (gA a)) (F0 m 0 ls []) from hh _ _ hP hS
  intro H locs hP hS
  refine lv_aload_n hx hb dX12_forged_0 rfl (lv_at hl 0 rfl) ?_
  refine lv_iload_n hx hb dX12_forged_1 rfl (lv_at hl 1 rfl) ?_
  refine lv_iconst (v := (-1)) hx hb dX12_forged_2 (by decide) ?_
  obtain ⟨q1, hq1, hf⟩ := bind_s hf
  refine g_callV (As := [.int v1, .int (-1)]) (rest := []) hx hb hml hown hts hK hN (m_X12_wrongRow l D a C ha h v1 (-1)  q1 hq1) (cwV 2 hts (gUV (u12_4 _ (List.mem_of_getElem? (i := 13) rfl)) (u12_4 _ (List.mem_of_getElem? (i := 14) rfl)) (u12_4 _ (List.mem_of_getElem? (i := 15) rfl)) (u12_1 _ (List.mem_of_getElem? (i := 7) rfl)) (u12_4 _ (List.mem_of_getElem? (i := 10) rfl))) rfl rfl rfl kdX12_wrongRow ⟨Nat.le_of_ble_eq_true rfl, Nat.le_of_ble_eq_true rfl⟩) M_O rfl rfl hP hS hA rfl hl.1 rfl (Nat.le_of_ble_eq_true rfl) dX12_forged_3 ⟨Nat.le_refl _, Nat.le_refl _⟩ (fun H locs hP hS => ?_)
  refine W.eq (g2 := F0 m 6 ls [.int q1]) rfl ?_
  refine lv_istore_n (lv' := [(2, .int q1), (0, .ref (a 66)), (1, .int v1)]) hx hb dX12_forged_6 rfl hl (by decide) rfl (fun ls hl => ?_)
  refine lv_iload_n hx hb dX12_forged_7 rfl (lv_at hl 0 rfl) ?_
  refine lv_if_eq (tgt := 13) hx hb dX12_forged_8 (by decide) (fun c2 => ?_) (fun c2 => ?_)
  · have hf := if_t hf c2
    refine lv_iconst (v := 0) hx hb dX12_forged_13 (by decide) ?_
    refine lv_istore_n (lv' := [(3, .int 0), (2, .int q1), (0, .ref (a 66)), (1, .int v1)]) hx hb dX12_forged_14 rfl hl (by decide) rfl (fun ls hl => ?_)
    exact J15 FU 0 hf H locs ls hP hS (lv_sub hl [2, 3, 0] rfl)
  · have hf := if_f hf c2
    refine lv_iload_n hx hb dX12_forged_11 rfl (lv_at hl 0 rfl) ?_
    exact g_iret hx hb hr hlk hP hS (ret1 hf) dX12_forged_12

def X12_judge_B26 (v1 : Int32) : Nat → Int32 → HS → Option (Int32 × HS)
  | 0, _, _ => none
  | fu + 1, v3, h =>
    gdi v1 8 <|
    (if (aI h 80 v1.toNatClampNeg) ≤ v3 then
    some ((-4), h)
    else
    gdi 2 30 <|
    (X12_bits (aI h 68 (2 : Int32).toNatClampNeg)).bind fun q7 =>
    (X12_isTold h v1 v3 q7).bind fun q8 =>
    (if q8 = 0 then
    some (v3, h)
    else
    (X12_day h 68 0).bind fun q10 =>
    nm (v3 + 1) fun x11 =>
    (X12_judge_B26 v1 fu) x11 q10))
def X12_judge (h : HS) (v1 : Int32) : Option (Int32 × HS) :=
    (X12_wrongRow h v1 (-1)).bind fun q1 =>
    (if q1 = 0 then
    (X12_copies h 67 68).bind fun q3 =>
    X12_judge_B26 v1 FU 0 q3
    else
    some (q1, h))
def uX12_judge : List Cond := .code yX12_judge cX12_judge 4 (some .int) :: UU
def rmX12_judge : Room := { frames := 5, cells := 0, slots := 0, locals := 111 }
theorem kdX12_judge : yX12_judge.cls = RX12 ∧ yX12_judge.cls ≠ "java/lang/invoke/MethodHandle" ∧ yX12_judge.cls ≠ "java/lang/invoke/VarHandle" ∧ (parseMethodDescriptor yX12_judge.desc).map (fun d => d.parameters.length) = some 1 := by decide +kernel
set_option maxHeartbeats 4000000 in
set_option maxRecDepth 100000 in
theorem m_X12_judge (l : Launch) (D : va_G) (a : Nat → Nat) (C : Nat → ClassId) (ha : ginj a) (h : HS) (v1 : Int32)  (r : Int32) (h' : HS) (hf : X12_judge h v1 = some (r, h')) : gM l yX12_judge uX12_judge rmX12_judge D a C [.ref (a 66), .int v1] h (some (.int r)) h' := by
  refine g_start (av := [.ref (a 66), .int v1]) (cc := cX12_judge) (maxL := 4) (rt := (some .int)) (by decide) rfl (Nat.le_of_ble_eq_true rfl) ?_
  intro p e s m below meth c hx hb hr hml hown hlk hts hP hK hN ls hl
  have hA : ∀ q, gA a q → gA a q := fun _ q => q
  have hS : va_S (gA a) s.heap s.heap [] := va_S.rf
  have hl : lv_has ls 4 [(0, .ref (a 66)), (1, .int v1)] := hl
  have J26 : ∀ (fu : Nat) (v3 : Int32) (h : HS), X12_judge_B26 v1 fu v3 h = some (r, h') → gG p l e (headSpec uX12_judge rmX12_judge).room s m ([.ref (a 66), .int v1] : List Value).toArray below meth c (MQ below (gQ (some (.int r)) D a C h') ([.ref (a 66), .int v1] : List Value).toArray s 0 0 (gA a)) D a C 4 h 26 [(0, .ref (a 66)), (1, .int v1), (3, .int v3)] [] := by
    intro fu
    induction fu with
    | zero => intro v3 h hf; exact absurd hf (by simp [X12_judge_B26])
    | succ fu ih =>
      intro v3 h hf H locs ls hP hS hl
      rw [X12_judge_B26] at hf
      refine lv_iload_n hx hb dX12_judge_26 rfl (lv_at hl 2 rfl) ?_
      refine lv_aload_n hx hb dX12_judge_27 rfl (lv_at hl 0 rfl) ?_
      refine g_get (Cn := RX12) (T := TX12) (N := 21) (v := .ref (a 80)) (own := RX12) hx hb hown hts hK M_O rfl (fun _ hw => List.mem_cons_of_mem _ (u12_cls _ hw)) 18 (by decide) (List.mem_cons_of_mem _ (u12_0 _ (List.mem_of_getElem? (i := 19) rfl))) rfl rfl hP dX12_judge_28 ?_
      refine lv_iload_n hx hb dX12_judge_31 rfl (lv_at hl 1 rfl) ?_
      obtain ⟨c4, hf⟩ := gdi_s hf
      refine g_ial hx hb hK (⟨by decide, rfl⟩ : gAI 80 8) c4 hP dX12_judge_32 ?_
      refine lv_icmp_ge (tgt := 70) hx hb dX12_judge_33 (by decide) (fun c5 => ?_) (fun c5 => ?_)
      · have hf := if_t hf c5
        refine lv_bipush (v := (-4)) hx hb dX12_judge_70 (by decide) ?_
        exact g_iretW hx hb hr hlk hP hS (ret2 hf) dX12_judge_72
      · have hf := if_f hf c5
        refine lv_aload_n hx hb dX12_judge_36 rfl (lv_at hl 0 rfl) ?_
        refine lv_iload_n hx hb dX12_judge_37 rfl (lv_at hl 1 rfl) ?_
        refine lv_iload_n hx hb dX12_judge_38 rfl (lv_at hl 2 rfl) ?_
        refine lv_aload_n hx hb dX12_judge_39 rfl (lv_at hl 0 rfl) ?_
        refine g_get (Cn := RX12) (T := TX12) (N := 21) (v := .ref (a 68)) (own := RX12) hx hb hown hts hK M_O rfl (fun _ hw => List.mem_cons_of_mem _ (u12_cls _ hw)) 1 (by decide) (List.mem_cons_of_mem _ (u12_0 _ (List.mem_of_getElem? (i := 6) rfl))) rfl rfl hP dX12_judge_40 ?_
        refine lv_iconst (v := 2) hx hb dX12_judge_43 (by decide) ?_
        obtain ⟨c6, hf⟩ := gdi_s hf
        refine g_ial hx hb hK (⟨by decide, rfl⟩ : gAI 68 30) c6 hP dX12_judge_44 ?_
        obtain ⟨q7, hq7, hf⟩ := bind_s hf
        refine g_callS (As := [.int (aI h 68 (2 : Int32).toNatClampNeg)]) (rest := [.int v3, .int v1, .ref (a 66)]) hx hb hml hown hts hK hN (m_X12_bits l D a C ha h (aI h 68 (2 : Int32).toNatClampNeg)  q7 hq7) (va_cwS 1 hts (gUS (u12_1 _ (List.mem_of_getElem? (i := 17) rfl)) (u12_1 _ (List.mem_of_getElem? (i := 18) rfl)) (u12_1 _ (List.mem_of_getElem? (i := 7) rfl)) (u12_1 _ (List.mem_of_getElem? (i := 13) rfl))) rfl rfl rfl kdX12_bits.2 ⟨Nat.le_of_ble_eq_true rfl, Nat.le_of_ble_eq_true rfl⟩) hP hS hA rfl hl.1 rfl (Nat.le_of_ble_eq_true rfl) dX12_judge_45 ⟨Nat.le_refl _, Nat.le_refl _⟩ (fun H locs hP hS => ?_)
        refine W.eq (g2 := F0 m 48 ls [.int q7, .int v3, .int v1, .ref (a 66)]) rfl ?_
        obtain ⟨q8, hq8, hf⟩ := bind_s hf
        refine g_callV (As := [.int v1, .int v3, .int q7]) (rest := []) hx hb hml hown hts hK hN (m_X12_isTold l D a C ha h v1 v3 q7  q8 hq8) (cwV 3 hts (gUV (u12_10 _ (List.mem_of_getElem? (i := 8) rfl)) (u12_10 _ (List.mem_of_getElem? (i := 9) rfl)) (u12_10 _ (List.mem_of_getElem? (i := 10) rfl)) (u12_1 _ (List.mem_of_getElem? (i := 7) rfl)) (u12_10 _ (List.mem_of_getElem? (i := 5) rfl))) rfl rfl rfl kdX12_isTold ⟨Nat.le_of_ble_eq_true rfl, Nat.le_of_ble_eq_true rfl⟩) M_O rfl rfl hP hS hA rfl hl.1 rfl (Nat.le_of_ble_eq_true rfl) dX12_judge_48 ⟨Nat.le_refl _, Nat.le_refl _⟩ (fun H locs hP hS => ?_)
        refine W.eq (g2 := F0 m 51 ls [.int q8]) rfl ?_
        refine lv_if_ne (tgt := 56) hx hb dX12_judge_51 (by decide) (fun c9 => ?_) (fun c9 => ?_)
        · have hf := if_f hf c9
          refine lv_aload_n hx hb dX12_judge_56 rfl (lv_at hl 0 rfl) ?_
          refine g_get (Cn := RX12) (T := TX12) (N := 21) (v := .ref (a 68)) (own := RX12) hx hb hown hts hK M_O rfl (fun _ hw => List.mem_cons_of_mem _ (u12_cls _ hw)) 1 (by decide) (List.mem_cons_of_mem _ (u12_0 _ (List.mem_of_getElem? (i := 6) rfl))) rfl rfl hP dX12_judge_57 ?_
          refine lv_iconst (v := 0) hx hb dX12_judge_60 (by decide) ?_
          obtain ⟨q10, hq10, hf⟩ := bind_s hf
          refine g_callS (As := [.ref (a 68), .int 0]) (rest := []) hx hb hml hown hts hK hN (m_X12_day l D a C ha h 68 0 (Or.inr (Or.inl rfl)) q10 hq10) (va_cwS 2 hts (gUS (u12_2 _ (List.mem_of_getElem? (i := 17) rfl)) (u12_2 _ (List.mem_of_getElem? (i := 18) rfl)) (u12_1 _ (List.mem_of_getElem? (i := 7) rfl)) (u12_2 _ (List.mem_of_getElem? (i := 16) rfl))) rfl rfl rfl kdX12_day.2 ⟨Nat.le_of_ble_eq_true rfl, Nat.le_of_ble_eq_true rfl⟩) hP hS hA rfl hl.1 rfl (Nat.le_of_ble_eq_true rfl) dX12_judge_61 ⟨Nat.le_refl _, Nat.le_refl _⟩ (fun H locs hP hS => ?_)
          refine W.eq (g2 := F0 m 64 ls []) rfl ?_
          obtain ⟨x11, ex11⟩ : ∃ y : Int32, y = (v3 + 1) := ⟨_, rfl⟩
          have hf := nm_s hf ex11
          refine lv_iinc (v := x11) (lv' := [(3, .int x11), (0, .ref (a 66)), (1, .int v1)]) hx hb dX12_judge_64 hl (k := 2) rfl (by rw [ex11]; rfl) (by decide) rfl (fun ls hl => ?_)
          refine lv_goto (tgt := 26) hx hb dX12_judge_67 (by decide) ?_
          exact ih x11 q10 hf H locs ls hP hS (lv_sub hl [1, 2, 0] rfl)
        · have hf := if_t hf c9
          refine lv_iload_n hx hb dX12_judge_54 rfl (lv_at hl 2 rfl) ?_
          exact g_iretW hx hb hr hlk hP hS (ret2 hf) dX12_judge_55
  unfold X12_judge at hf
  suffices hh : ∀ (H : Heap) (locs : List Loc), va_P D vwCl (gw a C h) H → va_S (gA a) s.heap H locs → W p l e (headSpec uX12_judge rmX12_judge).room s m ([.ref (a 66), .int v1] : List Value).toArray below meth c H locs 0 0 (MQ below (gQ (some (.int r)) D a C h') ([.ref (a 66), .int v1] : List Value).toArray s 0 0 (gA a)) (F0 m 0 ls []) from hh _ _ hP hS
  intro H locs hP hS
  refine lv_aload_n hx hb dX12_judge_0 rfl (lv_at hl 0 rfl) ?_
  refine lv_iload_n hx hb dX12_judge_1 rfl (lv_at hl 1 rfl) ?_
  refine lv_iconst (v := (-1)) hx hb dX12_judge_2 (by decide) ?_
  obtain ⟨q1, hq1, hf⟩ := bind_s hf
  refine g_callV (As := [.int v1, .int (-1)]) (rest := []) hx hb hml hown hts hK hN (m_X12_wrongRow l D a C ha h v1 (-1)  q1 hq1) (cwV 2 hts (gUV (u12_4 _ (List.mem_of_getElem? (i := 13) rfl)) (u12_4 _ (List.mem_of_getElem? (i := 14) rfl)) (u12_4 _ (List.mem_of_getElem? (i := 15) rfl)) (u12_1 _ (List.mem_of_getElem? (i := 7) rfl)) (u12_4 _ (List.mem_of_getElem? (i := 10) rfl))) rfl rfl rfl kdX12_wrongRow ⟨Nat.le_of_ble_eq_true rfl, Nat.le_of_ble_eq_true rfl⟩) M_O rfl rfl hP hS hA rfl hl.1 rfl (Nat.le_of_ble_eq_true rfl) dX12_judge_3 ⟨Nat.le_refl _, Nat.le_refl _⟩ (fun H locs hP hS => ?_)
  refine W.eq (g2 := F0 m 6 ls [.int q1]) rfl ?_
  refine lv_istore_n (lv' := [(2, .int q1), (0, .ref (a 66)), (1, .int v1)]) hx hb dX12_judge_6 rfl hl (by decide) rfl (fun ls hl => ?_)
  refine lv_iload_n hx hb dX12_judge_7 rfl (lv_at hl 0 rfl) ?_
  refine lv_if_eq (tgt := 13) hx hb dX12_judge_8 (by decide) (fun c2 => ?_) (fun c2 => ?_)
  · have hf := if_t hf c2
    refine lv_aload_n hx hb dX12_judge_13 rfl (lv_at hl 1 rfl) ?_
    refine g_get (Cn := RX12) (T := TX12) (N := 21) (v := .ref (a 67)) (own := RX12) hx hb hown hts hK M_O rfl (fun _ hw => List.mem_cons_of_mem _ (u12_cls _ hw)) 0 (by decide) (List.mem_cons_of_mem _ (u12_0 _ (List.mem_of_getElem? (i := 5) rfl))) rfl rfl hP dX12_judge_14 ?_
    refine lv_aload_n hx hb dX12_judge_17 rfl (lv_at hl 1 rfl) ?_
    refine g_get (Cn := RX12) (T := TX12) (N := 21) (v := .ref (a 68)) (own := RX12) hx hb hown hts hK M_O rfl (fun _ hw => List.mem_cons_of_mem _ (u12_cls _ hw)) 1 (by decide) (List.mem_cons_of_mem _ (u12_0 _ (List.mem_of_getElem? (i := 6) rfl))) rfl rfl hP dX12_judge_18 ?_
    obtain ⟨q3, hq3, hf⟩ := bind_s hf
    refine g_callS (As := [.ref (a 67), .ref (a 68)]) (rest := []) hx hb hml hown hts hK hN (m_X12_copies l D a C ha h 67 68 (Or.inl rfl) (Or.inr (Or.inl rfl)) q3 hq3) (va_cwS 2 hts (gUS (u12_4 _ (List.mem_of_getElem? (i := 19) rfl)) (u12_5 _ (List.mem_of_getElem? (i := 0) rfl)) (u12_1 _ (List.mem_of_getElem? (i := 7) rfl)) (u12_1 _ (List.mem_of_getElem? (i := 2) rfl))) rfl rfl rfl kdX12_copies.2 ⟨Nat.le_of_ble_eq_true rfl, Nat.le_of_ble_eq_true rfl⟩) hP hS hA rfl hl.1 rfl (Nat.le_of_ble_eq_true rfl) dX12_judge_21 ⟨Nat.le_refl _, Nat.le_refl _⟩ (fun H locs hP hS => ?_)
    refine W.eq (g2 := F0 m 24 ls []) rfl ?_
    refine lv_iconst (v := 0) hx hb dX12_judge_24 (by decide) ?_
    refine lv_istore_n (lv' := [(3, .int 0), (2, .int q1), (0, .ref (a 66)), (1, .int v1)]) hx hb dX12_judge_25 rfl hl (by decide) rfl (fun ls hl => ?_)
    exact J26 FU 0 q3 hf H locs ls hP hS (lv_sub hl [2, 3, 0] rfl)
  · have hf := if_f hf c2
    refine lv_iload_n hx hb dX12_judge_11 rfl (lv_at hl 0 rfl) ?_
    exact g_iretW hx hb hr hlk hP hS (ret2 hf) dX12_judge_12

def X12_drawn (h : HS) (v1 : Int32) : Option (Int32 × HS) :=
    nm (sF h 66 13 (((fI h 66 13) * 1103515245) + 12345)) fun h1 =>
    gdz v1 <|
    some (((((fI h1 66 13) &&& 2147483647) / 65536) - (((fI h1 66 13) &&& 2147483647) / 65536) / v1 * v1), h1)
def uX12_drawn : List Cond := .code yX12_drawn cX12_drawn 2 (some .int) :: UU
def rmX12_drawn : Room := { frames := 0, cells := 0, slots := 0, locals := 0 }
theorem kdX12_drawn : yX12_drawn.cls = RX12 ∧ yX12_drawn.cls ≠ "java/lang/invoke/MethodHandle" ∧ yX12_drawn.cls ≠ "java/lang/invoke/VarHandle" ∧ (parseMethodDescriptor yX12_drawn.desc).map (fun d => d.parameters.length) = some 1 := by decide +kernel
set_option maxHeartbeats 4000000 in
set_option maxRecDepth 100000 in
theorem m_X12_drawn (l : Launch) (D : va_G) (a : Nat → Nat) (C : Nat → ClassId) (ha : ginj a) (h : HS) (v1 : Int32)  (r : Int32) (h' : HS) (hf : X12_drawn h v1 = some (r, h')) : gM l yX12_drawn uX12_drawn rmX12_drawn D a C [.ref (a 66), .int v1] h (some (.int r)) h' := by
  refine g_start (av := [.ref (a 66), .int v1]) (cc := cX12_drawn) (maxL := 2) (rt := (some .int)) (by decide) rfl (Nat.le_of_ble_eq_true rfl) ?_
  intro p e s m below meth c hx hb hr hml hown hlk hts hP hK hN ls hl
  have hA : ∀ q, gA a q → gA a q := fun _ q => q
  have hS : va_S (gA a) s.heap s.heap [] := va_S.rf
  have hl : lv_has ls 2 [(0, .ref (a 66)), (1, .int v1)] := hl
  unfold X12_drawn at hf
  refine lv_aload_n hx hb dX12_drawn_0 rfl (lv_at hl 0 rfl) ?_
  refine lv_aload_n hx hb dX12_drawn_1 rfl (lv_at hl 0 rfl) ?_
  refine g_get (Cn := RX12) (T := TX12) (N := 21) (v := .int (fI h 66 13)) (own := RX12) hx hb hown hts hK M_O rfl (fun _ hw => List.mem_cons_of_mem _ (u12_cls _ hw)) 13 (by decide) (List.mem_cons_of_mem _ (u12_11 _ (List.mem_of_getElem? (i := 6) rfl))) rfl rfl hP dX12_drawn_2 ?_
  refine lv_ldc (v := 1103515245) hx hb hown (hts _ (List.mem_cons_of_mem _ (u12_11 _ (List.mem_of_getElem? (i := 7) rfl)))) dX12_drawn_5 ?_
  refine lv_imul hx hb dX12_drawn_7 ?_
  refine lv_sipush (v := 12345) hx hb dX12_drawn_8 (by decide) ?_
  refine lv_iadd hx hb dX12_drawn_11 ?_
  refine g_put (Cn := RX12) (T := TX12) (N := 21) (ty0 := tyX12) (own := RX12) hx hb hown hts hK ha hA M_O rfl (fun _ hw => List.mem_cons_of_mem _ (u12_cls _ hw)) tyX12_ok nmX12 13 (by decide) (List.mem_cons_of_mem _ (u12_11 _ (List.mem_of_getElem? (i := 6) rfl))) rfl rfl rfl rfl rfl hP hS dX12_drawn_12 (fun H locs hP hS => ?_)
  obtain ⟨h1, eh1⟩ : ∃ x, x = (sF h 66 13 (((fI h 66 13) * 1103515245) + 12345)) := ⟨_, rfl⟩
  rw [← eh1] at hP
  have hf := nm_s hf eh1
  refine lv_aload_n hx hb dX12_drawn_15 rfl (lv_at hl 0 rfl) ?_
  refine g_get (Cn := RX12) (T := TX12) (N := 21) (v := .int (fI h1 66 13)) (own := RX12) hx hb hown hts hK M_O rfl (fun _ hw => List.mem_cons_of_mem _ (u12_cls _ hw)) 13 (by decide) (List.mem_cons_of_mem _ (u12_11 _ (List.mem_of_getElem? (i := 6) rfl))) rfl rfl hP dX12_drawn_16 ?_
  refine lv_ldc (v := 2147483647) hx hb hown (hts _ (List.mem_cons_of_mem _ (u12_11 _ (List.mem_of_getElem? (i := 8) rfl)))) dX12_drawn_19 ?_
  refine lv_iand hx hb dX12_drawn_21 ?_
  refine lv_ldc (v := 65536) hx hb hown (hts _ (List.mem_cons_of_mem _ (u12_11 _ (List.mem_of_getElem? (i := 9) rfl)))) dX12_drawn_22 ?_
  refine lv_idiv hx hb dX12_drawn_24 (by decide) ?_
  refine lv_iload_n hx hb dX12_drawn_25 rfl (lv_at hl 1 rfl) ?_
  obtain ⟨c2, hf⟩ := gdz_s hf
  refine lv_irem hx hb dX12_drawn_26 c2 ?_
  exact g_iretW hx hb hr hlk hP hS (ret2 hf) dX12_drawn_27

def X12_years_B177 (v1 : Int32) (v2 : Int32) (v3 : Int32) (k32 : Int32 → Int32 → HS → Option (Int32 × HS)) (v5 : Int32) (s0 : Int32) (s1 : Int32) (h : HS) : Option (Int32 × HS) :=
    nm (s1 + s0) fun x29 =>
    nm (v5 + 1) fun x30 =>
    k32 x29 x30 h
def X12_years_B131 (v1 : Int32) (v2 : Int32) (v3 : Int32) (k32 : Int32 → Int32 → HS → Option (Int32 × HS)) (k84 : Int32 → Int32 → Int32 → HS → Option (Int32 × HS)) (k101 : Int32 → Int32 → Int32 → Int32 → HS → Option (Int32 × HS)) (v4 : Int32) (v5 : Int32) (v6 : Int32) (v7 : Int32) (h : HS) : Option (Int32 × HS) :=
    nm (v7 + 1) fun x28 =>
    k101 v4 v5 v6 x28 h
def X12_years_B101 (v1 : Int32) (v2 : Int32) (v3 : Int32) (k32 : Int32 → Int32 → HS → Option (Int32 × HS)) (k84 : Int32 → Int32 → Int32 → HS → Option (Int32 × HS)) : Nat → Int32 → Int32 → Int32 → Int32 → HS → Option (Int32 × HS)
  | 0, _, _, _, _, _ => none
  | fu + 1, v4, v5, v6, v7, h =>
    gdi 0 30 <|
    (if (aI h 67 (0 : Int32).toNatClampNeg) ≤ v7 then
    nm (v6 + 1) fun x24 =>
    k84 v4 v5 x24 h
    else
    (X12_drawn h 3).bind fun q25 =>
    (if q25.1 = 0 then
    (X12_changesLine q25.2 68 v6 v7).bind fun q27 =>
    X12_years_B131 v1 v2 v3 k32 k84 (X12_years_B101 v1 v2 v3 k32 k84 fu) v4 v5 v6 v7 q27
    else
    X12_years_B131 v1 v2 v3 k32 k84 (X12_years_B101 v1 v2 v3 k32 k84 fu) v4 v5 v6 v7 q25.2))
def X12_years_B84 (v1 : Int32) (v2 : Int32) (v3 : Int32) (k32 : Int32 → Int32 → HS → Option (Int32 × HS)) : Nat → Int32 → Int32 → Int32 → HS → Option (Int32 × HS)
  | 0, _, _, _, _ => none
  | fu + 1, v4, v5, v6, h =>
    gdi 0 30 <|
    (if (aI h 67 (0 : Int32).toNatClampNeg) ≤ v6 then
    (X12_daysOn h 68 9).bind fun q16 =>
    (if v3 = 0 then
    gdi 2 30 <|
    (X12_bits (aI q16 68 (2 : Int32).toNatClampNeg)).bind fun q20 =>
    X12_years_B177 v1 v2 v3 k32 v5 q20 v4 q16
    else
    (X12_linesIn q16 68).bind fun q18 =>
    X12_years_B177 v1 v2 v3 k32 v5 q18 v4 q16)
    else
    nm (v6 + 1) fun x21 =>
    X12_years_B101 v1 v2 v3 k32 (X12_years_B84 v1 v2 v3 k32 fu) FU v4 v5 v6 x21 h)
def X12_years_B52 (v1 : Int32) (v2 : Int32) (v3 : Int32) (k32 : Int32 → Int32 → HS → Option (Int32 × HS)) : Nat → Int32 → Int32 → Int32 → HS → Option (Int32 × HS)
  | 0, _, _, _, _ => none
  | fu + 1, v4, v5, v6, h =>
    gdi 0 30 <|
    (if (aI h 67 (0 : Int32).toNatClampNeg) ≤ v6 then
    X12_years_B84 v1 v2 v3 k32 FU v4 v5 0 h
    else
    (X12_of v6 2).bind fun q10 =>
    gdi q10 30 <|
    nm (sA h 68 (upd (aI h 68) q10.toNatClampNeg 0)) fun h11 =>
    nm (v6 + 1) fun x13 =>
    (X12_years_B52 v1 v2 v3 k32 fu) v4 v5 x13 h11)
def X12_years_B32 (v1 : Int32) (v2 : Int32) (v3 : Int32) : Nat → Int32 → Int32 → HS → Option (Int32 × HS)
  | 0, _, _, _ => none
  | fu + 1, v4, v5, h =>
    (if v1 ≤ v5 then
    some (v4, h)
    else
    (X12_copies h 67 68).bind fun q7 =>
    X12_years_B52 v1 v2 v3 (X12_years_B32 v1 v2 v3 fu) FU v4 v5 0 q7)
def X12_years (h : HS) (v1 : Int32) (v2 : Int32) (v3 : Int32) : Option (Int32 × HS) :=
    (X12_isIn v1 1 20).bind fun q1 =>
    (if q1 = 0 then
    some ((-1), h)
    else
    (X12_isIn v3 0 1).bind fun q3 =>
    (if q3 = 0 then
    some ((-1), h)
    else
    nm (sF h 66 13 v2) fun h5 =>
    X12_years_B32 v1 v2 v3 FU 0 0 h5))
def uX12_years : List Cond := .code yX12_years cX12_years 8 (some .int) :: UU
def rmX12_years : Room := { frames := 6, cells := 0, slots := 0, locals := 133 }
theorem kdX12_years : yX12_years.cls = RX12 ∧ yX12_years.cls ≠ "java/lang/invoke/MethodHandle" ∧ yX12_years.cls ≠ "java/lang/invoke/VarHandle" ∧ (parseMethodDescriptor yX12_years.desc).map (fun d => d.parameters.length) = some 3 := by decide +kernel
set_option maxHeartbeats 4000000 in
set_option maxRecDepth 100000 in
theorem m_X12_years (l : Launch) (D : va_G) (a : Nat → Nat) (C : Nat → ClassId) (ha : ginj a) (h : HS) (v1 : Int32) (v2 : Int32) (v3 : Int32)  (r : Int32) (h' : HS) (hf : X12_years h v1 v2 v3 = some (r, h')) : gM l yX12_years uX12_years rmX12_years D a C [.ref (a 66), .int v1, .int v2, .int v3] h (some (.int r)) h' := by
  refine g_start (av := [.ref (a 66), .int v1, .int v2, .int v3]) (cc := cX12_years) (maxL := 8) (rt := (some .int)) (by decide) rfl (Nat.le_of_ble_eq_true rfl) ?_
  intro p e s m below meth c hx hb hr hml hown hlk hts hP hK hN ls hl
  have hA : ∀ q, gA a q → gA a q := fun _ q => q
  have hS : va_S (gA a) s.heap s.heap [] := va_S.rf
  have hl : lv_has ls 8 [(0, .ref (a 66)), (1, .int v1), (2, .int v2), (3, .int v3)] := hl
  have J177 : ∀ (k32 : Int32 → Int32 → HS → Option (Int32 × HS)) (hk32 : ∀ (v4 : Int32) (v5 : Int32) (h : HS), k32 v4 v5 h = some (r, h') → gG p l e (headSpec uX12_years rmX12_years).room s m ([.ref (a 66), .int v1, .int v2, .int v3] : List Value).toArray below meth c (MQ below (gQ (some (.int r)) D a C h') ([.ref (a 66), .int v1, .int v2, .int v3] : List Value).toArray s 0 0 (gA a)) D a C 8 h 32 [(0, .ref (a 66)), (1, .int v1), (3, .int v3), (4, .int v4), (5, .int v5)] []) (v5 : Int32) (s0 : Int32) (s1 : Int32) (h : HS) (_ : X12_years_B177 v1 v2 v3 k32 v5 s0 s1 h = some (r, h')), gG p l e (headSpec uX12_years rmX12_years).room s m ([.ref (a 66), .int v1, .int v2, .int v3] : List Value).toArray below meth c (MQ below (gQ (some (.int r)) D a C h') ([.ref (a 66), .int v1, .int v2, .int v3] : List Value).toArray s 0 0 (gA a)) D a C 8 h 177 [(0, .ref (a 66)), (1, .int v1), (3, .int v3), (5, .int v5)] [.int s0, .int s1] := by
    intro k32 hk32 v5 s0 s1 h hf H locs ls hP hS hl
    unfold X12_years_B177 at hf
    refine lv_iadd hx hb dX12_years_177 ?_
    refine lv_topi (fun x29 ex29 => ?_)
    have hf := nm_s hf ex29
    refine lv_istore (lv' := [(4, .int x29), (0, .ref (a 66)), (1, .int v1), (3, .int v3), (5, .int v5)]) hx hb dX12_years_178 hl (by decide) rfl (fun ls hl => ?_)
    obtain ⟨x30, ex30⟩ : ∃ y : Int32, y = (v5 + 1) := ⟨_, rfl⟩
    have hf := nm_s hf ex30
    refine lv_iinc (v := x30) (lv' := [(5, .int x30), (4, .int x29), (0, .ref (a 66)), (1, .int v1), (3, .int v3)]) hx hb dX12_years_180 hl (k := 4) rfl (by rw [ex30]; rfl) (by decide) rfl (fun ls hl => ?_)
    refine lv_goto (tgt := 32) hx hb dX12_years_183 (by decide) ?_
    exact hk32 x29 x30 h hf H locs ls hP hS (lv_sub hl [2, 3, 4, 1, 0] rfl)
  have J131 : ∀ (k32 : Int32 → Int32 → HS → Option (Int32 × HS)) (hk32 : ∀ (v4 : Int32) (v5 : Int32) (h : HS), k32 v4 v5 h = some (r, h') → gG p l e (headSpec uX12_years rmX12_years).room s m ([.ref (a 66), .int v1, .int v2, .int v3] : List Value).toArray below meth c (MQ below (gQ (some (.int r)) D a C h') ([.ref (a 66), .int v1, .int v2, .int v3] : List Value).toArray s 0 0 (gA a)) D a C 8 h 32 [(0, .ref (a 66)), (1, .int v1), (3, .int v3), (4, .int v4), (5, .int v5)] []) (k84 : Int32 → Int32 → Int32 → HS → Option (Int32 × HS)) (hk84 : ∀ (v4 : Int32) (v5 : Int32) (v6 : Int32) (h : HS), k84 v4 v5 v6 h = some (r, h') → gG p l e (headSpec uX12_years rmX12_years).room s m ([.ref (a 66), .int v1, .int v2, .int v3] : List Value).toArray below meth c (MQ below (gQ (some (.int r)) D a C h') ([.ref (a 66), .int v1, .int v2, .int v3] : List Value).toArray s 0 0 (gA a)) D a C 8 h 84 [(0, .ref (a 66)), (1, .int v1), (3, .int v3), (4, .int v4), (5, .int v5), (6, .int v6)] []) (k101 : Int32 → Int32 → Int32 → Int32 → HS → Option (Int32 × HS)) (hk101 : ∀ (v4 : Int32) (v5 : Int32) (v6 : Int32) (v7 : Int32) (h : HS), k101 v4 v5 v6 v7 h = some (r, h') → gG p l e (headSpec uX12_years rmX12_years).room s m ([.ref (a 66), .int v1, .int v2, .int v3] : List Value).toArray below meth c (MQ below (gQ (some (.int r)) D a C h') ([.ref (a 66), .int v1, .int v2, .int v3] : List Value).toArray s 0 0 (gA a)) D a C 8 h 101 [(0, .ref (a 66)), (1, .int v1), (3, .int v3), (4, .int v4), (5, .int v5), (6, .int v6), (7, .int v7)] []) (v4 : Int32) (v5 : Int32) (v6 : Int32) (v7 : Int32) (h : HS) (_ : X12_years_B131 v1 v2 v3 k32 k84 k101 v4 v5 v6 v7 h = some (r, h')), gG p l e (headSpec uX12_years rmX12_years).room s m ([.ref (a 66), .int v1, .int v2, .int v3] : List Value).toArray below meth c (MQ below (gQ (some (.int r)) D a C h') ([.ref (a 66), .int v1, .int v2, .int v3] : List Value).toArray s 0 0 (gA a)) D a C 8 h 131 [(0, .ref (a 66)), (1, .int v1), (3, .int v3), (4, .int v4), (5, .int v5), (6, .int v6), (7, .int v7)] [] := by
    intro k32 hk32 k84 hk84 k101 hk101 v4 v5 v6 v7 h hf H locs ls hP hS hl
    unfold X12_years_B131 at hf
    obtain ⟨x28, ex28⟩ : ∃ y : Int32, y = (v7 + 1) := ⟨_, rfl⟩
    have hf := nm_s hf ex28
    refine lv_iinc (v := x28) (lv' := [(7, .int x28), (0, .ref (a 66)), (1, .int v1), (3, .int v3), (4, .int v4), (5, .int v5), (6, .int v6)]) hx hb dX12_years_131 hl (k := 6) rfl (by rw [ex28]; rfl) (by decide) rfl (fun ls hl => ?_)
    refine lv_goto (tgt := 101) hx hb dX12_years_134 (by decide) ?_
    exact hk101 v4 v5 v6 x28 h hf H locs ls hP hS (lv_sub hl [1, 2, 3, 4, 5, 6, 0] rfl)
  have J101 : ∀ (k32 : Int32 → Int32 → HS → Option (Int32 × HS)) (hk32 : ∀ (v4 : Int32) (v5 : Int32) (h : HS), k32 v4 v5 h = some (r, h') → gG p l e (headSpec uX12_years rmX12_years).room s m ([.ref (a 66), .int v1, .int v2, .int v3] : List Value).toArray below meth c (MQ below (gQ (some (.int r)) D a C h') ([.ref (a 66), .int v1, .int v2, .int v3] : List Value).toArray s 0 0 (gA a)) D a C 8 h 32 [(0, .ref (a 66)), (1, .int v1), (3, .int v3), (4, .int v4), (5, .int v5)] []) (k84 : Int32 → Int32 → Int32 → HS → Option (Int32 × HS)) (hk84 : ∀ (v4 : Int32) (v5 : Int32) (v6 : Int32) (h : HS), k84 v4 v5 v6 h = some (r, h') → gG p l e (headSpec uX12_years rmX12_years).room s m ([.ref (a 66), .int v1, .int v2, .int v3] : List Value).toArray below meth c (MQ below (gQ (some (.int r)) D a C h') ([.ref (a 66), .int v1, .int v2, .int v3] : List Value).toArray s 0 0 (gA a)) D a C 8 h 84 [(0, .ref (a 66)), (1, .int v1), (3, .int v3), (4, .int v4), (5, .int v5), (6, .int v6)] []) (fu : Nat) (v4 : Int32) (v5 : Int32) (v6 : Int32) (v7 : Int32) (h : HS), X12_years_B101 v1 v2 v3 k32 k84 fu v4 v5 v6 v7 h = some (r, h') → gG p l e (headSpec uX12_years rmX12_years).room s m ([.ref (a 66), .int v1, .int v2, .int v3] : List Value).toArray below meth c (MQ below (gQ (some (.int r)) D a C h') ([.ref (a 66), .int v1, .int v2, .int v3] : List Value).toArray s 0 0 (gA a)) D a C 8 h 101 [(0, .ref (a 66)), (1, .int v1), (3, .int v3), (4, .int v4), (5, .int v5), (6, .int v6), (7, .int v7)] [] := by
    intro k32 hk32 k84 hk84 fu
    induction fu with
    | zero => intro v4 v5 v6 v7 h hf; exact absurd hf (by simp [X12_years_B101])
    | succ fu ih =>
      intro v4 v5 v6 v7 h hf H locs ls hP hS hl
      rw [X12_years_B101] at hf
      refine lv_iload hx hb dX12_years_101 (lv_at hl 6 rfl) ?_
      refine lv_aload_n hx hb dX12_years_103 rfl (lv_at hl 0 rfl) ?_
      refine g_get (Cn := RX12) (T := TX12) (N := 21) (v := .ref (a 67)) (own := RX12) hx hb hown hts hK M_O rfl (fun _ hw => List.mem_cons_of_mem _ (u12_cls _ hw)) 0 (by decide) (List.mem_cons_of_mem _ (u12_0 _ (List.mem_of_getElem? (i := 5) rfl))) rfl rfl hP dX12_years_104 ?_
      refine lv_iconst (v := 0) hx hb dX12_years_107 (by decide) ?_
      obtain ⟨c22, hf⟩ := gdi_s hf
      refine g_ial hx hb hK (⟨by decide, rfl⟩ : gAI 67 30) c22 hP dX12_years_108 ?_
      refine lv_icmp_ge (tgt := 137) hx hb dX12_years_109 (by decide) (fun c23 => ?_) (fun c23 => ?_)
      · have hf := if_t hf c23
        obtain ⟨x24, ex24⟩ : ∃ y : Int32, y = (v6 + 1) := ⟨_, rfl⟩
        have hf := nm_s hf ex24
        refine lv_iinc (v := x24) (lv' := [(6, .int x24), (0, .ref (a 66)), (1, .int v1), (3, .int v3), (4, .int v4), (5, .int v5), (7, .int v7)]) hx hb dX12_years_137 hl (k := 5) rfl (by rw [ex24]; rfl) (by decide) rfl (fun ls hl => ?_)
        refine lv_goto (tgt := 84) hx hb dX12_years_140 (by decide) ?_
        exact hk84 v4 v5 x24 h hf H locs ls hP hS (lv_sub hl [1, 2, 3, 4, 5, 0] rfl)
      · have hf := if_f hf c23
        refine lv_aload_n hx hb dX12_years_112 rfl (lv_at hl 0 rfl) ?_
        refine lv_iconst (v := 3) hx hb dX12_years_113 (by decide) ?_
        obtain ⟨q25, hq25, hf⟩ := bind_s hf
        refine g_callV (As := [.int 3]) (rest := []) hx hb hml hown hts hK hN (m_X12_drawn l D a C ha h 3  q25.1 q25.2 hq25) (cwV 1 hts (gUV (u12_11 _ (List.mem_of_getElem? (i := 10) rfl)) (u12_11 _ (List.mem_of_getElem? (i := 11) rfl)) (u12_11 _ (List.mem_of_getElem? (i := 12) rfl)) (u12_1 _ (List.mem_of_getElem? (i := 7) rfl)) (u12_11 _ (List.mem_of_getElem? (i := 5) rfl))) rfl rfl rfl kdX12_drawn ⟨Nat.le_of_ble_eq_true rfl, Nat.le_of_ble_eq_true rfl⟩) M_O rfl rfl hP hS hA rfl hl.1 rfl (Nat.le_of_ble_eq_true rfl) dX12_years_114 ⟨Nat.le_refl _, Nat.le_refl _⟩ (fun H locs hP hS => ?_)
        refine W.eq (g2 := F0 m 117 ls [.int q25.1]) rfl ?_
        refine lv_if_ne (tgt := 131) hx hb dX12_years_117 (by decide) (fun c26 => ?_) (fun c26 => ?_)
        · have hf := if_f hf c26
          exact J131 k32 hk32 k84 hk84 (X12_years_B101 v1 v2 v3 k32 k84 fu) ih v4 v5 v6 v7 q25.2 hf H locs ls hP hS (lv_sub hl [0, 1, 2, 3, 4, 5, 6] rfl)
        · have hf := if_t hf c26
          refine lv_aload_n hx hb dX12_years_120 rfl (lv_at hl 0 rfl) ?_
          refine g_get (Cn := RX12) (T := TX12) (N := 21) (v := .ref (a 68)) (own := RX12) hx hb hown hts hK M_O rfl (fun _ hw => List.mem_cons_of_mem _ (u12_cls _ hw)) 1 (by decide) (List.mem_cons_of_mem _ (u12_0 _ (List.mem_of_getElem? (i := 6) rfl))) rfl rfl hP dX12_years_121 ?_
          refine lv_iload hx hb dX12_years_124 (lv_at hl 5 rfl) ?_
          refine lv_iload hx hb dX12_years_126 (lv_at hl 6 rfl) ?_
          obtain ⟨q27, hq27, hf⟩ := bind_s hf
          refine g_callS (As := [.ref (a 68), .int v6, .int v7]) (rest := []) hx hb hml hown hts hK hN (m_X12_changesLine l D a C ha q25.2 68 v6 v7 (Or.inr (Or.inl rfl)) q27 hq27) (va_cwS 3 hts (gUS (u12_4 _ (List.mem_of_getElem? (i := 2) rfl)) (u12_4 _ (List.mem_of_getElem? (i := 3) rfl)) (u12_1 _ (List.mem_of_getElem? (i := 7) rfl)) (u12_3 _ (List.mem_of_getElem? (i := 0) rfl))) rfl rfl rfl kdX12_changesLine.2 ⟨Nat.le_of_ble_eq_true rfl, Nat.le_of_ble_eq_true rfl⟩) hP hS hA rfl hl.1 rfl (Nat.le_of_ble_eq_true rfl) dX12_years_128 ⟨Nat.le_refl _, Nat.le_refl _⟩ (fun H locs hP hS => ?_)
          refine W.eq (g2 := F0 m 131 ls []) rfl ?_
          exact J131 k32 hk32 k84 hk84 (X12_years_B101 v1 v2 v3 k32 k84 fu) ih v4 v5 v6 v7 q27 hf H locs ls hP hS (lv_sub hl [0, 1, 2, 3, 4, 5, 6] rfl)
  have J84 : ∀ (k32 : Int32 → Int32 → HS → Option (Int32 × HS)) (hk32 : ∀ (v4 : Int32) (v5 : Int32) (h : HS), k32 v4 v5 h = some (r, h') → gG p l e (headSpec uX12_years rmX12_years).room s m ([.ref (a 66), .int v1, .int v2, .int v3] : List Value).toArray below meth c (MQ below (gQ (some (.int r)) D a C h') ([.ref (a 66), .int v1, .int v2, .int v3] : List Value).toArray s 0 0 (gA a)) D a C 8 h 32 [(0, .ref (a 66)), (1, .int v1), (3, .int v3), (4, .int v4), (5, .int v5)] []) (fu : Nat) (v4 : Int32) (v5 : Int32) (v6 : Int32) (h : HS), X12_years_B84 v1 v2 v3 k32 fu v4 v5 v6 h = some (r, h') → gG p l e (headSpec uX12_years rmX12_years).room s m ([.ref (a 66), .int v1, .int v2, .int v3] : List Value).toArray below meth c (MQ below (gQ (some (.int r)) D a C h') ([.ref (a 66), .int v1, .int v2, .int v3] : List Value).toArray s 0 0 (gA a)) D a C 8 h 84 [(0, .ref (a 66)), (1, .int v1), (3, .int v3), (4, .int v4), (5, .int v5), (6, .int v6)] [] := by
    intro k32 hk32 fu
    induction fu with
    | zero => intro v4 v5 v6 h hf; exact absurd hf (by simp [X12_years_B84])
    | succ fu ih =>
      intro v4 v5 v6 h hf H locs ls hP hS hl
      rw [X12_years_B84] at hf
      refine lv_iload hx hb dX12_years_84 (lv_at hl 5 rfl) ?_
      refine lv_aload_n hx hb dX12_years_86 rfl (lv_at hl 0 rfl) ?_
      refine g_get (Cn := RX12) (T := TX12) (N := 21) (v := .ref (a 67)) (own := RX12) hx hb hown hts hK M_O rfl (fun _ hw => List.mem_cons_of_mem _ (u12_cls _ hw)) 0 (by decide) (List.mem_cons_of_mem _ (u12_0 _ (List.mem_of_getElem? (i := 5) rfl))) rfl rfl hP dX12_years_87 ?_
      refine lv_iconst (v := 0) hx hb dX12_years_90 (by decide) ?_
      obtain ⟨c14, hf⟩ := gdi_s hf
      refine g_ial hx hb hK (⟨by decide, rfl⟩ : gAI 67 30) c14 hP dX12_years_91 ?_
      refine lv_icmp_ge (tgt := 143) hx hb dX12_years_92 (by decide) (fun c15 => ?_) (fun c15 => ?_)
      · have hf := if_t hf c15
        refine lv_aload_n hx hb dX12_years_143 rfl (lv_at hl 0 rfl) ?_
        refine g_get (Cn := RX12) (T := TX12) (N := 21) (v := .ref (a 68)) (own := RX12) hx hb hown hts hK M_O rfl (fun _ hw => List.mem_cons_of_mem _ (u12_cls _ hw)) 1 (by decide) (List.mem_cons_of_mem _ (u12_0 _ (List.mem_of_getElem? (i := 6) rfl))) rfl rfl hP dX12_years_144 ?_
        refine lv_bipush (v := 9) hx hb dX12_years_147 (by decide) ?_
        obtain ⟨q16, hq16, hf⟩ := bind_s hf
        refine g_callS (As := [.ref (a 68), .int 9]) (rest := []) hx hb hml hown hts hK hN (m_X12_daysOn l D a C ha h 68 9 (Or.inr (Or.inl rfl)) q16 hq16) (va_cwS 2 hts (gUS (u12_4 _ (List.mem_of_getElem? (i := 6) rfl)) (u12_4 _ (List.mem_of_getElem? (i := 7) rfl)) (u12_1 _ (List.mem_of_getElem? (i := 7) rfl)) (u12_2 _ (List.mem_of_getElem? (i := 19) rfl))) rfl rfl rfl kdX12_daysOn.2 ⟨Nat.le_of_ble_eq_true rfl, Nat.le_of_ble_eq_true rfl⟩) hP hS hA rfl hl.1 rfl (Nat.le_of_ble_eq_true rfl) dX12_years_149 ⟨Nat.le_refl _, Nat.le_refl _⟩ (fun H locs hP hS => ?_)
        refine W.eq (g2 := F0 m 152 ls []) rfl ?_
        refine lv_iload hx hb dX12_years_152 (lv_at hl 3 rfl) ?_
        refine lv_iload_n hx hb dX12_years_154 rfl (lv_at hl 2 rfl) ?_
        refine lv_if_ne (tgt := 170) hx hb dX12_years_155 (by decide) (fun c17 => ?_) (fun c17 => ?_)
        · have hf := if_f hf c17
          refine lv_aload_n hx hb dX12_years_170 rfl (lv_at hl 0 rfl) ?_
          refine g_get (Cn := RX12) (T := TX12) (N := 21) (v := .ref (a 68)) (own := RX12) hx hb hown hts hK M_O rfl (fun _ hw => List.mem_cons_of_mem _ (u12_cls _ hw)) 1 (by decide) (List.mem_cons_of_mem _ (u12_0 _ (List.mem_of_getElem? (i := 6) rfl))) rfl rfl hP dX12_years_171 ?_
          obtain ⟨q18, hq18, hf⟩ := bind_s hf
          refine g_callS (As := [.ref (a 68)]) (rest := [.int v4]) hx hb hml hown hts hK hN (m_X12_linesIn l D a C ha q16 68 (Or.inr (Or.inl rfl)) q18 hq18) (va_cwS 1 hts (gUS (u12_6 _ (List.mem_of_getElem? (i := 8) rfl)) (u12_6 _ (List.mem_of_getElem? (i := 9) rfl)) (u12_1 _ (List.mem_of_getElem? (i := 7) rfl)) (u12_3 _ (List.mem_of_getElem? (i := 1) rfl))) rfl rfl rfl kdX12_linesIn.2 ⟨Nat.le_of_ble_eq_true rfl, Nat.le_of_ble_eq_true rfl⟩) hP hS hA rfl hl.1 rfl (Nat.le_of_ble_eq_true rfl) dX12_years_174 ⟨Nat.le_refl _, Nat.le_refl _⟩ (fun H locs hP hS => ?_)
          refine W.eq (g2 := F0 m 177 ls [.int q18, .int v4]) rfl ?_
          exact J177 k32 hk32 v5 q18 v4 q16 hf H locs ls hP hS (lv_sub hl [0, 1, 2, 4] rfl)
        · have hf := if_t hf c17
          refine lv_aload_n hx hb dX12_years_158 rfl (lv_at hl 0 rfl) ?_
          refine g_get (Cn := RX12) (T := TX12) (N := 21) (v := .ref (a 68)) (own := RX12) hx hb hown hts hK M_O rfl (fun _ hw => List.mem_cons_of_mem _ (u12_cls _ hw)) 1 (by decide) (List.mem_cons_of_mem _ (u12_0 _ (List.mem_of_getElem? (i := 6) rfl))) rfl rfl hP dX12_years_159 ?_
          refine lv_iconst (v := 2) hx hb dX12_years_162 (by decide) ?_
          obtain ⟨c19, hf⟩ := gdi_s hf
          refine g_ial hx hb hK (⟨by decide, rfl⟩ : gAI 68 30) c19 hP dX12_years_163 ?_
          obtain ⟨q20, hq20, hf⟩ := bind_s hf
          refine g_callS (As := [.int (aI q16 68 (2 : Int32).toNatClampNeg)]) (rest := [.int v4]) hx hb hml hown hts hK hN (m_X12_bits l D a C ha q16 (aI q16 68 (2 : Int32).toNatClampNeg)  q20 hq20) (va_cwS 1 hts (gUS (u12_1 _ (List.mem_of_getElem? (i := 17) rfl)) (u12_1 _ (List.mem_of_getElem? (i := 18) rfl)) (u12_1 _ (List.mem_of_getElem? (i := 7) rfl)) (u12_1 _ (List.mem_of_getElem? (i := 13) rfl))) rfl rfl rfl kdX12_bits.2 ⟨Nat.le_of_ble_eq_true rfl, Nat.le_of_ble_eq_true rfl⟩) hP hS hA rfl hl.1 rfl (Nat.le_of_ble_eq_true rfl) dX12_years_164 ⟨Nat.le_refl _, Nat.le_refl _⟩ (fun H locs hP hS => ?_)
          refine W.eq (g2 := F0 m 167 ls [.int q20, .int v4]) rfl ?_
          refine lv_goto (tgt := 177) hx hb dX12_years_167 (by decide) ?_
          exact J177 k32 hk32 v5 q20 v4 q16 hf H locs ls hP hS (lv_sub hl [0, 1, 2, 4] rfl)
      · have hf := if_f hf c15
        refine lv_iload hx hb dX12_years_95 (lv_at hl 5 rfl) ?_
        refine lv_iconst (v := 1) hx hb dX12_years_97 (by decide) ?_
        refine lv_iadd hx hb dX12_years_98 ?_
        refine lv_topi (fun x21 ex21 => ?_)
        have hf := nm_s hf ex21
        refine lv_istore (lv' := [(7, .int x21), (0, .ref (a 66)), (1, .int v1), (3, .int v3), (4, .int v4), (5, .int v5), (6, .int v6)]) hx hb dX12_years_99 hl (by decide) rfl (fun ls hl => ?_)
        exact J101 k32 hk32 (X12_years_B84 v1 v2 v3 k32 fu) ih FU v4 v5 v6 x21 h hf H locs ls hP hS (lv_sub hl [1, 2, 3, 4, 5, 6, 0] rfl)
  have J52 : ∀ (k32 : Int32 → Int32 → HS → Option (Int32 × HS)) (hk32 : ∀ (v4 : Int32) (v5 : Int32) (h : HS), k32 v4 v5 h = some (r, h') → gG p l e (headSpec uX12_years rmX12_years).room s m ([.ref (a 66), .int v1, .int v2, .int v3] : List Value).toArray below meth c (MQ below (gQ (some (.int r)) D a C h') ([.ref (a 66), .int v1, .int v2, .int v3] : List Value).toArray s 0 0 (gA a)) D a C 8 h 32 [(0, .ref (a 66)), (1, .int v1), (3, .int v3), (4, .int v4), (5, .int v5)] []) (fu : Nat) (v4 : Int32) (v5 : Int32) (v6 : Int32) (h : HS), X12_years_B52 v1 v2 v3 k32 fu v4 v5 v6 h = some (r, h') → gG p l e (headSpec uX12_years rmX12_years).room s m ([.ref (a 66), .int v1, .int v2, .int v3] : List Value).toArray below meth c (MQ below (gQ (some (.int r)) D a C h') ([.ref (a 66), .int v1, .int v2, .int v3] : List Value).toArray s 0 0 (gA a)) D a C 8 h 52 [(0, .ref (a 66)), (1, .int v1), (3, .int v3), (4, .int v4), (5, .int v5), (6, .int v6)] [] := by
    intro k32 hk32 fu
    induction fu with
    | zero => intro v4 v5 v6 h hf; exact absurd hf (by simp [X12_years_B52])
    | succ fu ih =>
      intro v4 v5 v6 h hf H locs ls hP hS hl
      rw [X12_years_B52] at hf
      refine lv_iload hx hb dX12_years_52 (lv_at hl 5 rfl) ?_
      refine lv_aload_n hx hb dX12_years_54 rfl (lv_at hl 0 rfl) ?_
      refine g_get (Cn := RX12) (T := TX12) (N := 21) (v := .ref (a 67)) (own := RX12) hx hb hown hts hK M_O rfl (fun _ hw => List.mem_cons_of_mem _ (u12_cls _ hw)) 0 (by decide) (List.mem_cons_of_mem _ (u12_0 _ (List.mem_of_getElem? (i := 5) rfl))) rfl rfl hP dX12_years_55 ?_
      refine lv_iconst (v := 0) hx hb dX12_years_58 (by decide) ?_
      obtain ⟨c8, hf⟩ := gdi_s hf
      refine g_ial hx hb hK (⟨by decide, rfl⟩ : gAI 67 30) c8 hP dX12_years_59 ?_
      refine lv_icmp_ge (tgt := 81) hx hb dX12_years_60 (by decide) (fun c9 => ?_) (fun c9 => ?_)
      · have hf := if_t hf c9
        refine lv_iconst (v := 0) hx hb dX12_years_81 (by decide) ?_
        refine lv_istore (lv' := [(6, .int 0), (0, .ref (a 66)), (1, .int v1), (3, .int v3), (4, .int v4), (5, .int v5)]) hx hb dX12_years_82 hl (by decide) rfl (fun ls hl => ?_)
        exact J84 k32 hk32 FU v4 v5 0 h hf H locs ls hP hS (lv_sub hl [1, 2, 3, 4, 5, 0] rfl)
      · have hf := if_f hf c9
        refine lv_aload_n hx hb dX12_years_63 rfl (lv_at hl 0 rfl) ?_
        refine g_get (Cn := RX12) (T := TX12) (N := 21) (v := .ref (a 68)) (own := RX12) hx hb hown hts hK M_O rfl (fun _ hw => List.mem_cons_of_mem _ (u12_cls _ hw)) 1 (by decide) (List.mem_cons_of_mem _ (u12_0 _ (List.mem_of_getElem? (i := 6) rfl))) rfl rfl hP dX12_years_64 ?_
        refine lv_iload hx hb dX12_years_67 (lv_at hl 5 rfl) ?_
        refine lv_iconst (v := 2) hx hb dX12_years_69 (by decide) ?_
        obtain ⟨q10, hq10, hf⟩ := bind_s hf
        refine g_callS (As := [.int v6, .int 2]) (rest := [.ref (a 68)]) hx hb hml hown hts hK hN (m_X12_of l D a C ha h v6 2  q10 hq10) (va_cwS 2 hts (gUS (u12_1 _ (List.mem_of_getElem? (i := 15) rfl)) (u12_1 _ (List.mem_of_getElem? (i := 16) rfl)) (u12_1 _ (List.mem_of_getElem? (i := 7) rfl)) (u12_1 _ (List.mem_of_getElem? (i := 3) rfl))) rfl rfl rfl kdX12_of.2 ⟨Nat.le_of_ble_eq_true rfl, Nat.le_of_ble_eq_true rfl⟩) hP hS hA rfl hl.1 rfl (Nat.le_of_ble_eq_true rfl) dX12_years_70 ⟨Nat.le_refl _, Nat.le_refl _⟩ (fun H locs hP hS => ?_)
        refine W.eq (g2 := F0 m 73 ls [.int q10, .ref (a 68)]) rfl ?_
        refine lv_iconst (v := 0) hx hb dX12_years_73 (by decide) ?_
        obtain ⟨c12, hf⟩ := gdi_s hf
        refine g_ias hx hb hK ha hA (⟨by decide, rfl⟩ : gAI 68 30) c12 hP hS dX12_years_74 (fun H locs hP hS => ?_)
        obtain ⟨h11, eh11⟩ : ∃ x, x = (sA h 68 (upd (aI h 68) q10.toNatClampNeg 0)) := ⟨_, rfl⟩
        rw [← eh11] at hP
        have hf := nm_s hf eh11
        obtain ⟨x13, ex13⟩ : ∃ y : Int32, y = (v6 + 1) := ⟨_, rfl⟩
        have hf := nm_s hf ex13
        refine lv_iinc (v := x13) (lv' := [(6, .int x13), (0, .ref (a 66)), (1, .int v1), (3, .int v3), (4, .int v4), (5, .int v5)]) hx hb dX12_years_75 hl (k := 5) rfl (by rw [ex13]; rfl) (by decide) rfl (fun ls hl => ?_)
        refine lv_goto (tgt := 52) hx hb dX12_years_78 (by decide) ?_
        exact ih v4 v5 x13 h11 hf H locs ls hP hS (lv_sub hl [1, 2, 3, 4, 5, 0] rfl)
  have J32 : ∀ (fu : Nat) (v4 : Int32) (v5 : Int32) (h : HS), X12_years_B32 v1 v2 v3 fu v4 v5 h = some (r, h') → gG p l e (headSpec uX12_years rmX12_years).room s m ([.ref (a 66), .int v1, .int v2, .int v3] : List Value).toArray below meth c (MQ below (gQ (some (.int r)) D a C h') ([.ref (a 66), .int v1, .int v2, .int v3] : List Value).toArray s 0 0 (gA a)) D a C 8 h 32 [(0, .ref (a 66)), (1, .int v1), (3, .int v3), (4, .int v4), (5, .int v5)] [] := by
    intro fu
    induction fu with
    | zero => intro v4 v5 h hf; exact absurd hf (by simp [X12_years_B32])
    | succ fu ih =>
      intro v4 v5 h hf H locs ls hP hS hl
      rw [X12_years_B32] at hf
      refine lv_iload hx hb dX12_years_32 (lv_at hl 4 rfl) ?_
      refine lv_iload_n hx hb dX12_years_34 rfl (lv_at hl 1 rfl) ?_
      refine lv_icmp_ge (tgt := 186) hx hb dX12_years_35 (by decide) (fun c6 => ?_) (fun c6 => ?_)
      · have hf := if_t hf c6
        refine lv_iload hx hb dX12_years_186 (lv_at hl 3 rfl) ?_
        exact g_iretW hx hb hr hlk hP hS (ret2 hf) dX12_years_188
      · have hf := if_f hf c6
        refine lv_aload_n hx hb dX12_years_38 rfl (lv_at hl 0 rfl) ?_
        refine g_get (Cn := RX12) (T := TX12) (N := 21) (v := .ref (a 67)) (own := RX12) hx hb hown hts hK M_O rfl (fun _ hw => List.mem_cons_of_mem _ (u12_cls _ hw)) 0 (by decide) (List.mem_cons_of_mem _ (u12_0 _ (List.mem_of_getElem? (i := 5) rfl))) rfl rfl hP dX12_years_39 ?_
        refine lv_aload_n hx hb dX12_years_42 rfl (lv_at hl 0 rfl) ?_
        refine g_get (Cn := RX12) (T := TX12) (N := 21) (v := .ref (a 68)) (own := RX12) hx hb hown hts hK M_O rfl (fun _ hw => List.mem_cons_of_mem _ (u12_cls _ hw)) 1 (by decide) (List.mem_cons_of_mem _ (u12_0 _ (List.mem_of_getElem? (i := 6) rfl))) rfl rfl hP dX12_years_43 ?_
        obtain ⟨q7, hq7, hf⟩ := bind_s hf
        refine g_callS (As := [.ref (a 67), .ref (a 68)]) (rest := []) hx hb hml hown hts hK hN (m_X12_copies l D a C ha h 67 68 (Or.inl rfl) (Or.inr (Or.inl rfl)) q7 hq7) (va_cwS 2 hts (gUS (u12_4 _ (List.mem_of_getElem? (i := 19) rfl)) (u12_5 _ (List.mem_of_getElem? (i := 0) rfl)) (u12_1 _ (List.mem_of_getElem? (i := 7) rfl)) (u12_1 _ (List.mem_of_getElem? (i := 2) rfl))) rfl rfl rfl kdX12_copies.2 ⟨Nat.le_of_ble_eq_true rfl, Nat.le_of_ble_eq_true rfl⟩) hP hS hA rfl hl.1 rfl (Nat.le_of_ble_eq_true rfl) dX12_years_46 ⟨Nat.le_refl _, Nat.le_refl _⟩ (fun H locs hP hS => ?_)
        refine W.eq (g2 := F0 m 49 ls []) rfl ?_
        refine lv_iconst (v := 0) hx hb dX12_years_49 (by decide) ?_
        refine lv_istore (lv' := [(6, .int 0), (0, .ref (a 66)), (1, .int v1), (3, .int v3), (4, .int v4), (5, .int v5)]) hx hb dX12_years_50 hl (by decide) rfl (fun ls hl => ?_)
        exact J52 (X12_years_B32 v1 v2 v3 fu) ih FU v4 v5 0 q7 hf H locs ls hP hS (lv_sub hl [1, 2, 3, 4, 5, 0] rfl)
  unfold X12_years at hf
  suffices hh : ∀ (H : Heap) (locs : List Loc), va_P D vwCl (gw a C h) H → va_S (gA a) s.heap H locs → W p l e (headSpec uX12_years rmX12_years).room s m ([.ref (a 66), .int v1, .int v2, .int v3] : List Value).toArray below meth c H locs 0 0 (MQ below (gQ (some (.int r)) D a C h') ([.ref (a 66), .int v1, .int v2, .int v3] : List Value).toArray s 0 0 (gA a)) (F0 m 0 ls []) from hh _ _ hP hS
  intro H locs hP hS
  refine lv_iload_n hx hb dX12_years_0 rfl (lv_at hl 1 rfl) ?_
  refine lv_iconst (v := 1) hx hb dX12_years_1 (by decide) ?_
  refine lv_bipush (v := 20) hx hb dX12_years_2 (by decide) ?_
  obtain ⟨q1, hq1, hf⟩ := bind_s hf
  refine g_callS (As := [.int v1, .int 1, .int 20]) (rest := []) hx hb hml hown hts hK hN (m_X12_isIn l D a C ha h v1 1 20  q1 hq1) (va_cwS 3 hts (gUS (u12_1 _ (List.mem_of_getElem? (i := 5) rfl)) (u12_1 _ (List.mem_of_getElem? (i := 6) rfl)) (u12_1 _ (List.mem_of_getElem? (i := 7) rfl)) (u12_1 _ (List.mem_of_getElem? (i := 1) rfl))) rfl rfl rfl kdX12_isIn.2 ⟨Nat.le_of_ble_eq_true rfl, Nat.le_of_ble_eq_true rfl⟩) hP hS hA rfl hl.1 rfl (Nat.le_of_ble_eq_true rfl) dX12_years_4 ⟨Nat.le_refl _, Nat.le_refl _⟩ (fun H locs hP hS => ?_)
  refine W.eq (g2 := F0 m 7 ls [.int q1]) rfl ?_
  refine lv_if_eq (tgt := 19) hx hb dX12_years_7 (by decide) (fun c2 => ?_) (fun c2 => ?_)
  · have hf := if_t hf c2
    refine lv_iconst (v := (-1)) hx hb dX12_years_19 (by decide) ?_
    exact g_iretW hx hb hr hlk hP hS (ret2 hf) dX12_years_20
  · have hf := if_f hf c2
    refine lv_iload_n hx hb dX12_years_10 rfl (lv_at hl 3 rfl) ?_
    refine lv_iconst (v := 0) hx hb dX12_years_11 (by decide) ?_
    refine lv_iconst (v := 1) hx hb dX12_years_12 (by decide) ?_
    obtain ⟨q3, hq3, hf⟩ := bind_s hf
    refine g_callS (As := [.int v3, .int 0, .int 1]) (rest := []) hx hb hml hown hts hK hN (m_X12_isIn l D a C ha h v3 0 1  q3 hq3) (va_cwS 3 hts (gUS (u12_1 _ (List.mem_of_getElem? (i := 5) rfl)) (u12_1 _ (List.mem_of_getElem? (i := 6) rfl)) (u12_1 _ (List.mem_of_getElem? (i := 7) rfl)) (u12_1 _ (List.mem_of_getElem? (i := 1) rfl))) rfl rfl rfl kdX12_isIn.2 ⟨Nat.le_of_ble_eq_true rfl, Nat.le_of_ble_eq_true rfl⟩) hP hS hA rfl hl.1 rfl (Nat.le_of_ble_eq_true rfl) dX12_years_13 ⟨Nat.le_refl _, Nat.le_refl _⟩ (fun H locs hP hS => ?_)
    refine W.eq (g2 := F0 m 16 ls [.int q3]) rfl ?_
    refine lv_if_ne (tgt := 21) hx hb dX12_years_16 (by decide) (fun c4 => ?_) (fun c4 => ?_)
    · have hf := if_f hf c4
      refine lv_aload_n hx hb dX12_years_21 rfl (lv_at hl 0 rfl) ?_
      refine lv_iload_n hx hb dX12_years_22 rfl (lv_at hl 2 rfl) ?_
      refine g_put (Cn := RX12) (T := TX12) (N := 21) (ty0 := tyX12) (own := RX12) hx hb hown hts hK ha hA M_O rfl (fun _ hw => List.mem_cons_of_mem _ (u12_cls _ hw)) tyX12_ok nmX12 13 (by decide) (List.mem_cons_of_mem _ (u12_11 _ (List.mem_of_getElem? (i := 6) rfl))) rfl rfl rfl rfl rfl hP hS dX12_years_23 (fun H locs hP hS => ?_)
      obtain ⟨h5, eh5⟩ : ∃ x, x = (sF h 66 13 v2) := ⟨_, rfl⟩
      rw [← eh5] at hP
      have hf := nm_s hf eh5
      refine lv_iconst (v := 0) hx hb dX12_years_26 (by decide) ?_
      refine lv_istore (lv' := [(4, .int 0), (0, .ref (a 66)), (1, .int v1), (2, .int v2), (3, .int v3)]) hx hb dX12_years_27 hl (by decide) rfl (fun ls hl => ?_)
      refine lv_iconst (v := 0) hx hb dX12_years_29 (by decide) ?_
      refine lv_istore (lv' := [(5, .int 0), (4, .int 0), (0, .ref (a 66)), (1, .int v1), (2, .int v2), (3, .int v3)]) hx hb dX12_years_30 hl (by decide) rfl (fun ls hl => ?_)
      exact J32 FU 0 0 h5 hf H locs ls hP hS (lv_sub hl [2, 3, 5, 1, 0] rfl)
    · have hf := if_t hf c4
      refine lv_iconst (v := (-1)) hx hb dX12_years_19 (by decide) ?_
      exact g_iretW hx hb hr hlk hP hS (ret2 hf) dX12_years_20

def X12_image (h : HS) : Option (Int32 × HS) :=
    (X12_copies h 67 69).bind fun q1 =>
    nm (sF q1 66 4 1) fun h2 =>
    gdi 1 30 <|
    some ((aI h2 67 (1 : Int32).toNatClampNeg), h2)
def uX12_image : List Cond := .code yX12_image cX12_image 1 (some .int) :: UU
def rmX12_image : Room := { frames := 1, cells := 0, slots := 0, locals := 22 }
theorem kdX12_image : yX12_image.cls = RX12 ∧ yX12_image.cls ≠ "java/lang/invoke/MethodHandle" ∧ yX12_image.cls ≠ "java/lang/invoke/VarHandle" ∧ (parseMethodDescriptor yX12_image.desc).map (fun d => d.parameters.length) = some 0 := by decide +kernel
set_option maxHeartbeats 4000000 in
set_option maxRecDepth 100000 in
theorem m_X12_image (l : Launch) (D : va_G) (a : Nat → Nat) (C : Nat → ClassId) (ha : ginj a) (h : HS)  (r : Int32) (h' : HS) (hf : X12_image h = some (r, h')) : gM l yX12_image uX12_image rmX12_image D a C [.ref (a 66)] h (some (.int r)) h' := by
  refine g_start (av := [.ref (a 66)]) (cc := cX12_image) (maxL := 1) (rt := (some .int)) (by decide) rfl (Nat.le_of_ble_eq_true rfl) ?_
  intro p e s m below meth c hx hb hr hml hown hlk hts hP hK hN ls hl
  have hA : ∀ q, gA a q → gA a q := fun _ q => q
  have hS : va_S (gA a) s.heap s.heap [] := va_S.rf
  have hl : lv_has ls 1 [(0, .ref (a 66))] := hl
  unfold X12_image at hf
  refine lv_aload_n hx hb dX12_image_0 rfl (lv_at hl 0 rfl) ?_
  refine g_get (Cn := RX12) (T := TX12) (N := 21) (v := .ref (a 67)) (own := RX12) hx hb hown hts hK M_O rfl (fun _ hw => List.mem_cons_of_mem _ (u12_cls _ hw)) 0 (by decide) (List.mem_cons_of_mem _ (u12_0 _ (List.mem_of_getElem? (i := 5) rfl))) rfl rfl hP dX12_image_1 ?_
  refine lv_aload_n hx hb dX12_image_4 rfl (lv_at hl 0 rfl) ?_
  refine g_get (Cn := RX12) (T := TX12) (N := 21) (v := .ref (a 69)) (own := RX12) hx hb hown hts hK M_O rfl (fun _ hw => List.mem_cons_of_mem _ (u12_cls _ hw)) 2 (by decide) (List.mem_cons_of_mem _ (u12_0 _ (List.mem_of_getElem? (i := 7) rfl))) rfl rfl hP dX12_image_5 ?_
  obtain ⟨q1, hq1, hf⟩ := bind_s hf
  refine g_callS (As := [.ref (a 67), .ref (a 69)]) (rest := []) hx hb hml hown hts hK hN (m_X12_copies l D a C ha h 67 69 (Or.inl rfl) (Or.inr (Or.inr (Or.inl rfl))) q1 hq1) (va_cwS 2 hts (gUS (u12_4 _ (List.mem_of_getElem? (i := 19) rfl)) (u12_5 _ (List.mem_of_getElem? (i := 0) rfl)) (u12_1 _ (List.mem_of_getElem? (i := 7) rfl)) (u12_1 _ (List.mem_of_getElem? (i := 2) rfl))) rfl rfl rfl kdX12_copies.2 ⟨Nat.le_of_ble_eq_true rfl, Nat.le_of_ble_eq_true rfl⟩) hP hS hA rfl hl.1 rfl (Nat.le_of_ble_eq_true rfl) dX12_image_8 ⟨Nat.le_refl _, Nat.le_refl _⟩ (fun H locs hP hS => ?_)
  refine W.eq (g2 := F0 m 11 ls []) rfl ?_
  refine lv_aload_n hx hb dX12_image_11 rfl (lv_at hl 0 rfl) ?_
  refine lv_iconst (v := 1) hx hb dX12_image_12 (by decide) ?_
  refine g_put (Cn := RX12) (T := TX12) (N := 21) (ty0 := tyX12) (own := RX12) hx hb hown hts hK ha hA M_O rfl (fun _ hw => List.mem_cons_of_mem _ (u12_cls _ hw)) tyX12_ok nmX12 4 (by decide) (List.mem_cons_of_mem _ (u12_11 _ (List.mem_of_getElem? (i := 15) rfl))) rfl rfl rfl (by decide) rfl hP hS dX12_image_13 (fun H locs hP hS => ?_)
  obtain ⟨h2, eh2⟩ : ∃ x, x = (sF q1 66 4 1) := ⟨_, rfl⟩
  rw [← eh2] at hP
  have hf := nm_s hf eh2
  refine lv_aload_n hx hb dX12_image_16 rfl (lv_at hl 0 rfl) ?_
  refine g_get (Cn := RX12) (T := TX12) (N := 21) (v := .ref (a 67)) (own := RX12) hx hb hown hts hK M_O rfl (fun _ hw => List.mem_cons_of_mem _ (u12_cls _ hw)) 0 (by decide) (List.mem_cons_of_mem _ (u12_0 _ (List.mem_of_getElem? (i := 5) rfl))) rfl rfl hP dX12_image_17 ?_
  refine lv_iconst (v := 1) hx hb dX12_image_20 (by decide) ?_
  obtain ⟨c3, hf⟩ := gdi_s hf
  refine g_ial hx hb hK (⟨by decide, rfl⟩ : gAI 67 30) c3 hP dX12_image_21 ?_
  exact g_iretW hx hb hr hlk hP hS (ret2 hf) dX12_image_22

def X12_restore (h : HS) : Option (Int32 × HS) :=
    (if (fI h 66 4) = 0 then
    some ((-3), h)
    else
    (X12_copies h 69 67).bind fun q2 =>
    gdi 1 30 <|
    some ((aI q2 67 (1 : Int32).toNatClampNeg), q2))
def uX12_restore : List Cond := .code yX12_restore cX12_restore 1 (some .int) :: UU
def rmX12_restore : Room := { frames := 1, cells := 0, slots := 0, locals := 22 }
theorem kdX12_restore : yX12_restore.cls = RX12 ∧ yX12_restore.cls ≠ "java/lang/invoke/MethodHandle" ∧ yX12_restore.cls ≠ "java/lang/invoke/VarHandle" ∧ (parseMethodDescriptor yX12_restore.desc).map (fun d => d.parameters.length) = some 0 := by decide +kernel
set_option maxHeartbeats 4000000 in
set_option maxRecDepth 100000 in
theorem m_X12_restore (l : Launch) (D : va_G) (a : Nat → Nat) (C : Nat → ClassId) (ha : ginj a) (h : HS)  (r : Int32) (h' : HS) (hf : X12_restore h = some (r, h')) : gM l yX12_restore uX12_restore rmX12_restore D a C [.ref (a 66)] h (some (.int r)) h' := by
  refine g_start (av := [.ref (a 66)]) (cc := cX12_restore) (maxL := 1) (rt := (some .int)) (by decide) rfl (Nat.le_of_ble_eq_true rfl) ?_
  intro p e s m below meth c hx hb hr hml hown hlk hts hP hK hN ls hl
  have hA : ∀ q, gA a q → gA a q := fun _ q => q
  have hS : va_S (gA a) s.heap s.heap [] := va_S.rf
  have hl : lv_has ls 1 [(0, .ref (a 66))] := hl
  unfold X12_restore at hf
  refine lv_aload_n hx hb dX12_restore_0 rfl (lv_at hl 0 rfl) ?_
  refine g_get (Cn := RX12) (T := TX12) (N := 21) (v := .int (fI h 66 4)) (own := RX12) hx hb hown hts hK M_O rfl (fun _ hw => List.mem_cons_of_mem _ (u12_cls _ hw)) 4 (by decide) (List.mem_cons_of_mem _ (u12_11 _ (List.mem_of_getElem? (i := 15) rfl))) rfl rfl hP dX12_restore_1 ?_
  refine lv_if_ne (tgt := 10) hx hb dX12_restore_4 (by decide) (fun c1 => ?_) (fun c1 => ?_)
  · have hf := if_f hf c1
    refine lv_aload_n hx hb dX12_restore_10 rfl (lv_at hl 0 rfl) ?_
    refine g_get (Cn := RX12) (T := TX12) (N := 21) (v := .ref (a 69)) (own := RX12) hx hb hown hts hK M_O rfl (fun _ hw => List.mem_cons_of_mem _ (u12_cls _ hw)) 2 (by decide) (List.mem_cons_of_mem _ (u12_0 _ (List.mem_of_getElem? (i := 7) rfl))) rfl rfl hP dX12_restore_11 ?_
    refine lv_aload_n hx hb dX12_restore_14 rfl (lv_at hl 0 rfl) ?_
    refine g_get (Cn := RX12) (T := TX12) (N := 21) (v := .ref (a 67)) (own := RX12) hx hb hown hts hK M_O rfl (fun _ hw => List.mem_cons_of_mem _ (u12_cls _ hw)) 0 (by decide) (List.mem_cons_of_mem _ (u12_0 _ (List.mem_of_getElem? (i := 5) rfl))) rfl rfl hP dX12_restore_15 ?_
    obtain ⟨q2, hq2, hf⟩ := bind_s hf
    refine g_callS (As := [.ref (a 69), .ref (a 67)]) (rest := []) hx hb hml hown hts hK hN (m_X12_copies l D a C ha h 69 67 (Or.inr (Or.inr (Or.inl rfl))) (Or.inl rfl) q2 hq2) (va_cwS 2 hts (gUS (u12_4 _ (List.mem_of_getElem? (i := 19) rfl)) (u12_5 _ (List.mem_of_getElem? (i := 0) rfl)) (u12_1 _ (List.mem_of_getElem? (i := 7) rfl)) (u12_1 _ (List.mem_of_getElem? (i := 2) rfl))) rfl rfl rfl kdX12_copies.2 ⟨Nat.le_of_ble_eq_true rfl, Nat.le_of_ble_eq_true rfl⟩) hP hS hA rfl hl.1 rfl (Nat.le_of_ble_eq_true rfl) dX12_restore_18 ⟨Nat.le_refl _, Nat.le_refl _⟩ (fun H locs hP hS => ?_)
    refine W.eq (g2 := F0 m 21 ls []) rfl ?_
    refine lv_aload_n hx hb dX12_restore_21 rfl (lv_at hl 0 rfl) ?_
    refine g_get (Cn := RX12) (T := TX12) (N := 21) (v := .ref (a 67)) (own := RX12) hx hb hown hts hK M_O rfl (fun _ hw => List.mem_cons_of_mem _ (u12_cls _ hw)) 0 (by decide) (List.mem_cons_of_mem _ (u12_0 _ (List.mem_of_getElem? (i := 5) rfl))) rfl rfl hP dX12_restore_22 ?_
    refine lv_iconst (v := 1) hx hb dX12_restore_25 (by decide) ?_
    obtain ⟨c3, hf⟩ := gdi_s hf
    refine g_ial hx hb hK (⟨by decide, rfl⟩ : gAI 67 30) c3 hP dX12_restore_26 ?_
    exact g_iretW hx hb hr hlk hP hS (ret2 hf) dX12_restore_27
  · have hf := if_t hf c1
    refine lv_bipush (v := (-3)) hx hb dX12_restore_7 (by decide) ?_
    exact g_iretW hx hb hr hlk hP hS (ret2 hf) dX12_restore_9

def X12_count_B60 (h : HS) (v1 : Int32) : Nat → Int32 → Int32 → Option Int32
  | 0, _, _ => none
  | fu + 1, v2, v3 =>
    gdi 0 30 <|
    (if (aI h 67 (0 : Int32).toNatClampNeg) ≤ v3 then
    some v2
    else
    (X12_cardsOf h 67 v3).bind fun q12 =>
    nm (v2 + q12) fun x13 =>
    nm (v3 + 1) fun x14 =>
    (X12_count_B60 h v1 fu) x13 x14)
def X12_count (h : HS) (v1 : Int32) : Option Int32 :=
    (if v1 = 0 then
    gdi v1 30 <|
    some (aI h 67 v1.toNatClampNeg)
    else
    (if v1 = 1 then
    gdi v1 30 <|
    some (aI h 67 v1.toNatClampNeg)
    else
    (if v1 = 2 then
    (X12_linesIn h 67).bind fun q6 =>
    some q6
    else
    (if v1 = 3 then
    gdi 2 30 <|
    some (aI h 67 (2 : Int32).toNatClampNeg)
    else
    (if v1 = 4 then
    X12_count_B60 h v1 FU 0 0
    else
    some (-1))))))
def uX12_count : List Cond := .code yX12_count cX12_count 4 (some .int) :: UU
def rmX12_count : Room := { frames := 3, cells := 0, slots := 0, locals := 66 }
theorem kdX12_count : yX12_count.cls = RX12 ∧ yX12_count.cls ≠ "java/lang/invoke/MethodHandle" ∧ yX12_count.cls ≠ "java/lang/invoke/VarHandle" ∧ (parseMethodDescriptor yX12_count.desc).map (fun d => d.parameters.length) = some 1 := by decide +kernel
set_option maxHeartbeats 4000000 in
set_option maxRecDepth 100000 in
theorem m_X12_count (l : Launch) (D : va_G) (a : Nat → Nat) (C : Nat → ClassId) (ha : ginj a) (h : HS) (v1 : Int32)  (r : Int32) (hf : X12_count h v1 = some r) : gM l yX12_count uX12_count rmX12_count D a C [.ref (a 66), .int v1] h (some (.int r)) h := by
  refine g_start (av := [.ref (a 66), .int v1]) (cc := cX12_count) (maxL := 4) (rt := (some .int)) (by decide) rfl (Nat.le_of_ble_eq_true rfl) ?_
  intro p e s m below meth c hx hb hr hml hown hlk hts hP hK hN ls hl
  have hA : ∀ q, gA a q → gA a q := fun _ q => q
  have hS : va_S (gA a) s.heap s.heap [] := va_S.rf
  have hl : lv_has ls 4 [(0, .ref (a 66)), (1, .int v1)] := hl
  have J60 : ∀ (fu : Nat) (v2 : Int32) (v3 : Int32), X12_count_B60 h v1 fu v2 v3 = some r → gG p l e (headSpec uX12_count rmX12_count).room s m ([.ref (a 66), .int v1] : List Value).toArray below meth c (MQ below (gQ (some (.int r)) D a C h) ([.ref (a 66), .int v1] : List Value).toArray s 0 0 (gA a)) D a C 4 h 60 [(0, .ref (a 66)), (2, .int v2), (3, .int v3)] [] := by
    intro fu
    induction fu with
    | zero => intro v2 v3 hf; exact absurd hf (by simp [X12_count_B60])
    | succ fu ih =>
      intro v2 v3 hf H locs ls hP hS hl
      rw [X12_count_B60] at hf
      refine lv_iload_n hx hb dX12_count_60 rfl (lv_at hl 2 rfl) ?_
      refine lv_aload_n hx hb dX12_count_61 rfl (lv_at hl 0 rfl) ?_
      refine g_get (Cn := RX12) (T := TX12) (N := 21) (v := .ref (a 67)) (own := RX12) hx hb hown hts hK M_O rfl (fun _ hw => List.mem_cons_of_mem _ (u12_cls _ hw)) 0 (by decide) (List.mem_cons_of_mem _ (u12_0 _ (List.mem_of_getElem? (i := 5) rfl))) rfl rfl hP dX12_count_62 ?_
      refine lv_iconst (v := 0) hx hb dX12_count_65 (by decide) ?_
      obtain ⟨c10, hf⟩ := gdi_s hf
      refine g_ial hx hb hK (⟨by decide, rfl⟩ : gAI 67 30) c10 hP dX12_count_66 ?_
      refine lv_icmp_ge (tgt := 87) hx hb dX12_count_67 (by decide) (fun c11 => ?_) (fun c11 => ?_)
      · have hf := if_t hf c11
        refine lv_iload_n hx hb dX12_count_87 rfl (lv_at hl 1 rfl) ?_
        exact g_iret hx hb hr hlk hP hS (ret1 hf) dX12_count_88
      · have hf := if_f hf c11
        refine lv_iload_n hx hb dX12_count_70 rfl (lv_at hl 1 rfl) ?_
        refine lv_aload_n hx hb dX12_count_71 rfl (lv_at hl 0 rfl) ?_
        refine g_get (Cn := RX12) (T := TX12) (N := 21) (v := .ref (a 67)) (own := RX12) hx hb hown hts hK M_O rfl (fun _ hw => List.mem_cons_of_mem _ (u12_cls _ hw)) 0 (by decide) (List.mem_cons_of_mem _ (u12_0 _ (List.mem_of_getElem? (i := 5) rfl))) rfl rfl hP dX12_count_72 ?_
        refine lv_iload_n hx hb dX12_count_75 rfl (lv_at hl 2 rfl) ?_
        obtain ⟨q12, hq12, hf⟩ := bind_s hf
        refine g_callS (As := [.ref (a 67), .int v3]) (rest := [.int v2]) hx hb hml hown hts hK hN (m_X12_cardsOf l D a C ha h 67 v3 (Or.inl rfl) q12 hq12) (va_cwS 2 hts (gUS (u12_5 _ (List.mem_of_getElem? (i := 9) rfl)) (u12_5 _ (List.mem_of_getElem? (i := 10) rfl)) (u12_1 _ (List.mem_of_getElem? (i := 7) rfl)) (u12_2 _ (List.mem_of_getElem? (i := 4) rfl))) rfl rfl rfl kdX12_cardsOf.2 ⟨Nat.le_of_ble_eq_true rfl, Nat.le_of_ble_eq_true rfl⟩) hP hS hA rfl hl.1 rfl (Nat.le_of_ble_eq_true rfl) dX12_count_76 ⟨Nat.le_refl _, Nat.le_refl _⟩ (fun H locs hP hS => ?_)
        refine W.eq (g2 := F0 m 79 ls [.int q12, .int v2]) rfl ?_
        refine lv_iadd hx hb dX12_count_79 ?_
        refine lv_topi (fun x13 ex13 => ?_)
        have hf := nm_s hf ex13
        refine lv_istore_n (lv' := [(2, .int x13), (0, .ref (a 66)), (3, .int v3)]) hx hb dX12_count_80 rfl hl (by decide) rfl (fun ls hl => ?_)
        obtain ⟨x14, ex14⟩ : ∃ y : Int32, y = (v3 + 1) := ⟨_, rfl⟩
        have hf := nm_s hf ex14
        refine lv_iinc (v := x14) (lv' := [(3, .int x14), (2, .int x13), (0, .ref (a 66))]) hx hb dX12_count_81 hl (k := 2) rfl (by rw [ex14]; rfl) (by decide) rfl (fun ls hl => ?_)
        refine lv_goto (tgt := 60) hx hb dX12_count_84 (by decide) ?_
        exact ih x13 x14 hf H locs ls hP hS (lv_sub hl [2, 1, 0] rfl)
  unfold X12_count at hf
  suffices hh : ∀ (H : Heap) (locs : List Loc), va_P D vwCl (gw a C h) H → va_S (gA a) s.heap H locs → W p l e (headSpec uX12_count rmX12_count).room s m ([.ref (a 66), .int v1] : List Value).toArray below meth c H locs 0 0 (MQ below (gQ (some (.int r)) D a C h) ([.ref (a 66), .int v1] : List Value).toArray s 0 0 (gA a)) (F0 m 0 ls []) from hh _ _ hP hS
  intro H locs hP hS
  refine lv_iconst (v := 0) hx hb dX12_count_0 (by decide) ?_
  refine lv_istore_n (lv' := [(2, .int 0), (0, .ref (a 66)), (1, .int v1)]) hx hb dX12_count_1 rfl hl (by decide) rfl (fun ls hl => ?_)
  refine lv_iload_n hx hb dX12_count_2 rfl (lv_at hl 2 rfl) ?_
  by_cases c1 : v1 = 0
  · have hf := if_t hf c1
    refine lv_tableIn (tgt := 36) hx hb dX12_count_3 (by rw [c1]; decide) (by rw [c1]; decide) (by rw [c1]; rfl) (by decide) ?_
    refine lv_aload_n hx hb dX12_count_36 rfl (lv_at hl 1 rfl) ?_
    refine g_get (Cn := RX12) (T := TX12) (N := 21) (v := .ref (a 67)) (own := RX12) hx hb hown hts hK M_O rfl (fun _ hw => List.mem_cons_of_mem _ (u12_cls _ hw)) 0 (by decide) (List.mem_cons_of_mem _ (u12_0 _ (List.mem_of_getElem? (i := 5) rfl))) rfl rfl hP dX12_count_37 ?_
    refine lv_iload_n hx hb dX12_count_40 rfl (lv_at hl 2 rfl) ?_
    obtain ⟨c2, hf⟩ := gdi_s hf
    refine g_ial hx hb hK (⟨by decide, rfl⟩ : gAI 67 30) c2 hP dX12_count_41 ?_
    exact g_iret hx hb hr hlk hP hS (ret1 hf) dX12_count_42
  have hf := if_f hf c1
  by_cases c3 : v1 = 1
  · have hf := if_t hf c3
    refine lv_tableIn (tgt := 36) hx hb dX12_count_3 (by rw [c3]; decide) (by rw [c3]; decide) (by rw [c3]; rfl) (by decide) ?_
    refine lv_aload_n hx hb dX12_count_36 rfl (lv_at hl 1 rfl) ?_
    refine g_get (Cn := RX12) (T := TX12) (N := 21) (v := .ref (a 67)) (own := RX12) hx hb hown hts hK M_O rfl (fun _ hw => List.mem_cons_of_mem _ (u12_cls _ hw)) 0 (by decide) (List.mem_cons_of_mem _ (u12_0 _ (List.mem_of_getElem? (i := 5) rfl))) rfl rfl hP dX12_count_37 ?_
    refine lv_iload_n hx hb dX12_count_40 rfl (lv_at hl 2 rfl) ?_
    obtain ⟨c4, hf⟩ := gdi_s hf
    refine g_ial hx hb hK (⟨by decide, rfl⟩ : gAI 67 30) c4 hP dX12_count_41 ?_
    exact g_iret hx hb hr hlk hP hS (ret1 hf) dX12_count_42
  have hf := if_f hf c3
  by_cases c5 : v1 = 2
  · have hf := if_t hf c5
    refine lv_tableIn (tgt := 43) hx hb dX12_count_3 (by rw [c5]; decide) (by rw [c5]; decide) (by rw [c5]; rfl) (by decide) ?_
    refine lv_aload_n hx hb dX12_count_43 rfl (lv_at hl 1 rfl) ?_
    refine g_get (Cn := RX12) (T := TX12) (N := 21) (v := .ref (a 67)) (own := RX12) hx hb hown hts hK M_O rfl (fun _ hw => List.mem_cons_of_mem _ (u12_cls _ hw)) 0 (by decide) (List.mem_cons_of_mem _ (u12_0 _ (List.mem_of_getElem? (i := 5) rfl))) rfl rfl hP dX12_count_44 ?_
    obtain ⟨q6, hq6, hf⟩ := bind_s hf
    refine g_callS (As := [.ref (a 67)]) (rest := []) hx hb hml hown hts hK hN (m_X12_linesIn l D a C ha h 67 (Or.inl rfl) q6 hq6) (va_cwS 1 hts (gUS (u12_6 _ (List.mem_of_getElem? (i := 8) rfl)) (u12_6 _ (List.mem_of_getElem? (i := 9) rfl)) (u12_1 _ (List.mem_of_getElem? (i := 7) rfl)) (u12_3 _ (List.mem_of_getElem? (i := 1) rfl))) rfl rfl rfl kdX12_linesIn.2 ⟨Nat.le_of_ble_eq_true rfl, Nat.le_of_ble_eq_true rfl⟩) hP hS hA rfl hl.1 rfl (Nat.le_of_ble_eq_true rfl) dX12_count_47 ⟨Nat.le_refl _, Nat.le_refl _⟩ (fun H locs hP hS => ?_)
    refine W.eq (g2 := F0 m 50 ls [.int q6]) rfl ?_
    exact g_iret hx hb hr hlk hP hS (ret1 hf) dX12_count_50
  have hf := if_f hf c5
  by_cases c7 : v1 = 3
  · have hf := if_t hf c7
    refine lv_tableIn (tgt := 51) hx hb dX12_count_3 (by rw [c7]; decide) (by rw [c7]; decide) (by rw [c7]; rfl) (by decide) ?_
    refine lv_aload_n hx hb dX12_count_51 rfl (lv_at hl 1 rfl) ?_
    refine g_get (Cn := RX12) (T := TX12) (N := 21) (v := .ref (a 67)) (own := RX12) hx hb hown hts hK M_O rfl (fun _ hw => List.mem_cons_of_mem _ (u12_cls _ hw)) 0 (by decide) (List.mem_cons_of_mem _ (u12_0 _ (List.mem_of_getElem? (i := 5) rfl))) rfl rfl hP dX12_count_52 ?_
    refine lv_iconst (v := 2) hx hb dX12_count_55 (by decide) ?_
    obtain ⟨c8, hf⟩ := gdi_s hf
    refine g_ial hx hb hK (⟨by decide, rfl⟩ : gAI 67 30) c8 hP dX12_count_56 ?_
    exact g_iret hx hb hr hlk hP hS (ret1 hf) dX12_count_57
  have hf := if_f hf c7
  by_cases c9 : v1 = 4
  · have hf := if_t hf c9
    refine lv_tableIn (tgt := 58) hx hb dX12_count_3 (by rw [c9]; decide) (by rw [c9]; decide) (by rw [c9]; rfl) (by decide) ?_
    refine lv_iconst (v := 0) hx hb dX12_count_58 (by decide) ?_
    refine lv_istore_n (lv' := [(3, .int 0), (2, .int 0), (0, .ref (a 66)), (1, .int v1)]) hx hb dX12_count_59 rfl hl (by decide) rfl (fun ls hl => ?_)
    exact J60 FU 0 0 hf H locs ls hP hS (lv_sub hl [2, 1, 0] rfl)
  have hf := if_f hf c9
  refine lv_tableOut (tgt := 89) hx hb dX12_count_3 (by have n0 := ti_nz (z := 0) (by decide) c1; have n1 := ti_nz (z := 1) (by decide) c3; have n2 := ti_nz (z := 2) (by decide) c5; have n3 := ti_nz (z := 3) (by decide) c7; have n4 := ti_nz (z := 4) (by decide) c9; omega) (by decide) ?_
  refine lv_iconst (v := (-1)) hx hb dX12_count_89 (by decide) ?_
  exact g_iret hx hb hr hlk hP hS (ret1 hf) dX12_count_90

def X12_thrown (h : HS) : Option Int32 :=
    some (fI h 66 20)
def uX12_thrown : List Cond := .code yX12_thrown cX12_thrown 1 (some .int) :: UU
def rmX12_thrown : Room := { frames := 0, cells := 0, slots := 0, locals := 0 }
theorem kdX12_thrown : yX12_thrown.cls = RX12 ∧ yX12_thrown.cls ≠ "java/lang/invoke/MethodHandle" ∧ yX12_thrown.cls ≠ "java/lang/invoke/VarHandle" ∧ (parseMethodDescriptor yX12_thrown.desc).map (fun d => d.parameters.length) = some 0 := by decide +kernel
set_option maxHeartbeats 4000000 in
set_option maxRecDepth 100000 in
theorem m_X12_thrown (l : Launch) (D : va_G) (a : Nat → Nat) (C : Nat → ClassId) (ha : ginj a) (h : HS)  (r : Int32) (hf : X12_thrown h = some r) : gM l yX12_thrown uX12_thrown rmX12_thrown D a C [.ref (a 66)] h (some (.int r)) h := by
  refine g_start (av := [.ref (a 66)]) (cc := cX12_thrown) (maxL := 1) (rt := (some .int)) (by decide) rfl (Nat.le_of_ble_eq_true rfl) ?_
  intro p e s m below meth c hx hb hr hml hown hlk hts hP hK hN ls hl
  have hA : ∀ q, gA a q → gA a q := fun _ q => q
  have hS : va_S (gA a) s.heap s.heap [] := va_S.rf
  have hl : lv_has ls 1 [(0, .ref (a 66))] := hl
  unfold X12_thrown at hf
  refine lv_aload_n hx hb dX12_thrown_0 rfl (lv_at hl 0 rfl) ?_
  refine g_get (Cn := RX12) (T := TX12) (N := 21) (v := .int (fI h 66 20)) (own := RX12) hx hb hown hts hK M_O rfl (fun _ hw => List.mem_cons_of_mem _ (u12_cls _ hw)) 20 (by decide) (List.mem_cons_of_mem _ (u12_11 _ (List.mem_of_getElem? (i := 19) rfl))) rfl rfl hP dX12_thrown_1 ?_
  exact g_iret hx hb hr hlk hP hS (ret1 hf) dX12_thrown_4

def X12_keep_B44 (v1 : Int32) (v2 : Int32) (v3 : Int32) (v4 : Int32) (h : HS) : Option (Int32 × HS) :=
    gdi v1 8 <|
    nm (sA h 76 (upd (aI h 76) v1.toNatClampNeg v2)) fun h10 =>
    gdi v1 8 <|
    nm (sA h10 77 (upd (aI h10 77) v1.toNatClampNeg v3)) fun h12 =>
    gdi v1 8 <|
    nm (sA h12 78 (upd (aI h12 78) v1.toNatClampNeg v4)) fun h14 =>
    some (0, h14)
def X12_keep (h : HS) (v1 : Int32) (v2 : Int32) (v3 : Int32) (v4 : Int32) : Option (Int32 × HS) :=
    (X12_isShelf v1).bind fun q1 =>
    (if q1 = 0 then
    some ((-1), h)
    else
    (X12_isIn v2 0 1).bind fun q3 =>
    (if q3 = 0 then
    some ((-1), h)
    else
    (if v2 = 1 then
    (X12_isIn v3 0 7).bind fun q6 =>
    (if q6 = 0 then
    some ((-1), h)
    else
    (X12_isIn v4 0 9).bind fun q8 =>
    (if q8 = 0 then
    some ((-1), h)
    else
    X12_keep_B44 v1 v2 v3 v4 h))
    else
    X12_keep_B44 v1 v2 v3 v4 h)))
def uX12_keep : List Cond := .code yX12_keep cX12_keep 5 (some .int) :: UU
def rmX12_keep : Room := { frames := 2, cells := 0, slots := 0, locals := 42 }
theorem kdX12_keep : yX12_keep.cls = RX12 ∧ yX12_keep.cls ≠ "java/lang/invoke/MethodHandle" ∧ yX12_keep.cls ≠ "java/lang/invoke/VarHandle" ∧ (parseMethodDescriptor yX12_keep.desc).map (fun d => d.parameters.length) = some 4 := by decide +kernel
set_option maxHeartbeats 4000000 in
set_option maxRecDepth 100000 in
theorem m_X12_keep (l : Launch) (D : va_G) (a : Nat → Nat) (C : Nat → ClassId) (ha : ginj a) (h : HS) (v1 : Int32) (v2 : Int32) (v3 : Int32) (v4 : Int32)  (r : Int32) (h' : HS) (hf : X12_keep h v1 v2 v3 v4 = some (r, h')) : gM l yX12_keep uX12_keep rmX12_keep D a C [.ref (a 66), .int v1, .int v2, .int v3, .int v4] h (some (.int r)) h' := by
  refine g_start (av := [.ref (a 66), .int v1, .int v2, .int v3, .int v4]) (cc := cX12_keep) (maxL := 5) (rt := (some .int)) (by decide) rfl (Nat.le_of_ble_eq_true rfl) ?_
  intro p e s m below meth c hx hb hr hml hown hlk hts hP hK hN ls hl
  have hA : ∀ q, gA a q → gA a q := fun _ q => q
  have hS : va_S (gA a) s.heap s.heap [] := va_S.rf
  have hl : lv_has ls 5 [(0, .ref (a 66)), (1, .int v1), (2, .int v2), (3, .int v3), (4, .int v4)] := hl
  have J44 : ∀ (h : HS) (_ : X12_keep_B44 v1 v2 v3 v4 h = some (r, h')), gG p l e (headSpec uX12_keep rmX12_keep).room s m ([.ref (a 66), .int v1, .int v2, .int v3, .int v4] : List Value).toArray below meth c (MQ below (gQ (some (.int r)) D a C h') ([.ref (a 66), .int v1, .int v2, .int v3, .int v4] : List Value).toArray s 0 0 (gA a)) D a C 5 h 44 [(0, .ref (a 66)), (1, .int v1), (2, .int v2), (3, .int v3), (4, .int v4)] [] := by
    intro h hf H locs ls hP hS hl
    unfold X12_keep_B44 at hf
    refine lv_aload_n hx hb dX12_keep_44 rfl (lv_at hl 0 rfl) ?_
    refine g_get (Cn := RX12) (T := TX12) (N := 21) (v := .ref (a 76)) (own := RX12) hx hb hown hts hK M_O rfl (fun _ hw => List.mem_cons_of_mem _ (u12_cls _ hw)) 14 (by decide) (List.mem_cons_of_mem _ (u12_0 _ (List.mem_of_getElem? (i := 15) rfl))) rfl rfl hP dX12_keep_45 ?_
    refine lv_iload_n hx hb dX12_keep_48 rfl (lv_at hl 1 rfl) ?_
    refine lv_iload_n hx hb dX12_keep_49 rfl (lv_at hl 2 rfl) ?_
    obtain ⟨c11, hf⟩ := gdi_s hf
    refine g_ias hx hb hK ha hA (⟨by decide, rfl⟩ : gAI 76 8) c11 hP hS dX12_keep_50 (fun H locs hP hS => ?_)
    obtain ⟨h10, eh10⟩ : ∃ x, x = (sA h 76 (upd (aI h 76) v1.toNatClampNeg v2)) := ⟨_, rfl⟩
    rw [← eh10] at hP
    have hf := nm_s hf eh10
    refine lv_aload_n hx hb dX12_keep_51 rfl (lv_at hl 0 rfl) ?_
    refine g_get (Cn := RX12) (T := TX12) (N := 21) (v := .ref (a 77)) (own := RX12) hx hb hown hts hK M_O rfl (fun _ hw => List.mem_cons_of_mem _ (u12_cls _ hw)) 15 (by decide) (List.mem_cons_of_mem _ (u12_0 _ (List.mem_of_getElem? (i := 16) rfl))) rfl rfl hP dX12_keep_52 ?_
    refine lv_iload_n hx hb dX12_keep_55 rfl (lv_at hl 1 rfl) ?_
    refine lv_iload_n hx hb dX12_keep_56 rfl (lv_at hl 3 rfl) ?_
    obtain ⟨c13, hf⟩ := gdi_s hf
    refine g_ias hx hb hK ha hA (⟨by decide, rfl⟩ : gAI 77 8) c13 hP hS dX12_keep_57 (fun H locs hP hS => ?_)
    obtain ⟨h12, eh12⟩ : ∃ x, x = (sA h10 77 (upd (aI h10 77) v1.toNatClampNeg v3)) := ⟨_, rfl⟩
    rw [← eh12] at hP
    have hf := nm_s hf eh12
    refine lv_aload_n hx hb dX12_keep_58 rfl (lv_at hl 0 rfl) ?_
    refine g_get (Cn := RX12) (T := TX12) (N := 21) (v := .ref (a 78)) (own := RX12) hx hb hown hts hK M_O rfl (fun _ hw => List.mem_cons_of_mem _ (u12_cls _ hw)) 16 (by decide) (List.mem_cons_of_mem _ (u12_0 _ (List.mem_of_getElem? (i := 17) rfl))) rfl rfl hP dX12_keep_59 ?_
    refine lv_iload_n hx hb dX12_keep_62 rfl (lv_at hl 1 rfl) ?_
    refine lv_iload hx hb dX12_keep_63 (lv_at hl 4 rfl) ?_
    obtain ⟨c15, hf⟩ := gdi_s hf
    refine g_ias hx hb hK ha hA (⟨by decide, rfl⟩ : gAI 78 8) c15 hP hS dX12_keep_65 (fun H locs hP hS => ?_)
    obtain ⟨h14, eh14⟩ : ∃ x, x = (sA h12 78 (upd (aI h12 78) v1.toNatClampNeg v4)) := ⟨_, rfl⟩
    rw [← eh14] at hP
    have hf := nm_s hf eh14
    refine lv_iconst (v := 0) hx hb dX12_keep_66 (by decide) ?_
    exact g_iretW hx hb hr hlk hP hS (ret2 hf) dX12_keep_67
  unfold X12_keep at hf
  suffices hh : ∀ (H : Heap) (locs : List Loc), va_P D vwCl (gw a C h) H → va_S (gA a) s.heap H locs → W p l e (headSpec uX12_keep rmX12_keep).room s m ([.ref (a 66), .int v1, .int v2, .int v3, .int v4] : List Value).toArray below meth c H locs 0 0 (MQ below (gQ (some (.int r)) D a C h') ([.ref (a 66), .int v1, .int v2, .int v3, .int v4] : List Value).toArray s 0 0 (gA a)) (F0 m 0 ls []) from hh _ _ hP hS
  intro H locs hP hS
  refine lv_iload_n hx hb dX12_keep_0 rfl (lv_at hl 1 rfl) ?_
  obtain ⟨q1, hq1, hf⟩ := bind_s hf
  refine g_callS (As := [.int v1]) (rest := []) hx hb hml hown hts hK hN (m_X12_isShelf l D a C ha h v1  q1 hq1) (va_cwS 1 hts (gUS (u12_4 _ (List.mem_of_getElem? (i := 11) rfl)) (u12_4 _ (List.mem_of_getElem? (i := 12) rfl)) (u12_1 _ (List.mem_of_getElem? (i := 7) rfl)) (u12_4 _ (List.mem_of_getElem? (i := 9) rfl))) rfl rfl rfl kdX12_isShelf.2 ⟨Nat.le_of_ble_eq_true rfl, Nat.le_of_ble_eq_true rfl⟩) hP hS hA rfl hl.1 rfl (Nat.le_of_ble_eq_true rfl) dX12_keep_1 ⟨Nat.le_refl _, Nat.le_refl _⟩ (fun H locs hP hS => ?_)
  refine W.eq (g2 := F0 m 4 ls [.int q1]) rfl ?_
  refine lv_if_eq (tgt := 42) hx hb dX12_keep_4 (by decide) (fun c2 => ?_) (fun c2 => ?_)
  · have hf := if_t hf c2
    refine lv_iconst (v := (-1)) hx hb dX12_keep_42 (by decide) ?_
    exact g_iretW hx hb hr hlk hP hS (ret2 hf) dX12_keep_43
  · have hf := if_f hf c2
    refine lv_iload_n hx hb dX12_keep_7 rfl (lv_at hl 2 rfl) ?_
    refine lv_iconst (v := 0) hx hb dX12_keep_8 (by decide) ?_
    refine lv_iconst (v := 1) hx hb dX12_keep_9 (by decide) ?_
    obtain ⟨q3, hq3, hf⟩ := bind_s hf
    refine g_callS (As := [.int v2, .int 0, .int 1]) (rest := []) hx hb hml hown hts hK hN (m_X12_isIn l D a C ha h v2 0 1  q3 hq3) (va_cwS 3 hts (gUS (u12_1 _ (List.mem_of_getElem? (i := 5) rfl)) (u12_1 _ (List.mem_of_getElem? (i := 6) rfl)) (u12_1 _ (List.mem_of_getElem? (i := 7) rfl)) (u12_1 _ (List.mem_of_getElem? (i := 1) rfl))) rfl rfl rfl kdX12_isIn.2 ⟨Nat.le_of_ble_eq_true rfl, Nat.le_of_ble_eq_true rfl⟩) hP hS hA rfl hl.1 rfl (Nat.le_of_ble_eq_true rfl) dX12_keep_10 ⟨Nat.le_refl _, Nat.le_refl _⟩ (fun H locs hP hS => ?_)
    refine W.eq (g2 := F0 m 13 ls [.int q3]) rfl ?_
    refine lv_if_eq (tgt := 42) hx hb dX12_keep_13 (by decide) (fun c4 => ?_) (fun c4 => ?_)
    · have hf := if_t hf c4
      refine lv_iconst (v := (-1)) hx hb dX12_keep_42 (by decide) ?_
      exact g_iretW hx hb hr hlk hP hS (ret2 hf) dX12_keep_43
    · have hf := if_f hf c4
      refine lv_iload_n hx hb dX12_keep_16 rfl (lv_at hl 2 rfl) ?_
      refine lv_iconst (v := 1) hx hb dX12_keep_17 (by decide) ?_
      refine lv_icmp_ne (tgt := 44) hx hb dX12_keep_18 (by decide) (fun c5 => ?_) (fun c5 => ?_)
      · have hf := if_f hf c5
        exact J44 h hf H locs ls hP hS (lv_sub hl [0, 1, 2, 3, 4] rfl)
      · have hf := if_t hf c5
        refine lv_iload_n hx hb dX12_keep_21 rfl (lv_at hl 3 rfl) ?_
        refine lv_iconst (v := 0) hx hb dX12_keep_22 (by decide) ?_
        refine lv_bipush (v := 7) hx hb dX12_keep_23 (by decide) ?_
        obtain ⟨q6, hq6, hf⟩ := bind_s hf
        refine g_callS (As := [.int v3, .int 0, .int 7]) (rest := []) hx hb hml hown hts hK hN (m_X12_isIn l D a C ha h v3 0 7  q6 hq6) (va_cwS 3 hts (gUS (u12_1 _ (List.mem_of_getElem? (i := 5) rfl)) (u12_1 _ (List.mem_of_getElem? (i := 6) rfl)) (u12_1 _ (List.mem_of_getElem? (i := 7) rfl)) (u12_1 _ (List.mem_of_getElem? (i := 1) rfl))) rfl rfl rfl kdX12_isIn.2 ⟨Nat.le_of_ble_eq_true rfl, Nat.le_of_ble_eq_true rfl⟩) hP hS hA rfl hl.1 rfl (Nat.le_of_ble_eq_true rfl) dX12_keep_25 ⟨Nat.le_refl _, Nat.le_refl _⟩ (fun H locs hP hS => ?_)
        refine W.eq (g2 := F0 m 28 ls [.int q6]) rfl ?_
        refine lv_if_eq (tgt := 42) hx hb dX12_keep_28 (by decide) (fun c7 => ?_) (fun c7 => ?_)
        · have hf := if_t hf c7
          refine lv_iconst (v := (-1)) hx hb dX12_keep_42 (by decide) ?_
          exact g_iretW hx hb hr hlk hP hS (ret2 hf) dX12_keep_43
        · have hf := if_f hf c7
          refine lv_iload hx hb dX12_keep_31 (lv_at hl 4 rfl) ?_
          refine lv_iconst (v := 0) hx hb dX12_keep_33 (by decide) ?_
          refine lv_bipush (v := 9) hx hb dX12_keep_34 (by decide) ?_
          obtain ⟨q8, hq8, hf⟩ := bind_s hf
          refine g_callS (As := [.int v4, .int 0, .int 9]) (rest := []) hx hb hml hown hts hK hN (m_X12_isIn l D a C ha h v4 0 9  q8 hq8) (va_cwS 3 hts (gUS (u12_1 _ (List.mem_of_getElem? (i := 5) rfl)) (u12_1 _ (List.mem_of_getElem? (i := 6) rfl)) (u12_1 _ (List.mem_of_getElem? (i := 7) rfl)) (u12_1 _ (List.mem_of_getElem? (i := 1) rfl))) rfl rfl rfl kdX12_isIn.2 ⟨Nat.le_of_ble_eq_true rfl, Nat.le_of_ble_eq_true rfl⟩) hP hS hA rfl hl.1 rfl (Nat.le_of_ble_eq_true rfl) dX12_keep_36 ⟨Nat.le_refl _, Nat.le_refl _⟩ (fun H locs hP hS => ?_)
          refine W.eq (g2 := F0 m 39 ls [.int q8]) rfl ?_
          refine lv_if_ne (tgt := 44) hx hb dX12_keep_39 (by decide) (fun c9 => ?_) (fun c9 => ?_)
          · have hf := if_f hf c9
            exact J44 h hf H locs ls hP hS (lv_sub hl [0, 1, 2, 3, 4] rfl)
          · have hf := if_t hf c9
            refine lv_iconst (v := (-1)) hx hb dX12_keep_42 (by decide) ?_
            exact g_iretW hx hb hr hlk hP hS (ret2 hf) dX12_keep_43

def X12_row_B55 (v1 : Int32) (v2 : Int32) (v3 : Int32) : Nat → Int32 → HS → Option (Int32 × HS)
  | 0, _, _ => none
  | fu + 1, v4, h =>
    (if 100 ≤ v4 then
    some (0, h)
    else
    gdi ((100 * v1) + v4) 800 <|
    nm (sA h 81 (upd (aI h 81) ((100 * v1) + v4).toNatClampNeg 0)) fun h14 =>
    nm (v4 + 1) fun x16 =>
    (X12_row_B55 v1 v2 v3 fu) x16 h14)
def X12_row (h : HS) (v1 : Int32) (v2 : Int32) (v3 : Int32) : Option (Int32 × HS) :=
    (X12_isShelf v1).bind fun q1 =>
    (if q1 = 0 then
    some ((-1), h)
    else
    (X12_isIn v2 0 2).bind fun q3 =>
    (if q3 = 0 then
    some ((-1), h)
    else
    (if v3 ≤ 100 then
    (if 0 ≤ v3 then
    gdi v1 8 <|
    nm (sA h 76 (upd (aI h 76) v1.toNatClampNeg 2)) fun h7 =>
    gdi v1 8 <|
    nm (sA h7 79 (upd (aI h7 79) v1.toNatClampNeg v2)) fun h9 =>
    gdi v1 8 <|
    nm (sA h9 80 (upd (aI h9 80) v1.toNatClampNeg v3)) fun h11 =>
    X12_row_B55 v1 v2 v3 FU 0 h11
    else
    some ((-14), h))
    else
    some ((-1), h))))
def uX12_row : List Cond := .code yX12_row cX12_row 5 (some .int) :: UU
def rmX12_row : Room := { frames := 2, cells := 0, slots := 0, locals := 42 }
theorem kdX12_row : yX12_row.cls = RX12 ∧ yX12_row.cls ≠ "java/lang/invoke/MethodHandle" ∧ yX12_row.cls ≠ "java/lang/invoke/VarHandle" ∧ (parseMethodDescriptor yX12_row.desc).map (fun d => d.parameters.length) = some 3 := by decide +kernel
set_option maxHeartbeats 4000000 in
set_option maxRecDepth 100000 in
theorem m_X12_row (l : Launch) (D : va_G) (a : Nat → Nat) (C : Nat → ClassId) (ha : ginj a) (h : HS) (v1 : Int32) (v2 : Int32) (v3 : Int32)  (r : Int32) (h' : HS) (hf : X12_row h v1 v2 v3 = some (r, h')) : gM l yX12_row uX12_row rmX12_row D a C [.ref (a 66), .int v1, .int v2, .int v3] h (some (.int r)) h' := by
  refine g_start (av := [.ref (a 66), .int v1, .int v2, .int v3]) (cc := cX12_row) (maxL := 5) (rt := (some .int)) (by decide) rfl (Nat.le_of_ble_eq_true rfl) ?_
  intro p e s m below meth c hx hb hr hml hown hlk hts hP hK hN ls hl
  have hA : ∀ q, gA a q → gA a q := fun _ q => q
  have hS : va_S (gA a) s.heap s.heap [] := va_S.rf
  have hl : lv_has ls 5 [(0, .ref (a 66)), (1, .int v1), (2, .int v2), (3, .int v3)] := hl
  have J55 : ∀ (fu : Nat) (v4 : Int32) (h : HS), X12_row_B55 v1 v2 v3 fu v4 h = some (r, h') → gG p l e (headSpec uX12_row rmX12_row).room s m ([.ref (a 66), .int v1, .int v2, .int v3] : List Value).toArray below meth c (MQ below (gQ (some (.int r)) D a C h') ([.ref (a 66), .int v1, .int v2, .int v3] : List Value).toArray s 0 0 (gA a)) D a C 5 h 55 [(0, .ref (a 66)), (1, .int v1), (4, .int v4)] [] := by
    intro fu
    induction fu with
    | zero => intro v4 h hf; exact absurd hf (by simp [X12_row_B55])
    | succ fu ih =>
      intro v4 h hf H locs ls hP hS hl
      rw [X12_row_B55] at hf
      refine lv_iload hx hb dX12_row_55 (lv_at hl 2 rfl) ?_
      refine lv_bipush (v := 100) hx hb dX12_row_57 (by decide) ?_
      refine lv_icmp_ge (tgt := 81) hx hb dX12_row_59 (by decide) (fun c13 => ?_) (fun c13 => ?_)
      · have hf := if_t hf c13
        refine lv_iconst (v := 0) hx hb dX12_row_81 (by decide) ?_
        exact g_iretW hx hb hr hlk hP hS (ret2 hf) dX12_row_82
      · have hf := if_f hf c13
        refine lv_aload_n hx hb dX12_row_62 rfl (lv_at hl 0 rfl) ?_
        refine g_get (Cn := RX12) (T := TX12) (N := 21) (v := .ref (a 81)) (own := RX12) hx hb hown hts hK M_O rfl (fun _ hw => List.mem_cons_of_mem _ (u12_cls _ hw)) 19 (by decide) (List.mem_cons_of_mem _ (u12_1 _ (List.mem_of_getElem? (i := 0) rfl))) rfl rfl hP dX12_row_63 ?_
        refine lv_bipush (v := 100) hx hb dX12_row_66 (by decide) ?_
        refine lv_iload_n hx hb dX12_row_68 rfl (lv_at hl 1 rfl) ?_
        refine lv_imul hx hb dX12_row_69 ?_
        refine lv_iload hx hb dX12_row_70 (lv_at hl 2 rfl) ?_
        refine lv_iadd hx hb dX12_row_72 ?_
        refine lv_iconst (v := 0) hx hb dX12_row_73 (by decide) ?_
        obtain ⟨c15, hf⟩ := gdi_s hf
        refine g_ias hx hb hK ha hA (⟨by decide, rfl⟩ : gAI 81 800) c15 hP hS dX12_row_74 (fun H locs hP hS => ?_)
        obtain ⟨h14, eh14⟩ : ∃ x, x = (sA h 81 (upd (aI h 81) ((100 * v1) + v4).toNatClampNeg 0)) := ⟨_, rfl⟩
        rw [← eh14] at hP
        have hf := nm_s hf eh14
        obtain ⟨x16, ex16⟩ : ∃ y : Int32, y = (v4 + 1) := ⟨_, rfl⟩
        have hf := nm_s hf ex16
        refine lv_iinc (v := x16) (lv' := [(4, .int x16), (0, .ref (a 66)), (1, .int v1)]) hx hb dX12_row_75 hl (k := 2) rfl (by rw [ex16]; rfl) (by decide) rfl (fun ls hl => ?_)
        refine lv_goto (tgt := 55) hx hb dX12_row_78 (by decide) ?_
        exact ih x16 h14 hf H locs ls hP hS (lv_sub hl [1, 2, 0] rfl)
  unfold X12_row at hf
  suffices hh : ∀ (H : Heap) (locs : List Loc), va_P D vwCl (gw a C h) H → va_S (gA a) s.heap H locs → W p l e (headSpec uX12_row rmX12_row).room s m ([.ref (a 66), .int v1, .int v2, .int v3] : List Value).toArray below meth c H locs 0 0 (MQ below (gQ (some (.int r)) D a C h') ([.ref (a 66), .int v1, .int v2, .int v3] : List Value).toArray s 0 0 (gA a)) (F0 m 0 ls []) from hh _ _ hP hS
  intro H locs hP hS
  refine lv_iload_n hx hb dX12_row_0 rfl (lv_at hl 1 rfl) ?_
  obtain ⟨q1, hq1, hf⟩ := bind_s hf
  refine g_callS (As := [.int v1]) (rest := []) hx hb hml hown hts hK hN (m_X12_isShelf l D a C ha h v1  q1 hq1) (va_cwS 1 hts (gUS (u12_4 _ (List.mem_of_getElem? (i := 11) rfl)) (u12_4 _ (List.mem_of_getElem? (i := 12) rfl)) (u12_1 _ (List.mem_of_getElem? (i := 7) rfl)) (u12_4 _ (List.mem_of_getElem? (i := 9) rfl))) rfl rfl rfl kdX12_isShelf.2 ⟨Nat.le_of_ble_eq_true rfl, Nat.le_of_ble_eq_true rfl⟩) hP hS hA rfl hl.1 rfl (Nat.le_of_ble_eq_true rfl) dX12_row_1 ⟨Nat.le_refl _, Nat.le_refl _⟩ (fun H locs hP hS => ?_)
  refine W.eq (g2 := F0 m 4 ls [.int q1]) rfl ?_
  refine lv_if_eq (tgt := 22) hx hb dX12_row_4 (by decide) (fun c2 => ?_) (fun c2 => ?_)
  · have hf := if_t hf c2
    refine lv_iconst (v := (-1)) hx hb dX12_row_22 (by decide) ?_
    exact g_iretW hx hb hr hlk hP hS (ret2 hf) dX12_row_23
  · have hf := if_f hf c2
    refine lv_iload_n hx hb dX12_row_7 rfl (lv_at hl 2 rfl) ?_
    refine lv_iconst (v := 0) hx hb dX12_row_8 (by decide) ?_
    refine lv_iconst (v := 2) hx hb dX12_row_9 (by decide) ?_
    obtain ⟨q3, hq3, hf⟩ := bind_s hf
    refine g_callS (As := [.int v2, .int 0, .int 2]) (rest := []) hx hb hml hown hts hK hN (m_X12_isIn l D a C ha h v2 0 2  q3 hq3) (va_cwS 3 hts (gUS (u12_1 _ (List.mem_of_getElem? (i := 5) rfl)) (u12_1 _ (List.mem_of_getElem? (i := 6) rfl)) (u12_1 _ (List.mem_of_getElem? (i := 7) rfl)) (u12_1 _ (List.mem_of_getElem? (i := 1) rfl))) rfl rfl rfl kdX12_isIn.2 ⟨Nat.le_of_ble_eq_true rfl, Nat.le_of_ble_eq_true rfl⟩) hP hS hA rfl hl.1 rfl (Nat.le_of_ble_eq_true rfl) dX12_row_10 ⟨Nat.le_refl _, Nat.le_refl _⟩ (fun H locs hP hS => ?_)
    refine W.eq (g2 := F0 m 13 ls [.int q3]) rfl ?_
    refine lv_if_eq (tgt := 22) hx hb dX12_row_13 (by decide) (fun c4 => ?_) (fun c4 => ?_)
    · have hf := if_t hf c4
      refine lv_iconst (v := (-1)) hx hb dX12_row_22 (by decide) ?_
      exact g_iretW hx hb hr hlk hP hS (ret2 hf) dX12_row_23
    · have hf := if_f hf c4
      refine lv_iload_n hx hb dX12_row_16 rfl (lv_at hl 3 rfl) ?_
      refine lv_bipush (v := 100) hx hb dX12_row_17 (by decide) ?_
      refine lv_icmp_le (tgt := 24) hx hb dX12_row_19 (by decide) (fun c5 => ?_) (fun c5 => ?_)
      · have hf := if_t hf c5
        refine lv_iload_n hx hb dX12_row_24 rfl (lv_at hl 3 rfl) ?_
        refine lv_if_ge (tgt := 31) hx hb dX12_row_25 (by decide) (fun c6 => ?_) (fun c6 => ?_)
        · have hf := if_t hf c6
          refine lv_aload_n hx hb dX12_row_31 rfl (lv_at hl 0 rfl) ?_
          refine g_get (Cn := RX12) (T := TX12) (N := 21) (v := .ref (a 76)) (own := RX12) hx hb hown hts hK M_O rfl (fun _ hw => List.mem_cons_of_mem _ (u12_cls _ hw)) 14 (by decide) (List.mem_cons_of_mem _ (u12_0 _ (List.mem_of_getElem? (i := 15) rfl))) rfl rfl hP dX12_row_32 ?_
          refine lv_iload_n hx hb dX12_row_35 rfl (lv_at hl 1 rfl) ?_
          refine lv_iconst (v := 2) hx hb dX12_row_36 (by decide) ?_
          obtain ⟨c8, hf⟩ := gdi_s hf
          refine g_ias hx hb hK ha hA (⟨by decide, rfl⟩ : gAI 76 8) c8 hP hS dX12_row_37 (fun H locs hP hS => ?_)
          obtain ⟨h7, eh7⟩ : ∃ x, x = (sA h 76 (upd (aI h 76) v1.toNatClampNeg 2)) := ⟨_, rfl⟩
          rw [← eh7] at hP
          have hf := nm_s hf eh7
          refine lv_aload_n hx hb dX12_row_38 rfl (lv_at hl 0 rfl) ?_
          refine g_get (Cn := RX12) (T := TX12) (N := 21) (v := .ref (a 79)) (own := RX12) hx hb hown hts hK M_O rfl (fun _ hw => List.mem_cons_of_mem _ (u12_cls _ hw)) 17 (by decide) (List.mem_cons_of_mem _ (u12_0 _ (List.mem_of_getElem? (i := 18) rfl))) rfl rfl hP dX12_row_39 ?_
          refine lv_iload_n hx hb dX12_row_42 rfl (lv_at hl 1 rfl) ?_
          refine lv_iload_n hx hb dX12_row_43 rfl (lv_at hl 2 rfl) ?_
          obtain ⟨c10, hf⟩ := gdi_s hf
          refine g_ias hx hb hK ha hA (⟨by decide, rfl⟩ : gAI 79 8) c10 hP hS dX12_row_44 (fun H locs hP hS => ?_)
          obtain ⟨h9, eh9⟩ : ∃ x, x = (sA h7 79 (upd (aI h7 79) v1.toNatClampNeg v2)) := ⟨_, rfl⟩
          rw [← eh9] at hP
          have hf := nm_s hf eh9
          refine lv_aload_n hx hb dX12_row_45 rfl (lv_at hl 0 rfl) ?_
          refine g_get (Cn := RX12) (T := TX12) (N := 21) (v := .ref (a 80)) (own := RX12) hx hb hown hts hK M_O rfl (fun _ hw => List.mem_cons_of_mem _ (u12_cls _ hw)) 18 (by decide) (List.mem_cons_of_mem _ (u12_0 _ (List.mem_of_getElem? (i := 19) rfl))) rfl rfl hP dX12_row_46 ?_
          refine lv_iload_n hx hb dX12_row_49 rfl (lv_at hl 1 rfl) ?_
          refine lv_iload_n hx hb dX12_row_50 rfl (lv_at hl 3 rfl) ?_
          obtain ⟨c12, hf⟩ := gdi_s hf
          refine g_ias hx hb hK ha hA (⟨by decide, rfl⟩ : gAI 80 8) c12 hP hS dX12_row_51 (fun H locs hP hS => ?_)
          obtain ⟨h11, eh11⟩ : ∃ x, x = (sA h9 80 (upd (aI h9 80) v1.toNatClampNeg v3)) := ⟨_, rfl⟩
          rw [← eh11] at hP
          have hf := nm_s hf eh11
          refine lv_iconst (v := 0) hx hb dX12_row_52 (by decide) ?_
          refine lv_istore (lv' := [(4, .int 0), (0, .ref (a 66)), (1, .int v1), (2, .int v2), (3, .int v3)]) hx hb dX12_row_53 hl (by decide) rfl (fun ls hl => ?_)
          exact J55 FU 0 h11 hf H locs ls hP hS (lv_sub hl [1, 2, 0] rfl)
        · have hf := if_f hf c6
          refine lv_bipush (v := (-14)) hx hb dX12_row_28 (by decide) ?_
          exact g_iretW hx hb hr hlk hP hS (ret2 hf) dX12_row_30
      · have hf := if_f hf c5
        refine lv_iconst (v := (-1)) hx hb dX12_row_22 (by decide) ?_
        exact g_iretW hx hb hr hlk hP hS (ret2 hf) dX12_row_23

def X12_put_B75 (v1 : Int32) (v2 : Int32) (v3 : Int32) (s0 : Int32) (s1 : Int32) (h : HS) : Option (Int32 × HS) :=
    gdi s1 800 <|
    nm (sA h 81 (upd (aI h 81) s1.toNatClampNeg s0)) fun h10 =>
    some (0, h10)
def X12_put (h : HS) (v1 : Int32) (v2 : Int32) (v3 : Int32) : Option (Int32 × HS) :=
    (X12_wrongRow h v1 (-1)).bind fun q1 =>
    (if q1 = 0 then
    gdi v1 8 <|
    (X12_isIn v2 0 ((aI h 80 v1.toNatClampNeg) - 1)).bind fun q4 =>
    (if q4 = 0 then
    some ((-13), h)
    else
    gdi v1 8 <|
    (if (aI h 79 v1.toNatClampNeg) = 0 then
    X12_put_B75 v1 v2 v3 v3.toInt8.toInt32 ((100 * v1) + v2) h
    else
    gdi v1 8 <|
    (if (aI h 79 v1.toNatClampNeg) = 1 then
    X12_put_B75 v1 v2 v3 v3.toInt16.toInt32 ((100 * v1) + v2) h
    else
    X12_put_B75 v1 v2 v3 v3 ((100 * v1) + v2) h)))
    else
    some (q1, h))
def uX12_put : List Cond := .code yX12_put cX12_put 5 (some .int) :: UU
def rmX12_put : Room := { frames := 3, cells := 0, slots := 0, locals := 64 }
theorem kdX12_put : yX12_put.cls = RX12 ∧ yX12_put.cls ≠ "java/lang/invoke/MethodHandle" ∧ yX12_put.cls ≠ "java/lang/invoke/VarHandle" ∧ (parseMethodDescriptor yX12_put.desc).map (fun d => d.parameters.length) = some 3 := by decide +kernel
set_option maxHeartbeats 4000000 in
set_option maxRecDepth 100000 in
theorem m_X12_put (l : Launch) (D : va_G) (a : Nat → Nat) (C : Nat → ClassId) (ha : ginj a) (h : HS) (v1 : Int32) (v2 : Int32) (v3 : Int32)  (r : Int32) (h' : HS) (hf : X12_put h v1 v2 v3 = some (r, h')) : gM l yX12_put uX12_put rmX12_put D a C [.ref (a 66), .int v1, .int v2, .int v3] h (some (.int r)) h' := by
  refine g_start (av := [.ref (a 66), .int v1, .int v2, .int v3]) (cc := cX12_put) (maxL := 5) (rt := (some .int)) (by decide) rfl (Nat.le_of_ble_eq_true rfl) ?_
  intro p e s m below meth c hx hb hr hml hown hlk hts hP hK hN ls hl
  have hA : ∀ q, gA a q → gA a q := fun _ q => q
  have hS : va_S (gA a) s.heap s.heap [] := va_S.rf
  have hl : lv_has ls 5 [(0, .ref (a 66)), (1, .int v1), (2, .int v2), (3, .int v3)] := hl
  have J75 : ∀ (s0 : Int32) (s1 : Int32) (h : HS) (_ : X12_put_B75 v1 v2 v3 s0 s1 h = some (r, h')), gG p l e (headSpec uX12_put rmX12_put).room s m ([.ref (a 66), .int v1, .int v2, .int v3] : List Value).toArray below meth c (MQ below (gQ (some (.int r)) D a C h') ([.ref (a 66), .int v1, .int v2, .int v3] : List Value).toArray s 0 0 (gA a)) D a C 5 h 75 [] [.int s0, .int s1, .ref (a 81)] := by
    intro s0 s1 h hf H locs ls hP hS hl
    unfold X12_put_B75 at hf
    obtain ⟨c11, hf⟩ := gdi_s hf
    refine g_ias hx hb hK ha hA (⟨by decide, rfl⟩ : gAI 81 800) c11 hP hS dX12_put_75 (fun H locs hP hS => ?_)
    obtain ⟨h10, eh10⟩ : ∃ x, x = (sA h 81 (upd (aI h 81) s1.toNatClampNeg s0)) := ⟨_, rfl⟩
    rw [← eh10] at hP
    have hf := nm_s hf eh10
    refine lv_iconst (v := 0) hx hb dX12_put_76 (by decide) ?_
    exact g_iretW hx hb hr hlk hP hS (ret2 hf) dX12_put_77
  unfold X12_put at hf
  suffices hh : ∀ (H : Heap) (locs : List Loc), va_P D vwCl (gw a C h) H → va_S (gA a) s.heap H locs → W p l e (headSpec uX12_put rmX12_put).room s m ([.ref (a 66), .int v1, .int v2, .int v3] : List Value).toArray below meth c H locs 0 0 (MQ below (gQ (some (.int r)) D a C h') ([.ref (a 66), .int v1, .int v2, .int v3] : List Value).toArray s 0 0 (gA a)) (F0 m 0 ls []) from hh _ _ hP hS
  intro H locs hP hS
  refine lv_aload_n hx hb dX12_put_0 rfl (lv_at hl 0 rfl) ?_
  refine lv_iload_n hx hb dX12_put_1 rfl (lv_at hl 1 rfl) ?_
  refine lv_iconst (v := (-1)) hx hb dX12_put_2 (by decide) ?_
  obtain ⟨q1, hq1, hf⟩ := bind_s hf
  refine g_callV (As := [.int v1, .int (-1)]) (rest := []) hx hb hml hown hts hK hN (m_X12_wrongRow l D a C ha h v1 (-1)  q1 hq1) (cwV 2 hts (gUV (u12_4 _ (List.mem_of_getElem? (i := 13) rfl)) (u12_4 _ (List.mem_of_getElem? (i := 14) rfl)) (u12_4 _ (List.mem_of_getElem? (i := 15) rfl)) (u12_1 _ (List.mem_of_getElem? (i := 7) rfl)) (u12_4 _ (List.mem_of_getElem? (i := 10) rfl))) rfl rfl rfl kdX12_wrongRow ⟨Nat.le_of_ble_eq_true rfl, Nat.le_of_ble_eq_true rfl⟩) M_O rfl rfl hP hS hA rfl hl.1 rfl (Nat.le_of_ble_eq_true rfl) dX12_put_3 ⟨Nat.le_refl _, Nat.le_refl _⟩ (fun H locs hP hS => ?_)
  refine W.eq (g2 := F0 m 6 ls [.int q1]) rfl ?_
  refine lv_istore (lv' := [(4, .int q1), (0, .ref (a 66)), (1, .int v1), (2, .int v2), (3, .int v3)]) hx hb dX12_put_6 hl (by decide) rfl (fun ls hl => ?_)
  refine lv_iload hx hb dX12_put_8 (lv_at hl 0 rfl) ?_
  refine lv_if_eq (tgt := 16) hx hb dX12_put_10 (by decide) (fun c2 => ?_) (fun c2 => ?_)
  · have hf := if_t hf c2
    refine lv_iload_n hx hb dX12_put_16 rfl (lv_at hl 3 rfl) ?_
    refine lv_iconst (v := 0) hx hb dX12_put_17 (by decide) ?_
    refine lv_aload_n hx hb dX12_put_18 rfl (lv_at hl 1 rfl) ?_
    refine g_get (Cn := RX12) (T := TX12) (N := 21) (v := .ref (a 80)) (own := RX12) hx hb hown hts hK M_O rfl (fun _ hw => List.mem_cons_of_mem _ (u12_cls _ hw)) 18 (by decide) (List.mem_cons_of_mem _ (u12_0 _ (List.mem_of_getElem? (i := 19) rfl))) rfl rfl hP dX12_put_19 ?_
    refine lv_iload_n hx hb dX12_put_22 rfl (lv_at hl 2 rfl) ?_
    obtain ⟨c3, hf⟩ := gdi_s hf
    refine g_ial hx hb hK (⟨by decide, rfl⟩ : gAI 80 8) c3 hP dX12_put_23 ?_
    refine lv_iconst (v := 1) hx hb dX12_put_24 (by decide) ?_
    refine lv_isub hx hb dX12_put_25 ?_
    obtain ⟨q4, hq4, hf⟩ := bind_s hf
    refine g_callS (As := [.int v2, .int 0, .int ((aI h 80 v1.toNatClampNeg) - 1)]) (rest := []) hx hb hml hown hts hK hN (m_X12_isIn l D a C ha h v2 0 ((aI h 80 v1.toNatClampNeg) - 1)  q4 hq4) (va_cwS 3 hts (gUS (u12_1 _ (List.mem_of_getElem? (i := 5) rfl)) (u12_1 _ (List.mem_of_getElem? (i := 6) rfl)) (u12_1 _ (List.mem_of_getElem? (i := 7) rfl)) (u12_1 _ (List.mem_of_getElem? (i := 1) rfl))) rfl rfl rfl kdX12_isIn.2 ⟨Nat.le_of_ble_eq_true rfl, Nat.le_of_ble_eq_true rfl⟩) hP hS hA rfl hl.1 rfl (Nat.le_of_ble_eq_true rfl) dX12_put_26 ⟨Nat.le_refl _, Nat.le_refl _⟩ (fun H locs hP hS => ?_)
    refine W.eq (g2 := F0 m 29 ls [.int q4]) rfl ?_
    refine lv_if_ne (tgt := 35) hx hb dX12_put_29 (by decide) (fun c5 => ?_) (fun c5 => ?_)
    · have hf := if_f hf c5
      refine lv_aload_n hx hb dX12_put_35 rfl (lv_at hl 1 rfl) ?_
      refine g_get (Cn := RX12) (T := TX12) (N := 21) (v := .ref (a 81)) (own := RX12) hx hb hown hts hK M_O rfl (fun _ hw => List.mem_cons_of_mem _ (u12_cls _ hw)) 19 (by decide) (List.mem_cons_of_mem _ (u12_1 _ (List.mem_of_getElem? (i := 0) rfl))) rfl rfl hP dX12_put_36 ?_
      refine lv_bipush (v := 100) hx hb dX12_put_39 (by decide) ?_
      refine lv_iload_n hx hb dX12_put_41 rfl (lv_at hl 2 rfl) ?_
      refine lv_imul hx hb dX12_put_42 ?_
      refine lv_iload_n hx hb dX12_put_43 rfl (lv_at hl 3 rfl) ?_
      refine lv_iadd hx hb dX12_put_44 ?_
      refine lv_aload_n hx hb dX12_put_45 rfl (lv_at hl 1 rfl) ?_
      refine g_get (Cn := RX12) (T := TX12) (N := 21) (v := .ref (a 79)) (own := RX12) hx hb hown hts hK M_O rfl (fun _ hw => List.mem_cons_of_mem _ (u12_cls _ hw)) 17 (by decide) (List.mem_cons_of_mem _ (u12_0 _ (List.mem_of_getElem? (i := 18) rfl))) rfl rfl hP dX12_put_46 ?_
      refine lv_iload_n hx hb dX12_put_49 rfl (lv_at hl 2 rfl) ?_
      obtain ⟨c6, hf⟩ := gdi_s hf
      refine g_ial hx hb hK (⟨by decide, rfl⟩ : gAI 79 8) c6 hP dX12_put_50 ?_
      refine lv_if_ne (tgt := 59) hx hb dX12_put_51 (by decide) (fun c7 => ?_) (fun c7 => ?_)
      · have hf := if_f hf c7
        refine lv_aload_n hx hb dX12_put_59 rfl (lv_at hl 1 rfl) ?_
        refine g_get (Cn := RX12) (T := TX12) (N := 21) (v := .ref (a 79)) (own := RX12) hx hb hown hts hK M_O rfl (fun _ hw => List.mem_cons_of_mem _ (u12_cls _ hw)) 17 (by decide) (List.mem_cons_of_mem _ (u12_0 _ (List.mem_of_getElem? (i := 18) rfl))) rfl rfl hP dX12_put_60 ?_
        refine lv_iload_n hx hb dX12_put_63 rfl (lv_at hl 2 rfl) ?_
        obtain ⟨c8, hf⟩ := gdi_s hf
        refine g_ial hx hb hK (⟨by decide, rfl⟩ : gAI 79 8) c8 hP dX12_put_64 ?_
        refine lv_iconst (v := 1) hx hb dX12_put_65 (by decide) ?_
        refine lv_icmp_ne (tgt := 74) hx hb dX12_put_66 (by decide) (fun c9 => ?_) (fun c9 => ?_)
        · have hf := if_f hf c9
          refine lv_iload_n hx hb dX12_put_74 rfl (lv_at hl 4 rfl) ?_
          exact J75 v3 ((100 * v1) + v2) h hf H locs ls hP hS (lv_sub hl [] rfl)
        · have hf := if_t hf c9
          refine lv_iload_n hx hb dX12_put_69 rfl (lv_at hl 4 rfl) ?_
          refine lv_i2s hx hb dX12_put_70 rfl ?_
          refine lv_goto (tgt := 75) hx hb dX12_put_71 (by decide) ?_
          exact J75 v3.toInt16.toInt32 ((100 * v1) + v2) h hf H locs ls hP hS (lv_sub hl [] rfl)
      · have hf := if_t hf c7
        refine lv_iload_n hx hb dX12_put_54 rfl (lv_at hl 4 rfl) ?_
        refine lv_i2b hx hb dX12_put_55 rfl ?_
        refine lv_goto (tgt := 75) hx hb dX12_put_56 (by decide) ?_
        exact J75 v3.toInt8.toInt32 ((100 * v1) + v2) h hf H locs ls hP hS (lv_sub hl [] rfl)
    · have hf := if_t hf c5
      refine lv_bipush (v := (-13)) hx hb dX12_put_32 (by decide) ?_
      exact g_iretW hx hb hr hlk hP hS (ret2 hf) dX12_put_34
  · have hf := if_f hf c2
    refine lv_iload hx hb dX12_put_13 (lv_at hl 0 rfl) ?_
    exact g_iretW hx hb hr hlk hP hS (ret2 hf) dX12_put_15

def X12_element_B43 (v1 : Int32) (v2 : Int32) (s0 : Int32) (h : HS) : Option (Int64 × HS) :=
    nm (sF h 66 20 s0) fun h8 =>
    (if (fI h8 66 20) = 0 then
    gdi ((100 * v1) + v2) 800 <|
    some (((aI h8 81 ((100 * v1) + v2).toNatClampNeg).toInt64), h8)
    else
    some (0, h8))
def X12_element_B38 (v1 : Int32) (v2 : Int32) (h : HS) : Option (Int64 × HS) :=
    X12_element_B43 v1 v2 2 h
def X12_element (h : HS) (v1 : Int32) (v2 : Int32) : Option (Int64 × HS) :=
    (X12_isShelf v1).bind fun q1 =>
    (if q1 = 0 then
    X12_element_B43 v1 v2 1 h
    else
    gdi v1 8 <|
    (if (aI h 76 v1.toNatClampNeg) = 2 then
    gdi v1 8 <|
    (X12_isIn v2 0 ((aI h 80 v1.toNatClampNeg) - 1)).bind fun q6 =>
    (if q6 = 0 then
    X12_element_B38 v1 v2 h
    else
    X12_element_B43 v1 v2 0 h)
    else
    X12_element_B38 v1 v2 h))
def uX12_element : List Cond := .code yX12_element cX12_element 3 (some .long) :: UU
def rmX12_element : Room := { frames := 2, cells := 0, slots := 0, locals := 42 }
theorem kdX12_element : yX12_element.cls = RX12 ∧ yX12_element.cls ≠ "java/lang/invoke/MethodHandle" ∧ yX12_element.cls ≠ "java/lang/invoke/VarHandle" ∧ (parseMethodDescriptor yX12_element.desc).map (fun d => d.parameters.length) = some 2 := by decide +kernel
set_option maxHeartbeats 4000000 in
set_option maxRecDepth 100000 in
theorem m_X12_element (l : Launch) (D : va_G) (a : Nat → Nat) (C : Nat → ClassId) (ha : ginj a) (h : HS) (v1 : Int32) (v2 : Int32)  (r : Int64) (h' : HS) (hf : X12_element h v1 v2 = some (r, h')) : gM l yX12_element uX12_element rmX12_element D a C [.ref (a 66), .int v1, .int v2] h (some (.long r)) h' := by
  refine g_start (av := [.ref (a 66), .int v1, .int v2]) (cc := cX12_element) (maxL := 3) (rt := (some .long)) (by decide) rfl (Nat.le_of_ble_eq_true rfl) ?_
  intro p e s m below meth c hx hb hr hml hown hlk hts hP hK hN ls hl
  have hA : ∀ q, gA a q → gA a q := fun _ q => q
  have hS : va_S (gA a) s.heap s.heap [] := va_S.rf
  have hl : lv_has ls 3 [(0, .ref (a 66)), (1, .int v1), (2, .int v2)] := hl
  have J43 : ∀ (s0 : Int32) (h : HS) (_ : X12_element_B43 v1 v2 s0 h = some (r, h')), gG p l e (headSpec uX12_element rmX12_element).room s m ([.ref (a 66), .int v1, .int v2] : List Value).toArray below meth c (MQ below (gQ (some (.long r)) D a C h') ([.ref (a 66), .int v1, .int v2] : List Value).toArray s 0 0 (gA a)) D a C 3 h 43 [(0, .ref (a 66)), (1, .int v1), (2, .int v2)] [.int s0, .ref (a 66)] := by
    intro s0 h hf H locs ls hP hS hl
    unfold X12_element_B43 at hf
    refine g_put (Cn := RX12) (T := TX12) (N := 21) (ty0 := tyX12) (own := RX12) hx hb hown hts hK ha hA M_O rfl (fun _ hw => List.mem_cons_of_mem _ (u12_cls _ hw)) tyX12_ok nmX12 20 (by decide) (List.mem_cons_of_mem _ (u12_11 _ (List.mem_of_getElem? (i := 19) rfl))) rfl rfl rfl rfl rfl hP hS dX12_element_43 (fun H locs hP hS => ?_)
    obtain ⟨h8, eh8⟩ : ∃ x, x = (sF h 66 20 s0) := ⟨_, rfl⟩
    rw [← eh8] at hP
    have hf := nm_s hf eh8
    refine lv_aload_n hx hb dX12_element_46 rfl (lv_at hl 0 rfl) ?_
    refine g_get (Cn := RX12) (T := TX12) (N := 21) (v := .int (fI h8 66 20)) (own := RX12) hx hb hown hts hK M_O rfl (fun _ hw => List.mem_cons_of_mem _ (u12_cls _ hw)) 20 (by decide) (List.mem_cons_of_mem _ (u12_11 _ (List.mem_of_getElem? (i := 19) rfl))) rfl rfl hP dX12_element_47 ?_
    refine lv_if_ne (tgt := 68) hx hb dX12_element_50 (by decide) (fun c9 => ?_) (fun c9 => ?_)
    · have hf := if_f hf c9
      refine lv_lconst (v := 0) hx hb dX12_element_68 (by decide) ?_
      exact g_lretW hx hb hr hlk hP hS (ret2 hf) dX12_element_69
    · have hf := if_t hf c9
      refine lv_aload_n hx hb dX12_element_53 rfl (lv_at hl 0 rfl) ?_
      refine g_get (Cn := RX12) (T := TX12) (N := 21) (v := .ref (a 81)) (own := RX12) hx hb hown hts hK M_O rfl (fun _ hw => List.mem_cons_of_mem _ (u12_cls _ hw)) 19 (by decide) (List.mem_cons_of_mem _ (u12_1 _ (List.mem_of_getElem? (i := 0) rfl))) rfl rfl hP dX12_element_54 ?_
      refine lv_bipush (v := 100) hx hb dX12_element_57 (by decide) ?_
      refine lv_iload_n hx hb dX12_element_59 rfl (lv_at hl 1 rfl) ?_
      refine lv_imul hx hb dX12_element_60 ?_
      refine lv_iload_n hx hb dX12_element_61 rfl (lv_at hl 2 rfl) ?_
      refine lv_iadd hx hb dX12_element_62 ?_
      obtain ⟨c10, hf⟩ := gdi_s hf
      refine g_ial hx hb hK (⟨by decide, rfl⟩ : gAI 81 800) c10 hP dX12_element_63 ?_
      refine lv_i2l hx hb dX12_element_64 rfl ?_
      refine lv_goto (tgt := 69) hx hb dX12_element_65 (by decide) ?_
      exact g_lretW hx hb hr hlk hP hS (ret2 hf) dX12_element_69
  have J38 : ∀ (h : HS) (_ : X12_element_B38 v1 v2 h = some (r, h')), gG p l e (headSpec uX12_element rmX12_element).room s m ([.ref (a 66), .int v1, .int v2] : List Value).toArray below meth c (MQ below (gQ (some (.long r)) D a C h') ([.ref (a 66), .int v1, .int v2] : List Value).toArray s 0 0 (gA a)) D a C 3 h 38 [(0, .ref (a 66)), (1, .int v1), (2, .int v2)] [.ref (a 66)] := by
    intro h hf H locs ls hP hS hl
    unfold X12_element_B38 at hf
    refine lv_iconst (v := 2) hx hb dX12_element_38 (by decide) ?_
    refine lv_goto (tgt := 43) hx hb dX12_element_39 (by decide) ?_
    exact J43 2 h hf H locs ls hP hS (lv_sub hl [0, 1, 2] rfl)
  unfold X12_element at hf
  suffices hh : ∀ (H : Heap) (locs : List Loc), va_P D vwCl (gw a C h) H → va_S (gA a) s.heap H locs → W p l e (headSpec uX12_element rmX12_element).room s m ([.ref (a 66), .int v1, .int v2] : List Value).toArray below meth c H locs 0 0 (MQ below (gQ (some (.long r)) D a C h') ([.ref (a 66), .int v1, .int v2] : List Value).toArray s 0 0 (gA a)) (F0 m 0 ls []) from hh _ _ hP hS
  intro H locs hP hS
  refine lv_aload_n hx hb dX12_element_0 rfl (lv_at hl 0 rfl) ?_
  refine lv_iload_n hx hb dX12_element_1 rfl (lv_at hl 1 rfl) ?_
  obtain ⟨q1, hq1, hf⟩ := bind_s hf
  refine g_callS (As := [.int v1]) (rest := [.ref (a 66)]) hx hb hml hown hts hK hN (m_X12_isShelf l D a C ha h v1  q1 hq1) (va_cwS 1 hts (gUS (u12_4 _ (List.mem_of_getElem? (i := 11) rfl)) (u12_4 _ (List.mem_of_getElem? (i := 12) rfl)) (u12_1 _ (List.mem_of_getElem? (i := 7) rfl)) (u12_4 _ (List.mem_of_getElem? (i := 9) rfl))) rfl rfl rfl kdX12_isShelf.2 ⟨Nat.le_of_ble_eq_true rfl, Nat.le_of_ble_eq_true rfl⟩) hP hS hA rfl hl.1 rfl (Nat.le_of_ble_eq_true rfl) dX12_element_2 ⟨Nat.le_refl _, Nat.le_refl _⟩ (fun H locs hP hS => ?_)
  refine W.eq (g2 := F0 m 5 ls [.int q1, .ref (a 66)]) rfl ?_
  refine lv_if_ne (tgt := 12) hx hb dX12_element_5 (by decide) (fun c2 => ?_) (fun c2 => ?_)
  · have hf := if_f hf c2
    refine lv_aload_n hx hb dX12_element_12 rfl (lv_at hl 0 rfl) ?_
    refine g_get (Cn := RX12) (T := TX12) (N := 21) (v := .ref (a 76)) (own := RX12) hx hb hown hts hK M_O rfl (fun _ hw => List.mem_cons_of_mem _ (u12_cls _ hw)) 14 (by decide) (List.mem_cons_of_mem _ (u12_0 _ (List.mem_of_getElem? (i := 15) rfl))) rfl rfl hP dX12_element_13 ?_
    refine lv_iload_n hx hb dX12_element_16 rfl (lv_at hl 1 rfl) ?_
    obtain ⟨c3, hf⟩ := gdi_s hf
    refine g_ial hx hb hK (⟨by decide, rfl⟩ : gAI 76 8) c3 hP dX12_element_17 ?_
    refine lv_iconst (v := 2) hx hb dX12_element_18 (by decide) ?_
    refine lv_icmp_ne (tgt := 38) hx hb dX12_element_19 (by decide) (fun c4 => ?_) (fun c4 => ?_)
    · have hf := if_f hf c4
      exact J38 h hf H locs ls hP hS (lv_sub hl [0, 1, 2] rfl)
    · have hf := if_t hf c4
      refine lv_iload_n hx hb dX12_element_22 rfl (lv_at hl 2 rfl) ?_
      refine lv_iconst (v := 0) hx hb dX12_element_23 (by decide) ?_
      refine lv_aload_n hx hb dX12_element_24 rfl (lv_at hl 0 rfl) ?_
      refine g_get (Cn := RX12) (T := TX12) (N := 21) (v := .ref (a 80)) (own := RX12) hx hb hown hts hK M_O rfl (fun _ hw => List.mem_cons_of_mem _ (u12_cls _ hw)) 18 (by decide) (List.mem_cons_of_mem _ (u12_0 _ (List.mem_of_getElem? (i := 19) rfl))) rfl rfl hP dX12_element_25 ?_
      refine lv_iload_n hx hb dX12_element_28 rfl (lv_at hl 1 rfl) ?_
      obtain ⟨c5, hf⟩ := gdi_s hf
      refine g_ial hx hb hK (⟨by decide, rfl⟩ : gAI 80 8) c5 hP dX12_element_29 ?_
      refine lv_iconst (v := 1) hx hb dX12_element_30 (by decide) ?_
      refine lv_isub hx hb dX12_element_31 ?_
      obtain ⟨q6, hq6, hf⟩ := bind_s hf
      refine g_callS (As := [.int v2, .int 0, .int ((aI h 80 v1.toNatClampNeg) - 1)]) (rest := [.ref (a 66)]) hx hb hml hown hts hK hN (m_X12_isIn l D a C ha h v2 0 ((aI h 80 v1.toNatClampNeg) - 1)  q6 hq6) (va_cwS 3 hts (gUS (u12_1 _ (List.mem_of_getElem? (i := 5) rfl)) (u12_1 _ (List.mem_of_getElem? (i := 6) rfl)) (u12_1 _ (List.mem_of_getElem? (i := 7) rfl)) (u12_1 _ (List.mem_of_getElem? (i := 1) rfl))) rfl rfl rfl kdX12_isIn.2 ⟨Nat.le_of_ble_eq_true rfl, Nat.le_of_ble_eq_true rfl⟩) hP hS hA rfl hl.1 rfl (Nat.le_of_ble_eq_true rfl) dX12_element_32 ⟨Nat.le_refl _, Nat.le_refl _⟩ (fun H locs hP hS => ?_)
      refine W.eq (g2 := F0 m 35 ls [.int q6, .ref (a 66)]) rfl ?_
      refine lv_if_ne (tgt := 42) hx hb dX12_element_35 (by decide) (fun c7 => ?_) (fun c7 => ?_)
      · have hf := if_f hf c7
        refine lv_iconst (v := 0) hx hb dX12_element_42 (by decide) ?_
        exact J43 0 h hf H locs ls hP hS (lv_sub hl [0, 1, 2] rfl)
      · have hf := if_t hf c7
        exact J38 h hf H locs ls hP hS (lv_sub hl [0, 1, 2] rfl)
  · have hf := if_t hf c2
    refine lv_iconst (v := 1) hx hb dX12_element_8 (by decide) ?_
    refine lv_goto (tgt := 43) hx hb dX12_element_9 (by decide) ?_
    exact J43 1 h hf H locs ls hP hS (lv_sub hl [0, 1, 2] rfl)

def X12_copy_B147 (v1 : Int32) (v2 : Int32) (v3 : Int32) (v4 : Int32) (v5 : Int32) (k122 : Int32 → HS → Option (Int32 × HS)) (v6 : Int32) (s0 : Int32) (h : HS) : Option (Int32 × HS) :=
    gdi (((100 * v1) + v2) + s0) 800 <|
    gdi (((100 * v3) + v4) + s0) 800 <|
    nm (sA h 81 (upd (aI h 81) (((100 * v3) + v4) + s0).toNatClampNeg (aI h 81 (((100 * v1) + v2) + s0).toNatClampNeg))) fun h26 =>
    nm (v6 + 1) fun x28 =>
    k122 x28 h26
def X12_copy_B122 (v1 : Int32) (v2 : Int32) (v3 : Int32) (v4 : Int32) (v5 : Int32) : Nat → Int32 → HS → Option (Int32 × HS)
  | 0, _, _ => none
  | fu + 1, v6, h =>
    (if v5 ≤ v6 then
    some (v5, h)
    else
    (if v2 ≤ v4 then
    X12_copy_B147 v1 v2 v3 v4 v5 (X12_copy_B122 v1 v2 v3 v4 v5 fu) v6 ((v5 - 1) - v6) h
    else
    X12_copy_B147 v1 v2 v3 v4 v5 (X12_copy_B122 v1 v2 v3 v4 v5 fu) v6 v6 h))
def X12_copy (h : HS) (v1 : Int32) (v2 : Int32) (v3 : Int32) (v4 : Int32) (v5 : Int32) : Option (Int32 × HS) :=
    (X12_isShelf v1).bind fun q1 =>
    (if q1 = 0 then
    some ((-1), h)
    else
    (X12_isShelf v3).bind fun q3 =>
    (if q3 = 0 then
    some ((-1), h)
    else
    gdi v1 8 <|
    (if (aI h 76 v1.toNatClampNeg) = 0 then
    some ((-11), h)
    else
    gdi v3 8 <|
    (if (aI h 76 v3.toNatClampNeg) = 0 then
    some ((-11), h)
    else
    gdi v1 8 <|
    (if (aI h 76 v1.toNatClampNeg) = 2 then
    gdi v3 8 <|
    (if (aI h 76 v3.toNatClampNeg) = 2 then
    gdi v1 8 <|
    gdi v3 8 <|
    (if (aI h 79 v1.toNatClampNeg) = (aI h 79 v3.toNatClampNeg) then
    (if v5 < 0 then
    some ((-13), h)
    else
    (if v2 < 0 then
    some ((-13), h)
    else
    (if v4 < 0 then
    some ((-13), h)
    else
    gdi v1 8 <|
    (if ((aI h 80 v1.toNatClampNeg) - v2) < v5 then
    some ((-13), h)
    else
    gdi v3 8 <|
    (if v5 ≤ ((aI h 80 v3.toNatClampNeg) - v4) then
    X12_copy_B122 v1 v2 v3 v4 v5 FU 0 h
    else
    some ((-13), h))))))
    else
    some ((-12), h))
    else
    some ((-12), h))
    else
    some ((-12), h))))))
def uX12_copy : List Cond := .code yX12_copy cX12_copy 8 (some .int) :: UU
def rmX12_copy : Room := { frames := 2, cells := 0, slots := 0, locals := 42 }
theorem kdX12_copy : yX12_copy.cls = RX12 ∧ yX12_copy.cls ≠ "java/lang/invoke/MethodHandle" ∧ yX12_copy.cls ≠ "java/lang/invoke/VarHandle" ∧ (parseMethodDescriptor yX12_copy.desc).map (fun d => d.parameters.length) = some 5 := by decide +kernel
set_option maxHeartbeats 4000000 in
set_option maxRecDepth 100000 in
theorem m_X12_copy (l : Launch) (D : va_G) (a : Nat → Nat) (C : Nat → ClassId) (ha : ginj a) (h : HS) (v1 : Int32) (v2 : Int32) (v3 : Int32) (v4 : Int32) (v5 : Int32)  (r : Int32) (h' : HS) (hf : X12_copy h v1 v2 v3 v4 v5 = some (r, h')) : gM l yX12_copy uX12_copy rmX12_copy D a C [.ref (a 66), .int v1, .int v2, .int v3, .int v4, .int v5] h (some (.int r)) h' := by
  refine g_start (av := [.ref (a 66), .int v1, .int v2, .int v3, .int v4, .int v5]) (cc := cX12_copy) (maxL := 8) (rt := (some .int)) (by decide) rfl (Nat.le_of_ble_eq_true rfl) ?_
  intro p e s m below meth c hx hb hr hml hown hlk hts hP hK hN ls hl
  have hA : ∀ q, gA a q → gA a q := fun _ q => q
  have hS : va_S (gA a) s.heap s.heap [] := va_S.rf
  have hl : lv_has ls 8 [(0, .ref (a 66)), (1, .int v1), (2, .int v2), (3, .int v3), (4, .int v4), (5, .int v5)] := hl
  have J147 : ∀ (k122 : Int32 → HS → Option (Int32 × HS)) (hk122 : ∀ (v6 : Int32) (h : HS), k122 v6 h = some (r, h') → gG p l e (headSpec uX12_copy rmX12_copy).room s m ([.ref (a 66), .int v1, .int v2, .int v3, .int v4, .int v5] : List Value).toArray below meth c (MQ below (gQ (some (.int r)) D a C h') ([.ref (a 66), .int v1, .int v2, .int v3, .int v4, .int v5] : List Value).toArray s 0 0 (gA a)) D a C 8 h 122 [(0, .ref (a 66)), (1, .int v1), (2, .int v2), (3, .int v3), (4, .int v4), (5, .int v5), (6, .int v6)] []) (v6 : Int32) (s0 : Int32) (h : HS) (_ : X12_copy_B147 v1 v2 v3 v4 v5 k122 v6 s0 h = some (r, h')), gG p l e (headSpec uX12_copy rmX12_copy).room s m ([.ref (a 66), .int v1, .int v2, .int v3, .int v4, .int v5] : List Value).toArray below meth c (MQ below (gQ (some (.int r)) D a C h') ([.ref (a 66), .int v1, .int v2, .int v3, .int v4, .int v5] : List Value).toArray s 0 0 (gA a)) D a C 8 h 147 [(0, .ref (a 66)), (1, .int v1), (2, .int v2), (3, .int v3), (4, .int v4), (5, .int v5), (6, .int v6)] [.int s0] := by
    intro k122 hk122 v6 s0 h hf H locs ls hP hS hl
    unfold X12_copy_B147 at hf
    refine lv_istore (lv' := [(7, .int s0), (0, .ref (a 66)), (1, .int v1), (2, .int v2), (3, .int v3), (4, .int v4), (5, .int v5), (6, .int v6)]) hx hb dX12_copy_147 hl (by decide) rfl (fun ls hl => ?_)
    refine lv_aload_n hx hb dX12_copy_149 rfl (lv_at hl 1 rfl) ?_
    refine g_get (Cn := RX12) (T := TX12) (N := 21) (v := .ref (a 81)) (own := RX12) hx hb hown hts hK M_O rfl (fun _ hw => List.mem_cons_of_mem _ (u12_cls _ hw)) 19 (by decide) (List.mem_cons_of_mem _ (u12_1 _ (List.mem_of_getElem? (i := 0) rfl))) rfl rfl hP dX12_copy_150 ?_
    refine lv_bipush (v := 100) hx hb dX12_copy_153 (by decide) ?_
    refine lv_iload_n hx hb dX12_copy_155 rfl (lv_at hl 4 rfl) ?_
    refine lv_imul hx hb dX12_copy_156 ?_
    refine lv_iload hx hb dX12_copy_157 (lv_at hl 5 rfl) ?_
    refine lv_iadd hx hb dX12_copy_159 ?_
    refine lv_iload hx hb dX12_copy_160 (lv_at hl 0 rfl) ?_
    refine lv_iadd hx hb dX12_copy_162 ?_
    refine lv_aload_n hx hb dX12_copy_163 rfl (lv_at hl 1 rfl) ?_
    refine g_get (Cn := RX12) (T := TX12) (N := 21) (v := .ref (a 81)) (own := RX12) hx hb hown hts hK M_O rfl (fun _ hw => List.mem_cons_of_mem _ (u12_cls _ hw)) 19 (by decide) (List.mem_cons_of_mem _ (u12_1 _ (List.mem_of_getElem? (i := 0) rfl))) rfl rfl hP dX12_copy_164 ?_
    refine lv_bipush (v := 100) hx hb dX12_copy_167 (by decide) ?_
    refine lv_iload_n hx hb dX12_copy_169 rfl (lv_at hl 2 rfl) ?_
    refine lv_imul hx hb dX12_copy_170 ?_
    refine lv_iload_n hx hb dX12_copy_171 rfl (lv_at hl 3 rfl) ?_
    refine lv_iadd hx hb dX12_copy_172 ?_
    refine lv_iload hx hb dX12_copy_173 (lv_at hl 0 rfl) ?_
    refine lv_iadd hx hb dX12_copy_175 ?_
    obtain ⟨c25, hf⟩ := gdi_s hf
    refine g_ial hx hb hK (⟨by decide, rfl⟩ : gAI 81 800) c25 hP dX12_copy_176 ?_
    obtain ⟨c27, hf⟩ := gdi_s hf
    refine g_ias hx hb hK ha hA (⟨by decide, rfl⟩ : gAI 81 800) c27 hP hS dX12_copy_177 (fun H locs hP hS => ?_)
    obtain ⟨h26, eh26⟩ : ∃ x, x = (sA h 81 (upd (aI h 81) (((100 * v3) + v4) + s0).toNatClampNeg (aI h 81 (((100 * v1) + v2) + s0).toNatClampNeg))) := ⟨_, rfl⟩
    rw [← eh26] at hP
    have hf := nm_s hf eh26
    obtain ⟨x28, ex28⟩ : ∃ y : Int32, y = (v6 + 1) := ⟨_, rfl⟩
    have hf := nm_s hf ex28
    refine lv_iinc (v := x28) (lv' := [(6, .int x28), (7, .int s0), (0, .ref (a 66)), (1, .int v1), (2, .int v2), (3, .int v3), (4, .int v4), (5, .int v5)]) hx hb dX12_copy_178 hl (k := 7) rfl (by rw [ex28]; rfl) (by decide) rfl (fun ls hl => ?_)
    refine lv_goto (tgt := 122) hx hb dX12_copy_181 (by decide) ?_
    exact hk122 x28 h26 hf H locs ls hP hS (lv_sub hl [2, 3, 4, 5, 6, 7, 0] rfl)
  have J122 : ∀ (fu : Nat) (v6 : Int32) (h : HS), X12_copy_B122 v1 v2 v3 v4 v5 fu v6 h = some (r, h') → gG p l e (headSpec uX12_copy rmX12_copy).room s m ([.ref (a 66), .int v1, .int v2, .int v3, .int v4, .int v5] : List Value).toArray below meth c (MQ below (gQ (some (.int r)) D a C h') ([.ref (a 66), .int v1, .int v2, .int v3, .int v4, .int v5] : List Value).toArray s 0 0 (gA a)) D a C 8 h 122 [(0, .ref (a 66)), (1, .int v1), (2, .int v2), (3, .int v3), (4, .int v4), (5, .int v5), (6, .int v6)] [] := by
    intro fu
    induction fu with
    | zero => intro v6 h hf; exact absurd hf (by simp [X12_copy_B122])
    | succ fu ih =>
      intro v6 h hf H locs ls hP hS hl
      rw [X12_copy_B122] at hf
      refine lv_iload hx hb dX12_copy_122 (lv_at hl 6 rfl) ?_
      refine lv_iload hx hb dX12_copy_124 (lv_at hl 5 rfl) ?_
      refine lv_icmp_ge (tgt := 184) hx hb dX12_copy_126 (by decide) (fun c23 => ?_) (fun c23 => ?_)
      · have hf := if_t hf c23
        refine lv_iload hx hb dX12_copy_184 (lv_at hl 5 rfl) ?_
        exact g_iretW hx hb hr hlk hP hS (ret2 hf) dX12_copy_186
      · have hf := if_f hf c23
        refine lv_iload_n hx hb dX12_copy_129 rfl (lv_at hl 2 rfl) ?_
        refine lv_iload hx hb dX12_copy_130 (lv_at hl 4 rfl) ?_
        refine lv_icmp_le (tgt := 140) hx hb dX12_copy_132 (by decide) (fun c24 => ?_) (fun c24 => ?_)
        · have hf := if_t hf c24
          refine lv_iload hx hb dX12_copy_140 (lv_at hl 5 rfl) ?_
          refine lv_iconst (v := 1) hx hb dX12_copy_142 (by decide) ?_
          refine lv_isub hx hb dX12_copy_143 ?_
          refine lv_iload hx hb dX12_copy_144 (lv_at hl 6 rfl) ?_
          refine lv_isub hx hb dX12_copy_146 ?_
          exact J147 (X12_copy_B122 v1 v2 v3 v4 v5 fu) ih v6 ((v5 - 1) - v6) h hf H locs ls hP hS (lv_sub hl [0, 1, 2, 3, 4, 5, 6] rfl)
        · have hf := if_f hf c24
          refine lv_iload hx hb dX12_copy_135 (lv_at hl 6 rfl) ?_
          refine lv_goto (tgt := 147) hx hb dX12_copy_137 (by decide) ?_
          exact J147 (X12_copy_B122 v1 v2 v3 v4 v5 fu) ih v6 v6 h hf H locs ls hP hS (lv_sub hl [0, 1, 2, 3, 4, 5, 6] rfl)
  unfold X12_copy at hf
  suffices hh : ∀ (H : Heap) (locs : List Loc), va_P D vwCl (gw a C h) H → va_S (gA a) s.heap H locs → W p l e (headSpec uX12_copy rmX12_copy).room s m ([.ref (a 66), .int v1, .int v2, .int v3, .int v4, .int v5] : List Value).toArray below meth c H locs 0 0 (MQ below (gQ (some (.int r)) D a C h') ([.ref (a 66), .int v1, .int v2, .int v3, .int v4, .int v5] : List Value).toArray s 0 0 (gA a)) (F0 m 0 ls []) from hh _ _ hP hS
  intro H locs hP hS
  refine lv_iload_n hx hb dX12_copy_0 rfl (lv_at hl 1 rfl) ?_
  obtain ⟨q1, hq1, hf⟩ := bind_s hf
  refine g_callS (As := [.int v1]) (rest := []) hx hb hml hown hts hK hN (m_X12_isShelf l D a C ha h v1  q1 hq1) (va_cwS 1 hts (gUS (u12_4 _ (List.mem_of_getElem? (i := 11) rfl)) (u12_4 _ (List.mem_of_getElem? (i := 12) rfl)) (u12_1 _ (List.mem_of_getElem? (i := 7) rfl)) (u12_4 _ (List.mem_of_getElem? (i := 9) rfl))) rfl rfl rfl kdX12_isShelf.2 ⟨Nat.le_of_ble_eq_true rfl, Nat.le_of_ble_eq_true rfl⟩) hP hS hA rfl hl.1 rfl (Nat.le_of_ble_eq_true rfl) dX12_copy_1 ⟨Nat.le_refl _, Nat.le_refl _⟩ (fun H locs hP hS => ?_)
  refine W.eq (g2 := F0 m 4 ls [.int q1]) rfl ?_
  refine lv_if_eq (tgt := 14) hx hb dX12_copy_4 (by decide) (fun c2 => ?_) (fun c2 => ?_)
  · have hf := if_t hf c2
    refine lv_iconst (v := (-1)) hx hb dX12_copy_14 (by decide) ?_
    exact g_iretW hx hb hr hlk hP hS (ret2 hf) dX12_copy_15
  · have hf := if_f hf c2
    refine lv_iload_n hx hb dX12_copy_7 rfl (lv_at hl 3 rfl) ?_
    obtain ⟨q3, hq3, hf⟩ := bind_s hf
    refine g_callS (As := [.int v3]) (rest := []) hx hb hml hown hts hK hN (m_X12_isShelf l D a C ha h v3  q3 hq3) (va_cwS 1 hts (gUS (u12_4 _ (List.mem_of_getElem? (i := 11) rfl)) (u12_4 _ (List.mem_of_getElem? (i := 12) rfl)) (u12_1 _ (List.mem_of_getElem? (i := 7) rfl)) (u12_4 _ (List.mem_of_getElem? (i := 9) rfl))) rfl rfl rfl kdX12_isShelf.2 ⟨Nat.le_of_ble_eq_true rfl, Nat.le_of_ble_eq_true rfl⟩) hP hS hA rfl hl.1 rfl (Nat.le_of_ble_eq_true rfl) dX12_copy_8 ⟨Nat.le_refl _, Nat.le_refl _⟩ (fun H locs hP hS => ?_)
    refine W.eq (g2 := F0 m 11 ls [.int q3]) rfl ?_
    refine lv_if_ne (tgt := 16) hx hb dX12_copy_11 (by decide) (fun c4 => ?_) (fun c4 => ?_)
    · have hf := if_f hf c4
      refine lv_aload_n hx hb dX12_copy_16 rfl (lv_at hl 0 rfl) ?_
      refine g_get (Cn := RX12) (T := TX12) (N := 21) (v := .ref (a 76)) (own := RX12) hx hb hown hts hK M_O rfl (fun _ hw => List.mem_cons_of_mem _ (u12_cls _ hw)) 14 (by decide) (List.mem_cons_of_mem _ (u12_0 _ (List.mem_of_getElem? (i := 15) rfl))) rfl rfl hP dX12_copy_17 ?_
      refine lv_iload_n hx hb dX12_copy_20 rfl (lv_at hl 1 rfl) ?_
      obtain ⟨c5, hf⟩ := gdi_s hf
      refine g_ial hx hb hK (⟨by decide, rfl⟩ : gAI 76 8) c5 hP dX12_copy_21 ?_
      refine lv_if_eq (tgt := 34) hx hb dX12_copy_22 (by decide) (fun c6 => ?_) (fun c6 => ?_)
      · have hf := if_t hf c6
        refine lv_bipush (v := (-11)) hx hb dX12_copy_34 (by decide) ?_
        exact g_iretW hx hb hr hlk hP hS (ret2 hf) dX12_copy_36
      · have hf := if_f hf c6
        refine lv_aload_n hx hb dX12_copy_25 rfl (lv_at hl 0 rfl) ?_
        refine g_get (Cn := RX12) (T := TX12) (N := 21) (v := .ref (a 76)) (own := RX12) hx hb hown hts hK M_O rfl (fun _ hw => List.mem_cons_of_mem _ (u12_cls _ hw)) 14 (by decide) (List.mem_cons_of_mem _ (u12_0 _ (List.mem_of_getElem? (i := 15) rfl))) rfl rfl hP dX12_copy_26 ?_
        refine lv_iload_n hx hb dX12_copy_29 rfl (lv_at hl 3 rfl) ?_
        obtain ⟨c7, hf⟩ := gdi_s hf
        refine g_ial hx hb hK (⟨by decide, rfl⟩ : gAI 76 8) c7 hP dX12_copy_30 ?_
        refine lv_if_ne (tgt := 37) hx hb dX12_copy_31 (by decide) (fun c8 => ?_) (fun c8 => ?_)
        · have hf := if_f hf c8
          refine lv_aload_n hx hb dX12_copy_37 rfl (lv_at hl 0 rfl) ?_
          refine g_get (Cn := RX12) (T := TX12) (N := 21) (v := .ref (a 76)) (own := RX12) hx hb hown hts hK M_O rfl (fun _ hw => List.mem_cons_of_mem _ (u12_cls _ hw)) 14 (by decide) (List.mem_cons_of_mem _ (u12_0 _ (List.mem_of_getElem? (i := 15) rfl))) rfl rfl hP dX12_copy_38 ?_
          refine lv_iload_n hx hb dX12_copy_41 rfl (lv_at hl 1 rfl) ?_
          obtain ⟨c9, hf⟩ := gdi_s hf
          refine g_ial hx hb hK (⟨by decide, rfl⟩ : gAI 76 8) c9 hP dX12_copy_42 ?_
          refine lv_iconst (v := 2) hx hb dX12_copy_43 (by decide) ?_
          refine lv_icmp_ne (tgt := 72) hx hb dX12_copy_44 (by decide) (fun c10 => ?_) (fun c10 => ?_)
          · have hf := if_f hf c10
            refine lv_bipush (v := (-12)) hx hb dX12_copy_72 (by decide) ?_
            exact g_iretW hx hb hr hlk hP hS (ret2 hf) dX12_copy_74
          · have hf := if_t hf c10
            refine lv_aload_n hx hb dX12_copy_47 rfl (lv_at hl 0 rfl) ?_
            refine g_get (Cn := RX12) (T := TX12) (N := 21) (v := .ref (a 76)) (own := RX12) hx hb hown hts hK M_O rfl (fun _ hw => List.mem_cons_of_mem _ (u12_cls _ hw)) 14 (by decide) (List.mem_cons_of_mem _ (u12_0 _ (List.mem_of_getElem? (i := 15) rfl))) rfl rfl hP dX12_copy_48 ?_
            refine lv_iload_n hx hb dX12_copy_51 rfl (lv_at hl 3 rfl) ?_
            obtain ⟨c11, hf⟩ := gdi_s hf
            refine g_ial hx hb hK (⟨by decide, rfl⟩ : gAI 76 8) c11 hP dX12_copy_52 ?_
            refine lv_iconst (v := 2) hx hb dX12_copy_53 (by decide) ?_
            refine lv_icmp_ne (tgt := 72) hx hb dX12_copy_54 (by decide) (fun c12 => ?_) (fun c12 => ?_)
            · have hf := if_f hf c12
              refine lv_bipush (v := (-12)) hx hb dX12_copy_72 (by decide) ?_
              exact g_iretW hx hb hr hlk hP hS (ret2 hf) dX12_copy_74
            · have hf := if_t hf c12
              refine lv_aload_n hx hb dX12_copy_57 rfl (lv_at hl 0 rfl) ?_
              refine g_get (Cn := RX12) (T := TX12) (N := 21) (v := .ref (a 79)) (own := RX12) hx hb hown hts hK M_O rfl (fun _ hw => List.mem_cons_of_mem _ (u12_cls _ hw)) 17 (by decide) (List.mem_cons_of_mem _ (u12_0 _ (List.mem_of_getElem? (i := 18) rfl))) rfl rfl hP dX12_copy_58 ?_
              refine lv_iload_n hx hb dX12_copy_61 rfl (lv_at hl 1 rfl) ?_
              obtain ⟨c13, hf⟩ := gdi_s hf
              refine g_ial hx hb hK (⟨by decide, rfl⟩ : gAI 79 8) c13 hP dX12_copy_62 ?_
              refine lv_aload_n hx hb dX12_copy_63 rfl (lv_at hl 0 rfl) ?_
              refine g_get (Cn := RX12) (T := TX12) (N := 21) (v := .ref (a 79)) (own := RX12) hx hb hown hts hK M_O rfl (fun _ hw => List.mem_cons_of_mem _ (u12_cls _ hw)) 17 (by decide) (List.mem_cons_of_mem _ (u12_0 _ (List.mem_of_getElem? (i := 18) rfl))) rfl rfl hP dX12_copy_64 ?_
              refine lv_iload_n hx hb dX12_copy_67 rfl (lv_at hl 3 rfl) ?_
              obtain ⟨c14, hf⟩ := gdi_s hf
              refine g_ial hx hb hK (⟨by decide, rfl⟩ : gAI 79 8) c14 hP dX12_copy_68 ?_
              refine lv_icmp_eq (tgt := 75) hx hb dX12_copy_69 (by decide) (fun c15 => ?_) (fun c15 => ?_)
              · have hf := if_t hf c15
                refine lv_iload hx hb dX12_copy_75 (lv_at hl 5 rfl) ?_
                refine lv_if_lt (tgt := 116) hx hb dX12_copy_77 (by decide) (fun c16 => ?_) (fun c16 => ?_)
                · have hf := if_t hf c16
                  refine lv_bipush (v := (-13)) hx hb dX12_copy_116 (by decide) ?_
                  exact g_iretW hx hb hr hlk hP hS (ret2 hf) dX12_copy_118
                · have hf := if_f hf c16
                  refine lv_iload_n hx hb dX12_copy_80 rfl (lv_at hl 2 rfl) ?_
                  refine lv_if_lt (tgt := 116) hx hb dX12_copy_81 (by decide) (fun c17 => ?_) (fun c17 => ?_)
                  · have hf := if_t hf c17
                    refine lv_bipush (v := (-13)) hx hb dX12_copy_116 (by decide) ?_
                    exact g_iretW hx hb hr hlk hP hS (ret2 hf) dX12_copy_118
                  · have hf := if_f hf c17
                    refine lv_iload hx hb dX12_copy_84 (lv_at hl 4 rfl) ?_
                    refine lv_if_lt (tgt := 116) hx hb dX12_copy_86 (by decide) (fun c18 => ?_) (fun c18 => ?_)
                    · have hf := if_t hf c18
                      refine lv_bipush (v := (-13)) hx hb dX12_copy_116 (by decide) ?_
                      exact g_iretW hx hb hr hlk hP hS (ret2 hf) dX12_copy_118
                    · have hf := if_f hf c18
                      refine lv_iload hx hb dX12_copy_89 (lv_at hl 5 rfl) ?_
                      refine lv_aload_n hx hb dX12_copy_91 rfl (lv_at hl 0 rfl) ?_
                      refine g_get (Cn := RX12) (T := TX12) (N := 21) (v := .ref (a 80)) (own := RX12) hx hb hown hts hK M_O rfl (fun _ hw => List.mem_cons_of_mem _ (u12_cls _ hw)) 18 (by decide) (List.mem_cons_of_mem _ (u12_0 _ (List.mem_of_getElem? (i := 19) rfl))) rfl rfl hP dX12_copy_92 ?_
                      refine lv_iload_n hx hb dX12_copy_95 rfl (lv_at hl 1 rfl) ?_
                      obtain ⟨c19, hf⟩ := gdi_s hf
                      refine g_ial hx hb hK (⟨by decide, rfl⟩ : gAI 80 8) c19 hP dX12_copy_96 ?_
                      refine lv_iload_n hx hb dX12_copy_97 rfl (lv_at hl 2 rfl) ?_
                      refine lv_isub hx hb dX12_copy_98 ?_
                      refine lv_icmp_gt (tgt := 116) hx hb dX12_copy_99 (by decide) (fun c20 => ?_) (fun c20 => ?_)
                      · have hf := if_t hf c20
                        refine lv_bipush (v := (-13)) hx hb dX12_copy_116 (by decide) ?_
                        exact g_iretW hx hb hr hlk hP hS (ret2 hf) dX12_copy_118
                      · have hf := if_f hf c20
                        refine lv_iload hx hb dX12_copy_102 (lv_at hl 5 rfl) ?_
                        refine lv_aload_n hx hb dX12_copy_104 rfl (lv_at hl 0 rfl) ?_
                        refine g_get (Cn := RX12) (T := TX12) (N := 21) (v := .ref (a 80)) (own := RX12) hx hb hown hts hK M_O rfl (fun _ hw => List.mem_cons_of_mem _ (u12_cls _ hw)) 18 (by decide) (List.mem_cons_of_mem _ (u12_0 _ (List.mem_of_getElem? (i := 19) rfl))) rfl rfl hP dX12_copy_105 ?_
                        refine lv_iload_n hx hb dX12_copy_108 rfl (lv_at hl 3 rfl) ?_
                        obtain ⟨c21, hf⟩ := gdi_s hf
                        refine g_ial hx hb hK (⟨by decide, rfl⟩ : gAI 80 8) c21 hP dX12_copy_109 ?_
                        refine lv_iload hx hb dX12_copy_110 (lv_at hl 4 rfl) ?_
                        refine lv_isub hx hb dX12_copy_112 ?_
                        refine lv_icmp_le (tgt := 119) hx hb dX12_copy_113 (by decide) (fun c22 => ?_) (fun c22 => ?_)
                        · have hf := if_t hf c22
                          refine lv_iconst (v := 0) hx hb dX12_copy_119 (by decide) ?_
                          refine lv_istore (lv' := [(6, .int 0), (0, .ref (a 66)), (1, .int v1), (2, .int v2), (3, .int v3), (4, .int v4), (5, .int v5)]) hx hb dX12_copy_120 hl (by decide) rfl (fun ls hl => ?_)
                          exact J122 FU 0 h hf H locs ls hP hS (lv_sub hl [1, 2, 3, 4, 5, 6, 0] rfl)
                        · have hf := if_f hf c22
                          refine lv_bipush (v := (-13)) hx hb dX12_copy_116 (by decide) ?_
                          exact g_iretW hx hb hr hlk hP hS (ret2 hf) dX12_copy_118
              · have hf := if_f hf c15
                refine lv_bipush (v := (-12)) hx hb dX12_copy_72 (by decide) ?_
                exact g_iretW hx hb hr hlk hP hS (ret2 hf) dX12_copy_74
        · have hf := if_t hf c8
          refine lv_bipush (v := (-11)) hx hb dX12_copy_34 (by decide) ?_
          exact g_iretW hx hb hr hlk hP hS (ret2 hf) dX12_copy_36
    · have hf := if_t hf c4
      refine lv_iconst (v := (-1)) hx hb dX12_copy_14 (by decide) ?_
      exact g_iretW hx hb hr hlk hP hS (ret2 hf) dX12_copy_15

def X12_costBy (v0 : Int32) (v1 : Int32) : Option Int32 :=
    (if v0 = 1 then
    some 2
    else
    (if v0 = 2 then
    some (1 + v1)
    else
    (if v0 = 3 then
    some 5
    else
    (if v0 = 4 then
    some (2 * (1 + v1))
    else
    (if v0 = 6 then
    some 11
    else
    (if v0 = 7 then
    some 5
    else
    some 1))))))
def uX12_costBy : List Cond := .code yX12_costBy cX12_costBy 2 (some .int) :: UU
def rmX12_costBy : Room := { frames := 0, cells := 0, slots := 0, locals := 0 }
theorem kdX12_costBy : yX12_costBy.cls = RX12 ∧ yX12_costBy.cls ≠ "java/lang/invoke/MethodHandle" ∧ yX12_costBy.cls ≠ "java/lang/invoke/VarHandle" ∧ (parseMethodDescriptor yX12_costBy.desc).map (fun d => d.parameters.length) = some 2 := by decide +kernel
set_option maxHeartbeats 4000000 in
set_option maxRecDepth 100000 in
theorem m_X12_costBy (l : Launch) (D : va_G) (a : Nat → Nat) (C : Nat → ClassId) (ha : ginj a) (h : HS) (v0 : Int32) (v1 : Int32)  (r : Int32) (hf : X12_costBy v0 v1 = some r) : gM l yX12_costBy uX12_costBy rmX12_costBy D a C [.int v0, .int v1] h (some (.int r)) h := by
  refine g_start (av := [.int v0, .int v1]) (cc := cX12_costBy) (maxL := 2) (rt := (some .int)) (by decide) rfl (Nat.le_of_ble_eq_true rfl) ?_
  intro p e s m below meth c hx hb hr hml hown hlk hts hP hK hN ls hl
  have hA : ∀ q, gA a q → gA a q := fun _ q => q
  have hS : va_S (gA a) s.heap s.heap [] := va_S.rf
  have hl : lv_has ls 2 [(0, .int v0), (1, .int v1)] := hl
  unfold X12_costBy at hf
  refine lv_iload_n hx hb dX12_costBy_0 rfl (lv_at hl 0 rfl) ?_
  by_cases c1 : v0 = 1
  · have hf := if_t hf c1
    refine lv_tableIn (tgt := 44) hx hb dX12_costBy_1 (by rw [c1]; decide) (by rw [c1]; decide) (by rw [c1]; rfl) (by decide) ?_
    refine lv_iconst (v := 2) hx hb dX12_costBy_44 (by decide) ?_
    exact g_iret hx hb hr hlk hP hS (ret1 hf) dX12_costBy_45
  have hf := if_f hf c1
  by_cases c2 : v0 = 2
  · have hf := if_t hf c2
    refine lv_tableIn (tgt := 46) hx hb dX12_costBy_1 (by rw [c2]; decide) (by rw [c2]; decide) (by rw [c2]; rfl) (by decide) ?_
    refine lv_iconst (v := 1) hx hb dX12_costBy_46 (by decide) ?_
    refine lv_iload_n hx hb dX12_costBy_47 rfl (lv_at hl 1 rfl) ?_
    refine lv_iadd hx hb dX12_costBy_48 ?_
    exact g_iret hx hb hr hlk hP hS (ret1 hf) dX12_costBy_49
  have hf := if_f hf c2
  by_cases c3 : v0 = 3
  · have hf := if_t hf c3
    refine lv_tableIn (tgt := 50) hx hb dX12_costBy_1 (by rw [c3]; decide) (by rw [c3]; decide) (by rw [c3]; rfl) (by decide) ?_
    refine lv_iconst (v := 5) hx hb dX12_costBy_50 (by decide) ?_
    exact g_iret hx hb hr hlk hP hS (ret1 hf) dX12_costBy_51
  have hf := if_f hf c3
  by_cases c4 : v0 = 4
  · have hf := if_t hf c4
    refine lv_tableIn (tgt := 52) hx hb dX12_costBy_1 (by rw [c4]; decide) (by rw [c4]; decide) (by rw [c4]; rfl) (by decide) ?_
    refine lv_iconst (v := 2) hx hb dX12_costBy_52 (by decide) ?_
    refine lv_iconst (v := 1) hx hb dX12_costBy_53 (by decide) ?_
    refine lv_iload_n hx hb dX12_costBy_54 rfl (lv_at hl 1 rfl) ?_
    refine lv_iadd hx hb dX12_costBy_55 ?_
    refine lv_imul hx hb dX12_costBy_56 ?_
    exact g_iret hx hb hr hlk hP hS (ret1 hf) dX12_costBy_57
  have hf := if_f hf c4
  by_cases c5 : v0 = 6
  · have hf := if_t hf c5
    refine lv_tableIn (tgt := 58) hx hb dX12_costBy_1 (by rw [c5]; decide) (by rw [c5]; decide) (by rw [c5]; rfl) (by decide) ?_
    refine lv_bipush (v := 11) hx hb dX12_costBy_58 (by decide) ?_
    exact g_iret hx hb hr hlk hP hS (ret1 hf) dX12_costBy_60
  have hf := if_f hf c5
  by_cases c6 : v0 = 7
  · have hf := if_t hf c6
    refine lv_tableIn (tgt := 50) hx hb dX12_costBy_1 (by rw [c6]; decide) (by rw [c6]; decide) (by rw [c6]; rfl) (by decide) ?_
    refine lv_iconst (v := 5) hx hb dX12_costBy_50 (by decide) ?_
    exact g_iret hx hb hr hlk hP hS (ret1 hf) dX12_costBy_51
  have hf := if_f hf c6
  by_cases c7 : v0 = 5
  · refine lv_tableIn (tgt := 61) hx hb dX12_costBy_1 (by rw [c7]; decide) (by rw [c7]; decide) (by rw [c7]; rfl) (by decide) ?_
    refine lv_iconst (v := 1) hx hb dX12_costBy_61 (by decide) ?_
    exact g_iret hx hb hr hlk hP hS (ret1 hf) dX12_costBy_62
  refine lv_tableOut (tgt := 61) hx hb dX12_costBy_1 (by have n0 := ti_nz (z := 1) (by decide) c1; have n1 := ti_nz (z := 2) (by decide) c2; have n2 := ti_nz (z := 3) (by decide) c3; have n3 := ti_nz (z := 4) (by decide) c4; have n4 := ti_nz (z := 6) (by decide) c5; have n5 := ti_nz (z := 7) (by decide) c6; have n6 := ti_nz (z := 5) (by decide) c7; omega) (by decide) ?_
  refine lv_iconst (v := 1) hx hb dX12_costBy_61 (by decide) ?_
  exact g_iret hx hb hr hlk hP hS (ret1 hf) dX12_costBy_62

def X12_cost (h : HS) (v1 : Int32) : Option Int32 :=
    (X12_wrongKept h v1).bind fun q1 =>
    (if q1 = 0 then
    gdi v1 8 <|
    gdi v1 8 <|
    (X12_costBy (aI h 77 v1.toNatClampNeg) (aI h 78 v1.toNatClampNeg)).bind fun q5 =>
    some q5
    else
    some q1)
def uX12_cost : List Cond := .code yX12_cost cX12_cost 3 (some .int) :: UU
def rmX12_cost : Room := { frames := 3, cells := 0, slots := 0, locals := 63 }
theorem kdX12_cost : yX12_cost.cls = RX12 ∧ yX12_cost.cls ≠ "java/lang/invoke/MethodHandle" ∧ yX12_cost.cls ≠ "java/lang/invoke/VarHandle" ∧ (parseMethodDescriptor yX12_cost.desc).map (fun d => d.parameters.length) = some 1 := by decide +kernel
set_option maxHeartbeats 4000000 in
set_option maxRecDepth 100000 in
theorem m_X12_cost (l : Launch) (D : va_G) (a : Nat → Nat) (C : Nat → ClassId) (ha : ginj a) (h : HS) (v1 : Int32)  (r : Int32) (hf : X12_cost h v1 = some r) : gM l yX12_cost uX12_cost rmX12_cost D a C [.ref (a 66), .int v1] h (some (.int r)) h := by
  refine g_start (av := [.ref (a 66), .int v1]) (cc := cX12_cost) (maxL := 3) (rt := (some .int)) (by decide) rfl (Nat.le_of_ble_eq_true rfl) ?_
  intro p e s m below meth c hx hb hr hml hown hlk hts hP hK hN ls hl
  have hA : ∀ q, gA a q → gA a q := fun _ q => q
  have hS : va_S (gA a) s.heap s.heap [] := va_S.rf
  have hl : lv_has ls 3 [(0, .ref (a 66)), (1, .int v1)] := hl
  unfold X12_cost at hf
  refine lv_aload_n hx hb dX12_cost_0 rfl (lv_at hl 0 rfl) ?_
  refine lv_iload_n hx hb dX12_cost_1 rfl (lv_at hl 1 rfl) ?_
  obtain ⟨q1, hq1, hf⟩ := bind_s hf
  refine g_callV (As := [.int v1]) (rest := []) hx hb hml hown hts hK hN (m_X12_wrongKept l D a C ha h v1  q1 hq1) (cwV 1 hts (gUV (u12_5 _ (List.mem_of_getElem? (i := 16) rfl)) (u12_5 _ (List.mem_of_getElem? (i := 17) rfl)) (u12_5 _ (List.mem_of_getElem? (i := 18) rfl)) (u12_1 _ (List.mem_of_getElem? (i := 7) rfl)) (u12_5 _ (List.mem_of_getElem? (i := 14) rfl))) rfl rfl rfl kdX12_wrongKept ⟨Nat.le_of_ble_eq_true rfl, Nat.le_of_ble_eq_true rfl⟩) M_O rfl rfl hP hS hA rfl hl.1 rfl (Nat.le_of_ble_eq_true rfl) dX12_cost_2 ⟨Nat.le_refl _, Nat.le_refl _⟩ (fun H locs hP hS => ?_)
  refine W.eq (g2 := F0 m 5 ls [.int q1]) rfl ?_
  refine lv_istore_n (lv' := [(2, .int q1), (0, .ref (a 66)), (1, .int v1)]) hx hb dX12_cost_5 rfl hl (by decide) rfl (fun ls hl => ?_)
  refine lv_iload_n hx hb dX12_cost_6 rfl (lv_at hl 0 rfl) ?_
  refine lv_if_eq (tgt := 14) hx hb dX12_cost_7 (by decide) (fun c2 => ?_) (fun c2 => ?_)
  · have hf := if_t hf c2
    refine lv_aload_n hx hb dX12_cost_14 rfl (lv_at hl 1 rfl) ?_
    refine g_get (Cn := RX12) (T := TX12) (N := 21) (v := .ref (a 77)) (own := RX12) hx hb hown hts hK M_O rfl (fun _ hw => List.mem_cons_of_mem _ (u12_cls _ hw)) 15 (by decide) (List.mem_cons_of_mem _ (u12_0 _ (List.mem_of_getElem? (i := 16) rfl))) rfl rfl hP dX12_cost_15 ?_
    refine lv_iload_n hx hb dX12_cost_18 rfl (lv_at hl 2 rfl) ?_
    obtain ⟨c3, hf⟩ := gdi_s hf
    refine g_ial hx hb hK (⟨by decide, rfl⟩ : gAI 77 8) c3 hP dX12_cost_19 ?_
    refine lv_aload_n hx hb dX12_cost_20 rfl (lv_at hl 1 rfl) ?_
    refine g_get (Cn := RX12) (T := TX12) (N := 21) (v := .ref (a 78)) (own := RX12) hx hb hown hts hK M_O rfl (fun _ hw => List.mem_cons_of_mem _ (u12_cls _ hw)) 16 (by decide) (List.mem_cons_of_mem _ (u12_0 _ (List.mem_of_getElem? (i := 17) rfl))) rfl rfl hP dX12_cost_21 ?_
    refine lv_iload_n hx hb dX12_cost_24 rfl (lv_at hl 2 rfl) ?_
    obtain ⟨c4, hf⟩ := gdi_s hf
    refine g_ial hx hb hK (⟨by decide, rfl⟩ : gAI 78 8) c4 hP dX12_cost_25 ?_
    obtain ⟨q5, hq5, hf⟩ := bind_s hf
    refine g_callS (As := [.int (aI h 77 v1.toNatClampNeg), .int (aI h 78 v1.toNatClampNeg)]) (rest := []) hx hb hml hown hts hK hN (m_X12_costBy l D a C ha h (aI h 77 v1.toNatClampNeg) (aI h 78 v1.toNatClampNeg)  q5 hq5) (va_cwS 2 hts (gUS (u12_12 _ (List.mem_of_getElem? (i := 7) rfl)) (u12_12 _ (List.mem_of_getElem? (i := 8) rfl)) (u12_1 _ (List.mem_of_getElem? (i := 7) rfl)) (u12_12 _ (List.mem_of_getElem? (i := 5) rfl))) rfl rfl rfl kdX12_costBy.2 ⟨Nat.le_of_ble_eq_true rfl, Nat.le_of_ble_eq_true rfl⟩) hP hS hA rfl hl.1 rfl (Nat.le_of_ble_eq_true rfl) dX12_cost_26 ⟨Nat.le_refl _, Nat.le_refl _⟩ (fun H locs hP hS => ?_)
    refine W.eq (g2 := F0 m 29 ls [.int q5]) rfl ?_
    exact g_iret hx hb hr hlk hP hS (ret1 hf) dX12_cost_29
  · have hf := if_f hf c2
    refine lv_iload_n hx hb dX12_cost_10 rfl (lv_at hl 0 rfl) ?_
    refine lv_goto (tgt := 29) hx hb dX12_cost_11 (by decide) ?_
    exact g_iret hx hb hr hlk hP hS (ret1 hf) dX12_cost_29

def X12_toss (h : HS) (v1 : Int32) : Option Int32 :=
    (X12_wrongKept h v1).bind fun q1 =>
    (if q1 = 0 then
    gdi v1 8 <|
    nm (aI h 77 v1.toNatClampNeg) fun x4 =>
    gdi v1 8 <|
    nm (aI h 78 v1.toNatClampNeg) fun x6 =>
    (if x4 = 1 then
    some (-15)
    else
    (if x4 = 3 then
    some (-15)
    else
    (if x4 = 5 then
    some (-15)
    else
    (if x4 = 7 then
    some (-15)
    else
    (if x6 = 0 then
    some (-15)
    else
    (if x4 = 6 then
    (X12_costBy x4 x6).bind fun q15 =>
    some (200 + q15)
    else
    (if x4 = 2 then
    some (100 + x6)
    else
    (if x4 = 4 then
    some (100 + x6)
    else
    some x6))))))))
    else
    some q1)
def uX12_toss : List Cond := .code yX12_toss cX12_toss 5 (some .int) :: UU
def rmX12_toss : Room := { frames := 3, cells := 0, slots := 0, locals := 63 }
theorem kdX12_toss : yX12_toss.cls = RX12 ∧ yX12_toss.cls ≠ "java/lang/invoke/MethodHandle" ∧ yX12_toss.cls ≠ "java/lang/invoke/VarHandle" ∧ (parseMethodDescriptor yX12_toss.desc).map (fun d => d.parameters.length) = some 1 := by decide +kernel
set_option maxHeartbeats 4000000 in
set_option maxRecDepth 100000 in
theorem m_X12_toss (l : Launch) (D : va_G) (a : Nat → Nat) (C : Nat → ClassId) (ha : ginj a) (h : HS) (v1 : Int32)  (r : Int32) (hf : X12_toss h v1 = some r) : gM l yX12_toss uX12_toss rmX12_toss D a C [.ref (a 66), .int v1] h (some (.int r)) h := by
  refine g_start (av := [.ref (a 66), .int v1]) (cc := cX12_toss) (maxL := 5) (rt := (some .int)) (by decide) rfl (Nat.le_of_ble_eq_true rfl) ?_
  intro p e s m below meth c hx hb hr hml hown hlk hts hP hK hN ls hl
  have hA : ∀ q, gA a q → gA a q := fun _ q => q
  have hS : va_S (gA a) s.heap s.heap [] := va_S.rf
  have hl : lv_has ls 5 [(0, .ref (a 66)), (1, .int v1)] := hl
  unfold X12_toss at hf
  refine lv_aload_n hx hb dX12_toss_0 rfl (lv_at hl 0 rfl) ?_
  refine lv_iload_n hx hb dX12_toss_1 rfl (lv_at hl 1 rfl) ?_
  obtain ⟨q1, hq1, hf⟩ := bind_s hf
  refine g_callV (As := [.int v1]) (rest := []) hx hb hml hown hts hK hN (m_X12_wrongKept l D a C ha h v1  q1 hq1) (cwV 1 hts (gUV (u12_5 _ (List.mem_of_getElem? (i := 16) rfl)) (u12_5 _ (List.mem_of_getElem? (i := 17) rfl)) (u12_5 _ (List.mem_of_getElem? (i := 18) rfl)) (u12_1 _ (List.mem_of_getElem? (i := 7) rfl)) (u12_5 _ (List.mem_of_getElem? (i := 14) rfl))) rfl rfl rfl kdX12_wrongKept ⟨Nat.le_of_ble_eq_true rfl, Nat.le_of_ble_eq_true rfl⟩) M_O rfl rfl hP hS hA rfl hl.1 rfl (Nat.le_of_ble_eq_true rfl) dX12_toss_2 ⟨Nat.le_refl _, Nat.le_refl _⟩ (fun H locs hP hS => ?_)
  refine W.eq (g2 := F0 m 5 ls [.int q1]) rfl ?_
  refine lv_istore_n (lv' := [(2, .int q1), (0, .ref (a 66)), (1, .int v1)]) hx hb dX12_toss_5 rfl hl (by decide) rfl (fun ls hl => ?_)
  refine lv_iload_n hx hb dX12_toss_6 rfl (lv_at hl 0 rfl) ?_
  refine lv_if_eq (tgt := 12) hx hb dX12_toss_7 (by decide) (fun c2 => ?_) (fun c2 => ?_)
  · have hf := if_t hf c2
    refine lv_aload_n hx hb dX12_toss_12 rfl (lv_at hl 1 rfl) ?_
    refine g_get (Cn := RX12) (T := TX12) (N := 21) (v := .ref (a 77)) (own := RX12) hx hb hown hts hK M_O rfl (fun _ hw => List.mem_cons_of_mem _ (u12_cls _ hw)) 15 (by decide) (List.mem_cons_of_mem _ (u12_0 _ (List.mem_of_getElem? (i := 16) rfl))) rfl rfl hP dX12_toss_13 ?_
    refine lv_iload_n hx hb dX12_toss_16 rfl (lv_at hl 2 rfl) ?_
    obtain ⟨c3, hf⟩ := gdi_s hf
    refine g_ial hx hb hK (⟨by decide, rfl⟩ : gAI 77 8) c3 hP dX12_toss_17 ?_
    refine lv_topi (fun x4 ex4 => ?_)
    have hf := nm_s hf ex4
    refine lv_istore_n (lv' := [(3, .int x4), (2, .int q1), (0, .ref (a 66)), (1, .int v1)]) hx hb dX12_toss_18 rfl hl (by decide) rfl (fun ls hl => ?_)
    refine lv_aload_n hx hb dX12_toss_19 rfl (lv_at hl 2 rfl) ?_
    refine g_get (Cn := RX12) (T := TX12) (N := 21) (v := .ref (a 78)) (own := RX12) hx hb hown hts hK M_O rfl (fun _ hw => List.mem_cons_of_mem _ (u12_cls _ hw)) 16 (by decide) (List.mem_cons_of_mem _ (u12_0 _ (List.mem_of_getElem? (i := 17) rfl))) rfl rfl hP dX12_toss_20 ?_
    refine lv_iload_n hx hb dX12_toss_23 rfl (lv_at hl 3 rfl) ?_
    obtain ⟨c5, hf⟩ := gdi_s hf
    refine g_ial hx hb hK (⟨by decide, rfl⟩ : gAI 78 8) c5 hP dX12_toss_24 ?_
    refine lv_topi (fun x6 ex6 => ?_)
    have hf := nm_s hf ex6
    refine lv_istore (lv' := [(4, .int x6), (3, .int x4), (2, .int q1), (0, .ref (a 66)), (1, .int v1)]) hx hb dX12_toss_25 hl (by decide) rfl (fun ls hl => ?_)
    refine lv_iload_n hx hb dX12_toss_27 rfl (lv_at hl 1 rfl) ?_
    refine lv_iconst (v := 1) hx hb dX12_toss_28 (by decide) ?_
    refine lv_icmp_eq (tgt := 53) hx hb dX12_toss_29 (by decide) (fun c7 => ?_) (fun c7 => ?_)
    · have hf := if_t hf c7
      refine lv_bipush (v := (-15)) hx hb dX12_toss_53 (by decide) ?_
      exact g_iret hx hb hr hlk hP hS (ret1 hf) dX12_toss_55
    · have hf := if_f hf c7
      refine lv_iload_n hx hb dX12_toss_32 rfl (lv_at hl 1 rfl) ?_
      refine lv_iconst (v := 3) hx hb dX12_toss_33 (by decide) ?_
      refine lv_icmp_eq (tgt := 53) hx hb dX12_toss_34 (by decide) (fun c8 => ?_) (fun c8 => ?_)
      · have hf := if_t hf c8
        refine lv_bipush (v := (-15)) hx hb dX12_toss_53 (by decide) ?_
        exact g_iret hx hb hr hlk hP hS (ret1 hf) dX12_toss_55
      · have hf := if_f hf c8
        refine lv_iload_n hx hb dX12_toss_37 rfl (lv_at hl 1 rfl) ?_
        refine lv_iconst (v := 5) hx hb dX12_toss_38 (by decide) ?_
        refine lv_icmp_eq (tgt := 53) hx hb dX12_toss_39 (by decide) (fun c9 => ?_) (fun c9 => ?_)
        · have hf := if_t hf c9
          refine lv_bipush (v := (-15)) hx hb dX12_toss_53 (by decide) ?_
          exact g_iret hx hb hr hlk hP hS (ret1 hf) dX12_toss_55
        · have hf := if_f hf c9
          refine lv_iload_n hx hb dX12_toss_42 rfl (lv_at hl 1 rfl) ?_
          refine lv_bipush (v := 7) hx hb dX12_toss_43 (by decide) ?_
          refine lv_icmp_eq (tgt := 53) hx hb dX12_toss_45 (by decide) (fun c10 => ?_) (fun c10 => ?_)
          · have hf := if_t hf c10
            refine lv_bipush (v := (-15)) hx hb dX12_toss_53 (by decide) ?_
            exact g_iret hx hb hr hlk hP hS (ret1 hf) dX12_toss_55
          · have hf := if_f hf c10
            refine lv_iload hx hb dX12_toss_48 (lv_at hl 0 rfl) ?_
            refine lv_if_ne (tgt := 56) hx hb dX12_toss_50 (by decide) (fun c11 => ?_) (fun c11 => ?_)
            · have hf := if_f hf c11
              refine lv_iload_n hx hb dX12_toss_56 rfl (lv_at hl 1 rfl) ?_
              refine lv_bipush (v := 6) hx hb dX12_toss_57 (by decide) ?_
              refine lv_icmp_ne (tgt := 75) hx hb dX12_toss_59 (by decide) (fun c12 => ?_) (fun c12 => ?_)
              · have hf := if_f hf c12
                refine lv_iload_n hx hb dX12_toss_75 rfl (lv_at hl 1 rfl) ?_
                refine lv_iconst (v := 2) hx hb dX12_toss_76 (by decide) ?_
                refine lv_icmp_eq (tgt := 85) hx hb dX12_toss_77 (by decide) (fun c13 => ?_) (fun c13 => ?_)
                · have hf := if_t hf c13
                  refine lv_bipush (v := 100) hx hb dX12_toss_85 (by decide) ?_
                  refine lv_iload hx hb dX12_toss_87 (lv_at hl 0 rfl) ?_
                  refine lv_iadd hx hb dX12_toss_89 ?_
                  refine lv_goto (tgt := 95) hx hb dX12_toss_90 (by decide) ?_
                  exact g_iret hx hb hr hlk hP hS (ret1 hf) dX12_toss_95
                · have hf := if_f hf c13
                  refine lv_iload_n hx hb dX12_toss_80 rfl (lv_at hl 1 rfl) ?_
                  refine lv_iconst (v := 4) hx hb dX12_toss_81 (by decide) ?_
                  refine lv_icmp_ne (tgt := 93) hx hb dX12_toss_82 (by decide) (fun c14 => ?_) (fun c14 => ?_)
                  · have hf := if_f hf c14
                    refine lv_iload hx hb dX12_toss_93 (lv_at hl 0 rfl) ?_
                    exact g_iret hx hb hr hlk hP hS (ret1 hf) dX12_toss_95
                  · have hf := if_t hf c14
                    refine lv_bipush (v := 100) hx hb dX12_toss_85 (by decide) ?_
                    refine lv_iload hx hb dX12_toss_87 (lv_at hl 0 rfl) ?_
                    refine lv_iadd hx hb dX12_toss_89 ?_
                    refine lv_goto (tgt := 95) hx hb dX12_toss_90 (by decide) ?_
                    exact g_iret hx hb hr hlk hP hS (ret1 hf) dX12_toss_95
              · have hf := if_t hf c12
                refine lv_sipush (v := 200) hx hb dX12_toss_62 (by decide) ?_
                refine lv_iload_n hx hb dX12_toss_65 rfl (lv_at hl 1 rfl) ?_
                refine lv_iload hx hb dX12_toss_66 (lv_at hl 0 rfl) ?_
                obtain ⟨q15, hq15, hf⟩ := bind_s hf
                refine g_callS (As := [.int x4, .int x6]) (rest := [.int 200]) hx hb hml hown hts hK hN (m_X12_costBy l D a C ha h x4 x6  q15 hq15) (va_cwS 2 hts (gUS (u12_12 _ (List.mem_of_getElem? (i := 7) rfl)) (u12_12 _ (List.mem_of_getElem? (i := 8) rfl)) (u12_1 _ (List.mem_of_getElem? (i := 7) rfl)) (u12_12 _ (List.mem_of_getElem? (i := 5) rfl))) rfl rfl rfl kdX12_costBy.2 ⟨Nat.le_of_ble_eq_true rfl, Nat.le_of_ble_eq_true rfl⟩) hP hS hA rfl hl.1 rfl (Nat.le_of_ble_eq_true rfl) dX12_toss_68 ⟨Nat.le_refl _, Nat.le_refl _⟩ (fun H locs hP hS => ?_)
                refine W.eq (g2 := F0 m 71 ls [.int q15, .int 200]) rfl ?_
                refine lv_iadd hx hb dX12_toss_71 ?_
                refine lv_goto (tgt := 95) hx hb dX12_toss_72 (by decide) ?_
                exact g_iret hx hb hr hlk hP hS (ret1 hf) dX12_toss_95
            · have hf := if_t hf c11
              refine lv_bipush (v := (-15)) hx hb dX12_toss_53 (by decide) ?_
              exact g_iret hx hb hr hlk hP hS (ret1 hf) dX12_toss_55
  · have hf := if_f hf c2
    refine lv_iload_n hx hb dX12_toss_10 rfl (lv_at hl 0 rfl) ?_
    exact g_iret hx hb hr hlk hP hS (ret1 hf) dX12_toss_11

