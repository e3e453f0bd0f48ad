def J6_bitCount_0f7a4 (v0 : Int32) : Option Int32 :=
    nm (v0 - ((v0.toUInt32 >>> ((1 : Int32).toUInt32 &&& Int32.toUInt32 31)).toInt32 &&& 1431655765)) fun x1 =>
    nm ((x1 &&& 858993459) + ((x1.toUInt32 >>> ((2 : Int32).toUInt32 &&& Int32.toUInt32 31)).toInt32 &&& 858993459)) fun x2 =>
    nm ((x2 + (x2.toUInt32 >>> ((4 : Int32).toUInt32 &&& Int32.toUInt32 31)).toInt32) &&& 252645135) fun x3 =>
    nm (x3 + (x3.toUInt32 >>> ((8 : Int32).toUInt32 &&& Int32.toUInt32 31)).toInt32) fun x4 =>
    nm (x4 + (x4.toUInt32 >>> ((16 : Int32).toUInt32 &&& Int32.toUInt32 31)).toInt32) fun x5 =>
    some (x5 &&& 63)
def rmJ6_bitCount_0f7a4 : Room := { frames := 0, cells := 0, slots := 0, locals := 0 }
theorem kdJ6_bitCount_0f7a4 : yJ6_bitCount_0f7a4.cls = RJ6 ∧ yJ6_bitCount_0f7a4.cls ≠ "java/lang/invoke/MethodHandle" ∧ yJ6_bitCount_0f7a4.cls ≠ "java/lang/invoke/VarHandle" ∧ (parseMethodDescriptor yJ6_bitCount_0f7a4.desc).map (fun d => d.parameters.length) = some 1 := by decide +kernel
set_option maxHeartbeats 4000000 in
set_option maxRecDepth 100000 in
theorem m_J6_bitCount_0f7a4 (l : Launch) (D : va_G) (a : Nat → Nat) (C : Nat → ClassId) (ha : ginj a) (h : HS) (v0 : Int32)  (r : Int32) (hf : J6_bitCount_0f7a4 v0 = some r) : gM l yJ6_bitCount_0f7a4 wsJ6_bitCount_0f7a4 rmJ6_bitCount_0f7a4 D a C [.int v0] h (some (.int r)) h := by
  refine g_start (av := [.int v0]) (cc := cJ6_bitCount_0f7a4) (maxL := 1) (rt := (some .int)) (by decide) rfl (Nat.le_of_ble_eq_true rfl) ?_
  intro p e s m below meth c hx hb hr hml hown hlk hts hP hK hN ls hl
  have hA : ∀ q, gA a q → gA a q := fun _ q => q
  have hS : va_S (gA a) s.heap s.heap [] := va_S.rf
  have hl : lv_has ls 1 [(0, .int v0)] := hl
  unfold J6_bitCount_0f7a4 at hf
  refine lv_iload_n hx hb dJ6_bitCount_0f7a4_0 rfl (lv_at hl 0 rfl) ?_
  refine lv_iload_n hx hb dJ6_bitCount_0f7a4_1 rfl (lv_at hl 0 rfl) ?_
  refine lv_iconst (v := 1) hx hb dJ6_bitCount_0f7a4_2 (by decide) ?_
  refine lv_iushr hx hb dJ6_bitCount_0f7a4_3 rfl ?_
  refine lv_ldcw (v := 1431655765) hx hb hown (hts _ (List.mem_of_getElem? (i := 1) rfl)) dJ6_bitCount_0f7a4_4 ?_
  refine lv_iand hx hb dJ6_bitCount_0f7a4_7 ?_
  refine lv_isub hx hb dJ6_bitCount_0f7a4_8 ?_
  refine lv_topi (fun x1 ex1 => ?_)
  have hf := nm_s hf ex1
  refine lv_istore_n (lv' := [(0, .int x1)]) hx hb dJ6_bitCount_0f7a4_9 rfl hl (by decide) rfl (fun ls hl => ?_)
  refine lv_iload_n hx hb dJ6_bitCount_0f7a4_10 rfl (lv_at hl 0 rfl) ?_
  refine lv_ldcw (v := 858993459) hx hb hown (hts _ (List.mem_of_getElem? (i := 2) rfl)) dJ6_bitCount_0f7a4_11 ?_
  refine lv_iand hx hb dJ6_bitCount_0f7a4_14 ?_
  refine lv_iload_n hx hb dJ6_bitCount_0f7a4_15 rfl (lv_at hl 0 rfl) ?_
  refine lv_iconst (v := 2) hx hb dJ6_bitCount_0f7a4_16 (by decide) ?_
  refine lv_iushr hx hb dJ6_bitCount_0f7a4_17 rfl ?_
  refine lv_ldcw (v := 858993459) hx hb hown (hts _ (List.mem_of_getElem? (i := 2) rfl)) dJ6_bitCount_0f7a4_18 ?_
  refine lv_iand hx hb dJ6_bitCount_0f7a4_21 ?_
  refine lv_iadd hx hb dJ6_bitCount_0f7a4_22 ?_
  refine lv_topi (fun x2 ex2 => ?_)
  have hf := nm_s hf ex2
  refine lv_istore_n (lv' := [(0, .int x2)]) hx hb dJ6_bitCount_0f7a4_23 rfl hl (by decide) rfl (fun ls hl => ?_)
  refine lv_iload_n hx hb dJ6_bitCount_0f7a4_24 rfl (lv_at hl 0 rfl) ?_
  refine lv_iload_n hx hb dJ6_bitCount_0f7a4_25 rfl (lv_at hl 0 rfl) ?_
  refine lv_iconst (v := 4) hx hb dJ6_bitCount_0f7a4_26 (by decide) ?_
  refine lv_iushr hx hb dJ6_bitCount_0f7a4_27 rfl ?_
  refine lv_iadd hx hb dJ6_bitCount_0f7a4_28 ?_
  refine lv_ldcw (v := 252645135) hx hb hown (hts _ (List.mem_of_getElem? (i := 3) rfl)) dJ6_bitCount_0f7a4_29 ?_
  refine lv_iand hx hb dJ6_bitCount_0f7a4_32 ?_
  refine lv_topi (fun x3 ex3 => ?_)
  have hf := nm_s hf ex3
  refine lv_istore_n (lv' := [(0, .int x3)]) hx hb dJ6_bitCount_0f7a4_33 rfl hl (by decide) rfl (fun ls hl => ?_)
  refine lv_iload_n hx hb dJ6_bitCount_0f7a4_34 rfl (lv_at hl 0 rfl) ?_
  refine lv_iload_n hx hb dJ6_bitCount_0f7a4_35 rfl (lv_at hl 0 rfl) ?_
  refine lv_bipush (v := 8) hx hb dJ6_bitCount_0f7a4_36 (by decide) ?_
  refine lv_iushr hx hb dJ6_bitCount_0f7a4_38 rfl ?_
  refine lv_iadd hx hb dJ6_bitCount_0f7a4_39 ?_
  refine lv_topi (fun x4 ex4 => ?_)
  have hf := nm_s hf ex4
  refine lv_istore_n (lv' := [(0, .int x4)]) hx hb dJ6_bitCount_0f7a4_40 rfl hl (by decide) rfl (fun ls hl => ?_)
  refine lv_iload_n hx hb dJ6_bitCount_0f7a4_41 rfl (lv_at hl 0 rfl) ?_
  refine lv_iload_n hx hb dJ6_bitCount_0f7a4_42 rfl (lv_at hl 0 rfl) ?_
  refine lv_bipush (v := 16) hx hb dJ6_bitCount_0f7a4_43 (by decide) ?_
  refine lv_iushr hx hb dJ6_bitCount_0f7a4_45 rfl ?_
  refine lv_iadd hx hb dJ6_bitCount_0f7a4_46 ?_
  refine lv_topi (fun x5 ex5 => ?_)
  have hf := nm_s hf ex5
  refine lv_istore_n (lv' := [(0, .int x5)]) hx hb dJ6_bitCount_0f7a4_47 rfl hl (by decide) rfl (fun ls hl => ?_)
  refine lv_iload_n hx hb dJ6_bitCount_0f7a4_48 rfl (lv_at hl 0 rfl) ?_
  refine lv_bipush (v := 63) hx hb dJ6_bitCount_0f7a4_49 (by decide) ?_
  refine lv_iand hx hb dJ6_bitCount_0f7a4_51 ?_
  exact g_iret hx hb hr hlk hP hS (ret1 hf) dJ6_bitCount_0f7a4_52

def J7_fill_53178_B5 (v0 n0 : Nat) (v1 : Int32) : Nat → Int32 → Int32 → HS → Option HS
  | 0, _, _, _ => none
  | fu + 1, v2, v3, h =>
    (if v3 ≤ v2 then
    some h
    else
    gdi v2 n0 <|
    nm (sA h v0 (upd (aI h v0) v2.toNatClampNeg v1)) fun h3 =>
    nm (v2 + 1) fun x5 =>
    (J7_fill_53178_B5 v0 n0 v1 fu) x5 v3 h3)
def J7_fill_53178 (h : HS) (v0 n0 : Nat) (v1 : Int32) : Option HS :=
    nm (Int32.ofNat n0) fun x1 =>
    J7_fill_53178_B5 v0 n0 v1 FU 0 x1 h
def rmJ7_fill_53178 : Room := { frames := 0, cells := 0, slots := 0, locals := 0 }
theorem kdJ7_fill_53178 : yJ7_fill_53178.cls = RJ7 ∧ yJ7_fill_53178.cls ≠ "java/lang/invoke/MethodHandle" ∧ yJ7_fill_53178.cls ≠ "java/lang/invoke/VarHandle" ∧ (parseMethodDescriptor yJ7_fill_53178.desc).map (fun d => d.parameters.length) = some 2 := by decide +kernel
set_option maxHeartbeats 4000000 in
set_option maxRecDepth 100000 in
theorem m_J7_fill_53178 (l : Launch) (D : va_G) (a : Nat → Nat) (C : Nat → ClassId) (ha : ginj a) (h : HS) (v0 n0 : Nat) (v1 : Int32) (hv0 : gAI v0 n0) (h' : HS) (hf : J7_fill_53178 h v0 n0 v1 = some h') : gM l yJ7_fill_53178 wsJ7_fill_53178 rmJ7_fill_53178 D a C [.ref (a v0), .int v1] h none h' := by
  refine g_start (av := [.ref (a v0), .int v1]) (cc := cJ7_fill_53178) (maxL := 4) (rt := none) (by decide) rfl (Nat.le_of_ble_eq_true rfl) ?_
  intro p e s m below meth c hx hb hr hml hown hlk hts hP hK hN ls hl
  have hA : ∀ q, gA a q → gA a q := fun _ q => q
  have hS : va_S (gA a) s.heap s.heap [] := va_S.rf
  have hl : lv_has ls 4 [(0, .ref (a v0)), (1, .int v1)] := hl
  have J5 : ∀ (fu : Nat) (v2 : Int32) (v3 : Int32) (h : HS), J7_fill_53178_B5 v0 n0 v1 fu v2 v3 h = some h' → gG p l e (headSpec wsJ7_fill_53178 rmJ7_fill_53178).room s m ([.ref (a v0), .int v1] : List Value).toArray below meth c (MQ below (gQ none D a C h') ([.ref (a v0), .int v1] : List Value).toArray s 0 0 (gA a)) D a C 4 h 5 [(0, .ref (a v0)), (1, .int v1), (2, .int v2), (3, .int v3)] [] := by
    intro fu
    induction fu with
    | zero => intro v2 v3 h hf; exact absurd hf (by simp [J7_fill_53178_B5])
    | succ fu ih =>
      intro v2 v3 h hf H locs ls hP hS hl
      rw [J7_fill_53178_B5] at hf
      refine lv_iload_n hx hb dJ7_fill_53178_5 rfl (lv_at hl 2 rfl) ?_
      refine lv_iload_n hx hb dJ7_fill_53178_6 rfl (lv_at hl 3 rfl) ?_
      refine lv_icmp_ge (tgt := 20) hx hb dJ7_fill_53178_7 (by decide) (fun c2 => ?_) (fun c2 => ?_)
      · have hf := if_t hf c2
        exact g_vret hx hb hr hlk hP hS (ret1 hf) dJ7_fill_53178_20
      · have hf := if_f hf c2
        refine lv_aload_n hx hb dJ7_fill_53178_10 rfl (lv_at hl 0 rfl) ?_
        refine lv_iload_n hx hb dJ7_fill_53178_11 rfl (lv_at hl 2 rfl) ?_
        refine lv_iload_n hx hb dJ7_fill_53178_12 rfl (lv_at hl 1 rfl) ?_
        obtain ⟨c4, hf⟩ := gdi_s hf
        refine g_ias hx hb hK ha hA hv0 c4 hP hS dJ7_fill_53178_13 (fun H locs hP hS => ?_)
        obtain ⟨h3, eh3⟩ : ∃ x, x = (sA h v0 (upd (aI h v0) v2.toNatClampNeg v1)) := ⟨_, rfl⟩
        rw [← eh3] at hP
        have hf := nm_s hf eh3
        obtain ⟨x5, ex5⟩ : ∃ y : Int32, y = (v2 + 1) := ⟨_, rfl⟩
        have hf := nm_s hf ex5
        refine lv_iinc (v := x5) (lv' := [(2, .int x5), (0, .ref (a v0)), (1, .int v1), (3, .int v3)]) hx hb dJ7_fill_53178_14 hl (k := 2) rfl (by rw [ex5]; rfl) (by decide) rfl (fun ls hl => ?_)
        refine lv_goto (tgt := 5) hx hb dJ7_fill_53178_17 (by decide) ?_
        exact ih x5 v3 h3 hf H locs ls hP hS (lv_sub hl [1, 2, 0, 3] rfl)
  unfold J7_fill_53178 at hf
  suffices hh : ∀ (H : Heap) (locs : List Loc), va_P D vwCl (gw a C h) H → va_S (gA a) s.heap H locs → W p l e (headSpec wsJ7_fill_53178 rmJ7_fill_53178).room s m ([.ref (a v0), .int v1] : List Value).toArray below meth c H locs 0 0 (MQ below (gQ none D a C h') ([.ref (a v0), .int v1] : List Value).toArray s 0 0 (gA a)) (F0 m 0 ls []) from hh _ _ hP hS
  intro H locs hP hS
  refine lv_iconst (v := 0) hx hb dJ7_fill_53178_0 (by decide) ?_
  refine lv_istore_n (lv' := [(2, .int 0), (0, .ref (a v0)), (1, .int v1)]) hx hb dJ7_fill_53178_1 rfl hl (by decide) rfl (fun ls hl => ?_)
  refine lv_aload_n hx hb dJ7_fill_53178_2 rfl (lv_at hl 1 rfl) ?_
  refine g_alenI (v := (Int32.ofNat n0)) hx hb hK hv0 rfl hP dJ7_fill_53178_3 ?_
  refine lv_topi (fun x1 ex1 => ?_)
  have hf := nm_s hf ex1
  refine lv_istore_n (lv' := [(3, .int x1), (2, .int 0), (0, .ref (a v0)), (1, .int v1)]) hx hb dJ7_fill_53178_4 rfl hl (by decide) rfl (fun ls hl => ?_)
  exact J5 FU 0 x1 h hf H locs ls hP hS (lv_sub hl [2, 3, 1, 0] rfl)

def J7_fill_d0a16_B6 (v0 n0 : Nat) (v1 : Int64) : Nat → Int32 → Int32 → HS → Option HS
  | 0, _, _, _ => none
  | fu + 1, v3, v4, h =>
    (if v4 ≤ v3 then
    some h
    else
    gdi v3 n0 <|
    nm (sL h v0 (vp_updL (aL h v0) v3.toNatClampNeg v1)) fun h3 =>
    nm (v3 + 1) fun x5 =>
    (J7_fill_d0a16_B6 v0 n0 v1 fu) x5 v4 h3)
def J7_fill_d0a16 (h : HS) (v0 n0 : Nat) (v1 : Int64) : Option HS :=
    nm (Int32.ofNat n0) fun x1 =>
    J7_fill_d0a16_B6 v0 n0 v1 FU 0 x1 h
def rmJ7_fill_d0a16 : Room := { frames := 0, cells := 0, slots := 0, locals := 0 }
theorem kdJ7_fill_d0a16 : yJ7_fill_d0a16.cls = RJ7 ∧ yJ7_fill_d0a16.cls ≠ "java/lang/invoke/MethodHandle" ∧ yJ7_fill_d0a16.cls ≠ "java/lang/invoke/VarHandle" ∧ (parseMethodDescriptor yJ7_fill_d0a16.desc).map (fun d => d.parameters.length) = some 2 := by decide +kernel
set_option maxHeartbeats 4000000 in
set_option maxRecDepth 100000 in
theorem m_J7_fill_d0a16 (l : Launch) (D : va_G) (a : Nat → Nat) (C : Nat → ClassId) (ha : ginj a) (h : HS) (v0 n0 : Nat) (v1 : Int64) (hv0 : gAL v0 n0) (h' : HS) (hf : J7_fill_d0a16 h v0 n0 v1 = some h') : gM l yJ7_fill_d0a16 wsJ7_fill_d0a16 rmJ7_fill_d0a16 D a C [.ref (a v0), .long v1] h none h' := by
  refine g_start (av := [.ref (a v0), .long v1]) (cc := cJ7_fill_d0a16) (maxL := 5) (rt := none) (by decide) rfl (Nat.le_of_ble_eq_true rfl) ?_
  intro p e s m below meth c hx hb hr hml hown hlk hts hP hK hN ls hl
  have hA : ∀ q, gA a q → gA a q := fun _ q => q
  have hS : va_S (gA a) s.heap s.heap [] := va_S.rf
  have hl : lv_has ls 5 [(0, .ref (a v0)), (1, .long v1)] := hl
  have J6 : ∀ (fu : Nat) (v3 : Int32) (v4 : Int32) (h : HS), J7_fill_d0a16_B6 v0 n0 v1 fu v3 v4 h = some h' → gG p l e (headSpec wsJ7_fill_d0a16 rmJ7_fill_d0a16).room s m ([.ref (a v0), .long v1] : List Value).toArray below meth c (MQ below (gQ none D a C h') ([.ref (a v0), .long v1] : List Value).toArray s 0 0 (gA a)) D a C 5 h 6 [(0, .ref (a v0)), (1, .long v1), (3, .int v3), (4, .int v4)] [] := by
    intro fu
    induction fu with
    | zero => intro v3 v4 h hf; exact absurd hf (by simp [J7_fill_d0a16_B6])
    | succ fu ih =>
      intro v3 v4 h hf H locs ls hP hS hl
      rw [J7_fill_d0a16_B6] at hf
      refine lv_iload_n hx hb dJ7_fill_d0a16_6 rfl (lv_at hl 2 rfl) ?_
      refine lv_iload hx hb dJ7_fill_d0a16_7 (lv_at hl 3 rfl) ?_
      refine lv_icmp_ge (tgt := 22) hx hb dJ7_fill_d0a16_9 (by decide) (fun c2 => ?_) (fun c2 => ?_)
      · have hf := if_t hf c2
        exact g_vret hx hb hr hlk hP hS (ret1 hf) dJ7_fill_d0a16_22
      · have hf := if_f hf c2
        refine lv_aload_n hx hb dJ7_fill_d0a16_12 rfl (lv_at hl 0 rfl) ?_
        refine lv_iload_n hx hb dJ7_fill_d0a16_13 rfl (lv_at hl 2 rfl) ?_
        refine lv_lload_n hx hb dJ7_fill_d0a16_14 rfl (lv_at hl 1 rfl) ?_
        obtain ⟨c4, hf⟩ := gdi_s hf
        refine g_las hx hb hK ha hA hv0 c4 hP hS dJ7_fill_d0a16_15 (fun H locs hP hS => ?_)
        obtain ⟨h3, eh3⟩ : ∃ x, x = (sL h v0 (vp_updL (aL h v0) v3.toNatClampNeg v1)) := ⟨_, rfl⟩
        rw [← eh3] at hP
        have hf := nm_s hf eh3
        obtain ⟨x5, ex5⟩ : ∃ y : Int32, y = (v3 + 1) := ⟨_, rfl⟩
        have hf := nm_s hf ex5
        refine lv_iinc (v := x5) (lv' := [(3, .int x5), (0, .ref (a v0)), (1, .long v1), (4, .int v4)]) hx hb dJ7_fill_d0a16_16 hl (k := 2) rfl (by rw [ex5]; rfl) (by decide) rfl (fun ls hl => ?_)
        refine lv_goto (tgt := 6) hx hb dJ7_fill_d0a16_19 (by decide) ?_
        exact ih x5 v4 h3 hf H locs ls hP hS (lv_sub hl [1, 2, 0, 3] rfl)
  unfold J7_fill_d0a16 at hf
  suffices hh : ∀ (H : Heap) (locs : List Loc), va_P D vwCl (gw a C h) H → va_S (gA a) s.heap H locs → W p l e (headSpec wsJ7_fill_d0a16 rmJ7_fill_d0a16).room s m ([.ref (a v0), .long v1] : List Value).toArray below meth c H locs 0 0 (MQ below (gQ none D a C h') ([.ref (a v0), .long v1] : List Value).toArray s 0 0 (gA a)) (F0 m 0 ls []) from hh _ _ hP hS
  intro H locs hP hS
  refine lv_iconst (v := 0) hx hb dJ7_fill_d0a16_0 (by decide) ?_
  refine lv_istore_n (lv' := [(3, .int 0), (0, .ref (a v0)), (1, .long v1)]) hx hb dJ7_fill_d0a16_1 rfl hl (by decide) rfl (fun ls hl => ?_)
  refine lv_aload_n hx hb dJ7_fill_d0a16_2 rfl (lv_at hl 1 rfl) ?_
  refine g_alenL (v := (Int32.ofNat n0)) hx hb hK hv0 rfl hP dJ7_fill_d0a16_3 ?_
  refine lv_topi (fun x1 ex1 => ?_)
  have hf := nm_s hf ex1
  refine lv_istore (lv' := [(4, .int x1), (3, .int 0), (0, .ref (a v0)), (1, .long v1)]) hx hb dJ7_fill_d0a16_4 hl (by decide) rfl (fun ls hl => ?_)
  exact J6 FU 0 x1 h hf H locs ls hP hS (lv_sub hl [2, 3, 1, 0] rfl)

