/-! the law's cases -/
theorem kdX11_toss : yX11_toss.cls = RX11 ∧ yX11_toss.cls ≠ "java/lang/invoke/MethodHandle" ∧ yX11_toss.cls ≠ "java/lang/invoke/VarHandle" ∧ (parseMethodDescriptor yX11_toss.desc).map (fun d => d.parameters.length) = some 1 := by decide +kernel
theorem kdL_element : yL_element.cls ≠ "java/lang/invoke/MethodHandle" ∧ yL_element.cls ≠ "java/lang/invoke/VarHandle" ∧ (parseMethodDescriptor yL_element.desc).map (fun d => d.parameters.length) = some 4 := by decide +kernel
def lwA (s : State) : Nat → Prop := fun q => s.heap.size ≤ q
def lwC (l : Launch) (p : Program) (s : State) (m : MethodId) (c : Code) (b L : Nat) (xs : Nat → Int32) (D : va_G) (a : Nat → Nat) (C : Nat → ClassId) : Prop := p.tables.exec = Jvm.exec ∧ c.code = cL_law ∧ c.maxLocals = 8 ∧ s.vm.findClass RL = some m.cls ∧ (∀ w ∈ lw_tbl, w.before #[Value.ref b] s = true) ∧ va_X b L xs s s.heap ∧ b < s.heap.size ∧ va_K D vwCl (gty C) s ∧ nestOK s ∧ tW s ∧ tZ (lwA s) s s.heap ∧ ginj a ∧ (∀ q, gA a q → lwA s q) ∧ l.stackTraces = false
theorem law_in {i L k : Nat} (hi : i + 6 ≤ L) (hL : L ≤ 3072) (hk : k < 6) : vp_in (nI i + nI k) L := by
  rw [nI_add]
  exact vp_in_nI (by omega) (by omega)
theorem lcmp_self (r : Int64) : lg_cmp r r = 0 := by
  unfold lg_cmp
  rw [if_neg (Int64.lt_irrefl), if_pos rfl]
def lwK (p : Program) (l : Launch) (e : Env) (s : State) (m : MethodId) (below : List Frame) (meth : Method) (c : Code) (b i : Nat) (D : va_G) (a : Nat → Nat) (C : Nat → ClassId) (cells slots : Nat) (Q : State → Prop) (pc : Nat) (h : HS) : Prop := ∀ (H : Heap) (locs : List Loc) (ls : Array Slot), va_P D vwCl (gw a C h) H → va_S (lwA s) s.heap H locs → lv_has ls 8 [(0, .ref b), (1, .ref (a 0)), (2, .ref (a 66)), (3, .ref (a 82)), (4, .int (nI i))] → W p l e room_1 s m #[Value.ref b] below meth c H locs cells slots Q (F0 m pc ls [])
set_option maxHeartbeats 4000000 in
set_option maxRecDepth 100000 in
theorem lc_0 {l : Launch} {p : Program} {e : Env} {s : State} {m : MethodId} {below : List Frame} {meth : Method} {c : Code} {b L i cells slots : Nat} {xs : Nat → Int32} {D : va_G} {a : Nat → Nat} {C : Nat → ClassId} {Q : State → Prop} {h : HS} (CC : lwC l p s m c b L xs D a C) (I : Inv h) (hi : i + 6 ≤ L) (hL : L ≤ 3072) (hcs : cells + 1 ≤ 601024 ∧ slots + 6 ≤ 7293034) (kk : ∀ h2, Inv h2 → lwK p l e s m below meth c b i D a C (cells + 1) (slots + 6) Q 1500 h2) : lwK p l e s m below meth c b i D a C cells slots Q 204 h := by
  obtain ⟨hx, hb, hml, hown, hts, hX, hbl, hK, hN, hT, hZ, ha, hA, hlT⟩ := CC
  intro H locs ls hP hS hl
  have hbA : ¬ lwA s b := Nat.not_le.mpr hbl
  have hf0 : cells + 0 ≤ room_1.cells ∧ slots + 0 ≤ room_1.slots := ⟨Nat.le_trans (by omega) hcs.1, Nat.le_trans (by omega) hcs.2⟩
  obtain ⟨r, h1, h2, e1, e2, I2⟩ := S_parish I (xs (nI i + 1).toNatClampNeg)
  refine lv_aload_n hx hb dL_law_204 rfl (lv_at hl 1 rfl) ?_
  refine lv_aload_n hx hb dL_law_205 rfl (lv_at hl 0 rfl) ?_
  refine lv_iload hx hb dL_law_206 (lv_at hl 4 rfl) ?_
  refine lv_iconst (v := 1) hx hb dL_law_208 (by decide) ?_
  refine lv_iadd hx hb dL_law_209 ?_
  refine va_sld hx hb hX hbl hbA hS (law_in (k := 1) hi hL (by decide)) dL_law_210 ?_
  refine g_callV (As := [.int (xs (nI i + 1).toNatClampNeg)]) (rest := []) hx hb hml hown hts hK hN (m_X11_parish l D a C ha h (xs (nI i + 1).toNatClampNeg) r h1 e1) (cwV 1 hts (gLup gL_law_X11_parish) rfl rfl rfl kdX11_parish ⟨Nat.le_of_ble_eq_true rfl, Nat.le_of_ble_eq_true rfl⟩) X_O rfl rfl hP hS hA rfl hl.1 rfl (Nat.le_of_ble_eq_true rfl) dL_law_211 hf0 (fun H locs hP hS => ?_)
  refine W.eq (g2 := F0 m 214 ls [.int r]) rfl ?_
  refine lv_aload_n hx hb dL_law_214 rfl (lv_at hl 2 rfl) ?_
  refine lv_aload_n hx hb dL_law_215 rfl (lv_at hl 0 rfl) ?_
  refine lv_iload hx hb dL_law_216 (lv_at hl 4 rfl) ?_
  refine lv_iconst (v := 1) hx hb dL_law_218 (by decide) ?_
  refine lv_iadd hx hb dL_law_219 ?_
  refine va_sld hx hb hX hbl hbA hS (law_in (k := 1) hi hL (by decide)) dL_law_220 ?_
  refine g_callV (As := [.int (xs (nI i + 1).toNatClampNeg)]) (rest := [.int r]) hx hb hml hown hts hK hN (m_X12_parish l D a C ha h1 (xs (nI i + 1).toNatClampNeg) r h2 e2) (cwV 1 hts gL_law_U_parish rfl rfl rfl kdX12_parish ⟨Nat.le_of_ble_eq_true rfl, Nat.le_of_ble_eq_true rfl⟩) M_O rfl rfl hP hS hA rfl hl.1 rfl (Nat.le_of_ble_eq_true rfl) dL_law_221 hf0 (fun H locs hP hS => ?_)
  refine W.eq (g2 := F0 m 224 ls [.int r, .int r]) rfl ?_
  refine lv_icmp_eq (tgt := 1500) hx hb dL_law_224 (by decide) (fun _ => ?_) (fun c9 => absurd rfl c9)
  refine W.widen (k := cells + 1) (n := slots + 6) (by omega) (by omega) ?_
  exact kk h2 I2 H locs ls hP hS hl
set_option maxHeartbeats 4000000 in
set_option maxRecDepth 100000 in
theorem lc_1 {l : Launch} {p : Program} {e : Env} {s : State} {m : MethodId} {below : List Frame} {meth : Method} {c : Code} {b L i cells slots : Nat} {xs : Nat → Int32} {D : va_G} {a : Nat → Nat} {C : Nat → ClassId} {Q : State → Prop} {h : HS} (CC : lwC l p s m c b L xs D a C) (I : Inv h) (hi : i + 6 ≤ L) (hL : L ≤ 3072) (hcs : cells + 1 ≤ 601024 ∧ slots + 6 ≤ 7293034) (kk : ∀ h2, Inv h2 → lwK p l e s m below meth c b i D a C (cells + 1) (slots + 6) Q 1500 h2) : lwK p l e s m below meth c b i D a C cells slots Q 229 h := by
  obtain ⟨hx, hb, hml, hown, hts, hX, hbl, hK, hN, hT, hZ, ha, hA, hlT⟩ := CC
  intro H locs ls hP hS hl
  have hbA : ¬ lwA s b := Nat.not_le.mpr hbl
  have hf0 : cells + 0 ≤ room_1.cells ∧ slots + 0 ≤ room_1.slots := ⟨Nat.le_trans (by omega) hcs.1, Nat.le_trans (by omega) hcs.2⟩
  obtain ⟨⟨n, kn, kd, fg, hd, dm, dy, N⟩, -⟩ := id I
  obtain ⟨r, e1, e2⟩ := S_one N (xs (nI i + 1).toNatClampNeg) (xs (nI i + 2).toNatClampNeg)
  refine lv_aload_n hx hb dL_law_229 rfl (lv_at hl 1 rfl) ?_
  refine lv_aload_n hx hb dL_law_230 rfl (lv_at hl 0 rfl) ?_
  refine lv_iload hx hb dL_law_231 (lv_at hl 4 rfl) ?_
  refine lv_iconst (v := 1) hx hb dL_law_233 (by decide) ?_
  refine lv_iadd hx hb dL_law_234 ?_
  refine va_sld hx hb hX hbl hbA hS (law_in (k := 1) hi hL (by decide)) dL_law_235 ?_
  refine lv_aload_n hx hb dL_law_236 rfl (lv_at hl 0 rfl) ?_
  refine lv_iload hx hb dL_law_237 (lv_at hl 4 rfl) ?_
  refine lv_iconst (v := 2) hx hb dL_law_239 (by decide) ?_
  refine lv_iadd hx hb dL_law_240 ?_
  refine va_sld hx hb hX hbl hbA hS (law_in (k := 2) hi hL (by decide)) dL_law_241 ?_
  refine g_callV (As := [.int (xs (nI i + 1).toNatClampNeg), .int (xs (nI i + 2).toNatClampNeg)]) (rest := []) hx hb hml hown hts hK hN (m_X11_one l D a C ha h (xs (nI i + 1).toNatClampNeg) (xs (nI i + 2).toNatClampNeg) r e1) (cwV 2 hts (gLup gL_law_X11_one) rfl rfl rfl kdX11_one ⟨Nat.le_of_ble_eq_true rfl, Nat.le_of_ble_eq_true rfl⟩) X_O rfl rfl hP hS hA rfl hl.1 rfl (Nat.le_of_ble_eq_true rfl) dL_law_242 hf0 (fun H locs hP hS => ?_)
  refine W.eq (g2 := F0 m 245 ls [.int r]) rfl ?_
  refine lv_aload_n hx hb dL_law_245 rfl (lv_at hl 2 rfl) ?_
  refine lv_aload_n hx hb dL_law_246 rfl (lv_at hl 0 rfl) ?_
  refine lv_iload hx hb dL_law_247 (lv_at hl 4 rfl) ?_
  refine lv_iconst (v := 1) hx hb dL_law_249 (by decide) ?_
  refine lv_iadd hx hb dL_law_250 ?_
  refine va_sld hx hb hX hbl hbA hS (law_in (k := 1) hi hL (by decide)) dL_law_251 ?_
  refine lv_aload_n hx hb dL_law_252 rfl (lv_at hl 0 rfl) ?_
  refine lv_iload hx hb dL_law_253 (lv_at hl 4 rfl) ?_
  refine lv_iconst (v := 2) hx hb dL_law_255 (by decide) ?_
  refine lv_iadd hx hb dL_law_256 ?_
  refine va_sld hx hb hX hbl hbA hS (law_in (k := 2) hi hL (by decide)) dL_law_257 ?_
  refine g_callV (As := [.int (xs (nI i + 1).toNatClampNeg), .int (xs (nI i + 2).toNatClampNeg)]) (rest := [.int r]) hx hb hml hown hts hK hN (m_X12_one l D a C ha h (xs (nI i + 1).toNatClampNeg) (xs (nI i + 2).toNatClampNeg) r e2) (cwV 2 hts gL_law_U_one rfl rfl rfl kdX12_one ⟨Nat.le_of_ble_eq_true rfl, Nat.le_of_ble_eq_true rfl⟩) M_O rfl rfl hP hS hA rfl hl.1 rfl (Nat.le_of_ble_eq_true rfl) dL_law_258 hf0 (fun H locs hP hS => ?_)
  refine W.eq (g2 := F0 m 261 ls [.int r, .int r]) rfl ?_
  refine lv_icmp_eq (tgt := 1500) hx hb dL_law_261 (by decide) (fun _ => ?_) (fun c9 => absurd rfl c9)
  refine W.widen (k := cells + 1) (n := slots + 6) (by omega) (by omega) ?_
  exact kk h I H locs ls hP hS hl
set_option maxHeartbeats 4000000 in
set_option maxRecDepth 100000 in
theorem lc_2 {l : Launch} {p : Program} {e : Env} {s : State} {m : MethodId} {below : List Frame} {meth : Method} {c : Code} {b L i cells slots : Nat} {xs : Nat → Int32} {D : va_G} {a : Nat → Nat} {C : Nat → ClassId} {Q : State → Prop} {h : HS} (CC : lwC l p s m c b L xs D a C) (I : Inv h) (hi : i + 6 ≤ L) (hL : L ≤ 3072) (hcs : cells + 1 ≤ 601024 ∧ slots + 6 ≤ 7293034) (kk : ∀ h2, Inv h2 → lwK p l e s m below meth c b i D a C (cells + 1) (slots + 6) Q 1500 h2) : lwK p l e s m below meth c b i D a C cells slots Q 266 h := by
  obtain ⟨hx, hb, hml, hown, hts, hX, hbl, hK, hN, hT, hZ, ha, hA, hlT⟩ := CC
  intro H locs ls hP hS hl
  have hbA : ¬ lwA s b := Nat.not_le.mpr hbl
  have hf0 : cells + 0 ≤ room_1.cells ∧ slots + 0 ≤ room_1.slots := ⟨Nat.le_trans (by omega) hcs.1, Nat.le_trans (by omega) hcs.2⟩
  obtain ⟨r, h1, h2, e1, e2, I2⟩ := S_comes I (xs (nI i + 1).toNatClampNeg)
  refine lv_aload_n hx hb dL_law_266 rfl (lv_at hl 1 rfl) ?_
  refine lv_aload_n hx hb dL_law_267 rfl (lv_at hl 0 rfl) ?_
  refine lv_iload hx hb dL_law_268 (lv_at hl 4 rfl) ?_
  refine lv_iconst (v := 1) hx hb dL_law_270 (by decide) ?_
  refine lv_iadd hx hb dL_law_271 ?_
  refine va_sld hx hb hX hbl hbA hS (law_in (k := 1) hi hL (by decide)) dL_law_272 ?_
  refine g_callV (As := [.int (xs (nI i + 1).toNatClampNeg)]) (rest := []) hx hb hml hown hts hK hN (m_X11_comes l D a C ha h (xs (nI i + 1).toNatClampNeg) r h1 e1) (cwV 1 hts (gLup gL_law_X11_comes) rfl rfl rfl kdX11_comes ⟨Nat.le_of_ble_eq_true rfl, Nat.le_of_ble_eq_true rfl⟩) X_O rfl rfl hP hS hA rfl hl.1 rfl (Nat.le_of_ble_eq_true rfl) dL_law_273 hf0 (fun H locs hP hS => ?_)
  refine W.eq (g2 := F0 m 276 ls [.int r]) rfl ?_
  refine lv_aload_n hx hb dL_law_276 rfl (lv_at hl 2 rfl) ?_
  refine lv_aload_n hx hb dL_law_277 rfl (lv_at hl 0 rfl) ?_
  refine lv_iload hx hb dL_law_278 (lv_at hl 4 rfl) ?_
  refine lv_iconst (v := 1) hx hb dL_law_280 (by decide) ?_
  refine lv_iadd hx hb dL_law_281 ?_
  refine va_sld hx hb hX hbl hbA hS (law_in (k := 1) hi hL (by decide)) dL_law_282 ?_
  refine g_callV (As := [.int (xs (nI i + 1).toNatClampNeg)]) (rest := [.int r]) hx hb hml hown hts hK hN (m_X12_comes l D a C ha h1 (xs (nI i + 1).toNatClampNeg) r h2 e2) (cwV 1 hts gL_law_U_comes rfl rfl rfl kdX12_comes ⟨Nat.le_of_ble_eq_true rfl, Nat.le_of_ble_eq_true rfl⟩) M_O rfl rfl hP hS hA rfl hl.1 rfl (Nat.le_of_ble_eq_true rfl) dL_law_283 hf0 (fun H locs hP hS => ?_)
  refine W.eq (g2 := F0 m 286 ls [.int r, .int r]) rfl ?_
  refine lv_icmp_eq (tgt := 1500) hx hb dL_law_286 (by decide) (fun _ => ?_) (fun c9 => absurd rfl c9)
  refine W.widen (k := cells + 1) (n := slots + 6) (by omega) (by omega) ?_
  exact kk h2 I2 H locs ls hP hS hl
set_option maxHeartbeats 4000000 in
set_option maxRecDepth 100000 in
theorem lc_3 {l : Launch} {p : Program} {e : Env} {s : State} {m : MethodId} {below : List Frame} {meth : Method} {c : Code} {b L i cells slots : Nat} {xs : Nat → Int32} {D : va_G} {a : Nat → Nat} {C : Nat → ClassId} {Q : State → Prop} {h : HS} (CC : lwC l p s m c b L xs D a C) (I : Inv h) (hi : i + 6 ≤ L) (hL : L ≤ 3072) (hcs : cells + 1 ≤ 601024 ∧ slots + 6 ≤ 7293034) (kk : ∀ h2, Inv h2 → lwK p l e s m below meth c b i D a C (cells + 1) (slots + 6) Q 1500 h2) : lwK p l e s m below meth c b i D a C cells slots Q 291 h := by
  obtain ⟨hx, hb, hml, hown, hts, hX, hbl, hK, hN, hT, hZ, ha, hA, hlT⟩ := CC
  intro H locs ls hP hS hl
  have hbA : ¬ lwA s b := Nat.not_le.mpr hbl
  have hf0 : cells + 0 ≤ room_1.cells ∧ slots + 0 ≤ room_1.slots := ⟨Nat.le_trans (by omega) hcs.1, Nat.le_trans (by omega) hcs.2⟩
  obtain ⟨r, h1, h2, e1, e2, I2⟩ := S_line I (xs (nI i + 1).toNatClampNeg) (xs (nI i + 2).toNatClampNeg)
  refine lv_aload_n hx hb dL_law_291 rfl (lv_at hl 1 rfl) ?_
  refine lv_aload_n hx hb dL_law_292 rfl (lv_at hl 0 rfl) ?_
  refine lv_iload hx hb dL_law_293 (lv_at hl 4 rfl) ?_
  refine lv_iconst (v := 1) hx hb dL_law_295 (by decide) ?_
  refine lv_iadd hx hb dL_law_296 ?_
  refine va_sld hx hb hX hbl hbA hS (law_in (k := 1) hi hL (by decide)) dL_law_297 ?_
  refine lv_aload_n hx hb dL_law_298 rfl (lv_at hl 0 rfl) ?_
  refine lv_iload hx hb dL_law_299 (lv_at hl 4 rfl) ?_
  refine lv_iconst (v := 2) hx hb dL_law_301 (by decide) ?_
  refine lv_iadd hx hb dL_law_302 ?_
  refine va_sld hx hb hX hbl hbA hS (law_in (k := 2) hi hL (by decide)) dL_law_303 ?_
  refine g_callV (As := [.int (xs (nI i + 1).toNatClampNeg), .int (xs (nI i + 2).toNatClampNeg)]) (rest := []) hx hb hml hown hts hK hN (m_X11_line l D a C ha h (xs (nI i + 1).toNatClampNeg) (xs (nI i + 2).toNatClampNeg) r h1 e1) (cwV 2 hts (gLup gL_law_X11_line) rfl rfl rfl kdX11_line ⟨Nat.le_of_ble_eq_true rfl, Nat.le_of_ble_eq_true rfl⟩) X_O rfl rfl hP hS hA rfl hl.1 rfl (Nat.le_of_ble_eq_true rfl) dL_law_304 hf0 (fun H locs hP hS => ?_)
  refine W.eq (g2 := F0 m 307 ls [.int r]) rfl ?_
  refine lv_aload_n hx hb dL_law_307 rfl (lv_at hl 2 rfl) ?_
  refine lv_aload_n hx hb dL_law_308 rfl (lv_at hl 0 rfl) ?_
  refine lv_iload hx hb dL_law_309 (lv_at hl 4 rfl) ?_
  refine lv_iconst (v := 1) hx hb dL_law_311 (by decide) ?_
  refine lv_iadd hx hb dL_law_312 ?_
  refine va_sld hx hb hX hbl hbA hS (law_in (k := 1) hi hL (by decide)) dL_law_313 ?_
  refine lv_aload_n hx hb dL_law_314 rfl (lv_at hl 0 rfl) ?_
  refine lv_iload hx hb dL_law_315 (lv_at hl 4 rfl) ?_
  refine lv_iconst (v := 2) hx hb dL_law_317 (by decide) ?_
  refine lv_iadd hx hb dL_law_318 ?_
  refine va_sld hx hb hX hbl hbA hS (law_in (k := 2) hi hL (by decide)) dL_law_319 ?_
  refine g_callV (As := [.int (xs (nI i + 1).toNatClampNeg), .int (xs (nI i + 2).toNatClampNeg)]) (rest := [.int r]) hx hb hml hown hts hK hN (m_X12_line l D a C ha h1 (xs (nI i + 1).toNatClampNeg) (xs (nI i + 2).toNatClampNeg) r h2 e2) (cwV 2 hts gL_law_U_line rfl rfl rfl kdX12_line ⟨Nat.le_of_ble_eq_true rfl, Nat.le_of_ble_eq_true rfl⟩) M_O rfl rfl hP hS hA rfl hl.1 rfl (Nat.le_of_ble_eq_true rfl) dL_law_320 hf0 (fun H locs hP hS => ?_)
  refine W.eq (g2 := F0 m 323 ls [.int r, .int r]) rfl ?_
  refine lv_icmp_eq (tgt := 1500) hx hb dL_law_323 (by decide) (fun _ => ?_) (fun c9 => absurd rfl c9)
  refine W.widen (k := cells + 1) (n := slots + 6) (by omega) (by omega) ?_
  exact kk h2 I2 H locs ls hP hS hl
set_option maxHeartbeats 4000000 in
set_option maxRecDepth 100000 in
theorem lc_4 {l : Launch} {p : Program} {e : Env} {s : State} {m : MethodId} {below : List Frame} {meth : Method} {c : Code} {b L i cells slots : Nat} {xs : Nat → Int32} {D : va_G} {a : Nat → Nat} {C : Nat → ClassId} {Q : State → Prop} {h : HS} (CC : lwC l p s m c b L xs D a C) (I : Inv h) (hi : i + 6 ≤ L) (hL : L ≤ 3072) (hcs : cells + 1 ≤ 601024 ∧ slots + 6 ≤ 7293034) (kk : ∀ h2, Inv h2 → lwK p l e s m below meth c b i D a C (cells + 1) (slots + 6) Q 1500 h2) : lwK p l e s m below meth c b i D a C cells slots Q 328 h := by
  obtain ⟨hx, hb, hml, hown, hts, hX, hbl, hK, hN, hT, hZ, ha, hA, hlT⟩ := CC
  intro H locs ls hP hS hl
  have hbA : ¬ lwA s b := Nat.not_le.mpr hbl
  have hf0 : cells + 0 ≤ room_1.cells ∧ slots + 0 ≤ room_1.slots := ⟨Nat.le_trans (by omega) hcs.1, Nat.le_trans (by omega) hcs.2⟩
  obtain ⟨r, h1, h2, e1, e2, I2⟩ := S_told I (xs (nI i + 1).toNatClampNeg)
  refine lv_aload_n hx hb dL_law_328 rfl (lv_at hl 1 rfl) ?_
  refine lv_aload_n hx hb dL_law_329 rfl (lv_at hl 0 rfl) ?_
  refine lv_iload hx hb dL_law_330 (lv_at hl 4 rfl) ?_
  refine lv_iconst (v := 1) hx hb dL_law_332 (by decide) ?_
  refine lv_iadd hx hb dL_law_333 ?_
  refine va_sld hx hb hX hbl hbA hS (law_in (k := 1) hi hL (by decide)) dL_law_334 ?_
  refine g_callV (As := [.int (xs (nI i + 1).toNatClampNeg)]) (rest := []) hx hb hml hown hts hK hN (m_X11_told l D a C ha h (xs (nI i + 1).toNatClampNeg) r h1 e1) (cwV 1 hts (gLup gL_law_X11_told) rfl rfl rfl kdX11_told ⟨Nat.le_of_ble_eq_true rfl, Nat.le_of_ble_eq_true rfl⟩) X_O rfl rfl hP hS hA rfl hl.1 rfl (Nat.le_of_ble_eq_true rfl) dL_law_335 hf0 (fun H locs hP hS => ?_)
  refine W.eq (g2 := F0 m 338 ls [.int r]) rfl ?_
  refine lv_aload_n hx hb dL_law_338 rfl (lv_at hl 2 rfl) ?_
  refine lv_aload_n hx hb dL_law_339 rfl (lv_at hl 0 rfl) ?_
  refine lv_iload hx hb dL_law_340 (lv_at hl 4 rfl) ?_
  refine lv_iconst (v := 1) hx hb dL_law_342 (by decide) ?_
  refine lv_iadd hx hb dL_law_343 ?_
  refine va_sld hx hb hX hbl hbA hS (law_in (k := 1) hi hL (by decide)) dL_law_344 ?_
  refine g_callV (As := [.int (xs (nI i + 1).toNatClampNeg)]) (rest := [.int r]) hx hb hml hown hts hK hN (m_X12_told l D a C ha h1 (xs (nI i + 1).toNatClampNeg) r h2 e2) (cwV 1 hts gL_law_U_told rfl rfl rfl kdX12_told ⟨Nat.le_of_ble_eq_true rfl, Nat.le_of_ble_eq_true rfl⟩) M_O rfl rfl hP hS hA rfl hl.1 rfl (Nat.le_of_ble_eq_true rfl) dL_law_345 hf0 (fun H locs hP hS => ?_)
  refine W.eq (g2 := F0 m 348 ls [.int r, .int r]) rfl ?_
  refine lv_icmp_eq (tgt := 1500) hx hb dL_law_348 (by decide) (fun _ => ?_) (fun c9 => absurd rfl c9)
  refine W.widen (k := cells + 1) (n := slots + 6) (by omega) (by omega) ?_
  exact kk h2 I2 H locs ls hP hS hl
set_option maxHeartbeats 4000000 in
set_option maxRecDepth 100000 in
theorem lc_5 {l : Launch} {p : Program} {e : Env} {s : State} {m : MethodId} {below : List Frame} {meth : Method} {c : Code} {b L i cells slots : Nat} {xs : Nat → Int32} {D : va_G} {a : Nat → Nat} {C : Nat → ClassId} {Q : State → Prop} {h : HS} (CC : lwC l p s m c b L xs D a C) (I : Inv h) (hi : i + 6 ≤ L) (hL : L ≤ 3072) (hcs : cells + 1 ≤ 601024 ∧ slots + 6 ≤ 7293034) (kk : ∀ h2, Inv h2 → lwK p l e s m below meth c b i D a C (cells + 1) (slots + 6) Q 1500 h2) : lwK p l e s m below meth c b i D a C cells slots Q 353 h := by
  obtain ⟨hx, hb, hml, hown, hts, hX, hbl, hK, hN, hT, hZ, ha, hA, hlT⟩ := CC
  intro H locs ls hP hS hl
  have hbA : ¬ lwA s b := Nat.not_le.mpr hbl
  have hf0 : cells + 0 ≤ room_1.cells ∧ slots + 0 ≤ room_1.slots := ⟨Nat.le_trans (by omega) hcs.1, Nat.le_trans (by omega) hcs.2⟩
  obtain ⟨r, h1, h2, e1, e2, I2⟩ := S_days I (xs (nI i + 1).toNatClampNeg)
  refine lv_aload_n hx hb dL_law_353 rfl (lv_at hl 1 rfl) ?_
  refine lv_aload_n hx hb dL_law_354 rfl (lv_at hl 0 rfl) ?_
  refine lv_iload hx hb dL_law_355 (lv_at hl 4 rfl) ?_
  refine lv_iconst (v := 1) hx hb dL_law_357 (by decide) ?_
  refine lv_iadd hx hb dL_law_358 ?_
  refine va_sld hx hb hX hbl hbA hS (law_in (k := 1) hi hL (by decide)) dL_law_359 ?_
  refine g_callV (As := [.int (xs (nI i + 1).toNatClampNeg)]) (rest := []) hx hb hml hown hts hK hN (m_X11_days l D a C ha h (xs (nI i + 1).toNatClampNeg) r h1 e1) (cwV 1 hts (gLup gL_law_X11_days) rfl rfl rfl kdX11_days ⟨Nat.le_of_ble_eq_true rfl, Nat.le_of_ble_eq_true rfl⟩) X_O rfl rfl hP hS hA rfl hl.1 rfl (Nat.le_of_ble_eq_true rfl) dL_law_360 hf0 (fun H locs hP hS => ?_)
  refine W.eq (g2 := F0 m 363 ls [.int r]) rfl ?_
  refine lv_aload_n hx hb dL_law_363 rfl (lv_at hl 2 rfl) ?_
  refine lv_aload_n hx hb dL_law_364 rfl (lv_at hl 0 rfl) ?_
  refine lv_iload hx hb dL_law_365 (lv_at hl 4 rfl) ?_
  refine lv_iconst (v := 1) hx hb dL_law_367 (by decide) ?_
  refine lv_iadd hx hb dL_law_368 ?_
  refine va_sld hx hb hX hbl hbA hS (law_in (k := 1) hi hL (by decide)) dL_law_369 ?_
  refine g_callV (As := [.int (xs (nI i + 1).toNatClampNeg)]) (rest := [.int r]) hx hb hml hown hts hK hN (m_X12_days l D a C ha h1 (xs (nI i + 1).toNatClampNeg) r h2 e2) (cwV 1 hts gL_law_U_days rfl rfl rfl kdX12_days ⟨Nat.le_of_ble_eq_true rfl, Nat.le_of_ble_eq_true rfl⟩) M_O rfl rfl hP hS hA rfl hl.1 rfl (Nat.le_of_ble_eq_true rfl) dL_law_370 hf0 (fun H locs hP hS => ?_)
  refine W.eq (g2 := F0 m 373 ls [.int r, .int r]) rfl ?_
  refine lv_icmp_eq (tgt := 1500) hx hb dL_law_373 (by decide) (fun _ => ?_) (fun c9 => absurd rfl c9)
  refine W.widen (k := cells + 1) (n := slots + 6) (by omega) (by omega) ?_
  exact kk h2 I2 H locs ls hP hS hl
set_option maxHeartbeats 4000000 in
set_option maxRecDepth 100000 in
theorem lc_6 {l : Launch} {p : Program} {e : Env} {s : State} {m : MethodId} {below : List Frame} {meth : Method} {c : Code} {b L i cells slots : Nat} {xs : Nat → Int32} {D : va_G} {a : Nat → Nat} {C : Nat → ClassId} {Q : State → Prop} {h : HS} (CC : lwC l p s m c b L xs D a C) (I : Inv h) (hi : i + 6 ≤ L) (hL : L ≤ 3072) (hcs : cells + 1 ≤ 601024 ∧ slots + 6 ≤ 7293034) (kk : ∀ h2, Inv h2 → lwK p l e s m below meth c b i D a C (cells + 1) (slots + 6) Q 1500 h2) : lwK p l e s m below meth c b i D a C cells slots Q 378 h := by
  obtain ⟨hx, hb, hml, hown, hts, hX, hbl, hK, hN, hT, hZ, ha, hA, hlT⟩ := CC
  intro H locs ls hP hS hl
  have hbA : ¬ lwA s b := Nat.not_le.mpr hbl
  have hf0 : cells + 0 ≤ room_1.cells ∧ slots + 0 ≤ room_1.slots := ⟨Nat.le_trans (by omega) hcs.1, Nat.le_trans (by omega) hcs.2⟩
  obtain ⟨⟨n, kn, kd, fg, hd, dm, dy, N⟩, -⟩ := id I
  obtain ⟨r, e1, e2⟩ : ∃ r, X11_mean h (xs (nI i + 1).toNatClampNeg) = some r ∧ X12_mean h (xs (nI i + 1).toNatClampNeg) = some r := ⟨_, S_mean N (xs (nI i + 1).toNatClampNeg)⟩
  refine lv_aload_n hx hb dL_law_378 rfl (lv_at hl 1 rfl) ?_
  refine lv_aload_n hx hb dL_law_379 rfl (lv_at hl 0 rfl) ?_
  refine lv_iload hx hb dL_law_380 (lv_at hl 4 rfl) ?_
  refine lv_iconst (v := 1) hx hb dL_law_382 (by decide) ?_
  refine lv_iadd hx hb dL_law_383 ?_
  refine va_sld hx hb hX hbl hbA hS (law_in (k := 1) hi hL (by decide)) dL_law_384 ?_
  refine g_callV (As := [.int (xs (nI i + 1).toNatClampNeg)]) (rest := []) hx hb hml hown hts hK hN (m_X11_mean l D a C ha h (xs (nI i + 1).toNatClampNeg) r e1) (cwV 1 hts (gLup gL_law_X11_mean) rfl rfl rfl kdX11_mean ⟨Nat.le_of_ble_eq_true rfl, Nat.le_of_ble_eq_true rfl⟩) X_O rfl rfl hP hS hA rfl hl.1 rfl (Nat.le_of_ble_eq_true rfl) dL_law_385 hf0 (fun H locs hP hS => ?_)
  refine W.eq (g2 := F0 m 388 ls [.long r]) rfl ?_
  refine lv_aload_n hx hb dL_law_388 rfl (lv_at hl 2 rfl) ?_
  refine lv_aload_n hx hb dL_law_389 rfl (lv_at hl 0 rfl) ?_
  refine lv_iload hx hb dL_law_390 (lv_at hl 4 rfl) ?_
  refine lv_iconst (v := 1) hx hb dL_law_392 (by decide) ?_
  refine lv_iadd hx hb dL_law_393 ?_
  refine va_sld hx hb hX hbl hbA hS (law_in (k := 1) hi hL (by decide)) dL_law_394 ?_
  refine g_callV (As := [.int (xs (nI i + 1).toNatClampNeg)]) (rest := [.long r]) hx hb hml hown hts hK hN (m_X12_mean l D a C ha h (xs (nI i + 1).toNatClampNeg) r e2) (cwV 1 hts gL_law_U_mean rfl rfl rfl kdX12_mean ⟨Nat.le_of_ble_eq_true rfl, Nat.le_of_ble_eq_true rfl⟩) M_O rfl rfl hP hS hA rfl hl.1 rfl (Nat.le_of_ble_eq_true rfl) dL_law_395 hf0 (fun H locs hP hS => ?_)
  refine W.eq (g2 := F0 m 398 ls [.long r, .long r]) rfl ?_
  refine W.lcmp hx hb dL_law_398 ?_
  refine lv_if_eq (tgt := 1500) hx hb dL_law_399 (by decide) (fun _ => ?_) (fun c9 => absurd (lcmp_self r) c9)
  refine W.widen (k := cells + 1) (n := slots + 6) (by omega) (by omega) ?_
  exact kk h I H locs ls hP hS hl
set_option maxHeartbeats 4000000 in
set_option maxRecDepth 100000 in
theorem lc_7 {l : Launch} {p : Program} {e : Env} {s : State} {m : MethodId} {below : List Frame} {meth : Method} {c : Code} {b L i cells slots : Nat} {xs : Nat → Int32} {D : va_G} {a : Nat → Nat} {C : Nat → ClassId} {Q : State → Prop} {h : HS} (CC : lwC l p s m c b L xs D a C) (I : Inv h) (hi : i + 6 ≤ L) (hL : L ≤ 3072) (hcs : cells + 1 ≤ 601024 ∧ slots + 6 ≤ 7293034) (kk : ∀ h2, Inv h2 → lwK p l e s m below meth c b i D a C (cells + 1) (slots + 6) Q 1500 h2) : lwK p l e s m below meth c b i D a C cells slots Q 404 h := by
  obtain ⟨hx, hb, hml, hown, hts, hX, hbl, hK, hN, hT, hZ, ha, hA, hlT⟩ := CC
  intro H locs ls hP hS hl
  have hbA : ¬ lwA s b := Nat.not_le.mpr hbl
  have hf0 : cells + 0 ≤ room_1.cells ∧ slots + 0 ≤ room_1.slots := ⟨Nat.le_trans (by omega) hcs.1, Nat.le_trans (by omega) hcs.2⟩
  obtain ⟨⟨n, kn, kd, fg, hd, dm, dy, N⟩, -⟩ := id I
  obtain ⟨r, e1, e2⟩ := S_known N (xs (nI i + 1).toNatClampNeg) (xs (nI i + 2).toNatClampNeg)
  refine lv_aload_n hx hb dL_law_404 rfl (lv_at hl 1 rfl) ?_
  refine lv_aload_n hx hb dL_law_405 rfl (lv_at hl 0 rfl) ?_
  refine lv_iload hx hb dL_law_406 (lv_at hl 4 rfl) ?_
  refine lv_iconst (v := 1) hx hb dL_law_408 (by decide) ?_
  refine lv_iadd hx hb dL_law_409 ?_
  refine va_sld hx hb hX hbl hbA hS (law_in (k := 1) hi hL (by decide)) dL_law_410 ?_
  refine lv_aload_n hx hb dL_law_411 rfl (lv_at hl 0 rfl) ?_
  refine lv_iload hx hb dL_law_412 (lv_at hl 4 rfl) ?_
  refine lv_iconst (v := 2) hx hb dL_law_414 (by decide) ?_
  refine lv_iadd hx hb dL_law_415 ?_
  refine va_sld hx hb hX hbl hbA hS (law_in (k := 2) hi hL (by decide)) dL_law_416 ?_
  refine g_callV (As := [.int (xs (nI i + 1).toNatClampNeg), .int (xs (nI i + 2).toNatClampNeg)]) (rest := []) hx hb hml hown hts hK hN (m_X11_known l D a C ha h (xs (nI i + 1).toNatClampNeg) (xs (nI i + 2).toNatClampNeg) r e1) (cwV 2 hts (gLup gL_law_X11_known) rfl rfl rfl kdX11_known ⟨Nat.le_of_ble_eq_true rfl, Nat.le_of_ble_eq_true rfl⟩) X_O rfl rfl hP hS hA rfl hl.1 rfl (Nat.le_of_ble_eq_true rfl) dL_law_417 hf0 (fun H locs hP hS => ?_)
  refine W.eq (g2 := F0 m 420 ls [.long r]) rfl ?_
  refine lv_aload_n hx hb dL_law_420 rfl (lv_at hl 2 rfl) ?_
  refine lv_aload_n hx hb dL_law_421 rfl (lv_at hl 0 rfl) ?_
  refine lv_iload hx hb dL_law_422 (lv_at hl 4 rfl) ?_
  refine lv_iconst (v := 1) hx hb dL_law_424 (by decide) ?_
  refine lv_iadd hx hb dL_law_425 ?_
  refine va_sld hx hb hX hbl hbA hS (law_in (k := 1) hi hL (by decide)) dL_law_426 ?_
  refine lv_aload_n hx hb dL_law_427 rfl (lv_at hl 0 rfl) ?_
  refine lv_iload hx hb dL_law_428 (lv_at hl 4 rfl) ?_
  refine lv_iconst (v := 2) hx hb dL_law_430 (by decide) ?_
  refine lv_iadd hx hb dL_law_431 ?_
  refine va_sld hx hb hX hbl hbA hS (law_in (k := 2) hi hL (by decide)) dL_law_432 ?_
  refine g_callV (As := [.int (xs (nI i + 1).toNatClampNeg), .int (xs (nI i + 2).toNatClampNeg)]) (rest := [.long r]) hx hb hml hown hts hK hN (m_X12_known l D a C ha h (xs (nI i + 1).toNatClampNeg) (xs (nI i + 2).toNatClampNeg) r e2) (cwV 2 hts gL_law_U_known rfl rfl rfl kdX12_known ⟨Nat.le_of_ble_eq_true rfl, Nat.le_of_ble_eq_true rfl⟩) M_O rfl rfl hP hS hA rfl hl.1 rfl (Nat.le_of_ble_eq_true rfl) dL_law_433 hf0 (fun H locs hP hS => ?_)
  refine W.eq (g2 := F0 m 436 ls [.long r, .long r]) rfl ?_
  refine W.lcmp hx hb dL_law_436 ?_
  refine lv_if_eq (tgt := 1500) hx hb dL_law_437 (by decide) (fun _ => ?_) (fun c9 => absurd (lcmp_self r) c9)
  refine W.widen (k := cells + 1) (n := slots + 6) (by omega) (by omega) ?_
  exact kk h I H locs ls hP hS hl
set_option maxHeartbeats 4000000 in
set_option maxRecDepth 100000 in
theorem lc_8 {l : Launch} {p : Program} {e : Env} {s : State} {m : MethodId} {below : List Frame} {meth : Method} {c : Code} {b L i cells slots : Nat} {xs : Nat → Int32} {D : va_G} {a : Nat → Nat} {C : Nat → ClassId} {Q : State → Prop} {h : HS} (CC : lwC l p s m c b L xs D a C) (I : Inv h) (hi : i + 6 ≤ L) (hL : L ≤ 3072) (hcs : cells + 1 ≤ 601024 ∧ slots + 6 ≤ 7293034) (kk : ∀ h2, Inv h2 → lwK p l e s m below meth c b i D a C (cells + 1) (slots + 6) Q 1500 h2) : lwK p l e s m below meth c b i D a C cells slots Q 442 h := by
  obtain ⟨hx, hb, hml, hown, hts, hX, hbl, hK, hN, hT, hZ, ha, hA, hlT⟩ := CC
  intro H locs ls hP hS hl
  have hbA : ¬ lwA s b := Nat.not_le.mpr hbl
  have hf0 : cells + 0 ≤ room_1.cells ∧ slots + 0 ≤ room_1.slots := ⟨Nat.le_trans (by omega) hcs.1, Nat.le_trans (by omega) hcs.2⟩
  obtain ⟨⟨n, kn, kd, fg, hd, dm, dy, N⟩, -⟩ := id I
  obtain ⟨r, e1, e2⟩ : ∃ r, X11_feels h  = some r ∧ X12_feels h  = some r := ⟨_, S_feels N ⟩
  refine lv_aload_n hx hb dL_law_442 rfl (lv_at hl 1 rfl) ?_
  refine g_callV (As := []) (rest := []) hx hb hml hown hts hK hN (m_X11_feels l D a C ha h  r e1) (cwV 0 hts (gLup gL_law_X11_feels) rfl rfl rfl kdX11_feels ⟨Nat.le_of_ble_eq_true rfl, Nat.le_of_ble_eq_true rfl⟩) X_O rfl rfl hP hS hA rfl hl.1 rfl (Nat.le_of_ble_eq_true rfl) dL_law_443 hf0 (fun H locs hP hS => ?_)
  refine W.eq (g2 := F0 m 446 ls [.int r]) rfl ?_
  refine lv_aload_n hx hb dL_law_446 rfl (lv_at hl 2 rfl) ?_
  refine g_callV (As := []) (rest := [.int r]) hx hb hml hown hts hK hN (m_X12_feels l D a C ha h  r e2) (cwV 0 hts gL_law_U_feels rfl rfl rfl kdX12_feels ⟨Nat.le_of_ble_eq_true rfl, Nat.le_of_ble_eq_true rfl⟩) M_O rfl rfl hP hS hA rfl hl.1 rfl (Nat.le_of_ble_eq_true rfl) dL_law_447 hf0 (fun H locs hP hS => ?_)
  refine W.eq (g2 := F0 m 450 ls [.int r, .int r]) rfl ?_
  refine lv_icmp_eq (tgt := 1500) hx hb dL_law_450 (by decide) (fun _ => ?_) (fun c9 => absurd rfl c9)
  refine W.widen (k := cells + 1) (n := slots + 6) (by omega) (by omega) ?_
  exact kk h I H locs ls hP hS hl
set_option maxHeartbeats 4000000 in
set_option maxRecDepth 100000 in
theorem lc_9 {l : Launch} {p : Program} {e : Env} {s : State} {m : MethodId} {below : List Frame} {meth : Method} {c : Code} {b L i cells slots : Nat} {xs : Nat → Int32} {D : va_G} {a : Nat → Nat} {C : Nat → ClassId} {Q : State → Prop} {h : HS} (CC : lwC l p s m c b L xs D a C) (I : Inv h) (hi : i + 6 ≤ L) (hL : L ≤ 3072) (hcs : cells + 1 ≤ 601024 ∧ slots + 6 ≤ 7293034) (kk : ∀ h2, Inv h2 → lwK p l e s m below meth c b i D a C (cells + 1) (slots + 6) Q 1500 h2) : lwK p l e s m below meth c b i D a C cells slots Q 455 h := by
  obtain ⟨hx, hb, hml, hown, hts, hX, hbl, hK, hN, hT, hZ, ha, hA, hlT⟩ := CC
  intro H locs ls hP hS hl
  have hbA : ¬ lwA s b := Nat.not_le.mpr hbl
  have hf0 : cells + 0 ≤ room_1.cells ∧ slots + 0 ≤ room_1.slots := ⟨Nat.le_trans (by omega) hcs.1, Nat.le_trans (by omega) hcs.2⟩
  obtain ⟨r, h1, h2, e1, e2, I2⟩ := S_fall I (xs (nI i + 1).toNatClampNeg)
  refine lv_aload_n hx hb dL_law_455 rfl (lv_at hl 1 rfl) ?_
  refine lv_aload_n hx hb dL_law_456 rfl (lv_at hl 0 rfl) ?_
  refine lv_iload hx hb dL_law_457 (lv_at hl 4 rfl) ?_
  refine lv_iconst (v := 1) hx hb dL_law_459 (by decide) ?_
  refine lv_iadd hx hb dL_law_460 ?_
  refine va_sld hx hb hX hbl hbA hS (law_in (k := 1) hi hL (by decide)) dL_law_461 ?_
  refine g_callV (As := [.int (xs (nI i + 1).toNatClampNeg)]) (rest := []) hx hb hml hown hts hK hN (m_X11_fall l D a C ha h (xs (nI i + 1).toNatClampNeg) r h1 e1) (cwV 1 hts (gLup gL_law_X11_fall) rfl rfl rfl kdX11_fall ⟨Nat.le_of_ble_eq_true rfl, Nat.le_of_ble_eq_true rfl⟩) X_O rfl rfl hP hS hA rfl hl.1 rfl (Nat.le_of_ble_eq_true rfl) dL_law_462 hf0 (fun H locs hP hS => ?_)
  refine W.eq (g2 := F0 m 465 ls [.int r]) rfl ?_
  refine lv_aload_n hx hb dL_law_465 rfl (lv_at hl 2 rfl) ?_
  refine lv_aload_n hx hb dL_law_466 rfl (lv_at hl 0 rfl) ?_
  refine lv_iload hx hb dL_law_467 (lv_at hl 4 rfl) ?_
  refine lv_iconst (v := 1) hx hb dL_law_469 (by decide) ?_
  refine lv_iadd hx hb dL_law_470 ?_
  refine va_sld hx hb hX hbl hbA hS (law_in (k := 1) hi hL (by decide)) dL_law_471 ?_
  refine g_callV (As := [.int (xs (nI i + 1).toNatClampNeg)]) (rest := [.int r]) hx hb hml hown hts hK hN (m_X12_fall l D a C ha h1 (xs (nI i + 1).toNatClampNeg) r h2 e2) (cwV 1 hts gL_law_U_fall rfl rfl rfl kdX12_fall ⟨Nat.le_of_ble_eq_true rfl, Nat.le_of_ble_eq_true rfl⟩) M_O rfl rfl hP hS hA rfl hl.1 rfl (Nat.le_of_ble_eq_true rfl) dL_law_472 hf0 (fun H locs hP hS => ?_)
  refine W.eq (g2 := F0 m 475 ls [.int r, .int r]) rfl ?_
  refine lv_icmp_eq (tgt := 1500) hx hb dL_law_475 (by decide) (fun _ => ?_) (fun c9 => absurd rfl c9)
  refine W.widen (k := cells + 1) (n := slots + 6) (by omega) (by omega) ?_
  exact kk h2 I2 H locs ls hP hS hl
set_option maxHeartbeats 4000000 in
set_option maxRecDepth 100000 in
theorem lc_10 {l : Launch} {p : Program} {e : Env} {s : State} {m : MethodId} {below : List Frame} {meth : Method} {c : Code} {b L i cells slots : Nat} {xs : Nat → Int32} {D : va_G} {a : Nat → Nat} {C : Nat → ClassId} {Q : State → Prop} {h : HS} (CC : lwC l p s m c b L xs D a C) (I : Inv h) (hi : i + 6 ≤ L) (hL : L ≤ 3072) (hcs : cells + 1 ≤ 601024 ∧ slots + 6 ≤ 7293034) (kk : ∀ h2, Inv h2 → lwK p l e s m below meth c b i D a C (cells + 1) (slots + 6) Q 1500 h2) : lwK p l e s m below meth c b i D a C cells slots Q 480 h := by
  obtain ⟨hx, hb, hml, hown, hts, hX, hbl, hK, hN, hT, hZ, ha, hA, hlT⟩ := CC
  intro H locs ls hP hS hl
  have hbA : ¬ lwA s b := Nat.not_le.mpr hbl
  have hf0 : cells + 0 ≤ room_1.cells ∧ slots + 0 ≤ room_1.slots := ⟨Nat.le_trans (by omega) hcs.1, Nat.le_trans (by omega) hcs.2⟩
  obtain ⟨⟨n, kn, kd, fg, hd, dm, dy, N⟩, -⟩ := id I
  obtain ⟨r, e1, e2⟩ := S_far N (xs (nI i + 1).toNatClampNeg) (xs (nI i + 2).toNatClampNeg)
  refine lv_aload_n hx hb dL_law_480 rfl (lv_at hl 1 rfl) ?_
  refine lv_aload_n hx hb dL_law_481 rfl (lv_at hl 0 rfl) ?_
  refine lv_iload hx hb dL_law_482 (lv_at hl 4 rfl) ?_
  refine lv_iconst (v := 1) hx hb dL_law_484 (by decide) ?_
  refine lv_iadd hx hb dL_law_485 ?_
  refine va_sld hx hb hX hbl hbA hS (law_in (k := 1) hi hL (by decide)) dL_law_486 ?_
  refine lv_aload_n hx hb dL_law_487 rfl (lv_at hl 0 rfl) ?_
  refine lv_iload hx hb dL_law_488 (lv_at hl 4 rfl) ?_
  refine lv_iconst (v := 2) hx hb dL_law_490 (by decide) ?_
  refine lv_iadd hx hb dL_law_491 ?_
  refine va_sld hx hb hX hbl hbA hS (law_in (k := 2) hi hL (by decide)) dL_law_492 ?_
  refine g_callV (As := [.int (xs (nI i + 1).toNatClampNeg), .int (xs (nI i + 2).toNatClampNeg)]) (rest := []) hx hb hml hown hts hK hN (m_X11_far l D a C ha h (xs (nI i + 1).toNatClampNeg) (xs (nI i + 2).toNatClampNeg) r e1) (cwV 2 hts (gLup gL_law_X11_far) rfl rfl rfl kdX11_far ⟨Nat.le_of_ble_eq_true rfl, Nat.le_of_ble_eq_true rfl⟩) X_O rfl rfl hP hS hA rfl hl.1 rfl (Nat.le_of_ble_eq_true rfl) dL_law_493 hf0 (fun H locs hP hS => ?_)
  refine W.eq (g2 := F0 m 496 ls [.int r]) rfl ?_
  refine lv_aload_n hx hb dL_law_496 rfl (lv_at hl 2 rfl) ?_
  refine lv_aload_n hx hb dL_law_497 rfl (lv_at hl 0 rfl) ?_
  refine lv_iload hx hb dL_law_498 (lv_at hl 4 rfl) ?_
  refine lv_iconst (v := 1) hx hb dL_law_500 (by decide) ?_
  refine lv_iadd hx hb dL_law_501 ?_
  refine va_sld hx hb hX hbl hbA hS (law_in (k := 1) hi hL (by decide)) dL_law_502 ?_
  refine lv_aload_n hx hb dL_law_503 rfl (lv_at hl 0 rfl) ?_
  refine lv_iload hx hb dL_law_504 (lv_at hl 4 rfl) ?_
  refine lv_iconst (v := 2) hx hb dL_law_506 (by decide) ?_
  refine lv_iadd hx hb dL_law_507 ?_
  refine va_sld hx hb hX hbl hbA hS (law_in (k := 2) hi hL (by decide)) dL_law_508 ?_
  refine g_callV (As := [.int (xs (nI i + 1).toNatClampNeg), .int (xs (nI i + 2).toNatClampNeg)]) (rest := [.int r]) hx hb hml hown hts hK hN (m_X12_far l D a C ha h (xs (nI i + 1).toNatClampNeg) (xs (nI i + 2).toNatClampNeg) r e2) (cwV 2 hts gL_law_U_far rfl rfl rfl kdX12_far ⟨Nat.le_of_ble_eq_true rfl, Nat.le_of_ble_eq_true rfl⟩) M_O rfl rfl hP hS hA rfl hl.1 rfl (Nat.le_of_ble_eq_true rfl) dL_law_509 hf0 (fun H locs hP hS => ?_)
  refine W.eq (g2 := F0 m 512 ls [.int r, .int r]) rfl ?_
  refine lv_icmp_eq (tgt := 1500) hx hb dL_law_512 (by decide) (fun _ => ?_) (fun c9 => absurd rfl c9)
  refine W.widen (k := cells + 1) (n := slots + 6) (by omega) (by omega) ?_
  exact kk h I H locs ls hP hS hl
set_option maxHeartbeats 4000000 in
set_option maxRecDepth 100000 in
theorem lc_11 {l : Launch} {p : Program} {e : Env} {s : State} {m : MethodId} {below : List Frame} {meth : Method} {c : Code} {b L i cells slots : Nat} {xs : Nat → Int32} {D : va_G} {a : Nat → Nat} {C : Nat → ClassId} {Q : State → Prop} {h : HS} (CC : lwC l p s m c b L xs D a C) (I : Inv h) (hi : i + 6 ≤ L) (hL : L ≤ 3072) (hcs : cells + 1 ≤ 601024 ∧ slots + 6 ≤ 7293034) (kk : ∀ h2, Inv h2 → lwK p l e s m below meth c b i D a C (cells + 1) (slots + 6) Q 1500 h2) : lwK p l e s m below meth c b i D a C cells slots Q 517 h := by
  obtain ⟨hx, hb, hml, hown, hts, hX, hbl, hK, hN, hT, hZ, ha, hA, hlT⟩ := CC
  intro H locs ls hP hS hl
  have hbA : ¬ lwA s b := Nat.not_le.mpr hbl
  have hf0 : cells + 0 ≤ room_1.cells ∧ slots + 0 ≤ room_1.slots := ⟨Nat.le_trans (by omega) hcs.1, Nat.le_trans (by omega) hcs.2⟩
  obtain ⟨r, h1, h2, e1, e2, I2⟩ := S_wide I (xs (nI i + 1).toNatClampNeg)
  refine lv_aload_n hx hb dL_law_517 rfl (lv_at hl 1 rfl) ?_
  refine lv_aload_n hx hb dL_law_518 rfl (lv_at hl 0 rfl) ?_
  refine lv_iload hx hb dL_law_519 (lv_at hl 4 rfl) ?_
  refine lv_iconst (v := 1) hx hb dL_law_521 (by decide) ?_
  refine lv_iadd hx hb dL_law_522 ?_
  refine va_sld hx hb hX hbl hbA hS (law_in (k := 1) hi hL (by decide)) dL_law_523 ?_
  refine g_callV (As := [.int (xs (nI i + 1).toNatClampNeg)]) (rest := []) hx hb hml hown hts hK hN (m_X11_wide l D a C ha h (xs (nI i + 1).toNatClampNeg) r h1 e1) (cwV 1 hts (gLup gL_law_X11_wide) rfl rfl rfl kdX11_wide ⟨Nat.le_of_ble_eq_true rfl, Nat.le_of_ble_eq_true rfl⟩) X_O rfl rfl hP hS hA rfl hl.1 rfl (Nat.le_of_ble_eq_true rfl) dL_law_524 hf0 (fun H locs hP hS => ?_)
  refine W.eq (g2 := F0 m 527 ls [.int r]) rfl ?_
  refine lv_aload_n hx hb dL_law_527 rfl (lv_at hl 2 rfl) ?_
  refine lv_aload_n hx hb dL_law_528 rfl (lv_at hl 0 rfl) ?_
  refine lv_iload hx hb dL_law_529 (lv_at hl 4 rfl) ?_
  refine lv_iconst (v := 1) hx hb dL_law_531 (by decide) ?_
  refine lv_iadd hx hb dL_law_532 ?_
  refine va_sld hx hb hX hbl hbA hS (law_in (k := 1) hi hL (by decide)) dL_law_533 ?_
  refine g_callV (As := [.int (xs (nI i + 1).toNatClampNeg)]) (rest := [.int r]) hx hb hml hown hts hK hN (m_X12_wide l D a C ha h1 (xs (nI i + 1).toNatClampNeg) r h2 e2) (cwV 1 hts gL_law_U_wide rfl rfl rfl kdX12_wide ⟨Nat.le_of_ble_eq_true rfl, Nat.le_of_ble_eq_true rfl⟩) M_O rfl rfl hP hS hA rfl hl.1 rfl (Nat.le_of_ble_eq_true rfl) dL_law_534 hf0 (fun H locs hP hS => ?_)
  refine W.eq (g2 := F0 m 537 ls [.int r, .int r]) rfl ?_
  refine lv_icmp_eq (tgt := 1500) hx hb dL_law_537 (by decide) (fun _ => ?_) (fun c9 => absurd rfl c9)
  refine W.widen (k := cells + 1) (n := slots + 6) (by omega) (by omega) ?_
  exact kk h2 I2 H locs ls hP hS hl
set_option maxHeartbeats 4000000 in
set_option maxRecDepth 100000 in
theorem lc_12 {l : Launch} {p : Program} {e : Env} {s : State} {m : MethodId} {below : List Frame} {meth : Method} {c : Code} {b L i cells slots : Nat} {xs : Nat → Int32} {D : va_G} {a : Nat → Nat} {C : Nat → ClassId} {Q : State → Prop} {h : HS} (CC : lwC l p s m c b L xs D a C) (I : Inv h) (hi : i + 6 ≤ L) (hL : L ≤ 3072) (hcs : cells + 1 ≤ 601024 ∧ slots + 6 ≤ 7293034) (kk : ∀ h2, Inv h2 → lwK p l e s m below meth c b i D a C (cells + 1) (slots + 6) Q 1500 h2) : lwK p l e s m below meth c b i D a C cells slots Q 542 h := by
  obtain ⟨hx, hb, hml, hown, hts, hX, hbl, hK, hN, hT, hZ, ha, hA, hlT⟩ := CC
  intro H locs ls hP hS hl
  have hbA : ¬ lwA s b := Nat.not_le.mpr hbl
  have hf0 : cells + 0 ≤ room_1.cells ∧ slots + 0 ≤ room_1.slots := ⟨Nat.le_trans (by omega) hcs.1, Nat.le_trans (by omega) hcs.2⟩
  obtain ⟨r, h2, e1, e2, I2⟩ := S_stamps I (xs (nI i + 1).toNatClampNeg) (xs (nI i + 2).toNatClampNeg) (xs (nI i + 3).toNatClampNeg)
  refine lv_aload_n hx hb dL_law_542 rfl (lv_at hl 1 rfl) ?_
  refine lv_aload_n hx hb dL_law_543 rfl (lv_at hl 0 rfl) ?_
  refine lv_iload hx hb dL_law_544 (lv_at hl 4 rfl) ?_
  refine lv_iconst (v := 1) hx hb dL_law_546 (by decide) ?_
  refine lv_iadd hx hb dL_law_547 ?_
  refine va_sld hx hb hX hbl hbA hS (law_in (k := 1) hi hL (by decide)) dL_law_548 ?_
  refine lv_aload_n hx hb dL_law_549 rfl (lv_at hl 0 rfl) ?_
  refine lv_iload hx hb dL_law_550 (lv_at hl 4 rfl) ?_
  refine lv_iconst (v := 2) hx hb dL_law_552 (by decide) ?_
  refine lv_iadd hx hb dL_law_553 ?_
  refine va_sld hx hb hX hbl hbA hS (law_in (k := 2) hi hL (by decide)) dL_law_554 ?_
  refine lv_aload_n hx hb dL_law_555 rfl (lv_at hl 0 rfl) ?_
  refine lv_iload hx hb dL_law_556 (lv_at hl 4 rfl) ?_
  refine lv_iconst (v := 3) hx hb dL_law_558 (by decide) ?_
  refine lv_iadd hx hb dL_law_559 ?_
  refine va_sld hx hb hX hbl hbA hS (law_in (k := 3) hi hL (by decide)) dL_law_560 ?_
  refine g_callV (As := [.int (xs (nI i + 1).toNatClampNeg), .int (xs (nI i + 2).toNatClampNeg), .int (xs (nI i + 3).toNatClampNeg)]) (rest := []) hx hb hml hown hts hK hN (m_X11_stamps l D a C ha h (xs (nI i + 1).toNatClampNeg) (xs (nI i + 2).toNatClampNeg) (xs (nI i + 3).toNatClampNeg) r e1) (cwV 3 hts (gLup gL_law_X11_stamps) rfl rfl rfl kdX11_stamps ⟨Nat.le_of_ble_eq_true rfl, Nat.le_of_ble_eq_true rfl⟩) X_O rfl rfl hP hS hA rfl hl.1 rfl (Nat.le_of_ble_eq_true rfl) dL_law_561 hf0 (fun H locs hP hS => ?_)
  refine W.eq (g2 := F0 m 564 ls [.int r]) rfl ?_
  refine lv_aload_n hx hb dL_law_564 rfl (lv_at hl 2 rfl) ?_
  refine lv_aload_n hx hb dL_law_565 rfl (lv_at hl 0 rfl) ?_
  refine lv_iload hx hb dL_law_566 (lv_at hl 4 rfl) ?_
  refine lv_iconst (v := 1) hx hb dL_law_568 (by decide) ?_
  refine lv_iadd hx hb dL_law_569 ?_
  refine va_sld hx hb hX hbl hbA hS (law_in (k := 1) hi hL (by decide)) dL_law_570 ?_
  refine lv_aload_n hx hb dL_law_571 rfl (lv_at hl 0 rfl) ?_
  refine lv_iload hx hb dL_law_572 (lv_at hl 4 rfl) ?_
  refine lv_iconst (v := 2) hx hb dL_law_574 (by decide) ?_
  refine lv_iadd hx hb dL_law_575 ?_
  refine va_sld hx hb hX hbl hbA hS (law_in (k := 2) hi hL (by decide)) dL_law_576 ?_
  refine lv_aload_n hx hb dL_law_577 rfl (lv_at hl 0 rfl) ?_
  refine lv_iload hx hb dL_law_578 (lv_at hl 4 rfl) ?_
  refine lv_iconst (v := 3) hx hb dL_law_580 (by decide) ?_
  refine lv_iadd hx hb dL_law_581 ?_
  refine va_sld hx hb hX hbl hbA hS (law_in (k := 3) hi hL (by decide)) dL_law_582 ?_
  refine g_callV (As := [.int (xs (nI i + 1).toNatClampNeg), .int (xs (nI i + 2).toNatClampNeg), .int (xs (nI i + 3).toNatClampNeg)]) (rest := [.int r]) hx hb hml hown hts hK hN (m_X12_stamps l D a C ha h (xs (nI i + 1).toNatClampNeg) (xs (nI i + 2).toNatClampNeg) (xs (nI i + 3).toNatClampNeg) r h2 e2) (cwV 3 hts gL_law_U_stamps rfl rfl rfl kdX12_stamps ⟨Nat.le_of_ble_eq_true rfl, Nat.le_of_ble_eq_true rfl⟩) M_O rfl rfl hP hS hA rfl hl.1 rfl (Nat.le_of_ble_eq_true rfl) dL_law_583 hf0 (fun H locs hP hS => ?_)
  refine W.eq (g2 := F0 m 586 ls [.int r, .int r]) rfl ?_
  refine lv_icmp_eq (tgt := 1500) hx hb dL_law_586 (by decide) (fun _ => ?_) (fun c9 => absurd rfl c9)
  refine W.widen (k := cells + 1) (n := slots + 6) (by omega) (by omega) ?_
  exact kk h2 I2 H locs ls hP hS hl
set_option maxHeartbeats 4000000 in
set_option maxRecDepth 100000 in
theorem lc_13 {l : Launch} {p : Program} {e : Env} {s : State} {m : MethodId} {below : List Frame} {meth : Method} {c : Code} {b L i cells slots : Nat} {xs : Nat → Int32} {D : va_G} {a : Nat → Nat} {C : Nat → ClassId} {Q : State → Prop} {h : HS} (CC : lwC l p s m c b L xs D a C) (I : Inv h) (hi : i + 6 ≤ L) (hL : L ≤ 3072) (hcs : cells + 1 ≤ 601024 ∧ slots + 6 ≤ 7293034) (kk : ∀ h2, Inv h2 → lwK p l e s m below meth c b i D a C (cells + 1) (slots + 6) Q 1500 h2) : lwK p l e s m below meth c b i D a C cells slots Q 591 h := by
  obtain ⟨hx, hb, hml, hown, hts, hX, hbl, hK, hN, hT, hZ, ha, hA, hlT⟩ := CC
  intro H locs ls hP hS hl
  have hbA : ¬ lwA s b := Nat.not_le.mpr hbl
  have hf0 : cells + 0 ≤ room_1.cells ∧ slots + 0 ≤ room_1.slots := ⟨Nat.le_trans (by omega) hcs.1, Nat.le_trans (by omega) hcs.2⟩
  obtain ⟨r, h2, e1, e2, I2⟩ := S_then I (xs (nI i + 1).toNatClampNeg)
  refine lv_aload_n hx hb dL_law_591 rfl (lv_at hl 1 rfl) ?_
  refine lv_aload_n hx hb dL_law_592 rfl (lv_at hl 0 rfl) ?_
  refine lv_iload hx hb dL_law_593 (lv_at hl 4 rfl) ?_
  refine lv_iconst (v := 1) hx hb dL_law_595 (by decide) ?_
  refine lv_iadd hx hb dL_law_596 ?_
  refine va_sld hx hb hX hbl hbA hS (law_in (k := 1) hi hL (by decide)) dL_law_597 ?_
  refine g_callV (As := [.int (xs (nI i + 1).toNatClampNeg)]) (rest := []) hx hb hml hown hts hK hN (m_X11_then l D a C ha h (xs (nI i + 1).toNatClampNeg) r e1) (cwV 1 hts (gLup gL_law_X11_then) rfl rfl rfl kdX11_then ⟨Nat.le_of_ble_eq_true rfl, Nat.le_of_ble_eq_true rfl⟩) X_O rfl rfl hP hS hA rfl hl.1 rfl (Nat.le_of_ble_eq_true rfl) dL_law_598 hf0 (fun H locs hP hS => ?_)
  refine W.eq (g2 := F0 m 601 ls [.int r]) rfl ?_
  refine lv_aload_n hx hb dL_law_601 rfl (lv_at hl 2 rfl) ?_
  refine lv_aload_n hx hb dL_law_602 rfl (lv_at hl 0 rfl) ?_
  refine lv_iload hx hb dL_law_603 (lv_at hl 4 rfl) ?_
  refine lv_iconst (v := 1) hx hb dL_law_605 (by decide) ?_
  refine lv_iadd hx hb dL_law_606 ?_
  refine va_sld hx hb hX hbl hbA hS (law_in (k := 1) hi hL (by decide)) dL_law_607 ?_
  refine g_callV (As := [.int (xs (nI i + 1).toNatClampNeg)]) (rest := [.int r]) hx hb hml hown hts hK hN (m_X12_then l D a C ha h (xs (nI i + 1).toNatClampNeg) r h2 e2) (cwV 1 hts gL_law_U_then rfl rfl rfl kdX12_then ⟨Nat.le_of_ble_eq_true rfl, Nat.le_of_ble_eq_true rfl⟩) M_O rfl rfl hP hS hA rfl hl.1 rfl (Nat.le_of_ble_eq_true rfl) dL_law_608 hf0 (fun H locs hP hS => ?_)
  refine W.eq (g2 := F0 m 611 ls [.int r, .int r]) rfl ?_
  refine lv_icmp_eq (tgt := 1500) hx hb dL_law_611 (by decide) (fun _ => ?_) (fun c9 => absurd rfl c9)
  refine W.widen (k := cells + 1) (n := slots + 6) (by omega) (by omega) ?_
  exact kk h2 I2 H locs ls hP hS hl
set_option maxHeartbeats 4000000 in
set_option maxRecDepth 100000 in
theorem lc_14 {l : Launch} {p : Program} {e : Env} {s : State} {m : MethodId} {below : List Frame} {meth : Method} {c : Code} {b L i cells slots : Nat} {xs : Nat → Int32} {D : va_G} {a : Nat → Nat} {C : Nat → ClassId} {Q : State → Prop} {h : HS} (CC : lwC l p s m c b L xs D a C) (I : Inv h) (hi : i + 6 ≤ L) (hL : L ≤ 3072) (hcs : cells + 1 ≤ 601024 ∧ slots + 6 ≤ 7293034) (kk : ∀ h2, Inv h2 → lwK p l e s m below meth c b i D a C (cells + 1) (slots + 6) Q 1500 h2) : lwK p l e s m below meth c b i D a C cells slots Q 616 h := by
  obtain ⟨hx, hb, hml, hown, hts, hX, hbl, hK, hN, hT, hZ, ha, hA, hlT⟩ := CC
  intro H locs ls hP hS hl
  have hbA : ¬ lwA s b := Nat.not_le.mpr hbl
  have hf0 : cells + 0 ≤ room_1.cells ∧ slots + 0 ≤ room_1.slots := ⟨Nat.le_trans (by omega) hcs.1, Nat.le_trans (by omega) hcs.2⟩
  obtain ⟨r, h2, e1, e2, I2⟩ := S_hears I (xs (nI i + 1).toNatClampNeg)
  refine lv_aload_n hx hb dL_law_616 rfl (lv_at hl 1 rfl) ?_
  refine lv_aload_n hx hb dL_law_617 rfl (lv_at hl 0 rfl) ?_
  refine lv_iload hx hb dL_law_618 (lv_at hl 4 rfl) ?_
  refine lv_iconst (v := 1) hx hb dL_law_620 (by decide) ?_
  refine lv_iadd hx hb dL_law_621 ?_
  refine va_sld hx hb hX hbl hbA hS (law_in (k := 1) hi hL (by decide)) dL_law_622 ?_
  refine g_callV (As := [.int (xs (nI i + 1).toNatClampNeg)]) (rest := []) hx hb hml hown hts hK hN (m_X11_hears l D a C ha h (xs (nI i + 1).toNatClampNeg) r e1) (cwV 1 hts (gLup gL_law_X11_hears) rfl rfl rfl kdX11_hears ⟨Nat.le_of_ble_eq_true rfl, Nat.le_of_ble_eq_true rfl⟩) X_O rfl rfl hP hS hA rfl hl.1 rfl (Nat.le_of_ble_eq_true rfl) dL_law_623 hf0 (fun H locs hP hS => ?_)
  refine W.eq (g2 := F0 m 626 ls [.int r]) rfl ?_
  refine lv_aload_n hx hb dL_law_626 rfl (lv_at hl 2 rfl) ?_
  refine lv_aload_n hx hb dL_law_627 rfl (lv_at hl 0 rfl) ?_
  refine lv_iload hx hb dL_law_628 (lv_at hl 4 rfl) ?_
  refine lv_iconst (v := 1) hx hb dL_law_630 (by decide) ?_
  refine lv_iadd hx hb dL_law_631 ?_
  refine va_sld hx hb hX hbl hbA hS (law_in (k := 1) hi hL (by decide)) dL_law_632 ?_
  refine g_callV (As := [.int (xs (nI i + 1).toNatClampNeg)]) (rest := [.int r]) hx hb hml hown hts hK hN (m_X12_hears l D a C ha h (xs (nI i + 1).toNatClampNeg) r h2 e2) (cwV 1 hts gL_law_U_hears rfl rfl rfl kdX12_hears ⟨Nat.le_of_ble_eq_true rfl, Nat.le_of_ble_eq_true rfl⟩) M_O rfl rfl hP hS hA rfl hl.1 rfl (Nat.le_of_ble_eq_true rfl) dL_law_633 hf0 (fun H locs hP hS => ?_)
  refine W.eq (g2 := F0 m 636 ls [.int r, .int r]) rfl ?_
  refine lv_icmp_eq (tgt := 1500) hx hb dL_law_636 (by decide) (fun _ => ?_) (fun c9 => absurd rfl c9)
  refine W.widen (k := cells + 1) (n := slots + 6) (by omega) (by omega) ?_
  exact kk h2 I2 H locs ls hP hS hl
set_option maxHeartbeats 4000000 in
set_option maxRecDepth 100000 in
theorem lc_15 {l : Launch} {p : Program} {e : Env} {s : State} {m : MethodId} {below : List Frame} {meth : Method} {c : Code} {b L i cells slots : Nat} {xs : Nat → Int32} {D : va_G} {a : Nat → Nat} {C : Nat → ClassId} {Q : State → Prop} {h : HS} (CC : lwC l p s m c b L xs D a C) (I : Inv h) (hi : i + 6 ≤ L) (hL : L ≤ 3072) (hcs : cells + 1 ≤ 601024 ∧ slots + 6 ≤ 7293034) (kk : ∀ h2, Inv h2 → lwK p l e s m below meth c b i D a C (cells + 1) (slots + 6) Q 1500 h2) : lwK p l e s m below meth c b i D a C cells slots Q 641 h := by
  obtain ⟨hx, hb, hml, hown, hts, hX, hbl, hK, hN, hT, hZ, ha, hA, hlT⟩ := CC
  intro H locs ls hP hS hl
  have hbA : ¬ lwA s b := Nat.not_le.mpr hbl
  have hf0 : cells + 0 ≤ room_1.cells ∧ slots + 0 ≤ room_1.slots := ⟨Nat.le_trans (by omega) hcs.1, Nat.le_trans (by omega) hcs.2⟩
  obtain ⟨r, h1, h2, e1, e2, I2⟩ := S_asked I (xs (nI i + 1).toNatClampNeg) (xs (nI i + 2).toNatClampNeg) (xs (nI i + 3).toNatClampNeg) (xs (nI i + 4).toNatClampNeg)
  refine lv_aload_n hx hb dL_law_641 rfl (lv_at hl 1 rfl) ?_
  refine lv_aload_n hx hb dL_law_642 rfl (lv_at hl 0 rfl) ?_
  refine lv_iload hx hb dL_law_643 (lv_at hl 4 rfl) ?_
  refine lv_iconst (v := 1) hx hb dL_law_645 (by decide) ?_
  refine lv_iadd hx hb dL_law_646 ?_
  refine va_sld hx hb hX hbl hbA hS (law_in (k := 1) hi hL (by decide)) dL_law_647 ?_
  refine lv_aload_n hx hb dL_law_648 rfl (lv_at hl 0 rfl) ?_
  refine lv_iload hx hb dL_law_649 (lv_at hl 4 rfl) ?_
  refine lv_iconst (v := 2) hx hb dL_law_651 (by decide) ?_
  refine lv_iadd hx hb dL_law_652 ?_
  refine va_sld hx hb hX hbl hbA hS (law_in (k := 2) hi hL (by decide)) dL_law_653 ?_
  refine lv_aload_n hx hb dL_law_654 rfl (lv_at hl 0 rfl) ?_
  refine lv_iload hx hb dL_law_655 (lv_at hl 4 rfl) ?_
  refine lv_iconst (v := 3) hx hb dL_law_657 (by decide) ?_
  refine lv_iadd hx hb dL_law_658 ?_
  refine va_sld hx hb hX hbl hbA hS (law_in (k := 3) hi hL (by decide)) dL_law_659 ?_
  refine lv_aload_n hx hb dL_law_660 rfl (lv_at hl 0 rfl) ?_
  refine lv_iload hx hb dL_law_661 (lv_at hl 4 rfl) ?_
  refine lv_iconst (v := 4) hx hb dL_law_663 (by decide) ?_
  refine lv_iadd hx hb dL_law_664 ?_
  refine va_sld hx hb hX hbl hbA hS (law_in (k := 4) hi hL (by decide)) dL_law_665 ?_
  refine g_callV (As := [.int (xs (nI i + 1).toNatClampNeg), .int (xs (nI i + 2).toNatClampNeg), .int (xs (nI i + 3).toNatClampNeg), .int (xs (nI i + 4).toNatClampNeg)]) (rest := []) hx hb hml hown hts hK hN (m_X11_asked l D a C ha h (xs (nI i + 1).toNatClampNeg) (xs (nI i + 2).toNatClampNeg) (xs (nI i + 3).toNatClampNeg) (xs (nI i + 4).toNatClampNeg) r h1 e1) (cwV 4 hts (gLup gL_law_X11_asked) rfl rfl rfl kdX11_asked ⟨Nat.le_of_ble_eq_true rfl, Nat.le_of_ble_eq_true rfl⟩) X_O rfl rfl hP hS hA rfl hl.1 rfl (Nat.le_of_ble_eq_true rfl) dL_law_666 hf0 (fun H locs hP hS => ?_)
  refine W.eq (g2 := F0 m 669 ls [.long r]) rfl ?_
  refine lv_aload_n hx hb dL_law_669 rfl (lv_at hl 2 rfl) ?_
  refine lv_aload_n hx hb dL_law_670 rfl (lv_at hl 0 rfl) ?_
  refine lv_iload hx hb dL_law_671 (lv_at hl 4 rfl) ?_
  refine lv_iconst (v := 1) hx hb dL_law_673 (by decide) ?_
  refine lv_iadd hx hb dL_law_674 ?_
  refine va_sld hx hb hX hbl hbA hS (law_in (k := 1) hi hL (by decide)) dL_law_675 ?_
  refine lv_aload_n hx hb dL_law_676 rfl (lv_at hl 0 rfl) ?_
  refine lv_iload hx hb dL_law_677 (lv_at hl 4 rfl) ?_
  refine lv_iconst (v := 2) hx hb dL_law_679 (by decide) ?_
  refine lv_iadd hx hb dL_law_680 ?_
  refine va_sld hx hb hX hbl hbA hS (law_in (k := 2) hi hL (by decide)) dL_law_681 ?_
  refine lv_aload_n hx hb dL_law_682 rfl (lv_at hl 0 rfl) ?_
  refine lv_iload hx hb dL_law_683 (lv_at hl 4 rfl) ?_
  refine lv_iconst (v := 3) hx hb dL_law_685 (by decide) ?_
  refine lv_iadd hx hb dL_law_686 ?_
  refine va_sld hx hb hX hbl hbA hS (law_in (k := 3) hi hL (by decide)) dL_law_687 ?_
  refine lv_aload_n hx hb dL_law_688 rfl (lv_at hl 0 rfl) ?_
  refine lv_iload hx hb dL_law_689 (lv_at hl 4 rfl) ?_
  refine lv_iconst (v := 4) hx hb dL_law_691 (by decide) ?_
  refine lv_iadd hx hb dL_law_692 ?_
  refine va_sld hx hb hX hbl hbA hS (law_in (k := 4) hi hL (by decide)) dL_law_693 ?_
  refine g_callV (As := [.int (xs (nI i + 1).toNatClampNeg), .int (xs (nI i + 2).toNatClampNeg), .int (xs (nI i + 3).toNatClampNeg), .int (xs (nI i + 4).toNatClampNeg)]) (rest := [.long r]) hx hb hml hown hts hK hN (m_X12_asked l D a C ha h1 (xs (nI i + 1).toNatClampNeg) (xs (nI i + 2).toNatClampNeg) (xs (nI i + 3).toNatClampNeg) (xs (nI i + 4).toNatClampNeg) r h2 e2) (cwV 4 hts gL_law_U_asked rfl rfl rfl kdX12_asked ⟨Nat.le_of_ble_eq_true rfl, Nat.le_of_ble_eq_true rfl⟩) M_O rfl rfl hP hS hA rfl hl.1 rfl (Nat.le_of_ble_eq_true rfl) dL_law_694 hf0 (fun H locs hP hS => ?_)
  refine W.eq (g2 := F0 m 697 ls [.long r, .long r]) rfl ?_
  refine W.lcmp hx hb dL_law_697 ?_
  refine lv_if_eq (tgt := 1500) hx hb dL_law_698 (by decide) (fun _ => ?_) (fun c9 => absurd (lcmp_self r) c9)
  refine W.widen (k := cells + 1) (n := slots + 6) (by omega) (by omega) ?_
  exact kk h2 I2 H locs ls hP hS hl
set_option maxHeartbeats 4000000 in
set_option maxRecDepth 100000 in
theorem lc_16 {l : Launch} {p : Program} {e : Env} {s : State} {m : MethodId} {below : List Frame} {meth : Method} {c : Code} {b L i cells slots : Nat} {xs : Nat → Int32} {D : va_G} {a : Nat → Nat} {C : Nat → ClassId} {Q : State → Prop} {h : HS} (CC : lwC l p s m c b L xs D a C) (I : Inv h) (hi : i + 6 ≤ L) (hL : L ≤ 3072) (hcs : cells + 1 ≤ 601024 ∧ slots + 6 ≤ 7293034) (kk : ∀ h2, Inv h2 → lwK p l e s m below meth c b i D a C (cells + 1) (slots + 6) Q 1500 h2) : lwK p l e s m below meth c b i D a C cells slots Q 703 h := by
  obtain ⟨hx, hb, hml, hown, hts, hX, hbl, hK, hN, hT, hZ, ha, hA, hlT⟩ := CC
  intro H locs ls hP hS hl
  have hbA : ¬ lwA s b := Nat.not_le.mpr hbl
  have hf0 : cells + 0 ≤ room_1.cells ∧ slots + 0 ≤ room_1.slots := ⟨Nat.le_trans (by omega) hcs.1, Nat.le_trans (by omega) hcs.2⟩
  obtain ⟨⟨n, kn, kd, fg, hd, dm, dy, N⟩, -⟩ := id I
  obtain ⟨r, e1, e2⟩ := S_settles N (xs (nI i + 1).toNatClampNeg) (xs (nI i + 2).toNatClampNeg)
  refine lv_aload_n hx hb dL_law_703 rfl (lv_at hl 1 rfl) ?_
  refine lv_aload_n hx hb dL_law_704 rfl (lv_at hl 0 rfl) ?_
  refine lv_iload hx hb dL_law_705 (lv_at hl 4 rfl) ?_
  refine lv_iconst (v := 1) hx hb dL_law_707 (by decide) ?_
  refine lv_iadd hx hb dL_law_708 ?_
  refine va_sld hx hb hX hbl hbA hS (law_in (k := 1) hi hL (by decide)) dL_law_709 ?_
  refine lv_aload_n hx hb dL_law_710 rfl (lv_at hl 0 rfl) ?_
  refine lv_iload hx hb dL_law_711 (lv_at hl 4 rfl) ?_
  refine lv_iconst (v := 2) hx hb dL_law_713 (by decide) ?_
  refine lv_iadd hx hb dL_law_714 ?_
  refine va_sld hx hb hX hbl hbA hS (law_in (k := 2) hi hL (by decide)) dL_law_715 ?_
  refine g_callV (As := [.int (xs (nI i + 1).toNatClampNeg), .int (xs (nI i + 2).toNatClampNeg)]) (rest := []) hx hb hml hown hts hK hN (m_X11_settles l D a C ha h (xs (nI i + 1).toNatClampNeg) (xs (nI i + 2).toNatClampNeg) r e1) (cwV 2 hts (gLup gL_law_X11_settles) rfl rfl rfl kdX11_settles ⟨Nat.le_of_ble_eq_true rfl, Nat.le_of_ble_eq_true rfl⟩) X_O rfl rfl hP hS hA rfl hl.1 rfl (Nat.le_of_ble_eq_true rfl) dL_law_716 hf0 (fun H locs hP hS => ?_)
  refine W.eq (g2 := F0 m 719 ls [.long r]) rfl ?_
  refine lv_aload_n hx hb dL_law_719 rfl (lv_at hl 2 rfl) ?_
  refine lv_aload_n hx hb dL_law_720 rfl (lv_at hl 0 rfl) ?_
  refine lv_iload hx hb dL_law_721 (lv_at hl 4 rfl) ?_
  refine lv_iconst (v := 1) hx hb dL_law_723 (by decide) ?_
  refine lv_iadd hx hb dL_law_724 ?_
  refine va_sld hx hb hX hbl hbA hS (law_in (k := 1) hi hL (by decide)) dL_law_725 ?_
  refine lv_aload_n hx hb dL_law_726 rfl (lv_at hl 0 rfl) ?_
  refine lv_iload hx hb dL_law_727 (lv_at hl 4 rfl) ?_
  refine lv_iconst (v := 2) hx hb dL_law_729 (by decide) ?_
  refine lv_iadd hx hb dL_law_730 ?_
  refine va_sld hx hb hX hbl hbA hS (law_in (k := 2) hi hL (by decide)) dL_law_731 ?_
  refine g_callV (As := [.int (xs (nI i + 1).toNatClampNeg), .int (xs (nI i + 2).toNatClampNeg)]) (rest := [.long r]) hx hb hml hown hts hK hN (m_X12_settles l D a C ha h (xs (nI i + 1).toNatClampNeg) (xs (nI i + 2).toNatClampNeg) r e2) (cwV 2 hts gL_law_U_settles rfl rfl rfl kdX12_settles ⟨Nat.le_of_ble_eq_true rfl, Nat.le_of_ble_eq_true rfl⟩) M_O rfl rfl hP hS hA rfl hl.1 rfl (Nat.le_of_ble_eq_true rfl) dL_law_732 hf0 (fun H locs hP hS => ?_)
  refine W.eq (g2 := F0 m 735 ls [.long r, .long r]) rfl ?_
  refine W.lcmp hx hb dL_law_735 ?_
  refine lv_if_eq (tgt := 1500) hx hb dL_law_736 (by decide) (fun _ => ?_) (fun c9 => absurd (lcmp_self r) c9)
  refine W.widen (k := cells + 1) (n := slots + 6) (by omega) (by omega) ?_
  exact kk h I H locs ls hP hS hl
set_option maxHeartbeats 4000000 in
set_option maxRecDepth 100000 in
theorem lc_17 {l : Launch} {p : Program} {e : Env} {s : State} {m : MethodId} {below : List Frame} {meth : Method} {c : Code} {b L i cells slots : Nat} {xs : Nat → Int32} {D : va_G} {a : Nat → Nat} {C : Nat → ClassId} {Q : State → Prop} {h : HS} (CC : lwC l p s m c b L xs D a C) (I : Inv h) (hi : i + 6 ≤ L) (hL : L ≤ 3072) (hcs : cells + 1 ≤ 601024 ∧ slots + 6 ≤ 7293034) (kk : ∀ h2, Inv h2 → lwK p l e s m below meth c b i D a C (cells + 1) (slots + 6) Q 1500 h2) : lwK p l e s m below meth c b i D a C cells slots Q 741 h := by
  obtain ⟨hx, hb, hml, hown, hts, hX, hbl, hK, hN, hT, hZ, ha, hA, hlT⟩ := CC
  intro H locs ls hP hS hl
  have hbA : ¬ lwA s b := Nat.not_le.mpr hbl
  have hf0 : cells + 0 ≤ room_1.cells ∧ slots + 0 ≤ room_1.slots := ⟨Nat.le_trans (by omega) hcs.1, Nat.le_trans (by omega) hcs.2⟩
  obtain ⟨r, h1, h2, e1, e2, I2⟩ := S_circle I (xs (nI i + 1).toNatClampNeg)
  refine lv_aload_n hx hb dL_law_741 rfl (lv_at hl 1 rfl) ?_
  refine lv_aload_n hx hb dL_law_742 rfl (lv_at hl 0 rfl) ?_
  refine lv_iload hx hb dL_law_743 (lv_at hl 4 rfl) ?_
  refine lv_iconst (v := 1) hx hb dL_law_745 (by decide) ?_
  refine lv_iadd hx hb dL_law_746 ?_
  refine va_sld hx hb hX hbl hbA hS (law_in (k := 1) hi hL (by decide)) dL_law_747 ?_
  refine g_callV (As := [.int (xs (nI i + 1).toNatClampNeg)]) (rest := []) hx hb hml hown hts hK hN (m_X11_circle l D a C ha h (xs (nI i + 1).toNatClampNeg) r h1 e1) (cwV 1 hts (gLup gL_law_X11_circle) rfl rfl rfl kdX11_circle ⟨Nat.le_of_ble_eq_true rfl, Nat.le_of_ble_eq_true rfl⟩) X_O rfl rfl hP hS hA rfl hl.1 rfl (Nat.le_of_ble_eq_true rfl) dL_law_748 hf0 (fun H locs hP hS => ?_)
  refine W.eq (g2 := F0 m 751 ls [.int r]) rfl ?_
  refine lv_aload_n hx hb dL_law_751 rfl (lv_at hl 2 rfl) ?_
  refine lv_aload_n hx hb dL_law_752 rfl (lv_at hl 0 rfl) ?_
  refine lv_iload hx hb dL_law_753 (lv_at hl 4 rfl) ?_
  refine lv_iconst (v := 1) hx hb dL_law_755 (by decide) ?_
  refine lv_iadd hx hb dL_law_756 ?_
  refine va_sld hx hb hX hbl hbA hS (law_in (k := 1) hi hL (by decide)) dL_law_757 ?_
  refine g_callV (As := [.int (xs (nI i + 1).toNatClampNeg)]) (rest := [.int r]) hx hb hml hown hts hK hN (m_X12_circle l D a C ha h1 (xs (nI i + 1).toNatClampNeg) r h2 e2) (cwV 1 hts gL_law_U_circle rfl rfl rfl kdX12_circle ⟨Nat.le_of_ble_eq_true rfl, Nat.le_of_ble_eq_true rfl⟩) M_O rfl rfl hP hS hA rfl hl.1 rfl (Nat.le_of_ble_eq_true rfl) dL_law_758 hf0 (fun H locs hP hS => ?_)
  refine W.eq (g2 := F0 m 761 ls [.int r, .int r]) rfl ?_
  refine lv_icmp_eq (tgt := 1500) hx hb dL_law_761 (by decide) (fun _ => ?_) (fun c9 => absurd rfl c9)
  refine W.widen (k := cells + 1) (n := slots + 6) (by omega) (by omega) ?_
  exact kk h2 I2 H locs ls hP hS hl
set_option maxHeartbeats 4000000 in
set_option maxRecDepth 100000 in
theorem lc_18 {l : Launch} {p : Program} {e : Env} {s : State} {m : MethodId} {below : List Frame} {meth : Method} {c : Code} {b L i cells slots : Nat} {xs : Nat → Int32} {D : va_G} {a : Nat → Nat} {C : Nat → ClassId} {Q : State → Prop} {h : HS} (CC : lwC l p s m c b L xs D a C) (I : Inv h) (hi : i + 6 ≤ L) (hL : L ≤ 3072) (hcs : cells + 1 ≤ 601024 ∧ slots + 6 ≤ 7293034) (kk : ∀ h2, Inv h2 → lwK p l e s m below meth c b i D a C (cells + 1) (slots + 6) Q 1500 h2) : lwK p l e s m below meth c b i D a C cells slots Q 766 h := by
  obtain ⟨hx, hb, hml, hown, hts, hX, hbl, hK, hN, hT, hZ, ha, hA, hlT⟩ := CC
  intro H locs ls hP hS hl
  have hbA : ¬ lwA s b := Nat.not_le.mpr hbl
  have hf0 : cells + 0 ≤ room_1.cells ∧ slots + 0 ≤ room_1.slots := ⟨Nat.le_trans (by omega) hcs.1, Nat.le_trans (by omega) hcs.2⟩
  obtain ⟨r, h1, h2, e1, e2, I2⟩ := S_fire I (xs (nI i + 1).toNatClampNeg)
  refine lv_aload_n hx hb dL_law_766 rfl (lv_at hl 1 rfl) ?_
  refine lv_aload_n hx hb dL_law_767 rfl (lv_at hl 0 rfl) ?_
  refine lv_iload hx hb dL_law_768 (lv_at hl 4 rfl) ?_
  refine lv_iconst (v := 1) hx hb dL_law_770 (by decide) ?_
  refine lv_iadd hx hb dL_law_771 ?_
  refine va_sld hx hb hX hbl hbA hS (law_in (k := 1) hi hL (by decide)) dL_law_772 ?_
  refine g_callV (As := [.int (xs (nI i + 1).toNatClampNeg)]) (rest := []) hx hb hml hown hts hK hN (m_X11_fire l D a C ha h (xs (nI i + 1).toNatClampNeg) r h1 e1) (cwV 1 hts (gLup gL_law_X11_fire) rfl rfl rfl kdX11_fire ⟨Nat.le_of_ble_eq_true rfl, Nat.le_of_ble_eq_true rfl⟩) X_O rfl rfl hP hS hA rfl hl.1 rfl (Nat.le_of_ble_eq_true rfl) dL_law_773 hf0 (fun H locs hP hS => ?_)
  refine W.eq (g2 := F0 m 776 ls [.int r]) rfl ?_
  refine lv_aload_n hx hb dL_law_776 rfl (lv_at hl 2 rfl) ?_
  refine lv_aload_n hx hb dL_law_777 rfl (lv_at hl 0 rfl) ?_
  refine lv_iload hx hb dL_law_778 (lv_at hl 4 rfl) ?_
  refine lv_iconst (v := 1) hx hb dL_law_780 (by decide) ?_
  refine lv_iadd hx hb dL_law_781 ?_
  refine va_sld hx hb hX hbl hbA hS (law_in (k := 1) hi hL (by decide)) dL_law_782 ?_
  refine g_callV (As := [.int (xs (nI i + 1).toNatClampNeg)]) (rest := [.int r]) hx hb hml hown hts hK hN (m_X12_fire l D a C ha h1 (xs (nI i + 1).toNatClampNeg) r h2 e2) (cwV 1 hts gL_law_U_fire rfl rfl rfl kdX12_fire ⟨Nat.le_of_ble_eq_true rfl, Nat.le_of_ble_eq_true rfl⟩) M_O rfl rfl hP hS hA rfl hl.1 rfl (Nat.le_of_ble_eq_true rfl) dL_law_783 hf0 (fun H locs hP hS => ?_)
  refine W.eq (g2 := F0 m 786 ls [.int r, .int r]) rfl ?_
  refine lv_icmp_eq (tgt := 1500) hx hb dL_law_786 (by decide) (fun _ => ?_) (fun c9 => absurd rfl c9)
  refine W.widen (k := cells + 1) (n := slots + 6) (by omega) (by omega) ?_
  exact kk h2 I2 H locs ls hP hS hl
set_option maxHeartbeats 4000000 in
set_option maxRecDepth 100000 in
theorem lc_19 {l : Launch} {p : Program} {e : Env} {s : State} {m : MethodId} {below : List Frame} {meth : Method} {c : Code} {b L i cells slots : Nat} {xs : Nat → Int32} {D : va_G} {a : Nat → Nat} {C : Nat → ClassId} {Q : State → Prop} {h : HS} (CC : lwC l p s m c b L xs D a C) (I : Inv h) (hi : i + 6 ≤ L) (hL : L ≤ 3072) (hcs : cells + 1 ≤ 601024 ∧ slots + 6 ≤ 7293034) (kk : ∀ h2, Inv h2 → lwK p l e s m below meth c b i D a C (cells + 1) (slots + 6) Q 1500 h2) : lwK p l e s m below meth c b i D a C cells slots Q 791 h := by
  obtain ⟨hx, hb, hml, hown, hts, hX, hbl, hK, hN, hT, hZ, ha, hA, hlT⟩ := CC
  intro H locs ls hP hS hl
  have hbA : ¬ lwA s b := Nat.not_le.mpr hbl
  have hf0 : cells + 0 ≤ room_1.cells ∧ slots + 0 ≤ room_1.slots := ⟨Nat.le_trans (by omega) hcs.1, Nat.le_trans (by omega) hcs.2⟩
  obtain ⟨r, h1, h2, e1, e2, I2⟩ := S_could I (xs (nI i + 1).toNatClampNeg)
  refine lv_aload_n hx hb dL_law_791 rfl (lv_at hl 1 rfl) ?_
  refine lv_aload_n hx hb dL_law_792 rfl (lv_at hl 0 rfl) ?_
  refine lv_iload hx hb dL_law_793 (lv_at hl 4 rfl) ?_
  refine lv_iconst (v := 1) hx hb dL_law_795 (by decide) ?_
  refine lv_iadd hx hb dL_law_796 ?_
  refine va_sld hx hb hX hbl hbA hS (law_in (k := 1) hi hL (by decide)) dL_law_797 ?_
  refine g_callV (As := [.int (xs (nI i + 1).toNatClampNeg)]) (rest := []) hx hb hml hown hts hK hN (m_X11_could l D a C ha h (xs (nI i + 1).toNatClampNeg) r h1 e1) (cwV 1 hts (gLup gL_law_X11_could) rfl rfl rfl kdX11_could ⟨Nat.le_of_ble_eq_true rfl, Nat.le_of_ble_eq_true rfl⟩) X_O rfl rfl hP hS hA rfl hl.1 rfl (Nat.le_of_ble_eq_true rfl) dL_law_798 hf0 (fun H locs hP hS => ?_)
  refine W.eq (g2 := F0 m 801 ls [.int r]) rfl ?_
  refine lv_aload_n hx hb dL_law_801 rfl (lv_at hl 2 rfl) ?_
  refine lv_aload_n hx hb dL_law_802 rfl (lv_at hl 0 rfl) ?_
  refine lv_iload hx hb dL_law_803 (lv_at hl 4 rfl) ?_
  refine lv_iconst (v := 1) hx hb dL_law_805 (by decide) ?_
  refine lv_iadd hx hb dL_law_806 ?_
  refine va_sld hx hb hX hbl hbA hS (law_in (k := 1) hi hL (by decide)) dL_law_807 ?_
  refine g_callV (As := [.int (xs (nI i + 1).toNatClampNeg)]) (rest := [.int r]) hx hb hml hown hts hK hN (m_X12_could l D a C ha h1 (xs (nI i + 1).toNatClampNeg) r h2 e2) (cwV 1 hts gL_law_U_could rfl rfl rfl kdX12_could ⟨Nat.le_of_ble_eq_true rfl, Nat.le_of_ble_eq_true rfl⟩) M_O rfl rfl hP hS hA rfl hl.1 rfl (Nat.le_of_ble_eq_true rfl) dL_law_808 hf0 (fun H locs hP hS => ?_)
  refine W.eq (g2 := F0 m 811 ls [.int r, .int r]) rfl ?_
  refine lv_icmp_eq (tgt := 1500) hx hb dL_law_811 (by decide) (fun _ => ?_) (fun c9 => absurd rfl c9)
  refine W.widen (k := cells + 1) (n := slots + 6) (by omega) (by omega) ?_
  exact kk h2 I2 H locs ls hP hS hl
set_option maxHeartbeats 4000000 in
set_option maxRecDepth 100000 in
theorem lc_20 {l : Launch} {p : Program} {e : Env} {s : State} {m : MethodId} {below : List Frame} {meth : Method} {c : Code} {b L i cells slots : Nat} {xs : Nat → Int32} {D : va_G} {a : Nat → Nat} {C : Nat → ClassId} {Q : State → Prop} {h : HS} (CC : lwC l p s m c b L xs D a C) (I : Inv h) (hi : i + 6 ≤ L) (hL : L ≤ 3072) (hcs : cells + 1 ≤ 601024 ∧ slots + 6 ≤ 7293034) (kk : ∀ h2, Inv h2 → lwK p l e s m below meth c b i D a C (cells + 1) (slots + 6) Q 1500 h2) : lwK p l e s m below meth c b i D a C cells slots Q 816 h := by
  obtain ⟨hx, hb, hml, hown, hts, hX, hbl, hK, hN, hT, hZ, ha, hA, hlT⟩ := CC
  intro H locs ls hP hS hl
  have hbA : ¬ lwA s b := Nat.not_le.mpr hbl
  have hf0 : cells + 0 ≤ room_1.cells ∧ slots + 0 ≤ room_1.slots := ⟨Nat.le_trans (by omega) hcs.1, Nat.le_trans (by omega) hcs.2⟩
  obtain ⟨r, h1, h2, e1, e2, I2⟩ := S_whatIs I (xs (nI i + 1).toNatClampNeg) (xs (nI i + 2).toNatClampNeg) (xs (nI i + 3).toNatClampNeg)
  refine lv_aload_n hx hb dL_law_816 rfl (lv_at hl 1 rfl) ?_
  refine lv_aload_n hx hb dL_law_817 rfl (lv_at hl 0 rfl) ?_
  refine lv_iload hx hb dL_law_818 (lv_at hl 4 rfl) ?_
  refine lv_iconst (v := 1) hx hb dL_law_820 (by decide) ?_
  refine lv_iadd hx hb dL_law_821 ?_
  refine va_sld hx hb hX hbl hbA hS (law_in (k := 1) hi hL (by decide)) dL_law_822 ?_
  refine lv_aload_n hx hb dL_law_823 rfl (lv_at hl 0 rfl) ?_
  refine lv_iload hx hb dL_law_824 (lv_at hl 4 rfl) ?_
  refine lv_iconst (v := 2) hx hb dL_law_826 (by decide) ?_
  refine lv_iadd hx hb dL_law_827 ?_
  refine va_sld hx hb hX hbl hbA hS (law_in (k := 2) hi hL (by decide)) dL_law_828 ?_
  refine lv_aload_n hx hb dL_law_829 rfl (lv_at hl 0 rfl) ?_
  refine lv_iload hx hb dL_law_830 (lv_at hl 4 rfl) ?_
  refine lv_iconst (v := 3) hx hb dL_law_832 (by decide) ?_
  refine lv_iadd hx hb dL_law_833 ?_
  refine va_sld hx hb hX hbl hbA hS (law_in (k := 3) hi hL (by decide)) dL_law_834 ?_
  refine g_callV (As := [.int (xs (nI i + 1).toNatClampNeg), .int (xs (nI i + 2).toNatClampNeg), .int (xs (nI i + 3).toNatClampNeg)]) (rest := []) hx hb hml hown hts hK hN (m_X11_whatIs l D a C ha h (xs (nI i + 1).toNatClampNeg) (xs (nI i + 2).toNatClampNeg) (xs (nI i + 3).toNatClampNeg) r h1 e1) (cwV 3 hts (gLup gL_law_X11_whatIs) rfl rfl rfl kdX11_whatIs ⟨Nat.le_of_ble_eq_true rfl, Nat.le_of_ble_eq_true rfl⟩) X_O rfl rfl hP hS hA rfl hl.1 rfl (Nat.le_of_ble_eq_true rfl) dL_law_835 hf0 (fun H locs hP hS => ?_)
  refine W.eq (g2 := F0 m 838 ls [.int r]) rfl ?_
  refine lv_aload_n hx hb dL_law_838 rfl (lv_at hl 2 rfl) ?_
  refine lv_aload_n hx hb dL_law_839 rfl (lv_at hl 0 rfl) ?_
  refine lv_iload hx hb dL_law_840 (lv_at hl 4 rfl) ?_
  refine lv_iconst (v := 1) hx hb dL_law_842 (by decide) ?_
  refine lv_iadd hx hb dL_law_843 ?_
  refine va_sld hx hb hX hbl hbA hS (law_in (k := 1) hi hL (by decide)) dL_law_844 ?_
  refine lv_aload_n hx hb dL_law_845 rfl (lv_at hl 0 rfl) ?_
  refine lv_iload hx hb dL_law_846 (lv_at hl 4 rfl) ?_
  refine lv_iconst (v := 2) hx hb dL_law_848 (by decide) ?_
  refine lv_iadd hx hb dL_law_849 ?_
  refine va_sld hx hb hX hbl hbA hS (law_in (k := 2) hi hL (by decide)) dL_law_850 ?_
  refine lv_aload_n hx hb dL_law_851 rfl (lv_at hl 0 rfl) ?_
  refine lv_iload hx hb dL_law_852 (lv_at hl 4 rfl) ?_
  refine lv_iconst (v := 3) hx hb dL_law_854 (by decide) ?_
  refine lv_iadd hx hb dL_law_855 ?_
  refine va_sld hx hb hX hbl hbA hS (law_in (k := 3) hi hL (by decide)) dL_law_856 ?_
  refine g_callV (As := [.int (xs (nI i + 1).toNatClampNeg), .int (xs (nI i + 2).toNatClampNeg), .int (xs (nI i + 3).toNatClampNeg)]) (rest := [.int r]) hx hb hml hown hts hK hN (m_X12_whatIs l D a C ha h1 (xs (nI i + 1).toNatClampNeg) (xs (nI i + 2).toNatClampNeg) (xs (nI i + 3).toNatClampNeg) r h2 e2) (cwV 3 hts gL_law_U_whatIs rfl rfl rfl kdX12_whatIs ⟨Nat.le_of_ble_eq_true rfl, Nat.le_of_ble_eq_true rfl⟩) M_O rfl rfl hP hS hA rfl hl.1 rfl (Nat.le_of_ble_eq_true rfl) dL_law_857 hf0 (fun H locs hP hS => ?_)
  refine W.eq (g2 := F0 m 860 ls [.int r, .int r]) rfl ?_
  refine lv_icmp_eq (tgt := 1500) hx hb dL_law_860 (by decide) (fun _ => ?_) (fun c9 => absurd rfl c9)
  refine W.widen (k := cells + 1) (n := slots + 6) (by omega) (by omega) ?_
  exact kk h2 I2 H locs ls hP hS hl
set_option maxHeartbeats 4000000 in
set_option maxRecDepth 100000 in
theorem lc_21 {l : Launch} {p : Program} {e : Env} {s : State} {m : MethodId} {below : List Frame} {meth : Method} {c : Code} {b L i cells slots : Nat} {xs : Nat → Int32} {D : va_G} {a : Nat → Nat} {C : Nat → ClassId} {Q : State → Prop} {h : HS} (CC : lwC l p s m c b L xs D a C) (I : Inv h) (hi : i + 6 ≤ L) (hL : L ≤ 3072) (hcs : cells + 1 ≤ 601024 ∧ slots + 6 ≤ 7293034) (kk : ∀ h2, Inv h2 → lwK p l e s m below meth c b i D a C (cells + 1) (slots + 6) Q 1500 h2) : lwK p l e s m below meth c b i D a C cells slots Q 865 h := by
  obtain ⟨hx, hb, hml, hown, hts, hX, hbl, hK, hN, hT, hZ, ha, hA, hlT⟩ := CC
  intro H locs ls hP hS hl
  have hbA : ¬ lwA s b := Nat.not_le.mpr hbl
  have hf0 : cells + 0 ≤ room_1.cells ∧ slots + 0 ≤ room_1.slots := ⟨Nat.le_trans (by omega) hcs.1, Nat.le_trans (by omega) hcs.2⟩
  obtain ⟨r, h2, e1, e2, I2⟩ := S_whoBegan I (xs (nI i + 1).toNatClampNeg)
  refine lv_aload_n hx hb dL_law_865 rfl (lv_at hl 1 rfl) ?_
  refine lv_aload_n hx hb dL_law_866 rfl (lv_at hl 0 rfl) ?_
  refine lv_iload hx hb dL_law_867 (lv_at hl 4 rfl) ?_
  refine lv_iconst (v := 1) hx hb dL_law_869 (by decide) ?_
  refine lv_iadd hx hb dL_law_870 ?_
  refine va_sld hx hb hX hbl hbA hS (law_in (k := 1) hi hL (by decide)) dL_law_871 ?_
  refine g_callV (As := [.int (xs (nI i + 1).toNatClampNeg)]) (rest := []) hx hb hml hown hts hK hN (m_X11_whoBegan l D a C ha h (xs (nI i + 1).toNatClampNeg) r e1) (cwV 1 hts (gLup gL_law_X11_whoBegan) rfl rfl rfl kdX11_whoBegan ⟨Nat.le_of_ble_eq_true rfl, Nat.le_of_ble_eq_true rfl⟩) X_O rfl rfl hP hS hA rfl hl.1 rfl (Nat.le_of_ble_eq_true rfl) dL_law_872 hf0 (fun H locs hP hS => ?_)
  refine W.eq (g2 := F0 m 875 ls [.int r]) rfl ?_
  refine lv_aload_n hx hb dL_law_875 rfl (lv_at hl 2 rfl) ?_
  refine lv_aload_n hx hb dL_law_876 rfl (lv_at hl 0 rfl) ?_
  refine lv_iload hx hb dL_law_877 (lv_at hl 4 rfl) ?_
  refine lv_iconst (v := 1) hx hb dL_law_879 (by decide) ?_
  refine lv_iadd hx hb dL_law_880 ?_
  refine va_sld hx hb hX hbl hbA hS (law_in (k := 1) hi hL (by decide)) dL_law_881 ?_
  refine g_callV (As := [.int (xs (nI i + 1).toNatClampNeg)]) (rest := [.int r]) hx hb hml hown hts hK hN (m_X12_whoBegan l D a C ha h (xs (nI i + 1).toNatClampNeg) r h2 e2) (cwV 1 hts gL_law_U_whoBegan rfl rfl rfl kdX12_whoBegan ⟨Nat.le_of_ble_eq_true rfl, Nat.le_of_ble_eq_true rfl⟩) M_O rfl rfl hP hS hA rfl hl.1 rfl (Nat.le_of_ble_eq_true rfl) dL_law_882 hf0 (fun H locs hP hS => ?_)
  refine W.eq (g2 := F0 m 885 ls [.int r, .int r]) rfl ?_
  refine lv_icmp_eq (tgt := 1500) hx hb dL_law_885 (by decide) (fun _ => ?_) (fun c9 => absurd rfl c9)
  refine W.widen (k := cells + 1) (n := slots + 6) (by omega) (by omega) ?_
  exact kk h2 I2 H locs ls hP hS hl
set_option maxHeartbeats 4000000 in
set_option maxRecDepth 100000 in
theorem lc_22 {l : Launch} {p : Program} {e : Env} {s : State} {m : MethodId} {below : List Frame} {meth : Method} {c : Code} {b L i cells slots : Nat} {xs : Nat → Int32} {D : va_G} {a : Nat → Nat} {C : Nat → ClassId} {Q : State → Prop} {h : HS} (CC : lwC l p s m c b L xs D a C) (I : Inv h) (hi : i + 6 ≤ L) (hL : L ≤ 3072) (hcs : cells + 1 ≤ 601024 ∧ slots + 6 ≤ 7293034) (kk : ∀ h2, Inv h2 → lwK p l e s m below meth c b i D a C (cells + 1) (slots + 6) Q 1500 h2) : lwK p l e s m below meth c b i D a C cells slots Q 890 h := by
  obtain ⟨hx, hb, hml, hown, hts, hX, hbl, hK, hN, hT, hZ, ha, hA, hlT⟩ := CC
  intro H locs ls hP hS hl
  have hbA : ¬ lwA s b := Nat.not_le.mpr hbl
  have hf0 : cells + 0 ≤ room_1.cells ∧ slots + 0 ≤ room_1.slots := ⟨Nat.le_trans (by omega) hcs.1, Nat.le_trans (by omega) hcs.2⟩
  obtain ⟨r, h2, e1, e2, I2⟩ := S_two I (xs (nI i + 1).toNatClampNeg) (xs (nI i + 2).toNatClampNeg) (xs (nI i + 3).toNatClampNeg)
  refine lv_aload_n hx hb dL_law_890 rfl (lv_at hl 1 rfl) ?_
  refine lv_aload_n hx hb dL_law_891 rfl (lv_at hl 0 rfl) ?_
  refine lv_iload hx hb dL_law_892 (lv_at hl 4 rfl) ?_
  refine lv_iconst (v := 1) hx hb dL_law_894 (by decide) ?_
  refine lv_iadd hx hb dL_law_895 ?_
  refine va_sld hx hb hX hbl hbA hS (law_in (k := 1) hi hL (by decide)) dL_law_896 ?_
  refine lv_aload_n hx hb dL_law_897 rfl (lv_at hl 0 rfl) ?_
  refine lv_iload hx hb dL_law_898 (lv_at hl 4 rfl) ?_
  refine lv_iconst (v := 2) hx hb dL_law_900 (by decide) ?_
  refine lv_iadd hx hb dL_law_901 ?_
  refine va_sld hx hb hX hbl hbA hS (law_in (k := 2) hi hL (by decide)) dL_law_902 ?_
  refine lv_aload_n hx hb dL_law_903 rfl (lv_at hl 0 rfl) ?_
  refine lv_iload hx hb dL_law_904 (lv_at hl 4 rfl) ?_
  refine lv_iconst (v := 3) hx hb dL_law_906 (by decide) ?_
  refine lv_iadd hx hb dL_law_907 ?_
  refine va_sld hx hb hX hbl hbA hS (law_in (k := 3) hi hL (by decide)) dL_law_908 ?_
  refine g_callV (As := [.int (xs (nI i + 1).toNatClampNeg), .int (xs (nI i + 2).toNatClampNeg), .int (xs (nI i + 3).toNatClampNeg)]) (rest := []) hx hb hml hown hts hK hN (m_X11_two l D a C ha h (xs (nI i + 1).toNatClampNeg) (xs (nI i + 2).toNatClampNeg) (xs (nI i + 3).toNatClampNeg) r e1) (cwV 3 hts (gLup gL_law_X11_two) rfl rfl rfl kdX11_two ⟨Nat.le_of_ble_eq_true rfl, Nat.le_of_ble_eq_true rfl⟩) X_O rfl rfl hP hS hA rfl hl.1 rfl (Nat.le_of_ble_eq_true rfl) dL_law_909 hf0 (fun H locs hP hS => ?_)
  refine W.eq (g2 := F0 m 912 ls [.int r]) rfl ?_
  refine lv_aload_n hx hb dL_law_912 rfl (lv_at hl 2 rfl) ?_
  refine lv_aload_n hx hb dL_law_913 rfl (lv_at hl 0 rfl) ?_
  refine lv_iload hx hb dL_law_914 (lv_at hl 4 rfl) ?_
  refine lv_iconst (v := 1) hx hb dL_law_916 (by decide) ?_
  refine lv_iadd hx hb dL_law_917 ?_
  refine va_sld hx hb hX hbl hbA hS (law_in (k := 1) hi hL (by decide)) dL_law_918 ?_
  refine lv_aload_n hx hb dL_law_919 rfl (lv_at hl 0 rfl) ?_
  refine lv_iload hx hb dL_law_920 (lv_at hl 4 rfl) ?_
  refine lv_iconst (v := 2) hx hb dL_law_922 (by decide) ?_
  refine lv_iadd hx hb dL_law_923 ?_
  refine va_sld hx hb hX hbl hbA hS (law_in (k := 2) hi hL (by decide)) dL_law_924 ?_
  refine lv_aload_n hx hb dL_law_925 rfl (lv_at hl 0 rfl) ?_
  refine lv_iload hx hb dL_law_926 (lv_at hl 4 rfl) ?_
  refine lv_iconst (v := 3) hx hb dL_law_928 (by decide) ?_
  refine lv_iadd hx hb dL_law_929 ?_
  refine va_sld hx hb hX hbl hbA hS (law_in (k := 3) hi hL (by decide)) dL_law_930 ?_
  refine g_callV (As := [.int (xs (nI i + 1).toNatClampNeg), .int (xs (nI i + 2).toNatClampNeg), .int (xs (nI i + 3).toNatClampNeg)]) (rest := [.int r]) hx hb hml hown hts hK hN (m_X12_two l D a C ha h (xs (nI i + 1).toNatClampNeg) (xs (nI i + 2).toNatClampNeg) (xs (nI i + 3).toNatClampNeg) r h2 e2) (cwV 3 hts gL_law_U_two rfl rfl rfl kdX12_two ⟨Nat.le_of_ble_eq_true rfl, Nat.le_of_ble_eq_true rfl⟩) M_O rfl rfl hP hS hA rfl hl.1 rfl (Nat.le_of_ble_eq_true rfl) dL_law_931 hf0 (fun H locs hP hS => ?_)
  refine W.eq (g2 := F0 m 934 ls [.int r, .int r]) rfl ?_
  refine lv_icmp_eq (tgt := 1500) hx hb dL_law_934 (by decide) (fun _ => ?_) (fun c9 => absurd rfl c9)
  refine W.widen (k := cells + 1) (n := slots + 6) (by omega) (by omega) ?_
  exact kk h2 I2 H locs ls hP hS hl
set_option maxHeartbeats 4000000 in
set_option maxRecDepth 100000 in
theorem lc_23 {l : Launch} {p : Program} {e : Env} {s : State} {m : MethodId} {below : List Frame} {meth : Method} {c : Code} {b L i cells slots : Nat} {xs : Nat → Int32} {D : va_G} {a : Nat → Nat} {C : Nat → ClassId} {Q : State → Prop} {h : HS} (CC : lwC l p s m c b L xs D a C) (I : Inv h) (hi : i + 6 ≤ L) (hL : L ≤ 3072) (hcs : cells + 1 ≤ 601024 ∧ slots + 6 ≤ 7293034) (kk : ∀ h2, Inv h2 → lwK p l e s m below meth c b i D a C (cells + 1) (slots + 6) Q 1500 h2) : lwK p l e s m below meth c b i D a C cells slots Q 939 h := by
  obtain ⟨hx, hb, hml, hown, hts, hX, hbl, hK, hN, hT, hZ, ha, hA, hlT⟩ := CC
  intro H locs ls hP hS hl
  have hbA : ¬ lwA s b := Nat.not_le.mpr hbl
  have hf0 : cells + 0 ≤ room_1.cells ∧ slots + 0 ≤ room_1.slots := ⟨Nat.le_trans (by omega) hcs.1, Nat.le_trans (by omega) hcs.2⟩
  obtain ⟨r, h2, e1, e2, I2⟩ := S_storms I (xs (nI i + 1).toNatClampNeg) (xs (nI i + 2).toNatClampNeg) (xs (nI i + 3).toNatClampNeg) (xs (nI i + 4).toNatClampNeg)
  refine lv_aload_n hx hb dL_law_939 rfl (lv_at hl 1 rfl) ?_
  refine lv_aload_n hx hb dL_law_940 rfl (lv_at hl 0 rfl) ?_
  refine lv_iload hx hb dL_law_941 (lv_at hl 4 rfl) ?_
  refine lv_iconst (v := 1) hx hb dL_law_943 (by decide) ?_
  refine lv_iadd hx hb dL_law_944 ?_
  refine va_sld hx hb hX hbl hbA hS (law_in (k := 1) hi hL (by decide)) dL_law_945 ?_
  refine lv_aload_n hx hb dL_law_946 rfl (lv_at hl 0 rfl) ?_
  refine lv_iload hx hb dL_law_947 (lv_at hl 4 rfl) ?_
  refine lv_iconst (v := 2) hx hb dL_law_949 (by decide) ?_
  refine lv_iadd hx hb dL_law_950 ?_
  refine va_sld hx hb hX hbl hbA hS (law_in (k := 2) hi hL (by decide)) dL_law_951 ?_
  refine lv_aload_n hx hb dL_law_952 rfl (lv_at hl 0 rfl) ?_
  refine lv_iload hx hb dL_law_953 (lv_at hl 4 rfl) ?_
  refine lv_iconst (v := 3) hx hb dL_law_955 (by decide) ?_
  refine lv_iadd hx hb dL_law_956 ?_
  refine va_sld hx hb hX hbl hbA hS (law_in (k := 3) hi hL (by decide)) dL_law_957 ?_
  refine lv_aload_n hx hb dL_law_958 rfl (lv_at hl 0 rfl) ?_
  refine lv_iload hx hb dL_law_959 (lv_at hl 4 rfl) ?_
  refine lv_iconst (v := 4) hx hb dL_law_961 (by decide) ?_
  refine lv_iadd hx hb dL_law_962 ?_
  refine va_sld hx hb hX hbl hbA hS (law_in (k := 4) hi hL (by decide)) dL_law_963 ?_
  refine g_callV (As := [.int (xs (nI i + 1).toNatClampNeg), .int (xs (nI i + 2).toNatClampNeg), .int (xs (nI i + 3).toNatClampNeg), .int (xs (nI i + 4).toNatClampNeg)]) (rest := []) hx hb hml hown hts hK hN (m_X11_storms l D a C ha h (xs (nI i + 1).toNatClampNeg) (xs (nI i + 2).toNatClampNeg) (xs (nI i + 3).toNatClampNeg) (xs (nI i + 4).toNatClampNeg) r e1) (cwV 4 hts (gLup gL_law_X11_storms) rfl rfl rfl kdX11_storms ⟨Nat.le_of_ble_eq_true rfl, Nat.le_of_ble_eq_true rfl⟩) X_O rfl rfl hP hS hA rfl hl.1 rfl (Nat.le_of_ble_eq_true rfl) dL_law_964 hf0 (fun H locs hP hS => ?_)
  refine W.eq (g2 := F0 m 967 ls [.long r]) rfl ?_
  refine lv_aload_n hx hb dL_law_967 rfl (lv_at hl 2 rfl) ?_
  refine lv_aload_n hx hb dL_law_968 rfl (lv_at hl 0 rfl) ?_
  refine lv_iload hx hb dL_law_969 (lv_at hl 4 rfl) ?_
  refine lv_iconst (v := 1) hx hb dL_law_971 (by decide) ?_
  refine lv_iadd hx hb dL_law_972 ?_
  refine va_sld hx hb hX hbl hbA hS (law_in (k := 1) hi hL (by decide)) dL_law_973 ?_
  refine lv_aload_n hx hb dL_law_974 rfl (lv_at hl 0 rfl) ?_
  refine lv_iload hx hb dL_law_975 (lv_at hl 4 rfl) ?_
  refine lv_iconst (v := 2) hx hb dL_law_977 (by decide) ?_
  refine lv_iadd hx hb dL_law_978 ?_
  refine va_sld hx hb hX hbl hbA hS (law_in (k := 2) hi hL (by decide)) dL_law_979 ?_
  refine lv_aload_n hx hb dL_law_980 rfl (lv_at hl 0 rfl) ?_
  refine lv_iload hx hb dL_law_981 (lv_at hl 4 rfl) ?_
  refine lv_iconst (v := 3) hx hb dL_law_983 (by decide) ?_
  refine lv_iadd hx hb dL_law_984 ?_
  refine va_sld hx hb hX hbl hbA hS (law_in (k := 3) hi hL (by decide)) dL_law_985 ?_
  refine lv_aload_n hx hb dL_law_986 rfl (lv_at hl 0 rfl) ?_
  refine lv_iload hx hb dL_law_987 (lv_at hl 4 rfl) ?_
  refine lv_iconst (v := 4) hx hb dL_law_989 (by decide) ?_
  refine lv_iadd hx hb dL_law_990 ?_
  refine va_sld hx hb hX hbl hbA hS (law_in (k := 4) hi hL (by decide)) dL_law_991 ?_
  refine g_callV (As := [.int (xs (nI i + 1).toNatClampNeg), .int (xs (nI i + 2).toNatClampNeg), .int (xs (nI i + 3).toNatClampNeg), .int (xs (nI i + 4).toNatClampNeg)]) (rest := [.long r]) hx hb hml hown hts hK hN (m_X12_storms l D a C ha h (xs (nI i + 1).toNatClampNeg) (xs (nI i + 2).toNatClampNeg) (xs (nI i + 3).toNatClampNeg) (xs (nI i + 4).toNatClampNeg) r h2 e2) (cwV 4 hts gL_law_U_storms rfl rfl rfl kdX12_storms ⟨Nat.le_of_ble_eq_true rfl, Nat.le_of_ble_eq_true rfl⟩) M_O rfl rfl hP hS hA rfl hl.1 rfl (Nat.le_of_ble_eq_true rfl) dL_law_992 hf0 (fun H locs hP hS => ?_)
  refine W.eq (g2 := F0 m 995 ls [.long r, .long r]) rfl ?_
  refine W.lcmp hx hb dL_law_995 ?_
  refine lv_if_eq (tgt := 1500) hx hb dL_law_996 (by decide) (fun _ => ?_) (fun c9 => absurd (lcmp_self r) c9)
  refine W.widen (k := cells + 1) (n := slots + 6) (by omega) (by omega) ?_
  exact kk h2 I2 H locs ls hP hS hl
set_option maxHeartbeats 4000000 in
set_option maxRecDepth 100000 in
theorem lc_24 {l : Launch} {p : Program} {e : Env} {s : State} {m : MethodId} {below : List Frame} {meth : Method} {c : Code} {b L i cells slots : Nat} {xs : Nat → Int32} {D : va_G} {a : Nat → Nat} {C : Nat → ClassId} {Q : State → Prop} {h : HS} (CC : lwC l p s m c b L xs D a C) (I : Inv h) (hi : i + 6 ≤ L) (hL : L ≤ 3072) (hcs : cells + 1 ≤ 601024 ∧ slots + 6 ≤ 7293034) (kk : ∀ h2, Inv h2 → lwK p l e s m below meth c b i D a C (cells + 1) (slots + 6) Q 1500 h2) : lwK p l e s m below meth c b i D a C cells slots Q 1001 h := by
  obtain ⟨hx, hb, hml, hown, hts, hX, hbl, hK, hN, hT, hZ, ha, hA, hlT⟩ := CC
  intro H locs ls hP hS hl
  have hbA : ¬ lwA s b := Nat.not_le.mpr hbl
  have hf0 : cells + 0 ≤ room_1.cells ∧ slots + 0 ≤ room_1.slots := ⟨Nat.le_trans (by omega) hcs.1, Nat.le_trans (by omega) hcs.2⟩
  obtain ⟨r, e1, e2⟩ := S_forged I (xs (nI i + 1).toNatClampNeg)
  refine lv_aload_n hx hb dL_law_1001 rfl (lv_at hl 1 rfl) ?_
  refine lv_aload_n hx hb dL_law_1002 rfl (lv_at hl 0 rfl) ?_
  refine lv_iload hx hb dL_law_1003 (lv_at hl 4 rfl) ?_
  refine lv_iconst (v := 1) hx hb dL_law_1005 (by decide) ?_
  refine lv_iadd hx hb dL_law_1006 ?_
  refine va_sld hx hb hX hbl hbA hS (law_in (k := 1) hi hL (by decide)) dL_law_1007 ?_
  refine g_callV (As := [.int (xs (nI i + 1).toNatClampNeg)]) (rest := []) hx hb hml hown hts hK hN (m_X11_forged l D a C ha h (xs (nI i + 1).toNatClampNeg) r e1) (cwV 1 hts (gLup gL_law_X11_forged) rfl rfl rfl kdX11_forged ⟨Nat.le_of_ble_eq_true rfl, Nat.le_of_ble_eq_true rfl⟩) X_O rfl rfl hP hS hA rfl hl.1 rfl (Nat.le_of_ble_eq_true rfl) dL_law_1008 hf0 (fun H locs hP hS => ?_)
  refine W.eq (g2 := F0 m 1011 ls [.int r]) rfl ?_
  refine lv_aload_n hx hb dL_law_1011 rfl (lv_at hl 2 rfl) ?_
  refine lv_aload_n hx hb dL_law_1012 rfl (lv_at hl 0 rfl) ?_
  refine lv_iload hx hb dL_law_1013 (lv_at hl 4 rfl) ?_
  refine lv_iconst (v := 1) hx hb dL_law_1015 (by decide) ?_
  refine lv_iadd hx hb dL_law_1016 ?_
  refine va_sld hx hb hX hbl hbA hS (law_in (k := 1) hi hL (by decide)) dL_law_1017 ?_
  refine g_callV (As := [.int (xs (nI i + 1).toNatClampNeg)]) (rest := [.int r]) hx hb hml hown hts hK hN (m_X12_forged l D a C ha h (xs (nI i + 1).toNatClampNeg) r e2) (cwV 1 hts gL_law_U_forged rfl rfl rfl kdX12_forged ⟨Nat.le_of_ble_eq_true rfl, Nat.le_of_ble_eq_true rfl⟩) M_O rfl rfl hP hS hA rfl hl.1 rfl (Nat.le_of_ble_eq_true rfl) dL_law_1018 hf0 (fun H locs hP hS => ?_)
  refine W.eq (g2 := F0 m 1021 ls [.int r, .int r]) rfl ?_
  refine lv_icmp_eq (tgt := 1500) hx hb dL_law_1021 (by decide) (fun _ => ?_) (fun c9 => absurd rfl c9)
  refine W.widen (k := cells + 1) (n := slots + 6) (by omega) (by omega) ?_
  exact kk h I H locs ls hP hS hl
set_option maxHeartbeats 4000000 in
set_option maxRecDepth 100000 in
theorem lc_25 {l : Launch} {p : Program} {e : Env} {s : State} {m : MethodId} {below : List Frame} {meth : Method} {c : Code} {b L i cells slots : Nat} {xs : Nat → Int32} {D : va_G} {a : Nat → Nat} {C : Nat → ClassId} {Q : State → Prop} {h : HS} (CC : lwC l p s m c b L xs D a C) (I : Inv h) (hi : i + 6 ≤ L) (hL : L ≤ 3072) (hcs : cells + 1 ≤ 601024 ∧ slots + 6 ≤ 7293034) (kk : ∀ h2, Inv h2 → lwK p l e s m below meth c b i D a C (cells + 1) (slots + 6) Q 1500 h2) : lwK p l e s m below meth c b i D a C cells slots Q 1026 h := by
  obtain ⟨hx, hb, hml, hown, hts, hX, hbl, hK, hN, hT, hZ, ha, hA, hlT⟩ := CC
  intro H locs ls hP hS hl
  have hbA : ¬ lwA s b := Nat.not_le.mpr hbl
  have hf0 : cells + 0 ≤ room_1.cells ∧ slots + 0 ≤ room_1.slots := ⟨Nat.le_trans (by omega) hcs.1, Nat.le_trans (by omega) hcs.2⟩
  obtain ⟨r, h2, e1, e2, I2⟩ := S_judge I (xs (nI i + 1).toNatClampNeg)
  refine lv_aload_n hx hb dL_law_1026 rfl (lv_at hl 1 rfl) ?_
  refine lv_aload_n hx hb dL_law_1027 rfl (lv_at hl 0 rfl) ?_
  refine lv_iload hx hb dL_law_1028 (lv_at hl 4 rfl) ?_
  refine lv_iconst (v := 1) hx hb dL_law_1030 (by decide) ?_
  refine lv_iadd hx hb dL_law_1031 ?_
  refine va_sld hx hb hX hbl hbA hS (law_in (k := 1) hi hL (by decide)) dL_law_1032 ?_
  refine g_callV (As := [.int (xs (nI i + 1).toNatClampNeg)]) (rest := []) hx hb hml hown hts hK hN (m_X11_judge l D a C ha h (xs (nI i + 1).toNatClampNeg) r e1) (cwV 1 hts (gLup gL_law_X11_judge) rfl rfl rfl kdX11_judge ⟨Nat.le_of_ble_eq_true rfl, Nat.le_of_ble_eq_true rfl⟩) X_O rfl rfl hP hS hA rfl hl.1 rfl (Nat.le_of_ble_eq_true rfl) dL_law_1033 hf0 (fun H locs hP hS => ?_)
  refine W.eq (g2 := F0 m 1036 ls [.int r]) rfl ?_
  refine lv_aload_n hx hb dL_law_1036 rfl (lv_at hl 2 rfl) ?_
  refine lv_aload_n hx hb dL_law_1037 rfl (lv_at hl 0 rfl) ?_
  refine lv_iload hx hb dL_law_1038 (lv_at hl 4 rfl) ?_
  refine lv_iconst (v := 1) hx hb dL_law_1040 (by decide) ?_
  refine lv_iadd hx hb dL_law_1041 ?_
  refine va_sld hx hb hX hbl hbA hS (law_in (k := 1) hi hL (by decide)) dL_law_1042 ?_
  refine g_callV (As := [.int (xs (nI i + 1).toNatClampNeg)]) (rest := [.int r]) hx hb hml hown hts hK hN (m_X12_judge l D a C ha h (xs (nI i + 1).toNatClampNeg) r h2 e2) (cwV 1 hts gL_law_U_judge rfl rfl rfl kdX12_judge ⟨Nat.le_of_ble_eq_true rfl, Nat.le_of_ble_eq_true rfl⟩) M_O rfl rfl hP hS hA rfl hl.1 rfl (Nat.le_of_ble_eq_true rfl) dL_law_1043 hf0 (fun H locs hP hS => ?_)
  refine W.eq (g2 := F0 m 1046 ls [.int r, .int r]) rfl ?_
  refine lv_icmp_eq (tgt := 1500) hx hb dL_law_1046 (by decide) (fun _ => ?_) (fun c9 => absurd rfl c9)
  refine W.widen (k := cells + 1) (n := slots + 6) (by omega) (by omega) ?_
  exact kk h2 I2 H locs ls hP hS hl
set_option maxHeartbeats 4000000 in
set_option maxRecDepth 100000 in
theorem lc_26 {l : Launch} {p : Program} {e : Env} {s : State} {m : MethodId} {below : List Frame} {meth : Method} {c : Code} {b L i cells slots : Nat} {xs : Nat → Int32} {D : va_G} {a : Nat → Nat} {C : Nat → ClassId} {Q : State → Prop} {h : HS} (CC : lwC l p s m c b L xs D a C) (I : Inv h) (hi : i + 6 ≤ L) (hL : L ≤ 3072) (hcs : cells + 1 ≤ 601024 ∧ slots + 6 ≤ 7293034) (kk : ∀ h2, Inv h2 → lwK p l e s m below meth c b i D a C (cells + 1) (slots + 6) Q 1500 h2) : lwK p l e s m below meth c b i D a C cells slots Q 1051 h := by
  obtain ⟨hx, hb, hml, hown, hts, hX, hbl, hK, hN, hT, hZ, ha, hA, hlT⟩ := CC
  intro H locs ls hP hS hl
  have hbA : ¬ lwA s b := Nat.not_le.mpr hbl
  have hf0 : cells + 0 ≤ room_1.cells ∧ slots + 0 ≤ room_1.slots := ⟨Nat.le_trans (by omega) hcs.1, Nat.le_trans (by omega) hcs.2⟩
  obtain ⟨r, h1, h2, e1, e2, I2⟩ := S_years I (xs (nI i + 1).toNatClampNeg) (xs (nI i + 2).toNatClampNeg) (xs (nI i + 3).toNatClampNeg)
  refine lv_aload_n hx hb dL_law_1051 rfl (lv_at hl 1 rfl) ?_
  refine lv_aload_n hx hb dL_law_1052 rfl (lv_at hl 0 rfl) ?_
  refine lv_iload hx hb dL_law_1053 (lv_at hl 4 rfl) ?_
  refine lv_iconst (v := 1) hx hb dL_law_1055 (by decide) ?_
  refine lv_iadd hx hb dL_law_1056 ?_
  refine va_sld hx hb hX hbl hbA hS (law_in (k := 1) hi hL (by decide)) dL_law_1057 ?_
  refine lv_aload_n hx hb dL_law_1058 rfl (lv_at hl 0 rfl) ?_
  refine lv_iload hx hb dL_law_1059 (lv_at hl 4 rfl) ?_
  refine lv_iconst (v := 2) hx hb dL_law_1061 (by decide) ?_
  refine lv_iadd hx hb dL_law_1062 ?_
  refine va_sld hx hb hX hbl hbA hS (law_in (k := 2) hi hL (by decide)) dL_law_1063 ?_
  refine lv_aload_n hx hb dL_law_1064 rfl (lv_at hl 0 rfl) ?_
  refine lv_iload hx hb dL_law_1065 (lv_at hl 4 rfl) ?_
  refine lv_iconst (v := 3) hx hb dL_law_1067 (by decide) ?_
  refine lv_iadd hx hb dL_law_1068 ?_
  refine va_sld hx hb hX hbl hbA hS (law_in (k := 3) hi hL (by decide)) dL_law_1069 ?_
  refine g_callV (As := [.int (xs (nI i + 1).toNatClampNeg), .int (xs (nI i + 2).toNatClampNeg), .int (xs (nI i + 3).toNatClampNeg)]) (rest := []) hx hb hml hown hts hK hN (m_X11_years l D a C ha h (xs (nI i + 1).toNatClampNeg) (xs (nI i + 2).toNatClampNeg) (xs (nI i + 3).toNatClampNeg) r h1 e1) (cwV 3 hts (gLup gL_law_X11_years) rfl rfl rfl kdX11_years ⟨Nat.le_of_ble_eq_true rfl, Nat.le_of_ble_eq_true rfl⟩) X_O rfl rfl hP hS hA rfl hl.1 rfl (Nat.le_of_ble_eq_true rfl) dL_law_1070 hf0 (fun H locs hP hS => ?_)
  refine W.eq (g2 := F0 m 1073 ls [.int r]) rfl ?_
  refine lv_aload_n hx hb dL_law_1073 rfl (lv_at hl 2 rfl) ?_
  refine lv_aload_n hx hb dL_law_1074 rfl (lv_at hl 0 rfl) ?_
  refine lv_iload hx hb dL_law_1075 (lv_at hl 4 rfl) ?_
  refine lv_iconst (v := 1) hx hb dL_law_1077 (by decide) ?_
  refine lv_iadd hx hb dL_law_1078 ?_
  refine va_sld hx hb hX hbl hbA hS (law_in (k := 1) hi hL (by decide)) dL_law_1079 ?_
  refine lv_aload_n hx hb dL_law_1080 rfl (lv_at hl 0 rfl) ?_
  refine lv_iload hx hb dL_law_1081 (lv_at hl 4 rfl) ?_
  refine lv_iconst (v := 2) hx hb dL_law_1083 (by decide) ?_
  refine lv_iadd hx hb dL_law_1084 ?_
  refine va_sld hx hb hX hbl hbA hS (law_in (k := 2) hi hL (by decide)) dL_law_1085 ?_
  refine lv_aload_n hx hb dL_law_1086 rfl (lv_at hl 0 rfl) ?_
  refine lv_iload hx hb dL_law_1087 (lv_at hl 4 rfl) ?_
  refine lv_iconst (v := 3) hx hb dL_law_1089 (by decide) ?_
  refine lv_iadd hx hb dL_law_1090 ?_
  refine va_sld hx hb hX hbl hbA hS (law_in (k := 3) hi hL (by decide)) dL_law_1091 ?_
  refine g_callV (As := [.int (xs (nI i + 1).toNatClampNeg), .int (xs (nI i + 2).toNatClampNeg), .int (xs (nI i + 3).toNatClampNeg)]) (rest := [.int r]) hx hb hml hown hts hK hN (m_X12_years l D a C ha h1 (xs (nI i + 1).toNatClampNeg) (xs (nI i + 2).toNatClampNeg) (xs (nI i + 3).toNatClampNeg) r h2 e2) (cwV 3 hts gL_law_U_years rfl rfl rfl kdX12_years ⟨Nat.le_of_ble_eq_true rfl, Nat.le_of_ble_eq_true rfl⟩) M_O rfl rfl hP hS hA rfl hl.1 rfl (Nat.le_of_ble_eq_true rfl) dL_law_1092 hf0 (fun H locs hP hS => ?_)
  refine W.eq (g2 := F0 m 1095 ls [.int r, .int r]) rfl ?_
  refine lv_icmp_eq (tgt := 1500) hx hb dL_law_1095 (by decide) (fun _ => ?_) (fun c9 => absurd rfl c9)
  refine W.widen (k := cells + 1) (n := slots + 6) (by omega) (by omega) ?_
  exact kk h2 I2 H locs ls hP hS hl
set_option maxHeartbeats 4000000 in
set_option maxRecDepth 100000 in
theorem lc_27 {l : Launch} {p : Program} {e : Env} {s : State} {m : MethodId} {below : List Frame} {meth : Method} {c : Code} {b L i cells slots : Nat} {xs : Nat → Int32} {D : va_G} {a : Nat → Nat} {C : Nat → ClassId} {Q : State → Prop} {h : HS} (CC : lwC l p s m c b L xs D a C) (I : Inv h) (hi : i + 6 ≤ L) (hL : L ≤ 3072) (hcs : cells + 1 ≤ 601024 ∧ slots + 6 ≤ 7293034) (kk : ∀ h2, Inv h2 → lwK p l e s m below meth c b i D a C (cells + 1) (slots + 6) Q 1500 h2) : lwK p l e s m below meth c b i D a C cells slots Q 1100 h := by
  obtain ⟨hx, hb, hml, hown, hts, hX, hbl, hK, hN, hT, hZ, ha, hA, hlT⟩ := CC
  intro H locs ls hP hS hl
  have hbA : ¬ lwA s b := Nat.not_le.mpr hbl
  have hf0 : cells + 0 ≤ room_1.cells ∧ slots + 0 ≤ room_1.slots := ⟨Nat.le_trans (by omega) hcs.1, Nat.le_trans (by omega) hcs.2⟩
  obtain ⟨r, h1, h2, e1, e2, I2⟩ := S_image I 
  refine lv_aload_n hx hb dL_law_1100 rfl (lv_at hl 1 rfl) ?_
  refine g_callV (As := []) (rest := []) hx hb hml hown hts hK hN (m_X11_image l D a C ha h  r h1 e1) (cwV 0 hts (gLup gL_law_X11_image) rfl rfl rfl kdX11_image ⟨Nat.le_of_ble_eq_true rfl, Nat.le_of_ble_eq_true rfl⟩) X_O rfl rfl hP hS hA rfl hl.1 rfl (Nat.le_of_ble_eq_true rfl) dL_law_1101 hf0 (fun H locs hP hS => ?_)
  refine W.eq (g2 := F0 m 1104 ls [.int r]) rfl ?_
  refine lv_aload_n hx hb dL_law_1104 rfl (lv_at hl 2 rfl) ?_
  refine g_callV (As := []) (rest := [.int r]) hx hb hml hown hts hK hN (m_X12_image l D a C ha h1  r h2 e2) (cwV 0 hts gL_law_U_image rfl rfl rfl kdX12_image ⟨Nat.le_of_ble_eq_true rfl, Nat.le_of_ble_eq_true rfl⟩) M_O rfl rfl hP hS hA rfl hl.1 rfl (Nat.le_of_ble_eq_true rfl) dL_law_1105 hf0 (fun H locs hP hS => ?_)
  refine W.eq (g2 := F0 m 1108 ls [.int r, .int r]) rfl ?_
  refine lv_icmp_eq (tgt := 1500) hx hb dL_law_1108 (by decide) (fun _ => ?_) (fun c9 => absurd rfl c9)
  refine W.widen (k := cells + 1) (n := slots + 6) (by omega) (by omega) ?_
  exact kk h2 I2 H locs ls hP hS hl
set_option maxHeartbeats 4000000 in
set_option maxRecDepth 100000 in
theorem lc_28 {l : Launch} {p : Program} {e : Env} {s : State} {m : MethodId} {below : List Frame} {meth : Method} {c : Code} {b L i cells slots : Nat} {xs : Nat → Int32} {D : va_G} {a : Nat → Nat} {C : Nat → ClassId} {Q : State → Prop} {h : HS} (CC : lwC l p s m c b L xs D a C) (I : Inv h) (hi : i + 6 ≤ L) (hL : L ≤ 3072) (hcs : cells + 1 ≤ 601024 ∧ slots + 6 ≤ 7293034) (kk : ∀ h2, Inv h2 → lwK p l e s m below meth c b i D a C (cells + 1) (slots + 6) Q 1500 h2) : lwK p l e s m below meth c b i D a C cells slots Q 1113 h := by
  obtain ⟨hx, hb, hml, hown, hts, hX, hbl, hK, hN, hT, hZ, ha, hA, hlT⟩ := CC
  intro H locs ls hP hS hl
  have hbA : ¬ lwA s b := Nat.not_le.mpr hbl
  have hf0 : cells + 0 ≤ room_1.cells ∧ slots + 0 ≤ room_1.slots := ⟨Nat.le_trans (by omega) hcs.1, Nat.le_trans (by omega) hcs.2⟩
  obtain ⟨r, h1, h2, e1, e2, I2⟩ := S_restore I 
  refine lv_aload_n hx hb dL_law_1113 rfl (lv_at hl 1 rfl) ?_
  refine g_callV (As := []) (rest := []) hx hb hml hown hts hK hN (m_X11_restore l D a C ha h  r h1 e1) (cwV 0 hts (gLup gL_law_X11_restore) rfl rfl rfl kdX11_restore ⟨Nat.le_of_ble_eq_true rfl, Nat.le_of_ble_eq_true rfl⟩) X_O rfl rfl hP hS hA rfl hl.1 rfl (Nat.le_of_ble_eq_true rfl) dL_law_1114 hf0 (fun H locs hP hS => ?_)
  refine W.eq (g2 := F0 m 1117 ls [.int r]) rfl ?_
  refine lv_aload_n hx hb dL_law_1117 rfl (lv_at hl 2 rfl) ?_
  refine g_callV (As := []) (rest := [.int r]) hx hb hml hown hts hK hN (m_X12_restore l D a C ha h1  r h2 e2) (cwV 0 hts gL_law_U_restore rfl rfl rfl kdX12_restore ⟨Nat.le_of_ble_eq_true rfl, Nat.le_of_ble_eq_true rfl⟩) M_O rfl rfl hP hS hA rfl hl.1 rfl (Nat.le_of_ble_eq_true rfl) dL_law_1118 hf0 (fun H locs hP hS => ?_)
  refine W.eq (g2 := F0 m 1121 ls [.int r, .int r]) rfl ?_
  refine lv_icmp_eq (tgt := 1500) hx hb dL_law_1121 (by decide) (fun _ => ?_) (fun c9 => absurd rfl c9)
  refine W.widen (k := cells + 1) (n := slots + 6) (by omega) (by omega) ?_
  exact kk h2 I2 H locs ls hP hS hl
set_option maxHeartbeats 4000000 in
set_option maxRecDepth 100000 in
theorem lc_29 {l : Launch} {p : Program} {e : Env} {s : State} {m : MethodId} {below : List Frame} {meth : Method} {c : Code} {b L i cells slots : Nat} {xs : Nat → Int32} {D : va_G} {a : Nat → Nat} {C : Nat → ClassId} {Q : State → Prop} {h : HS} (CC : lwC l p s m c b L xs D a C) (I : Inv h) (hi : i + 6 ≤ L) (hL : L ≤ 3072) (hcs : cells + 1 ≤ 601024 ∧ slots + 6 ≤ 7293034) (kk : ∀ h2, Inv h2 → lwK p l e s m below meth c b i D a C (cells + 1) (slots + 6) Q 1500 h2) : lwK p l e s m below meth c b i D a C cells slots Q 1126 h := by
  obtain ⟨hx, hb, hml, hown, hts, hX, hbl, hK, hN, hT, hZ, ha, hA, hlT⟩ := CC
  intro H locs ls hP hS hl
  have hbA : ¬ lwA s b := Nat.not_le.mpr hbl
  have hf0 : cells + 0 ≤ room_1.cells ∧ slots + 0 ≤ room_1.slots := ⟨Nat.le_trans (by omega) hcs.1, Nat.le_trans (by omega) hcs.2⟩
  obtain ⟨⟨n, kn, kd, fg, hd, dm, dy, N⟩, -⟩ := id I
  obtain ⟨r, e1, e2⟩ := S_count N (xs (nI i + 1).toNatClampNeg)
  refine lv_aload_n hx hb dL_law_1126 rfl (lv_at hl 1 rfl) ?_
  refine lv_aload_n hx hb dL_law_1127 rfl (lv_at hl 0 rfl) ?_
  refine lv_iload hx hb dL_law_1128 (lv_at hl 4 rfl) ?_
  refine lv_iconst (v := 1) hx hb dL_law_1130 (by decide) ?_
  refine lv_iadd hx hb dL_law_1131 ?_
  refine va_sld hx hb hX hbl hbA hS (law_in (k := 1) hi hL (by decide)) dL_law_1132 ?_
  refine g_callV (As := [.int (xs (nI i + 1).toNatClampNeg)]) (rest := []) hx hb hml hown hts hK hN (m_X11_count l D a C ha h (xs (nI i + 1).toNatClampNeg) r e1) (cwV 1 hts (gLup gL_law_X11_count) rfl rfl rfl kdX11_count ⟨Nat.le_of_ble_eq_true rfl, Nat.le_of_ble_eq_true rfl⟩) X_O rfl rfl hP hS hA rfl hl.1 rfl (Nat.le_of_ble_eq_true rfl) dL_law_1133 hf0 (fun H locs hP hS => ?_)
  refine W.eq (g2 := F0 m 1136 ls [.int r]) rfl ?_
  refine lv_aload_n hx hb dL_law_1136 rfl (lv_at hl 2 rfl) ?_
  refine lv_aload_n hx hb dL_law_1137 rfl (lv_at hl 0 rfl) ?_
  refine lv_iload hx hb dL_law_1138 (lv_at hl 4 rfl) ?_
  refine lv_iconst (v := 1) hx hb dL_law_1140 (by decide) ?_
  refine lv_iadd hx hb dL_law_1141 ?_
  refine va_sld hx hb hX hbl hbA hS (law_in (k := 1) hi hL (by decide)) dL_law_1142 ?_
  refine g_callV (As := [.int (xs (nI i + 1).toNatClampNeg)]) (rest := [.int r]) hx hb hml hown hts hK hN (m_X12_count l D a C ha h (xs (nI i + 1).toNatClampNeg) r e2) (cwV 1 hts gL_law_U_count rfl rfl rfl kdX12_count ⟨Nat.le_of_ble_eq_true rfl, Nat.le_of_ble_eq_true rfl⟩) M_O rfl rfl hP hS hA rfl hl.1 rfl (Nat.le_of_ble_eq_true rfl) dL_law_1143 hf0 (fun H locs hP hS => ?_)
  refine W.eq (g2 := F0 m 1146 ls [.int r, .int r]) rfl ?_
  refine lv_icmp_eq (tgt := 1500) hx hb dL_law_1146 (by decide) (fun _ => ?_) (fun c9 => absurd rfl c9)
  refine W.widen (k := cells + 1) (n := slots + 6) (by omega) (by omega) ?_
  exact kk h I H locs ls hP hS hl
set_option maxHeartbeats 4000000 in
set_option maxRecDepth 100000 in
theorem lc_30 {l : Launch} {p : Program} {e : Env} {s : State} {m : MethodId} {below : List Frame} {meth : Method} {c : Code} {b L i cells slots : Nat} {xs : Nat → Int32} {D : va_G} {a : Nat → Nat} {C : Nat → ClassId} {Q : State → Prop} {h : HS} (CC : lwC l p s m c b L xs D a C) (I : Inv h) (hi : i + 6 ≤ L) (hL : L ≤ 3072) (hcs : cells + 1 ≤ 601024 ∧ slots + 6 ≤ 7293034) (kk : ∀ h2, Inv h2 → lwK p l e s m below meth c b i D a C (cells + 1) (slots + 6) Q 1500 h2) : lwK p l e s m below meth c b i D a C cells slots Q 1151 h := by
  obtain ⟨hx, hb, hml, hown, hts, hX, hbl, hK, hN, hT, hZ, ha, hA, hlT⟩ := CC
  intro H locs ls hP hS hl
  have hbA : ¬ lwA s b := Nat.not_le.mpr hbl
  have hf0 : cells + 0 ≤ room_1.cells ∧ slots + 0 ≤ room_1.slots := ⟨Nat.le_trans (by omega) hcs.1, Nat.le_trans (by omega) hcs.2⟩
  obtain ⟨r, h1, h2, e1, e2, I2⟩ := S_keep I (xs (nI i + 1).toNatClampNeg) (xs (nI i + 2).toNatClampNeg) (xs (nI i + 3).toNatClampNeg) (xs (nI i + 4).toNatClampNeg)
  refine lv_aload_n hx hb dL_law_1151 rfl (lv_at hl 1 rfl) ?_
  refine lv_aload_n hx hb dL_law_1152 rfl (lv_at hl 0 rfl) ?_
  refine lv_iload hx hb dL_law_1153 (lv_at hl 4 rfl) ?_
  refine lv_iconst (v := 1) hx hb dL_law_1155 (by decide) ?_
  refine lv_iadd hx hb dL_law_1156 ?_
  refine va_sld hx hb hX hbl hbA hS (law_in (k := 1) hi hL (by decide)) dL_law_1157 ?_
  refine lv_aload_n hx hb dL_law_1158 rfl (lv_at hl 0 rfl) ?_
  refine lv_iload hx hb dL_law_1159 (lv_at hl 4 rfl) ?_
  refine lv_iconst (v := 2) hx hb dL_law_1161 (by decide) ?_
  refine lv_iadd hx hb dL_law_1162 ?_
  refine va_sld hx hb hX hbl hbA hS (law_in (k := 2) hi hL (by decide)) dL_law_1163 ?_
  refine lv_aload_n hx hb dL_law_1164 rfl (lv_at hl 0 rfl) ?_
  refine lv_iload hx hb dL_law_1165 (lv_at hl 4 rfl) ?_
  refine lv_iconst (v := 3) hx hb dL_law_1167 (by decide) ?_
  refine lv_iadd hx hb dL_law_1168 ?_
  refine va_sld hx hb hX hbl hbA hS (law_in (k := 3) hi hL (by decide)) dL_law_1169 ?_
  refine lv_aload_n hx hb dL_law_1170 rfl (lv_at hl 0 rfl) ?_
  refine lv_iload hx hb dL_law_1171 (lv_at hl 4 rfl) ?_
  refine lv_iconst (v := 4) hx hb dL_law_1173 (by decide) ?_
  refine lv_iadd hx hb dL_law_1174 ?_
  refine va_sld hx hb hX hbl hbA hS (law_in (k := 4) hi hL (by decide)) dL_law_1175 ?_
  refine g_callV (As := [.int (xs (nI i + 1).toNatClampNeg), .int (xs (nI i + 2).toNatClampNeg), .int (xs (nI i + 3).toNatClampNeg), .int (xs (nI i + 4).toNatClampNeg)]) (rest := []) hx hb hml hown hts hK hN (m_X11_keep l D a C ha h (xs (nI i + 1).toNatClampNeg) (xs (nI i + 2).toNatClampNeg) (xs (nI i + 3).toNatClampNeg) (xs (nI i + 4).toNatClampNeg) r h1 e1) (cwV 4 hts (gLup gL_law_X11_keep) rfl rfl rfl kdX11_keep ⟨Nat.le_of_ble_eq_true rfl, Nat.le_of_ble_eq_true rfl⟩) X_O rfl rfl hP hS hA rfl hl.1 rfl (Nat.le_of_ble_eq_true rfl) dL_law_1176 hf0 (fun H locs hP hS => ?_)
  refine W.eq (g2 := F0 m 1179 ls [.int r]) rfl ?_
  refine lv_aload_n hx hb dL_law_1179 rfl (lv_at hl 2 rfl) ?_
  refine lv_aload_n hx hb dL_law_1180 rfl (lv_at hl 0 rfl) ?_
  refine lv_iload hx hb dL_law_1181 (lv_at hl 4 rfl) ?_
  refine lv_iconst (v := 1) hx hb dL_law_1183 (by decide) ?_
  refine lv_iadd hx hb dL_law_1184 ?_
  refine va_sld hx hb hX hbl hbA hS (law_in (k := 1) hi hL (by decide)) dL_law_1185 ?_
  refine lv_aload_n hx hb dL_law_1186 rfl (lv_at hl 0 rfl) ?_
  refine lv_iload hx hb dL_law_1187 (lv_at hl 4 rfl) ?_
  refine lv_iconst (v := 2) hx hb dL_law_1189 (by decide) ?_
  refine lv_iadd hx hb dL_law_1190 ?_
  refine va_sld hx hb hX hbl hbA hS (law_in (k := 2) hi hL (by decide)) dL_law_1191 ?_
  refine lv_aload_n hx hb dL_law_1192 rfl (lv_at hl 0 rfl) ?_
  refine lv_iload hx hb dL_law_1193 (lv_at hl 4 rfl) ?_
  refine lv_iconst (v := 3) hx hb dL_law_1195 (by decide) ?_
  refine lv_iadd hx hb dL_law_1196 ?_
  refine va_sld hx hb hX hbl hbA hS (law_in (k := 3) hi hL (by decide)) dL_law_1197 ?_
  refine lv_aload_n hx hb dL_law_1198 rfl (lv_at hl 0 rfl) ?_
  refine lv_iload hx hb dL_law_1199 (lv_at hl 4 rfl) ?_
  refine lv_iconst (v := 4) hx hb dL_law_1201 (by decide) ?_
  refine lv_iadd hx hb dL_law_1202 ?_
  refine va_sld hx hb hX hbl hbA hS (law_in (k := 4) hi hL (by decide)) dL_law_1203 ?_
  refine g_callV (As := [.int (xs (nI i + 1).toNatClampNeg), .int (xs (nI i + 2).toNatClampNeg), .int (xs (nI i + 3).toNatClampNeg), .int (xs (nI i + 4).toNatClampNeg)]) (rest := [.int r]) hx hb hml hown hts hK hN (m_X12_keep l D a C ha h1 (xs (nI i + 1).toNatClampNeg) (xs (nI i + 2).toNatClampNeg) (xs (nI i + 3).toNatClampNeg) (xs (nI i + 4).toNatClampNeg) r h2 e2) (cwV 4 hts gL_law_U_keep rfl rfl rfl kdX12_keep ⟨Nat.le_of_ble_eq_true rfl, Nat.le_of_ble_eq_true rfl⟩) M_O rfl rfl hP hS hA rfl hl.1 rfl (Nat.le_of_ble_eq_true rfl) dL_law_1204 hf0 (fun H locs hP hS => ?_)
  refine W.eq (g2 := F0 m 1207 ls [.int r, .int r]) rfl ?_
  refine lv_icmp_eq (tgt := 1500) hx hb dL_law_1207 (by decide) (fun _ => ?_) (fun c9 => absurd rfl c9)
  refine W.widen (k := cells + 1) (n := slots + 6) (by omega) (by omega) ?_
  exact kk h2 I2 H locs ls hP hS hl
set_option maxHeartbeats 4000000 in
set_option maxRecDepth 100000 in
theorem lc_31 {l : Launch} {p : Program} {e : Env} {s : State} {m : MethodId} {below : List Frame} {meth : Method} {c : Code} {b L i cells slots : Nat} {xs : Nat → Int32} {D : va_G} {a : Nat → Nat} {C : Nat → ClassId} {Q : State → Prop} {h : HS} (CC : lwC l p s m c b L xs D a C) (I : Inv h) (hi : i + 6 ≤ L) (hL : L ≤ 3072) (hcs : cells + 1 ≤ 601024 ∧ slots + 6 ≤ 7293034) (kk : ∀ h2, Inv h2 → lwK p l e s m below meth c b i D a C (cells + 1) (slots + 6) Q 1500 h2) : lwK p l e s m below meth c b i D a C cells slots Q 1212 h := by
  obtain ⟨hx, hb, hml, hown, hts, hX, hbl, hK, hN, hT, hZ, ha, hA, hlT⟩ := CC
  intro H locs ls hP hS hl
  have hbA : ¬ lwA s b := Nat.not_le.mpr hbl
  have hf0 : cells + 0 ≤ room_1.cells ∧ slots + 0 ≤ room_1.slots := ⟨Nat.le_trans (by omega) hcs.1, Nat.le_trans (by omega) hcs.2⟩
  obtain ⟨r, h1, h2, e1, e2, I2⟩ := S_row I (xs (nI i + 1).toNatClampNeg) (xs (nI i + 2).toNatClampNeg) (xs (nI i + 3).toNatClampNeg)
  refine lv_aload_n hx hb dL_law_1212 rfl (lv_at hl 1 rfl) ?_
  refine lv_aload_n hx hb dL_law_1213 rfl (lv_at hl 0 rfl) ?_
  refine lv_iload hx hb dL_law_1214 (lv_at hl 4 rfl) ?_
  refine lv_iconst (v := 1) hx hb dL_law_1216 (by decide) ?_
  refine lv_iadd hx hb dL_law_1217 ?_
  refine va_sld hx hb hX hbl hbA hS (law_in (k := 1) hi hL (by decide)) dL_law_1218 ?_
  refine lv_aload_n hx hb dL_law_1219 rfl (lv_at hl 0 rfl) ?_
  refine lv_iload hx hb dL_law_1220 (lv_at hl 4 rfl) ?_
  refine lv_iconst (v := 2) hx hb dL_law_1222 (by decide) ?_
  refine lv_iadd hx hb dL_law_1223 ?_
  refine va_sld hx hb hX hbl hbA hS (law_in (k := 2) hi hL (by decide)) dL_law_1224 ?_
  refine lv_aload_n hx hb dL_law_1225 rfl (lv_at hl 0 rfl) ?_
  refine lv_iload hx hb dL_law_1226 (lv_at hl 4 rfl) ?_
  refine lv_iconst (v := 3) hx hb dL_law_1228 (by decide) ?_
  refine lv_iadd hx hb dL_law_1229 ?_
  refine va_sld hx hb hX hbl hbA hS (law_in (k := 3) hi hL (by decide)) dL_law_1230 ?_
  refine g_callV (As := [.int (xs (nI i + 1).toNatClampNeg), .int (xs (nI i + 2).toNatClampNeg), .int (xs (nI i + 3).toNatClampNeg)]) (rest := []) hx hb hml hown hts hK hN (m_X11_row l D a C ha h (xs (nI i + 1).toNatClampNeg) (xs (nI i + 2).toNatClampNeg) (xs (nI i + 3).toNatClampNeg) r h1 e1) (cwV 3 hts (gLup gL_law_X11_row) rfl rfl rfl kdX11_row ⟨Nat.le_of_ble_eq_true rfl, Nat.le_of_ble_eq_true rfl⟩) X_O rfl rfl hP hS hA rfl hl.1 rfl (Nat.le_of_ble_eq_true rfl) dL_law_1231 hf0 (fun H locs hP hS => ?_)
  refine W.eq (g2 := F0 m 1234 ls [.int r]) rfl ?_
  refine lv_aload_n hx hb dL_law_1234 rfl (lv_at hl 2 rfl) ?_
  refine lv_aload_n hx hb dL_law_1235 rfl (lv_at hl 0 rfl) ?_
  refine lv_iload hx hb dL_law_1236 (lv_at hl 4 rfl) ?_
  refine lv_iconst (v := 1) hx hb dL_law_1238 (by decide) ?_
  refine lv_iadd hx hb dL_law_1239 ?_
  refine va_sld hx hb hX hbl hbA hS (law_in (k := 1) hi hL (by decide)) dL_law_1240 ?_
  refine lv_aload_n hx hb dL_law_1241 rfl (lv_at hl 0 rfl) ?_
  refine lv_iload hx hb dL_law_1242 (lv_at hl 4 rfl) ?_
  refine lv_iconst (v := 2) hx hb dL_law_1244 (by decide) ?_
  refine lv_iadd hx hb dL_law_1245 ?_
  refine va_sld hx hb hX hbl hbA hS (law_in (k := 2) hi hL (by decide)) dL_law_1246 ?_
  refine lv_aload_n hx hb dL_law_1247 rfl (lv_at hl 0 rfl) ?_
  refine lv_iload hx hb dL_law_1248 (lv_at hl 4 rfl) ?_
  refine lv_iconst (v := 3) hx hb dL_law_1250 (by decide) ?_
  refine lv_iadd hx hb dL_law_1251 ?_
  refine va_sld hx hb hX hbl hbA hS (law_in (k := 3) hi hL (by decide)) dL_law_1252 ?_
  refine g_callV (As := [.int (xs (nI i + 1).toNatClampNeg), .int (xs (nI i + 2).toNatClampNeg), .int (xs (nI i + 3).toNatClampNeg)]) (rest := [.int r]) hx hb hml hown hts hK hN (m_X12_row l D a C ha h1 (xs (nI i + 1).toNatClampNeg) (xs (nI i + 2).toNatClampNeg) (xs (nI i + 3).toNatClampNeg) r h2 e2) (cwV 3 hts gL_law_U_row rfl rfl rfl kdX12_row ⟨Nat.le_of_ble_eq_true rfl, Nat.le_of_ble_eq_true rfl⟩) M_O rfl rfl hP hS hA rfl hl.1 rfl (Nat.le_of_ble_eq_true rfl) dL_law_1253 hf0 (fun H locs hP hS => ?_)
  refine W.eq (g2 := F0 m 1256 ls [.int r, .int r]) rfl ?_
  refine lv_icmp_eq (tgt := 1500) hx hb dL_law_1256 (by decide) (fun _ => ?_) (fun c9 => absurd rfl c9)
  refine W.widen (k := cells + 1) (n := slots + 6) (by omega) (by omega) ?_
  exact kk h2 I2 H locs ls hP hS hl
set_option maxHeartbeats 4000000 in
set_option maxRecDepth 100000 in
theorem lc_32 {l : Launch} {p : Program} {e : Env} {s : State} {m : MethodId} {below : List Frame} {meth : Method} {c : Code} {b L i cells slots : Nat} {xs : Nat → Int32} {D : va_G} {a : Nat → Nat} {C : Nat → ClassId} {Q : State → Prop} {h : HS} (CC : lwC l p s m c b L xs D a C) (I : Inv h) (hi : i + 6 ≤ L) (hL : L ≤ 3072) (hcs : cells + 1 ≤ 601024 ∧ slots + 6 ≤ 7293034) (kk : ∀ h2, Inv h2 → lwK p l e s m below meth c b i D a C (cells + 1) (slots + 6) Q 1500 h2) : lwK p l e s m below meth c b i D a C cells slots Q 1261 h := by
  obtain ⟨hx, hb, hml, hown, hts, hX, hbl, hK, hN, hT, hZ, ha, hA, hlT⟩ := CC
  intro H locs ls hP hS hl
  have hbA : ¬ lwA s b := Nat.not_le.mpr hbl
  have hf0 : cells + 0 ≤ room_1.cells ∧ slots + 0 ≤ room_1.slots := ⟨Nat.le_trans (by omega) hcs.1, Nat.le_trans (by omega) hcs.2⟩
  obtain ⟨r, h1, h2, e1, e2, I2⟩ := S_put I (xs (nI i + 1).toNatClampNeg) (xs (nI i + 2).toNatClampNeg) (xs (nI i + 3).toNatClampNeg)
  refine lv_aload_n hx hb dL_law_1261 rfl (lv_at hl 1 rfl) ?_
  refine lv_aload_n hx hb dL_law_1262 rfl (lv_at hl 0 rfl) ?_
  refine lv_iload hx hb dL_law_1263 (lv_at hl 4 rfl) ?_
  refine lv_iconst (v := 1) hx hb dL_law_1265 (by decide) ?_
  refine lv_iadd hx hb dL_law_1266 ?_
  refine va_sld hx hb hX hbl hbA hS (law_in (k := 1) hi hL (by decide)) dL_law_1267 ?_
  refine lv_aload_n hx hb dL_law_1268 rfl (lv_at hl 0 rfl) ?_
  refine lv_iload hx hb dL_law_1269 (lv_at hl 4 rfl) ?_
  refine lv_iconst (v := 2) hx hb dL_law_1271 (by decide) ?_
  refine lv_iadd hx hb dL_law_1272 ?_
  refine va_sld hx hb hX hbl hbA hS (law_in (k := 2) hi hL (by decide)) dL_law_1273 ?_
  refine lv_aload_n hx hb dL_law_1274 rfl (lv_at hl 0 rfl) ?_
  refine lv_iload hx hb dL_law_1275 (lv_at hl 4 rfl) ?_
  refine lv_iconst (v := 3) hx hb dL_law_1277 (by decide) ?_
  refine lv_iadd hx hb dL_law_1278 ?_
  refine va_sld hx hb hX hbl hbA hS (law_in (k := 3) hi hL (by decide)) dL_law_1279 ?_
  refine g_callV (As := [.int (xs (nI i + 1).toNatClampNeg), .int (xs (nI i + 2).toNatClampNeg), .int (xs (nI i + 3).toNatClampNeg)]) (rest := []) hx hb hml hown hts hK hN (m_X11_put l D a C ha h (xs (nI i + 1).toNatClampNeg) (xs (nI i + 2).toNatClampNeg) (xs (nI i + 3).toNatClampNeg) r h1 e1) (cwV 3 hts (gLup gL_law_X11_put) rfl rfl rfl kdX11_put ⟨Nat.le_of_ble_eq_true rfl, Nat.le_of_ble_eq_true rfl⟩) X_O rfl rfl hP hS hA rfl hl.1 rfl (Nat.le_of_ble_eq_true rfl) dL_law_1280 hf0 (fun H locs hP hS => ?_)
  refine W.eq (g2 := F0 m 1283 ls [.int r]) rfl ?_
  refine lv_aload_n hx hb dL_law_1283 rfl (lv_at hl 2 rfl) ?_
  refine lv_aload_n hx hb dL_law_1284 rfl (lv_at hl 0 rfl) ?_
  refine lv_iload hx hb dL_law_1285 (lv_at hl 4 rfl) ?_
  refine lv_iconst (v := 1) hx hb dL_law_1287 (by decide) ?_
  refine lv_iadd hx hb dL_law_1288 ?_
  refine va_sld hx hb hX hbl hbA hS (law_in (k := 1) hi hL (by decide)) dL_law_1289 ?_
  refine lv_aload_n hx hb dL_law_1290 rfl (lv_at hl 0 rfl) ?_
  refine lv_iload hx hb dL_law_1291 (lv_at hl 4 rfl) ?_
  refine lv_iconst (v := 2) hx hb dL_law_1293 (by decide) ?_
  refine lv_iadd hx hb dL_law_1294 ?_
  refine va_sld hx hb hX hbl hbA hS (law_in (k := 2) hi hL (by decide)) dL_law_1295 ?_
  refine lv_aload_n hx hb dL_law_1296 rfl (lv_at hl 0 rfl) ?_
  refine lv_iload hx hb dL_law_1297 (lv_at hl 4 rfl) ?_
  refine lv_iconst (v := 3) hx hb dL_law_1299 (by decide) ?_
  refine lv_iadd hx hb dL_law_1300 ?_
  refine va_sld hx hb hX hbl hbA hS (law_in (k := 3) hi hL (by decide)) dL_law_1301 ?_
  refine g_callV (As := [.int (xs (nI i + 1).toNatClampNeg), .int (xs (nI i + 2).toNatClampNeg), .int (xs (nI i + 3).toNatClampNeg)]) (rest := [.int r]) hx hb hml hown hts hK hN (m_X12_put l D a C ha h1 (xs (nI i + 1).toNatClampNeg) (xs (nI i + 2).toNatClampNeg) (xs (nI i + 3).toNatClampNeg) r h2 e2) (cwV 3 hts gL_law_U_put rfl rfl rfl kdX12_put ⟨Nat.le_of_ble_eq_true rfl, Nat.le_of_ble_eq_true rfl⟩) M_O rfl rfl hP hS hA rfl hl.1 rfl (Nat.le_of_ble_eq_true rfl) dL_law_1302 hf0 (fun H locs hP hS => ?_)
  refine W.eq (g2 := F0 m 1305 ls [.int r, .int r]) rfl ?_
  refine lv_icmp_eq (tgt := 1500) hx hb dL_law_1305 (by decide) (fun _ => ?_) (fun c9 => absurd rfl c9)
  refine W.widen (k := cells + 1) (n := slots + 6) (by omega) (by omega) ?_
  exact kk h2 I2 H locs ls hP hS hl
set_option maxHeartbeats 4000000 in
set_option maxRecDepth 100000 in
theorem lc_34 {l : Launch} {p : Program} {e : Env} {s : State} {m : MethodId} {below : List Frame} {meth : Method} {c : Code} {b L i cells slots : Nat} {xs : Nat → Int32} {D : va_G} {a : Nat → Nat} {C : Nat → ClassId} {Q : State → Prop} {h : HS} (CC : lwC l p s m c b L xs D a C) (I : Inv h) (hi : i + 6 ≤ L) (hL : L ≤ 3072) (hcs : cells + 1 ≤ 601024 ∧ slots + 6 ≤ 7293034) (kk : ∀ h2, Inv h2 → lwK p l e s m below meth c b i D a C (cells + 1) (slots + 6) Q 1500 h2) : lwK p l e s m below meth c b i D a C cells slots Q 1377 h := by
  obtain ⟨hx, hb, hml, hown, hts, hX, hbl, hK, hN, hT, hZ, ha, hA, hlT⟩ := CC
  intro H locs ls hP hS hl
  have hbA : ¬ lwA s b := Nat.not_le.mpr hbl
  have hf0 : cells + 0 ≤ room_1.cells ∧ slots + 0 ≤ room_1.slots := ⟨Nat.le_trans (by omega) hcs.1, Nat.le_trans (by omega) hcs.2⟩
  obtain ⟨r, h1, h2, e1, e2, I2⟩ := S_copy I (xs (nI i + 1).toNatClampNeg) (xs (nI i + 2).toNatClampNeg) (xs (nI i + 3).toNatClampNeg) (xs (nI i + 4).toNatClampNeg) (xs (nI i + 5).toNatClampNeg)
  refine lv_aload_n hx hb dL_law_1377 rfl (lv_at hl 1 rfl) ?_
  refine lv_aload_n hx hb dL_law_1378 rfl (lv_at hl 0 rfl) ?_
  refine lv_iload hx hb dL_law_1379 (lv_at hl 4 rfl) ?_
  refine lv_iconst (v := 1) hx hb dL_law_1381 (by decide) ?_
  refine lv_iadd hx hb dL_law_1382 ?_
  refine va_sld hx hb hX hbl hbA hS (law_in (k := 1) hi hL (by decide)) dL_law_1383 ?_
  refine lv_aload_n hx hb dL_law_1384 rfl (lv_at hl 0 rfl) ?_
  refine lv_iload hx hb dL_law_1385 (lv_at hl 4 rfl) ?_
  refine lv_iconst (v := 2) hx hb dL_law_1387 (by decide) ?_
  refine lv_iadd hx hb dL_law_1388 ?_
  refine va_sld hx hb hX hbl hbA hS (law_in (k := 2) hi hL (by decide)) dL_law_1389 ?_
  refine lv_aload_n hx hb dL_law_1390 rfl (lv_at hl 0 rfl) ?_
  refine lv_iload hx hb dL_law_1391 (lv_at hl 4 rfl) ?_
  refine lv_iconst (v := 3) hx hb dL_law_1393 (by decide) ?_
  refine lv_iadd hx hb dL_law_1394 ?_
  refine va_sld hx hb hX hbl hbA hS (law_in (k := 3) hi hL (by decide)) dL_law_1395 ?_
  refine lv_aload_n hx hb dL_law_1396 rfl (lv_at hl 0 rfl) ?_
  refine lv_iload hx hb dL_law_1397 (lv_at hl 4 rfl) ?_
  refine lv_iconst (v := 4) hx hb dL_law_1399 (by decide) ?_
  refine lv_iadd hx hb dL_law_1400 ?_
  refine va_sld hx hb hX hbl hbA hS (law_in (k := 4) hi hL (by decide)) dL_law_1401 ?_
  refine lv_aload_n hx hb dL_law_1402 rfl (lv_at hl 0 rfl) ?_
  refine lv_iload hx hb dL_law_1403 (lv_at hl 4 rfl) ?_
  refine lv_iconst (v := 5) hx hb dL_law_1405 (by decide) ?_
  refine lv_iadd hx hb dL_law_1406 ?_
  refine va_sld hx hb hX hbl hbA hS (law_in (k := 5) hi hL (by decide)) dL_law_1407 ?_
  refine g_callV (As := [.int (xs (nI i + 1).toNatClampNeg), .int (xs (nI i + 2).toNatClampNeg), .int (xs (nI i + 3).toNatClampNeg), .int (xs (nI i + 4).toNatClampNeg), .int (xs (nI i + 5).toNatClampNeg)]) (rest := []) hx hb hml hown hts hK hN (m_X11_copy l D a C ha h (xs (nI i + 1).toNatClampNeg) (xs (nI i + 2).toNatClampNeg) (xs (nI i + 3).toNatClampNeg) (xs (nI i + 4).toNatClampNeg) (xs (nI i + 5).toNatClampNeg) r h1 e1) (cwV 5 hts (gLup gL_law_X11_copy) rfl rfl rfl kdX11_copy ⟨Nat.le_of_ble_eq_true rfl, Nat.le_of_ble_eq_true rfl⟩) X_O rfl rfl hP hS hA rfl hl.1 rfl (Nat.le_of_ble_eq_true rfl) dL_law_1408 hf0 (fun H locs hP hS => ?_)
  refine W.eq (g2 := F0 m 1411 ls [.int r]) rfl ?_
  refine lv_aload_n hx hb dL_law_1411 rfl (lv_at hl 2 rfl) ?_
  refine lv_aload_n hx hb dL_law_1412 rfl (lv_at hl 0 rfl) ?_
  refine lv_iload hx hb dL_law_1413 (lv_at hl 4 rfl) ?_
  refine lv_iconst (v := 1) hx hb dL_law_1415 (by decide) ?_
  refine lv_iadd hx hb dL_law_1416 ?_
  refine va_sld hx hb hX hbl hbA hS (law_in (k := 1) hi hL (by decide)) dL_law_1417 ?_
  refine lv_aload_n hx hb dL_law_1418 rfl (lv_at hl 0 rfl) ?_
  refine lv_iload hx hb dL_law_1419 (lv_at hl 4 rfl) ?_
  refine lv_iconst (v := 2) hx hb dL_law_1421 (by decide) ?_
  refine lv_iadd hx hb dL_law_1422 ?_
  refine va_sld hx hb hX hbl hbA hS (law_in (k := 2) hi hL (by decide)) dL_law_1423 ?_
  refine lv_aload_n hx hb dL_law_1424 rfl (lv_at hl 0 rfl) ?_
  refine lv_iload hx hb dL_law_1425 (lv_at hl 4 rfl) ?_
  refine lv_iconst (v := 3) hx hb dL_law_1427 (by decide) ?_
  refine lv_iadd hx hb dL_law_1428 ?_
  refine va_sld hx hb hX hbl hbA hS (law_in (k := 3) hi hL (by decide)) dL_law_1429 ?_
  refine lv_aload_n hx hb dL_law_1430 rfl (lv_at hl 0 rfl) ?_
  refine lv_iload hx hb dL_law_1431 (lv_at hl 4 rfl) ?_
  refine lv_iconst (v := 4) hx hb dL_law_1433 (by decide) ?_
  refine lv_iadd hx hb dL_law_1434 ?_
  refine va_sld hx hb hX hbl hbA hS (law_in (k := 4) hi hL (by decide)) dL_law_1435 ?_
  refine lv_aload_n hx hb dL_law_1436 rfl (lv_at hl 0 rfl) ?_
  refine lv_iload hx hb dL_law_1437 (lv_at hl 4 rfl) ?_
  refine lv_iconst (v := 5) hx hb dL_law_1439 (by decide) ?_
  refine lv_iadd hx hb dL_law_1440 ?_
  refine va_sld hx hb hX hbl hbA hS (law_in (k := 5) hi hL (by decide)) dL_law_1441 ?_
  refine g_callV (As := [.int (xs (nI i + 1).toNatClampNeg), .int (xs (nI i + 2).toNatClampNeg), .int (xs (nI i + 3).toNatClampNeg), .int (xs (nI i + 4).toNatClampNeg), .int (xs (nI i + 5).toNatClampNeg)]) (rest := [.int r]) hx hb hml hown hts hK hN (m_X12_copy l D a C ha h1 (xs (nI i + 1).toNatClampNeg) (xs (nI i + 2).toNatClampNeg) (xs (nI i + 3).toNatClampNeg) (xs (nI i + 4).toNatClampNeg) (xs (nI i + 5).toNatClampNeg) r h2 e2) (cwV 5 hts gL_law_U_copy rfl rfl rfl kdX12_copy ⟨Nat.le_of_ble_eq_true rfl, Nat.le_of_ble_eq_true rfl⟩) M_O rfl rfl hP hS hA rfl hl.1 rfl (Nat.le_of_ble_eq_true rfl) dL_law_1442 hf0 (fun H locs hP hS => ?_)
  refine W.eq (g2 := F0 m 1445 ls [.int r, .int r]) rfl ?_
  refine lv_icmp_eq (tgt := 1500) hx hb dL_law_1445 (by decide) (fun _ => ?_) (fun c9 => absurd rfl c9)
  refine W.widen (k := cells + 1) (n := slots + 6) (by omega) (by omega) ?_
  exact kk h2 I2 H locs ls hP hS hl
set_option maxHeartbeats 4000000 in
set_option maxRecDepth 100000 in
theorem lc_35 {l : Launch} {p : Program} {e : Env} {s : State} {m : MethodId} {below : List Frame} {meth : Method} {c : Code} {b L i cells slots : Nat} {xs : Nat → Int32} {D : va_G} {a : Nat → Nat} {C : Nat → ClassId} {Q : State → Prop} {h : HS} (CC : lwC l p s m c b L xs D a C) (I : Inv h) (hi : i + 6 ≤ L) (hL : L ≤ 3072) (hcs : cells + 1 ≤ 601024 ∧ slots + 6 ≤ 7293034) (kk : ∀ h2, Inv h2 → lwK p l e s m below meth c b i D a C (cells + 1) (slots + 6) Q 1500 h2) : lwK p l e s m below meth c b i D a C cells slots Q 1450 h := by
  obtain ⟨hx, hb, hml, hown, hts, hX, hbl, hK, hN, hT, hZ, ha, hA, hlT⟩ := CC
  intro H locs ls hP hS hl
  have hbA : ¬ lwA s b := Nat.not_le.mpr hbl
  have hf0 : cells + 0 ≤ room_1.cells ∧ slots + 0 ≤ room_1.slots := ⟨Nat.le_trans (by omega) hcs.1, Nat.le_trans (by omega) hcs.2⟩
  obtain ⟨r, e1, e2⟩ := S_cost I.2.2.1 (xs (nI i + 1).toNatClampNeg)
  refine lv_aload_n hx hb dL_law_1450 rfl (lv_at hl 1 rfl) ?_
  refine lv_aload_n hx hb dL_law_1451 rfl (lv_at hl 0 rfl) ?_
  refine lv_iload hx hb dL_law_1452 (lv_at hl 4 rfl) ?_
  refine lv_iconst (v := 1) hx hb dL_law_1454 (by decide) ?_
  refine lv_iadd hx hb dL_law_1455 ?_
  refine va_sld hx hb hX hbl hbA hS (law_in (k := 1) hi hL (by decide)) dL_law_1456 ?_
  refine g_callV (As := [.int (xs (nI i + 1).toNatClampNeg)]) (rest := []) hx hb hml hown hts hK hN (m_X11_cost l D a C ha h (xs (nI i + 1).toNatClampNeg) r e1) (cwV 1 hts (gLup gL_law_X11_cost) rfl rfl rfl kdX11_cost ⟨Nat.le_of_ble_eq_true rfl, Nat.le_of_ble_eq_true rfl⟩) X_O rfl rfl hP hS hA rfl hl.1 rfl (Nat.le_of_ble_eq_true rfl) dL_law_1457 hf0 (fun H locs hP hS => ?_)
  refine W.eq (g2 := F0 m 1460 ls [.int r]) rfl ?_
  refine lv_aload_n hx hb dL_law_1460 rfl (lv_at hl 2 rfl) ?_
  refine lv_aload_n hx hb dL_law_1461 rfl (lv_at hl 0 rfl) ?_
  refine lv_iload hx hb dL_law_1462 (lv_at hl 4 rfl) ?_
  refine lv_iconst (v := 1) hx hb dL_law_1464 (by decide) ?_
  refine lv_iadd hx hb dL_law_1465 ?_
  refine va_sld hx hb hX hbl hbA hS (law_in (k := 1) hi hL (by decide)) dL_law_1466 ?_
  refine g_callV (As := [.int (xs (nI i + 1).toNatClampNeg)]) (rest := [.int r]) hx hb hml hown hts hK hN (m_X12_cost l D a C ha h (xs (nI i + 1).toNatClampNeg) r e2) (cwV 1 hts gL_law_U_cost rfl rfl rfl kdX12_cost ⟨Nat.le_of_ble_eq_true rfl, Nat.le_of_ble_eq_true rfl⟩) M_O rfl rfl hP hS hA rfl hl.1 rfl (Nat.le_of_ble_eq_true rfl) dL_law_1467 hf0 (fun H locs hP hS => ?_)
  refine W.eq (g2 := F0 m 1470 ls [.int r, .int r]) rfl ?_
  refine lv_icmp_eq (tgt := 1500) hx hb dL_law_1470 (by decide) (fun _ => ?_) (fun c9 => absurd rfl c9)
  refine W.widen (k := cells + 1) (n := slots + 6) (by omega) (by omega) ?_
  exact kk h I H locs ls hP hS hl
set_option maxHeartbeats 4000000 in
set_option maxRecDepth 100000 in
theorem lc_36 {l : Launch} {p : Program} {e : Env} {s : State} {m : MethodId} {below : List Frame} {meth : Method} {c : Code} {b L i cells slots : Nat} {xs : Nat → Int32} {D : va_G} {a : Nat → Nat} {C : Nat → ClassId} {Q : State → Prop} {h : HS} (CC : lwC l p s m c b L xs D a C) (I : Inv h) (hi : i + 6 ≤ L) (hL : L ≤ 3072) (hcs : cells + 1 ≤ 601024 ∧ slots + 6 ≤ 7293034) (kk : ∀ h2, Inv h2 → lwK p l e s m below meth c b i D a C (cells + 1) (slots + 6) Q 1500 h2) : lwK p l e s m below meth c b i D a C cells slots Q 1475 h := by
  obtain ⟨hx, hb, hml, hown, hts, hX, hbl, hK, hN, hT, hZ, ha, hA, hlT⟩ := CC
  intro H locs ls hP hS hl
  have hbA : ¬ lwA s b := Nat.not_le.mpr hbl
  have hf0 : cells + 0 ≤ room_1.cells ∧ slots + 0 ≤ room_1.slots := ⟨Nat.le_trans (by omega) hcs.1, Nat.le_trans (by omega) hcs.2⟩
  obtain ⟨r, e1, e2⟩ := S_toss I.2.2.1 (xs (nI i + 1).toNatClampNeg)
  refine lv_aload_n hx hb dL_law_1475 rfl (lv_at hl 1 rfl) ?_
  refine lv_aload_n hx hb dL_law_1476 rfl (lv_at hl 0 rfl) ?_
  refine lv_iload hx hb dL_law_1477 (lv_at hl 4 rfl) ?_
  refine lv_iconst (v := 1) hx hb dL_law_1479 (by decide) ?_
  refine lv_iadd hx hb dL_law_1480 ?_
  refine va_sld hx hb hX hbl hbA hS (law_in (k := 1) hi hL (by decide)) dL_law_1481 ?_
  have hZ9 : tZ (gA a) s H := (hZ.kept hS.2.1).narrow hA
  refine g_callX (h := h) (fun _ => False) True (vx_runVX (As := [.int (xs (nI i + 1).toNatClampNeg)]) (rest := []) ⟨hx, hb, hml, hown, hts⟩ (m_X11_toss l hlT D a C ha h (xs (nI i + 1).toNatClampNeg) r e1) (vx_cwVW 1 hts (gLup gL_law_X11_toss) rfl rfl rfl kdX11_toss ⟨Nat.le_of_ble_eq_true rfl, Nat.le_of_ble_eq_true rfl⟩) ⟨t_blind, va_recv hK hP (show vwCl[11]? = some _ from rfl) (gw_O X_O), t_pre hP hK hN hT hZ9⟩ rfl rfl hl.1 rfl (lv_room (Nat.le_of_ble_eq_true rfl)) dL_law_1482 hcs) (fun st o t q => ⟨trivial, q⟩) (fun E st t q => (show False from q).elim) hS hA (fun E hE => (show False from hE).elim) (fun _ H locs hP hS => ?_)
  refine W.eq (g2 := F0 m 1485 ls [.int r]) rfl ?_
  refine lv_aload_n hx hb dL_law_1485 rfl (lv_at hl 2 rfl) ?_
  refine lv_aload_n hx hb dL_law_1486 rfl (lv_at hl 0 rfl) ?_
  refine lv_iload hx hb dL_law_1487 (lv_at hl 4 rfl) ?_
  refine lv_iconst (v := 1) hx hb dL_law_1489 (by decide) ?_
  refine lv_iadd hx hb dL_law_1490 ?_
  refine va_sld hx hb hX hbl hbA hS (law_in (k := 1) hi hL (by decide)) dL_law_1491 ?_
  refine g_callV (As := [.int (xs (nI i + 1).toNatClampNeg)]) (rest := [.int r]) hx hb hml hown hts hK hN (m_X12_toss l D a C ha h (xs (nI i + 1).toNatClampNeg) r e2) (cwV 1 hts gL_law_U_toss rfl rfl rfl kdX12_toss ⟨Nat.le_of_ble_eq_true rfl, Nat.le_of_ble_eq_true rfl⟩) M_O rfl rfl hP hS hA rfl hl.1 rfl (Nat.le_of_ble_eq_true rfl) dL_law_1492 ⟨hcs.1, hcs.2⟩ (fun H locs hP hS => ?_)
  refine W.eq (g2 := F0 m 1495 ls [.int r, .int r]) rfl ?_
  refine lv_icmp_eq (tgt := 1500) hx hb dL_law_1495 (by decide) (fun _ => ?_) (fun c9 => absurd rfl c9)
  exact kk h I H locs ls hP hS hl
set_option maxHeartbeats 4000000 in
set_option maxRecDepth 100000 in
theorem lc_33 {l : Launch} {p : Program} {e : Env} {s : State} {m : MethodId} {below : List Frame} {meth : Method} {c : Code} {b L i cells slots : Nat} {xs : Nat → Int32} {D : va_G} {a : Nat → Nat} {C : Nat → ClassId} {Q : State → Prop} {h : HS} (CC : lwC l p s m c b L xs D a C) (I : Inv h) (hi : i + 6 ≤ L) (hL : L ≤ 3072) (hcs : cells + 1 ≤ 601024 ∧ slots + 6 ≤ 7293034) (kk : ∀ h2, Inv h2 → lwK p l e s m below meth c b i D a C (cells + 1) (slots + 6) Q 1500 h2) : lwK p l e s m below meth c b i D a C cells slots Q 1310 h := by
  obtain ⟨hx, hb, hml, hown, hts, hX, hbl, hK, hN, hT, hZ, ha, hA, hlT⟩ := CC
  intro H locs ls hP hS hl
  have hbA : ¬ lwA s b := Nat.not_le.mpr hbl
  obtain ⟨k9, r, e1, r9, h2, e2, e3, e4, I2⟩ := S_element I (xs (nI i + 1).toNatClampNeg) (xs (nI i + 2).toNatClampNeg)
  refine lv_aload_n hx hb dL_law_1310 rfl (lv_at hl 1 rfl) ?_
  refine lv_aload_n hx hb dL_law_1311 rfl (lv_at hl 0 rfl) ?_
  refine lv_iload hx hb dL_law_1312 (lv_at hl 4 rfl) ?_
  refine lv_iconst (v := 1) hx hb dL_law_1314 (by decide) ?_
  refine lv_iadd hx hb dL_law_1315 ?_
  refine va_sld hx hb hX hbl hbA hS (law_in (k := 1) hi hL (by decide)) dL_law_1316 ?_
  refine lv_aload_n hx hb dL_law_1317 rfl (lv_at hl 0 rfl) ?_
  refine lv_iload hx hb dL_law_1318 (lv_at hl 4 rfl) ?_
  refine lv_iconst (v := 2) hx hb dL_law_1320 (by decide) ?_
  refine lv_iadd hx hb dL_law_1321 ?_
  refine va_sld hx hb hX hbl hbA hS (law_in (k := 2) hi hL (by decide)) dL_law_1322 ?_
  refine lv_aload_n hx hb dL_law_1323 rfl (lv_at hl 3 rfl) ?_
  have hZ9 : tZ (gA a) s H := (hZ.kept hS.2.1).narrow hA
  refine g_callX (h := h) (fun _ => False) True (vx_runSX (As := [.ref (a 0), .int (xs (nI i + 1).toNatClampNeg), .int (xs (nI i + 2).toNatClampNeg), .ref (a 82)]) (rest := []) ⟨hx, hb, hml, hown, hts⟩ (m_L_element l hlT D a C ha h (xs (nI i + 1).toNatClampNeg) (xs (nI i + 2).toNatClampNeg) k9 r e1) (vx_cwSW 4 hts (gLup gL_law_L_element) rfl rfl rfl kdL_element ⟨Nat.le_of_ble_eq_true rfl, Nat.le_of_ble_eq_true rfl⟩) ⟨t_blind, t_pre hP hK hN hT hZ9⟩ rfl rfl hl.1 rfl (lv_room (Nat.le_of_ble_eq_true rfl)) dL_law_1324 hcs) (fun st o t q => ⟨trivial, q⟩) (fun E st t q => (show False from q).elim) hS hA (fun E hE => (show False from hE).elim) (fun _ H locs hP hS => ?_)
  refine W.eq (g2 := F0 m 1327 ls [.int k9]) rfl ?_
  refine lv_istore (lv' := [(5, .int k9), (0, .ref b), (1, .ref (a 0)), (2, .ref (a 66)), (3, .ref (a 82)), (4, .int (nI i))]) hx hb dL_law_1327 hl (by decide) rfl (fun ls hl => ?_)
  refine lv_aload_n hx hb dL_law_1329 rfl (lv_at hl 3 rfl) ?_
  refine lv_aload_n hx hb dL_law_1330 rfl (lv_at hl 1 rfl) ?_
  refine lv_iload hx hb dL_law_1331 (lv_at hl 5 rfl) ?_
  refine lv_iconst (v := 1) hx hb dL_law_1333 (by decide) ?_
  refine lv_iadd hx hb dL_law_1334 ?_
  refine va_sld hx hb hX hbl hbA hS (law_in (k := 1) hi hL (by decide)) dL_law_1335 ?_
  refine lv_aload_n hx hb dL_law_1336 rfl (lv_at hl 1 rfl) ?_
  refine lv_iload hx hb dL_law_1337 (lv_at hl 5 rfl) ?_
  refine lv_iconst (v := 2) hx hb dL_law_1339 (by decide) ?_
  refine lv_iadd hx hb dL_law_1340 ?_
  refine va_sld hx hb hX hbl hbA hS (law_in (k := 2) hi hL (by decide)) dL_law_1341 ?_
  refine g_callV (As := [.int (xs (nI i + 1).toNatClampNeg), .int (xs (nI i + 2).toNatClampNeg)]) (rest := []) hx hb hml hown hts hK hN (m_X12_element l D a C ha (elH h k9 r) (xs (nI i + 1).toNatClampNeg) (xs (nI i + 2).toNatClampNeg) r9 h2 e2) (cwV 2 hts gL_law_U_element rfl rfl rfl kdX12_element ⟨Nat.le_of_ble_eq_true rfl, Nat.le_of_ble_eq_true rfl⟩) M_O rfl rfl hP hS hA rfl hl.1 rfl (Nat.le_of_ble_eq_true rfl) dL_law_1342 hcs (fun H locs hP hS => ?_)
  refine W.eq (g2 := F0 m 1345 ls [.long r9]) rfl ?_
  refine lv_lstore (lv' := [(6, .long r9), (5, .int k9), (0, .ref b), (1, .ref (a 0)), (2, .ref (a 66)), (3, .ref (a 82)), (4, .int (nI i))]) hx hb dL_law_1345 hl (by decide) rfl (fun ls hl => ?_)
  refine lv_aload_n hx hb dL_law_1347 rfl (lv_at hl 4 rfl) ?_
  refine g_callV (As := []) (rest := []) hx hb hml hown hts hK hN (m_X12_thrown l D a C ha h2 k9 e3) (cwV 0 hts gL_law_U_thrown rfl rfl rfl kdX12_thrown ⟨Nat.le_of_ble_eq_true rfl, Nat.le_of_ble_eq_true rfl⟩) M_O rfl rfl hP hS hA rfl hl.1 rfl (Nat.le_of_ble_eq_true rfl) dL_law_1348 hcs (fun H locs hP hS => ?_)
  refine W.eq (g2 := F0 m 1351 ls [.int k9]) rfl ?_
  refine lv_iload hx hb dL_law_1351 (lv_at hl 1 rfl) ?_
  refine lv_icmp_eq (tgt := 1358) hx hb dL_law_1353 (by decide) (fun _ => ?_) (fun c9 => absurd rfl c9)
  have hend : W p l e room_1 s m #[Value.ref b] below meth c H locs (cells + 1) (slots + 6) Q (F0 m 1374 ls []) := by
    refine lv_goto (tgt := 1500) hx hb dL_law_1374 (by decide) ?_
    exact kk h2 I2 H locs ls hP hS (lv_sub hl [2, 3, 4, 5, 6] rfl)
  refine lv_iload hx hb dL_law_1358 (lv_at hl 1 rfl) ?_
  refine lv_if_ne (tgt := 1374) hx hb dL_law_1360 (by decide) (fun c9 => hend) (fun c9 => ?_)
  refine lv_aload_n hx hb dL_law_1363 rfl (lv_at hl 5 rfl) ?_
  refine lv_iconst (v := 0) hx hb dL_law_1364 (by decide) ?_
  refine g_lal (i := 82) (n := 1) (j := 0) hx hb hK O_AL (vp_lit (by decide)) hP dL_law_1365 ?_
  refine lv_lload hx hb dL_law_1366 (lv_at hl 0 rfl) ?_
  refine W.lcmp hx hb dL_law_1368 ?_
  refine lv_if_eq (tgt := 1374) hx hb dL_law_1369 (by decide) (fun _ => hend) (fun c8 => absurd ?_ c8)
  have e5 : aL h2 82 (0 : Int32).toNatClampNeg = r9 := (e4 c9).1.trans (e4 c9).2
  rw [e5]
  exact lcmp_self r9
