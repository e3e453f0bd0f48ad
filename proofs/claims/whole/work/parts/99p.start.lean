/-! what holds at the start -/
theorem gNF_in : ∀ w ∈ gNF.map (fun t => Cond.fieldLinkNest t.1 t.2.1 t.2.2.1 t.2.2.2.1 t.2.2.2.2.1 t.2.2.2.2.2), w ∈ lw_tbl := mem_p _ [161, 186, 188, 159, 190, 193, 152, 157, 83] (by decide +kernel)
theorem gNM_in : ∀ w ∈ gNM.map (fun t => Cond.methodLinkNest t.1 t.2.1 t.2.2.1 t.2.2.2), w ∈ lw_tbl := mem_p _ [72, 180, 142, 149, 114, 121, 300, 303, 78, 97, 104, 111, 118, 125, 132, 139, 146, 107, 135, 128] (by decide +kernel)
theorem gCst_in : ∀ w ∈ gCst.map (fun t => Cond.castable t RX6), w ∈ lw_tbl := mem_p _ [1400, 1401, 1396, 1397, 1395, 1399, 1398] (by decide +kernel)
theorem tBad_in : ∀ w ∈ tBad, w ∈ lw_tbl := mem_p _ [858, 932, 953, 860, 862, 864] (by decide +kernel)
theorem tStr_in : ∀ w ∈ tStr.map (fun t => Cond.stringRef t.1 t.2.1 t.2.2), w ∈ lw_tbl := mem_p _ [897, 939, 960, 976, 978] (by decide +kernel)
theorem tStr_ex : ∀ w ∈ tStr.map (fun t => Cond.exactly (.string t.1 t.2.1) "java/lang/String"), w ∈ flatC (Jvm.Cond.and given_1 narrow_1) := by decide +kernel
theorem tNc_in : ∀ w ∈ tNc.map (fun t => Cond.not (.castable t.1 t.2)), w ∈ flatC (Jvm.Cond.and given_1 narrow_1) := by decide +kernel
theorem st_flags {l : Launch} (hflags : l.flags = flags0) : l.stackTraces = false := by
  unfold Launch.stackTraces
  rw [hflags]
  decide +kernel
section STF
variable {s : State} {b : Nat}
theorem st_nest (hts : ∀ w ∈ lw_tbl, w.before #[Value.ref b] s = true) : nestOK s := ⟨fun t ht => va_Nw.of rfl (hts _ (gNF_in _ (List.mem_map.mpr ⟨t, ht, rfl⟩))), fun t ht => va_Nw.of rfl (hts _ (gNM_in _ (List.mem_map.mpr ⟨t, ht, rfl⟩)))⟩
theorem st_cOK (hts : ∀ w ∈ lw_tbl, w.before #[Value.ref b] s = true) : cOK s := ⟨st_nest hts, fun t ht => va_Nw.of rfl (hts _ (gCst_in _ (List.mem_map.mpr ⟨t, ht, rfl⟩))), va_AO.of (hts (.arrayOver (.object RX6)) (List.mem_of_getElem? (i := 95) (by decide +kernel))), va_AO.of (hts (.arrayOver (.object RX7)) (List.mem_of_getElem? (i := 178) (by decide +kernel)))⟩
theorem st_tW (hts : ∀ w ∈ lw_tbl, w.before #[Value.ref b] s = true) (hgv : (Jvm.Cond.and given_1 narrow_1).before #[Value.ref b] s = true) : tW s := by
  have hs := flat_of_before _ hgv
  refine ⟨fun t ht => va_Nw.of rfl (hts _ (tBad_in _ (List.mem_append_left _ (List.mem_map.mpr ⟨t, ht, rfl⟩)))), fun t ht => va_Nw.of rfl (hts _ (tBad_in _ (List.mem_append_right _ (List.mem_map.mpr ⟨t, ht, rfl⟩)))), fun t ht => va_Nc.of (hs _ (tNc_in _ (List.mem_map.mpr ⟨t, ht, rfl⟩))), fun t ht => ?_⟩
  obtain ⟨a, c, cA, kA, q1, -⟩ := Cond.exactly_spec (args := #[Value.ref b]) (first := s) (o := none) (s := s) (idx := []) (t := .string t.1 t.2.1) (cls := "java/lang/String") (hs _ (tStr_ex _ (List.mem_map.mpr ⟨t, ht, rfl⟩)))
  exact ⟨a, vk_R.of (hts _ (tStr_in _ (List.mem_map.mpr ⟨t, ht, rfl⟩))) q1⟩
theorem st_tZ (hts : ∀ w ∈ lw_tbl, w.before #[Value.ref b] s = true) (hgv : (Jvm.Cond.and given_1 narrow_1).before #[Value.ref b] s = true) : tZ (lwA s) s s.heap := by
  have hs := flat_of_before _ hgv
  have hA : ∀ a : Nat, a < s.heap.size → ¬ lwA s a := fun a h => Nat.not_le.mpr h
  exact ⟨vx_Zqof (hts (.laysStatic Bundle.tN "UNASSIGNED_STACK" Bundle.steD) (List.mem_of_getElem? (i := 883) (by decide +kernel))) (hts (.initialized Bundle.tN) (List.mem_of_getElem? (i := 56) (by decide +kernel))) (hs (.isRef (.static Bundle.tN "UNASSIGNED_STACK" Bundle.steD)) (by decide +kernel)) hA, vx_Zqof (hts (.laysStatic Bundle.tN "SUPPRESSED_SENTINEL" Bundle.listD) (List.mem_of_getElem? (i := 885) (by decide +kernel))) (hts (.initialized Bundle.tN) (List.mem_of_getElem? (i := 56) (by decide +kernel))) (hs (.isRef (.static Bundle.tN "SUPPRESSED_SENTINEL" Bundle.listD)) (by decide +kernel)) hA⟩
theorem st_cls (hts : ∀ w ∈ lw_tbl, w.before #[Value.ref b] s = true) : ∃ D : va_G, ∀ (k : Nat) (q : vw_C), vwCl[k]? = some q → u_Kn s q.1 q.2.1 q.2.2 (D.1 k) (D.2 k) := by
  obtain ⟨c0, i0, u0⟩ := u_known (C := RX0) (T := TX0) (N := 0) (n := 0) hts inX0 (hts (.instantiable RX0 0) (List.mem_of_getElem? (i := 138) (by decide +kernel)))
  obtain ⟨c1, i1, u1⟩ := u_known (C := RX1) (T := TX1) (N := 0) (n := 0) hts inX1 (hts (.instantiable RX1 0) (List.mem_of_getElem? (i := 145) (by decide +kernel)))
  obtain ⟨c2, i2, u2⟩ := u_known (C := RX2) (T := TX2) (N := 0) (n := 0) hts inX2 (hts (.instantiable RX2 0) (List.mem_of_getElem? (i := 110) (by decide +kernel)))
  obtain ⟨c3, i3, u3⟩ := u_known (C := RX3) (T := TX3) (N := 0) (n := 0) hts inX3 (hts (.instantiable RX3 0) (List.mem_of_getElem? (i := 117) (by decide +kernel)))
  obtain ⟨c4, i4, u4⟩ := u_known (C := RX4) (T := TX4) (N := 3) (n := 3) hts inX4 (hts (.instantiable RX4 3) (List.mem_of_getElem? (i := 77) (by decide +kernel)))
  obtain ⟨c5, i5, u5⟩ := u_known (C := RX5) (T := TX5) (N := 7) (n := 7) hts inX5 (hts (.instantiable RX5 7) (List.mem_of_getElem? (i := 71) (by decide +kernel)))
  obtain ⟨c6, i6, u6⟩ := u_known (C := RX6) (T := TX6) (N := 0) (n := 0) hts inX6 (hts (.instantiable RX6 0) (List.mem_of_getElem? (i := 96) (by decide +kernel)))
  obtain ⟨c7, i7, u7⟩ := u_known (C := RX7) (T := TX7) (N := 6) (n := 6) hts inX7 (hts (.instantiable RX7 6) (List.mem_of_getElem? (i := 179) (by decide +kernel)))
  obtain ⟨c8, i8, u8⟩ := u_known (C := RX8) (T := TX8) (N := 0) (n := 0) hts inX8 (hts (.instantiable RX8 0) (List.mem_of_getElem? (i := 103) (by decide +kernel)))
  obtain ⟨c9, i9, u9⟩ := u_known (C := RX9) (T := TX9) (N := 0) (n := 0) hts inX9 (hts (.instantiable RX9 0) (List.mem_of_getElem? (i := 131) (by decide +kernel)))
  obtain ⟨c10, i10, u10⟩ := u_known (C := RX10) (T := TX10) (N := 0) (n := 0) hts inX10 (hts (.instantiable RX10 0) (List.mem_of_getElem? (i := 124) (by decide +kernel)))
  obtain ⟨c11, i11, u11⟩ := u_known (C := RX11) (T := TX11) (N := 8) (n := 8) hts inX11 (hts (.instantiable RX11 8) (List.mem_of_getElem? (i := 63) (by decide +kernel)))
  obtain ⟨c12, i12, u12⟩ := u_known (C := RX12) (T := TX12) (N := 21) (n := 21) hts inX12 (hts (.instantiable RX12 21) (List.mem_of_getElem? (i := 981) (by decide +kernel)))
  have key : ∀ k : Nat, ∃ (ci : ClassId) (iS : Nat → Nat), ∀ q : vw_C, vwCl[k]? = some q → u_Kn s q.1 q.2.1 q.2.2 ci iS := by
    intro k
    match k with
    | 0 => exact ⟨c0, i0, fun q hq => by cases hq; exact u0⟩
    | 1 => exact ⟨c1, i1, fun q hq => by cases hq; exact u1⟩
    | 2 => exact ⟨c2, i2, fun q hq => by cases hq; exact u2⟩
    | 3 => exact ⟨c3, i3, fun q hq => by cases hq; exact u3⟩
    | 4 => exact ⟨c4, i4, fun q hq => by cases hq; exact u4⟩
    | 5 => exact ⟨c5, i5, fun q hq => by cases hq; exact u5⟩
    | 6 => exact ⟨c6, i6, fun q hq => by cases hq; exact u6⟩
    | 7 => exact ⟨c7, i7, fun q hq => by cases hq; exact u7⟩
    | 8 => exact ⟨c8, i8, fun q hq => by cases hq; exact u8⟩
    | 9 => exact ⟨c9, i9, fun q hq => by cases hq; exact u9⟩
    | 10 => exact ⟨c10, i10, fun q hq => by cases hq; exact u10⟩
    | 11 => exact ⟨c11, i11, fun q hq => by cases hq; exact u11⟩
    | 12 => exact ⟨c12, i12, fun q hq => by cases hq; exact u12⟩
    | k + 13 => exact ⟨c0, i0, fun q hq => by simp [vwCl] at hq⟩
  exact ⟨(fun k => (key k).choose, fun k => (key k).choose_spec.choose), fun k q hq => (key k).choose_spec.choose_spec q hq⟩
theorem st_K (hts : ∀ w ∈ lw_tbl, w.before #[Value.ref b] s = true) : ∃ (D : va_G) (C : Nat → ClassId), va_K D vwCl (gty C) s := by
  obtain ⟨D, hKc⟩ := st_cls hts
  obtain ⟨cI, kI, oI, f1, f2, f3⟩ := Cond.arrayClass_spec (hts (.arrayClass .int) (List.mem_of_getElem? (i := 93) (by decide +kernel)))
  obtain ⟨cL, kL, oL, g1, g2, g3⟩ := Cond.arrayClass_spec (hts (.arrayClass .long) (List.mem_of_getElem? (i := 207) (by decide +kernel)))
  obtain ⟨o6, c6, k6, a1, -, a3, a4, a5⟩ := Cond.arrayOver_spec (n := RX6) (hts (.arrayOver (.object RX6)) (List.mem_of_getElem? (i := 95) (by decide +kernel)))
  obtain ⟨o7, c7, k7, b1, -, b3, b4, b5⟩ := Cond.arrayOver_spec (n := RX7) (hts (.arrayOver (.object RX7)) (List.mem_of_getElem? (i := 178) (by decide +kernel)))
  refine ⟨D, fun k => if k = 0 then cI else if k = 1 then cL else if k = 2 then c6 else c7, hKc, fun k q hq => ?_⟩
  match k, hq with
  | 0, hq => cases hq; exact ⟨fun n z => ⟨fun k h => (by cases h), kI, f2, oI, f3⟩, f1⟩
  | 1, hq => cases hq; exact ⟨fun n z => ⟨fun k h => (by cases h), kL, g2, oL, g3⟩, g1⟩
  | 2, hq => cases hq; exact ⟨fun n z => ⟨fun k h => (by cases h), k6, a3, o6, a4⟩, k6, o6, a3, a4, a1, a5⟩
  | 3, hq => cases hq; exact ⟨fun n z => ⟨fun k h => (by cases h), k7, b3, o7, b4⟩, k7, o7, b3, b4, b1, b5⟩
  | k + 4, hq => simp [gty] at hq
end STF
