/-! throws: what a method that throws needs of the start, and how it is called -/
section XUC
variable {p : Program} {l : Launch} {e : Env} {R : Room} {s : State} {m : MethodId} {args : Array Value} {below : List Frame} {meth : Method} {c : Code} {T : State} {H : Heap} {locs : List Loc} {cells slots : Nat}
/-- an overridden method that may throw -/
theorem xu_callVU (X : Stand p l e R s m args below meth c T locs cells slots) (hexec : p.tables.exec = Jvm.exec) {own C owner : String} {index : Nat} {x y : MethodName} {bytes : ByteArray} {maxL : Nat} {ret : Option FieldType}
    (hown : s.vm.findClass own = some m.cls) (hlink : (Cond.methodLink own index x).before args s = true) (hsame : (Cond.sameMethod x.cls owner x.name x.desc).before args s = true)
    (hd0 : va_Decl s ⟨owner, x.name, x.desc⟩) (howner : owner ≠ "java/lang/invoke/MethodHandle" ∧ owner ≠ "java/lang/invoke/VarHandle")
    (hsel : (Cond.selects C x y).before args s = true) (hinst : (Cond.instanceMethod y).before args s = true)
    {W9 : Nat} {Pre : Pt → Array Value → Prop} {Post : Pt → Array Value → Option Value → Pt → Prop} {PostX : Pt → Array Value → Addr → Pt → Prop} (hK : vx_Back l R p e below s args y 3 W9 Pre Post PostX)
    {b : Addr} {cellB : Cell} (hcell : T.heap[b]? = some cellB) (hobj : cellB.vm.isStatics = false) (hcls : s.vm.findClass C = some cellB.cls)
    {g : JFrame} (hg : g.method = m) (hsize : g.locals.size = c.maxLocals) {argsL rest : List Value} (hlen : ∀ sig, parseMethodDescriptor x.desc = some sig → argsL.length = sig.parameters.length)
    (hstack : g.stack = argsL.reverse ++ .ref b :: rest) (hW : 2 * g.monitorRoom + (rest.map fun v => v.category).sum ≤ W9) (hdg : decode c.code g.pc = .ok (.invokevirtual index, 3))
    (hpre : ∀ vm₁, s.WarmedH vm₁ → Pre ⟨T.setVm vm₁, locs, cells, slots⟩ (Value.ref b :: argsL).toArray) :
    (∃ (v : Option Value) (vm₁ : Vm) (B : Pt), s.WarmedH vm₁ ∧ Stand p l e R s m args below meth c B.U B.locs B.cells B.slots ∧ Post ⟨T.setVm vm₁, locs, cells, slots⟩ (Value.ref b :: argsL).toArray v B ∧
      ∀ target, Steps p.tables e below (B.U.setTop { g with pc := g.pc + 3, stack := v.toList ++ rest }) target → Steps p.tables e below (T.setTop g) target) ∨
    (∃ (q : Addr) (vm₁ : Vm) (B : Pt), s.WarmedH vm₁ ∧ Stand p l e R s m args below meth c B.U B.locs B.cells B.slots ∧ PostX ⟨T.setVm vm₁, locs, cells, slots⟩ (Value.ref b :: argsL).toArray q B ∧
      Steps p.tables e below (T.setTop g) ((B.U.setTop { g with stack := rest }).pushFrame (.throwing q))) := by
  obtain ⟨r0, r, hn, hrm, hstR, hsigR⟩ := hd0
  obtain ⟨cn, ck, r1, hcn, hck, hni, hf, hn1⟩ := Cond.sameMethod_found hsame
  cases hn.symm.trans hn1
  obtain ⟨mk, methM, hnamed, hmethM, -, habM⟩ := Cond.instanceMethod_spec hinst
  obtain ⟨c2, r2, m2, q1, q2, q3, q4, kP, hkP, hkPi⟩ := Cond.selects_spec hsel
  cases hcls.symm.trans q1
  cases hf.symm.trans q2
  cases hnamed.symm.trans q3
  have hselP : selectMethod e.platform s.vm cellB.cls r0 = .method mk := by rw [Launch.admits_selectMethod X.admits]; exact q4
  obtain ⟨vm₁, X₁, hstep₁⟩ := X.invokevirtualUp hexec hown hlink hsame howner hn hrm hstR (a := b) (cell := cellB) hcell
    (fun z h => by rw [h] at hobj; cases hobj) hselP hmethM habM hkP hkPi (g := g) hg (argsL := argsL) (rest := rest) (hlen _ hsigR) hstack hdg
  rcases hK m meth c ⟨T.setVm vm₁, locs, cells, slots⟩ { g with stack := rest } (.invokevirtual index) mk (Value.ref b :: argsL).toArray X₁ hg hsize hdg hW (X₁.named hnamed) (hpre vm₁ X₁.warmed) with ⟨v, B, X', hpost, hsteps⟩ | ⟨q, B, X', hpost, hsteps⟩
  · exact Or.inl ⟨v, vm₁, B, X₁.warmed, X', hpost, fun target h => hstep₁ _ fun acts => by rw [doInvoke_state]; exact hsteps.trans h⟩
  · exact Or.inr ⟨q, vm₁, B, X₁.warmed, X', hpost, hstep₁ _ fun acts => by rw [doInvoke_state]; exact hsteps⟩
theorem xu_runU {x y : MethodName} {bytes cc : ByteArray} {maxL nL mc ms n index : Nat} {ret : Option FieldType} {ws : List Cond} {rm : Room} {Pc : Array Value → State → Prop} {Qc : Array Value → State → Outcome → State → Prop} {XC : String → State → State → Prop} {free : Addr → Prop} {Ts : List Cond} {own C owner : String} {b : Addr} {As rest : List Value} {g : JFrame}
    (S : CallFix p m c cc nL s args Ts own) (hM : vx_Met l y ws rm Pc Qc XC mc ms free) (cw : va_CU R s args own C owner index x y bytes maxL ret ws rm mc ms n) (hp : PreV s H C b Pc As)
    (hg : g.method = m) (hn : As.length = n) (hsize : g.locals.size = nL) (hstack : g.stack = As.reverse ++ .ref b :: rest) (hW : 2 * g.monitorRoom + (rest.map fun v => v.category).sum ≤ 8) (hdg : decode cc g.pc = .ok (.invokevirtual index, 3)) (hf : cells + mc ≤ R.cells ∧ slots + ms ≤ R.slots) :
    vx_Run p l e R s m args below meth c H locs cells slots mc ms g rest (Qc (Value.ref b :: As).toArray) XC free := by
  obtain ⟨hrc, hrs, hfr, hlo, hws, hcw⟩ := cw.back
  have hini := cw.init
  have hK : vx_Back l R p e below s args y 3 8 (PreOf R mc ms Pc) (PostOf Qc mc ms free) (vx_Post XC mc ms free) := vx_back (bytes := bytes) (maxL := maxL) (ret := ret) hM hp.1 hrc hrs hfr hlo hws hcw (fun a' U hW => word_at hW (Or.inl (by first | rfl | simp [Cond.onTables, Cond.keeps, Cond.steady])) hini)
  obtain ⟨hx, hb, hml, ho, -⟩ := S
  obtain ⟨-, ⟨cellB, hcB, hoB, hclB⟩, hPc⟩ := hp
  intro T hT X
  rcases xu_callVU X hx (C := C) (owner := owner) (bytes := bytes) (maxL := maxL) (ret := ret) ho cw.link cw.same cw.decl cw.notMH cw.sel cw.inst hK (by rw [hT]; exact hcB) hoB hclB hg (hsize.trans hml.symm) (argsL := As) (rest := rest) (fun sig h => hn.trans (cw.len sig h)) hstack hW (by rw [hb]; exact hdg)
    (fun vm₁ hW₁ => ⟨hf.1, hf.2, hPc (T.setVm vm₁) hT hW₁⟩) with ⟨v, vm₁, ⟨U', l2, c2, s2⟩, hW₁, X', ⟨g', mk, t, L, e1, e2, hq, h1, hL, h2, h3⟩, st⟩ | ⟨q, vm₁, ⟨U', l2, c2, s2⟩, hW₁, X', ⟨g', mk, t, L, E, ce, e1, e2, hq, hce, hcv, hcl, h1, hL, h2, h3⟩, st⟩
  · dsimp only [Pt.U, Pt.locs, Pt.cells, Pt.slots] at X' e1 e2 h1 h2 h3 st
    subst h1; subst h2; subst h3
    exact Or.inl ⟨v, (T.setVm vm₁).calling g' mk (Value.ref b :: As).toArray, t, U', L, hT, X', hL, e1, e2, hq, st⟩
  · dsimp only [Pt.U, Pt.locs, Pt.cells, Pt.slots] at X' e1 e2 h1 h2 h3 st hcl
    subst h1; subst h2; subst h3
    exact Or.inr ⟨q, (T.setVm vm₁).calling g' mk (Value.ref b :: As).toArray, t, U', L, E, ce, hT, X', hL, e1, e2, hq, hce, hcv, vx_cls hW₁ hcl, st⟩
end XUC
def nUO : String := "java/lang/UnsupportedOperationException"
def nIA : String := "java/lang/IllegalArgumentException"
def nIS : String := "java/lang/IllegalStateException"
def thN : List String := ["java/lang/RuntimeException", "java/lang/Exception"]
def tCst : List String := ["java/lang/UnsupportedOperationException", "java/lang/IllegalArgumentException", "java/lang/IllegalStateException"]
def tDcl : List MethodName := [⟨"java/lang/RuntimeException", "<init>", "(Ljava/lang/String;)V"⟩, ⟨"java/lang/Exception", "<init>", "(Ljava/lang/String;)V"⟩, ⟨"java/lang/Throwable", "<init>", "(Ljava/lang/String;)V"⟩]
def tBad : List Cond := tCst.map (fun t => .castable t t) ++ tDcl.map .declares
def tNc : List (String × String) := [("java/lang/IllegalArgumentException", "java/lang/UnsupportedOperationException"), ("java/lang/IllegalStateException", "java/lang/UnsupportedOperationException"), ("java/lang/IllegalStateException", "java/lang/IllegalArgumentException")]
def tStr : List (String × Nat × String) := [(RX0, 16, "a bell's failure"), (RX2, 17, "a gossip's failure"), (RX6, 9, "a person's failure"), (RX11, 280, "no such shelf"), (RX11, 291, "no row or no such place")]
def tW (U : State) : Prop := (∀ t ∈ tCst, va_Nw (.castable t t) U) ∧ (∀ t ∈ tDcl, va_Nw (.declares t) U) ∧ (∀ t ∈ tNc, va_Nc t.1 t.2 U) ∧ ∀ t ∈ tStr, ∃ sa, vk_R t.1 t.2.1 t.2.2 sa U
def tZ (A : Nat → Prop) (U : State) (H : Heap) : Prop := vx_Zq Bundle.tN "UNASSIGNED_STACK" Bundle.steD A U H ∧ vx_Zq Bundle.tN "SUPPRESSED_SENTINEL" Bundle.listD A U H
theorem tW_warm {s U : State} (h : tW s) (hW : s.WarmedH U.vm) : tW U := ⟨fun t ht => va_Nw.warmC hW (h.1 t ht), fun t ht => va_Nw.warmD hW (h.2.1 t ht), fun t ht => (h.2.2.1 t ht).moved hW.alike, fun t ht => by
  obtain ⟨sa, q⟩ := h.2.2.2 t ht
  exact ⟨sa, q.warm hW⟩⟩
theorem tW_same {s U : State} (h : tW s) (hv : s.vm = U.vm) : tW U := ⟨fun t ht => va_tabs rfl hv (h.1 t ht), fun t ht => va_tabs rfl hv (h.2.1 t ht), fun t ht => (h.2.2.1 t ht).moved (hv ▸ Vm.Alike.refl s.vm), fun t ht => by
  obtain ⟨sa, q⟩ := h.2.2.2 t ht
  exact ⟨sa, q.same hv.symm⟩⟩
theorem tZ.moved {A : Nat → Prop} {u U : State} {H : Heap} (hvm : u.vm.Alike U.vm) (h : tZ A u H) : tZ A U H := ⟨h.1.moved hvm, h.2.moved hvm⟩
theorem tZ.kept {A : Nat → Prop} {U : State} {H H1 : Heap} (h : tZ A U H) (hq : ∀ a : Nat, a < H.size → ¬ A a → H1[a]? = H[a]?) : tZ A U H1 := ⟨h.1.kept hq, h.2.kept hq⟩
theorem tZ.narrow {A B : Nat → Prop} {U : State} {H : Heap} (h : tZ A U H) (hAB : ∀ q, B q → A q) : tZ B U H := ⟨h.1.narrow hAB, h.2.narrow hAB⟩
theorem tBad_ok {U : State} (h : tW U) {A : Array Value} : ∀ w ∈ tBad, w.before A U = true := by
  intro w hw
  rcases List.mem_append.mp hw with q | q
  · obtain ⟨t, ht, rfl⟩ := List.mem_map.mp q
    exact va_Nw.use rfl (h.1 t ht)
  · obtain ⟨t, ht, rfl⟩ := List.mem_map.mp q
    exact va_Nw.use rfl (h.2.1 t ht)
def tPre (a : Nat → Nat) (C : Nat → ClassId) (D : va_G) (h : HS) (U : State) : Prop := gPre a C D h U ∧ tW U ∧ tZ (gA a) U U.heap
theorem t_blind {av : List Value} {a : Nat → Nat} {C : Nat → ClassId} {D : va_G} {h : HS} : FrameBlind (va_Pc av (tPre a C D h)) := fun x U g mk q => ⟨q.1, ⟨q.2.1.1, va_K.moved (u := U) (U := U.calling g mk x) (Vm.Alike.refl U.vm) q.2.1.2.1, nest_same q.2.1.2.2 rfl⟩, tW_same q.2.2.1 rfl, tZ.moved (u := U) (U := U.calling g mk x) (Vm.Alike.refl U.vm) q.2.2.2⟩
theorem t_pre {av : List Value} {a : Nat → Nat} {C : Nat → ClassId} {D : va_G} {h : HS} {s : State} {H : Heap} (hP : va_P D vwCl (gw a C h) H) (hK : va_K D vwCl (gty C) s) (hN : nestOK s) (hT : tW s) (hZ : tZ (gA a) s H) : ∀ U : State, U.heap = H → s.WarmedH U.vm → va_Pc av (tPre a C D h) av.toArray U := fun U hU hW => ⟨rfl, ⟨by rw [hU]; exact hP, va_K.moved hW.alike hK, nest_warm hN hW⟩, tW_warm hT hW, by rw [hU]; exact hZ.moved hW.alike⟩
def gX (E0 : String) (D : va_G) (a : Nat → Nat) (C : Nat → ClassId) (h : HS) (P : Prop) : String → State → State → Prop := fun E st t => E = E0 ∧ P ∧ va_P D vwCl (gw a C h) t.heap ∧ va_F (gA a) st t
def gNo : String → State → State → Prop := fun _ _ _ => False
section XROWS
variable {p : Program} {l : Launch} {e : Env} {R : Room} {s : State} {m : MethodId} {args : Array Value} {below : List Frame} {meth : Method} {c : Code} {H H0 : Heap} {locs : List Loc} {cells slots : Nat} {Q : State → Prop} {A0 : Nat → Prop}
variable {cc : ByteArray} {pc : Nat} {ls : Array Slot} {rest st0 : List Value} {D : va_G} {a : Nat → Nat} {C : Nat → ClassId} {h h1 : HS} {Ts : List Cond} {own : String}
theorem g_callX {mc ms : Nat} {ret : Option Value} {XC : String → State → State → Prop} {Qa : State → Outcome → State → Prop} (P : String → Prop) (N : Prop) (hr : vx_Run p l e R s m args below meth c H locs cells slots mc ms (F0 m pc ls st0) rest Qa XC (gA a)) (hQ : ∀ st o t, Qa st o t → N ∧ o = .returned ret ∧ va_P D vwCl (gw a C h1) t.heap ∧ va_F (gA a) st t) (hX : ∀ E st t, XC E st t → P E ∧ va_P D vwCl (gw a C h) t.heap ∧ va_F (gA a) st t) (hS : va_S A0 H0 H locs) (hA : ∀ q, gA a q → A0 q)
    (kx : ∀ E : String, P E → ∀ (ce : Cell) (q9 : Addr) (H1 : Heap) (locs1 : List Loc), va_P D vwCl (gw a C h) H1 → va_S A0 H0 H1 locs1 → H1[q9]? = some ce → ce.vm = .none → s.vm.findClass E = some ce.cls → vx_W p l e R s m args below meth c H1 locs1 (cells + mc) (slots + ms) Q (F0 m pc ls rest) q9)
    (kk : N → ∀ (H1 : Heap) (locs1 : List Loc), va_P D vwCl (gw a C h1) H1 → va_S A0 H0 H1 locs1 → W p l e R s m args below meth c H1 locs1 (cells + mc) (slots + ms) Q (F0 m (pc + 3) ls (ret.toList ++ rest))) : W p l e R s m args below meth c H locs cells slots Q (F0 m pc ls st0) := by
  intro T hT X
  have hS9 : ∀ {st₀ t T' : State} {L : List Loc}, st₀.heap = H → T'.heap = t.heap → va_F (gA a) st₀ t → (∀ q ∈ L, gA a q.base) → va_S A0 H0 T'.heap (locs ++ L) := by
    intro st₀ t T' L h0 e1 hF hL
    obtain ⟨hz, hk⟩ := hF
    rw [h0] at hz hk
    exact ⟨Nat.le_trans hS.1 (by rw [e1]; exact hz), fun q h1 h2 => by rw [e1, hk q (Nat.lt_of_lt_of_le h1 hS.1) (fun z => h2 (hA q z))]; exact hS.2.1 q h1 h2, fun q hq => by
      rcases List.mem_append.mp hq with h | h
      · exact hS.2.2 q h
      · exact hA _ (hL q h)⟩
  rcases hr T hT X with ⟨v, st₀, t, T', L, h0, X', hL, e1, e2, hq, st⟩ | ⟨q, st₀, t, T', L, E, ce, h0, X', hL, e1, e2, hq, hce, hcv, hcl, st⟩
  · obtain ⟨hn, hv, hP1, hF⟩ := hQ _ _ _ hq
    have hv' : v = ret := by cases hv; rfl
    subst hv'
    obtain ⟨t2, a1, b1⟩ := kk hn T'.heap (locs ++ L) (by rw [e1]; exact hP1) (hS9 h0 e1 hF hL) T' rfl X'
    exact ⟨t2, st t2 a1, b1⟩
  · obtain ⟨hp, hP1, hF⟩ := hX _ _ _ hq
    obtain ⟨t2, a1, b1⟩ := kx E hp ce q T'.heap (locs ++ L) (by rw [e1]; exact hP1) (hS9 h0 e1 hF hL) (by rw [e1]; exact hce) hcv hcl T' rfl X'
    exact ⟨t2, st.trans a1, b1⟩
theorem gA_kept {H1 : Heap} (ha : ginj a) (hP : va_P D vwCl (gw a C h) H) (hk : ∀ q : Nat, q < H.size → H1[q]? = H[q]?) : va_P D vwCl (gw a C h) H1 := hP.kept fun _ q hq => hk q.1 (vx_lt hP hq)
end XROWS
def rmFail : Room := { frames := 6, cells := 1, slots := 6, locals := 82 }
set_option maxHeartbeats 4000000 in
set_option maxRecDepth 100000 in
theorem m_X6_fail (l : Launch) (hlT : l.stackTraces = false) (D : va_G) (a : Nat → Nat) (C : Nat → ClassId) (ha : ginj a) (h : HS) (i : Nat) (v : Int32) : vx_Met l yX6_fail wsX6_fail rmFail (va_Pc [.ref (a i), .int v] (tPre a C D h)) (fun aa st o t => v = 0 ∧ gQ none D a C h aa st o t) (gX nIS D a C h (¬ v = 0)) 1 6 (gA a) := by
  refine vx_ofW (cc := cX6_fail) (maxL := 2) (ret := none) (by decide) rfl ?_
  intro p e s m args below meth c s₁ B hml hnt hv
  obtain ⟨rfl, ⟨hP, hK, hN⟩, hT, hZ⟩ := hv
  have hx := B.exec
  have hb := B.bytes
  have hr := B.returns
  have hts := atoms_spec (ws := wsX6_fail) B.pre
  have hown : s.vm.findClass RX6 = some m.cls := findClass_of_methodNamed B.named
  have hlk := B.notSynchronized
  have hS : va_S (gA a) s.heap s.heap [] := va_S.rf
  have hl := lv_entry ([.ref (a i), .int v]) (n := 2) (Nat.le_of_ble_eq_true rfl)
  rw [lg_entry_eq]
  generalize (lg_sl ([.ref (a i), .int v]) ++ List.replicate (2 - (lg_sl ([.ref (a i), .int v])).length) Slot.unset).toArray = ls at hl ⊢
  have hl : lv_has ls 2 [(0, .ref (a i)), (1, .int v)] := hl
  refine lv_iload_n hx hb dX6_fail_0 rfl (lv_at hl 1 rfl) ?_
  refine lv_if_eq (tgt := 14) hx hb dX6_fail_1 (by decide) (fun c1 => ?_) (fun c1 => ?_)
  · refine W.widen (k := 1) (n := 6) (by omega) (by omega) ?_
    refine vx_ret ?_
    exact W.vret hx hb hr (fun t ht _ => ⟨c1, rfl, by rw [ht]; exact hP, hS.F ht⟩) hS.2.2 dX6_fail_14 hlk
  · obtain ⟨sa, hstr⟩ := hT.2.2.2 (RX6, 9, "a person's failure") (by decide +kernel)
    exact vx_throwS (cls := nIS) (names := thN) hx hb hlT hown (by decide +kernel) (by decide +kernel) (hts (.classLink RX6 7 nIS) (List.mem_of_getElem? (i := 1) rfl)) (hts (.initialized nIS) (List.mem_of_getElem? (i := 2) rfl)) hstr (vx_hat (B := tBad) (fun w hw => hts w (List.mem_cons_of_mem _ (List.mem_append_right _ hw))) (by decide +kernel) (tBad_ok hT)) (by decide +kernel) hZ.1 hZ.2 hS (hl.1.trans hml.symm) dX6_fail_4 dX6_fail_7 dX6_fail_8 dX6_fail_10 dX6_fail_13 (fun x hx => (hnt x hx).elim) (Nat.le_of_ble_eq_true rfl) (Nat.le_of_ble_eq_true rfl) (Nat.le_of_ble_eq_true rfl) (Nat.le_of_ble_eq_true rfl) hlk (fun t _ hz hk => ⟨rfl, c1, gA_kept ha hP hk, hz, fun q h1 _ => hk q h1⟩) hS.2.2 (by omega) (by omega)
