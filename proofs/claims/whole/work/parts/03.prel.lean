/-! words of the functions that stand for the methods, and how the walk takes them apart -/
def FU : Nat := 1000
def nm {α β : Type} (x : α) (f : α → β) : β := f x
def gdi {β : Type} (j : Int32) (n : Nat) (k : Option β) : Option β := if j < 0 ∨ n ≤ j.toNatClampNeg then none else k
def gdz {β : Type} (y : Int32) (k : Option β) : Option β := if y = 0 then none else k
def gdzL {β : Type} (y : Int64) (k : Option β) : Option β := if y = 0 then none else k
def gdb {β : Type} (v : Int32) (k : Option β) : Option β := if v &&& 1 = v then k else none
def gdc {β : Type} (sp dp n : Int32) (n0 n1 : Nat) (k : Option β) : Option β := if sp < 0 ∨ dp < 0 ∨ n < 0 ∨ n0 < sp.toNatClampNeg + n.toNatClampNeg ∨ n1 < dp.toNatClampNeg + n.toNatClampNeg then none else k
def oM {β : Type} (r : Option Nat) (A : β) (B : Nat → β) : β := match r with
  | none => A
  | some t => B t
section HFS
variable {α β : Type} {r : β}
theorem nm_s {e x : α} {k : α → Option β} (hf : nm e k = some r) (ex : x = e) : k x = some r := by subst ex; exact hf
theorem gdi_s {j : Int32} {n : Nat} {k : Option β} (hf : gdi j n k = some r) : vp_in j n ∧ k = some r := by
  unfold gdi at hf
  by_cases hc : j < 0 ∨ n ≤ j.toNatClampNeg
  · rw [if_pos hc] at hf; cases hf
  · rw [if_neg hc] at hf; exact ⟨hc, hf⟩
theorem gdz_s {y : Int32} {k : Option β} (hf : gdz y k = some r) : ¬ y = 0 ∧ k = some r := by
  unfold gdz at hf
  by_cases hc : y = 0
  · rw [if_pos hc] at hf; cases hf
  · rw [if_neg hc] at hf; exact ⟨hc, hf⟩
theorem gdzL_s {y : Int64} {k : Option β} (hf : gdzL y k = some r) : ¬ y = 0 ∧ k = some r := by
  unfold gdzL at hf
  by_cases hc : y = 0
  · rw [if_pos hc] at hf; cases hf
  · rw [if_neg hc] at hf; exact ⟨hc, hf⟩
theorem gdb_s {v : Int32} {k : Option β} (hf : gdb v k = some r) : v &&& 1 = v ∧ k = some r := by
  unfold gdb at hf
  by_cases hc : v &&& 1 = v
  · rw [if_pos hc] at hf; exact ⟨hc, hf⟩
  · rw [if_neg hc] at hf; cases hf
theorem gdc_s {sp dp n : Int32} {n0 n1 : Nat} {k : Option β} (hf : gdc sp dp n n0 n1 k = some r) : (¬ sp < 0 ∧ ¬ dp < 0 ∧ ¬ n < 0 ∧ sp.toNatClampNeg + n.toNatClampNeg ≤ n0 ∧ dp.toNatClampNeg + n.toNatClampNeg ≤ n1) ∧ k = some r := by
  unfold gdc at hf
  by_cases hc : sp < 0 ∨ dp < 0 ∨ n < 0 ∨ n0 < sp.toNatClampNeg + n.toNatClampNeg ∨ n1 < dp.toNatClampNeg + n.toNatClampNeg
  · rw [if_pos hc] at hf; cases hf
  · rw [if_neg hc] at hf
    exact ⟨⟨fun q => hc (Or.inl q), fun q => hc (Or.inr (Or.inl q)), fun q => hc (Or.inr (Or.inr (Or.inl q))), Nat.not_lt.mp fun q => hc (Or.inr (Or.inr (Or.inr (Or.inl q)))), Nat.not_lt.mp fun q => hc (Or.inr (Or.inr (Or.inr (Or.inr q))))⟩, hf⟩
theorem bind_s {o : Option α} {k : α → Option β} (hf : o.bind k = some r) : ∃ y, o = some y ∧ k y = some r := by
  cases o with
  | none => cases hf
  | some y => exact ⟨y, rfl, hf⟩
theorem if_t {c : Prop} {A B : Option β} {i : Decidable c} (hf : (@ite _ c i A B) = some r) (h : c) : A = some r := by rw [if_pos h] at hf; exact hf
theorem if_f {c : Prop} {A B : Option β} {i : Decidable c} (hf : (@ite _ c i A B) = some r) (h : ¬ c) : B = some r := by rw [if_neg h] at hf; exact hf
theorem oM_none {A : Option β} {B : Nat → Option β} (hf : oM none A B = some r) : A = some r := hf
theorem oM_some {t : Nat} {A : Option β} {B : Nat → Option β} (hf : oM (some t) A B = some r) : B t = some r := hf
theorem ret1 {v : β} (hf : some v = some r) : v = r := Option.some.inj hf
theorem ret2 {v r : β} {h h1 : HS} (hf : some (v, h) = some (r, h1)) : v = r ∧ h = h1 := by cases hf; exact ⟨rfl, rfl⟩
theorem ti_nz {x v : Int32} {z : Int} (hv : v.toInt = z) (h : ¬ x = v) : x.toInt ≠ z := fun q => h (Int32.toInt_inj.mp (by rw [q, hv]))
theorem sh_at {j : Int32} (h : vp_in j 8) : ([50, 52, 54, 56, 58, 60, 62, 64] : List Nat)[j.toNatClampNeg]? = some (50 + 2 * j.toNatClampNeg) := by
  have := lt8 h
  generalize j.toNatClampNeg = k at this
  match k, this with
  | 0, _ => rfl
  | 1, _ => rfl
  | 2, _ => rfl
  | 3, _ => rfl
  | 4, _ => rfl
  | 5, _ => rfl
  | 6, _ => rfl
  | 7, _ => rfl
  | k + 8, h => exact absurd h (by omega)
theorem kn_at {b : Nat} {j : Int32} (h : vp_in j 8) : ([b + 5, b + 6, b + 7, b + 8, b + 9, b + 10, b + 11, b + 12] : List Nat)[j.toNatClampNeg]? = some (b + 5 + j.toNatClampNeg) := by
  have := lt8 h
  generalize j.toNatClampNeg = k at this
  match k, this with
  | 0, _ => rfl
  | 1, _ => rfl
  | 2, _ => rfl
  | 3, _ => rfl
  | 4, _ => rfl
  | 5, _ => rfl
  | 6, _ => rfl
  | 7, _ => rfl
  | k + 8, h => exact absurd h (by omega)
end HFS
def gG (p : Program) (l : Launch) (e : Env) (R : Room) (s : State) (m : MethodId) (args : Array Value) (below : List Frame) (meth : Method) (c : Code) (Q : State → Prop) (D : va_G) (a : Nat → Nat) (C : Nat → ClassId) (nL : Nat) (h : HS) (pc : Nat) (lv : List (Nat × Value)) (st : List Value) : Prop :=
  ∀ (H : Heap) (locs : List Loc) (ls : Array Slot), va_P D vwCl (gw a C h) H → va_S (gA a) s.heap H locs → lv_has ls nL lv → W p l e R s m args below meth c H locs 0 0 Q (F0 m pc ls st)
section GENDS
variable {p : Program} {l : Launch} {e : Env} {R : Room} {s : State} {m : MethodId} {args : Array Value} {below : List Frame} {meth : Method} {c : Code} {H H0 : Heap} {locs : List Loc} {Q : State → Prop} {A0 : Nat → Prop}
variable {cc : ByteArray} {pc : Nat} {ls : Array Slot} {rest st0 : List Value} {D : va_G} {a : Nat → Nat} {C : Nat → ClassId} {h h1 : HS} {Ts : List Cond} {own : String}
theorem g_iretW {v r : Int32} (hx : p.tables.exec = Jvm.exec) (hb : c.code = cc) (hr : meth.sig.returnType = some .int) (hlk : meth.locks = false) (hP : va_P D vwCl (gw a C h) H) (hS : va_S (gA a) s.heap H locs) (e1 : v = r ∧ h = h1) (hdg : decode cc pc = .ok (.ireturn, 1)) : W p l e R s m args below meth c H locs 0 0 (MQ below (gQ (some (.int r)) D a C h1) args s 0 0 (gA a)) (F0 m pc ls [.int v]) := by
  obtain ⟨rfl, rfl⟩ := e1
  exact W.iret hx hb hr (fun t ht _ => ⟨rfl, by rw [ht]; exact hP, hS.F ht⟩) hS.2.2 hdg hlk
theorem g_iret {v r : Int32} (hx : p.tables.exec = Jvm.exec) (hb : c.code = cc) (hr : meth.sig.returnType = some .int) (hlk : meth.locks = false) (hP : va_P D vwCl (gw a C h) H) (hS : va_S (gA a) s.heap H locs) (e1 : v = r) (hdg : decode cc pc = .ok (.ireturn, 1)) : W p l e R s m args below meth c H locs 0 0 (MQ below (gQ (some (.int r)) D a C h) args s 0 0 (gA a)) (F0 m pc ls [.int v]) := g_iretW hx hb hr hlk hP hS ⟨e1, rfl⟩ hdg
theorem g_zretW {v r : Int32} (hx : p.tables.exec = Jvm.exec) (hb : c.code = cc) (hr : meth.sig.returnType = some .boolean) (hlk : meth.locks = false) (hz : v &&& 1 = v) (hP : va_P D vwCl (gw a C h) H) (hS : va_S (gA a) s.heap H locs) (e1 : v = r ∧ h = h1) (hdg : decode cc pc = .ok (.ireturn, 1)) : W p l e R s m args below meth c H locs 0 0 (MQ below (gQ (some (.int r)) D a C h1) args s 0 0 (gA a)) (F0 m pc ls [.int v]) := by
  obtain ⟨rfl, rfl⟩ := e1
  exact W.zret hx hb hr (show Value.int (v &&& 1) = .int v by rw [hz]) (fun t ht _ => ⟨rfl, by rw [ht]; exact hP, hS.F ht⟩) hS.2.2 hdg hlk
theorem g_zret {v r : Int32} (hx : p.tables.exec = Jvm.exec) (hb : c.code = cc) (hr : meth.sig.returnType = some .boolean) (hlk : meth.locks = false) (hz : v &&& 1 = v) (hP : va_P D vwCl (gw a C h) H) (hS : va_S (gA a) s.heap H locs) (e1 : v = r) (hdg : decode cc pc = .ok (.ireturn, 1)) : W p l e R s m args below meth c H locs 0 0 (MQ below (gQ (some (.int r)) D a C h) args s 0 0 (gA a)) (F0 m pc ls [.int v]) := g_zretW hx hb hr hlk hz hP hS ⟨e1, rfl⟩ hdg
theorem g_lretW {v r : Int64} (hx : p.tables.exec = Jvm.exec) (hb : c.code = cc) (hr : meth.sig.returnType = some .long) (hlk : meth.locks = false) (hP : va_P D vwCl (gw a C h) H) (hS : va_S (gA a) s.heap H locs) (e1 : v = r ∧ h = h1) (hdg : decode cc pc = .ok (.lreturn, 1)) : W p l e R s m args below meth c H locs 0 0 (MQ below (gQ (some (.long r)) D a C h1) args s 0 0 (gA a)) (F0 m pc ls [.long v]) := by
  obtain ⟨rfl, rfl⟩ := e1
  exact W.lret hx hb hr (fun t ht _ => ⟨rfl, by rw [ht]; exact hP, hS.F ht⟩) hS.2.2 hdg hlk
theorem g_lret {v r : Int64} (hx : p.tables.exec = Jvm.exec) (hb : c.code = cc) (hr : meth.sig.returnType = some .long) (hlk : meth.locks = false) (hP : va_P D vwCl (gw a C h) H) (hS : va_S (gA a) s.heap H locs) (e1 : v = r) (hdg : decode cc pc = .ok (.lreturn, 1)) : W p l e R s m args below meth c H locs 0 0 (MQ below (gQ (some (.long r)) D a C h) args s 0 0 (gA a)) (F0 m pc ls [.long v]) := g_lretW hx hb hr hlk hP hS ⟨e1, rfl⟩ hdg
theorem g_vret (hx : p.tables.exec = Jvm.exec) (hb : c.code = cc) (hr : meth.sig.returnType = none) (hlk : meth.locks = false) (hP : va_P D vwCl (gw a C h) H) (hS : va_S (gA a) s.heap H locs) (e1 : h = h1) (hdg : decode cc pc = .ok (.return_, 1)) : W p l e R s m args below meth c H locs 0 0 (MQ below (gQ none D a C h1) args s 0 0 (gA a)) (F0 m pc ls []) := by
  subst e1
  exact W.vret hx hb hr (fun t ht _ => ⟨rfl, by rw [ht]; exact hP, hS.F ht⟩) hS.2.2 hdg hlk
theorem g_aretS {x r : Option Nat} {n : String} (hx : p.tables.exec = Jvm.exec) (hb : c.code = cc) (hr : meth.sig.returnType = some (.object n)) (hlk : meth.locks = false) (hP : va_P D vwCl (gw a C h) H) (hS : va_S (gA a) s.heap H locs) (e1 : x = r) (hdg : decode cc pc = .ok (.areturn, 1)) : W p l e R s m args below meth c H locs 0 0 (MQ below (gQ (some (va_rf (r.map a))) D a C h) args s 0 0 (gA a)) (F0 m pc ls [va_rf (x.map a)]) := by
  subst e1
  exact W.aret hx hb hr (Or.inl ⟨n, rfl⟩) (by cases x <;> simp [va_rf]) (fun t ht _ => ⟨rfl, by rw [ht]; exact hP, hS.F ht⟩) hS.2.2 hdg hlk
theorem g_aretK {x r : Nat} {n : String} (hx : p.tables.exec = Jvm.exec) (hb : c.code = cc) (hr : meth.sig.returnType = some (.object n)) (hlk : meth.locks = false) (hP : va_P D vwCl (gw a C h) H) (hS : va_S (gA a) s.heap H locs) (e1 : x = r) (hdg : decode cc pc = .ok (.areturn, 1)) : W p l e R s m args below meth c H locs 0 0 (MQ below (gQ (some (.ref (a r))) D a C h) args s 0 0 (gA a)) (F0 m pc ls [.ref (a x)]) := by
  subst e1
  exact W.aret hx hb hr (Or.inl ⟨n, rfl⟩) (Or.inr ⟨_, rfl⟩) (fun t ht _ => ⟨rfl, by rw [ht]; exact hP, hS.F ht⟩) hS.2.2 hdg hlk
variable {cells slots : Nat}
theorem g_copyI {nL index i j n0 n1 : Nat} {sp dp n : Int32} (hx : p.tables.exec = Jvm.exec) (hb : c.code = cc) (hml : c.maxLocals = nL) (hsz : ls.size = nL) (hown : s.vm.findClass own = some m.cls) (hlink : (Cond.methodLink own index arraycopyName).before args s = true) (hnat : (Cond.native arraycopyName).before args s = true) (hstat : (Cond.static arraycopyName).before args s = true) (hini : (Cond.initialized "java/lang/System").before args s = true)
    (hK : va_K D vwCl (gty C) s) (ha : ginj a) (hA : ∀ q, gA a q → A0 q) (ho : gAI i n0) (ho1 : gAI j n1) (hP : va_P D vwCl (gw a C h) H) (hS : va_S A0 H0 H locs) (hroom : (rest.map fun v => v.category).sum ≤ 8) (hframes : 1 ≤ R.frames) (hlocals : 26 ≤ R.locals)
    (hc : ¬ sp < 0 ∧ ¬ dp < 0 ∧ ¬ n < 0 ∧ sp.toNatClampNeg + n.toNatClampNeg ≤ n0 ∧ dp.toNatClampNeg + n.toNatClampNeg ≤ n1) (hdg : decode cc pc = .ok (.invokestatic index, 3))
    (kk : ∀ (H1 : Heap) (locs1 : List Loc), va_P D vwCl (gw a C (sA h j (va_cpy (aI h i) (aI h j) sp.toNatClampNeg dp.toNatClampNeg n.toNatClampNeg))) H1 → va_S A0 H0 H1 locs1 → W p l e R s m args below meth c H1 locs1 cells slots Q (F0 m (pc + 3) ls rest)) : W p l e R s m args below meth c H locs cells slots Q (F0 m pc ls (.int n :: .int dp :: .ref (a j) :: .int sp :: .ref (a i) :: rest)) :=
  va_copyi hx hb (hml.trans hsz.symm) hown hlink hnat hstat hini hK hP ((gD ha C h).weaken (fun _ q _ z => hA q.1 z)) hS i j 0 0 (gw_I ho) (gw_I ho1) rfl rfl rfl hc.1 hc.2.1 hc.2.2.1 hc.2.2.2.1 hc.2.2.2.2 (fun _ _ => rfl) hframes
    (by have : nativeFrameWords "java/lang/System" "arraycopy" 5 = 7 := by decide
        rw [this]; omega) hdg (fun H1 locs1 hP1 _ hS1 => kk H1 locs1 (by rw [← gw_sA ho1]; exact hP1) hS1)
theorem g_copyL {nL index i j n0 n1 : Nat} {sp dp n : Int32} (hx : p.tables.exec = Jvm.exec) (hb : c.code = cc) (hml : c.maxLocals = nL) (hsz : ls.size = nL) (hown : s.vm.findClass own = some m.cls) (hlink : (Cond.methodLink own index arraycopyName).before args s = true) (hnat : (Cond.native arraycopyName).before args s = true) (hstat : (Cond.static arraycopyName).before args s = true) (hini : (Cond.initialized "java/lang/System").before args s = true)
    (hK : va_K D vwCl (gty C) s) (ha : ginj a) (hA : ∀ q, gA a q → A0 q) (ho : gAL i n0) (ho1 : gAL j n1) (hP : va_P D vwCl (gw a C h) H) (hS : va_S A0 H0 H locs) (hroom : (rest.map fun v => v.category).sum ≤ 8) (hframes : 1 ≤ R.frames) (hlocals : 26 ≤ R.locals)
    (hc : ¬ sp < 0 ∧ ¬ dp < 0 ∧ ¬ n < 0 ∧ sp.toNatClampNeg + n.toNatClampNeg ≤ n0 ∧ dp.toNatClampNeg + n.toNatClampNeg ≤ n1) (hdg : decode cc pc = .ok (.invokestatic index, 3))
    (kk : ∀ (H1 : Heap) (locs1 : List Loc), va_P D vwCl (gw a C (sL h j (va_cpy (aL h i) (aL h j) sp.toNatClampNeg dp.toNatClampNeg n.toNatClampNeg))) H1 → va_S A0 H0 H1 locs1 → W p l e R s m args below meth c H1 locs1 cells slots Q (F0 m (pc + 3) ls rest)) : W p l e R s m args below meth c H locs cells slots Q (F0 m pc ls (.int n :: .int dp :: .ref (a j) :: .int sp :: .ref (a i) :: rest)) :=
  va_copyl hx hb (hml.trans hsz.symm) hown hlink hnat hstat hini hK hP ((gD ha C h).weaken (fun _ q _ z => hA q.1 z)) hS i j 1 1 (gw_L ho) (gw_L ho1) rfl rfl rfl hc.1 hc.2.1 hc.2.2.1 hc.2.2.2.1 hc.2.2.2.2 (fun _ _ => rfl) hframes
    (by have : nativeFrameWords "java/lang/System" "arraycopy" 5 = 7 := by decide
        rw [this]; omega) hdg (fun H1 locs1 hP1 _ hS1 => kk H1 locs1 (by rw [← gw_sL ho1]; exact hP1) hS1)
end GENDS
