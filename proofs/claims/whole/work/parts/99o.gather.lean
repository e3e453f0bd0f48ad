/-! the worlds gathered: from the order of making to the layout -/
def gPi : List Nat := [0, 46, 47, 48, 49, 1, 2, 3, 4, 5, 6, 7, 8, 9, 10, 11, 12, 13, 14, 15, 16, 17, 18, 19, 20, 21, 22, 23, 24, 25, 26, 27, 28, 29, 30, 31, 32, 33, 34, 35, 36, 37, 38, 39, 40, 41, 42, 43, 44, 45, 50, 51, 52, 53, 54, 55, 56, 57, 58, 59, 60, 61, 62, 63, 64, 65, 66, 67, 68, 69, 70, 71, 72, 73, 74, 75, 76, 77, 78, 79, 80, 81, 82]
def pI (i : Nat) : Nat := gPi.getD i 0
theorem pI_inj : ∀ i, i < 83 → ∀ j, j < 83 → pI i = pI j → i = j := by decide +kernel
def gWl (ad : Nat → Nat) (C : Nat → ClassId) : va_W := [((ad 0), .inr (11, [.ref (ad 1), .ref (ad 16), .ref (ad 31), .int 0, .ref (ad 46), .ref (ad 47), .ref (ad 48), .ref (ad 49)])), ((ad 1), .inr (5, [.ref (ad 2), .ref (ad 5), .ref (ad 14), .ref (ad 15), .int 0, .int 0, .int 0])), ((ad 2), .inr (4, [.int 0, .ref (ad 3), .ref (ad 4)])), ((ad 3), eI C 9), ((ad 4), eI C 512), ((ad 5), eR C 0 8 (va_up (va_up (va_up (va_up (va_up (va_up (va_up (va_up (fun _ => none) 0 (some (ad 6))) 1 (some (ad 7))) 2 (some (ad 8))) 3 (some (ad 9))) 4 (some (ad 10))) 5 (some (ad 11))) 6 (some (ad 12))) 7 (some (ad 13)))), ((ad 6), .inr (6, [])), ((ad 7), .inr (8, [])), ((ad 8), .inr (2, [])), ((ad 9), .inr (3, [])), ((ad 10), .inr (10, [])), ((ad 11), .inr (9, [])), ((ad 12), .inr (0, [])), ((ad 13), .inr (1, [])), ((ad 14), eI C 9), ((ad 15), eI C 9), ((ad 16), .inr (5, [.ref (ad 17), .ref (ad 20), .ref (ad 29), .ref (ad 30), .int 0, .int 0, .int 0])), ((ad 17), .inr (4, [.int 0, .ref (ad 18), .ref (ad 19)])), ((ad 18), eI C 9), ((ad 19), eI C 512), ((ad 20), eR C 0 8 (va_up (va_up (va_up (va_up (va_up (va_up (va_up (va_up (fun _ => none) 0 (some (ad 21))) 1 (some (ad 22))) 2 (some (ad 23))) 3 (some (ad 24))) 4 (some (ad 25))) 5 (some (ad 26))) 6 (some (ad 27))) 7 (some (ad 28)))), ((ad 21), .inr (6, [])), ((ad 22), .inr (8, [])), ((ad 23), .inr (2, [])), ((ad 24), .inr (3, [])), ((ad 25), .inr (10, [])), ((ad 26), .inr (9, [])), ((ad 27), .inr (0, [])), ((ad 28), .inr (1, [])), ((ad 29), eI C 9), ((ad 30), eI C 9), ((ad 31), .inr (5, [.ref (ad 32), .ref (ad 35), .ref (ad 44), .ref (ad 45), .int 0, .int 0, .int 0])), ((ad 32), .inr (4, [.int 0, .ref (ad 33), .ref (ad 34)])), ((ad 33), eI C 9), ((ad 34), eI C 512), ((ad 35), eR C 0 8 (va_up (va_up (va_up (va_up (va_up (va_up (va_up (va_up (fun _ => none) 0 (some (ad 36))) 1 (some (ad 37))) 2 (some (ad 38))) 3 (some (ad 39))) 4 (some (ad 40))) 5 (some (ad 41))) 6 (some (ad 42))) 7 (some (ad 43)))), ((ad 36), .inr (6, [])), ((ad 37), .inr (8, [])), ((ad 38), .inr (2, [])), ((ad 39), .inr (3, [])), ((ad 40), .inr (10, [])), ((ad 41), .inr (9, [])), ((ad 42), .inr (0, [])), ((ad 43), .inr (1, [])), ((ad 44), eI C 9), ((ad 45), eI C 9), ((ad 46), eR C 1 8 (va_up (va_up (va_up (va_up (va_up (va_up (va_up (va_up (fun _ => none) 0 (some (ad 50))) 1 (some (ad 52))) 2 (some (ad 54))) 3 (some (ad 56))) 4 (some (ad 58))) 5 (some (ad 60))) 6 (some (ad 62))) 7 (some (ad 64)))), ((ad 47), eI C 9), ((ad 48), eL C 9), ((ad 49), eL C 9), ((ad 50), .inr (7, [.int 0, .int 0, .int 0, .int 0, .int 0, .ref (ad 51)])), ((ad 51), eI C 100), ((ad 52), .inr (7, [.int 0, .int 0, .int 0, .int 0, .int 0, .ref (ad 53)])), ((ad 53), eI C 100), ((ad 54), .inr (7, [.int 0, .int 0, .int 0, .int 0, .int 0, .ref (ad 55)])), ((ad 55), eI C 100), ((ad 56), .inr (7, [.int 0, .int 0, .int 0, .int 0, .int 0, .ref (ad 57)])), ((ad 57), eI C 100), ((ad 58), .inr (7, [.int 0, .int 0, .int 0, .int 0, .int 0, .ref (ad 59)])), ((ad 59), eI C 100), ((ad 60), .inr (7, [.int 0, .int 0, .int 0, .int 0, .int 0, .ref (ad 61)])), ((ad 61), eI C 100), ((ad 62), .inr (7, [.int 0, .int 0, .int 0, .int 0, .int 0, .ref (ad 63)])), ((ad 63), eI C 100), ((ad 64), .inr (7, [.int 0, .int 0, .int 0, .int 0, .int 0, .ref (ad 65)])), ((ad 65), eI C 100), ((ad 66), .inr (12, [.ref (ad 67), .ref (ad 68), .ref (ad 69), .ref (ad 70), .int 0, .int 0, .int 0, .int 0, .ref (ad 71), .ref (ad 72), .ref (ad 73), .ref (ad 74), .ref (ad 75), .int 0, .ref (ad 76), .ref (ad 77), .ref (ad 78), .ref (ad 79), .ref (ad 80), .ref (ad 81), .int 0])), ((ad 67), eI C 30), ((ad 68), eI C 30), ((ad 69), eI C 30), ((ad 70), eI C 30), ((ad 71), eI C 3), ((ad 72), eL C 9), ((ad 73), eL C 9), ((ad 74), eI C 512), ((ad 75), eI C 9), ((ad 76), eI C 8), ((ad 77), eI C 8), ((ad 78), eI C 8), ((ad 79), eI C 8), ((ad 80), eI C 8), ((ad 81), eI C 800), ((ad 82), eL C 1)]
def h00 : HS := ((fun _ _ => 0), (fun _ _ => 0), (fun _ _ => 0))
theorem chain8 (p0 p1 p2 p3 p4 p5 p6 p7 : Nat) : (va_up (va_up (va_up (va_up (va_up (va_up (va_up (va_up (fun _ => none) 0 (some p0)) 1 (some p1)) 2 (some p2)) 3 (some p3)) 4 (some p4)) 5 (some p5)) 6 (some p6)) 7 (some p7)) = fun j => ([p0, p1, p2, p3, p4, p5, p6, p7] : List Nat)[j]? := by
  funext j
  match j with
  | 0 => rfl
  | 1 => rfl
  | 2 => rfl
  | 3 => rfl
  | 4 => rfl
  | 5 => rfl
  | 6 => rfl
  | 7 => rfl
  | j + 8 => simp [va_up]
theorem map8 (a : Nat → Nat) (l : List Nat) : (fun j : Nat => (l[j]?).map a) = fun j : Nat => (l.map a)[j]? := by
  funext j
  rw [List.getElem?_map]
set_option maxHeartbeats 4000000 in
set_option maxRecDepth 100000 in
theorem g_key (ad : Nat → Nat) (C : Nat → ClassId) : ∀ i, i < 83 → (gWl ad C)[pI i]? = some (ad (pI i), gE (fun i => ad (pI i)) C h00 i) := by
  intro i hi
  match i, hi with
  | 0, _ => exact rfl
  | 1, _ =>
    refine congrArg (fun f => some (ad (pI 1), (.inl (C 3, 8, .inr (.inr (.inr (.inr f)))) : va_E))) ?_
    rw [chain8, map8]; rfl
  | 2, _ => exact rfl
  | 3, _ => exact rfl
  | 4, _ => exact rfl
  | 5, _ => exact rfl
  | 6, _ => exact rfl
  | 7, _ => exact rfl
  | 8, _ => exact rfl
  | 9, _ =>
    refine congrArg (fun f => some (ad (pI 9), (.inl (C 2, 8, .inr (.inr (.inr (.inr f)))) : va_E))) ?_
    rw [chain8, map8]; rfl
  | 10, _ => exact rfl
  | 11, _ => exact rfl
  | 12, _ => exact rfl
  | 13, _ => exact rfl
  | 14, _ => exact rfl
  | 15, _ => exact rfl
  | 16, _ => exact rfl
  | 17, _ => exact rfl
  | 18, _ => exact rfl
  | 19, _ => exact rfl
  | 20, _ => exact rfl
  | 21, _ => exact rfl
  | 22, _ => exact rfl
  | 23, _ => exact rfl
  | 24, _ =>
    refine congrArg (fun f => some (ad (pI 24), (.inl (C 2, 8, .inr (.inr (.inr (.inr f)))) : va_E))) ?_
    rw [chain8, map8]; rfl
  | 25, _ => exact rfl
  | 26, _ => exact rfl
  | 27, _ => exact rfl
  | 28, _ => exact rfl
  | 29, _ => exact rfl
  | 30, _ => exact rfl
  | 31, _ => exact rfl
  | 32, _ => exact rfl
  | 33, _ => exact rfl
  | 34, _ => exact rfl
  | 35, _ => exact rfl
  | 36, _ => exact rfl
  | 37, _ => exact rfl
  | 38, _ => exact rfl
  | 39, _ =>
    refine congrArg (fun f => some (ad (pI 39), (.inl (C 2, 8, .inr (.inr (.inr (.inr f)))) : va_E))) ?_
    rw [chain8, map8]; rfl
  | 40, _ => exact rfl
  | 41, _ => exact rfl
  | 42, _ => exact rfl
  | 43, _ => exact rfl
  | 44, _ => exact rfl
  | 45, _ => exact rfl
  | 46, _ => exact rfl
  | 47, _ => exact rfl
  | 48, _ => exact rfl
  | 49, _ => exact rfl
  | 50, _ => exact rfl
  | 51, _ => exact rfl
  | 52, _ => exact rfl
  | 53, _ => exact rfl
  | 54, _ => exact rfl
  | 55, _ => exact rfl
  | 56, _ => exact rfl
  | 57, _ => exact rfl
  | 58, _ => exact rfl
  | 59, _ => exact rfl
  | 60, _ => exact rfl
  | 61, _ => exact rfl
  | 62, _ => exact rfl
  | 63, _ => exact rfl
  | 64, _ => exact rfl
  | 65, _ => exact rfl
  | 66, _ => exact rfl
  | 67, _ => exact rfl
  | 68, _ => exact rfl
  | 69, _ => exact rfl
  | 70, _ => exact rfl
  | 71, _ => exact rfl
  | 72, _ => exact rfl
  | 73, _ => exact rfl
  | 74, _ => exact rfl
  | 75, _ => exact rfl
  | 76, _ => exact rfl
  | 77, _ => exact rfl
  | 78, _ => exact rfl
  | 79, _ => exact rfl
  | 80, _ => exact rfl
  | 81, _ => exact rfl
  | 82, _ => exact rfl
  | i + 83, hi => exact absurd hi (by omega)
theorem gather {ad : Nat → Nat} {C : Nat → ClassId} {D : va_G} {A : Nat → Prop} {H : Heap} (hP : va_P D vwCl (gWl ad C) H) (hD : va_D A (gWl ad C)) : ginj (fun i => ad (pI i)) ∧ va_P D vwCl (gw (fun i => ad (pI i)) C h00) H ∧ ∀ q, gA (fun i => ad (pI i)) q → A q := by
  refine ⟨fun i j hi hj e => pI_inj i hi j hj (hD.1 _ _ _ _ (g_key ad C i hi) (g_key ad C j hj) e), fun k q hq => ?_, fun q hq => ?_⟩
  · obtain ⟨hk, -⟩ := gw_inv hq
    rw [gw_at hk] at hq
    have e := Option.some.inj hq
    rw [← e]
    exact hP _ _ (g_key ad C k hk)
  · obtain ⟨i, hi, rfl⟩ := hq
    exact hD.2 _ _ (g_key ad C i hi)
theorem inv00 : Inv h00 := by
  refine ⟨⟨0, fun _ => 0, fun _ => 0, fun _ => 0, 0, 0, 0, ?_, by decide, ?_, ?_⟩, Or.inl ⟨rfl, rfl⟩, fun k hk => ⟨0, 0, 0, fun _ => 0, ⟨rfl, rfl, by decide⟩, fun q => absurd q (by decide), ⟨rfl, rfl, by decide⟩, ⟨rfl, rfl, by decide⟩, fun i _ => ⟨rfl, rfl⟩, fun _ i _ => ⟨show (-128 : Int) ≤ (0 : Int32).toInt by decide, show (0 : Int32).toInt ≤ 127 by decide⟩⟩, rfl⟩
  · refine ⟨⟨by decide, fun p => show 0 < 2 ^ 0 by decide, fun _ _ => rfl, fun p q => by simp, fun p => by simp⟩, fun _ => show 0 < 8 by decide, fun _ => show 0 < 10 by decide, by decide, by decide, fun q _ => by simp, by decide⟩
  · exact ⟨⟨rfl, fun _ _ => rfl⟩, fun _ _ => rfl, fun _ _ => rfl, rfl, rfl, rfl⟩
  · exact ⟨rfl, rfl, rfl, fun p _ => ⟨rfl, rfl, rfl⟩⟩
