/-! the model's days, copies, changes of a row -/
theorem itf_shift {σ : Type} {f g : Nat → σ → σ} (h : ∀ k s, f k s = g (k + 1) s) : ∀ m k s, itf f k m s = itf g (k + 1) m s := by
  intro m
  induction m with
  | zero => intro k s; rfl
  | succ m ih => intro k s; rw [itf, itf, h, ih]
theorem RowP_congr {f g : Nat → Int32} {n : Nat} {kn kd fg : Nat → Nat} {hd dy : Nat} (R : RowP f n kn kd fg hd dy) (e : ∀ k, k < 30 → g k = f k) : RowP g n kn kd fg hd dy :=
  ⟨(e 0 (by decide)).trans R.1, (e 1 (by decide)).trans R.2.1, (e 2 (by decide)).trans R.2.2.1, fun p hp => ⟨(e _ (by omega)).trans (R.2.2.2 p hp).1, (e _ (by omega)).trans (R.2.2.2 p hp).2.1, (e _ (by omega)).trans (R.2.2.2 p hp).2.2⟩⟩
section MROW2
variable {h : HS} {r n : Nat} {kn kd fg : Nat → Nat} {hd dm dy : Nat}
set_option maxHeartbeats 4000000 in
theorem m_day (w : WFp n kn kd fg hd dm dy) (R : RowP (aI h r) n kn kd fg hd dy) (hdy : dy < 900000) {sv : Int32} {sl : Nat → Bool} (hsl : ∀ q, q < 9 → X12_has sv (nI q) = some (nI (sl q).toNat)) :
    X12_day h r sv = some (sA h r (upd (upd (aI h r) 1 (nI (dy + 1))) 2 (nI (nh n kn kd fg (dy + 1) hd sl)))) := by
  have w1 := w.1.1
  have h512 : 2 ^ n ≤ 512 := show 2 ^ n ≤ 2 ^ 9 from Nat.pow_le_pow_right (by decide) w1
  have hhd := w.2.2.2.1
  unfold X12_day
  simp (disch := omega) only [L0, L1, L2, gdi_n, i_cl, R.2.1, nm, nI_add, aI_sA_eq, (RowP_dy R (dy + 1)).2.2.1]
  have e0 : sA h r (upd (aI h r) 1 (nI (dy + 1))) = sA h r (upd (upd (aI h r) 1 (nI (dy + 1))) 2 (nI hd)) := by rw [upd_self (k := 2) (RowP_dy R (dy + 1)).2.2.1]
  rw [e0]
  refine (loopF (fun fu k s => X12_day_B13 r sv fu (nI hd) (nI k) (sA h r (upd (upd (aI h r) 1 (nI (dy + 1))) 2 (nI s)))) (fun s => some (sA h r (upd (upd (aI h r) 1 (nI (dy + 1))) 2 (nI s)))) n (nstep n kn kd fg (dy + 1) hd sl) (fun _ s => s < 2 ^ n) (fun fu s _ => ?_) (fun fu k s hk hI => ?_) n FU 0 hd (by omega) (FU_lt (by omega)) hhd).1
  · show X12_day_B13 r sv (fu + 1) (nI hd) (nI n) (sA h r (upd (upd (aI h r) 1 (nI (dy + 1))) 2 (nI s))) = _
    have hR := RowP_hd (RowP_dy R (dy + 1)) s
    rw [X12_day_B13]
    simp (disch := omega) only [L0, gdi_n, i_cl, aI_sA_eq, hR.1, leT, ite_true]
  · show X12_day_B13 r sv (fu + 1) (nI hd) (nI k) (sA h r (upd (upd (aI h r) 1 (nI (dy + 1))) 2 (nI s))) = X12_day_B13 r sv fu (nI hd) (nI (k + 1)) (sA h r (upd (upd (aI h r) 1 (nI (dy + 1))) 2 (nI (nstep n kn kd fg (dy + 1) hd sl k s)))) ∧ nstep n kn kd fg (dy + 1) hd sl k s < 2 ^ n
    have hs : s < 2 ^ n := hI
    have hk9 : k < 9 := by omega
    have hR := RowP_hd (RowP_dy R (dy + 1)) s
    have hS : RowP (aI (sA h r (upd (upd (aI h r) 1 (nI (dy + 1))) 2 (nI s))) r) n kn kd fg s (dy + 1) := by rw [aI_sA_eq]; exact hR
    have wS : WFp n kn kd fg s dm (dy + 1) := ⟨w.1, w.2.1, w.2.2.1, hs, w.2.2.2.2.1, w.2.2.2.2.2.1, by omega⟩
    rw [X12_day_B13]
    simp (disch := omega) only [L0, gdi_n, i_cl, aI_sA_eq, hR.1, leF, ite_false, has_n, Option.bind_some, hsl k hk9]
    unfold nstep
    cases hc : hd.testBit k
    · simp only [Bool.toNat_false, ite_true, X12_day_B41, nm, L1, nI_add, Bool.false_and, Bool.false_eq_true, ite_false]
      exact ⟨trivial, hI⟩
    · cases hc2 : sl k
      · simp (disch := omega) only [Bool.toNat_true, Bool.toNat_false, eqF, ite_false, ite_true, Bool.true_and, Bool.not_false]
        rw [m_tells wS hS hk9]
        simp only [Option.bind_some, X12_day_B41, nm, L1, nI_add, aI_sA_eq, sA_sA, upd_upd]
        exact ⟨trivial, or_lt hs told_lt⟩
      · simp (disch := omega) only [Bool.toNat_true, eqF, ite_false, X12_day_B41, nm, L1, nI_add, Bool.true_and, Bool.not_true, Bool.false_eq_true]
        exact ⟨trivial, hI⟩
set_option maxHeartbeats 4000000 in
theorem m_daysOn (w : WFp n kn kd fg hd dm dy) (R : RowP (aI h r) n kn kd fg hd dy) (hdy : dy < 100000) {M : Nat} (hM : M < 990) :
    X12_daysOn h r (nI M) = some (sA h r (upd (upd (aI h r) 1 (nI (dy + M))) 2 (nI (ndays n kn kd fg dy (fun q => (0 : Nat).testBit q) 1 M hd)))) := by
  have hhd := w.2.2.2.1
  unfold X12_daysOn ndays
  rw [← itf_shift (f := fun i s => nh n kn kd fg (dy + (i + 1)) s (fun q => (0 : Nat).testBit q)) (fun _ _ => rfl)]
  have e0 : h = sA h r (upd (upd (aI h r) 1 (nI (dy + 0))) 2 (nI hd)) := by
    rw [sA_self]
    rw [upd_self (k := 1) (by rw [R.2.1]; rfl), upd_self R.2.2.1]
  rw [show X12_daysOn_B2 r (nI M) FU 0 h = X12_daysOn_B2 r (nI M) FU (nI 0) (sA h r (upd (upd (aI h r) 1 (nI (dy + 0))) 2 (nI hd))) from by rw [← e0]; rfl]
  refine (loopF (fun fu k s => X12_daysOn_B2 r (nI M) fu (nI k) (sA h r (upd (upd (aI h r) 1 (nI (dy + k))) 2 (nI s)))) (fun s => some (sA h r (upd (upd (aI h r) 1 (nI (dy + M))) 2 (nI s)))) M (fun i s => nh n kn kd fg (dy + (i + 1)) s (fun q => (0 : Nat).testBit q)) (fun _ s => s < 2 ^ n) (fun fu s _ => ?_) (fun fu k s hk hI => ⟨?_, nh_lt hI⟩) M FU 0 hd (by omega) (FU_lt (by omega)) hhd).1
  · show X12_daysOn_B2 r (nI M) (fu + 1) (nI M) _ = _
    rw [X12_daysOn_B2]
    simp (disch := omega) only [leT, ite_true]
  · show X12_daysOn_B2 r (nI M) (fu + 1) (nI k) (sA h r (upd (upd (aI h r) 1 (nI (dy + k))) 2 (nI s))) = X12_daysOn_B2 r (nI M) fu (nI (k + 1)) (sA h r (upd (upd (aI h r) 1 (nI (dy + (k + 1)))) 2 (nI (nh n kn kd fg (dy + (k + 1)) s (fun q => (0 : Nat).testBit q)))))
    have hs : s < 2 ^ n := hI
    have hR := RowP_hd (RowP_dy R (dy + k)) s
    have hS : RowP (aI (sA h r (upd (upd (aI h r) 1 (nI (dy + k))) 2 (nI s))) r) n kn kd fg s (dy + k) := by rw [aI_sA_eq]; exact hR
    have wS : WFp n kn kd fg s dm (dy + k) := ⟨w.1, w.2.1, w.2.2.1, hs, w.2.2.2.2.1, w.2.2.2.2.2.1, by omega⟩
    rw [X12_daysOn_B2]
    simp (disch := omega) only [leF, ite_false]
    rw [L0, m_day wS hS (by omega) (sl := fun q => (0 : Nat).testBit q) (fun q hq => has_n (by omega) (by omega))]
    simp only [Option.bind_some, nm, L1, nI_add, aI_sA_eq, sA_sA]
    rw [upd_comm (show (2 : Nat) ≠ 1 from by decide), upd_upd, upd_upd]
    rfl
set_option maxHeartbeats 4000000 in
theorem m_copies {a b : Nat} (hab : a ≠ b) : ∃ f, X12_copies h a b = some (sA h b f) ∧ ∀ k, k < 30 → f k = aI h a k := by
  unfold X12_copies
  have e0 : h = sA h b (aI h b) := (sA_self rfl).symm
  have key := loopF (fun fu k (f : Nat → Int32) => X12_copies_B2 a b fu (nI k) (sA h b f)) (fun f => some (sA h b f)) 30 (fun k f => upd f k (aI h a k)) (fun k f => ∀ j, j < k → f j = aI h a j)
    (fun fu s _ => by
      show X12_copies_B2 a b (fu + 1) (nI 30) (sA h b s) = _
      rw [X12_copies_B2]
      simp (disch := omega) only [L30, leT, ite_true])
    (fun fu k s hk hI => ⟨by
      show X12_copies_B2 a b (fu + 1) (nI k) (sA h b s) = X12_copies_B2 a b fu (nI (k + 1)) (sA h b (upd s k (aI h a k)))
      rw [X12_copies_B2]
      simp (disch := omega) only [L30, leF, ite_false, gdi_n, i_cl, nm, aI_sA_eq, sA_sA, aI_sA_ne hab, L1, nI_add], fun j hj => by
      by_cases h1 : j = k
      · subst h1; exact pk_us
      · rw [pk_un h1]; exact hI j (by omega)⟩) 30 FU 0 (aI h b) (by omega) (FU_lt (by omega)) (fun j hj => absurd hj (by omega))
  refine ⟨_, ?_, key.2⟩
  rw [show X12_copies_B2 a b FU 0 h = X12_copies_B2 a b FU (nI 0) (sA h b (aI h b)) from by rw [← e0]; rfl]
  exact key.1
end MROW2
