/-! shelves: keep, row, put, copy -/
theorem ParL.fr {h h1 : HS} {b n : Nat} {kn kd fg : Nat → Nat} {hd dm dy : Nat} (P : ParL h b n kn kd fg hd dm dy) (f0 : ∀ j, fI h1 b j = fI h b j) (f1 : fI h1 (b + 1) 0 = fI h (b + 1) 0) (a2 : aI h1 (b + 2) = aI h (b + 2)) (a13 : aI h1 (b + 13) = aI h (b + 13)) (a14 : aI h1 (b + 14) = aI h (b + 14)) : ParL h1 b n kn kd fg hd dm dy := by
  refine ⟨⟨f1.trans P.1.1, fun p hp => ?_⟩, fun p hp => ?_, fun p hp => ?_, (f0 4).trans P.2.2.2.1, (f0 5).trans P.2.2.2.2.1, (f0 6).trans P.2.2.2.2.2⟩
  · have e := P.1.2 p hp
    rw [show b + 1 + 1 = b + 2 from rfl] at e ⊢
    rw [a2]; exact e
  · rw [a13]; exact P.2.1 p hp
  · rw [a14]; exact P.2.2.1 p hp
/-- only the shelf k is changed -/
def FrS (k : Nat) (h h1 : HS) : Prop := (∀ o j, o ≠ 50 + 2 * k → fI h1 o j = fI h o j) ∧ (∀ o, o ≠ 50 + 2 * k + 1 → (o < 76 ∨ 81 < o) → aI h1 o = aI h o) ∧ (∀ o j, 76 ≤ o → o ≤ 80 → j ≠ k → aI h1 o j = aI h o j) ∧ (∀ i, (i < 100 * k ∨ 100 * k + 100 ≤ i) → aI h1 81 i = aI h 81 i)
theorem FrS.refl {k : Nat} {h : HS} : FrS k h h := ⟨fun _ _ _ => rfl, fun _ _ _ => rfl, fun _ _ _ _ _ => rfl, fun _ _ => rfl⟩
theorem FrS.f {k : Nat} {h h1 : HS} (x : FrS k h h1) {j : Nat} {v : Int32} : FrS k h (sF h1 (50 + 2 * k) j v) :=
  ⟨fun o i ho => (fI_sF_ne (by omega)).trans (x.1 o i ho), x.2.1, x.2.2.1, x.2.2.2⟩
theorem FrS.el {k : Nat} {h h1 : HS} (x : FrS k h h1) (hk : k < 8) {f : Nat → Int32} : FrS k h (sA h1 (50 + 2 * k + 1) f) :=
  ⟨x.1, fun o ho h2 => (aI_sA_ne ho).trans (x.2.1 o ho h2), fun o j h1 h2 h3 => by rw [aI_sA_ne (by omega)]; exact x.2.2.1 o j h1 h2 h3, fun i hi => by rw [aI_sA_ne (by omega)]; exact x.2.2.2 i hi⟩
theorem FrS.m {k : Nat} {h h1 : HS} (x : FrS k h h1) {o : Nat} {v : Int32} (a1 : 76 ≤ o) (a2 : o ≤ 80) : FrS k h (sA h1 o (upd (aI h1 o) k v)) := by
  refine ⟨x.1, fun o1 ho h2 => (aI_sA_ne (by omega)).trans (x.2.1 o1 ho h2), fun o1 j g1 g2 g3 => ?_, fun i hi => ?_⟩
  · by_cases e : o1 = o
    · subst e; rw [aI_sA_eq, pk_un g3]; exact x.2.2.1 o1 j g1 g2 g3
    · rw [aI_sA_ne e]; exact x.2.2.1 o1 j g1 g2 g3
  · rw [aI_sA_ne (by omega)]; exact x.2.2.2 i hi
theorem FrS.e {k : Nat} {h h1 : HS} (x : FrS k h h1) (hk : k < 8) {f : Nat → Int32} (hf : ∀ i, (i < 100 * k ∨ 100 * k + 100 ≤ i) → f i = aI h1 81 i) : FrS k h (sA h1 81 f) := by
  refine ⟨x.1, fun o1 ho h2 => (aI_sA_ne (by omega)).trans (x.2.1 o1 ho h2), fun o1 j g1 g2 g3 => ?_, fun i hi => ?_⟩
  · rw [aI_sA_ne (by omega)]; exact x.2.2.1 o1 j g1 g2 g3
  · rw [aI_sA_eq]; exact (hf i hi).trans (x.2.2.2 i hi)
theorem Inv.s {h h1 : HS} {k : Nat} (I : Inv h) (hk : k < 8) (x : FrS k h h1) (J : ∃ ho so le el, ShP h1 k ho so le el) : Inv h1 := by
  obtain ⟨⟨n, kn, kd, fg, hd, dm, dy, w, d, P, R⟩, b, c, e⟩ := I
  have pr : ∀ {o : Nat}, o < 50 → ∀ j, fI h1 o j = fI h o j := fun ho j => x.1 _ j (by omega)
  have ar : ∀ {o : Nat}, o < 50 → aI h1 o = aI h o := fun ho => x.2.1 _ (by omega) (by omega)
  have mr : ∀ {o : Nat}, 66 ≤ o → o < 76 → aI h1 o = aI h o := fun h1 h2 => x.2.1 _ (by omega) (by omega)
  have key : ∀ {c n : Nat} {kn kd fg : Nat → Nat} {hd dm dy : Nat}, c < 36 → ParL h c n kn kd fg hd dm dy → ParL h1 c n kn kd fg hd dm dy := fun hc P => P.fr (fun j => pr (by omega) j) (pr (by omega) 0) (ar (by omega)) (ar (by omega)) (ar (by omega))
  refine ⟨⟨n, kn, kd, fg, hd, dm, dy, w, d, key (by decide) P, by rw [mr (by decide) (by decide)]; exact R⟩, ?_, fun i hi => ?_, by rw [ar (by decide)]; exact e⟩
  · rcases b with ⟨a, b⟩ | ⟨a, b, n, kn, kd, fg, hd, dm, dy, w, d, P, R⟩
    · exact Or.inl ⟨(pr (by decide) 3).trans a, (x.1 66 4 (by omega)).trans b⟩
    · exact Or.inr ⟨(pr (by decide) 3).trans a, (x.1 66 4 (by omega)).trans b, n, kn, kd, fg, hd, dm, dy, w, d, key (by decide) P, by rw [mr (by decide) (by decide)]; exact R⟩
  · by_cases e : i = k
    · subst e; exact J
    · obtain ⟨ho, so, le, el, S⟩ := c i hi
      refine ⟨ho, so, le, el, S.congr (fun j _ => x.1 _ j (by omega)) (x.2.1 _ (by omega) (by omega)) (fun o g1 g2 => x.2.2.1 o i g1 g2 e) (fun j hj => x.2.2.2 _ (by omega))⟩
theorem rrf_ne {ho : Nat} (h1 : ho ≤ 2) (h2 : ho ≠ 2) : ¬ rrf ho = 0 := by
  rcases (show ho = 0 ∨ ho = 1 by omega) with q | q <;> rw [q] <;> decide
section SHC
variable {h : HS}
theorem S_keep (I : Inv h) (u v a b : Int32) : ∃ r h1 h2, X11_keep h u v a b = some (r, h1) ∧ X12_keep h1 u v a b = some (r, h2) ∧ Inv h2 := by
  rcases arg_in u 8 with ⟨k, h1, h2, rfl⟩ | hu
  · obtain ⟨ho, so, le, el, S⟩ := I.2.2.1 k h1
    obtain ⟨s1, s2, s3, s4, s5, s6⟩ := id S
    have e0 : ∀ x, X11_keep h (nI k) x a b = (if x < 0 then some ((-1), h) else (if x ≤ 1 then (if x = 0 then (X7_holdNothing h (50 + 2 * k)).bind fun q11 => some (0, q11) else (X11_isKind a).bind fun q6 => (if q6 = 0 then some ((-1), h) else (X11_isFigure b).bind fun q8 => (if q8 = 0 then some ((-1), h) else (X7_holdOne h (50 + 2 * k) a b).bind fun q10 => some (0, q10)))) else some ((-1), h))) := by
      intro x
      unfold X11_keep
      rw [c_shelf_in h1]; rfl
    rw [e0]
    rcases arg_in v 2 with ⟨w, h3, h4, rfl⟩ | hv
    · have ei : X12_isIn (nI w) 0 1 = some (nI 1) := isIn_in h3 (by decide)
      match w, h3 with
      | 0, _ =>
        refine ⟨0, sF h (50 + 2 * k) 0 0, sA (sA (sA (sF h (50 + 2 * k) 0 0) 76 (upd (aI (sF h (50 + 2 * k) 0 0) 76) k 0)) 77 (upd (aI (sA (sF h (50 + 2 * k) 0 0) 76 (upd (aI (sF h (50 + 2 * k) 0 0) 76) k 0)) 77) k a)) 78 (upd (aI (sA (sA (sF h (50 + 2 * k) 0 0) 76 (upd (aI (sF h (50 + 2 * k) 0 0) 76) k 0)) 77 (upd (aI (sA (sF h (50 + 2 * k) 0 0) 76 (upd (aI (sF h (50 + 2 * k) 0 0) 76) k 0)) 77) k a)) 78) k b), rfl, ?_, ?_⟩
        · unfold X12_keep
          rw [m_shelf_in h1, Option.bind_some, if_neg (show ¬ nI 1 = 0 by decide), ei, Option.bind_some, if_neg (show ¬ nI 1 = 0 by decide), if_neg (show ¬ nI 0 = 1 by decide)]
          unfold X12_keep_B44
          simp (disch := omega) only [gdi_n, i_cl, nm]
          rfl
        · refine I.s h1 (((FrS.refl.f.m (by decide) (by decide)).m (by decide) (by decide)).m (by decide) (by decide)) ⟨0, so, le, el, ⟨?_, ?_, by decide⟩, fun q => absurd q (by decide), ⟨?_, ?_, s3.2.2⟩, ⟨?_, ?_, s4.2.2⟩, fun i hi => ⟨?_, ?_⟩, s6⟩
          · simp (disch := omega) only [fI_sA, fI_sF_eq]; rfl
          · simp (disch := omega) only [aI_sA_ne, aI_sA_eq, pk_us]; rfl
          · simp (disch := omega) only [fI_sA, fI_sF_ne]; exact s3.1
          · simp (disch := omega) only [aI_sA_ne, aI_sF]; exact s3.2.1
          · simp (disch := omega) only [fI_sA, fI_sF_ne]; exact s4.1
          · simp (disch := omega) only [aI_sA_ne, aI_sF]; exact s4.2.1
          · simp (disch := omega) only [aI_sA_ne, aI_sF]; exact (s5 i hi).1
          · simp (disch := omega) only [aI_sA_ne, aI_sF]; exact (s5 i hi).2
      | 1, _ =>
        have e1 : ∀ x : Option (Int32 × HS), (if nI 1 < 0 then some ((-1), h) else (if nI 1 ≤ 1 then (if nI 1 = 0 then (X7_holdNothing h (50 + 2 * k)).bind fun q11 => some (0, q11) else x) else some ((-1), h))) = x := fun x => by
          rw [if_neg (by decide), if_pos (by decide), if_neg (by decide)]
        rw [e1]
        have e2 : ∀ t, X12_keep t (nI k) (nI 1) a b = ((X12_isIn a 0 7).bind fun q6 => (if q6 = 0 then some ((-1), t) else (X12_isIn b 0 9).bind fun q8 => (if q8 = 0 then some ((-1), t) else X12_keep_B44 (nI k) (nI 1) a b t))) := by
          intro t
          unfold X12_keep
          rw [m_shelf_in h1, Option.bind_some, if_neg (show ¬ nI 1 = 0 by decide), ei, Option.bind_some, if_neg (show ¬ nI 1 = 0 by decide), if_pos (show nI 1 = 1 by decide)]
        rcases arg_in a 8 with ⟨ki, g1, _, rfl⟩ | ha
        · rcases arg_in b 10 with ⟨fi, g2, _, rfl⟩ | hb
          · have E : HS := sF (sF (sF h (50 + 2 * k) 0 1) (50 + 2 * k) 1 (nI ki)) (50 + 2 * k) 2 (nI fi)
            refine ⟨0, sF (sF (sF h (50 + 2 * k) 0 1) (50 + 2 * k) 1 (nI ki)) (50 + 2 * k) 2 (nI fi), ?_, ?_, ?_, ?_⟩
            rotate_left 2
            · rw [e2, show X12_isIn (nI ki) 0 7 = some (nI 1) from isIn_in g1 (by decide), Option.bind_some, if_neg (show ¬ nI 1 = 0 by decide), show X12_isIn (nI fi) 0 9 = some (nI 1) from isIn_in g2 (by decide), Option.bind_some, if_neg (show ¬ nI 1 = 0 by decide)]
              unfold X12_keep_B44
              simp (disch := omega) only [gdi_n, i_cl, nm]
              rfl
            · refine I.s h1 (((FrS.refl.f.f.f.m (by decide) (by decide)).m (by decide) (by decide)).m (by decide) (by decide)) ⟨1, so, le, el, ⟨?_, ?_, by decide⟩, fun q => ⟨ki, fi, g1, g2, ?_, ?_, ?_, ?_⟩, ⟨?_, ?_, s3.2.2⟩, ⟨?_, ?_, s4.2.2⟩, fun i hi => ⟨?_, ?_⟩, s6⟩
              · simp (disch := omega) only [fI_sA, fI_sF_eq, fI_sF_ne]; rfl
              · simp (disch := omega) only [aI_sA_ne, aI_sA_eq, pk_us]
              · simp (disch := omega) only [fI_sA, fI_sF_eq, fI_sF_ne]
              · simp (disch := omega) only [fI_sA, fI_sF_eq, fI_sF_ne]
              · simp (disch := omega) only [aI_sA_ne, aI_sA_eq, pk_us]
              · simp (disch := omega) only [aI_sA_ne, aI_sA_eq, pk_us]
              · simp (disch := omega) only [fI_sA, fI_sF_ne]; exact s3.1
              · simp (disch := omega) only [aI_sA_ne, aI_sF]; exact s3.2.1
              · simp (disch := omega) only [fI_sA, fI_sF_ne]; exact s4.1
              · simp (disch := omega) only [aI_sA_ne, aI_sF]; exact s4.2.1
              · simp (disch := omega) only [aI_sA_ne, aI_sF]; exact (s5 i hi).1
              · simp (disch := omega) only [aI_sA_ne, aI_sF]; exact (s5 i hi).2
            · rw [c_kind g1, Option.bind_some, if_neg (show ¬ nI 1 = 0 by decide), c_fig g2, Option.bind_some, if_neg (show ¬ nI 1 = 0 by decide)]
              rfl
          · refine ⟨-1, h, h, ?_, ?_, I⟩
            · rw [c_kind g1, Option.bind_some, if_neg (show ¬ nI 1 = 0 by decide), c_fig_out hb]; rfl
            · rw [e2, show X12_isIn (nI ki) 0 7 = some (nI 1) from isIn_in g1 (by decide), Option.bind_some, if_neg (show ¬ nI 1 = 0 by decide), show X12_isIn b 0 9 = some (nI 0) from isIn_out hb (by decide)]; rfl
        · refine ⟨-1, h, h, ?_, ?_, I⟩
          · rw [c_kind_out ha]; rfl
          · rw [e2, show X12_isIn a 0 7 = some (nI 0) from isIn_out ha (by decide)]; rfl
      | w + 2, h => exact absurd h (by omega)
    · refine ⟨-1, h, h, ?_, ?_, I⟩
      · rcases hv with hv | ⟨j, g1, g2, rfl⟩
        · rw [if_pos hv]
        · simp (disch := omega) only [L0, L1, ltF, leF, ite_false]
      · unfold X12_keep
        rw [m_shelf_in h1, Option.bind_some, if_neg (show ¬ nI 1 = 0 by decide), show X12_isIn v 0 1 = some (nI 0) from isIn_out hv (by decide)]; rfl
  · refine ⟨-1, h, h, ?_, ?_, I⟩
    · unfold X11_keep
      rw [c_shelf_out hu]; rfl
    · unfold X12_keep
      rw [m_shelf_out hu]; rfl
theorem fill_v (o : Nat) (v : Int32) {n0 : Nat} (hn : n0 < 900) : ∃ f, J7_fill_53178 h o n0 v = some (sA h o f) ∧ ∀ j, j < n0 → f j = v := by
  obtain ⟨f1, e, I⟩ := loopR (fun fu k (f : Nat → Int32) => J7_fill_53178_B5 o n0 v fu (nI k) (nI n0) (sA h o f)) (fun f => some (sA h o f)) n0 (fun _ (s : Nat) => s) (fun k _ f => ∀ j, j < k → f j = v)
    (fun fu s f _ => by
      show J7_fill_53178_B5 o n0 v (fu + 1) (nI n0) (nI n0) (sA h o f) = _
      rw [J7_fill_53178_B5]
      simp (disch := omega) only [leT, ite_true])
    (fun fu k s f hk I => ⟨upd f k v, by
      show J7_fill_53178_B5 o n0 v (fu + 1) (nI k) (nI n0) (sA h o f) = _
      rw [J7_fill_53178_B5]
      simp (disch := omega) only [leF, ite_false, gdi_n, i_cl, nm, aI_sA_eq, sA_sA, L1, nI_add], fun j hj => by
      by_cases q : j = k
      · subst q; exact pk_us
      · rw [pk_un q]; exact I j (by omega)⟩)
    n0 FU 0 0 (aI h o) (by omega) (FU_lt (by omega)) (fun j hj => absurd hj (by omega))
  refine ⟨f1, ?_, I⟩
  unfold J7_fill_53178
  have e0 : h = sA h o (aI h o) := (sA_self rfl).symm
  show J7_fill_53178_B5 o n0 v FU (nI 0) (nI n0) h = _
  rw [show J7_fill_53178_B5 o n0 v FU (nI 0) (nI n0) h = J7_fill_53178_B5 o n0 v FU (nI 0) (nI n0) (sA h o (aI h o)) from by rw [← e0]]
  exact e
theorem m_row_loop {k : Nat} (hk : k < 8) (u v : Int32) : ∃ f, X12_row_B55 (nI k) u v FU 0 h = some (0, sA h 81 f) ∧ (∀ j, j < 100 → f (100 * k + j) = 0) ∧ ∀ i, (i < 100 * k ∨ 100 * k + 100 ≤ i) → f i = aI h 81 i := by
  obtain ⟨f1, e, I1, I2⟩ := loopR (fun fu j (f : Nat → Int32) => X12_row_B55 (nI k) u v fu (nI j) (sA h 81 f)) (fun f => some (0, sA h 81 f)) 100 (fun _ (s : Nat) => s) (fun m _ f => (∀ j, j < m → f (100 * k + j) = 0) ∧ ∀ i, (i < 100 * k ∨ 100 * k + 100 ≤ i) → f i = aI h 81 i)
    (fun fu s f _ => by
      show X12_row_B55 (nI k) u v (fu + 1) (nI 100) (sA h 81 f) = _
      rw [X12_row_B55]
      simp (disch := omega) only [L100, leT, ite_true])
    (fun fu m s f hm I => ⟨upd f (100 * k + m) 0, by
      show X12_row_B55 (nI k) u v (fu + 1) (nI m) (sA h 81 f) = _
      rw [X12_row_B55]
      simp (disch := omega) only [L100, leF, ite_false, pk_mul, nI_add, gdi_n, i_cl, nm, aI_sA_eq, sA_sA, L1], fun j hj => by
      by_cases q : j = m
      · subst q; exact pk_us
      · rw [pk_un (by omega)]; exact I.1 j (by omega), fun i hi => by rw [pk_un (by omega)]; exact I.2 i hi⟩)
    100 FU 0 0 (aI h 81) (by omega) (FU_lt (by omega)) ⟨fun j hj => absurd hj (by omega), fun _ _ => rfl⟩
  refine ⟨f1, ?_, I1, I2⟩
  have e0 : h = sA h 81 (aI h 81) := (sA_self rfl).symm
  show X12_row_B55 (nI k) u v FU (nI 0) h = _
  rw [show X12_row_B55 (nI k) u v FU (nI 0) h = X12_row_B55 (nI k) u v FU (nI 0) (sA h 81 (aI h 81)) from by rw [← e0]]
  exact e
theorem S_row (I : Inv h) (u v a : Int32) : ∃ r h1 h2, X11_row h u v a = some (r, h1) ∧ X12_row h1 u v a = some (r, h2) ∧ Inv h2 := by
  rcases arg_in u 8 with ⟨k, h1, h2, rfl⟩ | hu
  · obtain ⟨ho, so, le, el, S⟩ := I.2.2.1 k h1
    obtain ⟨s1, s2, s3, s4, s5, s6⟩ := id S
    have e0 : X11_row h (nI k) v a = (if v < 0 then some ((-1), h) else (if 3 ≤ v then some ((-1), h) else (if a ≤ 100 then (if 0 ≤ a then (X7_holdRow h (50 + 2 * k) v a).bind fun q7 => some (0, q7) else some ((-14), h)) else some ((-1), h)))) := by
      unfold X11_row
      rw [c_shelf_in h1]; rfl
    rw [e0]
    rcases arg_in v 3 with ⟨w, h3, h4, rfl⟩ | hv
    · have ei : X12_isIn (nI w) 0 2 = some (nI 1) := isIn_in h3 (by decide)
      have e1 : ∀ x : Option (Int32 × HS), (if nI w < 0 then some ((-1), h) else (if 3 ≤ nI w then some ((-1), h) else x)) = x := fun x => by
        simp (disch := omega) only [L0, L3, ltF, leF, ite_false]
      rw [e1]
      have e2 : ∀ t, X12_row t (nI k) (nI w) a = (if a ≤ 100 then (if 0 ≤ a then X12_row_B55 (nI k) (nI w) a FU 0 (sA (sA (sA t 76 (upd (aI t 76) k 2)) 79 (upd (aI (sA t 76 (upd (aI t 76) k 2)) 79) k (nI w))) 80 (upd (aI (sA (sA t 76 (upd (aI t 76) k 2)) 79 (upd (aI (sA t 76 (upd (aI t 76) k 2)) 79) k (nI w))) 80) k a)) else some ((-14), t)) else some ((-1), t)) := by
        intro t
        unfold X12_row
        rw [m_shelf_in h1, Option.bind_some, if_neg (show ¬ nI 1 = 0 by decide), ei, Option.bind_some, if_neg (show ¬ nI 1 = 0 by decide)]
        simp (disch := omega) only [gdi_n, i_cl, nm]
      by_cases q1 : a ≤ 100
      · by_cases q2 : 0 ≤ a
        · obtain ⟨m, hm, rfl⟩ : ∃ m, m ≤ 100 ∧ a = nI m := nI_of2 (M := 100) (n := 100) (by decide) (Int32.not_lt.mpr q2) q1
          obtain ⟨f, e3, hf⟩ := fill_v (h := sF (sF (sF h (50 + 2 * k) 0 2) (50 + 2 * k) 3 (nI w)) (50 + 2 * k) 4 (nI m)) (50 + 2 * k + 1) 0 (n0 := 100) (by decide)
          have e4 : X7_holdRow h (50 + 2 * k) (nI w) (nI m) = some (sA (sF (sF (sF h (50 + 2 * k) 0 2) (50 + 2 * k) 3 (nI w)) (50 + 2 * k) 4 (nI m)) (50 + 2 * k + 1) f) := by
            unfold X7_holdRow
            simp only [nm, e3, Option.bind_some]
          rw [if_pos q1, if_pos q2, e4]
          obtain ⟨g, e5, hg1, hg2⟩ := m_row_loop (h := sA (sA (sA (sA (sF (sF (sF h (50 + 2 * k) 0 2) (50 + 2 * k) 3 (nI w)) (50 + 2 * k) 4 (nI m)) (50 + 2 * k + 1) f) 76 (upd (aI (sA (sF (sF (sF h (50 + 2 * k) 0 2) (50 + 2 * k) 3 (nI w)) (50 + 2 * k) 4 (nI m)) (50 + 2 * k + 1) f) 76) k 2)) 79 (upd (aI (sA (sA (sF (sF (sF h (50 + 2 * k) 0 2) (50 + 2 * k) 3 (nI w)) (50 + 2 * k) 4 (nI m)) (50 + 2 * k + 1) f) 76 (upd (aI (sA (sF (sF (sF h (50 + 2 * k) 0 2) (50 + 2 * k) 3 (nI w)) (50 + 2 * k) 4 (nI m)) (50 + 2 * k + 1) f) 76) k 2)) 79) k (nI w))) 80 (upd (aI (sA (sA (sA (sF (sF (sF h (50 + 2 * k) 0 2) (50 + 2 * k) 3 (nI w)) (50 + 2 * k) 4 (nI m)) (50 + 2 * k + 1) f) 76 (upd (aI (sA (sF (sF (sF h (50 + 2 * k) 0 2) (50 + 2 * k) 3 (nI w)) (50 + 2 * k) 4 (nI m)) (50 + 2 * k + 1) f) 76) k 2)) 79 (upd (aI (sA (sA (sF (sF (sF h (50 + 2 * k) 0 2) (50 + 2 * k) 3 (nI w)) (50 + 2 * k) 4 (nI m)) (50 + 2 * k + 1) f) 76 (upd (aI (sA (sF (sF (sF h (50 + 2 * k) 0 2) (50 + 2 * k) 3 (nI w)) (50 + 2 * k) 4 (nI m)) (50 + 2 * k + 1) f) 76) k 2)) 79) k (nI w))) 80) k (nI m))) h1 (nI w) (nI m)
          refine ⟨0, _, _, rfl, by rw [e2, if_pos q1, if_pos q2]; exact e5, ?_⟩
          refine I.s h1 (((((FrS.refl.f.f.f.el h1).m (by decide) (by decide)).m (by decide) (by decide)).m (by decide) (by decide)).e h1 hg2) ⟨2, w, m, fun _ => 0, ⟨?_, ?_, by decide⟩, fun q => absurd q (by decide), ⟨?_, ?_, h3⟩, ⟨?_, ?_, hm⟩, fun i hi => ⟨?_, ?_⟩, fun _ i _ => ⟨(by decide : (-128 : Int) ≤ (0 : Int32).toInt), (by decide : (0 : Int32).toInt ≤ 127)⟩⟩
          · simp (disch := omega) only [fI_sA, fI_sF_eq, fI_sF_ne]; rfl
          · simp (disch := omega) only [aI_sA_ne, aI_sA_eq, pk_us]; rfl
          · simp (disch := omega) only [fI_sA, fI_sF_eq, fI_sF_ne]
          · simp (disch := omega) only [aI_sA_ne, aI_sA_eq, pk_us]
          · simp (disch := omega) only [fI_sA, fI_sF_eq, fI_sF_ne]
          · simp (disch := omega) only [aI_sA_ne, aI_sA_eq, pk_us]
          · simp (disch := omega) only [aI_sA_ne, aI_sA_eq]; exact hf i hi
          · simp (disch := omega) only [aI_sA_eq]; exact hg1 i hi
        · exact ⟨-14, h, h, by rw [if_pos q1, if_neg q2], by rw [e2, if_pos q1, if_neg q2], I⟩
      · exact ⟨-1, h, h, by rw [if_neg q1], by rw [e2, if_neg q1], I⟩
    · refine ⟨-1, h, h, ?_, ?_, I⟩
      · rcases hv with hv | ⟨j, g1, g2, rfl⟩
        · rw [if_pos hv]
        · simp (disch := omega) only [L0, L3, ltF, leT, ite_false, ite_true]
      · unfold X12_row
        rw [m_shelf_in h1, Option.bind_some, if_neg (show ¬ nI 1 = 0 by decide), show X12_isIn v 0 2 = some (nI 0) from isIn_out hv (by decide)]; rfl
  · refine ⟨-1, h, h, ?_, ?_, I⟩
    · unfold X11_row
      rw [c_shelf_out hu]; rfl
    · unfold X12_row
      rw [m_shelf_out hu]; rfl
end SHC
