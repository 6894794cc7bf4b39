/-! B28: the class looks at the turns -/
abbrev TS16 : Type := (Nat → Int32) × (Nat → Int32) × (Nat → Int32) × Int32 × Int32 × Int32 × Int32 × Int32 × Int32 × Int32 × Int32 × T5
section FT
variable {E : ES} {facts ro locked rules sizes rows : Nat → Int32} {sc metric fixed : Int32}
abbrev InvT (E : ES) (x : Fnd) (S : TS16) : Prop := encV E x S.2.2.2.2.2.2.2.2.2.2.2
theorem turns28 (hB : GB E) (h : CW E facts ro locked rules sizes rows sc metric fixed) {r i : Nat} (hr : r < 4) (hi : i < (eL E r).length) (x : Fnd) (S : TS16) (hI : InvT E x S) : ∃ S', InvT E (turnsFi E r i x) S' ∧ ∀ k2 k16, l_X2_findTurns_28 k2 k16 (nI r) (nI (eL E r).length) (nI i) facts locked rules sizes rows metric (nI (i + 1), S) = k16 (nI (i + 1), S') := by
  have hl := hB.len hr
  obtain ⟨S', h1, h2⟩ := lp_fo (κ := (Int32 × TS16 → Option TS16) × (Int32 × TS16 → Option TS16)) (F := fun q k (x : Int32 × TS16) => b_X2_findTurns_28 q.1 q.2 (nI r) (nI (eL E r).length) (nI i) facts locked rules sizes rows metric k x.1 x.2.1 x.2.2.1 x.2.2.2.1 x.2.2.2.2.1 x.2.2.2.2.2.1 x.2.2.2.2.2.2.1 x.2.2.2.2.2.2.2.1 x.2.2.2.2.2.2.2.2.1 x.2.2.2.2.2.2.2.2.2.1 x.2.2.2.2.2.2.2.2.2.2.1 x.2.2.2.2.2.2.2.2.2.2.2.1 x.2.2.2.2.2.2.2.2.2.2.2.2.1 x.2.2.2.2.2.2.2.2.2.2.2.2.2.1 x.2.2.2.2.2.2.2.2.2.2.2.2.2.2.1 x.2.2.2.2.2.2.2.2.2.2.2.2.2.2.2.1 x.2.2.2.2.2.2.2.2.2.2.2.2.2.2.2.2) (G := fun q S => q.2 (nI (i + 1), S)) (InvT E) (fun d => bstM E (Mv.turn r i (i + 1 + d))) (i + 1) ((eL E r).length - (i + 1)) (by
    rintro t x ⟨y1, y2, y3, y4, y5, y6, y7, y8, y9, y10, y11, c⟩ ht hv
    change encV E x c at hv
    have hg := encV_gain hv
    obtain ⟨j, hj⟩ : ∃ j, j = i + 1 + t := ⟨_, rfl⟩
    rw [← hj]
    have hjl : j < (eL E r).length := by omega
    have hgC := turnGainC hB h hr (i := i) (j := j) (by omega) (by omega)
    have step : ∀ (q : (Int32 × TS16 → Option TS16) × (Int32 × TS16 → Option TS16)) (k : Int32 × TS16 → Option TS16), b_X2_findTurns_28 q.1 q.2 (nI r) (nI (eL E r).length) (nI i) facts locked rules sizes rows metric k (nI j) y1 y2 y3 y4 y5 y6 y7 y8 y9 y10 y11 c.1 c.2.1 c.2.2.1 c.2.2.2.1 c.2.2.2.2 = if trn (eD E) (eL E r) i j ≤ gainM E x then k (nI (j + 1), y1, y2, y3, y4, y5, y6, y7, y8, y9, y10, y11, c) else ((f_X2_tryTurn y1 y2 y3 y4 y5 y6 y7 y8 y9 y10 y11 facts locked rules sizes rows metric (nI r) (nI i) (nI j)).bind fun q => if q.1 = nI 0 then k (nI (j + 1), q.2.1, q.2.2.1, q.2.2.2.1, q.2.2.2.2.1, q.2.2.2.2.2.1, q.2.2.2.2.2.2.1, q.2.2.2.2.2.2.2.1, q.2.2.2.2.2.2.2.2.1, q.2.2.2.2.2.2.2.2.2.1, q.2.2.2.2.2.2.2.2.2.2.1, q.2.2.2.2.2.2.2.2.2.2.2, c) else k (nI (j + 1), q.2.1, q.2.2.1, q.2.2.2.1, q.2.2.2.2.1, q.2.2.2.2.2.1, q.2.2.2.2.2.2.1, q.2.2.2.2.2.2.2.1, q.2.2.2.2.2.2.2.2.1, q.2.2.2.2.2.2.2.2.2.1, q.2.2.2.2.2.2.2.2.2.2.1, q.2.2.2.2.2.2.2.2.2.2.2, nI 1, trn (eD E) (eL E r) i j, nI r, nI i, nI j)) := by
      intro q k
      unfold b_X2_findTurns_28 f_X2_keepFound
      simp only [lI, nI_add]
      rw [if_neg (nI_ge hjl (by omega)), hgC, Option.bind_some, ← hg]
      rfl
    by_cases q : gainM E x < trn (eD E) (eL E r) i j
    · obtain ⟨z, z1, z2⟩ := tryTurnC hB h hr (show i ≤ j by omega) hjl y1 y2 y3 y4 y5 y6 y7 y8 y9 y10 y11
      rw [z1] at step
      rcases z2 with ⟨z2, z3, -⟩ | ⟨z2, z3⟩
      · refine ⟨(z.2.1, z.2.2.1, z.2.2.2.1, z.2.2.2.2.1, z.2.2.2.2.2.1, z.2.2.2.2.2.2.1, z.2.2.2.2.2.2.2.1, z.2.2.2.2.2.2.2.2.1, z.2.2.2.2.2.2.2.2.2.1, z.2.2.2.2.2.2.2.2.2.2.1, z.2.2.2.2.2.2.2.2.2.2.2, nI 1, trn (eD E) (eL E r) i j, nI r, nI i, nI j), ?_, fun p k => (step p k).trans ?_⟩
        · show encV E (bstM E (Mv.turn r i j) x) _
          rw [bstM_yes (m := Mv.turn r i j) ⟨hr, by omega, hjl, z2⟩ q]
          rfl
        · rw [if_neg (Int32.not_le.mpr q), Option.bind_some, if_neg (by rw [z3]; decide)]
      · refine ⟨(z.2.1, z.2.2.1, z.2.2.2.1, z.2.2.2.2.1, z.2.2.2.2.2.1, z.2.2.2.2.2.2.1, z.2.2.2.2.2.2.2.1, z.2.2.2.2.2.2.2.2.1, z.2.2.2.2.2.2.2.2.2.1, z.2.2.2.2.2.2.2.2.2.2.1, z.2.2.2.2.2.2.2.2.2.2.2, c), ?_, fun p k => (step p k).trans ?_⟩
        · show encV E (bstM E (Mv.turn r i j) x) _
          rw [bstM_no (m := Mv.turn r i j) (fun w => z2 w.2.2.2)]
          exact hv
        · rw [if_neg (Int32.not_le.mpr q), Option.bind_some, if_pos z3]
    · refine ⟨(y1, y2, y3, y4, y5, y6, y7, y8, y9, y10, y11, c), ?_, fun p k => (step p k).trans (if_pos (Int32.not_lt.mp q))⟩
      show encV E (bstM E (Mv.turn r i j) x) _
      rw [bstM_dear (m := Mv.turn r i j) q]
      exact hv) (by
    rintro x ⟨y1, y2, y3, y4, y5, y6, y7, y8, y9, y10, y11, c⟩ hv q k
    show b_X2_findTurns_28 q.1 q.2 (nI r) (nI (eL E r).length) (nI i) facts locked rules sizes rows metric k (nI (i + 1 + ((eL E r).length - (i + 1)))) y1 y2 y3 y4 y5 y6 y7 y8 y9 y10 y11 c.1 c.2.1 c.2.2.1 c.2.2.2.1 c.2.2.2.2 = _
    unfold b_X2_findTurns_28
    simp only [lI, nI_add]
    rw [if_pos (nI_le (by omega) (by omega))]) fu (by unfold fu; omega) x S hI
  exact ⟨S', h1, fun k2 k16 => h2 (k2, k16)⟩
theorem turns16 (hB : GB E) (h : CW E facts ro locked rules sizes rows sc metric fixed) {r : Nat} (hr : r < 4) (x : Fnd) (S : TS16) (hI : InvT E x S) : ∃ S', InvT E (turnsFr E r x) S' ∧ ∀ k2, l_X2_findTurns_16 k2 (nI r) (nI (eL E r).length) facts locked rules sizes rows metric (nI 0, S) = k2 (nI (r + 1), S') := by
  have hl := hB.len hr
  exact lp_f0 (κ := Int32 × TS16 → Option TS16) (F := fun q k (x : Int32 × TS16) => b_X2_findTurns_16 q (nI r) (nI (eL E r).length) facts locked rules sizes rows metric k x.1 x.2.1 x.2.2.1 x.2.2.2.1 x.2.2.2.2.1 x.2.2.2.2.2.1 x.2.2.2.2.2.2.1 x.2.2.2.2.2.2.2.1 x.2.2.2.2.2.2.2.2.1 x.2.2.2.2.2.2.2.2.2.1 x.2.2.2.2.2.2.2.2.2.2.1 x.2.2.2.2.2.2.2.2.2.2.2.1 x.2.2.2.2.2.2.2.2.2.2.2.2.1 x.2.2.2.2.2.2.2.2.2.2.2.2.2.1 x.2.2.2.2.2.2.2.2.2.2.2.2.2.2.1 x.2.2.2.2.2.2.2.2.2.2.2.2.2.2.2.1 x.2.2.2.2.2.2.2.2.2.2.2.2.2.2.2.2) (G := fun q S => q (nI (r + 1), S)) (InvT E) (turnsFi E r) (eL E r).length (by
    rintro t x ⟨y1, y2, y3, y4, y5, y6, y7, y8, y9, y10, y11, c⟩ ht hv
    obtain ⟨S', h1, h2⟩ := turns28 hB h hr ht x (y1, y2, y3, y4, y5, y6, y7, y8, y9, y10, y11, c) hv
    refine ⟨S', h1, fun q k => ?_⟩
    show b_X2_findTurns_16 q (nI r) (nI (eL E r).length) facts locked rules sizes rows metric k (nI t) y1 y2 y3 y4 y5 y6 y7 y8 y9 y10 y11 c.1 c.2.1 c.2.2.1 c.2.2.2.1 c.2.2.2.2 = _
    unfold b_X2_findTurns_16
    simp only [lI, nI_add]
    rw [if_neg (nI_ge ht (by omega))]
    exact h2 q k) (by
    rintro x ⟨y1, y2, y3, y4, y5, y6, y7, y8, y9, y10, y11, c⟩ hv q k
    show b_X2_findTurns_16 q (nI r) (nI (eL E r).length) facts locked rules sizes rows metric k (nI (eL E r).length) y1 y2 y3 y4 y5 y6 y7 y8 y9 y10 y11 c.1 c.2.1 c.2.2.1 c.2.2.2.1 c.2.2.2.2 = _
    unfold b_X2_findTurns_16
    simp only [lI, nI_add]
    rw [if_pos (nI_le (Nat.le_refl _) (by omega))]) fu (by unfold fu; omega) x S hI
theorem turnsC (hB : GB E) (h : CW E facts ro locked rules sizes rows sc metric fixed) (x : Fnd) (y1 y2 y3 : Nat → Int32) (y4 y5 y6 y7 y8 y9 y10 y11 : Int32) (c : T5) (hv : encV E x c) : ∃ S' : TS16, InvT E (turnsF E x) S' ∧ f_X2_findTurns y1 y2 y3 y4 y5 y6 y7 y8 y9 y10 y11 c.1 c.2.1 c.2.2.1 c.2.2.2.1 c.2.2.2.2 facts locked rules sizes rows metric = some S' := by
  obtain ⟨S', h1, h2⟩ := lp_f0 (κ := Unit) (F := fun _ k (x : Int32 × TS16) => b_X2_findTurns_2 facts locked rules sizes rows metric k x.1 x.2.1 x.2.2.1 x.2.2.2.1 x.2.2.2.2.1 x.2.2.2.2.2.1 x.2.2.2.2.2.2.1 x.2.2.2.2.2.2.2.1 x.2.2.2.2.2.2.2.2.1 x.2.2.2.2.2.2.2.2.2.1 x.2.2.2.2.2.2.2.2.2.2.1 x.2.2.2.2.2.2.2.2.2.2.2.1 x.2.2.2.2.2.2.2.2.2.2.2.2.1 x.2.2.2.2.2.2.2.2.2.2.2.2.2.1 x.2.2.2.2.2.2.2.2.2.2.2.2.2.2.1 x.2.2.2.2.2.2.2.2.2.2.2.2.2.2.2.1 x.2.2.2.2.2.2.2.2.2.2.2.2.2.2.2.2) (G := fun _ (S : TS16) => some S) (InvT E) (turnsFr E) 4 (by
    rintro t x ⟨y1, y2, y3, y4, y5, y6, y7, y8, y9, y10, y11, c⟩ ht hv
    obtain ⟨S', h1, h2⟩ := turns16 hB h ht x (y1, y2, y3, y4, y5, y6, y7, y8, y9, y10, y11, c) hv
    refine ⟨S', h1, fun q k => ?_⟩
    show b_X2_findTurns_2 facts locked rules sizes rows metric k (nI t) y1 y2 y3 y4 y5 y6 y7 y8 y9 y10 y11 c.1 c.2.1 c.2.2.1 c.2.2.2.1 c.2.2.2.2 = _
    unfold b_X2_findTurns_2
    simp only [lI, nI_add]
    rw [if_neg (nI_ge ht (by omega)), sizeOf_eq sizes ht, Option.bind_some, (h.2.2.2.2.2.2.2 t ht).1]
    exact h2 k) (by
    rintro x ⟨y1, y2, y3, y4, y5, y6, y7, y8, y9, y10, y11, c⟩ hv q k
    show b_X2_findTurns_2 facts locked rules sizes rows metric k (nI 4) y1 y2 y3 y4 y5 y6 y7 y8 y9 y10 y11 c.1 c.2.1 c.2.2.1 c.2.2.2.1 c.2.2.2.2 = _
    unfold b_X2_findTurns_2
    simp only [lI, nI_add]
    rw [if_pos (nI_le (Nat.le_refl _) (by decide))]) fu (by unfold fu; omega) x (y1, y2, y3, y4, y5, y6, y7, y8, y9, y10, y11, c) hv
  exact ⟨S', h1, h2 ()⟩
end FT
