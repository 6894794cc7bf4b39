/-! B30: the reference looks at all moves -/
abbrev TR7 : Type := (Nat → Int32) × (Nat → Int32) × (Nat → Int32) × Int32 × Int32 × Int32 × (Nat → Int32)
abbrev TR8 : Type := Int32 × (Nat → Int32) × (Nat → Int32) × (Nat → Int32) × Int32 × Int32 × Int32 × (Nat → Int32)
abbrev InvR (E : ES) (s0 : Nat → Int32) (x : Fnd) (S : TR7) : Prop := FndI E x ∧ MW E S.1 ∧ low s0 S.1 ∧ encV E x (mvT S.2.2.2.2.2.2)
section FR
variable {E : ES} {s0 : Nat → Int32}
theorem sizeM {E : ES} {s : Nat → Int32} (h : MW E s) {r : Nat} (hr : r < 4) : f_X8_roundAt s (nI r) (nI 3) = some (nI (eL E r).length) := by
  rw [roundAt_eq s (by omega), (h.2.2.2.2.2.2 r hr).1]
theorem rofM {E : ES} {s : Nat → Int32} (hB : GB E) (h : MW E s) {p : Nat} (hp : p < eN E) : f_X8_roundOf s (nI p) = some (rof (eL E) p) := by
  have hN := hB.1
  exact roundOfM_eq (hB.MRs h) hN (by omega)
theorem rturns38 (hB : GB E) {r i : Nat} (hr : r < 4) (hi : i < (eL E r).length) (x : Fnd) (S : TR7) (hI : InvR E s0 x S) : ∃ S', InvR E s0 (turnsFi E r i x) S' ∧ ∀ k17 k24, l_X8_findsBest_38 k17 k24 (nI r) (nI i) (nI (i + 1), S) = k24 (nI (i + 1), S') := by
  have hl := hB.len hr
  obtain ⟨S', h1, h2⟩ := lp_fo (κ := (Int32 × TR7 → Option TR8) × (Int32 × TR7 → Option TR8)) (F := fun q k (x : Int32 × TR7) => b_X8_findsBest_38 q.1 q.2 (nI r) (nI i) k x.1 x.2.1 x.2.2.1 x.2.2.2.1 x.2.2.2.2.1 x.2.2.2.2.2.1 x.2.2.2.2.2.2.1 x.2.2.2.2.2.2.2) (G := fun q S => q.2 (nI (i + 1), S)) (InvR E s0) (fun d => bstM E (Mv.turn r i (i + 1 + d))) (i + 1) ((eL E r).length - (i + 1)) (by
    rintro t x ⟨s, cs, bs, b, w, l, mv⟩ ht ⟨hF, hM, hlo, hv⟩
    dsimp only at hM hlo hv
    obtain ⟨j, hj⟩ : ∃ j, j = i + 1 + t := ⟨_, rfl⟩
    rw [← hj]
    have hjl : j < (eL E r).length := by omega
    obtain ⟨v, s1, c1, b1, z4, z5, z6, g1, g2, g3, g4⟩ := turnGainsM hB hM hr (show i ≤ j by omega) hjl cs bs b w l
    have hv2 : (Mv.turn r i j).ok E ∧ v = (Mv.turn r i j).gain E ∨ ¬ (Mv.turn r i j).ok E ∧ v = -nI 100000 := by
      rcases g4 with ⟨g4, g5⟩ | ⟨g4, g5⟩
      · exact Or.inl ⟨⟨hr, by omega, hjl, g4⟩, g5⟩
      · exact Or.inr ⟨fun z => g4 z.2.2.2, g5⟩
    obtain ⟨mv', g6, g7⟩ := findsM hF hv hv2
    change f_X8_finds mv (nI 1) v (nI r) (nI i) (nI j) = _ at g6
    refine ⟨(s1, c1, b1, z4, z5, z6, mv'), ⟨FndI_bstM hF _, g2, hlo.trans g3, g7⟩, fun q k => ?_⟩
    show b_X8_findsBest_38 q.1 q.2 (nI r) (nI i) k (nI j) s cs bs b w l mv = _
    unfold b_X8_findsBest_38
    simp only [lI, nI_add]
    rw [sizeM hM hr, Option.bind_some, if_neg (nI_ge hjl (by omega)), g1, Option.bind_some]
    dsimp only
    rw [g6, Option.bind_some]) (by
    rintro x ⟨s, cs, bs, b, w, l, mv⟩ ⟨hF, hM, hlo, hv⟩ q k
    show b_X8_findsBest_38 q.1 q.2 (nI r) (nI i) k (nI (i + 1 + ((eL E r).length - (i + 1)))) s cs bs b w l mv = _
    unfold b_X8_findsBest_38
    simp only [lI, nI_add]
    rw [sizeM hM hr, Option.bind_some, if_pos (nI_le (by omega) (by omega))]) fu (by unfold fu; omega) x S hI
  exact ⟨S', h1, fun k2 k16 => h2 (k2, k16)⟩
theorem rturns24 (hB : GB E) {r : Nat} (hr : r < 4) (x : Fnd) (S : TR7) (hI : InvR E s0 x S) : ∃ S', InvR E s0 (turnsFr E r x) S' ∧ ∀ k17, l_X8_findsBest_24 k17 (nI r) (nI 0, S) = k17 (nI (r + 1), S') := by
  have hl := hB.len hr
  exact lp_f0 (κ := Int32 × TR7 → Option TR8) (F := fun q k (x : Int32 × TR7) => b_X8_findsBest_24 q (nI r) k x.1 x.2.1 x.2.2.1 x.2.2.2.1 x.2.2.2.2.1 x.2.2.2.2.2.1 x.2.2.2.2.2.2.1 x.2.2.2.2.2.2.2) (G := fun q S => q (nI (r + 1), S)) (InvR E s0) (turnsFi E r) (eL E r).length (by
    rintro t x ⟨s, cs, bs, b, w, l, mv⟩ ht hv
    obtain ⟨S', h1, h2⟩ := rturns38 hB hr ht x (s, cs, bs, b, w, l, mv) hv
    refine ⟨S', h1, fun q k => ?_⟩
    show b_X8_findsBest_24 q (nI r) k (nI t) s cs bs b w l mv = _
    unfold b_X8_findsBest_24
    simp only [lI, nI_add]
    rw [sizeM hv.2.1 hr, Option.bind_some, if_neg (nI_ge ht (by omega))]
    exact h2 q k) (by
    rintro x ⟨s, cs, bs, b, w, l, mv⟩ hv q k
    show b_X8_findsBest_24 q (nI r) k (nI (eL E r).length) s cs bs b w l mv = _
    unfold b_X8_findsBest_24
    simp only [lI, nI_add]
    rw [sizeM hv.2.1 hr, Option.bind_some, if_pos (nI_le (Nat.le_refl _) (by omega))]) fu (by unfold fu; omega) x S hI
theorem rturns17 (hB : GB E) (x : Fnd) (S : TR7) (hI : InvR E s0 x S) : ∃ S', InvR E s0 (turnsF E x) S' ∧ l_X8_findsBest_17 (nI 0, S) = l_X8_findsBest_83 (nI 0, S') := by
  obtain ⟨S', h1, h2⟩ := lp_f0 (κ := Unit) (F := fun _ k (x : Int32 × TR7) => b_X8_findsBest_17 k x.1 x.2.1 x.2.2.1 x.2.2.2.1 x.2.2.2.2.1 x.2.2.2.2.2.1 x.2.2.2.2.2.2.1 x.2.2.2.2.2.2.2) (G := fun _ S => l_X8_findsBest_83 (nI 0, S)) (InvR E s0) (turnsFr E) 4 (by
    rintro t x ⟨s, cs, bs, b, w, l, mv⟩ ht hv
    obtain ⟨S', h1, h2⟩ := rturns24 hB ht x (s, cs, bs, b, w, l, mv) hv
    refine ⟨S', h1, fun q k => ?_⟩
    show b_X8_findsBest_17 k (nI t) s cs bs b w l mv = _
    unfold b_X8_findsBest_17
    simp only [lI, nI_add]
    rw [if_neg (nI_ge ht (by omega))]
    exact h2 k) (by
    rintro x ⟨s, cs, bs, b, w, l, mv⟩ hv q k
    show b_X8_findsBest_17 k (nI 4) s cs bs b w l mv = _
    unfold b_X8_findsBest_17
    simp only [lI]
    rw [if_pos (nI_le (Nat.le_refl _) (by decide))]) fu (by unfold fu; omega) x S hI
  exact ⟨S', h1, h2 ()⟩
theorem rshifts176 (hB : GB E) {p r k : Nat} (hp : rof (eL E) p ≠ -nI 5) (hr : r < 4) (hk : k ≤ (eL (eOut E (wr E p) (wk E p)) r).length) (x : Fnd) (S : TR7) (hI : InvR E s0 x S) : ∃ S', InvR E s0 (bstM E (Mv.shift p (wr E p) (wk E p) r k) x) S' ∧ ∀ k83 k127 k157 x2 x3 x5, b_X8_findsBest_176 k83 k127 k157 (nI p) x2 x3 (nI r) x5 (nI k) S.1 S.2.1 S.2.2.1 S.2.2.2.1 S.2.2.2.2.1 S.2.2.2.2.2.1 S.2.2.2.2.2.2 = k157 (nI (k + 1), S') := by
  have ha := shArg_k hp hr hk
  obtain ⟨s, cs, bs, b, w, l, mv⟩ := S
  obtain ⟨hF, hM, hlo, hv⟩ := hI
  dsimp only at hM hlo hv
  obtain ⟨v, s1, c1, b1, z4, z5, z6, g1, g2, g3, g4⟩ := shiftGainsM hB hM ha cs bs b w l
  have hv2 : (Mv.shift p (wr E p) (wk E p) r k).ok E ∧ v = (Mv.shift p (wr E p) (wk E p) r k).gain E ∨ ¬ (Mv.shift p (wr E p) (wk E p) r k).ok E ∧ v = -nI 100000 := by
    rcases g4 with ⟨g4, g5⟩ | ⟨g4, g5⟩
    · exact Or.inl ⟨⟨ha, g4⟩, g5⟩
    · exact Or.inr ⟨fun z => g4 z.2, g5⟩
  obtain ⟨mv', g6, g7⟩ := findsM hF hv hv2
  change f_X8_finds mv (nI 2) v (nI p) (nI r) (nI k) = _ at g6
  refine ⟨(s1, c1, b1, z4, z5, z6, mv'), ⟨FndI_bstM hF _, g2, hlo.trans g3, g7⟩, fun k83 k127 k157 x2 x3 x5 => ?_⟩
  unfold b_X8_findsBest_176
  simp only [lI, nI_add]
  rw [g1, Option.bind_some]
  dsimp only
  rw [g6, Option.bind_some]
theorem rshifts157 (hB : GB E) {p r : Nat} (hp : rof (eL E) p ≠ -nI 5) (hr : r < 4) (x : Fnd) (S : TR7) (hI : InvR E s0 x S) : ∃ S', InvR E s0 (shiftsFk E p r x) S' ∧ ∀ k83 k127, l_X8_findsBest_157 k83 k127 (nI p) (nI (wr E p)) (nI (wk E p)) (nI r) (nI (eL (eOut E (wr E p) (wk E p)) r).length) (nI 0, S) = k127 (nI (r + 1), S') := by
  obtain ⟨w1, w2, w3, w4, w5⟩ := wrk hp
  have hB1 : GB (eOut E (wr E p) (wk E p)) := hB.out w1 w4
  have hl := hB1.len hr
  have hlf := hB.len w1
  obtain ⟨S', h1, h2⟩ := lp_f0 (κ := (Int32 × TR7 → Option TR8) × (Int32 × TR7 → Option TR8)) (F := fun q k (x : Int32 × TR7) => b_X8_findsBest_157 q.1 q.2 (nI p) (nI (wr E p)) (nI (wk E p)) (nI r) (nI (eL (eOut E (wr E p) (wk E p)) r).length) k x.1 x.2.1 x.2.2.1 x.2.2.2.1 x.2.2.2.2.1 x.2.2.2.2.2.1 x.2.2.2.2.2.2.1 x.2.2.2.2.2.2.2) (G := fun q S => q.2 (nI (r + 1), S)) (InvR E s0) (fun k x => if r = wr E p ∧ k = wk E p then x else bstM E (Mv.shift p (wr E p) (wk E p) r k) x) ((eL (eOut E (wr E p) (wk E p)) r).length + 1) (by
    rintro t x S ht hv
    have hk : t ≤ (eL (eOut E (wr E p) (wk E p)) r).length := by omega
    obtain ⟨S', h1, h2⟩ := rshifts176 hB hp hr hk x S hv
    obtain ⟨s, cs, bs, b, w, l, mv⟩ := S
    by_cases e1 : r = wr E p
    · by_cases e2 : t = wk E p
      · refine ⟨(s, cs, bs, b, w, l, mv), ?_, fun q k => ?_⟩
        · show InvR E s0 (if r = wr E p ∧ t = wk E p then x else bstM E (Mv.shift p (wr E p) (wk E p) r t) x) _
          rw [if_pos ⟨e1, e2⟩]
          exact hv
        · show b_X8_findsBest_157 q.1 q.2 (nI p) (nI (wr E p)) (nI (wk E p)) (nI r) (nI (eL (eOut E (wr E p) (wk E p)) r).length) k (nI t) s cs bs b w l mv = _
          unfold b_X8_findsBest_157
          simp only [lI, nI_add]
          rw [if_neg (nI_nlt hk (by omega)), if_pos (congrArg nI e1), if_pos (congrArg nI e2)]
      · refine ⟨S', ?_, fun q k => ?_⟩
        · show InvR E s0 (if r = wr E p ∧ t = wk E p then x else bstM E (Mv.shift p (wr E p) (wk E p) r t) x) _
          rw [if_neg (fun z => e2 z.2)]
          exact h1
        · show b_X8_findsBest_157 q.1 q.2 (nI p) (nI (wr E p)) (nI (wk E p)) (nI r) (nI (eL (eOut E (wr E p) (wk E p)) r).length) k (nI t) s cs bs b w l mv = _
          unfold b_X8_findsBest_157
          rw [if_neg (nI_nlt hk (by omega)), if_pos (congrArg nI e1), if_neg (by rw [nI_eq (by omega) (by omega)]; exact e2)]
          exact h2 q.1 q.2 k _ _ _
    · refine ⟨S', ?_, fun q k => ?_⟩
      · show InvR E s0 (if r = wr E p ∧ t = wk E p then x else bstM E (Mv.shift p (wr E p) (wk E p) r t) x) _
        rw [if_neg (fun z => e1 z.1)]
        exact h1
      · show b_X8_findsBest_157 q.1 q.2 (nI p) (nI (wr E p)) (nI (wk E p)) (nI r) (nI (eL (eOut E (wr E p) (wk E p)) r).length) k (nI t) s cs bs b w l mv = _
        unfold b_X8_findsBest_157
        rw [if_neg (nI_nlt hk (by omega)), if_neg (nI_ne4 hr w1 e1)]
        exact h2 q.1 q.2 k _ _ _) (by
    rintro x ⟨s, cs, bs, b, w, l, mv⟩ hv q k
    show b_X8_findsBest_157 q.1 q.2 (nI p) (nI (wr E p)) (nI (wk E p)) (nI r) (nI (eL (eOut E (wr E p) (wk E p)) r).length) k (nI ((eL (eOut E (wr E p) (wk E p)) r).length + 1)) s cs bs b w l mv = _
    unfold b_X8_findsBest_157
    simp only [lI, nI_add]
    rw [if_pos (nI_lt (Nat.lt_succ_self _) (by omega))]) fu (by unfold fu; omega) x S hI
  exact ⟨S', h1, fun k2 k43 => h2 (k2, k43)⟩
theorem sub_n0 (x : Int32) : x - nI 0 = x := Int32.sub_zero x
theorem rshifts127 (hB : GB E) {p : Nat} (hp : rof (eL E) p ≠ -nI 5) (x : Fnd) (S : TR7) (hI : InvR E s0 x S) : ∃ S', InvR E s0 (fo (shiftsFk E p) 4 x) S' ∧ ∀ k83, l_X8_findsBest_127 k83 (nI p) (nI (wr E p)) (nI (wk E p)) (nI 0, S) = k83 (nI (p + 1), S') := by
  obtain ⟨w1, w2, w3, w4, w5⟩ := wrk hp
  have hlf := hB.len w1
  exact lp_f0 (κ := Int32 × TR7 → Option TR8) (F := fun q k (x : Int32 × TR7) => b_X8_findsBest_127 q (nI p) (nI (wr E p)) (nI (wk E p)) k x.1 x.2.1 x.2.2.1 x.2.2.2.1 x.2.2.2.2.1 x.2.2.2.2.2.1 x.2.2.2.2.2.2.1 x.2.2.2.2.2.2.2) (G := fun q S => q (nI (p + 1), S)) (InvR E s0) (shiftsFk E p) 4 (by
    rintro t x ⟨s, cs, bs, b, w, l, mv⟩ ht hv
    obtain ⟨S', h1, h2⟩ := rshifts157 hB hp ht x (s, cs, bs, b, w, l, mv) hv
    refine ⟨S', h1, fun q k => ?_⟩
    show b_X8_findsBest_127 q (nI p) (nI (wr E p)) (nI (wk E p)) k (nI t) s cs bs b w l mv = _
    unfold b_X8_findsBest_127
    simp only [lI, nI_add]
    rw [if_neg (nI_ge ht (by omega)), sizeM hv.2.1 ht, Option.bind_some]
    by_cases e1 : t = wr E p
    · rw [if_pos (congrArg nI e1)]
      have e : nI (eL E t).length - nI 1 = nI (eL (eOut E (wr E p) (wk E p)) t).length := by
        rw [e1, show eL (eOut E (wr E p) (wk E p)) (wr E p) = del (eL E (wr E p)) (wk E p) from eL_up _ _ _, del_len w4, nI_sub1 (by omega)]
      rw [e]
      exact h2 q k
    · rw [if_neg (nI_ne4 ht w1 e1), sub_n0]
      have e : eL E t = eL (eOut E (wr E p) (wk E p)) t := (fup_n e1).symm
      rw [e]
      exact h2 q k) (by
    rintro x ⟨s, cs, bs, b, w, l, mv⟩ hv q k
    show b_X8_findsBest_127 q (nI p) (nI (wr E p)) (nI (wk E p)) k (nI 4) s cs bs b w l mv = _
    unfold b_X8_findsBest_127
    simp only [lI, nI_add]
    rw [if_pos (nI_le (Nat.le_refl _) (by decide))]) fu (by unfold fu; omega) x S hI
theorem rof_neg {E : ES} {p : Nat} : (rof (eL E) p = -nI 5 → rof (eL E) p < nI 0) ∧ (rof (eL E) p ≠ -nI 5 → ¬ rof (eL E) p < nI 0) := by
  refine ⟨fun e => by rw [e]; exact m5_lt0, fun e => ?_⟩
  obtain ⟨w1, w2, w3, w4, w5⟩ := wrk e
  rw [w3]
  exact nI_lt0 (by omega)
theorem rshifts83 (hB : GB E) (x : Fnd) (S : TR7) (hI : InvR E s0 x S) : ∃ S', InvR E s0 (shiftsF E x) S' ∧ l_X8_findsBest_83 (nI 0, S) = l_X8_findsBest_215 (nI 0, S') := by
  have hN := hB.1
  have e4 : (nI 4).toNatClampNeg = 4 := nI_clamp (by decide)
  obtain ⟨S', h1, h2⟩ := lp_f0 (κ := Unit) (F := fun _ k (x : Int32 × TR7) => b_X8_findsBest_83 k x.1 x.2.1 x.2.2.1 x.2.2.2.1 x.2.2.2.2.1 x.2.2.2.2.2.1 x.2.2.2.2.2.2.1 x.2.2.2.2.2.2.2) (G := fun _ S => l_X8_findsBest_215 (nI 0, S)) (InvR E s0) (shiftsFp E) (eN E) (by
    rintro t x ⟨s, cs, bs, b, w, l, mv⟩ ht hv
    have hM := hv.2.1
    dsimp only at hM
    by_cases q1 : rof (eL E) t = -nI 5
    · refine ⟨(s, cs, bs, b, w, l, mv), ?_, fun q k => ?_⟩
      · show InvR E s0 (shiftsFp E t x) _
        unfold shiftsFp
        rw [if_pos (Or.inl q1)]
        exact hv
      · show b_X8_findsBest_83 k (nI t) s cs bs b w l mv = _
        unfold b_X8_findsBest_83
        simp only [lI, nI_add]
        rw [e4, hM.1, if_neg (nI_ge ht (by omega)), rofM hB hM ht, Option.bind_some, if_pos (rof_neg.1 q1)]
    · obtain ⟨w1, w2, w3, w4, w5⟩ := wrk q1
      by_cases q2 : eK E t = nI 1
      · refine ⟨(s, cs, bs, b, w, l, mv), ?_, fun q k => ?_⟩
        · show InvR E s0 (shiftsFp E t x) _
          unfold shiftsFp
          rw [if_pos (Or.inr q2)]
          exact hv
        · show b_X8_findsBest_83 k (nI t) s cs bs b w l mv = _
          unfold b_X8_findsBest_83
          simp only [lI, nI_add]
          rw [e4, hM.1, if_neg (nI_ge ht (by omega)), rofM hB hM ht, Option.bind_some, if_neg (rof_neg.2 q1), lockM hB hM ht, Option.bind_some, if_pos q2]
      · obtain ⟨S', h1, h2⟩ := rshifts127 hB q1 x (s, cs, bs, b, w, l, mv) hv
        refine ⟨S', ?_, fun q k => ?_⟩
        · show InvR E s0 (shiftsFp E t x) _
          unfold shiftsFp
          rw [if_neg (fun z => z.elim q1 q2)]
          exact h1
        · show b_X8_findsBest_83 k (nI t) s cs bs b w l mv = _
          unfold b_X8_findsBest_83
          simp only [lI, nI_add]
          rw [e4, hM.1, if_neg (nI_ge ht (by omega)), rofM hB hM ht, Option.bind_some, if_neg (rof_neg.2 q1), lockM hB hM ht, Option.bind_some, if_neg q2, w3, (whereM hB hM w1 w4 w5).2, Option.bind_some]
          exact h2 k) (by
    rintro x ⟨s, cs, bs, b, w, l, mv⟩ hv q k
    have hM := hv.2.1
    dsimp only at hM
    show b_X8_findsBest_83 k (nI (eN E)) s cs bs b w l mv = _
    unfold b_X8_findsBest_83
    simp only [lI]
    rw [e4, hM.1, if_pos (nI_le (Nat.le_refl _) (by omega))]) fu (by unfold fu; omega) x S hI
  exact ⟨S', h1, h2 ()⟩
theorem rswaps229 (hB : GB E) {p : Nat} (hpn : p < eN E) (x : Fnd) (S : TR7) (hI : InvR E s0 x S) : ∃ S', InvR E s0 (swapsFp E p x) S' ∧ ∀ k215, l_X8_findsBest_229 k215 (nI p) (nI (p + 1), S) = k215 (nI (p + 1), S') := by
  have hN := hB.1
  have e4 : (nI 4).toNatClampNeg = 4 := nI_clamp (by decide)
  exact lp_fo (κ := Int32 × TR7 → Option TR8) (F := fun q k (x : Int32 × TR7) => b_X8_findsBest_229 q (nI p) k x.1 x.2.1 x.2.2.1 x.2.2.2.1 x.2.2.2.2.1 x.2.2.2.2.2.1 x.2.2.2.2.2.2.1 x.2.2.2.2.2.2.2) (G := fun q S => q (nI (p + 1), S)) (InvR E s0) (fun d => swapsFq E p (p + 1 + d)) (p + 1) (eN E - (p + 1)) (by
    rintro t x ⟨s, cs, bs, b, w, l, mv⟩ ht ⟨hF, hM, hlo, hv⟩
    dsimp only at hM hlo hv
    obtain ⟨j, hj⟩ : ∃ j, j = p + 1 + t := ⟨_, rfl⟩
    rw [← hj]
    have hjl : j < eN E := by omega
    by_cases q1 : rof (eL E) p = -nI 5
    · refine ⟨(s, cs, bs, b, w, l, mv), ?_, fun q k => ?_⟩
      · show InvR E s0 (swapsFq E p j x) _
        unfold swapsFq
        rw [if_pos (Or.inl q1)]
        exact ⟨hF, hM, hlo, hv⟩
      · show b_X8_findsBest_229 q (nI p) k (nI j) s cs bs b w l mv = _
        unfold b_X8_findsBest_229
        simp only [lI, nI_add]
        rw [e4, hM.1, if_neg (nI_ge hjl (by omega)), rofM hB hM hpn, Option.bind_some, if_pos (rof_neg.1 q1)]
    · by_cases q2 : rof (eL E) j = -nI 5
      · refine ⟨(s, cs, bs, b, w, l, mv), ?_, fun q k => ?_⟩
        · show InvR E s0 (swapsFq E p j x) _
          unfold swapsFq
          rw [if_pos (Or.inr q2)]
          exact ⟨hF, hM, hlo, hv⟩
        · show b_X8_findsBest_229 q (nI p) k (nI j) s cs bs b w l mv = _
          unfold b_X8_findsBest_229
          simp only [lI, nI_add]
          rw [e4, hM.1, if_neg (nI_ge hjl (by omega)), rofM hB hM hpn, Option.bind_some, if_neg (rof_neg.2 q1), rofM hB hM hjl, Option.bind_some, if_pos (rof_neg.1 q2)]
      · have hs := swArg_q q1 q2 (show p ≠ j by omega)
        have hFq : swapsFq E p j x = bstM E (Mv.swap p j (wr E p) (wk E p) (wr E j) (wk E j)) x := by
          unfold swapsFq
          rw [if_neg (fun z => z.elim q1 q2)]
        obtain ⟨v, s1, c1, b1, z4, z5, z6, g1, g2, g3, g4⟩ := swapGainsM hB hM hs cs bs b w l
        have hv2 : (Mv.swap p j (wr E p) (wk E p) (wr E j) (wk E j)).ok E ∧ v = (Mv.swap p j (wr E p) (wk E p) (wr E j) (wk E j)).gain E ∨ ¬ (Mv.swap p j (wr E p) (wk E p) (wr E j) (wk E j)).ok E ∧ v = -nI 100000 := by
          rcases g4 with ⟨g4, g5⟩ | ⟨g4, g5⟩
          · exact Or.inl ⟨⟨hs, g4⟩, g5⟩
          · exact Or.inr ⟨fun z => g4 z.2, g5⟩
        obtain ⟨mv', g6, g7⟩ := findsM hF hv hv2
        change f_X8_finds mv (nI 3) v (nI p) (nI j) (-nI 5) = _ at g6
        refine ⟨(s1, c1, b1, z4, z5, z6, mv'), ?_, fun q k => ?_⟩
        · show InvR E s0 (swapsFq E p j x) _
          rw [hFq]
          exact ⟨FndI_bstM hF _, g2, hlo.trans g3, g7⟩
        · show b_X8_findsBest_229 q (nI p) k (nI j) s cs bs b w l mv = _
          unfold b_X8_findsBest_229
          simp only [lI, nI_add]
          rw [e4, hM.1, if_neg (nI_ge hjl (by omega)), rofM hB hM hpn, Option.bind_some, if_neg (rof_neg.2 q1), rofM hB hM hjl, Option.bind_some, if_neg (rof_neg.2 q2), g1, Option.bind_some]
          dsimp only
          rw [g6, Option.bind_some]) (by
    rintro x ⟨s, cs, bs, b, w, l, mv⟩ hv q k
    have hM := hv.2.1
    dsimp only at hM
    show b_X8_findsBest_229 q (nI p) k (nI (p + 1 + (eN E - (p + 1)))) s cs bs b w l mv = _
    unfold b_X8_findsBest_229
    simp only [lI, nI_add]
    rw [e4, hM.1, if_pos (nI_le (by omega) (by omega))]) fu (by unfold fu; omega) x S hI
theorem findsBestM {s : Nat → Int32} (hB : GB E) (h : MW E s) (cs bs : Nat → Int32) (b w l : Int32) (mv : Nat → Int32) : ∃ v s' cs' bs' b' w' l' mv', f_X8_findsBest s cs bs b w l mv = some (v, s', cs', bs', b', w', l', mv') ∧ MW E s' ∧ low s s' ∧ encV E (bestF E) (mvT mv') ∧ (bestF E = none ∧ v = nI 0 ∨ ∃ m, bestF E = some m ∧ v = nI 1) := by
  have hN := hB.1
  have e4 : (nI 4).toNatClampNeg = 4 := nI_clamp (by decide)
  have e0 : (nI 0).toNatClampNeg = 0 := nI_clamp (by decide)
  have e1 : (nI 1).toNatClampNeg = 1 := nI_clamp (by decide)
  unfold f_X8_findsBest
  simp only [lI]
  rw [e0, e1]
  obtain ⟨S1, h1, h2⟩ := rturns17 hB none (s, cs, bs, b, w, l, upd (upd mv 0 (-nI 5)) 1 (nI 0)) (⟨FndI_none E, h, low.refl s, ⟨show upd (upd mv 0 (-nI 5)) 1 (nI 0) 0 = -nI 5 by rw [pk_un (by decide), pk_us], show upd (upd mv 0 (-nI 5)) 1 (nI 0) 1 = nI 0 from pk_us⟩⟩ : InvR E s none _)
  obtain ⟨S2, h3, h4⟩ := rshifts83 hB _ S1 h1
  have h5 : ∃ S', InvR E s (bestF E) S' ∧ l_X8_findsBest_215 (nI 0, S2) = some (if S'.2.2.2.2.2.2 0 ≤ nI 0 then nI 0 else nI 1, S') := by
    obtain ⟨S', h1, h2⟩ := lp_f0 (κ := Unit) (F := fun _ k (x : Int32 × TR7) => b_X8_findsBest_215 k x.1 x.2.1 x.2.2.1 x.2.2.2.1 x.2.2.2.2.1 x.2.2.2.2.2.1 x.2.2.2.2.2.2.1 x.2.2.2.2.2.2.2) (G := fun _ (S : TR7) => some (if S.2.2.2.2.2.2 0 ≤ nI 0 then nI 0 else nI 1, S)) (InvR E s) (swapsFp E) (eN E) (by
      rintro t x ⟨s, cs, bs, b, w, l, mv⟩ ht hv
      have hM := hv.2.1
      dsimp only at hM
      obtain ⟨S', h1, h2⟩ := rswaps229 hB ht x (s, cs, bs, b, w, l, mv) hv
      refine ⟨S', h1, fun q k => ?_⟩
      show b_X8_findsBest_215 k (nI t) s cs bs b w l mv = _
      unfold b_X8_findsBest_215
      simp only [lI, nI_add]
      rw [e4, hM.1, if_neg (nI_ge ht (by omega))]
      exact h2 k) (by
      rintro x ⟨s, cs, bs, b, w, l, mv⟩ hv q k
      have hM := hv.2.1
      dsimp only at hM
      show b_X8_findsBest_215 k (nI (eN E)) s cs bs b w l mv = _
      unfold b_X8_findsBest_215
      simp only [lI]
      rw [e4, e0, hM.1, if_pos (nI_le (Nat.le_refl _) (by omega))]
      split <;> rfl) fu (by unfold fu; omega) (shiftsF E (turnsF E none)) S2 h3
    exact ⟨S', h1, h2 ()⟩
  obtain ⟨⟨s', cs', bs', b', w', l', mv'⟩, ⟨hF, hM, hlo, hv⟩, h6⟩ := h5
  refine ⟨_, s', cs', bs', b', w', l', mv', (h2.trans h4).trans h6, hM, hlo, hv, ?_⟩
  dsimp only at hv
  cases e : bestF E with
  | none =>
    rw [e] at hv
    have hv0 : mv' 0 = -nI 5 := hv.1
    refine Or.inl ⟨rfl, ?_⟩
    exact if_pos (show mv' 0 ≤ nI 0 by rw [hv0]; decide)
  | some m =>
    rw [e] at hv
    have hv0 : mv' 0 = m.kd := congrArg Prod.fst (show mvT mv' = (m.kd, m.gain E, m.a1, m.a2, m.a3) from hv)
    refine Or.inr ⟨m, rfl, ?_⟩
    refine if_neg (show ¬ mv' 0 ≤ nI 0 from ?_)
    rw [hv0]
    obtain (⟨r, i, j⟩ | ⟨p, f, i, r, k⟩ | ⟨p, q, a, i, b, j⟩) := m
    · show ¬ nI 1 ≤ nI 0
      decide
    · show ¬ nI 2 ≤ nI 0
      decide
    · show ¬ nI 3 ≤ nI 0
      decide
end FR
