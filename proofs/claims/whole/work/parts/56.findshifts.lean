/-! B29: the class looks at the shifts and the swaps -/
abbrev TD10 : Type := (Nat → Int32) × (Nat → Int32) × (Nat → Int32) × Int32 × Int32 × Int32 × Int32 × Int32 × Int32 × Int32
abbrev TS26 : Type := (Nat → Int32) × (Nat → Int32) × (Nat → Int32) × Int32 × Int32 × Int32 × Int32 × Int32 × Int32 × Int32 × (Nat → Int32) × (Nat → Int32) × (Nat → Int32) × Int32 × Int32 × Int32 × Int32 × Int32 × Int32 × Int32 × Int32 × T5
section FS
variable {E : ES} {facts ro locked rules sizes rows : Nat → Int32} {sc metric fixed : Int32}
abbrev InvS (E : ES) (x : Fnd) (S : TS26) : Prop := encV E x S.2.2.2.2.2.2.2.2.2.2.2.2.2.2.2.2.2.2.2.2.2
theorem shArg_k {E : ES} {p r k : Nat} (hp : rof (eL E) p ≠ -nI 5) (hr : r < 4) (hk : k ≤ (eL (eOut E (wr E p) (wk E p)) r).length) : shArg E p (wr E p) (wk E p) r k := by
  obtain ⟨h1, h2, h3, h4, h5⟩ := wrk hp
  exact ⟨h1, hr, h4, h5, hk⟩
theorem shifts100 (hB : GB E) (h : CW E facts ro locked rules sizes rows sc metric fixed) {p r k : Nat} (hp : rof (eL E) p ≠ -nI 5) (hr : r < 4) (hk : k ≤ (eL (eOut E (wr E p) (wk E p)) r).length) (x : Fnd) (S : TS26) (hv : InvS E x S) : ∃ S', InvS E (bstM E (Mv.shift p (wr E p) (wk E p) r k) x) S' ∧ ∀ k2 k43 k77 x3 x4 x6, b_X2_findShifts_100 k2 k43 k77 (nI p) x3 x4 (nI r) x6 (nI k) S.1 S.2.1 S.2.2.1 S.2.2.2.1 S.2.2.2.2.1 S.2.2.2.2.2.1 S.2.2.2.2.2.2.1 S.2.2.2.2.2.2.2.1 S.2.2.2.2.2.2.2.2.1 S.2.2.2.2.2.2.2.2.2.1 S.2.2.2.2.2.2.2.2.2.2.1 S.2.2.2.2.2.2.2.2.2.2.2.1 S.2.2.2.2.2.2.2.2.2.2.2.2.1 S.2.2.2.2.2.2.2.2.2.2.2.2.2.1 S.2.2.2.2.2.2.2.2.2.2.2.2.2.2.1 S.2.2.2.2.2.2.2.2.2.2.2.2.2.2.2.1 S.2.2.2.2.2.2.2.2.2.2.2.2.2.2.2.2.1 S.2.2.2.2.2.2.2.2.2.2.2.2.2.2.2.2.2.1 S.2.2.2.2.2.2.2.2.2.2.2.2.2.2.2.2.2.2.1 S.2.2.2.2.2.2.2.2.2.2.2.2.2.2.2.2.2.2.2.1 S.2.2.2.2.2.2.2.2.2.2.2.2.2.2.2.2.2.2.2.2.1 S.2.2.2.2.2.2.2.2.2.2.2.2.2.2.2.2.2.2.2.2.2.1 S.2.2.2.2.2.2.2.2.2.2.2.2.2.2.2.2.2.2.2.2.2.2.1 S.2.2.2.2.2.2.2.2.2.2.2.2.2.2.2.2.2.2.2.2.2.2.2.1 S.2.2.2.2.2.2.2.2.2.2.2.2.2.2.2.2.2.2.2.2.2.2.2.2.1 S.2.2.2.2.2.2.2.2.2.2.2.2.2.2.2.2.2.2.2.2.2.2.2.2.2 facts ro locked rules sizes rows sc metric fixed = k77 (nI (k + 1), S') := by
  have ha := shArg_k hp hr hk
  obtain ⟨y1, y2, y3, y4, y5, y6, y7, y8, y9, y10, w1, w2, w3, w4, w5, w6, w7, w8, w9, w10, tw, c⟩ := S
  change encV E x c at hv
  have hg := encV_gain hv
  have hgC := shiftGainC hB h ha
  obtain ⟨v, z1, z2, z3, z4, z5, z6, z7, z8, z9, z10, u1, u2, u3, u4, u5, u6, u7, u8, u9, u10, tw', z0, zz⟩ := tryShiftC hB h ha y1 y2 y3 y4 y5 y6 y7 y8 y9 y10 w1 w2 w3 w4 w5 w6 w7 w8 w9 w10 tw
  by_cases q : gainM E x < shGain E p (wr E p) (wk E p) r k
  · rcases zz with ⟨g1, g2, -⟩ | ⟨g1, g2⟩
    · refine ⟨(z1, z2, z3, z4, z5, z6, z7, z8, z9, z10, u1, u2, u3, u4, u5, u6, u7, u8, u9, u10, tw', nI 2, shGain E p (wr E p) (wk E p) r k, nI p, nI r, nI k), ?_, fun k2 k43 k77 x3 x4 x6 => ?_⟩
      · show encV E (bstM E (Mv.shift p (wr E p) (wk E p) r k) x) _
        rw [bstM_yes (m := Mv.shift p (wr E p) (wk E p) r k) ⟨ha, g1⟩ q]
        rfl
      · unfold b_X2_findShifts_100 f_X2_keepFound
        simp only [lI, nI_add]
        rw [hgC, Option.bind_some, if_neg (by rw [hg]; exact Int32.not_le.mpr q), z0, Option.bind_some]
        dsimp only
        rw [if_neg (by rw [g2]; decide), Option.bind_some]
    · refine ⟨(z1, z2, z3, z4, z5, z6, z7, z8, z9, z10, u1, u2, u3, u4, u5, u6, u7, u8, u9, u10, tw', c), ?_, fun k2 k43 k77 x3 x4 x6 => ?_⟩
      · show encV E (bstM E (Mv.shift p (wr E p) (wk E p) r k) x) _
        rw [bstM_no (m := Mv.shift p (wr E p) (wk E p) r k) (fun w => g1 w.2)]
        exact hv
      · unfold b_X2_findShifts_100 f_X2_keepFound
        simp only [lI, nI_add]
        rw [hgC, Option.bind_some, if_neg (by rw [hg]; exact Int32.not_le.mpr q), z0, Option.bind_some]
        dsimp only
        rw [if_pos g2]
  · refine ⟨(y1, y2, y3, y4, y5, y6, y7, y8, y9, y10, w1, w2, w3, w4, w5, w6, w7, w8, w9, w10, tw, c), ?_, fun k2 k43 k77 x3 x4 x6 => ?_⟩
    · show encV E (bstM E (Mv.shift p (wr E p) (wk E p) r k) x) _
      rw [bstM_dear (m := Mv.shift p (wr E p) (wk E p) r k) q]
      exact hv
    · unfold b_X2_findShifts_100
      simp only [lI, nI_add]
      rw [hgC, Option.bind_some, if_pos (by rw [hg]; exact Int32.not_lt.mp q)]
theorem shifts77 (hB : GB E) (h : CW E facts ro locked rules sizes rows sc metric fixed) {p r : Nat} (hp : rof (eL E) p ≠ -nI 5) (hr : r < 4) (x : Fnd) (S : TS26) (hv : InvS E x S) : ∃ S', InvS E (shiftsFk E p r x) S' ∧ ∀ k2 k43, l_X2_findShifts_77 k2 k43 (nI p) (nI (wr E p)) (nI (wk E p)) (nI r) (nI (eL (eOut E (wr E p) (wk E p)) r).length) facts ro locked rules sizes rows sc metric fixed (nI 0, S) = k43 (nI (r + 1), S') := by
  obtain ⟨w1, w2, w3, w4, w5⟩ := wrk hp
  have hB1 : GB (eOut E (wr E p) (wk E p)) := hB.out w1 w4
  have hl := hB1.len hr
  have hlf := hB.len w1
  obtain ⟨S', h1, h2⟩ := lp_f0 (κ := (Int32 × TS26 → Option TS26) × (Int32 × TS26 → Option TS26)) (F := fun q k (x : Int32 × TS26) => b_X2_findShifts_77 q.1 q.2 (nI p) (nI (wr E p)) (nI (wk E p)) (nI r) (nI (eL (eOut E (wr E p) (wk E p)) r).length) facts ro locked rules sizes rows sc metric fixed k x.1 x.2.1 x.2.2.1 x.2.2.2.1 x.2.2.2.2.1 x.2.2.2.2.2.1 x.2.2.2.2.2.2.1 x.2.2.2.2.2.2.2.1 x.2.2.2.2.2.2.2.2.1 x.2.2.2.2.2.2.2.2.2.1 x.2.2.2.2.2.2.2.2.2.2.1 x.2.2.2.2.2.2.2.2.2.2.2.1 x.2.2.2.2.2.2.2.2.2.2.2.2.1 x.2.2.2.2.2.2.2.2.2.2.2.2.2.1 x.2.2.2.2.2.2.2.2.2.2.2.2.2.2.1 x.2.2.2.2.2.2.2.2.2.2.2.2.2.2.2.1 x.2.2.2.2.2.2.2.2.2.2.2.2.2.2.2.2.1 x.2.2.2.2.2.2.2.2.2.2.2.2.2.2.2.2.2.1 x.2.2.2.2.2.2.2.2.2.2.2.2.2.2.2.2.2.2.1 x.2.2.2.2.2.2.2.2.2.2.2.2.2.2.2.2.2.2.2.1 x.2.2.2.2.2.2.2.2.2.2.2.2.2.2.2.2.2.2.2.2.1 x.2.2.2.2.2.2.2.2.2.2.2.2.2.2.2.2.2.2.2.2.2.1 x.2.2.2.2.2.2.2.2.2.2.2.2.2.2.2.2.2.2.2.2.2.2.1 x.2.2.2.2.2.2.2.2.2.2.2.2.2.2.2.2.2.2.2.2.2.2.2.1 x.2.2.2.2.2.2.2.2.2.2.2.2.2.2.2.2.2.2.2.2.2.2.2.2.1 x.2.2.2.2.2.2.2.2.2.2.2.2.2.2.2.2.2.2.2.2.2.2.2.2.2.1 x.2.2.2.2.2.2.2.2.2.2.2.2.2.2.2.2.2.2.2.2.2.2.2.2.2.2) (G := fun q S => q.2 (nI (r + 1), S)) (InvS E) (fun k x => if r = wr E p ∧ k = wk E p then x else bstM E (Mv.shift p (wr E p) (wk E p) r k) x) ((eL (eOut E (wr E p) (wk E p)) r).length + 1) (by
    rintro t x S ht hv
    have hk : t ≤ (eL (eOut E (wr E p) (wk E p)) r).length := by omega
    obtain ⟨S', h1, h2⟩ := shifts100 hB h hp hr hk x S hv
    obtain ⟨y1, y2, y3, y4, y5, y6, y7, y8, y9, y10, v1, v2, v3, v4, v5, v6, v7, v8, v9, v10, tw, c⟩ := S
    by_cases e1 : r = wr E p
    · by_cases e2 : t = wk E p
      · refine ⟨(y1, y2, y3, y4, y5, y6, y7, y8, y9, y10, v1, v2, v3, v4, v5, v6, v7, v8, v9, v10, tw, c), ?_, fun q k => ?_⟩
        · show encV E (if r = wr E p ∧ t = wk E p then x else bstM E (Mv.shift p (wr E p) (wk E p) r t) x) _
          rw [if_pos ⟨e1, e2⟩]
          exact hv
        · show b_X2_findShifts_77 q.1 q.2 (nI p) (nI (wr E p)) (nI (wk E p)) (nI r) (nI (eL (eOut E (wr E p) (wk E p)) r).length) facts ro locked rules sizes rows sc metric fixed k (nI t) y1 y2 y3 y4 y5 y6 y7 y8 y9 y10 v1 v2 v3 v4 v5 v6 v7 v8 v9 v10 tw c.1 c.2.1 c.2.2.1 c.2.2.2.1 c.2.2.2.2 = _
          unfold b_X2_findShifts_77
          simp only [lI, nI_add]
          rw [if_neg (nI_nlt hk (by omega)), if_pos (congrArg nI e1), if_pos (congrArg nI e2)]
      · refine ⟨S', ?_, fun q k => ?_⟩
        · show encV E (if r = wr E p ∧ t = wk E p then x else bstM E (Mv.shift p (wr E p) (wk E p) r t) x) _
          rw [if_neg (fun z => e2 z.2)]
          exact h1
        · show b_X2_findShifts_77 q.1 q.2 (nI p) (nI (wr E p)) (nI (wk E p)) (nI r) (nI (eL (eOut E (wr E p) (wk E p)) r).length) facts ro locked rules sizes rows sc metric fixed k (nI t) y1 y2 y3 y4 y5 y6 y7 y8 y9 y10 v1 v2 v3 v4 v5 v6 v7 v8 v9 v10 tw c.1 c.2.1 c.2.2.1 c.2.2.2.1 c.2.2.2.2 = _
          unfold b_X2_findShifts_77
          rw [if_neg (nI_nlt hk (by omega)), if_pos (congrArg nI e1), if_neg (by rw [nI_eq (by omega) (by omega)]; exact e2)]
          exact h2 q.1 q.2 k _ _ _
    · refine ⟨S', ?_, fun q k => ?_⟩
      · show encV E (if r = wr E p ∧ t = wk E p then x else bstM E (Mv.shift p (wr E p) (wk E p) r t) x) _
        rw [if_neg (fun z => e1 z.1)]
        exact h1
      · show b_X2_findShifts_77 q.1 q.2 (nI p) (nI (wr E p)) (nI (wk E p)) (nI r) (nI (eL (eOut E (wr E p) (wk E p)) r).length) facts ro locked rules sizes rows sc metric fixed k (nI t) y1 y2 y3 y4 y5 y6 y7 y8 y9 y10 v1 v2 v3 v4 v5 v6 v7 v8 v9 v10 tw c.1 c.2.1 c.2.2.1 c.2.2.2.1 c.2.2.2.2 = _
        unfold b_X2_findShifts_77
        rw [if_neg (nI_nlt hk (by omega)), if_neg (nI_ne4 hr w1 e1)]
        exact h2 q.1 q.2 k _ _ _) (by
    rintro x ⟨y1, y2, y3, y4, y5, y6, y7, y8, y9, y10, v1, v2, v3, v4, v5, v6, v7, v8, v9, v10, tw, c⟩ hv q k
    show b_X2_findShifts_77 q.1 q.2 (nI p) (nI (wr E p)) (nI (wk E p)) (nI r) (nI (eL (eOut E (wr E p) (wk E p)) r).length) facts ro locked rules sizes rows sc metric fixed k (nI ((eL (eOut E (wr E p) (wk E p)) r).length + 1)) y1 y2 y3 y4 y5 y6 y7 y8 y9 y10 v1 v2 v3 v4 v5 v6 v7 v8 v9 v10 tw c.1 c.2.1 c.2.2.1 c.2.2.2.1 c.2.2.2.2 = _
    unfold b_X2_findShifts_77
    simp only [lI, nI_add]
    rw [if_pos (nI_lt (Nat.lt_succ_self _) (by omega))]) fu (by unfold fu; omega) x S hv
  exact ⟨S', h1, fun k2 k43 => h2 (k2, k43)⟩
theorem shifts43 (hB : GB E) (h : CW E facts ro locked rules sizes rows sc metric fixed) {p : Nat} (hp : rof (eL E) p ≠ -nI 5) (x : Fnd) (S : TS26) (hv : InvS E x S) : ∃ S', InvS E (fo (shiftsFk E p) 4 x) S' ∧ ∀ k2, l_X2_findShifts_43 k2 (nI p) (nI (wr E p)) (nI (wk E p)) facts ro locked rules sizes rows sc metric fixed (nI 0, S) = k2 (nI (p + 1), S') := by
  obtain ⟨w1, w2, w3, w4, w5⟩ := wrk hp
  have hlf := hB.len w1
  exact lp_f0 (κ := Int32 × TS26 → Option TS26) (F := fun q k (x : Int32 × TS26) => b_X2_findShifts_43 q (nI p) (nI (wr E p)) (nI (wk E p)) facts ro locked rules sizes rows sc metric fixed k x.1 x.2.1 x.2.2.1 x.2.2.2.1 x.2.2.2.2.1 x.2.2.2.2.2.1 x.2.2.2.2.2.2.1 x.2.2.2.2.2.2.2.1 x.2.2.2.2.2.2.2.2.1 x.2.2.2.2.2.2.2.2.2.1 x.2.2.2.2.2.2.2.2.2.2.1 x.2.2.2.2.2.2.2.2.2.2.2.1 x.2.2.2.2.2.2.2.2.2.2.2.2.1 x.2.2.2.2.2.2.2.2.2.2.2.2.2.1 x.2.2.2.2.2.2.2.2.2.2.2.2.2.2.1 x.2.2.2.2.2.2.2.2.2.2.2.2.2.2.2.1 x.2.2.2.2.2.2.2.2.2.2.2.2.2.2.2.2.1 x.2.2.2.2.2.2.2.2.2.2.2.2.2.2.2.2.2.1 x.2.2.2.2.2.2.2.2.2.2.2.2.2.2.2.2.2.2.1 x.2.2.2.2.2.2.2.2.2.2.2.2.2.2.2.2.2.2.2.1 x.2.2.2.2.2.2.2.2.2.2.2.2.2.2.2.2.2.2.2.2.1 x.2.2.2.2.2.2.2.2.2.2.2.2.2.2.2.2.2.2.2.2.2.1 x.2.2.2.2.2.2.2.2.2.2.2.2.2.2.2.2.2.2.2.2.2.2.1 x.2.2.2.2.2.2.2.2.2.2.2.2.2.2.2.2.2.2.2.2.2.2.2.1 x.2.2.2.2.2.2.2.2.2.2.2.2.2.2.2.2.2.2.2.2.2.2.2.2.1 x.2.2.2.2.2.2.2.2.2.2.2.2.2.2.2.2.2.2.2.2.2.2.2.2.2.1 x.2.2.2.2.2.2.2.2.2.2.2.2.2.2.2.2.2.2.2.2.2.2.2.2.2.2) (G := fun q S => q (nI (p + 1), S)) (InvS E) (shiftsFk E p) 4 (by
    rintro t x ⟨y1, y2, y3, y4, y5, y6, y7, y8, y9, y10, v1, v2, v3, v4, v5, v6, v7, v8, v9, v10, tw, c⟩ ht hv
    obtain ⟨S', h1, h2⟩ := shifts77 hB h hp ht x (y1, y2, y3, y4, y5, y6, y7, y8, y9, y10, v1, v2, v3, v4, v5, v6, v7, v8, v9, v10, tw, c) hv
    refine ⟨S', h1, fun q k => ?_⟩
    show b_X2_findShifts_43 q (nI p) (nI (wr E p)) (nI (wk E p)) facts ro locked rules sizes rows sc metric fixed k (nI t) y1 y2 y3 y4 y5 y6 y7 y8 y9 y10 v1 v2 v3 v4 v5 v6 v7 v8 v9 v10 tw c.1 c.2.1 c.2.2.1 c.2.2.2.1 c.2.2.2.2 = _
    unfold b_X2_findShifts_43
    simp only [lI, nI_add]
    rw [if_neg (nI_ge ht (by omega)), sizeOf_eq sizes ht, Option.bind_some, (h.2.2.2.2.2.2.2 t ht).1]
    by_cases e1 : t = wr E p
    · rw [if_pos (congrArg nI e1)]
      have e : nI (eL E t).length - nI 1 = nI (eL (eOut E (wr E p) (wk E p)) t).length := by
        rw [e1, show eL (eOut E (wr E p) (wk E p)) (wr E p) = del (eL E (wr E p)) (wk E p) from eL_up _ _ _, del_len w4, nI_sub1 (by omega)]
      rw [e]
      exact h2 q k
    · rw [if_neg (nI_ne4 ht w1 e1)]
      have e : eL E t = eL (eOut E (wr E p) (wk E p)) t := (fup_n e1).symm
      rw [e]
      exact h2 q k) (by
    rintro x ⟨y1, y2, y3, y4, y5, y6, y7, y8, y9, y10, v1, v2, v3, v4, v5, v6, v7, v8, v9, v10, tw, c⟩ hv q k
    show b_X2_findShifts_43 q (nI p) (nI (wr E p)) (nI (wk E p)) facts ro locked rules sizes rows sc metric fixed k (nI 4) y1 y2 y3 y4 y5 y6 y7 y8 y9 y10 v1 v2 v3 v4 v5 v6 v7 v8 v9 v10 tw c.1 c.2.1 c.2.2.1 c.2.2.2.1 c.2.2.2.2 = _
    unfold b_X2_findShifts_43
    simp only [lI, nI_add]
    rw [if_pos (nI_le (Nat.le_refl _) (by decide))]) fu (by unfold fu; omega) x S hv
theorem shiftsC (hB : GB E) (h : CW E facts ro locked rules sizes rows sc metric fixed) (x : Fnd) (S : TS26) (hv : InvS E x S) : ∃ S' : TS26, InvS E (shiftsF E x) S' ∧ f_X2_findShifts S.1 S.2.1 S.2.2.1 S.2.2.2.1 S.2.2.2.2.1 S.2.2.2.2.2.1 S.2.2.2.2.2.2.1 S.2.2.2.2.2.2.2.1 S.2.2.2.2.2.2.2.2.1 S.2.2.2.2.2.2.2.2.2.1 S.2.2.2.2.2.2.2.2.2.2.1 S.2.2.2.2.2.2.2.2.2.2.2.1 S.2.2.2.2.2.2.2.2.2.2.2.2.1 S.2.2.2.2.2.2.2.2.2.2.2.2.2.1 S.2.2.2.2.2.2.2.2.2.2.2.2.2.2.1 S.2.2.2.2.2.2.2.2.2.2.2.2.2.2.2.1 S.2.2.2.2.2.2.2.2.2.2.2.2.2.2.2.2.1 S.2.2.2.2.2.2.2.2.2.2.2.2.2.2.2.2.2.1 S.2.2.2.2.2.2.2.2.2.2.2.2.2.2.2.2.2.2.1 S.2.2.2.2.2.2.2.2.2.2.2.2.2.2.2.2.2.2.2.1 S.2.2.2.2.2.2.2.2.2.2.2.2.2.2.2.2.2.2.2.2.1 S.2.2.2.2.2.2.2.2.2.2.2.2.2.2.2.2.2.2.2.2.2.1 S.2.2.2.2.2.2.2.2.2.2.2.2.2.2.2.2.2.2.2.2.2.2.1 S.2.2.2.2.2.2.2.2.2.2.2.2.2.2.2.2.2.2.2.2.2.2.2.1 S.2.2.2.2.2.2.2.2.2.2.2.2.2.2.2.2.2.2.2.2.2.2.2.2.1 S.2.2.2.2.2.2.2.2.2.2.2.2.2.2.2.2.2.2.2.2.2.2.2.2.2 facts ro locked rules sizes rows sc metric fixed = some S' := by
  have hN := hB.1
  obtain ⟨S', h1, h2⟩ := lp_f0 (κ := Unit) (F := fun _ k (x : Int32 × TS26) => b_X2_findShifts_2 facts ro locked rules sizes rows sc metric fixed k x.1 x.2.1 x.2.2.1 x.2.2.2.1 x.2.2.2.2.1 x.2.2.2.2.2.1 x.2.2.2.2.2.2.1 x.2.2.2.2.2.2.2.1 x.2.2.2.2.2.2.2.2.1 x.2.2.2.2.2.2.2.2.2.1 x.2.2.2.2.2.2.2.2.2.2.1 x.2.2.2.2.2.2.2.2.2.2.2.1 x.2.2.2.2.2.2.2.2.2.2.2.2.1 x.2.2.2.2.2.2.2.2.2.2.2.2.2.1 x.2.2.2.2.2.2.2.2.2.2.2.2.2.2.1 x.2.2.2.2.2.2.2.2.2.2.2.2.2.2.2.1 x.2.2.2.2.2.2.2.2.2.2.2.2.2.2.2.2.1 x.2.2.2.2.2.2.2.2.2.2.2.2.2.2.2.2.2.1 x.2.2.2.2.2.2.2.2.2.2.2.2.2.2.2.2.2.2.1 x.2.2.2.2.2.2.2.2.2.2.2.2.2.2.2.2.2.2.2.1 x.2.2.2.2.2.2.2.2.2.2.2.2.2.2.2.2.2.2.2.2.1 x.2.2.2.2.2.2.2.2.2.2.2.2.2.2.2.2.2.2.2.2.2.1 x.2.2.2.2.2.2.2.2.2.2.2.2.2.2.2.2.2.2.2.2.2.2.1 x.2.2.2.2.2.2.2.2.2.2.2.2.2.2.2.2.2.2.2.2.2.2.2.1 x.2.2.2.2.2.2.2.2.2.2.2.2.2.2.2.2.2.2.2.2.2.2.2.2.1 x.2.2.2.2.2.2.2.2.2.2.2.2.2.2.2.2.2.2.2.2.2.2.2.2.2.1 x.2.2.2.2.2.2.2.2.2.2.2.2.2.2.2.2.2.2.2.2.2.2.2.2.2.2) (G := fun _ (S : TS26) => some S) (InvS E) (shiftsFp E) (eN E) (by
    rintro t x ⟨y1, y2, y3, y4, y5, y6, y7, y8, y9, y10, v1, v2, v3, v4, v5, v6, v7, v8, v9, v10, tw, c⟩ ht hv
    have hro := (placeOf_eq hB h ht).2
    by_cases q1 : rof (eL E) t = -nI 5
    · refine ⟨(y1, y2, y3, y4, y5, y6, y7, y8, y9, y10, v1, v2, v3, v4, v5, v6, v7, v8, v9, v10, tw, c), ?_, fun q k => ?_⟩
      · show encV E (shiftsFp E t x) _
        unfold shiftsFp
        rw [if_pos (Or.inl q1)]
        exact hv
      · show b_X2_findShifts_2 facts ro locked rules sizes rows sc metric fixed k (nI t) y1 y2 y3 y4 y5 y6 y7 y8 y9 y10 v1 v2 v3 v4 v5 v6 v7 v8 v9 v10 tw c.1 c.2.1 c.2.2.1 c.2.2.2.1 c.2.2.2.2 = _
        unfold b_X2_findShifts_2
        simp only [lI, nI_add]
        rw [h.1, if_neg (nI_ge ht (by omega)), hro, Option.bind_some, if_pos q1]
    · obtain ⟨w1, w2, w3, w4, w5⟩ := wrk q1
      by_cases q2 : eK E t = nI 1
      · refine ⟨(y1, y2, y3, y4, y5, y6, y7, y8, y9, y10, v1, v2, v3, v4, v5, v6, v7, v8, v9, v10, tw, c), ?_, fun q k => ?_⟩
        · show encV E (shiftsFp E t x) _
          unfold shiftsFp
          rw [if_pos (Or.inr q2)]
          exact hv
        · show b_X2_findShifts_2 facts ro locked rules sizes rows sc metric fixed k (nI t) y1 y2 y3 y4 y5 y6 y7 y8 y9 y10 v1 v2 v3 v4 v5 v6 v7 v8 v9 v10 tw c.1 c.2.1 c.2.2.1 c.2.2.2.1 c.2.2.2.2 = _
          unfold b_X2_findShifts_2
          simp only [lI, nI_add]
          rw [h.1, if_neg (nI_ge ht (by omega)), hro, Option.bind_some, if_neg q1, lockC hB h ht, Option.bind_some, q2, if_neg (by decide)]
      · obtain ⟨S', h1, h2⟩ := shifts43 hB h q1 x (y1, y2, y3, y4, y5, y6, y7, y8, y9, y10, v1, v2, v3, v4, v5, v6, v7, v8, v9, v10, tw, c) hv
        refine ⟨S', ?_, fun q k => ?_⟩
        · show encV E (shiftsFp E t x) _
          unfold shiftsFp
          rw [if_neg (fun z => z.elim q1 q2)]
          exact h1
        · show b_X2_findShifts_2 facts ro locked rules sizes rows sc metric fixed k (nI t) y1 y2 y3 y4 y5 y6 y7 y8 y9 y10 v1 v2 v3 v4 v5 v6 v7 v8 v9 v10 tw c.1 c.2.1 c.2.2.1 c.2.2.2.1 c.2.2.2.2 = _
          unfold b_X2_findShifts_2
          simp only [lI, nI_add]
          have hk0 : eK E t = nI 0 := (kk hB ht).resolve_right q2
          rw [h.1, if_neg (nI_ge ht (by omega)), hro, Option.bind_some, if_neg q1, lockC hB h ht, Option.bind_some, if_pos hk0, (placeOf_eq hB h ht).1 _ w1 w2, Option.bind_some, w3]
          exact h.1 ▸ h2 k) (by
    rintro x ⟨y1, y2, y3, y4, y5, y6, y7, y8, y9, y10, v1, v2, v3, v4, v5, v6, v7, v8, v9, v10, tw, c⟩ hv q k
    show b_X2_findShifts_2 facts ro locked rules sizes rows sc metric fixed k (nI (eN E)) y1 y2 y3 y4 y5 y6 y7 y8 y9 y10 v1 v2 v3 v4 v5 v6 v7 v8 v9 v10 tw c.1 c.2.1 c.2.2.1 c.2.2.2.1 c.2.2.2.2 = _
    unfold b_X2_findShifts_2
    rw [h.1, if_pos (nI_le (Nat.le_refl _) (by omega))]) fu (by unfold fu; omega) x S hv
  exact ⟨S', h1, h2 ()⟩
theorem swArg_q {E : ES} {p q : Nat} (hp : rof (eL E) p ≠ -nI 5) (hq : rof (eL E) q ≠ -nI 5) (hne : p ≠ q) : swArg E p q (wr E p) (wk E p) (wr E q) (wk E q) := by
  obtain ⟨h1, h2, h3, h4, h5⟩ := wrk hp
  obtain ⟨g1, g2, g3, g4, g5⟩ := wrk hq
  exact ⟨h1, g1, h4, g4, h5, g5, hne⟩
theorem swaps14 (hB : GB E) (h : CW E facts ro locked rules sizes rows sc metric fixed) {p : Nat} (hpn : p < eN E) (x : Fnd) (S : TS26) (hI : InvS E x S) : ∃ S', InvS E (swapsFp E p x) S' ∧ ∀ k2, l_X2_findSwaps_14 k2 (nI p) facts ro locked rules sizes rows sc metric (nI (p + 1), S) = k2 (nI (p + 1), S') := by
  have hN := hB.1
  exact lp_fo (κ := Int32 × TS26 → Option TS26) (F := fun q k (x : Int32 × TS26) => b_X2_findSwaps_14 q (nI p) facts ro locked rules sizes rows sc metric k x.1 x.2.1 x.2.2.1 x.2.2.2.1 x.2.2.2.2.1 x.2.2.2.2.2.1 x.2.2.2.2.2.2.1 x.2.2.2.2.2.2.2.1 x.2.2.2.2.2.2.2.2.1 x.2.2.2.2.2.2.2.2.2.1 x.2.2.2.2.2.2.2.2.2.2.1 x.2.2.2.2.2.2.2.2.2.2.2.1 x.2.2.2.2.2.2.2.2.2.2.2.2.1 x.2.2.2.2.2.2.2.2.2.2.2.2.2.1 x.2.2.2.2.2.2.2.2.2.2.2.2.2.2.1 x.2.2.2.2.2.2.2.2.2.2.2.2.2.2.2.1 x.2.2.2.2.2.2.2.2.2.2.2.2.2.2.2.2.1 x.2.2.2.2.2.2.2.2.2.2.2.2.2.2.2.2.2.1 x.2.2.2.2.2.2.2.2.2.2.2.2.2.2.2.2.2.2.1 x.2.2.2.2.2.2.2.2.2.2.2.2.2.2.2.2.2.2.2.1 x.2.2.2.2.2.2.2.2.2.2.2.2.2.2.2.2.2.2.2.2.1 x.2.2.2.2.2.2.2.2.2.2.2.2.2.2.2.2.2.2.2.2.2.1 x.2.2.2.2.2.2.2.2.2.2.2.2.2.2.2.2.2.2.2.2.2.2.1 x.2.2.2.2.2.2.2.2.2.2.2.2.2.2.2.2.2.2.2.2.2.2.2.1 x.2.2.2.2.2.2.2.2.2.2.2.2.2.2.2.2.2.2.2.2.2.2.2.2.1 x.2.2.2.2.2.2.2.2.2.2.2.2.2.2.2.2.2.2.2.2.2.2.2.2.2.1 x.2.2.2.2.2.2.2.2.2.2.2.2.2.2.2.2.2.2.2.2.2.2.2.2.2.2) (G := fun q S => q (nI (p + 1), S)) (InvS E) (fun d => swapsFq E p (p + 1 + d)) (p + 1) (eN E - (p + 1)) (by
    rintro t x ⟨y1, y2, y3, y4, y5, y6, y7, y8, y9, y10, v1, v2, v3, v4, v5, v6, v7, v8, v9, v10, tw, c⟩ ht hv
    change encV E x c at hv
    have hg := encV_gain hv
    obtain ⟨j, hj⟩ : ∃ j, j = p + 1 + t := ⟨_, rfl⟩
    rw [← hj]
    have hjl : j < eN E := by omega
    have hro := (placeOf_eq hB h hpn).2
    have hro2 := (placeOf_eq hB h hjl).2
    by_cases q1 : rof (eL E) p = -nI 5
    · refine ⟨(y1, y2, y3, y4, y5, y6, y7, y8, y9, y10, v1, v2, v3, v4, v5, v6, v7, v8, v9, v10, tw, c), ?_, fun q k => ?_⟩
      · show encV E (swapsFq E p j x) _
        unfold swapsFq
        rw [if_pos (Or.inl q1)]
        exact hv
      · show b_X2_findSwaps_14 q (nI p) facts ro locked rules sizes rows sc metric k (nI j) y1 y2 y3 y4 y5 y6 y7 y8 y9 y10 v1 v2 v3 v4 v5 v6 v7 v8 v9 v10 tw c.1 c.2.1 c.2.2.1 c.2.2.2.1 c.2.2.2.2 = _
        unfold b_X2_findSwaps_14
        simp only [lI, nI_add]
        rw [h.1, if_neg (nI_ge hjl (by omega)), hro, Option.bind_some, if_pos q1]
    · by_cases q2 : rof (eL E) j = -nI 5
      · refine ⟨(y1, y2, y3, y4, y5, y6, y7, y8, y9, y10, v1, v2, v3, v4, v5, v6, v7, v8, v9, v10, tw, c), ?_, fun q k => ?_⟩
        · show encV E (swapsFq E p j x) _
          unfold swapsFq
          rw [if_pos (Or.inr q2)]
          exact hv
        · show b_X2_findSwaps_14 q (nI p) facts ro locked rules sizes rows sc metric k (nI j) y1 y2 y3 y4 y5 y6 y7 y8 y9 y10 v1 v2 v3 v4 v5 v6 v7 v8 v9 v10 tw c.1 c.2.1 c.2.2.1 c.2.2.2.1 c.2.2.2.2 = _
          unfold b_X2_findSwaps_14
          simp only [lI, nI_add]
          rw [h.1, if_neg (nI_ge hjl (by omega)), hro, Option.bind_some, if_neg q1, hro2, Option.bind_some, if_pos q2]
      · have hs := swArg_q q1 q2 (show p ≠ j by omega)
        have hgC := swapGainC hB h hs
        obtain ⟨v, z1, z2, z3, z4, z5, z6, z7, z8, z9, z10, u1, u2, u3, u4, u5, u6, u7, u8, u9, u10, tw', z0, zz⟩ := trySwapC hB h hs y1 y2 y3 y4 y5 y6 y7 y8 y9 y10 v1 v2 v3 v4 v5 v6 v7 v8 v9 v10 tw
        have hF : swapsFq E p j x = bstM E (Mv.swap p j (wr E p) (wk E p) (wr E j) (wk E j)) x := by
          unfold swapsFq
          rw [if_neg (fun z => z.elim q1 q2)]
        by_cases q : gainM E x < swGain E p j (wr E p) (wk E p) (wr E j) (wk E j)
        · rcases zz with ⟨g1, g2, -⟩ | ⟨g1, g2⟩
          · refine ⟨(z1, z2, z3, z4, z5, z6, z7, z8, z9, z10, u1, u2, u3, u4, u5, u6, u7, u8, u9, u10, tw', nI 3, swGain E p j (wr E p) (wk E p) (wr E j) (wk E j), nI p, nI j, -nI 5), ?_, fun qq k => ?_⟩
            · show encV E (swapsFq E p j x) _
              rw [hF, bstM_yes (m := Mv.swap p j (wr E p) (wk E p) (wr E j) (wk E j)) ⟨hs, g1⟩ q]
              rfl
            · show b_X2_findSwaps_14 qq (nI p) facts ro locked rules sizes rows sc metric k (nI j) y1 y2 y3 y4 y5 y6 y7 y8 y9 y10 v1 v2 v3 v4 v5 v6 v7 v8 v9 v10 tw c.1 c.2.1 c.2.2.1 c.2.2.2.1 c.2.2.2.2 = _
              unfold b_X2_findSwaps_14 f_X2_keepFound
              simp only [lI, nI_add]
              rw [h.1, if_neg (nI_ge hjl (by omega)), hro, Option.bind_some, if_neg q1, hro2, Option.bind_some, if_neg q2, hgC, Option.bind_some, if_neg (by rw [hg]; exact Int32.not_le.mpr q), z0, Option.bind_some]
              dsimp only
              rw [if_neg (by rw [g2]; decide), Option.bind_some]
          · refine ⟨(z1, z2, z3, z4, z5, z6, z7, z8, z9, z10, u1, u2, u3, u4, u5, u6, u7, u8, u9, u10, tw', c), ?_, fun qq k => ?_⟩
            · show encV E (swapsFq E p j x) _
              rw [hF, bstM_no (m := Mv.swap p j (wr E p) (wk E p) (wr E j) (wk E j)) (fun w => g1 w.2)]
              exact hv
            · show b_X2_findSwaps_14 qq (nI p) facts ro locked rules sizes rows sc metric k (nI j) y1 y2 y3 y4 y5 y6 y7 y8 y9 y10 v1 v2 v3 v4 v5 v6 v7 v8 v9 v10 tw c.1 c.2.1 c.2.2.1 c.2.2.2.1 c.2.2.2.2 = _
              unfold b_X2_findSwaps_14 f_X2_keepFound
              simp only [lI, nI_add]
              rw [h.1, if_neg (nI_ge hjl (by omega)), hro, Option.bind_some, if_neg q1, hro2, Option.bind_some, if_neg q2, hgC, Option.bind_some, if_neg (by rw [hg]; exact Int32.not_le.mpr q), z0, Option.bind_some]
              dsimp only
              rw [if_pos g2]
        · refine ⟨(y1, y2, y3, y4, y5, y6, y7, y8, y9, y10, v1, v2, v3, v4, v5, v6, v7, v8, v9, v10, tw, c), ?_, fun qq k => ?_⟩
          · show encV E (swapsFq E p j x) _
            rw [hF, bstM_dear (m := Mv.swap p j (wr E p) (wk E p) (wr E j) (wk E j)) q]
            exact hv
          · show b_X2_findSwaps_14 qq (nI p) facts ro locked rules sizes rows sc metric k (nI j) y1 y2 y3 y4 y5 y6 y7 y8 y9 y10 v1 v2 v3 v4 v5 v6 v7 v8 v9 v10 tw c.1 c.2.1 c.2.2.1 c.2.2.2.1 c.2.2.2.2 = _
            unfold b_X2_findSwaps_14
            simp only [lI, nI_add]
            rw [h.1, if_neg (nI_ge hjl (by omega)), hro, Option.bind_some, if_neg q1, hro2, Option.bind_some, if_neg q2, hgC, Option.bind_some, if_pos (by rw [hg]; exact Int32.not_lt.mp q)]) (by
    rintro x ⟨y1, y2, y3, y4, y5, y6, y7, y8, y9, y10, v1, v2, v3, v4, v5, v6, v7, v8, v9, v10, tw, c⟩ hv q k
    show b_X2_findSwaps_14 q (nI p) facts ro locked rules sizes rows sc metric k (nI (p + 1 + (eN E - (p + 1)))) y1 y2 y3 y4 y5 y6 y7 y8 y9 y10 v1 v2 v3 v4 v5 v6 v7 v8 v9 v10 tw c.1 c.2.1 c.2.2.1 c.2.2.2.1 c.2.2.2.2 = _
    unfold b_X2_findSwaps_14
    simp only [lI, nI_add]
    rw [h.1, if_pos (nI_le (by omega) (by omega))]) fu (by unfold fu; omega) x S hI
theorem swapsC (hB : GB E) (h : CW E facts ro locked rules sizes rows sc metric fixed) (x : Fnd) (S : TS26) (hv : InvS E x S) : ∃ S' : TS26, InvS E (swapsF E x) S' ∧ f_X2_findSwaps S.1 S.2.1 S.2.2.1 S.2.2.2.1 S.2.2.2.2.1 S.2.2.2.2.2.1 S.2.2.2.2.2.2.1 S.2.2.2.2.2.2.2.1 S.2.2.2.2.2.2.2.2.1 S.2.2.2.2.2.2.2.2.2.1 S.2.2.2.2.2.2.2.2.2.2.1 S.2.2.2.2.2.2.2.2.2.2.2.1 S.2.2.2.2.2.2.2.2.2.2.2.2.1 S.2.2.2.2.2.2.2.2.2.2.2.2.2.1 S.2.2.2.2.2.2.2.2.2.2.2.2.2.2.1 S.2.2.2.2.2.2.2.2.2.2.2.2.2.2.2.1 S.2.2.2.2.2.2.2.2.2.2.2.2.2.2.2.2.1 S.2.2.2.2.2.2.2.2.2.2.2.2.2.2.2.2.2.1 S.2.2.2.2.2.2.2.2.2.2.2.2.2.2.2.2.2.2.1 S.2.2.2.2.2.2.2.2.2.2.2.2.2.2.2.2.2.2.2.1 S.2.2.2.2.2.2.2.2.2.2.2.2.2.2.2.2.2.2.2.2.1 S.2.2.2.2.2.2.2.2.2.2.2.2.2.2.2.2.2.2.2.2.2.1 S.2.2.2.2.2.2.2.2.2.2.2.2.2.2.2.2.2.2.2.2.2.2.1 S.2.2.2.2.2.2.2.2.2.2.2.2.2.2.2.2.2.2.2.2.2.2.2.1 S.2.2.2.2.2.2.2.2.2.2.2.2.2.2.2.2.2.2.2.2.2.2.2.2.1 S.2.2.2.2.2.2.2.2.2.2.2.2.2.2.2.2.2.2.2.2.2.2.2.2.2 facts ro locked rules sizes rows sc metric = some S' := by
  have hN := hB.1
  obtain ⟨S', h1, h2⟩ := lp_f0 (κ := Unit) (F := fun _ k (x : Int32 × TS26) => b_X2_findSwaps_2 facts ro locked rules sizes rows sc metric k x.1 x.2.1 x.2.2.1 x.2.2.2.1 x.2.2.2.2.1 x.2.2.2.2.2.1 x.2.2.2.2.2.2.1 x.2.2.2.2.2.2.2.1 x.2.2.2.2.2.2.2.2.1 x.2.2.2.2.2.2.2.2.2.1 x.2.2.2.2.2.2.2.2.2.2.1 x.2.2.2.2.2.2.2.2.2.2.2.1 x.2.2.2.2.2.2.2.2.2.2.2.2.1 x.2.2.2.2.2.2.2.2.2.2.2.2.2.1 x.2.2.2.2.2.2.2.2.2.2.2.2.2.2.1 x.2.2.2.2.2.2.2.2.2.2.2.2.2.2.2.1 x.2.2.2.2.2.2.2.2.2.2.2.2.2.2.2.2.1 x.2.2.2.2.2.2.2.2.2.2.2.2.2.2.2.2.2.1 x.2.2.2.2.2.2.2.2.2.2.2.2.2.2.2.2.2.2.1 x.2.2.2.2.2.2.2.2.2.2.2.2.2.2.2.2.2.2.2.1 x.2.2.2.2.2.2.2.2.2.2.2.2.2.2.2.2.2.2.2.2.1 x.2.2.2.2.2.2.2.2.2.2.2.2.2.2.2.2.2.2.2.2.2.1 x.2.2.2.2.2.2.2.2.2.2.2.2.2.2.2.2.2.2.2.2.2.2.1 x.2.2.2.2.2.2.2.2.2.2.2.2.2.2.2.2.2.2.2.2.2.2.2.1 x.2.2.2.2.2.2.2.2.2.2.2.2.2.2.2.2.2.2.2.2.2.2.2.2.1 x.2.2.2.2.2.2.2.2.2.2.2.2.2.2.2.2.2.2.2.2.2.2.2.2.2.1 x.2.2.2.2.2.2.2.2.2.2.2.2.2.2.2.2.2.2.2.2.2.2.2.2.2.2) (G := fun _ (S : TS26) => some S) (InvS E) (swapsFp E) (eN E) (by
    rintro t x ⟨y1, y2, y3, y4, y5, y6, y7, y8, y9, y10, v1, v2, v3, v4, v5, v6, v7, v8, v9, v10, tw, c⟩ ht hv
    obtain ⟨S', h1, h2⟩ := swaps14 hB h ht x (y1, y2, y3, y4, y5, y6, y7, y8, y9, y10, v1, v2, v3, v4, v5, v6, v7, v8, v9, v10, tw, c) hv
    refine ⟨S', h1, fun q k => ?_⟩
    show b_X2_findSwaps_2 facts ro locked rules sizes rows sc metric k (nI t) y1 y2 y3 y4 y5 y6 y7 y8 y9 y10 v1 v2 v3 v4 v5 v6 v7 v8 v9 v10 tw c.1 c.2.1 c.2.2.1 c.2.2.2.1 c.2.2.2.2 = _
    unfold b_X2_findSwaps_2
    simp only [lI, nI_add]
    rw [if_neg (by rw [h.1]; exact nI_ge ht (by omega))]
    exact h2 k) (by
    rintro x ⟨y1, y2, y3, y4, y5, y6, y7, y8, y9, y10, v1, v2, v3, v4, v5, v6, v7, v8, v9, v10, tw, c⟩ hv q k
    show b_X2_findSwaps_2 facts ro locked rules sizes rows sc metric k (nI (eN E)) y1 y2 y3 y4 y5 y6 y7 y8 y9 y10 v1 v2 v3 v4 v5 v6 v7 v8 v9 v10 tw c.1 c.2.1 c.2.2.1 c.2.2.2.1 c.2.2.2.2 = _
    unfold b_X2_findSwaps_2
    rw [if_pos (by rw [h.1]; exact nI_le (Nat.le_refl _) (by omega))]) fu (by unfold fu; omega) x S hv
  exact ⟨S', h1, h2 ()⟩
/-- the best of the moves, in the class -/
theorem findC (hB : GB E) (h : CW E facts ro locked rules sizes rows sc metric fixed) (y1 y2 y3 : Nat → Int32) (y4 y5 y6 y7 y8 y9 y10 : Int32) (v1 v2 v3 : Nat → Int32) (v4 v5 v6 v7 v8 v9 v10 tw a b c : Int32) : ∃ S' : TS26, InvS E (bestF E) S' ∧ f_X2_find y1 y2 y3 y4 y5 y6 y7 y8 y9 y10 v1 v2 v3 v4 v5 v6 v7 v8 v9 v10 tw a b c facts ro locked rules sizes rows sc metric fixed = some S' := by
  obtain ⟨⟨z1, z2, z3, z4, z5, z6, z7, z8, z9, z10, z11, d⟩, h1, h2⟩ := turnsC hB h none y1 y2 y3 y4 y5 y6 y7 y8 y9 y10 tw (-nI 5, nI 0, a, b, c) ⟨rfl, rfl⟩
  obtain ⟨⟨p1, p2, p3, p4, p5, p6, p7, p8, p9, p10, p11, p12, p13, p14, p15, p16, p17, p18, p19, p20, p21, e⟩, h3, h4⟩ := shiftsC hB h (turnsF E none) (z1, z2, z3, z4, z5, z6, z7, z8, z9, z10, v1, v2, v3, v4, v5, v6, v7, v8, v9, v10, z11, d) h1
  obtain ⟨⟨s1, s2, s3, s4, s5, s6, s7, s8, s9, s10, s11, s12, s13, s14, s15, s16, s17, s18, s19, s20, s21, g⟩, h5, h6⟩ := swapsC hB h (shiftsF E (turnsF E none)) (p1, p2, p3, p4, p5, p6, p7, p8, p9, p10, p11, p12, p13, p14, p15, p16, p17, p18, p19, p20, p21, e) h3
  refine ⟨(s1, s2, s3, s4, s5, s6, s7, s8, s9, s10, s11, s12, s13, s14, s15, s16, s17, s18, s19, s20, s21, g), h5, ?_⟩
  unfold f_X2_find
  simp only [lI]
  dsimp only at h2 h4 h6
  rw [h2, Option.bind_some]
  dsimp only
  rw [h4, Option.bind_some]
  dsimp only
  rw [h6, Option.bind_some]
end FS
