/-! B13: what holds, in both -/
section HOLDC
variable {E : ES} {facts ro locked rules sizes rows : Nat → Int32} {sc metric fixed : Int32}
theorem loadC (hB : GB E) (h : CW E facts ro locked rules sizes rows sc metric fixed) {r : Nat} (hr : r < 4) (row : Nat → Int32) : ∃ row', Rep row' 0 (eL E r) ∧ f_X0_load row sizes rows (nI r) = some (row', nI r, nI (eL E r).length) :=
  load_eq hr (h.2.2.2.2.2.2.2 r hr).1 (h.2.2.2.2.2.2.2 r hr).2 (hB.len hr)
theorem folC (hB : GB E) (h : CW E facts ro locked rules sizes rows sc metric fixed) {r : Nat} (hr : r < 4) {row : Nat → Int32} {M : List Nat} (hrow : Rep row 0 M) (hl : M.length ≤ 16) (hm : ∀ p ∈ M, p < eN E) (comes begins : Nat → Int32) (d : Int32) : ∃ q, Fol (eM E) (eF E) (eR E r 1 + d) (eR E r 2) (eR E r 0) M q ∧ f_X0_follow row comes begins (nI r) (nI M.length) facts rules metric d = some q := by
  obtain ⟨q, h1, h2⟩ := follow_eq (comes := comes) (begins := begins) (rules := rules) (me := metric) hr hrow hl hm hB.1 h.2.2.2.1 d
  have hu := h.2.2.2.2.2.2.1 r hr
  rw [hu 1 (by decide), hu 2 (by decide), show 3 * r = 3 * r + 0 from rfl, hu 0 (by decide), h.2.1] at h1
  exact ⟨q, h1, h2⟩
theorem holdsC (hB : GB E) (h : CW E facts ro locked rules sizes rows sc metric fixed) {r : Nat} (hr : r < 4) (row comes begins : Nat → Int32) (rd sz bk lo mi wa la : Int32) : ∃ q, f_X7_holds facts rules sizes rows metric row comes begins rd sz bk lo mi wa la (nI r) = some q ∧ (eH E r (eL E r) ∧ q.1 = nI 1 ∨ ¬ eH E r (eL E r) ∧ q.1 = nI 0) := by
  obtain ⟨row', h1, h2⟩ := loadC hB h hr row
  obtain ⟨⟨v, q⟩, h3, h4⟩ := folC hB h hr h1 (hB.len hr) (hB.mem hr) comes begins (nI 0)
  unfold f_X7_holds
  simp only [lI]
  rw [isRound_eq hr, Option.bind_some, if_neg (show ¬ nI 1 = nI 0 by decide), h2, Option.bind_some]
  dsimp only
  rw [h4, Option.bind_some]
  have h5 := h3.2.2
  dsimp only
  rw [gd_t (by rcases h5 with ⟨-, h5⟩ | ⟨-, h5⟩ <;> first | exact Or.inl h5 | exact Or.inr h5)]
  exact ⟨_, rfl, h5⟩
theorem allHoldC (hB : GB E) (h : CW E facts ro locked rules sizes rows sc metric fixed) (row comes begins : Nat → Int32) (rd sz bk lo mi wa la : Int32) : ∃ q, f_X7_allHold facts rules sizes rows metric row comes begins rd sz bk lo mi wa la = some q ∧ ((∀ r, r < 4 → eH E r (eL E r)) ∧ q.1 = nI 1 ∨ ¬ (∀ r, r < 4 → eH E r (eL E r)) ∧ q.1 = nI 0) := by
  unfold f_X7_allHold l_X7_allHold_2
  simp only [lI]
  obtain ⟨r, h1, h2⟩ := lp_inv (F := fun k (x : Int32 × (Nat → Int32) × (Nat → Int32) × (Nat → Int32) × Int32 × Int32 × Int32 × Int32 × Int32 × Int32 × Int32) => b_X7_allHold_2 facts rules sizes rows metric k x.1 x.2.1 x.2.2.1 x.2.2.2.1 x.2.2.2.2.1 x.2.2.2.2.2.1 x.2.2.2.2.2.2.1 x.2.2.2.2.2.2.2.1 x.2.2.2.2.2.2.2.2.1 x.2.2.2.2.2.2.2.2.2.1 x.2.2.2.2.2.2.2.2.2.2) (fun t x => x.1 = nI t ∧ ∀ r, r < t → eH E r (eL E r)) (fun q => (∀ r, r < 4 → eH E r (eL E r)) ∧ q.1 = nI 1 ∨ ¬ (∀ r, r < 4 → eH E r (eL E r)) ∧ q.1 = nI 0) 4 (by
    rintro t ⟨x1, x2, x3, x4, x5, x6, x7, x8, x9, x10, x11⟩ ht ⟨e, hp⟩
    dsimp only at e
    subst e
    obtain ⟨⟨v, q2, q3, q4, q5, q6, q7, q8, q9, q10, q11⟩, g1, g2⟩ := holdsC hB h ht x2 x3 x4 x5 x6 x7 x8 x9 x10 x11
    dsimp only at g2
    rcases g2 with ⟨g2, g3⟩ | ⟨g2, g3⟩
    · refine Or.inl ⟨(nI (t + 1), q2, q3, q4, q5, q6, q7, q8, q9, q10, q11), ⟨rfl, fun r hr => ?_⟩, fun k => ?_⟩
      · by_cases hrt : r = t
        · rw [hrt]; exact g2
        · exact hp r (by omega)
      · show b_X7_allHold_2 _ _ _ _ _ k (nI t) _ _ _ _ _ _ _ _ _ _ = _
        unfold b_X7_allHold_2
        simp only [lI, nI_add]
        rw [if_neg (nI_ge ht (by decide)), g1, Option.bind_some]
        dsimp only
        rw [if_neg (by rw [g3]; decide)]
    · refine Or.inr ⟨(v, q2, q3, q4, q5, q6, q7, q8, q9, q10, q11), Or.inr ⟨fun hh => g2 (hh t ht), g3⟩, fun k => ?_⟩
      · show b_X7_allHold_2 _ _ _ _ _ k (nI t) _ _ _ _ _ _ _ _ _ _ = _
        unfold b_X7_allHold_2
        simp only [lI, nI_add]
        rw [if_neg (nI_ge ht (by decide)), g1, Option.bind_some]
        dsimp only
        rw [if_pos g3, g3]) (by
    rintro ⟨x1, x2, x3, x4, x5, x6, x7, x8, x9, x10, x11⟩ ⟨e, hp⟩
    dsimp only at e
    subst e
    refine ⟨(nI 1, x2, x3, x4, x5, x6, x7, x8, x9, x10, x11), Or.inl ⟨hp, rfl⟩, fun k => ?_⟩
    · show b_X7_allHold_2 _ _ _ _ _ k (nI 4) _ _ _ _ _ _ _ _ _ _ = _
      unfold b_X7_allHold_2
      simp only [lI]
      rw [if_pos (nI_le (Nat.le_refl _) (by decide))]) fu (nI 0, row, comes, begins, rd, sz, bk, lo, mi, wa, la) (by unfold fu; omega) ⟨rfl, fun r hr => absurd hr (Nat.not_lt_zero r)⟩
  exact ⟨r, h2, h1⟩
end HOLDC
theorem GB.room {E : ES} (hB : GB E) {r w : Nat} (hr : r < 4) (hw : w < 3) : nI 0 ≤ eR E r w := by
  obtain ⟨a, ha, e⟩ := hB.2.2.2.2.2.2.1 r hr w hw
  rw [e]
  exact nI_0le (by omega)
theorem lateM {E : ES} {s : Nat → Int32} (hB : GB E) (h : MW E s) {r : Nat} (hr : r < 4) (comes begins : Nat → Int32) (d : Int32) : ∃ v cs bs back wa lo, f_X8_lateBy s comes begins (nI r) d = some (v, cs, bs, back, wa, lo) ∧ (∀ k, k < (eL E r).length → cs k = cm (eD E) (eF E) (eR E r 1 + d) (eL E r) k ∧ bs k = bg (eD E) (eF E) (eR E r 1 + d) (eL E r) k) ∧ back = (if (eL E r).length = 0 then eR E r 1 else bk (eD E) (eF E) (eR E r 1 + d) (eL E r)) ∧ wa = wt (eD E) (eF E) (eR E r 1 + d) (eL E r) (eL E r).length ∧ lo = ld (eF E) (eL E r) (eL E r).length ∧ Lat (eD E) (eF E) (eR E r 1 + d) (eR E r 2) (eL E r) v := by
  have hu := h.2.2.2.2.2.1 r hr
  have := lateBy_eq (comes := comes) (begins := begins) h.2.1 hB.2.1 hr (h.2.2.2.2.2.2 r hr) (hB.len hr) (hB.mem hr) hB.1 h.2.2.2.1 hB.2.2.2.1 d
  rw [hu 1 (by decide), hu 2 (by decide)] at this
  exact this
theorem holdsM {E : ES} {s : Nat → Int32} (hB : GB E) (h : MW E s) {r : Nat} (hr : r < 4) (comes begins : Nat → Int32) (back waits loads : Int32) : ∃ v cs bs back' wa lo, f_X8_holds s comes begins back waits loads (nI r) = some (v, cs, bs, back', wa, lo) ∧ (eH E r (eL E r) ∧ v = nI 1 ∧ (∀ k, k < (eL E r).length → bs k = bg (eD E) (eF E) (eR E r 1 + nI 0) (eL E r) k) ∨ ¬ eH E r (eL E r) ∧ v = nI 0) := by
  have hu := h.2.2.2.2.2.1 r hr
  have := holdsM_eq (comes := comes) (begins := begins) (back := back) (waits := waits) (loads := loads) h.2.1 hB.2.1 hr (h.2.2.2.2.2.2 r hr) (hB.len hr) (hB.mem hr) hB.1 h.2.2.2.1 hB.2.2.2.1 (by rw [show 178 + 20 * r = 178 + 20 * r + 0 from rfl, hu 0 (by decide)]; exact hB.room hr (by decide))
  rw [hu 1 (by decide), hu 2 (by decide), show 178 + 20 * r = 178 + 20 * r + 0 from rfl, hu 0 (by decide)] at this
  exact this
theorem allHoldM {E : ES} {s : Nat → Int32} (hB : GB E) (h : MW E s) (comes begins : Nat → Int32) (back waits loads : Int32) : ∃ q, f_X8_allHold s comes begins back waits loads = some q ∧ ((∀ r, r < 4 → eH E r (eL E r)) ∧ q.1 = nI 1 ∨ ¬ (∀ r, r < 4 → eH E r (eL E r)) ∧ q.1 = nI 0) := by
  unfold f_X8_allHold l_X8_allHold_2
  simp only [lI]
  obtain ⟨r, h1, h2⟩ := lp_inv (F := fun k (x : Int32 × (Nat → Int32) × (Nat → Int32) × Int32 × Int32 × Int32) => b_X8_allHold_2 s k x.1 x.2.1 x.2.2.1 x.2.2.2.1 x.2.2.2.2.1 x.2.2.2.2.2) (fun t x => x.1 = nI t ∧ ∀ r, r < t → eH E r (eL E r)) (fun q => (∀ r, r < 4 → eH E r (eL E r)) ∧ q.1 = nI 1 ∨ ¬ (∀ r, r < 4 → eH E r (eL E r)) ∧ q.1 = nI 0) 4 (by
    rintro t ⟨x1, x2, x3, x4, x5, x6⟩ ht ⟨e, hp⟩
    dsimp only at e
    subst e
    obtain ⟨v, q2, q3, q4, q5, q6, g1, g2⟩ := holdsM hB h ht x2 x3 x4 x5 x6
    rcases g2 with ⟨g2, g3, -⟩ | ⟨g2, g3⟩
    · refine Or.inl ⟨(nI (t + 1), q2, q3, q4, q5, q6), ⟨rfl, fun r hr => ?_⟩, fun k => ?_⟩
      · by_cases hrt : r = t
        · rw [hrt]; exact g2
        · exact hp r (by omega)
      · show b_X8_allHold_2 _ k (nI t) _ _ _ _ _ = _
        unfold b_X8_allHold_2
        simp only [lI, nI_add]
        rw [if_neg (nI_ge ht (by decide)), g1, Option.bind_some]
        dsimp only
        rw [if_neg (by rw [g3]; decide)]
    · refine Or.inr ⟨(v, q2, q3, q4, q5, q6), Or.inr ⟨fun hh => g2 (hh t ht), g3⟩, fun k => ?_⟩
      · show b_X8_allHold_2 _ k (nI t) _ _ _ _ _ = _
        unfold b_X8_allHold_2
        simp only [lI, nI_add]
        rw [if_neg (nI_ge ht (by decide)), g1, Option.bind_some]
        dsimp only
        rw [if_pos g3, g3]) (by
    rintro ⟨x1, x2, x3, x4, x5, x6⟩ ⟨e, hp⟩
    dsimp only at e
    subst e
    refine ⟨(nI 1, x2, x3, x4, x5, x6), Or.inl ⟨hp, rfl⟩, fun k => ?_⟩
    · show b_X8_allHold_2 _ k (nI 4) _ _ _ _ _ = _
      unfold b_X8_allHold_2
      simp only [lI]
      rw [if_pos (nI_le (Nat.le_refl _) (by decide))]) fu (nI 0, comes, begins, back, waits, loads) (by unfold fu; omega) ⟨rfl, fun r hr => absurd hr (Nat.not_lt_zero r)⟩
  exact ⟨r, h2, h1⟩
