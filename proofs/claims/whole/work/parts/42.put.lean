/-! B15: put, adds -/
def low (s s' : Nat → Int32) : Prop := ∀ j, 5 ≤ j → j < 50 → s' j = s j
theorem low.refl (s : Nat → Int32) : low s s := fun _ _ _ => rfl
theorem low.trans {s t u : Nat → Int32} (h : low s t) (g : low t u) : low s u := fun j h1 h2 => by rw [g j h1 h2, h j h1 h2]
theorem offR.low {r : Nat} {s s' : Nat → Int32} (h : offR r s s') : low s s' := fun j _ h2 => h j (by omega)
theorem stopX {E : ES} {s : Nat → Int32} {sc : Int32} (hN : eN E ≤ 16) (h1 : sc = nI (eN E)) (h2 : s 4 = nI (eN E)) (x : Int32) : (∃ p, p < eN E ∧ x = nI p ∧ f_X6_isStop sc x = some (nI 1) ∧ f_X8_isStop s x = some (nI 1)) ∨ (f_X6_isStop sc x = some (nI 0) ∧ f_X8_isStop s x = some (nI 0)) := by
  have e4 : (nI 4).toNatClampNeg = 4 := nI_clamp (by decide)
  rw [h1]
  rcases isStop_eq (eN E) hN x with ⟨p, hp, rfl, e⟩ | ⟨hx, e⟩
  · refine Or.inl ⟨p, hp, rfl, e, ?_⟩
    unfold f_X8_isStop f_X8_isIn
    simp only [lI]
    rw [e4, h2, if_neg (nI_lt0 (by omega)), nI_sub1 (by omega), if_neg (nI_nlt (by omega) (by omega))]
    rfl
  · refine Or.inr ⟨e, ?_⟩
    unfold f_X8_isStop f_X8_isIn
    simp only [lI]
    rw [e4, h2]
    by_cases h0 : x < nI 0
    · rw [if_pos h0]; rfl
    · rw [if_neg h0, if_pos]
      · rfl
      · rcases hx with hx | hx
        · exact absurd hx h0
        · by_cases hz : eN E = 0
          · rw [hz]
            exact Int32.lt_of_lt_of_le (show nI 0 - nI 1 < nI 0 by decide) (Int32.not_lt.mp h0)
          · rw [nI_sub1 (by omega)]
            exact Int32.lt_of_lt_of_le (nI_lt (show eN E - 1 < eN E by omega) (by omega)) hx
theorem roundX (x : Int32) : (∃ r, r < 4 ∧ x = nI r ∧ f_X7_isRound x = some (nI 1) ∧ f_X8_isRound x = some (nI 1)) ∨ (f_X7_isRound x = some (nI 0) ∧ f_X8_isRound x = some (nI 0)) := by
  have h7 : f_X7_isRound x = (f_X8_isIn x (nI 0) (nI 3)).bind fun r1 => gd (r1 = nI 0 ∨ r1 = nI 1) (some r1) := rfl
  have h8 : f_X8_isRound x = (f_X8_isIn x (nI 0) (nI 3)).bind fun r1 => gd (r1 = nI 0 ∨ r1 = nI 1) (some r1) := rfl
  rcases isIn_eq x 3 (by decide) with ⟨p, hp, e, h⟩ | ⟨-, h⟩
  · exact Or.inl ⟨p, by omega, e, by rw [h7, h]; rfl, by rw [h8, h]; rfl⟩
  · exact Or.inr ⟨by rw [h7, h]; rfl, by rw [h8, h]; rfl⟩
/-- whether a stop may be asked for at a place, in both -/
theorem askX {E : ES} {facts ro locked rules sizes rows s : Nat → Int32} {sc metric fixed : Int32} (hB : GB E) (h : CW E facts ro locked rules sizes rows sc metric fixed) (hM : MW E s) (x1 x2 x3 : Int32) :
    (∃ p r k, p < eN E ∧ r < 4 ∧ (∀ r, r < 4 → p ∉ eL E r) ∧ k ≤ (eL E r).length ∧ x1 = nI p ∧ x2 = nI r ∧ x3 = nI k ∧ f_X7_refusalAt ro sizes sc x1 x2 x3 = some (nI 0) ∧ f_X8_isStop s x1 = some (nI 1) ∧ f_X8_isRound x2 = some (nI 1) ∧ f_X8_roundOf s x1 = some (-nI 5) ∧ f_X8_roundAt s x2 (nI 3) = some (nI (eL E r).length) ∧ f_X8_isIn x3 (nI 0) (nI (eL E r).length) = some (nI 1)) ∨
    (f_X7_refusalAt ro sizes sc x1 x2 x3 = some (-nI 1) ∧ f_X8_isStop s x1 = some (nI 0)) ∨
    (f_X7_refusalAt ro sizes sc x1 x2 x3 = some (-nI 1) ∧ f_X8_isStop s x1 = some (nI 1) ∧ f_X8_isRound x2 = some (nI 0)) ∨
    (∃ a, ¬ nI a < nI 0 ∧ f_X7_refusalAt ro sizes sc x1 x2 x3 = some (-nI 3) ∧ f_X8_isStop s x1 = some (nI 1) ∧ f_X8_isRound x2 = some (nI 1) ∧ f_X8_roundOf s x1 = some (nI a)) ∨
    (∃ n, f_X7_refusalAt ro sizes sc x1 x2 x3 = some (-nI 2) ∧ f_X8_isStop s x1 = some (nI 1) ∧ f_X8_isRound x2 = some (nI 1) ∧ f_X8_roundOf s x1 = some (-nI 5) ∧ f_X8_roundAt s x2 (nI 3) = some (nI n) ∧ f_X8_isIn x3 (nI 0) (nI n) = some (nI 0)) := by
  have hN := hB.1
  have hne : ¬ nI 1 = nI 0 := by decide
  unfold f_X7_refusalAt
  simp only [lI]
  rcases stopX (s := s) hN h.1 hM.1 x1 with ⟨p, hp, rfl, e1, e2⟩ | ⟨e1, e2⟩
  · rw [e1, Option.bind_some, if_neg hne]
    rcases roundX x2 with ⟨r, hr, rfl, e3, e4⟩ | ⟨e3, e4⟩
    · rw [e3, Option.bind_some, if_neg hne, (placeOf_eq hB h hp).2, Option.bind_some]
      have e5 : f_X8_roundOf s (nI p) = some (rof (eL E) p) := roundOfM_eq (hB.MRs hM) hN (by omega)
      rcases rof_or (eL E) p with ⟨a, ha, -, -, e6⟩ | ⟨hn, e6⟩
      · refine Or.inr (Or.inr (Or.inr (Or.inl ⟨a, nI_lt0 (by omega), ?_, e2, e4, by rw [e5, e6]⟩)))
        rw [e6, if_neg (nI_ne_m5 (by omega))]
      · have hS := (h.2.2.2.2.2.2.2 r hr).1
        have hl := hB.len hr
        have e7 : f_X8_roundAt s (nI r) (nI 3) = some (nI (eL E r).length) := by rw [roundAt_eq s (by omega), (hM.2.2.2.2.2.2 r hr).1]
        rw [e6, if_pos rfl, sizeOf_eq sizes hr, Option.bind_some, hS, isUpTo_isIn]
        rcases isIn_eq x3 (eL E r).length (by omega) with ⟨k, hk, rfl, e8⟩ | ⟨-, e8⟩
        · exact Or.inl ⟨p, r, k, hp, hr, hn, hk, rfl, rfl, rfl, by rw [e8, Option.bind_some, if_neg hne], e2, e4, by rw [e5, e6], e7, e8⟩
        · exact Or.inr (Or.inr (Or.inr (Or.inr ⟨(eL E r).length, by rw [e8, Option.bind_some, if_pos rfl], e2, e4, by rw [e5, e6], e7, e8⟩)))
    · exact Or.inr (Or.inr (Or.inl ⟨by rw [e3, Option.bind_some, if_pos rfl], e2, e4⟩))
  · exact Or.inr (Or.inl ⟨by rw [e1, Option.bind_some, if_pos rfl], e2⟩)
section PUT
variable {E : ES} {facts ro locked rules sizes rows s : Nat → Int32} {sc metric fixed : Int32}
theorem m5_lt0 : -nI 5 < nI 0 := by decide
theorem put_both (hI : GI E) (h : CW E facts ro locked rules sizes rows sc metric fixed) (hM : MW E s) (row cs bs : Nat → Int32) (rd sz bk lo mi wa la : Int32) (cs2 bs2 : Nat → Int32) (b2 w2 l2 : Int32) (x1 x2 x3 : Int32) : ∃ E' v ro' sizes' rows' z s' z', f_X7_put facts ro rules sizes rows sc metric fixed row cs bs rd sz bk lo mi wa la x1 x2 x3 = some (v, ro', sizes', rows', z) ∧ f_X8_put s cs2 bs2 b2 w2 l2 x1 x2 x3 = some (v, s', z') ∧ GI E' ∧ CW E' facts ro' locked rules sizes' rows' sc metric fixed ∧ MW E' s' ∧ low s s' := by
  have hB := hI.1
  have hne : ¬ nI 1 = nI 0 := by decide
  unfold f_X7_put f_X8_put
  simp only [lI]
  rcases askX hB h hM x1 x2 x3 with ⟨p, r, k, hp, hr, hm, hk, rfl, rfl, rfl, a0, a1, a2, a3, a4, a5⟩ | ⟨a0, a1⟩ | ⟨a0, a1, a2⟩ | ⟨a, hlt, a0, a1, a2, a3⟩ | ⟨n, a0, a1, a2, a3, a4, a5⟩
  · rw [a0, a1, a2, a3, a4]
    simp only [Option.bind_some]
    rw [if_pos trivial, if_neg hne, if_neg hne, if_pos m5_lt0, a5]
    simp only [Option.bind_some]
    rw [if_neg hne]
    obtain ⟨row1, row2, ⟨qv, q⟩, t1, t2, t3, t4, t5⟩ := tryIn hB h hp hr (hm r hr) hk row cs bs
    obtain ⟨v, s1, c, b, b', w, l, g1, g2, g3, g4⟩ := addedM hB hM hp hr hm hk cs2 bs2 b2 w2 l2
    rw [t2, g1]
    simp only [Option.bind_some]
    rw [t3]
    simp only [Option.bind_some]
    rw [t4]
    simp only [Option.bind_some]
    dsimp only at t5
    rcases t5 with ⟨c1, c2⟩ | ⟨c1, c2⟩
    · rcases g4 with ⟨-, g4⟩ | ⟨g4, -⟩
      · have hB1 : GB (eIn E r k p) := hB.ins hp hr hm
        obtain ⟨s2, i1, i2, i3⟩ := insertsM_eq (p := p) hr (g2.2.2.2.2.2.2 r hr) (len_lt hB hp hr (hm r hr)) hk
        obtain ⟨ro', sizes', rows', k1, -, k2⟩ := keepC hB h hr t1 hB1
        rw [if_neg (by rw [c2]; exact hne), addsC hB h hp hr hk, if_neg (by rw [g4]; exact adC_ne hB hp hr), i1]
        simp only [Option.bind_some]
        rw [k1]
        refine ⟨eIn E r k p, v, ro', sizes', rows', _, s2, _, by rw [g4]; rfl, rfl, ⟨hB1, fun r' hr' => ?_⟩, k2, MW.up hB g2 hr i2 i3, g3.low.trans i3.low⟩
        show eH E r' (fup (eL E) r (ins (eL E r) k p) r')
        by_cases hq : r' = r
        · rw [hq, fup_s]; exact c1
        · rw [fup_n hq]; exact hI.2 r' hr'
      · exact absurd c1 g4
    · rcases g4 with ⟨g4, -⟩ | ⟨-, g4⟩
      · exact absurd g4 c1
      · rw [if_pos c2, if_pos g4]
        exact ⟨E, _, ro, sizes, rows, _, s1, _, rfl, rfl, hI, h, g2, g3.low⟩
  · rw [a0, a1]
    simp only [Option.bind_some]
    rw [if_neg (by decide), if_pos trivial]
    exact ⟨E, _, ro, sizes, rows, _, s, _, rfl, rfl, hI, h, hM, low.refl s⟩
  · rw [a0, a1, a2]
    simp only [Option.bind_some]
    rw [if_neg (by decide), if_neg hne, if_pos trivial]
    exact ⟨E, _, ro, sizes, rows, _, s, _, rfl, rfl, hI, h, hM, low.refl s⟩
  · rw [a0, a1, a2, a3]
    simp only [Option.bind_some]
    rw [if_neg (by decide), if_neg hne, if_neg hne, if_neg hlt]
    exact ⟨E, _, ro, sizes, rows, _, s, _, rfl, rfl, hI, h, hM, low.refl s⟩
  · rw [a0, a1, a2, a3, a4]
    simp only [Option.bind_some]
    rw [if_neg (by decide), if_neg hne, if_neg hne, if_pos m5_lt0, a5]
    simp only [Option.bind_some]
    rw [if_pos trivial]
    exact ⟨E, _, ro, sizes, rows, _, s, _, rfl, rfl, hI, h, hM, low.refl s⟩
theorem adds_both (hI : GI E) (h : CW E facts ro locked rules sizes rows sc metric fixed) (hM : MW E s) (row cs bs : Nat → Int32) (rd sz bk lo mi wa la : Int32) (cs2 bs2 : Nat → Int32) (b2 w2 l2 : Int32) (x1 x2 x3 : Int32) : ∃ v z s' z', f_X7_adds facts ro rules sizes rows sc metric fixed row cs bs rd sz bk lo mi wa la x1 x2 x3 = some (v, z) ∧ f_X8_adds s cs2 bs2 b2 w2 l2 x1 x2 x3 = some (v, s', z') ∧ MW E s' ∧ low s s' := by
  have hB := hI.1
  have hne : ¬ nI 1 = nI 0 := by decide
  unfold f_X7_adds f_X8_adds
  simp only [lI]
  rcases askX hB h hM x1 x2 x3 with ⟨p, r, k, hp, hr, hm, hk, rfl, rfl, rfl, a0, a1, a2, a3, a4, a5⟩ | ⟨a0, a1⟩ | ⟨a0, a1, a2⟩ | ⟨a, hlt, a0, a1, a2, a3⟩ | ⟨n, a0, a1, a2, a3, a4, a5⟩
  · rw [a0, a1, a2, a3, a4]
    simp only [Option.bind_some]
    rw [if_pos trivial, if_neg hne, if_neg hne, if_pos m5_lt0, a5]
    simp only [Option.bind_some]
    rw [if_neg hne]
    obtain ⟨row1, row2, ⟨qv, q⟩, t1, t2, t3, t4, t5⟩ := tryIn hB h hp hr (hm r hr) hk row cs bs
    obtain ⟨v, s1, c, b, b', w, l, g1, g2, g3, g4⟩ := addedM hB hM hp hr hm hk cs2 bs2 b2 w2 l2
    rw [t2, g1]
    simp only [Option.bind_some]
    rw [t3]
    simp only [Option.bind_some]
    rw [t4]
    simp only [Option.bind_some]
    dsimp only at t5
    rcases t5 with ⟨c1, c2⟩ | ⟨c1, c2⟩
    · rcases g4 with ⟨-, g4⟩ | ⟨g4, -⟩
      · rw [if_neg (by rw [c2]; exact hne), addsC hB h hp hr hk, if_neg (by rw [g4]; exact adC_ne hB hp hr)]
        exact ⟨v, _, s1, _, by rw [g4]; rfl, rfl, g2, g3.low⟩
      · exact absurd c1 g4
    · rcases g4 with ⟨g4, -⟩ | ⟨-, g4⟩
      · exact absurd g4 c1
      · rw [if_pos c2, if_pos g4]
        exact ⟨_, _, s1, _, rfl, rfl, g2, g3.low⟩
  · rw [a0, a1]
    simp only [Option.bind_some]
    rw [if_neg (by decide), if_pos trivial]
    exact ⟨_, _, s, _, rfl, rfl, hM, low.refl s⟩
  · rw [a0, a1, a2]
    simp only [Option.bind_some]
    rw [if_neg (by decide), if_neg hne, if_pos trivial]
    exact ⟨_, _, s, _, rfl, rfl, hM, low.refl s⟩
  · rw [a0, a1, a2, a3]
    simp only [Option.bind_some]
    rw [if_neg (by decide), if_neg hne, if_neg hne, if_neg hlt]
    exact ⟨_, _, s, _, rfl, rfl, hM, low.refl s⟩
  · rw [a0, a1, a2, a3, a4]
    simp only [Option.bind_some]
    rw [if_neg (by decide), if_neg hne, if_neg hne, if_pos m5_lt0, a5]
    simp only [Option.bind_some]
    rw [if_pos trivial]
    exact ⟨_, _, s, _, rfl, rfl, hM, low.refl s⟩
end PUT
