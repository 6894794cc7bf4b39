/-! B18: cheapest -/
def ansW (w : Wg) (x : Int32) : Int32 := match w with
  | none => -nI 5
  | some (r, k, a, g) => if x = nI 0 then nI r else if x = nI 1 then nI k else if x = nI 2 then a else g
section CH
variable {E : ES} {facts ro locked rules sizes rows s : Nat → Int32} {sc metric fixed : Int32}
theorem ch99 (hB : GB E) (h : CW E facts ro locked rules sizes rows sc metric fixed) {p : Nat} (hp : p < eN E) (hm : ∀ r, r < 4 → p ∉ eL E r) {lo n : Nat} (hn : 0 < n) (hlo : lo + n ≤ 4) (row cs bs : Nat → Int32) (rd sz bk ld mi wa la pl ad x3 : Int32) : ∃ z, b_X7_cheapest_99 x3 (nI p) (nI lo) (nI (lo + n - 1)) facts rules sizes rows metric fixed row cs bs rd sz bk ld mi wa la pl ad = some (ansW (wg E p lo n) x3, z) := by
  obtain ⟨z1, z2, z3, z4, z5, z6, z7, z8, z9, z10, u, h1, h2⟩ := weighC hB h hp hm hn hlo row cs bs rd sz bk ld mi wa la pl ad
  unfold b_X7_cheapest_99
  simp only [lI]
  rw [h2, Option.bind_some]
  dsimp only
  cases e : wg E p lo n with
  | none =>
    rw [e] at h1
    rw [if_pos h1.1]
    exact ⟨_, rfl⟩
  | some y =>
    obtain ⟨r, k, a, g⟩ := y
    rw [e] at h1
    obtain ⟨rfl, hr, hk⟩ := h1
    dsimp only
    rw [if_neg (nI_ne_m5 (by omega))]
    unfold ansW
    dsimp only
    by_cases q0 : x3 = nI 0
    · rw [if_pos q0, if_pos q0]; exact ⟨_, rfl⟩
    · rw [if_neg q0, if_neg q0]
      by_cases q1 : x3 = nI 1
      · rw [if_pos q1, if_pos q1]; exact ⟨_, rfl⟩
      · rw [if_neg q1, if_neg q1]
        by_cases q2 : x3 = nI 2
        · rw [if_pos q2, if_pos q2]; exact ⟨_, rfl⟩
        · rw [if_neg q2, if_neg q2]; exact ⟨_, rfl⟩
theorem isInM1 (x : Int32) : (x = -nI 1 ∧ f_X8_isIn x (-nI 1) (nI 3) = some (nI 1)) ∨ (∃ r, r < 4 ∧ x = nI r ∧ f_X8_isIn x (-nI 1) (nI 3) = some (nI 1)) ∨ (x ≠ -nI 1 ∧ f_X7_isRound x = some (nI 0) ∧ f_X8_isIn x (-nI 1) (nI 3) = some (nI 0)) := by
  unfold f_X8_isIn
  simp only [lI]
  by_cases h1 : x = -nI 1
  · rw [h1]
    exact Or.inl ⟨rfl, by decide⟩
  · rcases isIn_eq x 3 (by decide) with ⟨r, hr, rfl, -⟩ | ⟨hx, -⟩
    · refine Or.inr (Or.inl ⟨r, by omega, rfl, ?_⟩)
      rw [if_neg, if_neg (nI_nlt hr (by omega))]
      rw [Int32.lt_iff_toInt_lt, nI_toInt (by omega), show (-nI 1).toInt = -1 from by decide]
      omega
    · refine Or.inr (Or.inr ⟨h1, ?_, ?_⟩)
      · rcases roundX x with ⟨r, hr, rfl, -, -⟩ | ⟨e, -⟩
        · rcases hx with hx | hx
          · exact absurd hx (nI_lt0 (by omega))
          · exact absurd hx (nI_nlt (by omega) (by omega))
        · exact e
      · rcases hx with hx | hx
        · rw [if_pos]
          rw [Int32.lt_iff_toInt_lt, show (-nI 1).toInt = -1 from by decide]
          have h2 : x.toInt < 0 := (Int32.lt_iff_toInt_lt).mp hx
          have h3 : x.toInt ≠ -1 := fun q => h1 (Int32.toInt_inj.mp (by rw [q]; decide))
          omega
        · by_cases h2 : x < -nI 1
          · rw [if_pos h2]
          · rw [if_neg h2, if_pos hx]
theorem cheapest_both (hI : GI E) (h : CW E facts ro locked rules sizes rows sc metric fixed) (hM : MW E s) (row cs bs : Nat → Int32) (rd sz bk lo mi wa la y1 y2 y3 y4 : Int32) (cs2 bs2 : Nat → Int32) (b2 w2 l2 u1 u2 u3 u4 : Int32) (x1 x2 x3 : Int32) : ∃ v z s' z', f_X7_cheapest facts ro rules sizes rows sc metric fixed row cs bs rd sz bk lo mi wa la y1 y2 y3 y4 x1 x2 x3 = some (v, z) ∧ f_X8_cheapest s cs2 bs2 b2 w2 l2 u1 u2 u3 u4 x1 x2 x3 = some (v, s', z') ∧ MW E s' ∧ low s s' := by
  have hB := hI.1
  have hN := hB.1
  have hne : ¬ nI 1 = nI 0 := by decide
  have h01 : ¬ nI 0 ≤ -nI 1 := by decide
  unfold f_X7_cheapest f_X8_cheapest b_X7_cheapest_10 b_X7_cheapest_35 b_X8_cheapest_28 b_X7_cheapest_46 b_X7_cheapest_89
  simp only [lI]
  rcases stopX (s := s) hN h.1 hM.1 x1 with ⟨p, hp, rfl, e1, e2⟩ | ⟨e1, e2⟩
  rotate_left
  · rw [e1, e2]
    simp only [Option.bind_some, if_neg hne, if_true, ite_self, if_neg h01]
    exact ⟨_, _, s, _, rfl, rfl, hM, low.refl s⟩
  rw [e1, e2]
  simp only [Option.bind_some, if_neg hne, if_true, ite_self, if_neg h01]
  rw [(placeOf_eq hB h hp).2]
  have e5 : f_X8_roundOf s (nI p) = some (rof (eL E) p) := roundOfM_eq (hB.MRs hM) hN (by omega)
  rw [e5]
  simp only [Option.bind_some]
  rcases isInM1 x2 with ⟨rfl, e3⟩ | ⟨r, hr, rfl, e3⟩ | ⟨hx, e4, e3⟩
  · rw [e3]
    simp only [Option.bind_some, if_neg hne, if_true, ite_self, if_neg h01]
    rw [isUpTo_isIn]
    rcases isIn_eq x3 3 (by decide) with ⟨k, hk, rfl, e8⟩ | ⟨-, e8⟩
    rotate_left
    · rw [e8]
      simp only [Option.bind_some, if_neg hne, if_true, ite_self, if_neg h01]
      exact ⟨_, _, s, _, rfl, rfl, hM, low.refl s⟩
    rw [e8]
    simp only [Option.bind_some, if_neg hne, if_true, ite_self, if_neg h01]
    rcases rof_or (eL E) p with ⟨a, ha, -, -, e6⟩ | ⟨hn, e6⟩
    · rw [e6, if_neg (nI_ne_m5 (by omega)), if_neg (nI_lt0 (by omega))]
      exact ⟨_, _, s, _, rfl, rfl, hM, low.refl s⟩
    · rw [e6, if_pos rfl, if_pos m5_lt0]
      obtain ⟨z, g1⟩ := ch99 hB h hp hn (lo := 0) (n := 4) (by decide) (by decide) row cs bs rd sz bk lo mi wa la y2 y3 (nI k)
      obtain ⟨v, s1, c1, c2, c3, c4, c5, br, bp, ba, re, g2, g3, g4, g5⟩ := cheapAllM hB hM hp hn cs2 bs2 b2 w2 l2
      change b_X7_cheapest_99 (nI k) (nI p) (nI 0) (nI 3) facts rules sizes rows metric fixed row cs bs rd sz bk lo mi wa la y2 y3 = _ at g1
      rw [g1, g2]
      simp only [Option.bind_some]
      unfold b_X8_cheapest_65
      simp only [lI, if_true, if_neg hne, if_neg h01]
      cases e : wg E p 0 4 with
      | none =>
        rw [e] at g5
        change v = nI 0 at g5
        rw [if_pos g5]
        exact ⟨_, _, s1, _, rfl, rfl, g3, g4⟩
      | some y =>
        obtain ⟨r, k0, a, g⟩ := y
        rw [e] at g5
        obtain ⟨rfl, rfl, rfl, rfl, rfl⟩ := g5
        try rw [if_neg hne]
        unfold ansW
        dsimp only
        by_cases q0 : nI k = nI 0
        · rw [if_pos q0, if_pos q0]; exact ⟨_, _, s1, _, rfl, rfl, g3, g4⟩
        · rw [if_neg q0, if_neg q0]
          by_cases q1 : nI k = nI 1
          · rw [if_pos q1, if_pos q1]; exact ⟨_, _, s1, _, rfl, rfl, g3, g4⟩
          · rw [if_neg q1, if_neg q1]
            by_cases q2 : nI k = nI 2
            · rw [if_pos q2, if_pos q2]; exact ⟨_, _, s1, _, rfl, rfl, g3, g4⟩
            · rw [if_neg q2, if_neg q2]; exact ⟨_, _, s1, _, rfl, rfl, g3, g4⟩
  · have hr1 : ¬ nI r = -nI 1 := by
      intro q
      have := congrArg Int32.toInt q
      rw [nI_toInt (by omega), show (-nI 1).toInt = -1 from by decide] at this
      omega
    rw [e3, if_neg hr1, isRound_eq hr]
    have h0r : nI 0 ≤ nI r := nI_0le (by omega)
    simp only [Option.bind_some, if_neg hne, if_true, ite_self, if_pos h0r]
    rw [isUpTo_isIn]
    rcases isIn_eq x3 2 (by decide) with ⟨k, hk, rfl, e8⟩ | ⟨-, e8⟩
    rotate_left
    · rw [e8]
      simp only [Option.bind_some, if_neg hne, if_true, ite_self, if_neg h01]
      exact ⟨_, _, s, _, rfl, rfl, hM, low.refl s⟩
    rw [e8]
    simp only [Option.bind_some, if_neg hne, if_true, ite_self, if_neg h01]
    rcases rof_or (eL E) p with ⟨a, ha, -, -, e6⟩ | ⟨hn, e6⟩
    · rw [e6, if_neg (nI_ne_m5 (by omega)), if_neg (nI_lt0 (by omega))]
      exact ⟨_, _, s, _, rfl, rfl, hM, low.refl s⟩
    · rw [e6, if_pos rfl, if_pos m5_lt0]
      obtain ⟨z, g1⟩ := ch99 hB h hp hn (lo := r) (n := 1) (by decide) (by omega) row cs bs rd sz bk lo mi wa la y2 y3 (nI k)
      obtain ⟨v, s1, c1, c2, c3, c4, c5, bp, ba, g2, g3, g4, g5, g6⟩ := cheapM hB hM hp hr hn cs2 bs2 b2 w2 l2
      rw [show r + 1 - 1 = r by omega] at g1
      have hw : wg E p r 1 = wst none r (cE E p r) := rfl
      rw [g1, g2, hw]
      simp only [Option.bind_some]
      unfold b_X8_cheapest_65
      simp only [lI, if_true, if_neg hne, if_neg h01]
      cases e : cE E p r with
      | none =>
        rw [e] at g6
        change v = nI 0 at g6
        rw [if_pos g6]
        exact ⟨_, _, s1, _, rfl, rfl, g3, g4⟩
      | some y =>
        obtain ⟨k0, a⟩ := y
        rw [e] at g5 g6
        obtain ⟨rfl, rfl, hj⟩ := g5
        change v = nI 1 at g6
        rw [if_neg (by rw [g6]; exact hne)]
        unfold wst ansW
        dsimp only
        rw [if_pos h0r]
        by_cases q0 : nI k = nI 0
        · rw [if_pos q0, if_pos q0]; exact ⟨_, _, s1, _, rfl, rfl, g3, g4⟩
        · rw [if_neg q0, if_neg q0]
          by_cases q1 : nI k = nI 1
          · rw [if_pos q1, if_pos q1]; exact ⟨_, _, s1, _, rfl, rfl, g3, g4⟩
          · rw [if_neg q1, if_neg q1]
            have q2 : nI k = nI 2 := by
              have h0 : k ≠ 0 := fun q => q0 (by rw [q])
              have h1 : k ≠ 1 := fun q => q1 (by rw [q])
              rw [show k = 2 by omega]
            rw [if_pos q2, if_pos q2]; exact ⟨_, _, s1, _, rfl, rfl, g3, g4⟩
  · rw [e3, if_neg hx, e4]
    simp only [Option.bind_some, if_neg hne, if_true, ite_self, if_neg h01]
    exact ⟨_, _, s, _, rfl, rfl, hM, low.refl s⟩
end CH
