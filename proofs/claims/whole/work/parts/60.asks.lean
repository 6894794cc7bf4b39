/-! B33: turn, shift, swap asked for, in both -/
section ASK
variable {E : ES} {facts ro locked rules sizes rows s : Nat → Int32} {sc metric fixed : Int32}
theorem h10_ : ¬ nI 1 = nI 0 := by decide
theorem turn_both (hB : GB E) (h : CW E facts ro locked rules sizes rows sc metric fixed) (hM : MW E s) (y1 y2 y3 : Nat → Int32) (y4 y5 y6 y7 y8 y9 y10 y11 : Int32) (cs bs : Nat → Int32) (b w l : Int32) (x1 x2 x3 : Int32) : ∃ v z s' z', f_X7_turn facts locked rules sizes rows metric y1 y2 y3 y4 y5 y6 y7 y8 y9 y10 y11 x1 x2 x3 = some (v, z) ∧ f_X8_turn s cs bs b w l x1 x2 x3 = some (v, s', z') ∧ MW E s' ∧ low s s' := by
  unfold f_X7_turn f_X8_turn
  simp only [lI]
  rcases roundX x1 with ⟨r, hr, rfl, e1, e2⟩ | ⟨e1, e2⟩
  · rw [e1, e2]
    simp only [Option.bind_some]
    rw [if_neg h10_, if_neg h10_]
    by_cases q1 : x2 < nI 0
    · rw [if_pos q1, if_pos q1]
      exact ⟨_, _, s, _, rfl, rfl, hM, low.refl s⟩
    · rw [if_neg q1, if_neg q1]
      by_cases q2 : x3 ≤ x2
      · rw [if_pos q2, if_pos q2]
        exact ⟨_, _, s, _, rfl, rfl, hM, low.refl s⟩
      · have hl := hB.len hr
        rw [if_neg q2, if_neg q2, sizeOf_eq sizes hr, sizeM hM hr, (h.2.2.2.2.2.2.2 r hr).1]
        simp only [Option.bind_some]
        rcases pk_ix x3 (show (eL E r).length < 2 ^ 31 by omega) with h3 | h3 | ⟨j, hj, rfl⟩
        · exact absurd (Int32.lt_of_lt_of_le h3 (Int32.not_lt.mp q1)) (fun z => q2 (Int32.le_of_lt z))
        · rw [if_neg (Int32.not_lt.mpr h3), if_pos h3]
          exact ⟨_, _, s, _, rfl, rfl, hM, low.refl s⟩
        · rcases pk_ix x2 (show j < 2 ^ 31 by omega) with h2 | h2 | ⟨i, hi, rfl⟩
          · exact absurd h2 q1
          · exact absurd h2 q2
          · obtain ⟨⟨v, z1, z2, z3, z4, z5, z6, z7, z8, z9, z10, z11⟩, z0, zz⟩ := tryTurnC hB h hr (show i ≤ j by omega) hj y1 y2 y3 y4 y5 y6 y7 y8 y9 y10 y11
            obtain ⟨v2, s1, c1, b1, w4, w5, w6, g1, g2, g3, g4⟩ := turnGainsM hB hM hr (show i ≤ j by omega) hj cs bs b w l
            rw [if_pos (nI_lt hj (by omega)), if_neg (nI_ge hj (by omega)), z0, g1]
            simp only [Option.bind_some]
            dsimp only at zz
            rcases zz with ⟨c2, c3, -⟩ | ⟨c2, c3⟩
            · rcases g4 with ⟨-, g4⟩ | ⟨g4, -⟩
              · rw [if_neg (by rw [c3]; decide), turnGainC hB h hr (by omega) (by omega), Option.bind_some]
                exact ⟨_, _, s1, _, rfl, by rw [g4], g2, g3⟩
              · exact absurd c2 g4
            · rcases g4 with ⟨g4, -⟩ | ⟨-, g4⟩
              · exact absurd g4 c2
              · rw [if_pos c3]
                exact ⟨_, _, s1, _, rfl, by rw [g4], g2, g3⟩
  · rw [e1, e2]
    simp only [Option.bind_some]
    rw [if_pos trivial, if_pos trivial]
    exact ⟨_, _, s, _, rfl, rfl, hM, low.refl s⟩
theorem sh99 (hB : GB E) (h : CW E facts ro locked rules sizes rows sc metric fixed) (hM : MW E s) {p f i r k : Nat} (ha : shArg E p f i r k) (y1 y2 y3 : Nat → Int32) (y4 y5 y6 y7 y8 y9 y10 : Int32) (v1 v2 v3 : Nat → Int32) (v4 v5 v6 v7 v8 v9 v10 tw : Int32) (cs bs : Nat → Int32) (b w l : Int32) : ∃ v z s' z', b_X7_shift_99 (nI p) (nI r) (nI k) facts ro locked rules sizes rows metric fixed y1 y2 y3 y4 y5 y6 y7 y8 y9 y10 v1 v2 v3 v4 v5 v6 v7 v8 v9 v10 tw = some (v, z) ∧ b_X8_shift_78 (nI p) (nI r) (nI k) s cs bs b w l = some (v, s', z') ∧ MW E s' ∧ low s s' := by
  obtain ⟨v, z1, z2, z3, z4, z5, z6, z7, z8, z9, z10, u1, u2, u3, u4, u5, u6, u7, u8, u9, u10, tw', z0, zz⟩ := tryShiftC hB h ha y1 y2 y3 y4 y5 y6 y7 y8 y9 y10 v1 v2 v3 v4 v5 v6 v7 v8 v9 v10 tw
  obtain ⟨v2, s1, c1, b1, w4, w5, w6, g1, g2, g3, g4⟩ := shiftGainsM hB hM ha cs bs b w l
  unfold b_X7_shift_99 b_X8_shift_78
  simp only [lI]
  rw [z0, g1]
  simp only [Option.bind_some]
  rcases zz with ⟨c2, c3, -⟩ | ⟨c2, c3⟩
  · rcases g4 with ⟨-, g4⟩ | ⟨g4, -⟩
    · rw [if_neg (by rw [c3]; decide), shiftGainC hB h ha, Option.bind_some]
      exact ⟨_, _, s1, _, rfl, by rw [g4], g2, g3⟩
    · exact absurd c2 g4
  · rcases g4 with ⟨g4, -⟩ | ⟨-, g4⟩
    · exact absurd g4 c2
    · rw [if_pos c3]
      exact ⟨_, _, s1, _, rfl, by rw [g4], g2, g3⟩
theorem sh67 (hB : GB E) (h : CW E facts ro locked rules sizes rows sc metric fixed) (hM : MW E s) {p r : Nat} (hpn : p < eN E) (hp : rof (eL E) p ≠ -nI 5) (hr : r < 4) (x3 : Int32) (y1 y2 y3 : Nat → Int32) (y4 y5 y6 y7 y8 y9 y10 : Int32) (v1 v2 v3 : Nat → Int32) (v4 v5 v6 v7 v8 v9 v10 tw : Int32) (cs bs : Nat → Int32) (b w l : Int32) {t7 t1 : Int32} (ht : t7 - t1 = nI (eL (eOut E (wr E p) (wk E p)) r).length) : ∃ v z s' z', b_X7_shift_67 (nI p) (nI r) x3 (nI (wr E p)) (nI (eL (eOut E (wr E p) (wk E p)) r).length) facts ro locked rules sizes rows metric fixed y1 y2 y3 y4 y5 y6 y7 y8 y9 y10 v1 v2 v3 v4 v5 v6 v7 v8 v9 v10 tw = some (v, z) ∧ b_X8_shift_51 (nI p) (nI r) x3 (nI (wr E p)) x3 (nI 0) t7 t1 s cs bs b w l = some (v, s', z') ∧ MW E s' ∧ low s s' := by
  obtain ⟨w1, w2, w3, w4, w5⟩ := wrk hp
  have hl := (hB.out w1 w4).len hr
  have hlf := hB.len w1
  unfold b_X7_shift_67 b_X8_shift_51
  simp only [lI]
  rw [ht, isUpTo_isIn]
  rcases isIn_eq x3 (eL (eOut E (wr E p) (wk E p)) r).length (by omega) with ⟨k, hk, rfl, e8⟩ | ⟨-, e8⟩
  · rw [e8]
    simp only [Option.bind_some]
    rw [if_neg h10_, if_neg h10_]
    by_cases q1 : r = wr E p
    · rw [if_pos (congrArg nI q1.symm), if_pos (congrArg nI q1), (placeOf_eq hB h hpn).1 _ w1 w2, (whereM hB hM w1 w4 w5).2]
      simp only [Option.bind_some]
      change ∃ v z s' z', (if nI k = nI (wk E p) then _ else _) = _ ∧ _
      by_cases q2 : k = wk E p
      · rw [if_pos (congrArg nI q2), if_pos (congrArg nI q2)]
        exact ⟨_, _, s, _, rfl, rfl, hM, low.refl s⟩
      · have q3 : ¬ nI k = nI (wk E p) := by rw [nI_eq (by omega) (by omega)]; exact q2
        rw [if_neg q3, if_neg q3]
        exact sh99 hB h hM (shArg_k hp hr hk) y1 y2 y3 y4 y5 y6 y7 y8 y9 y10 v1 v2 v3 v4 v5 v6 v7 v8 v9 v10 tw cs bs b w l
    · rw [if_neg (nI_ne4 w1 hr (fun z => q1 z.symm)), if_neg (nI_ne4 hr w1 q1)]
      exact sh99 hB h hM (shArg_k hp hr hk) y1 y2 y3 y4 y5 y6 y7 y8 y9 y10 v1 v2 v3 v4 v5 v6 v7 v8 v9 v10 tw cs bs b w l
  · rw [e8]
    simp only [Option.bind_some]
    rw [if_pos trivial, if_pos trivial]
    exact ⟨_, _, s, _, rfl, rfl, hM, low.refl s⟩
theorem shift_both (hB : GB E) (h : CW E facts ro locked rules sizes rows sc metric fixed) (hM : MW E s) (y1 y2 y3 : Nat → Int32) (y4 y5 y6 y7 y8 y9 y10 : Int32) (v1 v2 v3 : Nat → Int32) (v4 v5 v6 v7 v8 v9 v10 tw : Int32) (cs bs : Nat → Int32) (b w l : Int32) (x1 x2 x3 : Int32) : ∃ v z s' z', f_X7_shift facts ro locked rules sizes rows sc metric fixed y1 y2 y3 y4 y5 y6 y7 y8 y9 y10 v1 v2 v3 v4 v5 v6 v7 v8 v9 v10 tw x1 x2 x3 = some (v, z) ∧ f_X8_shift s cs bs b w l x1 x2 x3 = some (v, s', z') ∧ MW E s' ∧ low s s' := by
  have hN := hB.1
  unfold f_X7_shift f_X8_shift
  simp only [lI]
  rcases stopX (s := s) hN h.1 hM.1 x1 with ⟨p, hp, rfl, e1, e2⟩ | ⟨e1, e2⟩
  · rw [e1, e2]
    simp only [Option.bind_some]
    rw [if_neg h10_, if_neg h10_]
    rcases roundX x2 with ⟨r, hr, rfl, e3, e4⟩ | ⟨e3, e4⟩
    · rw [e3, e4]
      simp only [Option.bind_some]
      rw [if_neg h10_, if_neg h10_, (placeOf_eq hB h hp).2, rofM hB hM hp]
      simp only [Option.bind_some]
      have hS := (h.2.2.2.2.2.2.2 r hr).1
      by_cases q1 : rof (eL E) p = -nI 5
      · rw [if_pos q1, if_neg (by rw [q1]; exact m5_lt)]
        exact ⟨_, _, s, _, rfl, rfl, hM, low.refl s⟩
      · obtain ⟨w1, w2, w3, w4, w5⟩ := wrk q1
        have hlf := hB.len w1
        rw [if_neg q1, w3, if_pos (nI_0le (by omega)), sizeOf_eq sizes hr, sizeM hM hr, hS]
        simp only [Option.bind_some]
        by_cases e5 : r = wr E p
        · have e : nI (eL E r).length - nI 1 = nI (eL (eOut E (wr E p) (wk E p)) r).length := by
            rw [e5, show eL (eOut E (wr E p) (wk E p)) (wr E p) = del (eL E (wr E p)) (wk E p) from eL_up _ _ _, del_len w4, nI_sub1 (by omega)]
          rw [if_pos (congrArg nI e5.symm), if_pos (congrArg nI e5)]
          obtain ⟨v, z, s', z', g1, g2, g3, g4⟩ := sh67 hB h hM hp q1 hr x3 y1 y2 y3 y4 y5 y6 y7 y8 y9 y10 v1 v2 v3 v4 v5 v6 v7 v8 v9 v10 tw cs bs b w l e
          rw [← e] at g1
          exact ⟨v, z, s', z', g1, g2, g3, g4⟩
        · have e : nI (eL E r).length - nI 0 = nI (eL (eOut E (wr E p) (wk E p)) r).length := by
            rw [sub_n0, show eL (eOut E (wr E p) (wk E p)) r = eL E r from fup_n e5]
          rw [if_neg (nI_ne4 w1 hr (fun z => e5 z.symm)), if_neg (nI_ne4 hr w1 e5)]
          obtain ⟨v, z, s', z', g1, g2, g3, g4⟩ := sh67 hB h hM hp q1 hr x3 y1 y2 y3 y4 y5 y6 y7 y8 y9 y10 v1 v2 v3 v4 v5 v6 v7 v8 v9 v10 tw cs bs b w l e
          rw [← e, sub_n0] at g1
          exact ⟨v, z, s', z', g1, g2, g3, g4⟩
    · rw [e3, e4]
      simp only [Option.bind_some]
      rw [if_pos trivial, if_pos trivial]
      exact ⟨_, _, s, _, rfl, rfl, hM, low.refl s⟩
  · rw [e1, e2]
    simp only [Option.bind_some]
    rw [if_pos trivial, if_pos trivial]
    exact ⟨_, _, s, _, rfl, rfl, hM, low.refl s⟩
theorem swap_both (hB : GB E) (h : CW E facts ro locked rules sizes rows sc metric fixed) (hM : MW E s) (y1 y2 y3 : Nat → Int32) (y4 y5 y6 y7 y8 y9 y10 : Int32) (v1 v2 v3 : Nat → Int32) (v4 v5 v6 v7 v8 v9 v10 tw : Int32) (cs bs : Nat → Int32) (b w l : Int32) (x1 x2 : Int32) : ∃ v z s' z', f_X7_swap facts ro locked rules sizes rows sc metric y1 y2 y3 y4 y5 y6 y7 y8 y9 y10 v1 v2 v3 v4 v5 v6 v7 v8 v9 v10 tw x1 x2 = some (v, z) ∧ f_X8_swap s cs bs b w l x1 x2 = some (v, s', z') ∧ MW E s' ∧ low s s' := by
  have hN := hB.1
  unfold f_X7_swap f_X8_swap
  simp only [lI]
  rcases stopX (s := s) hN h.1 hM.1 x1 with ⟨p, hp, rfl, e1, e2⟩ | ⟨e1, e2⟩
  · rw [e1, e2]
    simp only [Option.bind_some]
    rw [if_neg h10_, if_neg h10_]
    rcases stopX (s := s) hN h.1 hM.1 x2 with ⟨q, hq, rfl, e3, e4⟩ | ⟨e3, e4⟩
    · rw [e3, e4]
      simp only [Option.bind_some]
      rw [if_neg h10_, if_neg h10_]
      by_cases e5 : nI p = nI q
      · rw [if_pos e5, if_pos e5]
        exact ⟨_, _, s, _, rfl, rfl, hM, low.refl s⟩
      · rw [if_neg e5, if_neg e5, (placeOf_eq hB h hp).2, rofM hB hM hp]
        simp only [Option.bind_some]
        by_cases q1 : rof (eL E) p = -nI 5
        · rw [if_pos q1, if_pos (rof_neg.1 q1)]
          exact ⟨_, _, s, _, rfl, rfl, hM, low.refl s⟩
        · rw [if_neg q1, if_neg (rof_neg.2 q1), (placeOf_eq hB h hq).2, rofM hB hM hq]
          simp only [Option.bind_some]
          by_cases q2 : rof (eL E) q = -nI 5
          · rw [if_pos q2, if_neg (by rw [q2]; exact m5_lt)]
            exact ⟨_, _, s, _, rfl, rfl, hM, low.refl s⟩
          · have hs := swArg_q q1 q2 (fun z => e5 (congrArg nI z))
            obtain ⟨w1, w2, w3, w4, w5⟩ := wrk q2
            have h0 : nI 0 ≤ rof (eL E) q := by rw [w3]; exact nI_0le (by omega)
            obtain ⟨v, z1, z2, z3, z4, z5, z6, z7, z8, z9, z10, u1, u2, u3, u4, u5, u6, u7, u8, u9, u10, tw', z0, zz⟩ := trySwapC hB h hs y1 y2 y3 y4 y5 y6 y7 y8 y9 y10 v1 v2 v3 v4 v5 v6 v7 v8 v9 v10 tw
            obtain ⟨v2, s1, c1, b1, a4, a5, a6, g1, g2, g3, g4⟩ := swapGainsM hB hM hs cs bs b w l
            rw [if_neg q2, if_pos h0, z0, g1]
            simp only [Option.bind_some]
            rcases zz with ⟨c2, c3, -⟩ | ⟨c2, c3⟩
            · rcases g4 with ⟨-, g4⟩ | ⟨g4, -⟩
              · rw [if_neg (by rw [c3]; decide), swapGainC hB h hs, Option.bind_some]
                exact ⟨_, _, s1, _, rfl, by rw [g4], g2, g3⟩
              · exact absurd c2 g4
            · rcases g4 with ⟨g4, -⟩ | ⟨-, g4⟩
              · exact absurd g4 c2
              · rw [if_pos c3]
                exact ⟨_, _, s1, _, rfl, by rw [g4], g2, g3⟩
    · rw [e3, e4]
      simp only [Option.bind_some]
      rw [if_pos trivial, if_pos trivial]
      exact ⟨_, _, s, _, rfl, rfl, hM, low.refl s⟩
  · rw [e1, e2]
    simp only [Option.bind_some]
    rw [if_pos trivial, if_pos trivial]
    exact ⟨_, _, s, _, rfl, rfl, hM, low.refl s⟩
end ASK
