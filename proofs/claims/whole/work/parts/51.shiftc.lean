/-! B24: shifts in the class -/
theorem eUp_same (E : ES) (r : Nat) (M N : List Nat) : eUp (eUp E r M) r N = eUp E r N := by
  obtain ⟨n, L, F, K, R, m, x⟩ := E
  show (n, fup (fup L r M) r N, F, K, R, m, x) = (n, fup L r N, F, K, R, m, x)
  have : fup (fup L r M) r N = fup L r N := by
    funext j
    by_cases h : j = r
    · rw [h, fup_s, fup_s]
    · rw [fup_n h, fup_n h, fup_n h]
  rw [this]
/-- what stands in the drafts to be kept -/
def Kp (E E2 : ES) (row1 : Nat → Int32) (rd1 sz1 : Int32) (row2 : Nat → Int32) (rd2 sz2 two : Int32) : Prop :=
  (two = nI 0 ∧ ∃ f M, f < 4 ∧ rd1 = nI f ∧ sz1 = nI M.length ∧ Rep row1 0 M ∧ E2 = eUp E f M) ∨ (two = nI 1 ∧ ∃ f M r N, f < 4 ∧ r < 4 ∧ f ≠ r ∧ rd1 = nI f ∧ sz1 = nI M.length ∧ Rep row1 0 M ∧ rd2 = nI r ∧ sz2 = nI N.length ∧ Rep row2 0 N ∧ M.length ≤ 16 ∧ (∀ p ∈ M, p < 16) ∧ E2 = eUp (eUp E f M) r N)
theorem used_pos {L : List Nat} (h : 0 < L.length) : used L = 1 := by
  unfold used
  rw [if_neg (by omega)]
section SHC
variable {E : ES} {facts ro locked rules sizes rows : Nat → Int32} {sc metric fixed : Int32}
theorem detourC (hB : GB E) (h : CW E facts ro locked rules sizes rows sc metric fixed) {a b c : Nat} (ha : isP (eN E) a) (hb : isP (eN E) b) (hc : isP (eN E) c) : f_X6_detour facts metric (nI a) (nI b) (nI c) = some (dtr (eD E) a b c) := by
  have hF := h.2.2.2.1
  have hN := hB.1
  unfold f_X6_detour
  rw [way_eq hF hN ha hb, Option.bind_some, way_eq hF hN hb hc, Option.bind_some, way_eq hF hN ha hc, Option.bind_some, h.2.1]
  rfl
theorem shiftGainC (hB : GB E) (h : CW E facts ro locked rules sizes rows sc metric fixed) {p f i r k : Nat} (ha : shArg E p f i r k) : f_X2_shiftGain facts ro sizes rows metric fixed (nI p) (nI r) (nI k) = some (shGain E p f i r k) := by
  have hN := hB.1
  have hp := ha.p hB
  obtain ⟨hf, hr, hi, hpi, hk⟩ := ha
  have hio := out_in (hB.nodup hf) hi hpi
  have hS := h.2.2.2.2.2.2.2
  have hlf := hB.len hf
  have hlr := hB.len hr
  have e1 := (placeOf_eq hB h hp).2
  rw [hB.rof hf hio.1] at e1
  have e2 := (placeOf_eq hB h hp).1 f hf hio.1
  rw [hio.2] at e2
  have hml : ml (eD E) (eL E f) = ml (eD E) (del (eL E f) i) + dtr (eD E) (pv_ (eL E f) i) p (at_ (eL E f) (i + 1)) := by
    have := ml_del (eD E) hi
    rw [hpi] at this
    exact this
  have hdl := del_len hi
  unfold f_X2_shiftGain
  simp only [lI, nI_add]
  rw [e1, Option.bind_some, e2, Option.bind_some, rowAt_pv hf (hS f hf).1 (hS f hf).2 hlf (by omega), Option.bind_some, nI_add, rowAt_eq hf (hS f hf).1 (hS f hf).2 hlf (by omega), Option.bind_some, detourC hB h (pv_P (hB.mem hf) i) (Or.inl hp) (at_P (hB.mem hf) (i + 1)), Option.bind_some]
  by_cases hrf : r = f
  · subst hrf
    rw [if_pos rfl]
    have hel : eL (eOut E r i) r = del (eL E r) i := eL_up _ _ _
    rw [hel] at hk
    have hE2 : eShift E p r i r k = eUp E r (ins (del (eL E r) i) k p) := by
      show eUp (eUp E r (del (eL E r) i)) r (ins (eL (eOut E r i) r) k p) = _
      rw [eUp_same, hel]
    have hg : shGain E p r i r k = dtr (eD E) (pv_ (eL E r) i) p (at_ (eL E r) (i + 1)) - dtr (eD E) (pv_ (del (eL E r) i) k) p (at_ (del (eL E r) i) k) := by
      unfold shGain
      rw [hE2, eC_up E hr, ml_ins _ hk, hml, used_pos (by rw [ins_len hk]; omega), used_pos (show 0 < (eL E r).length by omega)]
      generalize eC E = a, ml (eD E) (del (eL E r) i) = b, dtr (eD E) (pv_ (eL E r) i) p (at_ (eL E r) (i + 1)) = c, dtr (eD E) (pv_ (del (eL E r) i) k) p (at_ (del (eL E r) i) k) = d, eX E = e
      grind
    rw [hg]
    have hbef : ∀ y, f_X6_rowAt sizes rows (nI r) y = some (nI (pv_ (del (eL E r) i) k)) → b_X2_shiftGain_98 (nI p) (nI r) (nI k) (nI i) (dtr (eD E) (pv_ (eL E r) i) p (at_ (eL E r) (i + 1))) (nI r) y facts sizes rows metric = some (dtr (eD E) (pv_ (eL E r) i) p (at_ (eL E r) (i + 1)) - dtr (eD E) (pv_ (del (eL E r) i) k) p (at_ (del (eL E r) i) k)) := by
      intro y hy
      unfold b_X2_shiftGain_98 b_X2_shiftGain_121
      simp only [lI, nI_add]
      have hpP : isP (eN E) (pv_ (del (eL E r) i) k) := pv_P (fun x hx => hB.mem hr x ((mem_del (hB.nodup hr) hi).mp hx).1) k
      have haP : isP (eN E) (at_ (del (eL E r) i) k) := at_P (fun x hx => hB.mem hr x ((mem_del (hB.nodup hr) hi).mp hx).1) k
      rw [hy, Option.bind_some]
      have hat := at_del hi k
      by_cases q : k < i
      · rw [if_neg (nI_ge q (by omega)), rowAt_eq hr (hS r hr).1 (hS r hr).2 hlr (by omega), Option.bind_some]
        rw [if_pos q] at hat
        rw [← hat, detourC hB h hpP (Or.inl hp) haP, Option.bind_some]
      · rw [if_pos (nI_le (by omega) (by omega)), rowAt_eq hr (hS r hr).1 (hS r hr).2 hlr (by omega), Option.bind_some]
        rw [if_neg q] at hat
        rw [← hat, detourC hB h hpP (Or.inl hp) haP, Option.bind_some]
    have hpv := pv_del hi k
    by_cases q : k ≤ i
    · have hn : ¬ nI i ≤ nI k - nI 1 := by
        rw [Int32.le_iff_toInt_le, nI_toInt (by omega), pk_sub_toInt (by omega) (by omega)]
        omega
      rw [if_neg hn]
      refine hbef _ ?_
      rw [rowAt_pv hr (hS r hr).1 (hS r hr).2 hlr (by omega), hpv, if_pos q]
    · have hn : nI i ≤ nI k - nI 1 := by
        rw [nI_sub1 (by omega)]
        exact nI_le (by omega) (by omega)
      rw [if_pos hn]
      refine hbef _ ?_
      rw [rowAt_eq hr (hS r hr).1 (hS r hr).2 hlr (by omega), hpv, if_neg q]
      rfl
  · have hne : ¬ nI r = nI f := nI_ne4 hr hf hrf
    rw [if_neg hne, sizeOf_eq sizes hf, Option.bind_some, (hS f hf).1]
    have hel : eL (eOut E f i) r = eL E r := fup_n hrf
    rw [hel] at hk
    have e67 : ∀ y1, b_X2_shiftGain_67 (nI p) (nI r) (nI k) (dtr (eD E) (pv_ (eL E f) i) p (at_ (eL E f) (i + 1))) y1 facts sizes rows metric fixed = some (dtr (eD E) (pv_ (eL E f) i) p (at_ (eL E f) (i + 1)) + y1 - adC E p r k) := by
      intro y1
      unfold b_X2_shiftGain_67
      rw [addsC hB h hp hr hk, Option.bind_some]
    rw [e67, e67]
    have hg : shGain E p f i r k = dtr (eD E) (pv_ (eL E f) i) p (at_ (eL E f) (i + 1)) + (if (eL E f).length = 1 then eX E else nI 0) - adC E p r k := by
      unfold shGain
      show eC E - eC (eUp (eUp E f (del (eL E f) i)) r (ins (eL (eOut E f i) r) k p)) = _
      rw [hel, eC_up _ hr, eC_up E hf]
      show eC E - (eC E + (ml (eD E) (del (eL E f) i) - ml (eD E) (eL E f)) + eX E * (used (del (eL E f) i) - used (eL E f)) + (ml (eD E) (ins (eL E r) k p) - ml (eD E) (eL (eUp E f (del (eL E f) i)) r)) + eX E * (used (ins (eL E r) k p) - used (eL (eUp E f (del (eL E f) i)) r))) = _
      rw [show eL (eUp E f (del (eL E f) i)) r = eL E r from hel, ml_ins _ hk, hml, used_pos (L := ins (eL E r) k p) (by rw [ins_len hk]; omega), used_pos (show 0 < (eL E f).length by omega)]
      unfold adC used
      rw [hdl]
      generalize eC E = a, ml (eD E) (del (eL E f) i) = b, dtr (eD E) (pv_ (eL E f) i) p (at_ (eL E f) (i + 1)) = c, dtr (eD E) (pv_ (eL E r) k) p (at_ (eL E r) k) = d, eX E = e, ml (eD E) (eL E r) = m
      have e0 : nI 0 = (0 : Int32) := rfl
      rw [e0]
      by_cases h1 : (eL E f).length = 1
      · rw [if_pos h1, if_pos (by omega)]
        split
        · grind
        · grind
      · rw [if_neg h1, if_neg (by omega)]
        split
        · grind
        · grind
    rw [hg, h.2.2.1]
    by_cases h1 : (eL E f).length = 1
    · rw [if_pos (by rw [h1]), if_pos h1]
    · rw [if_neg (by rw [nI_eq (by omega) (by decide)]; exact h1), if_neg h1]
theorem tryShiftC (hB : GB E) (h : CW E facts ro locked rules sizes rows sc metric fixed) {p f i r k : Nat} (ha : shArg E p f i r k) (y1 y2 y3 : Nat → Int32) (y4 y5 y6 y7 y8 y9 y10 : Int32) (w1 w2 w3 : Nat → Int32) (w4 w5 w6 w7 w8 w9 w10 tw : Int32) : ∃ (v : Int32) (z1 z2 z3 : Nat → Int32) (z4 z5 z6 z7 z8 z9 z10 : Int32) (u1 u2 u3 : Nat → Int32) (u4 u5 u6 u7 u8 u9 u10 tw' : Int32), f_X2_tryShift y1 y2 y3 y4 y5 y6 y7 y8 y9 y10 w1 w2 w3 w4 w5 w6 w7 w8 w9 w10 tw facts ro locked rules sizes rows metric (nI p) (nI r) (nI k) = some (v, z1, z2, z3, z4, z5, z6, z7, z8, z9, z10, u1, u2, u3, u4, u5, u6, u7, u8, u9, u10, tw') ∧ (shOK E p f i r k ∧ v = nI 1 ∧ Kp E (eShift E p f i r k) z1 z4 z5 u1 u4 u5 tw' ∨ ¬ shOK E p f i r k ∧ v = nI 0) := by
  have hN := hB.1
  have hp := ha.p hB
  have hnone := ha.none hB
  have hB2 := ha.gb hB
  obtain ⟨hf, hr, hi, hpi, hk⟩ := ha
  have hio := out_in (hB.nodup hf) hi hpi
  have hS := h.2.2.2.2.2.2.2
  have hlf := hB.len hf
  have hlr := hB.len hr
  have e1 := (placeOf_eq hB h hp).2
  rw [hB.rof hf hio.1] at e1
  have e2 := (placeOf_eq hB h hp).1 f hf hio.1
  rw [hio.2] at e2
  have hdl := del_len hi
  have hdm : ∀ x ∈ del (eL E f) i, x < eN E := fun x hx => hB.mem hf x ((mem_del (hB.nodup hf) hi).mp hx).1
  have him : ∀ x ∈ ins (eL (eOut E f i) r) k p, x < eN E := by
    have := hB2.mem hr
    rw [show eL (eShift E p f i r k) r = ins (eL (eOut E f i) r) k p from eL_up _ _ _] at this
    exact this
  obtain ⟨row1, h1, h2⟩ := loadC hB h hf y1
  obtain ⟨row2, h3, h4⟩ := drop_eq h1 hlf hi
  unfold f_X2_tryShift
  simp only [lI]
  rw [lockC hB h hp, Option.bind_some]
  rcases kk hB hp with hl | hl
  rotate_left
  · rw [if_neg (by rw [hl]; decide)]
    exact ⟨_, _, _, _, _, _, _, _, _, _, _, _, _, _, _, _, _, _, _, _, _, _, rfl, Or.inr ⟨fun z => absurd (hl.symm.trans z.1) (by decide), rfl⟩⟩
  rw [if_pos hl, e1, Option.bind_some]
  unfold b_X2_tryShift_29
  simp only [lI]
  by_cases hrf : r = f
  · subst hrf
    have hel : eL (eOut E r i) r = del (eL E r) i := eL_up _ _ _
    rw [hel] at hk him
    have hE2 : eShift E p r i r k = eUp E r (ins (del (eL E r) i) k p) := by
      show eUp (eUp E r (del (eL E r) i)) r (ins (eL (eOut E r i) r) k p) = _
      rw [eUp_same, hel]
    have hil := ins_len (p := p) hk
    obtain ⟨row3, h5, h6⟩ := insert_eq (p := p) h3 (by omega) hk
    obtain ⟨⟨v, q2, q3, q4, q5, q6, q7, q8⟩, h7, h8⟩ := folC hB h hr h5 (by omega) him y2 y3 (nI 0)
    rw [if_pos rfl, gd_t (Or.inl trivial), h2, Option.bind_some, e2, Option.bind_some]
    dsimp only
    rw [h4, Option.bind_some]
    dsimp only
    rw [if_pos trivial, ← hdl, h6, Option.bind_some]
    dsimp only
    rw [← hil, h8, Option.bind_some]
    have h9 := h7.2.2
    dsimp only at h9
    dsimp only
    rw [gd_t (by rcases h9 with ⟨-, h9⟩ | ⟨-, h9⟩ <;> first | exact Or.inl h9 | exact Or.inr h9)]
    refine ⟨_, _, _, _, _, _, _, _, _, _, _, _, _, _, _, _, _, _, _, _, _, _, rfl, ?_⟩
    unfold shOK
    rw [hE2, show eL (eUp E r (ins (del (eL E r) i) k p)) r = ins (del (eL E r) i) k p from eL_up _ _ _]
    rcases h9 with ⟨g1, g2⟩ | ⟨g1, g2⟩
    · exact Or.inl ⟨⟨hl, g1, g1⟩, g2, Or.inl ⟨rfl, r, _, hr, rfl, rfl, h5, rfl⟩⟩
    · exact Or.inr ⟨fun z => g1 z.2.1, g2⟩
  · have hne : ¬ nI r = nI f := nI_ne4 hr hf hrf
    have hel : eL (eOut E f i) r = eL E r := fup_n hrf
    rw [hel] at hk him
    have hpr : p ∉ eL E r := by
      have := hnone r hr
      rw [hel] at this
      exact this
    have hll := len_lt hB hp hr hpr
    have hil := ins_len (p := p) hk
    have hE2 : eShift E p f i r k = eUp (eUp E f (del (eL E f) i)) r (ins (eL E r) k p) := by
      show eUp (eUp E f (del (eL E f) i)) r (ins (eL (eOut E f i) r) k p) = _
      rw [hel]
    have hLf : eL (eShift E p f i r k) f = del (eL E f) i := by
      rw [hE2]
      show fup (fup (eL E) f (del (eL E f) i)) r _ f = _
      rw [fup_n (fun z => hrf z.symm), fup_s]
    have hLr : eL (eShift E p f i r k) r = ins (eL E r) k p := by
      rw [hE2]
      exact eL_up _ _ _
    obtain ⟨row3, h5, h6⟩ := loadC hB h hr w1
    obtain ⟨row4, h7, h8⟩ := insert_eq (p := p) h5 hll hk
    obtain ⟨⟨v, q2, q3, q4, q5, q6, q7, q8⟩, h9, h10⟩ := folC hB h hf h3 (by omega) hdm y2 y3 (nI 0)
    obtain ⟨⟨v', r2, r3, r4, r5, r6, r7, r8⟩, h11, h12⟩ := folC hB h hr h7 (by omega) him w2 w3 (nI 0)
    rw [if_neg hne, gd_t (Or.inr trivial), h2, Option.bind_some, e2, Option.bind_some]
    dsimp only
    rw [h4, Option.bind_some]
    dsimp only
    rw [if_neg (show ¬ nI 1 = nI 0 by decide), h6, Option.bind_some]
    dsimp only
    rw [h8, Option.bind_some]
    dsimp only
    rw [← hdl, h10, Option.bind_some]
    dsimp only
    have h13 := h9.2.2
    have h14 := h11.2.2
    dsimp only at h13 h14
    unfold shOK
    rw [hLf, hLr]
    rcases h13 with ⟨g1, g2⟩ | ⟨g1, g2⟩
    · rw [if_neg (by rw [g2]; decide), ← hil, h12, Option.bind_some]
      dsimp only
      rcases h14 with ⟨g3, g4⟩ | ⟨g3, g4⟩
      · rw [if_neg (by rw [g4]; decide)]
        exact ⟨_, _, _, _, _, _, _, _, _, _, _, _, _, _, _, _, _, _, _, _, _, _, rfl, Or.inl ⟨⟨hl, g1, g3⟩, rfl, Or.inr ⟨rfl, f, _, r, _, hf, hr, fun z => hrf z.symm, rfl, rfl, h3, rfl, rfl, h7, by omega, fun x hx => Nat.lt_of_lt_of_le (hdm x hx) hN, hE2⟩⟩⟩
      · rw [if_pos g4]
        exact ⟨_, _, _, _, _, _, _, _, _, _, _, _, _, _, _, _, _, _, _, _, _, _, rfl, Or.inr ⟨fun z => g3 z.2.2, rfl⟩⟩
    · rw [if_pos g2]
      exact ⟨_, _, _, _, _, _, _, _, _, _, _, _, _, _, _, _, _, _, _, _, _, _, rfl, Or.inr ⟨fun z => g1 z.2.1, rfl⟩⟩
end SHC
