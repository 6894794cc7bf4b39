/-! B26: swaps in the class -/
theorem used_len {L M : List Nat} (h : L.length = M.length) : used L = used M := by
  unfold used
  rw [h]
section SWC
variable {E : ES} {facts ro locked rules sizes rows : Nat → Int32} {sc metric fixed : Int32}
theorem whereC (hB : GB E) (h : CW E facts ro locked rules sizes rows sc metric fixed) {p a i : Nat} (ha : a < 4) (hi : i < (eL E a).length) (hp : at_ (eL E a) i = p) : p < eN E ∧ f_X6_roundOf ro (nI p) = some (nI a) ∧ f_X6_placeOf ro sizes rows (nI p) = some (nI i) := by
  have hio := out_in (hB.nodup ha) hi hp
  have hpn := hB.mem ha p hio.1
  have e1 := (placeOf_eq hB h hpn).2
  rw [hB.rof ha hio.1] at e1
  have e2 := (placeOf_eq hB h hpn).1 a ha hio.1
  rw [hio.2] at e2
  exact ⟨hpn, e1, e2⟩
theorem standInC (hB : GB E) (h : CW E facts ro locked rules sizes rows sc metric fixed) {r k p : Nat} (hr : r < 4) (hk : k < 2 ^ 29) (hp : p < eN E) : f_X2_standInGain facts sizes rows metric (nI r) (nI k) (nI p) = some (stn (eD E) (eL E r) k p) := by
  have hS := h.2.2.2.2.2.2.2 r hr
  have hl := hB.len hr
  have hF := h.2.2.2.1
  have hN := hB.1
  unfold f_X2_standInGain
  simp only [lI, nI_add]
  rw [rowAt_pv hr hS.1 hS.2 hl (by omega), Option.bind_some, rowAt_eq hr hS.1 hS.2 hl (by omega), Option.bind_some, rowAt_eq hr hS.1 hS.2 hl (by omega), Option.bind_some, way_eq hF hN (pv_P (hB.mem hr) k) (at_P (hB.mem hr) k), Option.bind_some, way_eq hF hN (at_P (hB.mem hr) k) (at_P (hB.mem hr) (k + 1)), Option.bind_some, way_eq hF hN (pv_P (hB.mem hr) k) (Or.inl hp), Option.bind_some, way_eq hF hN (Or.inl hp) (at_P (hB.mem hr) (k + 1)), Option.bind_some, h.2.1]
  rfl
theorem sub_one {x y : Nat} (hx : x < 2 ^ 29) (hy : y < 2 ^ 29) : nI x - nI y = nI 1 ↔ x = y + 1 := by
  constructor
  · intro z
    have := congrArg Int32.toInt z
    rw [pk_sub_toInt (by omega) (by omega), nI_toInt (by decide)] at this
    omega
  · intro z
    rw [z, pk_sub (by omega), show y + 1 - y = 1 by omega]
theorem swapGainC (hB : GB E) (h : CW E facts ro locked rules sizes rows sc metric fixed) {p q a i b j : Nat} (hs : swArg E p q a i b j) : f_X2_swapGain facts ro sizes rows metric (nI p) (nI q) = some (swGain E p q a i b j) := by
  have hN := hB.1
  have hsw := hs
  obtain ⟨ha, hb, hi, hj, hp, hq, hpq⟩ := hs
  obtain ⟨hpn, e1, e2⟩ := whereC hB h ha hi hp
  obtain ⟨hqn, e3, e4⟩ := whereC hB h hb hj hq
  have hla := hB.len ha
  have hlb := hB.len hb
  have e83 : b_X2_swapGain_83 (nI p) (nI q) (nI a) (nI i) (nI j) facts ro sizes rows metric = some (stn (eD E) (eL E a) i q + stn (eD E) (eL E b) j p) := by
    unfold b_X2_swapGain_83
    rw [standInC hB h ha (by omega) hqn, Option.bind_some, e3, Option.bind_some, standInC hB h hb (by omega) hpn, Option.bind_some]
  unfold f_X2_swapGain b_X2_swapGain_52
  simp only [lI]
  rw [e1, Option.bind_some, e2, Option.bind_some, e4, Option.bind_some, e3, Option.bind_some, e83]
  simp only [Option.bind_some]
  by_cases hab : a = b
  · subst hab
    have hij := hsw.ij
    have hg : swGain E p q a i a j = ml (eD E) (eL E a) - ml (eD E) (((eL E a).set i q).set j p) := by
      unfold swGain
      rw [eSwap_one, eC_up E ha, used_len (L := ((eL E a).set i q).set j p) (M := eL E a) (by rw [List.length_set, List.length_set])]
      generalize eC E = x, ml (eD E) (eL E a) = y, ml (eD E) (((eL E a).set i q).set j p) = z, used (eL E a) = u, eX E = v
      grind
    simp only [if_true]
    rw [hg]
    by_cases h1 : i = j + 1
    · rw [if_pos ((sub_one (by omega) (by omega)).mpr h1), turnGainC hB h ha (by omega) (by omega), Option.bind_some]
      subst h1
      rw [← hp, ← hq, (set2_rev hi).2, ml_rev (eD E) (dist_comm _ _) (by omega) hi]
    · rw [if_neg (fun z => h1 ((sub_one (by omega) (by omega)).mp z))]
      by_cases h2 : j = i + 1
      · rw [if_pos ((sub_one (by omega) (by omega)).mpr h2), turnGainC hB h ha (by omega) (by omega), Option.bind_some]
        subst h2
        rw [← hp, ← hq, (set2_rev hj).1, ml_rev (eD E) (dist_comm _ _) (by omega) hj]
      · rw [if_neg (fun z => h2 ((sub_one (by omega) (by omega)).mp z)), ml_set2 (eD E) hi hj hij h1 h2]
  · have hne : ¬ nI a = nI b := nI_ne4 ha hb hab
    rw [if_neg hne, if_neg hne]
    have hg : swGain E p q a i b j = stn (eD E) (eL E a) i q + stn (eD E) (eL E b) j p := by
      unfold swGain
      rw [eSwap_two hab, eC_up _ hb, eC_up E ha]
      show eC E - (eC E + (ml (eD E) ((eL E a).set i q) - ml (eD E) (eL E a)) + eX E * (used ((eL E a).set i q) - used (eL E a)) + (ml (eD E) ((eL E b).set j p) - ml (eD E) (eL (eUp E a ((eL E a).set i q)) b)) + eX E * (used ((eL E b).set j p) - used (eL (eUp E a ((eL E a).set i q)) b))) = _
      rw [show eL (eUp E a ((eL E a).set i q)) b = eL E b from fup_n (fun z => hab z.symm), used_len (L := (eL E a).set i q) (M := eL E a) (by rw [List.length_set]), used_len (L := (eL E b).set j p) (M := eL E b) (by rw [List.length_set]), ← ml_stn (eD E) hi, ← ml_stn (eD E) hj]
      generalize eC E = x, ml (eD E) (eL E a) = y, ml (eD E) ((eL E a).set i q) = z, ml (eD E) (eL E b) = y', ml (eD E) ((eL E b).set j p) = z', used (eL E a) = u, used (eL E b) = u', eX E = v
      grind
    rw [hg]
theorem trySwapC (hB : GB E) (h : CW E facts ro locked rules sizes rows sc metric fixed) {p q a i b j : Nat} (hs : swArg E p q a i b j) (y1 y2 y3 : Nat → Int32) (y4 y5 y6 y7 y8 y9 y10 : Int32) (w1 w2 w3 : Nat → Int32) (w4 w5 w6 w7 w8 w9 w10 tw : Int32) : ∃ (v : Int32) (z1 z2 z3 : Nat → Int32) (z4 z5 z6 z7 z8 z9 z10 : Int32) (u1 u2 u3 : Nat → Int32) (u4 u5 u6 u7 u8 u9 u10 tw' : Int32), f_X2_trySwap y1 y2 y3 y4 y5 y6 y7 y8 y9 y10 w1 w2 w3 w4 w5 w6 w7 w8 w9 w10 tw facts ro locked rules sizes rows metric (nI p) (nI q) = some (v, z1, z2, z3, z4, z5, z6, z7, z8, z9, z10, u1, u2, u3, u4, u5, u6, u7, u8, u9, u10, tw') ∧ (swOK E p q a i b j ∧ v = nI 1 ∧ Kp E (eSwap E p q a i b j) z1 z4 z5 u1 u4 u5 tw' ∨ ¬ swOK E p q a i b j ∧ v = nI 0) := by
  have hN := hB.1
  have hB2 := hs.gb hB
  have hsw := hs
  obtain ⟨ha, hb, hi, hj, hp, hq, hpq⟩ := hs
  obtain ⟨hpn, e1, e2⟩ := whereC hB h ha hi hp
  obtain ⟨hqn, e3, e4⟩ := whereC hB h hb hj hq
  have hla := hB.len ha
  have hlb := hB.len hb
  obtain ⟨row1, h1, h2⟩ := loadC hB h ha y1
  obtain ⟨row2, h3, h4⟩ := replace_eq (p := q) h1 hla hi
  unfold f_X2_trySwap
  simp only [lI]
  rw [lockC hB h hpn, Option.bind_some]
  rcases kk hB hpn with hl | hl
  rotate_left
  · rw [if_neg (by rw [hl]; decide)]
    exact ⟨_, _, _, _, _, _, _, _, _, _, _, _, _, _, _, _, _, _, _, _, _, _, rfl, Or.inr ⟨fun z => absurd (hl.symm.trans z.1) (by decide), rfl⟩⟩
  rw [if_pos hl, lockC hB h hqn, Option.bind_some]
  rcases kk hB hqn with hk | hk
  rotate_left
  · rw [if_neg (by rw [hk]; decide)]
    exact ⟨_, _, _, _, _, _, _, _, _, _, _, _, _, _, _, _, _, _, _, _, _, _, rfl, Or.inr ⟨fun z => absurd (hk.symm.trans z.2.1) (by decide), rfl⟩⟩
  rw [if_pos hk, e1, Option.bind_some, e3, Option.bind_some]
  unfold b_X2_trySwap_41
  simp only [lI]
  by_cases hab : a = b
  · subst hab
    have hij := hsw.ij
    have hE2 : eSwap E p q a i a j = eUp E a (((eL E a).set i q).set j p) := eSwap_one
    have hj' : j < ((eL E a).set i q).length := by rw [List.length_set]; exact hj
    have hl2 : (((eL E a).set i q).set j p).length = (eL E a).length := by rw [List.length_set, List.length_set]
    obtain ⟨row3, h5, h6⟩ := replace_eq (p := p) h3 (by rw [List.length_set]; exact hla) hj'
    have hm : ∀ x ∈ ((eL E a).set i q).set j p, x < eN E := by
      have := hB2.mem ha
      rw [hE2, show eL (eUp E a (((eL E a).set i q).set j p)) a = ((eL E a).set i q).set j p from eL_up _ _ _] at this
      exact this
    obtain ⟨⟨v, q2, q3, q4, q5, q6, q7, q8⟩, h7, h8⟩ := folC hB h ha h5 (by rw [hl2]; exact hla) hm y2 y3 (nI 0)
    rw [hl2] at h8
    rw [if_pos rfl, gd_t (Or.inl trivial), h2, Option.bind_some, e2, Option.bind_some]
    dsimp only
    rw [h4, Option.bind_some, if_pos trivial, e4, Option.bind_some, h6, Option.bind_some, h8, Option.bind_some]
    have h9 := h7.2.2
    dsimp only at h9
    dsimp only
    rw [gd_t (by rcases h9 with ⟨-, h9⟩ | ⟨-, h9⟩ <;> first | exact Or.inl h9 | exact Or.inr h9)]
    refine ⟨_, _, _, _, _, _, _, _, _, _, _, _, _, _, _, _, _, _, _, _, _, _, rfl, ?_⟩
    unfold swOK
    rw [hE2, show eL (eUp E a (((eL E a).set i q).set j p)) a = ((eL E a).set i q).set j p from eL_up _ _ _]
    rcases h9 with ⟨g1, g2⟩ | ⟨g1, g2⟩
    · exact Or.inl ⟨⟨hl, hk, g1, g1⟩, g2, Or.inl ⟨rfl, a, _, ha, rfl, by rw [hl2], h5, rfl⟩⟩
    · exact Or.inr ⟨fun z => g1 z.2.2.1, g2⟩
  · have hne : ¬ nI a = nI b := nI_ne4 ha hb hab
    have hE2 := eSwap_two (E := E) (p := p) (q := q) (i := i) (j := j) hab
    have hL := eL_swap_a (E := E) (p := p) (q := q) (i := i) (j := j) hab
    have hma : ∀ x ∈ (eL E a).set i q, x < eN E := by
      have := hB2.mem ha
      rw [hL.1] at this
      exact this
    have hmb : ∀ x ∈ (eL E b).set j p, x < eN E := by
      have := hB2.mem hb
      rw [hL.2] at this
      exact this
    have hl2 : ((eL E a).set i q).length = (eL E a).length := by rw [List.length_set]
    have hl3 : ((eL E b).set j p).length = (eL E b).length := by rw [List.length_set]
    obtain ⟨row3, h5, h6⟩ := loadC hB h hb w1
    obtain ⟨row4, h7, h8⟩ := replace_eq (p := p) h5 hlb hj
    obtain ⟨⟨v, q2, q3, q4, q5, q6, q7, q8⟩, h9, h10⟩ := folC hB h ha h3 (by rw [hl2]; exact hla) hma y2 y3 (nI 0)
    obtain ⟨⟨v', r2, r3, r4, r5, r6, r7, r8⟩, h11, h12⟩ := folC hB h hb h7 (by rw [hl3]; exact hlb) hmb w2 w3 (nI 0)
    rw [hl2] at h10
    rw [hl3] at h12
    rw [if_neg hne, gd_t (Or.inr trivial), h2, Option.bind_some, e2, Option.bind_some]
    dsimp only
    rw [h4, Option.bind_some, if_neg (show ¬ nI 1 = nI 0 by decide), e3, Option.bind_some, h6, Option.bind_some, e4, Option.bind_some]
    dsimp only
    rw [h8, Option.bind_some, h10, Option.bind_some]
    dsimp only
    have h13 := h9.2.2
    have h14 := h11.2.2
    dsimp only at h13 h14
    unfold swOK
    rw [hL.1, hL.2]
    rcases h13 with ⟨g1, g2⟩ | ⟨g1, g2⟩
    · rw [if_neg (by rw [g2]; decide), h12, Option.bind_some]
      dsimp only
      rcases h14 with ⟨g3, g4⟩ | ⟨g3, g4⟩
      · rw [if_neg (by rw [g4]; decide)]
        exact ⟨_, _, _, _, _, _, _, _, _, _, _, _, _, _, _, _, _, _, _, _, _, _, rfl, Or.inl ⟨⟨hl, hk, g1, g3⟩, rfl, Or.inr ⟨rfl, a, _, b, _, ha, hb, hab, rfl, by rw [hl2], h3, rfl, by rw [hl3], h7, by rw [hl2]; exact hla, fun x hx => Nat.lt_of_lt_of_le (hma x hx) hN, hE2⟩⟩⟩
      · rw [if_pos g4]
        exact ⟨_, _, _, _, _, _, _, _, _, _, _, _, _, _, _, _, _, _, _, _, _, _, rfl, Or.inr ⟨fun z => g3 z.2.2.2, rfl⟩⟩
    · rw [if_pos g2]
      exact ⟨_, _, _, _, _, _, _, _, _, _, _, _, _, _, _, _, _, _, _, _, _, _, rfl, Or.inr ⟨fun z => g1 z.2.2.1, rfl⟩⟩
end SWC
