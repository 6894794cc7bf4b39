/-! B22: turns -/
theorem kk {E : ES} (hB : GB E) {p : Nat} (hp : p < eN E) : eK E p = nI 0 ∨ eK E p = nI 1 := hB.2.2.2.2.2.1 p hp
def turnOK (E : ES) (r i j : Nat) : Prop := (∀ k, i ≤ k → k ≤ j → eK E (at_ (eL E r) k) = nI 0) ∧ eH E r (rev (eL E r) i j)
def eRev (E : ES) (r i j : Nat) : ES := eUp E r (rev (eL E r) i j)
theorem GB.rev {E : ES} (hB : GB E) {r i j : Nat} (hr : r < 4) (hij : i ≤ j) (hj : j < (eL E r).length) : GB (eRev E r i j) :=
  hB.up hr (nodup_rev (hB.nodup hr) hij hj) (fun q hq => hB.mem hr q ((mem_rev hij hj).mp hq)) (fun r' hr' hne q hq => hB.dis r r' hr hr' (fun e => hne e.symm) q ((mem_rev hij hj).mp hq))
abbrev TT1 : Type := Int32 × (Nat → Int32) × (Nat → Int32) × (Nat → Int32) × Int32 × Int32 × Int32 × Int32 × Int32 × Int32 × Int32 × Int32
section TURN
variable {E : ES} {facts ro locked rules sizes rows : Nat → Int32} {sc metric fixed : Int32}
theorem lockC (hB : GB E) (h : CW E facts ro locked rules sizes rows sc metric fixed) {p : Nat} (hp : p < eN E) : f_X6_isLocked locked (nI p) = some (eK E p) := by
  have hN := hB.1
  rw [isLocked_eq locked (by omega), h.2.2.2.2.2.1 p hp]
  rcases kk hB hp with e | e
  · rw [e]; rfl
  · rw [e]; rfl
theorem turnGainC (hB : GB E) (h : CW E facts ro locked rules sizes rows sc metric fixed) {r i j : Nat} (hr : r < 4) (hi : i < 2 ^ 29) (hj : j < 2 ^ 29) : f_X2_turnGain facts sizes rows metric (nI r) (nI i) (nI j) = some (trn (eD E) (eL E r) i j) := by
  have hS := h.2.2.2.2.2.2.2 r hr
  have hl := hB.len hr
  have hF := h.2.2.2.1
  have hN := hB.1
  unfold f_X2_turnGain
  simp only [lI, nI_add]
  rw [rowAt_pv hr hS.1 hS.2 hl (by omega), Option.bind_some, rowAt_eq hr hS.1 hS.2 hl (by omega), Option.bind_some, rowAt_eq hr hS.1 hS.2 hl (by omega), Option.bind_some, rowAt_eq hr hS.1 hS.2 hl (by omega), Option.bind_some, way_eq hF hN (pv_P (hB.mem hr) i) (at_P (hB.mem hr) i), Option.bind_some, way_eq hF hN (at_P (hB.mem hr) j) (at_P (hB.mem hr) (j + 1)), Option.bind_some, way_eq hF hN (pv_P (hB.mem hr) i) (at_P (hB.mem hr) j), Option.bind_some, way_eq hF hN (at_P (hB.mem hr) i) (at_P (hB.mem hr) (j + 1)), Option.bind_some, h.2.1]
  rfl
theorem tryTurnC (hB : GB E) (h : CW E facts ro locked rules sizes rows sc metric fixed) {r i j : Nat} (hr : r < 4) (hij : i ≤ j) (hj : j < (eL E r).length) (row cs bs : Nat → Int32) (y4 y5 y6 y7 y8 y9 y10 y11 : Int32) : ∃ q : TT1, f_X2_tryTurn row cs bs y4 y5 y6 y7 y8 y9 y10 y11 facts locked rules sizes rows metric (nI r) (nI i) (nI j) = some q ∧ (turnOK E r i j ∧ q.1 = nI 1 ∧ Rep q.2.1 0 (rev (eL E r) i j) ∧ q.2.2.2.2.1 = nI r ∧ q.2.2.2.2.2.1 = nI (rev (eL E r) i j).length ∧ q.2.2.2.2.2.2.2.2.2.2.2 = nI 0 ∨ ¬ turnOK E r i j ∧ q.1 = nI 0) := by
  have hS := h.2.2.2.2.2.2.2 r hr
  have hl := hB.len hr
  have hrl := rev_len hij hj
  have e39 : ∃ q : TT1, b_X2_tryTurn_39 (nI r) (nI i) (nI j) row cs bs facts rules sizes rows metric = some q ∧ (eH E r (rev (eL E r) i j) ∧ q.1 = nI 1 ∧ Rep q.2.1 0 (rev (eL E r) i j) ∧ q.2.2.2.2.1 = nI r ∧ q.2.2.2.2.2.1 = nI (rev (eL E r) i j).length ∧ q.2.2.2.2.2.2.2.2.2.2.2 = nI 0 ∨ ¬ eH E r (rev (eL E r) i j) ∧ q.1 = nI 0) := by
    obtain ⟨row1, h1, h2⟩ := loadC hB h hr row
    obtain ⟨row2, h3, h4⟩ := reverse_eq h1 hl hij hj
    obtain ⟨⟨v, q⟩, h5, h6⟩ := folC hB h hr h3 (by omega) (fun x hx => hB.mem hr x ((mem_rev hij hj).mp hx)) cs bs (nI 0)
    rw [hrl] at h6
    unfold b_X2_tryTurn_39
    simp only [lI]
    rw [h2, Option.bind_some]
    dsimp only
    rw [h4, Option.bind_some, h6, Option.bind_some]
    have h7 := h5.2.2
    dsimp only
    rw [gd_t (by rcases h7 with ⟨-, h7⟩ | ⟨-, h7⟩ <;> first | exact Or.inl h7 | exact Or.inr h7)]
    refine ⟨_, rfl, ?_⟩
    rcases h7 with ⟨g1, g2⟩ | ⟨g1, g2⟩
    · exact Or.inl ⟨g1, g2, h3, rfl, by rw [hrl], rfl⟩
    · exact Or.inr ⟨g1, g2⟩
  unfold f_X2_tryTurn l_X2_tryTurn_3
  obtain ⟨q, h1, h2⟩ := lp_inv (F := fun k (x : Int32) => b_X2_tryTurn_3 (nI r) (nI i) (nI j) row cs bs y4 y5 y6 y7 y8 y9 y10 y11 facts locked rules sizes rows metric k x) (fun t x => x = nI (i + t) ∧ ∀ k, i ≤ k → k < i + t → eK E (at_ (eL E r) k) = nI 0) (fun q : TT1 => turnOK E r i j ∧ q.1 = nI 1 ∧ Rep q.2.1 0 (rev (eL E r) i j) ∧ q.2.2.2.2.1 = nI r ∧ q.2.2.2.2.2.1 = nI (rev (eL E r) i j).length ∧ q.2.2.2.2.2.2.2.2.2.2.2 = nI 0 ∨ ¬ turnOK E r i j ∧ q.1 = nI 0) (j + 1 - i) (by
    rintro t x ht ⟨rfl, hu⟩
    have ha := at_lt (hB.mem hr) (show i + t < (eL E r).length by omega)
    have step : ∀ k, b_X2_tryTurn_3 (nI r) (nI i) (nI j) row cs bs y4 y5 y6 y7 y8 y9 y10 y11 facts locked rules sizes rows metric k (nI (i + t)) = if eK E (at_ (eL E r) (i + t)) = nI 0 then k (nI (i + t + 1)) else some (nI 0, row, cs, bs, y4, y5, y6, y7, y8, y9, y10, y11) := by
      intro k
      unfold b_X2_tryTurn_3
      simp only [lI, nI_add]
      rw [if_neg (nI_nlt (by omega) (by omega)), if_neg (nI_ge (by omega) (by omega)), rowAt_eq hr hS.1 hS.2 hl (by omega), Option.bind_some, lockC hB h ha, Option.bind_some]
    by_cases hk : eK E (at_ (eL E r) (i + t)) = nI 0
    · refine Or.inl ⟨nI (i + t + 1), ⟨rfl, fun k h1 h2 => ?_⟩, fun k => (step k).trans (if_pos hk)⟩
      by_cases q : k = i + t
      · rw [q]; exact hk
      · exact hu k h1 (by omega)
    · exact Or.inr ⟨_, Or.inr ⟨fun z => hk (z.1 (i + t) (by omega) (by omega)), rfl⟩, fun k => (step k).trans (if_neg hk)⟩) (by
    rintro x ⟨rfl, hu⟩
    have hu' : ∀ k, i ≤ k → k ≤ j → eK E (at_ (eL E r) k) = nI 0 := fun k h1 h2 => hu k h1 (by omega)
    obtain ⟨q, g1, g2⟩ := e39
    refine ⟨q, ?_, fun k => ?_⟩
    · rcases g2 with ⟨g2, g3⟩ | ⟨g2, g3⟩
      · exact Or.inl ⟨⟨hu', g2⟩, g3⟩
      · exact Or.inr ⟨fun z => g2 z.2, g3⟩
    · show b_X2_tryTurn_3 (nI r) (nI i) (nI j) row cs bs y4 y5 y6 y7 y8 y9 y10 y11 facts locked rules sizes rows metric k (nI (i + (j + 1 - i))) = _
      unfold b_X2_tryTurn_3
      rw [if_pos (nI_lt (by omega) (by omega)), g1]) fu (nI i) (by unfold fu; omega) ⟨rfl, fun k h1 h2 => absurd h2 (by omega)⟩
  exact ⟨q, h2, h1⟩
end TURN
theorem lockM {E : ES} {s : Nat → Int32} (hB : GB E) (h : MW E s) {p : Nat} (hp : p < eN E) : f_X8_stopAt s (nI p) (nI 6) = some (eK E p) := by
  have hN := hB.1
  rw [stopAt_eq s (by omega), h.2.2.2.2.1 p hp]
theorem milesM {E : ES} {s : Nat → Int32} (hB : GB E) (h : MW E s) {r : Nat} (hr : r < 4) : f_X8_milesOf s (nI r) = some (ml (eD E) (eL E r)) := milesM_eq h.2.1 hB.2.1 hr (h.2.2.2.2.2.2 r hr) (hB.len hr) (hB.mem hr) hB.1 h.2.2.2.1 hB.2.2.2.1
theorem turnGainsM {E : ES} {s : Nat → Int32} (hB : GB E) (h : MW E s) {r i j : Nat} (hr : r < 4) (hij : i ≤ j) (hj : j < (eL E r).length) (cs bs : Nat → Int32) (b w l : Int32) : ∃ v s' cs' bs' b' w' l', f_X8_turnGains s cs bs b w l (nI r) (nI i) (nI j) = some (v, s', cs', bs', b', w', l') ∧ MW E s' ∧ low s s' ∧ (turnOK E r i j ∧ v = trn (eD E) (eL E r) i j ∨ ¬ turnOK E r i j ∧ v = -nI 100000) := by
  have hl := hB.len hr
  have hrl := rev_len hij hj
  have hN := hB.1
  unfold f_X8_turnGains l_X8_turnGains_3
  obtain ⟨q, h1, h2⟩ := lp_inv (F := fun k (x : Int32) => b_X8_turnGains_3 (nI r) (nI i) (nI j) s cs bs b w l k x) (fun t x => x = nI (i + t) ∧ ∀ k, i ≤ k → k < i + t → eK E (at_ (eL E r) k) = nI 0) (fun q => MW E q.2.1 ∧ low s q.2.1 ∧ (turnOK E r i j ∧ q.1 = trn (eD E) (eL E r) i j ∨ ¬ turnOK E r i j ∧ q.1 = -nI 100000)) (j + 1 - i) (by
    rintro t x ht ⟨rfl, hu⟩
    have ha := at_lt (hB.mem hr) (show i + t < (eL E r).length by omega)
    have step : ∀ k, b_X8_turnGains_3 (nI r) (nI i) (nI j) s cs bs b w l k (nI (i + t)) = if eK E (at_ (eL E r) (i + t)) = nI 1 then some (-nI 100000, s, cs, bs, b, w, l) else k (nI (i + t + 1)) := by
      intro k
      unfold b_X8_turnGains_3
      simp only [lI, nI_add]
      rw [if_neg (nI_nlt (by omega) (by omega)), inRow_at hr (h.2.2.2.2.2.2 r hr) hl (by omega), Option.bind_some, lockM hB h ha, Option.bind_some]
    rcases kk hB ha with hk | hk
    · refine Or.inl ⟨nI (i + t + 1), ⟨rfl, fun k h1 h2 => ?_⟩, fun k => (step k).trans (if_neg (by rw [hk]; decide))⟩
      by_cases q : k = i + t
      · rw [q]; exact hk
      · exact hu k h1 (by omega)
    · exact Or.inr ⟨_, ⟨h, low.refl s, Or.inr ⟨fun z => absurd (hk.symm.trans (z.1 (i + t) (by omega) (by omega))) (by decide), rfl⟩⟩, fun k => (step k).trans (if_pos hk)⟩) (by
    rintro x ⟨rfl, hu⟩
    have hu' : ∀ k, i ≤ k → k ≤ j → eK E (at_ (eL E r) k) = nI 0 := fun k h1 h2 => hu k h1 (by omega)
    obtain ⟨s1, g1, g2, g3⟩ := reversesM_eq hr (h.2.2.2.2.2.2 r hr) hl hij hj
    have hB1 : GB (eRev E r i j) := hB.rev hr hij hj
    have hM1 : MW (eRev E r i j) s1 := MW.up hB h hr g2 g3
    obtain ⟨s2, i1, i2, i3⟩ := reversesM_eq hr g2 (by omega) hij (show j < (rev (eL E r) i j).length by omega)
    rw [rev_rev hij hj] at i2
    have hM2 : MW E s2 := by
      have := MW.up hB1 hM1 hr i2 i3
      unfold eRev at this
      rw [eUp_back] at this
      exact this
    have lw : low s s2 := g3.low.trans i3.low
    obtain ⟨v, c, b', bk, w', l', j1, j2⟩ := holdsM hB1 hM1 hr cs bs b w l
    rw [show eL (eRev E r i j) r = rev (eL E r) i j from eL_up _ _ _] at j2
    have m1 := milesM hB1 hM1 hr
    rw [show eL (eRev E r i j) r = rev (eL E r) i j from eL_up _ _ _] at m1
    change f_X8_milesOf s1 (nI r) = some (ml (eD E) (rev (eL E r) i j)) at m1
    have hx : nI j < nI (i + (j + 1 - i)) := nI_lt (by omega) (by omega)
    rcases j2 with ⟨j2, j3, -⟩ | ⟨j2, j3⟩
    · refine ⟨(ml (eD E) (eL E r) - ml (eD E) (rev (eL E r) i j), s2, c, b', bk, w', l'), ⟨hM2, lw, Or.inl ⟨⟨hu', j2⟩, ml_rev (eD E) (dist_comm _ _) hij hj⟩⟩, fun k => ?_⟩
      show b_X8_turnGains_3 (nI r) (nI i) (nI j) s cs bs b w l k (nI (i + (j + 1 - i))) = _
      unfold b_X8_turnGains_3 b_X8_turnGains_70
      simp only [lI]
      rw [if_pos hx, milesM hB h hr, Option.bind_some, g1, Option.bind_some, j1, Option.bind_some]
      dsimp only
      rw [if_neg (by rw [j3]; decide), m1, Option.bind_some, i1, Option.bind_some]
    · refine ⟨(-nI 100000, s2, c, b', bk, w', l'), ⟨hM2, lw, Or.inr ⟨fun z => j2 z.2, rfl⟩⟩, fun k => ?_⟩
      show b_X8_turnGains_3 (nI r) (nI i) (nI j) s cs bs b w l k (nI (i + (j + 1 - i))) = _
      unfold b_X8_turnGains_3 b_X8_turnGains_70
      simp only [lI]
      rw [if_pos hx, milesM hB h hr, Option.bind_some, g1, Option.bind_some, j1, Option.bind_some]
      dsimp only
      rw [if_pos j3, i1, Option.bind_some]) fu (nI i) (by unfold fu; omega) ⟨rfl, fun k h1 h2 => absurd h2 (by omega)⟩
  exact ⟨q.1, q.2.1, _, _, _, _, _, h2, h1⟩
