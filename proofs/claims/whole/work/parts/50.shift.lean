/-! B23: shifts, told for both, and in the reference -/
theorem sm_fup (g : List Nat → Int32) (f : Nat → List Nat) {r : Nat} (hr : r < 4) (v : List Nat) : sm (fun j => g (fup f r v j)) 4 = sm (fun j => g (f j)) 4 + (g v - g (f r)) := by
  rcases (show r = 0 ∨ r = 1 ∨ r = 2 ∨ r = 3 by omega) with rfl | rfl | rfl | rfl
  · show (0 : Int32) + g v + g (f 1) + g (f 2) + g (f 3) = 0 + g (f 0) + g (f 1) + g (f 2) + g (f 3) + (g v - g (f 0))
    grind
  · show (0 : Int32) + g (f 0) + g v + g (f 2) + g (f 3) = 0 + g (f 0) + g (f 1) + g (f 2) + g (f 3) + (g v - g (f 1))
    grind
  · show (0 : Int32) + g (f 0) + g (f 1) + g v + g (f 3) = 0 + g (f 0) + g (f 1) + g (f 2) + g (f 3) + (g v - g (f 2))
    grind
  · show (0 : Int32) + g (f 0) + g (f 1) + g (f 2) + g v = 0 + g (f 0) + g (f 1) + g (f 2) + g (f 3) + (g v - g (f 3))
    grind
theorem eC_up (E : ES) {r : Nat} (hr : r < 4) (M : List Nat) : eC (eUp E r M) = eC E + (ml (eD E) M - ml (eD E) (eL E r)) + eX E * (used M - used (eL E r)) := by
  have h1 := sm_fup (ml (eD E)) (eL E) hr M
  have h2 := sm_fup used (eL E) hr M
  show sm (fun j => ml (eD E) (fup (eL E) r M j)) 4 + eX E * sm (fun j => used (fup (eL E) r M j)) 4 = _
  rw [h1, h2]
  unfold eC
  grind
def eShift (E : ES) (p f i r k : Nat) : ES := eIn (eOut E f i) r k p
theorem eL_out {E : ES} {f i r : Nat} : eL (eOut E f i) r = if r = f then del (eL E f) i else eL E r := rfl
/-- a stop of a round, moved to a place that there is without it -/
def shArg (E : ES) (p f i r k : Nat) : Prop := f < 4 ∧ r < 4 ∧ i < (eL E f).length ∧ at_ (eL E f) i = p ∧ k ≤ (eL (eOut E f i) r).length
theorem shArg.p {E : ES} {p f i r k : Nat} (hB : GB E) (h : shArg E p f i r k) : p < eN E := by
  rw [← h.2.2.2.1]
  exact at_lt (hB.mem h.1) h.2.2.1
theorem shArg.none {E : ES} {p f i r k : Nat} (hB : GB E) (h : shArg E p f i r k) : ∀ t, t < 4 → p ∉ eL (eOut E f i) t := by
  intro t ht
  rw [eL_out]
  obtain ⟨hf, hr, hi, hp, hk⟩ := h
  by_cases q : t = f
  · rw [if_pos q, mem_del (hB.nodup hf) hi, hp]
    exact fun z => z.2 rfl
  · rw [if_neg q]
    exact hB.dis f t hf ht (fun e => q e.symm) p (by rw [← hp]; exact at_mem hi)
theorem shArg.gb {E : ES} {p f i r k : Nat} (hB : GB E) (h : shArg E p f i r k) : GB (eShift E p f i r k) := by
  have h1 : GB (eOut E f i) := hB.out h.1 h.2.2.1
  have hp := h.p hB
  have hn := h.none hB
  exact GB.ins (E := eOut E f i) h1 hp h.2.1 hn
theorem eShift_back {E : ES} {p f i r k : Nat} (h : shArg E p f i r k) : eOut (eShift E p f i r k) r k = eOut E f i ∧ eIn (eOut E f i) f i p = E := by
  obtain ⟨hf, hr, hi, hp, hk⟩ := h
  constructor
  · have : del (eL (eShift E p f i r k) r) k = eL (eOut E f i) r := by
      rw [show eL (eShift E p f i r k) r = ins (eL (eOut E f i) r) k p from eL_up _ _ _]
      exact del_ins hk
    show eUp (eUp (eOut E f i) r (ins (eL (eOut E f i) r) k p)) r (del (eL (eShift E p f i r k) r) k) = _
    rw [this]
    exact eUp_back (eOut E f i) r _
  · have : ins (eL (eOut E f i) f) i p = eL E f := by
      rw [show eL (eOut E f i) f = del (eL E f) i from eL_up _ _ _, ← hp]
      exact ins_del hi
    show eUp (eUp E f (del (eL E f) i)) f (ins (eL (eOut E f i) f) i p) = E
    rw [this]
    exact eUp_back E f _
def shOK (E : ES) (p f i r k : Nat) : Prop := eK E p = nI 0 ∧ eH E f (eL (eShift E p f i r k) f) ∧ eH E r (eL (eShift E p f i r k) r)
def shGain (E : ES) (p f i r k : Nat) : Int32 := eC E - eC (eShift E p f i r k)
theorem out_in {L : List Nat} {i p : Nat} (hn : L.Nodup) (hi : i < L.length) (hp : at_ L i = p) : p ∈ L ∧ L.idxOf p = i := by
  rw [← hp]
  exact ⟨at_mem hi, idx_at hn hi⟩
theorem costM {E : ES} {s : Nat → Int32} (hB : GB E) (h : MW E s) : f_X8_cost s = some (eC E) := costM_eq hB h
theorem MW.insM {E : ES} {s : Nat → Int32} (hB : GB E) (h : MW E s) {p r k : Nat} (hp : p < eN E) (hr : r < 4) (hm : p ∉ eL E r) (hk : k ≤ (eL E r).length) : ∃ s', f_X8_inserts s (nI r) (nI k) (nI p) = some s' ∧ MW (eIn E r k p) s' ∧ offR r s s' := by
  obtain ⟨s2, i1, i2, i3⟩ := insertsM_eq (p := p) hr (h.2.2.2.2.2.2 r hr) (len_lt hB hp hr hm) hk
  exact ⟨s2, i1, MW.up hB h hr i2 i3, i3⟩
theorem MW.outM {E : ES} {s : Nat → Int32} (hB : GB E) (h : MW E s) {r k : Nat} (hr : r < 4) (hk : k < (eL E r).length) : ∃ s', f_X8_removes s (nI r) (nI k) = some s' ∧ MW (eOut E r k) s' ∧ offR r s s' := by
  obtain ⟨s2, i1, i2, i3⟩ := removesM_eq hr (h.2.2.2.2.2.2 r hr) (hB.len hr) hk
  exact ⟨s2, i1, MW.up hB h hr i2 i3, i3⟩
theorem shiftGainsM {E : ES} {s : Nat → Int32} (hB : GB E) (h : MW E s) {p f i r k : Nat} (ha : shArg E p f i r k) (cs bs : Nat → Int32) (b w l : Int32) : ∃ v s' cs' bs' b' w' l', f_X8_shiftGains s cs bs b w l (nI p) (nI r) (nI k) = some (v, s', cs', bs', b', w', l') ∧ MW E s' ∧ low s s' ∧ (shOK E p f i r k ∧ v = shGain E p f i r k ∨ ¬ shOK E p f i r k ∧ v = -nI 100000) := by
  have hN := hB.1
  have hp := ha.p hB
  have hnone := ha.none hB
  have hB2 := ha.gb hB
  have hbk := eShift_back ha
  obtain ⟨hf, hr, hi, hpi, hk⟩ := ha
  have hio := out_in (hB.nodup hf) hi hpi
  have hB1 : GB (eOut E f i) := hB.out hf hi
  unfold f_X8_shiftGains
  simp only [lI]
  rw [lockM hB h hp, Option.bind_some]
  rcases kk hB hp with hl | hl
  rotate_left
  · rw [if_pos hl]
    exact ⟨_, s, _, _, _, _, _, rfl, h, low.refl s, Or.inr ⟨fun z => absurd (hl.symm.trans z.1) (by decide), rfl⟩⟩
  rw [if_neg (by rw [hl]; decide)]
  have e3 : f_X8_roundOf s (nI p) = some (nI f) := by
    rw [roundOfM_eq (hB.MRs h) hN (by omega)]
    exact congrArg some (hB.rof hf hio.1)
  have e4 : f_X8_placeIn s (nI f) (nI p) = some (nI i) := by
    rw [placeIn_eq hf (h.2.2.2.2.2.2 f hf) (hB.len hf) (hB.mem16 hf) (by omega)]
    unfold plc
    rw [if_pos hio.1, hio.2]
  obtain ⟨s1, g1, g2, g3⟩ := MW.outM hB h hf hi
  obtain ⟨s2, g4, g5, g6⟩ := MW.insM hB1 g2 (p := p) hp hr (hnone r hr) hk
  change MW (eShift E p f i r k) s2 at g5
  have hlen : k < (eL (eShift E p f i r k) r).length := by
    rw [show eL (eShift E p f i r k) r = ins (eL (eOut E f i) r) k p from eL_up _ _ _, ins_len hk]
    omega
  obtain ⟨s3, g7, g8, g9⟩ := MW.outM hB2 g5 hr hlen
  rw [hbk.1] at g8
  have hlen2 : i ≤ (eL (eOut E f i) f).length := by
    rw [show eL (eOut E f i) f = del (eL E f) i from eL_up _ _ _, del_len hi]
    omega
  obtain ⟨s4, g10, g11, g12⟩ := MW.insM hB1 g8 (p := p) hp hf (hnone f hf) hlen2
  rw [hbk.2] at g11
  have lw : low s s4 := g3.low.trans (g6.low.trans (g9.low.trans g12.low))
  rw [e3, Option.bind_some, e4, Option.bind_some, costM hB h, Option.bind_some, g1, Option.bind_some, g4, Option.bind_some]
  obtain ⟨v, c, b', bk, w', l', j1, j2⟩ := holdsM hB2 g5 hf cs bs b w l
  rw [j1, Option.bind_some]
  have e80 : ∀ (y : Int32) (c b' : Nat → Int32) (bk w' l' : Int32), b_X8_shiftGains_80 (nI p) (nI r) (nI k) (nI f) (nI i) y s2 c b' bk w' l' = some (y, s4, c, b', bk, w', l') := by
    intro y c b' bk w' l'
    unfold b_X8_shiftGains_80
    rw [g7, Option.bind_some, g10, Option.bind_some]
  dsimp only
  rcases j2 with ⟨j2, j3, -⟩ | ⟨j2, j3⟩
  · rw [if_neg (by rw [j3]; decide)]
    obtain ⟨v2, c2, b2, bk2, w2, l2, j4, j5⟩ := holdsM hB2 g5 hr c b' bk w' l'
    rw [j4, Option.bind_some]
    dsimp only
    rcases j5 with ⟨j5, j6, -⟩ | ⟨j5, j6⟩
    · rw [if_neg (by rw [j6]; decide), costM hB2 g5, Option.bind_some, e80]
      exact ⟨_, s4, _, _, _, _, _, rfl, g11, lw, Or.inl ⟨⟨hl, j2, j5⟩, rfl⟩⟩
    · rw [if_pos j6]
      unfold b_X8_shiftGains_78
      simp only [lI]
      rw [e80]
      exact ⟨_, s4, _, _, _, _, _, rfl, g11, lw, Or.inr ⟨fun z => j5 z.2.2, rfl⟩⟩
  · rw [if_pos j3]
    unfold b_X8_shiftGains_78
    simp only [lI]
    rw [e80]
    exact ⟨_, s4, _, _, _, _, _, rfl, g11, lw, Or.inr ⟨fun z => j2 z.2.1, rfl⟩⟩
