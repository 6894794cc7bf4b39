/-! B34: take, clear, in both -/
def tkOK (E : ES) (p : Nat) : Prop := rof (eL E) p ≠ -nI 5 ∧ eK E p = nI 0 ∧ eH E (wr E p) (del (eL E (wr E p)) (wk E p))
theorem tk_gi {E : ES} (hI : GI E) {p : Nat} (h : tkOK E p) : GI (eOut E (wr E p) (wk E p)) := by
  obtain ⟨w1, w2, w3, w4, w5⟩ := wrk h.1
  refine ⟨hI.1.out w1 w4, fun r' h4 => ?_⟩
  show eH E r' (fup (eL E) (wr E p) (del (eL E (wr E p)) (wk E p)) r')
  by_cases hq : r' = wr E p
  · rw [hq, fup_s]; exact h.2.2
  · rw [fup_n hq]; exact hI.2 r' h4
theorem eOut_back {E : ES} {p f i : Nat} (hf : f < 4) (hi : i < (eL E f).length) (hp : at_ (eL E f) i = p) : eIn (eOut E f i) f i p = E := by
  refine (eShift_back (E := E) (p := p) (f := f) (i := i) (r := f) (k := i) ⟨hf, hf, hi, hp, ?_⟩).2
  rw [show eL (eOut E f i) f = del (eL E f) i from eL_up _ _ _, del_len hi]
  omega
section TAKE
variable {E : ES} {facts ro locked rules sizes rows s : Nat → Int32} {sc metric fixed : Int32}
theorem takeOutC (hB : GB E) (h : CW E facts ro locked rules sizes rows sc metric fixed) {p : Nat} (hp : p < eN E) (y1 y2 y3 : Nat → Int32) (y4 y5 y6 y7 y8 y9 y10 : Int32) : ∃ (v : Int32) (z1 z2 z3 : Nat → Int32) (z4 z5 z6 z7 z8 z9 z10 : Int32) (ro' sizes' rows' : Nat → Int32), f_X7_takeOut y1 y2 y3 y4 y5 y6 y7 y8 y9 y10 facts ro locked rules sizes rows metric (nI p) = some (v, z1, z2, z3, z4, z5, z6, z7, z8, z9, z10, ro', sizes', rows') ∧ (tkOK E p ∧ v = nI 1 ∧ CW (eOut E (wr E p) (wk E p)) facts ro' locked rules sizes' rows' sc metric fixed ∨ ¬ tkOK E p ∧ v = nI 0 ∧ CW E facts ro' locked rules sizes' rows' sc metric fixed) := by
  unfold f_X7_takeOut
  simp only [lI]
  rw [(placeOf_eq hB h hp).2, Option.bind_some]
  by_cases q1 : rof (eL E) p = -nI 5
  · rw [if_pos q1]
    exact ⟨_, y1, y2, y3, y4, y5, y6, y7, y8, y9, y10, ro, sizes, rows, rfl, Or.inr ⟨fun z => z.1 q1, rfl, h⟩⟩
  · obtain ⟨w1, w2, w3, w4, w5⟩ := wrk q1
    rw [if_neg q1, lockC hB h hp, Option.bind_some]
    by_cases q2 : eK E p = nI 0
    · have hlf := hB.len w1
      have hdl := del_len w4
      have hdm : ∀ x ∈ del (eL E (wr E p)) (wk E p), x < eN E := fun x hx => hB.mem w1 x ((mem_del (hB.nodup w1) w4).mp hx).1
      obtain ⟨row1, h1, h2⟩ := loadC hB h w1 y1
      obtain ⟨row2, h3, h4⟩ := drop_eq h1 hlf w4
      obtain ⟨⟨v, j2, j3, j4, j5, j6, j7, j8⟩, h5, h6⟩ := folC hB h w1 h3 (by omega) hdm y2 y3 (nI 0)
      rw [hdl] at h6
      rw [if_pos q2, w3, h2, Option.bind_some]
      dsimp only
      rw [(placeOf_eq hB h hp).1 _ w1 w2, Option.bind_some]
      change ∃ (v : Int32) (z1 z2 z3 : Nat → Int32) (z4 z5 z6 z7 z8 z9 z10 : Int32) (ro' sizes' rows' : Nat → Int32), (f_X0_drop row1 (nI (eL E (wr E p)).length) (nI (wk E p))).bind _ = _ ∧ _
      rw [h4, Option.bind_some]
      dsimp only
      rw [h6, Option.bind_some]
      dsimp only
      have h7 := h5.2.2
      dsimp only at h7
      rcases h7 with ⟨g1, g2⟩ | ⟨g1, g2⟩
      · obtain ⟨ro', sizes', rows', k1, -, k2⟩ := keepC hB h w1 h3 (hB.out w1 w4)
        rw [hdl] at k1
        rw [if_neg (by rw [g2]; decide), k1, Option.bind_some]
        exact ⟨_, _, _, _, _, _, _, _, _, _, _, ro', sizes', rows', rfl, Or.inl ⟨⟨q1, by assumption, g1⟩, rfl, k2⟩⟩
      · rw [if_pos g2]
        exact ⟨_, _, _, _, _, _, _, _, _, _, _, ro, sizes, rows, rfl, Or.inr ⟨fun z => g1 z.2.2, rfl, h⟩⟩
    · rw [if_neg q2]
      exact ⟨_, y1, y2, y3, y4, y5, y6, y7, y8, y9, y10, ro, sizes, rows, rfl, Or.inr ⟨fun z => q2 z.2.1, rfl, h⟩⟩
theorem takeM (hB : GB E) (hM : MW E s) {p : Nat} (hp : p < eN E) (cs bs : Nat → Int32) (b w l : Int32) : ∃ v s' z', f_X8_take s cs bs b w l (nI p) = some (v, s', z') ∧ low s s' ∧ (tkOK E p ∧ v = eC E - eC (eOut E (wr E p) (wk E p)) ∧ MW (eOut E (wr E p) (wk E p)) s' ∨ ¬ tkOK E p ∧ v = -nI 3 ∧ MW E s') := by
  have hN := hB.1
  have e1 : f_X8_isStop s (nI p) = some (nI 1) := by
    rcases stopX (s := s) hN (sc := nI (eN E)) rfl hM.1 (nI p) with ⟨q, -, -, -, e⟩ | ⟨e, -⟩
    · exact e
    · rcases isStop_eq (eN E) hN (nI p) with ⟨q, -, -, e'⟩ | ⟨hx, -⟩
      · rw [e'] at e
        exact absurd (Option.some.inj e) h10_
      · rcases hx with hx | hx
        · exact absurd hx (nI_lt0 (by omega))
        · exact absurd hx (nI_ge hp (by omega))
  unfold f_X8_take
  simp only [lI]
  rw [e1, Option.bind_some, if_neg h10_, rofM hB hM hp, Option.bind_some]
  by_cases q1 : rof (eL E) p = -nI 5
  · rw [if_pos (rof_neg.1 q1)]
    exact ⟨_, s, _, rfl, low.refl s, Or.inr ⟨fun z => z.1 q1, rfl, hM⟩⟩
  · obtain ⟨w1, w2, w3, w4, w5⟩ := wrk q1
    rw [if_neg (rof_neg.2 q1), lockM hB hM hp, Option.bind_some]
    by_cases q2 : eK E p = nI 1
    · rw [if_pos q2]
      exact ⟨_, s, _, rfl, low.refl s, Or.inr ⟨fun z => absurd (q2.symm.trans z.2.1) (by decide), rfl, hM⟩⟩
    · have q3 : eK E p = nI 0 := (kk hB hp).resolve_right q2
      have hB1 : GB (eOut E (wr E p) (wk E p)) := hB.out w1 w4
      obtain ⟨s1, g1, g2, g3⟩ := MW.outM hB hM w1 w4
      obtain ⟨v, c, b', bk, w', l', j1, j2⟩ := holdsM hB1 g2 w1 cs bs b w l
      rw [if_neg q2, costM hB hM, Option.bind_some, w3, (whereM hB hM w1 w4 w5).2, Option.bind_some, g1, Option.bind_some, j1, Option.bind_some]
      dsimp only
      rw [show eL (eOut E (wr E p) (wk E p)) (wr E p) = del (eL E (wr E p)) (wk E p) from eL_up _ _ _] at j2
      rcases j2 with ⟨j2, j3, -⟩ | ⟨j2, j3⟩
      · rw [if_neg (by rw [j3]; decide), costM hB1 g2, Option.bind_some]
        exact ⟨_, s1, _, rfl, g3.low, Or.inl ⟨⟨q1, q3, j2⟩, rfl, g2⟩⟩
      · have hno : p ∉ eL (eOut E (wr E p) (wk E p)) (wr E p) := by
          rw [show eL (eOut E (wr E p) (wk E p)) (wr E p) = del (eL E (wr E p)) (wk E p) from eL_up _ _ _, mem_del (hB.nodup w1) w4, w5]
          exact fun z => z.2 rfl
        obtain ⟨s2, g4, g5, g6⟩ := MW.insM hB1 g2 (p := p) (k := wk E p) hp w1 hno (by rw [show eL (eOut E (wr E p) (wk E p)) (wr E p) = del (eL E (wr E p)) (wk E p) from eL_up _ _ _, del_len w4]; omega)
        rw [eOut_back w1 w4 w5] at g5
        rw [if_pos j3, g4, Option.bind_some]
        exact ⟨_, s2, _, rfl, g3.low.trans g6.low, Or.inr ⟨fun z => j2 z.2.2, rfl, g5⟩⟩
theorem take_both (hI : GI E) (h : CW E facts ro locked rules sizes rows sc metric fixed) (hM : MW E s) (y1 y2 y3 : Nat → Int32) (y4 y5 y6 y7 y8 y9 y10 : Int32) (cs bs : Nat → Int32) (b w l : Int32) (x1 : Int32) : ∃ E' v ro' sizes' rows' z s' z', f_X7_take facts ro locked rules sizes rows sc metric fixed y1 y2 y3 y4 y5 y6 y7 y8 y9 y10 x1 = some (v, ro', sizes', rows', z) ∧ f_X8_take s cs bs b w l x1 = some (v, s', z') ∧ GI E' ∧ CW E' facts ro' locked rules sizes' rows' sc metric fixed ∧ MW E' s' ∧ low s s' := by
  have hB := hI.1
  rcases stopX (s := s) hB.1 h.1 hM.1 x1 with ⟨p, hp, rfl, e1, e2⟩ | ⟨e1, e2⟩
  · obtain ⟨v, z1, z2, z3, z4, z5, z6, z7, z8, z9, z10, ro', sizes', rows', f1, f2⟩ := takeOutC hB h hp y1 y2 y3 y4 y5 y6 y7 y8 y9 y10
    obtain ⟨v2, s', z', g1, g2, g3⟩ := takeM hB hM hp cs bs b w l
    unfold f_X7_take
    simp only [lI]
    rw [e1, Option.bind_some, if_neg h10_, (costC_eq hB h).2.2, Option.bind_some, f1, Option.bind_some, g1]
    dsimp only
    rcases f2 with ⟨f2, f3, f4⟩ | ⟨f2, f3, f4⟩
    · rcases g3 with ⟨-, g3, g4⟩ | ⟨g3, -⟩
      · have hG := tk_gi hI f2
        rw [if_neg (by rw [f3]; decide), (costC_eq hG.1 f4).2.2, Option.bind_some]
        exact ⟨_, _, ro', sizes', rows', _, s', z', rfl, by rw [g3], hG, f4, g4, g2⟩
      · exact absurd f2 g3
    · rcases g3 with ⟨g3, -⟩ | ⟨-, g3, g4⟩
      · exact absurd g3 f2
      · rw [if_pos f3]
        exact ⟨E, _, ro', sizes', rows', _, s', z', rfl, by rw [g3], hI, f4, g4, g2⟩
  · unfold f_X7_take f_X8_take
    simp only [lI]
    rw [e1, e2]
    simp only [Option.bind_some]
    rw [if_pos trivial, if_pos trivial]
    exact ⟨E, _, ro, sizes, rows, _, s, _, rfl, rfl, hI, h, hM, low.refl s⟩
/-- the unlocked dropped, from behind -/
def duK (K : Nat → Int32) : Nat → List Nat → List Nat
  | 0, L => L
  | k + 1, L => duK K k (if K (at_ L k) = nI 0 then del L k else L)
theorem duK_succ (K : Nat → Int32) (k : Nat) (L : List Nat) : duK K (k + 1) L = duK K k (if K (at_ L k) = nI 0 then del L k else L) := rfl
/-- where both stand after so many looks -/
def DuI (K : Nat → Int32) (L : List Nat) (t : Nat) (M : List Nat) : Prop := M.Nodup ∧ (∀ p ∈ M, p ∈ L) ∧ M.length ≤ L.length ∧ L.length - t ≤ M.length ∧ duK K (L.length - t) M = duK K L.length L
theorem DuI.zero {K : Nat → Int32} {L : List Nat} (h : L.Nodup) : DuI K L 0 L := ⟨h, fun _ hp => hp, Nat.le_refl _, Nat.le_refl _, rfl⟩
theorem DuI.step {K : Nat → Int32} {L M : List Nat} {t k : Nat} (h : DuI K L t M) (hk : L.length - t = k + 1) : (K (at_ M k) = nI 0 → DuI K L (t + 1) (del M k)) ∧ (¬ K (at_ M k) = nI 0 → DuI K L (t + 1) M) := by
  obtain ⟨h1, h2, h3, h4, h5⟩ := h
  rw [hk] at h4
  rw [hk, duK_succ] at h5
  have hkM : k < M.length := by omega
  have hdl := del_len hkM
  have e : L.length - (t + 1) = k := by omega
  constructor
  · intro hK
    rw [if_pos hK] at h5
    refine ⟨nodup_del h1 hkM, fun p hp => h2 p ((mem_del h1 hkM).mp hp).1, by omega, by omega, ?_⟩
    rw [e]
    exact h5
  · intro hK
    rw [if_neg hK] at h5
    refine ⟨h1, h2, h3, by omega, ?_⟩
    rw [e]
    exact h5
theorem DuI.last {K : Nat → Int32} {L M : List Nat} (h : DuI K L L.length M) : M = duK K L.length L := by
  have := h.2.2.2.2
  rw [Nat.sub_self] at this
  exact this
def eDu (E : ES) (r : Nat) : List Nat := duK (eK E) (eL E r).length (eL E r)
theorem DuI.gb (hB : GB E) {r t : Nat} (hr : r < 4) {M : List Nat} (h : DuI (eK E) (eL E r) t M) : GB (eUp E r M) :=
  hB.up hr h.1 (fun p hp => hB.mem hr p (h.2.1 p hp)) (fun r' hr' hne p hp => hB.dis r r' hr hr' (fun e => hne e.symm) p (h.2.1 p hp))
theorem stopAtC {row : Nat → Int32} {k : Nat} (hk : k < 16) : f_X0_stopAt row (nI k) = some (row k) := by
  unfold f_X0_stopAt
  simp only [lI]
  rw [chk_in hk (by decide), nI_clamp (by omega)]
theorem dropU (hB : GB E) (h : CW E facts ro locked rules sizes rows sc metric fixed) {r : Nat} (hr : r < 4) {row : Nat → Int32} (hrow : Rep row 0 (eL E r)) : ∃ row', Rep row' 0 (eDu E r) ∧ DuI (eK E) (eL E r) (eL E r).length (eDu E r) ∧ f_X0_dropUnlocked row (nI (eL E r).length) locked = some (row', nI (eDu E r).length) := by
  have hl := hB.len hr
  unfold f_X0_dropUnlocked l_X0_dropUnlocked_7
  simp only [lI]
  obtain ⟨⟨row', sz⟩, ⟨M, h1, h2, h3⟩, h4⟩ := lp_inv (F := fun k (x : Int32 × (Nat → Int32) × Int32) => b_X0_dropUnlocked_7 locked k x.1 x.2.1 x.2.2) (fun t x => x.1 = nI ((eL E r).length - t) - nI 1 ∧ ∃ M, Rep x.2.1 0 M ∧ x.2.2 = nI M.length ∧ DuI (eK E) (eL E r) t M) (fun q => ∃ M, Rep q.1 0 M ∧ q.2 = nI M.length ∧ DuI (eK E) (eL E r) (eL E r).length M) (eL E r).length (by
    rintro t ⟨x2, f, sz⟩ ht ⟨e2, M, g1, g2, g3⟩
    dsimp only at e2 g1 g2
    subst e2 g2
    obtain ⟨k, hk⟩ : ∃ k, (eL E r).length - t = k + 1 := ⟨(eL E r).length - t - 1, by omega⟩
    have hkM : k < M.length := by have := g3.2.2.2.1; omega
    have hML := g3.2.2.1
    have hp : at_ M k < eN E := hB.mem hr _ (g3.2.1 _ (at_mem hkM))
    have hst := g3.step hk
    have ek : (eL E r).length - (t + 1) = k := by omega
    have hf := g1 k hkM
    rw [Nat.zero_add] at hf
    obtain ⟨row2, i1, i2⟩ := drop_eq g1 (by omega) hkM
    have step : ∀ z, b_X0_dropUnlocked_7 locked z (nI ((eL E r).length - t) - nI 1) f (nI M.length) = if eK E (at_ M k) = nI 0 then z (nI k - nI 1, row2, nI (M.length - 1)) else z (nI k - nI 1, f, nI M.length) := by
      intro z
      unfold b_X0_dropUnlocked_7
      simp only [lI]
      rw [hk, nI_sub1 (show 0 < k + 1 by omega), Nat.add_sub_cancel, if_neg (nI_lt0 (by omega)), stopAtC (by omega), Option.bind_some, hf, lockC hB h hp, Option.bind_some, i2, Option.bind_some, ← Int32.sub_eq_add_neg]
    by_cases q : eK E (at_ M k) = nI 0
    · exact Or.inl ⟨(nI k - nI 1, row2, nI (M.length - 1)), ⟨by dsimp only; rw [ek], del M k, i1, by dsimp only; rw [del_len hkM], hst.1 q⟩, fun z => (step z).trans (if_pos q)⟩
    · exact Or.inl ⟨(nI k - nI 1, f, nI M.length), ⟨by dsimp only; rw [ek], M, g1, rfl, hst.2 q⟩, fun z => (step z).trans (if_neg q)⟩) (by
    rintro ⟨x2, f, sz⟩ ⟨e2, M, g1, g2, g3⟩
    dsimp only at e2 g1 g2
    subst e2 g2
    refine ⟨(f, nI M.length), ⟨M, g1, rfl, g3⟩, fun z => ?_⟩
    show b_X0_dropUnlocked_7 locked z (nI ((eL E r).length - (eL E r).length) - nI 1) f (nI M.length) = _
    unfold b_X0_dropUnlocked_7
    simp only [lI]
    rw [Nat.sub_self, if_pos (nI_neg (by decide) (by decide))]) fu (nI (eL E r).length - nI 1, row, nI (eL E r).length) (by unfold fu; omega) ⟨rfl, _, hrow, rfl, DuI.zero (hB.nodup hr)⟩
  have hM : M = eDu E r := h3.last
  dsimp only at h1 h2
  subst hM h2
  exact ⟨row', h1, h3, h4⟩
theorem laysAside_eq (s a : Nat → Int32) : ∃ a', f_X8_laysAside s a = some a' ∧ ∀ i, i < 80 → a' i = s (178 + i) := by
  unfold f_X8_laysAside l_X8_laysAside_2
  simp only [lI]
  obtain ⟨q, h1, h2⟩ := lp_inv (F := fun k (x : Int32 × (Nat → Int32)) => b_X8_laysAside_2 s k x.1 x.2) (fun t x => x.1 = nI t ∧ ∀ i, i < t → x.2 i = s (178 + i)) (fun q => ∀ i, i < 80 → q i = s (178 + i)) 80 (by
    rintro t ⟨x1, f⟩ ht ⟨e1, g1⟩
    dsimp only at e1 g1
    subst e1
    refine Or.inl ⟨(nI (t + 1), upd f t (s (178 + t))), ⟨rfl, fun i hi => ?_⟩, fun z => ?_⟩
    · dsimp only
      by_cases q : i = t
      · rw [q, pk_us]
      · rw [pk_un q]; exact g1 i (by omega)
    · show b_X8_laysAside_2 s z (nI t) f = _
      unfold b_X8_laysAside_2
      simp only [lI, nI_add]
      rw [if_neg (nI_ge ht (by decide)), gI_n (by omega) (by decide), gI_n (by omega) (by decide), nI_clamp (by omega), nI_clamp (by omega)]) (by
    rintro ⟨x1, f⟩ ⟨e1, g1⟩
    dsimp only at e1 g1
    subst e1
    refine ⟨f, g1, fun z => ?_⟩
    show b_X8_laysAside_2 s z (nI 80) f = _
    unfold b_X8_laysAside_2
    simp only [lI]
    rw [if_pos (nI_le (Nat.le_refl _) (by decide))]) fu (nI 0, a) (by unfold fu; omega) ⟨rfl, fun i hi => absurd hi (Nat.not_lt_zero i)⟩
  exact ⟨q, h2, h1⟩
theorem laysBack_eq (s a : Nat → Int32) : ∃ s', f_X8_laysBack s a = some s' ∧ (∀ i, i < 80 → s' (178 + i) = a i) ∧ ∀ j, (j < 178 ∨ 258 ≤ j) → s' j = s j := by
  unfold f_X8_laysBack l_X8_laysBack_2
  simp only [lI]
  obtain ⟨q, h1, h2⟩ := lp_inv (F := fun k (x : Int32 × (Nat → Int32)) => b_X8_laysBack_2 a k x.1 x.2) (fun t x => x.1 = nI t ∧ (∀ i, i < t → x.2 (178 + i) = a i) ∧ ∀ j, (j < 178 ∨ 258 ≤ j) → x.2 j = s j) (fun q => (∀ i, i < 80 → q (178 + i) = a i) ∧ ∀ j, (j < 178 ∨ 258 ≤ j) → q j = s j) 80 (by
    rintro t ⟨x1, f⟩ ht ⟨e1, g1, g2⟩
    dsimp only at e1 g1 g2
    subst e1
    refine Or.inl ⟨(nI (t + 1), upd f (178 + t) (a t)), ⟨rfl, fun i hi => ?_, fun j hj => ?_⟩, fun z => ?_⟩
    · dsimp only
      by_cases q : i = t
      · rw [q, pk_us]
      · rw [pk_un (by omega)]; exact g1 i (by omega)
    · dsimp only
      rw [pk_un (by omega)]
      exact g2 j hj
    · show b_X8_laysBack_2 a z (nI t) f = _
      unfold b_X8_laysBack_2
      simp only [lI, nI_add]
      rw [if_neg (nI_ge ht (by decide)), gI_n (by omega) (by decide), gI_n (by omega) (by decide), nI_clamp (by omega), nI_clamp (by omega)]) (by
    rintro ⟨x1, f⟩ ⟨e1, g1⟩
    dsimp only at e1 g1
    subst e1
    refine ⟨f, g1, fun z => ?_⟩
    show b_X8_laysBack_2 a z (nI 80) f = _
    unfold b_X8_laysBack_2
    simp only [lI]
    rw [if_pos (nI_le (Nat.le_refl _) (by decide))]) fu (nI 0, s) (by unfold fu; omega) ⟨rfl, fun i hi => absurd hi (Nat.not_lt_zero i), fun j _ => rfl⟩
  exact ⟨q, h2, h1⟩
theorem clearM (hB : GB E) (hM : MW E s) {r : Nat} (hr : r < 4) (as cs bs : Nat → Int32) (b w l : Int32) : ∃ v s' z', f_X8_clear s as cs bs b w l (nI r) = some (v, s', z') ∧ low s s' ∧ (eH E r (eDu E r) ∧ v = nI ((eL E r).length - (eDu E r).length) ∧ MW (eUp E r (eDu E r)) s' ∨ ¬ eH E r (eDu E r) ∧ v = -nI 3 ∧ MW E s') := by
  have hN := hB.1
  have hl := hB.len hr
  obtain ⟨as', a1, a2⟩ := laysAside_eq s as
  have e1 : f_X8_isRound (nI r) = some (nI 1) := by
    rcases roundX (nI r) with ⟨q, -, -, -, e⟩ | ⟨e, -⟩
    · exact e
    · rw [isRound_eq hr] at e
      exact absurd (Option.some.inj e) h10_
  unfold f_X8_clear l_X8_clear_24
  simp only [lI]
  rw [e1, Option.bind_some, if_neg h10_, a1, Option.bind_some, sizeM hM hr, Option.bind_some]
  obtain ⟨⟨v, s', z'⟩, h1, h2⟩ := lp_inv (F := fun k (x : Int32 × Int32 × (Nat → Int32)) => b_X8_clear_24 (nI r) as' cs bs b w l k x.1 x.2.1 x.2.2) (fun t x => x.2.1 = nI ((eL E r).length - t) - nI 1 ∧ ∃ M, x.1 = nI ((eL E r).length - M.length) ∧ DuI (eK E) (eL E r) t M ∧ MW (eUp E r M) x.2.2 ∧ offR r s x.2.2) (fun q => low s q.2.1 ∧ (eH E r (eDu E r) ∧ q.1 = nI ((eL E r).length - (eDu E r).length) ∧ MW (eUp E r (eDu E r)) q.2.1 ∨ ¬ eH E r (eDu E r) ∧ q.1 = -nI 3 ∧ MW E q.2.1)) (eL E r).length (by
    rintro t ⟨x1, x2, f⟩ ht ⟨e2, M, g1, g3, g4, g5⟩
    dsimp only at e2 g1 g4 g5
    subst e2 g1
    obtain ⟨k, hk⟩ : ∃ k, (eL E r).length - t = k + 1 := ⟨(eL E r).length - t - 1, by omega⟩
    have hkM : k < M.length := by have := g3.2.2.2.1; omega
    have hML := g3.2.2.1
    have hp : at_ M k < eN E := hB.mem hr _ (g3.2.1 _ (at_mem hkM))
    have hst := g3.step hk
    have ek : (eL E r).length - (t + 1) = k := by omega
    have hB1 := g3.gb hB hr
    have eM : eL (eUp E r M) r = M := eL_up _ _ _
    obtain ⟨s1, i1, i2, i3⟩ := MW.outM hB1 g4 hr (show k < (eL (eUp E r M) r).length by rw [eM]; exact hkM)
    have i2' : MW (eUp E r (del M k)) s1 := by
      have : eOut (eUp E r M) r k = eUp E r (del M k) := by
        show eUp (eUp E r M) r (del (eL (eUp E r M) r) k) = _
        rw [eUp_same, eM]
      rw [this] at i2
      exact i2
    have hir : f_X8_inRow f (nI r) (nI k) = some (nI (at_ M k)) := by
      have := inRow_at hr (g4.2.2.2.2.2.2 r hr) (show (eL (eUp E r M) r).length ≤ 16 by rw [eM]; omega) (show k < (eL (eUp E r M) r).length by rw [eM]; exact hkM)
      rw [eM] at this
      exact this
    have hlk : f_X8_stopAt f (nI (at_ M k)) (nI 6) = some (eK E (at_ M k)) := lockM hB1 g4 hp
    have step : ∀ z, b_X8_clear_24 (nI r) as' cs bs b w l z (nI ((eL E r).length - M.length)) (nI ((eL E r).length - t) - nI 1) f = if eK E (at_ M k) = nI 1 then z (nI ((eL E r).length - M.length), nI k - nI 1, f) else z (nI ((eL E r).length - M.length + 1), nI k - nI 1, s1) := by
      intro z
      unfold b_X8_clear_24
      simp only [lI, nI_add]
      rw [hk, nI_sub1 (show 0 < k + 1 by omega), Nat.add_sub_cancel, if_neg (nI_lt0 (by omega)), hir, Option.bind_some, hlk, Option.bind_some, i1, Option.bind_some, ← Int32.sub_eq_add_neg]
    rcases kk hB hp with q | q
    · refine Or.inl ⟨(nI ((eL E r).length - M.length + 1), nI k - nI 1, s1), ⟨by dsimp only; rw [ek], del M k, ?_, hst.1 q, i2', fun j hj => by show s1 j = s j; rw [i3 j hj, g5 j hj]⟩, fun z => (step z).trans (if_neg (by rw [q]; decide))⟩
      dsimp only
      rw [del_len hkM]
      exact congrArg nI (by omega)
    · exact Or.inl ⟨(nI ((eL E r).length - M.length), nI k - nI 1, f), ⟨by dsimp only; rw [ek], M, rfl, hst.2 (by rw [q]; decide), g4, g5⟩, fun z => (step z).trans (if_pos q)⟩) (by
    rintro ⟨x1, x2, f⟩ ⟨e2, M, g1, g3, g4, g5⟩
    dsimp only at e2 g1 g4 g5
    subst e2 g1
    have hM' : M = eDu E r := g3.last
    subst hM'
    have hB1 := g3.gb hB hr
    have eM : eL (eUp E r (eDu E r)) r = eDu E r := eL_up _ _ _
    obtain ⟨v, c, b', bk, w', l', j1, j2⟩ := holdsM hB1 g4 hr cs bs b w l
    rw [eM] at j2
    obtain ⟨s3, k1, k2, k3⟩ := laysBack_eq f as'
    have hs3 : s3 = s := by
      funext j
      by_cases q : 178 ≤ j ∧ j < 258
      · have := k2 (j - 178) (by omega)
        rw [show 178 + (j - 178) = j by omega, a2 (j - 178) (by omega), show 178 + (j - 178) = j by omega] at this
        exact this
      · rw [k3 j (by omega), g5 j (by omega)]
    have hend : ∀ z, b_X8_clear_24 (nI r) as' cs bs b w l z (nI ((eL E r).length - (eDu E r).length)) (nI ((eL E r).length - (eL E r).length) - nI 1) f = if v = nI 0 then some (-nI 3, s3, as', c, b', bk, w', l') else some (nI ((eL E r).length - (eDu E r).length), f, as', c, b', bk, w', l') := by
      intro z
      unfold b_X8_clear_24
      simp only [lI]
      rw [Nat.sub_self, if_pos (nI_neg (by decide) (by decide)), j1, Option.bind_some]
      dsimp only
      rw [k1, Option.bind_some]
    rcases j2 with ⟨j2, j3, -⟩ | ⟨j2, j3⟩
    · exact ⟨_, ⟨g5.low, Or.inl ⟨j2, rfl, g4⟩⟩, fun z => (hend z).trans (if_neg (by rw [j3]; decide))⟩
    · exact ⟨(-nI 3, s3, as', c, b', bk, w', l'), ⟨by rw [hs3]; exact low.refl s, Or.inr ⟨j2, rfl, by rw [hs3]; exact hM⟩⟩, fun z => (hend z).trans (if_pos j3)⟩) fu (nI 0, nI (eL E r).length - nI 1, s) (by unfold fu; omega) ⟨rfl, eL E r, by rw [Nat.sub_self], DuI.zero (hB.nodup hr), by
      have : eUp E r (eL E r) = E := by
        have := eUp_back E r (eL E r)
        rw [eUp_same] at this
        exact this
      rw [this]
      exact hM, fun j _ => rfl⟩
  exact ⟨v, s', z', h2, h1⟩
theorem clear_both (hI : GI E) (h : CW E facts ro locked rules sizes rows sc metric fixed) (hM : MW E s) (y1 y2 y3 : Nat → Int32) (y4 y5 y6 y7 y8 y9 y10 : Int32) (as cs bs : Nat → Int32) (b w l : Int32) (x1 : Int32) : ∃ E' v ro' sizes' rows' z s' z', f_X7_clear facts ro locked rules sizes rows metric y1 y2 y3 y4 y5 y6 y7 y8 y9 y10 x1 = some (v, ro', sizes', rows', z) ∧ f_X8_clear s as cs bs b w l x1 = some (v, s', z') ∧ GI E' ∧ CW E' facts ro' locked rules sizes' rows' sc metric fixed ∧ MW E' s' ∧ low s s' := by
  have hB := hI.1
  rcases roundX x1 with ⟨r, hr, rfl, e1, e2⟩ | ⟨e1, e2⟩
  · have hl := hB.len hr
    obtain ⟨v2, s', z', g1, g2, g3⟩ := clearM hB hM hr as cs bs b w l
    obtain ⟨row1, h1, h2⟩ := loadC hB h hr y1
    obtain ⟨row2, h3, h4, h5⟩ := dropU hB h hr h1
    have hB1 := h4.gb hB hr
    have hlu := h4.2.2.1
    obtain ⟨⟨v, j2, j3, j4, j5, j6, j7, j8⟩, h6, h7⟩ := folC hB h hr h3 (by omega) (fun x hx => hB.mem hr x (h4.2.1 x hx)) y2 y3 (nI 0)
    unfold f_X7_clear
    simp only [lI]
    rw [e1, Option.bind_some, if_neg h10_, h2, Option.bind_some, g1]
    dsimp only
    rw [h5, Option.bind_some]
    dsimp only
    rw [h7, Option.bind_some]
    dsimp only
    have h8 := h6.2.2
    dsimp only at h8
    rcases h8 with ⟨c1, c2⟩ | ⟨c1, c2⟩
    · rcases g3 with ⟨-, g3, g4⟩ | ⟨g3, -⟩
      · obtain ⟨ro', sizes', rows', k1, -, k2⟩ := keepC hB h hr h3 hB1
        rw [if_neg (by rw [c2]; decide), sizeOf_eq sizes hr, Option.bind_some, (h.2.2.2.2.2.2.2 r hr).1, k1, Option.bind_some]
        refine ⟨_, _, ro', sizes', rows', _, s', z', rfl, ?_, ⟨hB1, fun r' h4 => ?_⟩, k2, g4, g2⟩
        · rw [g3, pk_sub hlu]
        · show eH E r' (fup (eL E) r (eDu E r) r')
          by_cases hq : r' = r
          · rw [hq, fup_s]; exact c1
          · rw [fup_n hq]; exact hI.2 r' h4
      · exact absurd c1 g3
    · rcases g3 with ⟨g3, -⟩ | ⟨-, g3, g4⟩
      · exact absurd g3 c1
      · rw [if_pos c2]
        exact ⟨E, _, ro, sizes, rows, _, s', z', rfl, by rw [g3], hI, h, g4, g2⟩
  · unfold f_X7_clear f_X8_clear
    simp only [lI]
    rw [e1, e2]
    simp only [Option.bind_some]
    rw [if_pos trivial, if_pos trivial]
    exact ⟨E, _, ro, sizes, rows, _, s, _, rfl, rfl, hI, h, hM, low.refl s⟩
end TAKE
