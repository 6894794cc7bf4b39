/-! B17: the cheapest place in the reference -/
def encM (x : Ck) (u v : Int32) : Prop := match x with
  | none => u = -nI 5 ∧ v = -nI 100000
  | some (j, b) => u = nI j ∧ v = b ∧ j ≤ 16
theorem Rg.ne {a : Int32} (h : Rg a) : a ≠ -nI 100000 := by
  obtain ⟨z, hz, rfl⟩ := h
  intro h
  have := congrArg Int32.toInt h
  rw [pk_sub_toInt (by omega) (by omega), show (-nI 100000).toInt = -100000 from by decide] at this
  omega
theorem rg6 (a b c : Int32) : a - c - (b - c) = a - b := by grind
theorem Rg.sub {a b : Int32} (ha : Rg a) (hb : Rg b) : ∃ z w : Nat, z ≤ 666 ∧ w ≤ 666 ∧ a = nI z - nI 189 ∧ b = nI w - nI 189 ∧ a - b = nI z - nI w := by
  obtain ⟨z, hz, rfl⟩ := ha
  obtain ⟨w, hw, rfl⟩ := hb
  exact ⟨z, w, hz, hw, rfl, rfl, rg6 _ _ _⟩
theorem Rg.lt {a b c : Int32} (ha : Rg a) (hb : Rg b) (hc : Rg c) : a - c < b - c ↔ a < b := by
  obtain ⟨z, hz, rfl⟩ := ha
  obtain ⟨w, hw, rfl⟩ := hb
  obtain ⟨y, hy, rfl⟩ := hc
  rw [rg6, rg6, Int32.lt_iff_toInt_lt, Int32.lt_iff_toInt_lt, pk_sub_toInt (by omega) (by omega), pk_sub_toInt (by omega) (by omega), pk_sub_toInt (by omega) (by omega), pk_sub_toInt (by omega) (by omega)]
  omega
theorem Rg.big {a c : Int32} (ha : Rg a) (hc : Rg c) : a - c < nI 10000 := by
  obtain ⟨z, w, hz, hw, -, -, e⟩ := ha.sub hc
  rw [e, Int32.lt_iff_toInt_lt, pk_sub_toInt (by omega) (by omega), nI_toInt (by omega)]
  omega
abbrev TM1 : Type := Int32 × (Nat → Int32) × (Nat → Int32) × (Nat → Int32) × Int32 × Int32 × Int32 × Int32 × Int32
theorem cheapM {E : ES} {s : Nat → Int32} (hB : GB E) (h : MW E s) {p r : Nat} (hp : p < eN E) (hr : r < 4) (hm : ∀ r, r < 4 → p ∉ eL E r) (cs bs : Nat → Int32) (b w l : Int32) : ∃ v s' cs' bs' b' w' l' bp ba, f_X8_cheapestOf s cs bs b w l (nI p) (nI r) = some (v, s', cs', bs', b', w', l', bp, ba) ∧ MW E s' ∧ low s s' ∧ encM (cE E p r) bp ba ∧ v = (if (cE E p r).isSome = true then nI 1 else nI 0) := by
  have hl := hB.len hr
  have hll := len_lt hB hp hr (hm r hr)
  unfold f_X8_cheapestOf l_X8_cheapestOf_14
  simp only [lI]
  obtain ⟨q, h1, h2⟩ := lp_inv (F := fun k (x : TM1) => b_X8_cheapestOf_14 (nI p) (nI r) k x.1 x.2.1 x.2.2.1 x.2.2.2.1 x.2.2.2.2.1 x.2.2.2.2.2.1 x.2.2.2.2.2.2.1 x.2.2.2.2.2.2.2.1 x.2.2.2.2.2.2.2.2) (fun t x => x.1 = nI t ∧ MW E x.2.1 ∧ low s x.2.1 ∧ encM (ckE E p r t) x.2.2.2.2.2.2.2.1 x.2.2.2.2.2.2.2.2) (fun q => MW E q.2.1 ∧ low s q.2.1 ∧ encM (cE E p r) q.2.2.2.2.2.2.2.1 q.2.2.2.2.2.2.2.2 ∧ q.1 = (if (cE E p r).isSome = true then nI 1 else nI 0)) ((eL E r).length + 1) (by
    rintro t ⟨x3, s1, y2, y3, y4, y5, y6, bp, ba⟩ ht ⟨e1, e2, e3, e4⟩
    dsimp only at e1 e2 e3 e4
    subst e1
    obtain ⟨v, s2, c1, c2, c3, c4, c5, g1, g2, g3, g4⟩ := addedM hB e2 hp hr hm (show t ≤ (eL E r).length by omega) y2 y3 y4 y5 y6
    have step : ∀ k, b_X8_cheapestOf_14 (nI p) (nI r) k (nI t) s1 y2 y3 y4 y5 y6 bp ba = if v = -nI 100000 then k (nI (t + 1), s2, c1, c2, c3, c4, c5, bp, ba) else if bp < nI 0 ∨ v < ba then k (nI (t + 1), s2, c1, c2, c3, c4, c5, nI t, v) else k (nI (t + 1), s2, c1, c2, c3, c4, c5, bp, ba) := by
      intro k
      unfold b_X8_cheapestOf_14 b_X8_cheapestOf_59
      simp only [lI, nI_add]
      rw [roundAt_eq s1 (by omega), Option.bind_some, (e2.2.2.2.2.2.2 r hr).1, if_neg (nI_nlt (by omega) (by omega)), g1, Option.bind_some]
      dsimp only
      by_cases q1 : v = -nI 100000
      · rw [if_pos q1, if_pos q1]
      · rw [if_neg q1, if_neg q1]
        by_cases q2 : bp < nI 0
        · rw [if_pos q2, if_pos (Or.inl q2)]
        · rw [if_neg q2]
          by_cases q3 : v < ba
          · rw [if_pos q3, if_pos (Or.inr q3)]
          · rw [if_neg q3, if_neg (fun q => q.elim q2 q3)]
    refine Or.inl ?_
    have lw := e3.trans g3.low
    rcases g4 with ⟨g4, g5⟩ | ⟨g4, g5⟩
    · have hne : v ≠ -nI 100000 := by rw [g5]; exact adC_ne hB hp hr
      by_cases hc : bp < nI 0 ∨ v < ba
      · refine ⟨(nI (t + 1), s2, c1, c2, c3, c4, c5, nI t, v), ⟨rfl, g2, lw, ?_⟩, fun k => (step k).trans ((if_neg hne).trans (if_pos hc))⟩
        show encM (ckE E p r (t + 1)) (nI t) v
        rw [ckE_succ_t g4]
        cases e : ckE E p r t with
        | none => exact ⟨rfl, g5, by omega⟩
        | some x =>
          obtain ⟨j, b⟩ := x
          rw [e] at e4
          obtain ⟨rfl, rfl, hj⟩ := e4
          dsimp only
          rw [g5] at hc
          rw [if_pos (hc.resolve_left (nI_lt0 (by omega)))]
          exact ⟨rfl, g5, by omega⟩
      · refine ⟨(nI (t + 1), s2, c1, c2, c3, c4, c5, bp, ba), ⟨rfl, g2, lw, ?_⟩, fun k => (step k).trans ((if_neg hne).trans (if_neg hc))⟩
        show encM (ckE E p r (t + 1)) bp ba
        cases e : ckE E p r t with
        | none =>
          rw [e] at e4
          exact absurd (Or.inl (by rw [e4.1]; exact m5_lt0)) hc
        | some x =>
          obtain ⟨j, b⟩ := x
          rw [e] at e4
          have e4' := e4
          obtain ⟨rfl, rfl, hj⟩ := e4
          rw [ckE_dear e (fun q => hc (Or.inr (by rw [g5]; exact q)))]
          exact e4'
    · refine ⟨(nI (t + 1), s2, c1, c2, c3, c4, c5, bp, ba), ⟨rfl, g2, lw, ?_⟩, fun k => (step k).trans (if_pos g5)⟩
      show encM (ckE E p r (t + 1)) bp ba
      rw [ckE_succ_f g4]
      exact e4) (by
    rintro ⟨x3, s1, y2, y3, y4, y5, y6, bp, ba⟩ ⟨e1, e2, e3, e4⟩
    dsimp only at e1 e2 e3 e4
    subst e1
    have hcE : ckE E p r ((eL E r).length + 1) = cE E p r := rfl
    rw [hcE] at e4
    have step : ∀ k, b_X8_cheapestOf_14 (nI p) (nI r) k (nI ((eL E r).length + 1)) s1 y2 y3 y4 y5 y6 bp ba = some (if bp < nI 0 then nI 0 else nI 1, s1, y2, y3, y4, y5, y6, bp, ba) := by
      intro k
      unfold b_X8_cheapestOf_14
      simp only [lI]
      rw [roundAt_eq s1 (by omega), Option.bind_some, (e2.2.2.2.2.2.2 r hr).1, if_pos (nI_lt (by omega) (by omega))]
      by_cases q2 : bp < nI 0
      · rw [if_pos q2, if_pos q2]
      · rw [if_neg q2, if_neg q2]
    refine ⟨_, ⟨e2, e3, e4, ?_⟩, step⟩
    show (if bp < nI 0 then nI 0 else nI 1) = _
    cases e : cE E p r with
    | none =>
      rw [e] at e4
      rw [if_pos (by rw [e4.1]; exact m5_lt0)]
      rfl
    | some x =>
      obtain ⟨j, b⟩ := x
      rw [e] at e4
      obtain ⟨rfl, rfl, hj⟩ := e4
      rw [if_neg (nI_lt0 (by omega))]
      rfl) fu (nI 0, s, cs, bs, b, w, l, -nI 5, -nI 100000) (by unfold fu; omega) ⟨rfl, h, low.refl s, rfl, rfl⟩
  exact ⟨q.1, q.2.1, _, _, _, _, _, _, _, h2, h1⟩
/-- place, least, second, round -/
def encA (x : Wg) (pl le se br : Int32) : Prop := match x with
  | none => br = -nI 5 ∧ le = -nI 100000 ∧ se = -nI 100000
  | some (r, k, a, g) => br = nI r ∧ pl = nI k ∧ le = a ∧ r < 4 ∧ k ≤ 16 ∧ Rg a ∧ (se = -nI 100000 ∧ g = nI 10000 ∨ Rg se ∧ g = se - a)
def encR (x : Wg) (v br pl ad re : Int32) : Prop := match x with
  | none => v = nI 0
  | some (r, k, a, g) => v = nI 1 ∧ br = nI r ∧ pl = nI k ∧ ad = a ∧ re = g
abbrev TM2 : Type := Int32 × Int32 × Int32 × Int32 × (Nat → Int32) × (Nat → Int32) × (Nat → Int32) × Int32 × Int32 × Int32 × Int32
theorem cheapAllM {E : ES} {s : Nat → Int32} (hB : GB E) (h : MW E s) {p : Nat} (hp : p < eN E) (hm : ∀ r, r < 4 → p ∉ eL E r) (cs bs : Nat → Int32) (b w l : Int32) : ∃ v s' cs' bs' b' w' l' br bp ba re, f_X8_cheapestOfAll s cs bs b w l (nI p) = some (v, s', cs', bs', b', w', l', br, bp, ba, re) ∧ MW E s' ∧ low s s' ∧ encR (wg E p 0 4) v br bp ba re := by
  unfold f_X8_cheapestOfAll l_X8_cheapestOfAll_19
  simp only [lI]
  obtain ⟨q, h1, h2⟩ := lp_inv (F := fun k (x : TM2) => b_X8_cheapestOfAll_19 (nI p) k x.1 x.2.1 x.2.2.1 x.2.2.2.1 x.2.2.2.2.1 x.2.2.2.2.2.1 x.2.2.2.2.2.2.1 x.2.2.2.2.2.2.2.1 x.2.2.2.2.2.2.2.2.1 x.2.2.2.2.2.2.2.2.2.1 x.2.2.2.2.2.2.2.2.2.2) (fun t x => x.2.2.2.1 = nI t ∧ MW E x.2.2.2.2.1 ∧ low s x.2.2.2.2.1 ∧ encA (wg E p 0 t) x.1 x.2.1 x.2.2.1 x.2.2.2.2.2.2.2.2.2.2) (fun q => MW E q.2.1 ∧ low s q.2.1 ∧ encR (wg E p 0 4) q.1 q.2.2.2.2.2.2.2.1 q.2.2.2.2.2.2.2.2.1 q.2.2.2.2.2.2.2.2.2.1 q.2.2.2.2.2.2.2.2.2.2) 4 (by
    rintro t ⟨x2, x3, x4, x5, s1, y2, y3, y4, y5, y6, br⟩ ht ⟨e1, e2, e3, e4⟩
    dsimp only at e1 e2 e3 e4
    subst e1
    obtain ⟨v, s2, c1, c2, c3, c4, c5, bp, ba, g1, g2, g3, g4, g5⟩ := cheapM hB e2 hp ht hm y2 y3 y4 y5 y6
    have lw := e3.trans g3
    have step : ∀ k, b_X8_cheapestOfAll_19 (nI p) k x2 x3 x4 (nI t) s1 y2 y3 y4 y5 y6 br = if v = nI 0 then k (x2, x3, x4, nI (t + 1), s2, c1, c2, c3, c4, c5, br) else if br < nI 0 ∨ ¬ x3 ≤ ba then k (bp, ba, x3, nI (t + 1), s2, c1, c2, c3, c4, c5, nI t) else k (x2, x3, if x4 = -nI 100000 ∨ ¬ x4 ≤ ba then ba else x4, nI (t + 1), s2, c1, c2, c3, c4, c5, br) := by
      intro k
      unfold b_X8_cheapestOfAll_19 b_X8_cheapestOfAll_53
      simp only [lI, nI_add]
      rw [if_neg (nI_ge ht (by decide)), g1, Option.bind_some]
      dsimp only
      by_cases q1 : v = nI 0
      · rw [if_pos q1, if_pos q1]
      · rw [if_neg q1, if_neg q1]
        by_cases q2 : br < nI 0
        · rw [if_pos q2, if_pos (Or.inl q2)]
        · rw [if_neg q2]
          by_cases q3 : x3 ≤ ba
          · have hn : ¬ (br < nI 0 ∨ ¬ x3 ≤ ba) := fun q => q.elim q2 (fun q => q q3)
            rw [if_pos q3, if_neg hn]
            by_cases q4 : x4 = -nI 100000
            · rw [if_pos q4, if_pos (Or.inl q4)]
            · rw [if_neg q4]
              by_cases q5 : x4 ≤ ba
              · have hn2 : ¬ (x4 = -nI 100000 ∨ ¬ x4 ≤ ba) := fun q => q.elim q4 (fun q => q q5)
                rw [if_pos q5, if_neg hn2]
              · rw [if_neg q5, if_pos (Or.inr q5)]
          · rw [if_neg q3, if_pos (Or.inr q3)]
    refine Or.inl ?_
    have hw : wg E p 0 (t + 1) = wst (wg E p 0 t) t (cE E p t) := by
      show wst (wg E p 0 t) (0 + t) (cE E p (0 + t)) = _
      rw [Nat.zero_add]
    cases e : cE E p t with
    | none =>
      rw [e] at g4 g5 hw
      refine ⟨(x2, x3, x4, nI (t + 1), s2, c1, c2, c3, c4, c5, br), ⟨rfl, g2, lw, ?_⟩, fun k => (step k).trans (if_pos g5)⟩
      show encA (wg E p 0 (t + 1)) x2 x3 x4 br
      rw [hw]
      exact e4
    | some x =>
      obtain ⟨j, a⟩ := x
      have ra : Rg a := okE hB hp ht _ j a e
      rw [e] at g4 g5 hw
      obtain ⟨rfl, rfl, hj⟩ := g4
      have hv : ¬ v = nI 0 := by
        rw [g5]
        show ¬ nI 1 = nI 0
        decide
      cases f : wg E p 0 t with
      | none =>
        rw [f] at e4 hw
        refine ⟨(nI j, ba, x3, nI (t + 1), s2, c1, c2, c3, c4, c5, nI t), ⟨rfl, g2, lw, ?_⟩, fun k => (step k).trans ((if_neg hv).trans (if_pos (Or.inl (by rw [e4.1]; exact m5_lt0))))⟩
        show encA (wg E p 0 (t + 1)) (nI j) ba x3 (nI t)
        rw [hw]
        exact ⟨rfl, rfl, rfl, ht, hj, ra, Or.inl ⟨e4.2.1, rfl⟩⟩
      | some y =>
        obtain ⟨r0, k0, a0, g⟩ := y
        rw [f] at e4 hw
        obtain ⟨rfl, rfl, rfl, hr0, hk0, ra0, hse⟩ := e4
        change _ = (if ba < x3 then some (t, j, ba, x3 - ba) else if ba - x3 < g then some (r0, k0, x3, ba - x3) else some (r0, k0, x3, g)) at hw
        have hb0 : ¬ nI r0 < nI 0 := nI_lt0 (by omega)
        by_cases q : ba < x3
        · rw [if_pos q] at hw
          refine ⟨(nI j, ba, x3, nI (t + 1), s2, c1, c2, c3, c4, c5, nI t), ⟨rfl, g2, lw, ?_⟩, fun k => (step k).trans ((if_neg hv).trans (if_pos (Or.inr (Int32.not_le.mpr q))))⟩
          show encA (wg E p 0 (t + 1)) (nI j) ba x3 (nI t)
          rw [hw]
          exact ⟨rfl, rfl, rfl, ht, hj, ra, Or.inr ⟨ra0, rfl⟩⟩
        · rw [if_neg q] at hw
          refine ⟨(nI k0, x3, if x4 = -nI 100000 ∨ ¬ x4 ≤ ba then ba else x4, nI (t + 1), s2, c1, c2, c3, c4, c5, nI r0), ⟨rfl, g2, lw, ?_⟩, fun k => (step k).trans ((if_neg hv).trans (if_neg (fun z => z.elim hb0 (fun z => z (Int32.not_lt.mp q)))))⟩
          show encA (wg E p 0 (t + 1)) (nI k0) x3 (if x4 = -nI 100000 ∨ ¬ x4 ≤ ba then ba else x4) (nI r0)
          rw [hw]
          rcases hse with ⟨h4, hg⟩ | ⟨h4, hg⟩
          · rw [if_pos (Or.inl h4), hg, if_pos (ra.big ra0)]
            exact ⟨rfl, rfl, rfl, hr0, hk0, ra0, Or.inr ⟨ra, rfl⟩⟩
          · by_cases q5 : ba < x4
            · rw [if_pos (Or.inr (Int32.not_le.mpr q5)), hg, if_pos ((ra.lt h4 ra0).mpr q5)]
              exact ⟨rfl, rfl, rfl, hr0, hk0, ra0, Or.inr ⟨ra, rfl⟩⟩
            · have hn2 : ¬ (x4 = -nI 100000 ∨ ¬ x4 ≤ ba) := fun z => z.elim h4.ne (fun z => z (Int32.not_lt.mp q5))
              rw [if_neg hn2, hg, if_neg (fun z => q5 ((ra.lt h4 ra0).mp z))]
              exact ⟨rfl, rfl, rfl, hr0, hk0, ra0, Or.inr ⟨h4, rfl⟩⟩) (by
    rintro ⟨x2, x3, x4, x5, s1, y2, y3, y4, y5, y6, br⟩ ⟨e1, e2, e3, e4⟩
    dsimp only at e1 e2 e3 e4
    subst e1
    have step : ∀ k, b_X8_cheapestOfAll_19 (nI p) k x2 x3 x4 (nI 4) s1 y2 y3 y4 y5 y6 br = some (if br < nI 0 then nI 0 else nI 1, s1, y2, y3, y4, y5, y6, br, x2, x3, if x4 = -nI 100000 then nI 10000 else x4 - x3) := by
      intro k
      unfold b_X8_cheapestOfAll_19 b_X8_cheapestOfAll_131
      simp only [lI]
      rw [if_pos (nI_le (Nat.le_refl _) (by decide))]
      by_cases q1 : x4 = -nI 100000
      · rw [if_pos q1, if_pos q1]
        split <;> rfl
      · rw [if_neg q1, if_neg q1]
        split <;> rfl
    refine ⟨_, ⟨e2, e3, ?_⟩, step⟩
    show encR (wg E p 0 4) (if br < nI 0 then nI 0 else nI 1) br x2 x3 (if x4 = -nI 100000 then nI 10000 else x4 - x3)
    cases f : wg E p 0 4 with
    | none =>
      rw [f] at e4
      exact if_pos (by rw [e4.1]; exact m5_lt0)
    | some y =>
      obtain ⟨r0, k0, a0, g⟩ := y
      rw [f] at e4
      obtain ⟨rfl, rfl, rfl, hr0, hk0, ra0, hse⟩ := e4
      refine ⟨if_neg (nI_lt0 (by omega)), rfl, rfl, rfl, ?_⟩
      rcases hse with ⟨h4, hg⟩ | ⟨h4, hg⟩
      · rw [if_pos h4, hg]
      · rw [if_neg h4.ne, hg]) fu (-nI 5, -nI 100000, -nI 100000, nI 0, s, cs, bs, b, w, l, -nI 5) (by unfold fu; omega) ⟨rfl, h, low.refl s, rfl, rfl, rfl⟩
  exact ⟨q.1, q.2.1, _, _, _, _, _, _, _, _, _, h2, h1⟩
