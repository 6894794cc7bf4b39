/-! B20: filling in the class -/
abbrev T5 : Type := Int32 × Int32 × Int32 × Int32 × Int32
def encF (x : Fs) (c : T5) : Prop := match x with
  | none => c.1 = -nI 5
  | some (p, r, k, a, g) => c = (nI p, nI r, nI k, a, g) ∧ p < 16 ∧ r < 4 ∧ k ≤ 16
theorem cmpS {x : Fs} {w : Wg} {c : T5} {u : Int32 × Int32 × Int32 × Int32} (hx : encF x c) (hw : encW w u) {p : Nat} (hp : p < 16) : ∃ c', encF (fstp x p w) c' ∧ f_X1_compareStop u.1 u.2.1 u.2.2.1 u.2.2.2 c.1 c.2.1 c.2.2.1 c.2.2.2.1 c.2.2.2.2 (nI p) = some c' := by
  unfold f_X1_compareStop b_X1_compareStop_26 b_X1_compareStop_62
  simp only [lI]
  cases w with
  | none =>
    rw [if_pos hw.1]
    exact ⟨c, hx, rfl⟩
  | some y =>
    obtain ⟨r, k, a, g⟩ := y
    obtain ⟨rfl, hr, hk⟩ := hw
    dsimp only
    rw [if_neg (nI_ne_m5 (by omega))]
    cases x with
    | none =>
      have hx' : c.1 = -nI 5 := hx
      rw [if_pos hx', if_pos hx', ite_self]
      exact ⟨_, ⟨rfl, hp, hr, hk⟩, rfl⟩
    | some z =>
      obtain ⟨p0, r0, k0, a0, g0⟩ := z
      have hx' := hx
      obtain ⟨rfl, hp0, hr0, hk0⟩ := hx
      dsimp only
      have hc5 : ¬ nI p0 = -nI 5 := nI_ne_m5 (by omega)
      show ∃ c', encF (if g0 < g ∨ g = g0 ∧ a < a0 then some (p, r, k, a, g) else some (p0, r0, k0, a0, g0)) c' ∧ _
      rw [if_neg hc5, if_neg hc5]
      by_cases q1 : g0 < g
      · rw [if_pos q1, if_pos q1, if_pos (Or.inl q1), ite_self]
        exact ⟨_, ⟨rfl, hp, hr, hk⟩, rfl⟩
      · rw [if_neg q1, if_neg q1]
        by_cases q2 : g = g0
        · rw [if_pos q2, if_neg (show ¬ nI 1 = nI 0 by decide)]
          by_cases q3 : a < a0
          · rw [if_neg (Int32.not_le.mpr q3), if_pos (Or.inr ⟨q2, q3⟩)]
            exact ⟨_, ⟨rfl, hp, hr, hk⟩, rfl⟩
          · have hn : ¬ (g0 < g ∨ g = g0 ∧ a < a0) := fun z => z.elim q1 (fun z => q3 z.2)
            rw [if_pos (Int32.not_lt.mp q3), if_neg hn]
            exact ⟨_, hx', rfl⟩
        · have hn : ¬ (g0 < g ∨ g = g0 ∧ a < a0) := fun z => z.elim q1 (fun z => q2 z.1)
          rw [if_neg q2, if_neg hn]
          simp only [if_true]
          exact ⟨_, hx', rfl⟩
abbrev TFr : Type := Int32 × (Nat → Int32) × (Nat → Int32) × (Nat → Int32) × Int32 × Int32 × Int32 × Int32 × Int32 × Int32 × Int32 × Int32 × Int32 × Int32 × Int32 × Int32 × Int32 × Int32 × Int32 × Int32 × (Nat → Int32) × (Nat → Int32) × (Nat → Int32)
abbrev TFs : Type := Int32 × (Nat → Int32) × (Nat → Int32) × (Nat → Int32) × Int32 × Int32 × Int32 × Int32 × Int32 × Int32 × Int32 × Int32 × Int32 × Int32 × Int32 × Int32 × Int32 × Int32 × Int32 × Int32
section FC
variable {E : ES} {facts ro locked rules sizes rows : Nat → Int32} {sc metric fixed : Int32}
def FPost (E : ES) (facts ro locked rules sizes rows : Nat → Int32) (sc metric fixed x2 x3 : Int32) (R : (Int32 × TFr → Option TFr) → Option TFr) : Prop :=
  ∃ (y1 y2 y3 : Nat → Int32) (y4 y5 y6 y7 y8 y9 y10 y11 y12 y13 y14 : Int32) (c : T5), (fs E (eN E) = none ∧ ∀ k4, R k4 = some (x2, y1, y2, y3, y4, y5, y6, y7, y8, y9, y10, y11, y12, y13, y14, c.1, c.2.1, c.2.2.1, c.2.2.2.1, c.2.2.2.2, ro, sizes, rows)) ∨ ∃ p r k a g ro' sizes' rows', fs E (eN E) = some (p, r, k, a, g) ∧ CW (eIn E r k p) facts ro' locked rules sizes' rows' sc metric fixed ∧ ∀ k4, R k4 = k4 (x2 + nI 1, x3 + nI 1, y1, y2, y3, y4, y5, y6, y7, y8, y9, y10, y11, y12, y13, y14, c.1, c.2.1, c.2.2.1, c.2.2.2.1, c.2.2.2.2, ro', sizes', rows')
theorem fill19 (hI : GI E) (h : CW E facts ro locked rules sizes rows sc metric fixed) (x2 x3 : Int32) (y1 y2 y3 : Nat → Int32) (y4 y5 y6 y7 y8 y9 y10 y11 y12 y13 y14 : Int32) (c2 c3 c4 c5 : Int32) : FPost E facts ro locked rules sizes rows sc metric fixed x2 x3 (fun k4 => l_X1_fillAll_19 k4 x2 x3 facts ro rules sizes rows sc metric fixed (nI 0, y1, y2, y3, y4, y5, y6, y7, y8, y9, y10, y11, y12, y13, y14, -nI 5, c2, c3, c4, c5)) := by
  have hB := hI.1
  have hN := hB.1
  unfold l_X1_fillAll_19
  refine lp_toK (F := fun (k4 : Int32 × TFr → Option TFr) k (x : TFs) => b_X1_fillAll_19 k4 x2 x3 facts ro rules sizes rows sc metric fixed k x.1 x.2.1 x.2.2.1 x.2.2.2.1 x.2.2.2.2.1 x.2.2.2.2.2.1 x.2.2.2.2.2.2.1 x.2.2.2.2.2.2.2.1 x.2.2.2.2.2.2.2.2.1 x.2.2.2.2.2.2.2.2.2.1 x.2.2.2.2.2.2.2.2.2.2.1 x.2.2.2.2.2.2.2.2.2.2.2.1 x.2.2.2.2.2.2.2.2.2.2.2.2.1 x.2.2.2.2.2.2.2.2.2.2.2.2.2.1 x.2.2.2.2.2.2.2.2.2.2.2.2.2.2.1 x.2.2.2.2.2.2.2.2.2.2.2.2.2.2.2.1 x.2.2.2.2.2.2.2.2.2.2.2.2.2.2.2.2.1 x.2.2.2.2.2.2.2.2.2.2.2.2.2.2.2.2.2.1 x.2.2.2.2.2.2.2.2.2.2.2.2.2.2.2.2.2.2.1 x.2.2.2.2.2.2.2.2.2.2.2.2.2.2.2.2.2.2.2) (fun t x => x.1 = nI t ∧ encF (fs E t) x.2.2.2.2.2.2.2.2.2.2.2.2.2.2.2) (FPost E facts ro locked rules sizes rows sc metric fixed x2 x3) (eN E) ?_ ?_ fu _ (by unfold fu; omega) ⟨rfl, rfl⟩
  · rintro t ⟨x4, y1, y2, y3, y4, y5, y6, y7, y8, y9, y10, y11, y12, y13, y14, c⟩ ht ⟨e1, e2⟩
    dsimp only at e1 e2
    subst e1
    refine Or.inl ?_
    have hro := (placeOf_eq hB h ht).2
    by_cases hr : rof (eL E) t = -nI 5
    · have hm := loose_out hr
      obtain ⟨z1, z2, z3, z4, z5, z6, z7, z8, z9, z10, u, g1, g2⟩ := weighC hB h ht hm (lo := 0) (n := 4) (by decide) (by decide) y1 y2 y3 y4 y5 y6 y7 y8 y9 y10 y12 y13
      change f_X1_weigh y1 y2 y3 y4 y5 y6 y7 y8 y9 y10 y12 y13 facts rules sizes rows metric fixed (nI t) (nI 0) (nI 3) = _ at g2
      obtain ⟨c', g3, g4⟩ := cmpS e2 g1 (show t < 16 by omega)
      refine ⟨(nI (t + 1), z1, z2, z3, z4, z5, z6, z7, z8, z9, z10, u.1, u.2.1, u.2.2.1, u.2.2.2, c'), ⟨rfl, by rw [fs_t hr]; exact g3⟩, fun k4 k => ?_⟩
      show b_X1_fillAll_19 _ _ _ _ _ _ _ _ _ _ _ k (nI t) _ _ _ _ _ _ _ _ _ _ _ _ _ _ c.1 c.2.1 c.2.2.1 c.2.2.2.1 c.2.2.2.2 = _
      unfold b_X1_fillAll_19
      simp only [lI, nI_add]
      rw [h.1, if_neg (nI_ge ht (by omega)), hro, Option.bind_some, if_pos hr, g2, Option.bind_some]
      dsimp only
      rw [g4, Option.bind_some]
    · refine ⟨(nI (t + 1), y1, y2, y3, y4, y5, y6, y7, y8, y9, y10, y11, y12, y13, y14, c), ⟨rfl, by rw [fs_f hr]; exact e2⟩, fun k4 k => ?_⟩
      show b_X1_fillAll_19 _ _ _ _ _ _ _ _ _ _ _ k (nI t) _ _ _ _ _ _ _ _ _ _ _ _ _ _ c.1 c.2.1 c.2.2.1 c.2.2.2.1 c.2.2.2.2 = _
      unfold b_X1_fillAll_19
      simp only [lI, nI_add]
      rw [h.1, if_neg (nI_ge ht (by omega)), hro, Option.bind_some, if_neg hr]
  · rintro ⟨x4, y1, y2, y3, y4, y5, y6, y7, y8, y9, y10, y11, y12, y13, y14, c⟩ ⟨e1, e2⟩
    dsimp only at e1 e2
    subst e1
    cases f : fs E (eN E) with
    | none =>
      rw [f] at e2
      have e2' : c.1 = -nI 5 := e2
      refine ⟨fun _ => some (x2, y1, y2, y3, y4, y5, y6, y7, y8, y9, y10, y11, y12, y13, y14, c.1, c.2.1, c.2.2.1, c.2.2.2.1, c.2.2.2.2, ro, sizes, rows), ⟨y1, y2, y3, y4, y5, y6, y7, y8, y9, y10, y11, y12, y13, y14, c, Or.inl ⟨f, fun _ => rfl⟩⟩, fun k4 k => ?_⟩
      show b_X1_fillAll_19 _ _ _ _ _ _ _ _ _ _ _ k (nI (eN E)) _ _ _ _ _ _ _ _ _ _ _ _ _ _ c.1 c.2.1 c.2.2.1 c.2.2.2.1 c.2.2.2.2 = _
      unfold b_X1_fillAll_19
      simp only [lI]
      rw [h.1, if_pos (nI_le (Nat.le_refl _) (by omega)), if_pos e2']
    | some y =>
      obtain ⟨p, r, k, a, g⟩ := y
      rw [f] at e2
      obtain ⟨rfl, hp16, hr4, hk16⟩ := e2
      obtain ⟨hp, hm, hr, hk, hG⟩ := fs_ok hI f
      obtain ⟨row1, h1, h2⟩ := loadC hB h hr y1
      have hll := len_lt hB hp hr (hm r hr)
      have hil := ins_len (p := p) hk
      obtain ⟨row2, h3, h4⟩ := insert_eq (p := p) h1 hll hk
      obtain ⟨ro', sizes', rows', k1, -, k2⟩ := keepC hB h hr h3 hG.1
      rw [hil] at k1
      refine ⟨fun k4 => k4 (x2 + nI 1, x3 + nI 1, row2, y2, y3, nI r, nI ((eL E r).length + 1), y6, y7, y8, y9, y10, y11, y12, y13, y14, nI p, nI r, nI k, a, g, ro', sizes', rows'), ⟨row2, y2, y3, nI r, nI ((eL E r).length + 1), y6, y7, y8, y9, y10, y11, y12, y13, y14, (nI p, nI r, nI k, a, g), Or.inr ⟨p, r, k, a, g, ro', sizes', rows', f, k2, fun _ => rfl⟩⟩, fun k4 kk => ?_⟩
      show b_X1_fillAll_19 _ _ _ _ _ _ _ _ _ _ _ kk (nI (eN E)) _ _ _ _ _ _ _ _ _ _ _ _ _ _ (nI p) (nI r) (nI k) a g = _
      unfold b_X1_fillAll_19
      simp only [lI]
      rw [h.1, if_pos (nI_le (Nat.le_refl _) (by omega)), if_neg (nI_ne_m5 (by omega)), h2, Option.bind_some]
      dsimp only
      rw [h4, Option.bind_some]
      dsimp only
      rw [k1, Option.bind_some]
theorem fillC (hI : GI E) (h : CW E facts ro locked rules sizes rows sc metric fixed) (y1 y2 y3 : Nat → Int32) (y4 y5 y6 y7 y8 y9 y10 y11 y12 y13 y14 c1 c2 c3 c4 c5 : Int32) : ∃ (z1 z2 z3 : Nat → Int32) (z4 z5 z6 z7 z8 z9 z10 z11 z12 z13 z14 d1 d2 d3 d4 d5 : Int32) (ro' sizes' rows' : Nat → Int32), f_X1_fillAll y1 y2 y3 y4 y5 y6 y7 y8 y9 y10 y11 y12 y13 y14 c1 c2 c3 c4 c5 facts ro rules sizes rows sc metric fixed = some (nI (fl E 16).2, z1, z2, z3, z4, z5, z6, z7, z8, z9, z10, z11, z12, z13, z14, d1, d2, d3, d4, d5, ro', sizes', rows') ∧ GI (fl E 16).1 ∧ CW (fl E 16).1 facts ro' locked rules sizes' rows' sc metric fixed := by
  unfold f_X1_fillAll l_X1_fillAll_4
  simp only [lI]
  obtain ⟨q, h1, h2⟩ := lp_inv (F := fun k (x : Int32 × TFr) => b_X1_fillAll_4 facts rules sc metric fixed k x.1 x.2.1 x.2.2.1 x.2.2.2.1 x.2.2.2.2.1 x.2.2.2.2.2.1 x.2.2.2.2.2.2.1 x.2.2.2.2.2.2.2.1 x.2.2.2.2.2.2.2.2.1 x.2.2.2.2.2.2.2.2.2.1 x.2.2.2.2.2.2.2.2.2.2.1 x.2.2.2.2.2.2.2.2.2.2.2.1 x.2.2.2.2.2.2.2.2.2.2.2.2.1 x.2.2.2.2.2.2.2.2.2.2.2.2.2.1 x.2.2.2.2.2.2.2.2.2.2.2.2.2.2.1 x.2.2.2.2.2.2.2.2.2.2.2.2.2.2.2.1 x.2.2.2.2.2.2.2.2.2.2.2.2.2.2.2.2.1 x.2.2.2.2.2.2.2.2.2.2.2.2.2.2.2.2.2.1 x.2.2.2.2.2.2.2.2.2.2.2.2.2.2.2.2.2.2.1 x.2.2.2.2.2.2.2.2.2.2.2.2.2.2.2.2.2.2.2.1 x.2.2.2.2.2.2.2.2.2.2.2.2.2.2.2.2.2.2.2.2.1 x.2.2.2.2.2.2.2.2.2.2.2.2.2.2.2.2.2.2.2.2.2.1 x.2.2.2.2.2.2.2.2.2.2.2.2.2.2.2.2.2.2.2.2.2.2.1 x.2.2.2.2.2.2.2.2.2.2.2.2.2.2.2.2.2.2.2.2.2.2.2) (fun t x => x.1 = nI t ∧ x.2.1 = nI t ∧ ∃ F, FlI E t F ∧ CW F facts x.2.2.2.2.2.2.2.2.2.2.2.2.2.2.2.2.2.2.2.2.2.1 locked rules x.2.2.2.2.2.2.2.2.2.2.2.2.2.2.2.2.2.2.2.2.2.2.1 x.2.2.2.2.2.2.2.2.2.2.2.2.2.2.2.2.2.2.2.2.2.2.2 sc metric fixed) (fun q : TFr => q.1 = nI (fl E 16).2 ∧ GI (fl E 16).1 ∧ CW (fl E 16).1 facts q.2.2.2.2.2.2.2.2.2.2.2.2.2.2.2.2.2.2.2.2.1 locked rules q.2.2.2.2.2.2.2.2.2.2.2.2.2.2.2.2.2.2.2.2.2.1 q.2.2.2.2.2.2.2.2.2.2.2.2.2.2.2.2.2.2.2.2.2.2 sc metric fixed) 16 (by
    rintro t ⟨x2, x3, y1, y2, y3, y4, y5, y6, y7, y8, y9, y10, y11, y12, y13, y14, c1, c2, c3, c4, c5, ro1, sizes1, rows1⟩ ht ⟨e1, e2, F, e3, e4⟩
    dsimp only at e1 e2 e4
    subst e1 e2
    have step : ∀ k, b_X1_fillAll_4 facts rules sc metric fixed k (nI t) (nI t) y1 y2 y3 y4 y5 y6 y7 y8 y9 y10 y11 y12 y13 y14 c1 c2 c3 c4 c5 ro1 sizes1 rows1 = l_X1_fillAll_19 k (nI t) (nI t) facts ro1 rules sizes1 rows1 sc metric fixed (nI 0, y1, y2, y3, y4, y5, y6, y7, y8, y9, y10, y11, y12, y13, y14, -nI 5, c2, c3, c4, c5) := by
      intro k
      unfold b_X1_fillAll_4
      simp only [lI]
      rw [if_neg (nI_ge ht (by decide))]
    obtain ⟨w1, w2, w3, w4, w5, w6, w7, w8, w9, w10, w11, w12, w13, w14, c, g⟩ := fill19 e3.1 e4 (nI t) (nI t) y1 y2 y3 y4 y5 y6 y7 y8 y9 y10 y11 y12 y13 y14 c2 c3 c4 c5
    rcases g with ⟨g1, g2⟩ | ⟨p, r, k, a, g, ro', sizes', rows', g1, g2, g3⟩
    · have hs := e3.stop g1
      refine Or.inr ⟨(nI t, w1, w2, w3, w4, w5, w6, w7, w8, w9, w10, w11, w12, w13, w14, c.1, c.2.1, c.2.2.1, c.2.2.2.1, c.2.2.2.2, ro1, sizes1, rows1), ⟨by rw [hs], by rw [hs]; exact e3.1, by rw [hs]; exact e4⟩, fun k => (step k).trans (g2 k)⟩
    · rw [nI_add] at g3
      exact Or.inl ⟨(nI (t + 1), nI (t + 1), w1, w2, w3, w4, w5, w6, w7, w8, w9, w10, w11, w12, w13, w14, c.1, c.2.1, c.2.2.1, c.2.2.2.1, c.2.2.2.2, ro', sizes', rows'), ⟨rfl, rfl, _, (e3.step g1).2, g2⟩, fun k => (step k).trans (g3 k)⟩) (by
    rintro ⟨x2, x3, y1, y2, y3, y4, y5, y6, y7, y8, y9, y10, y11, y12, y13, y14, c1, c2, c3, c4, c5, ro1, sizes1, rows1⟩ ⟨e1, e2, F, e3, e4⟩
    dsimp only at e1 e2 e4
    subst e1 e2
    have hs := e3.stop e3.last
    refine ⟨(nI 16, y1, y2, y3, y4, y5, y6, y7, y8, y9, y10, y11, y12, y13, y14, c1, c2, c3, c4, c5, ro1, sizes1, rows1), ⟨by rw [hs], by rw [hs]; exact e3.1, by rw [hs]; exact e4⟩, fun k => ?_⟩
    show b_X1_fillAll_4 facts rules sc metric fixed k (nI 16) (nI 16) y1 y2 y3 y4 y5 y6 y7 y8 y9 y10 y11 y12 y13 y14 c1 c2 c3 c4 c5 ro1 sizes1 rows1 = _
    unfold b_X1_fillAll_4
    simp only [lI]
    rw [if_pos (nI_le (Nat.le_refl _) (by decide))]) fu (nI 0, nI 0, y1, y2, y3, y4, y5, y6, y7, y8, y9, y10, y11, y12, y13, y14, c1, c2, c3, c4, c5, ro, sizes, rows) (by unfold fu; omega) ⟨rfl, rfl, E, FlI.zero hI, h⟩
  obtain ⟨q0, z1, z2, z3, z4, z5, z6, z7, z8, z9, z10, z11, z12, z13, z14, d1, d2, d3, d4, d5, ro', sizes', rows'⟩ := q
  obtain ⟨rfl, h3, h4⟩ := h1
  exact ⟨z1, z2, z3, z4, z5, z6, z7, z8, z9, z10, z11, z12, z13, z14, d1, d2, d3, d4, d5, ro', sizes', rows', h2, h3, h4⟩
end FC
