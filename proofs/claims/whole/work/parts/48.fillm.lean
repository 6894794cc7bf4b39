/-! B21: filling in the reference -/
def encG (x : Fs) (x2 x3 x4 x5 x6 : Int32) : Prop := match x with
  | none => x2 = -nI 5
  | some (p, r, k, a, g) => x2 = nI p ∧ x3 = g ∧ x4 = a ∧ x5 = nI r ∧ x6 = nI k ∧ p < 16
abbrev TGr : Type := Int32 × (Nat → Int32) × (Nat → Int32) × (Nat → Int32) × Int32 × Int32 × Int32 × Int32 × Int32 × Int32 × Int32
abbrev TGs : Type := Int32 × Int32 × Int32 × Int32 × Int32 × Int32 × (Nat → Int32) × (Nat → Int32) × (Nat → Int32) × Int32 × Int32 × Int32 × Int32 × Int32 × Int32 × Int32
def GPost (E : ES) (s0 : Nat → Int32) (x1 : Int32) (R : (TGr → Option TGr) → Option TGr) : Prop :=
  ∃ (s cs bs : Nat → Int32) (b w l br bp ba re : Int32), low s0 s ∧ ((fs E (eN E) = none ∧ MW E s ∧ ∀ k2, R k2 = some (x1, s, cs, bs, b, w, l, br, bp, ba, re)) ∨ ∃ p r k a g, fs E (eN E) = some (p, r, k, a, g) ∧ MW (eIn E r k p) s ∧ ∀ k2, R k2 = k2 (x1 + nI 1, s, cs, bs, b, w, l, br, bp, ba, re))
theorem fills19 {E : ES} {s : Nat → Int32} (hI : GI E) (h : MW E s) (x1 : Int32) (cs bs : Nat → Int32) (b w l br bp ba re : Int32) : GPost E s x1 (fun k2 => l_X8_fills_19 k2 x1 (-nI 5, nI 0, nI 0, nI 0, nI 0, nI 0, s, cs, bs, b, w, l, br, bp, ba, re)) := by
  have hB := hI.1
  have hN := hB.1
  have e4 : (nI 4).toNatClampNeg = 4 := nI_clamp (by decide)
  unfold l_X8_fills_19
  refine lp_toK (F := fun (k2 : TGr → Option TGr) k (x : TGs) => b_X8_fills_19 k2 x1 k x.1 x.2.1 x.2.2.1 x.2.2.2.1 x.2.2.2.2.1 x.2.2.2.2.2.1 x.2.2.2.2.2.2.1 x.2.2.2.2.2.2.2.1 x.2.2.2.2.2.2.2.2.1 x.2.2.2.2.2.2.2.2.2.1 x.2.2.2.2.2.2.2.2.2.2.1 x.2.2.2.2.2.2.2.2.2.2.2.1 x.2.2.2.2.2.2.2.2.2.2.2.2.1 x.2.2.2.2.2.2.2.2.2.2.2.2.2.1 x.2.2.2.2.2.2.2.2.2.2.2.2.2.2.1 x.2.2.2.2.2.2.2.2.2.2.2.2.2.2.2) (fun t x => x.2.2.2.2.2.1 = nI t ∧ MW E x.2.2.2.2.2.2.1 ∧ low s x.2.2.2.2.2.2.1 ∧ encG (fs E t) x.1 x.2.1 x.2.2.1 x.2.2.2.1 x.2.2.2.2.1) (GPost E s x1) (eN E) ?_ ?_ fu _ (by unfold fu; omega) ⟨rfl, h, low.refl s, rfl⟩
  · rintro t ⟨x2, x3, x4, x5, x6, x7, s1, cs, bs, b, w, l, br, bp, ba, re⟩ ht ⟨e1, e2, e3, e5⟩
    dsimp only at e1 e2 e3 e5
    subst e1
    refine Or.inl ?_
    have hro : f_X8_roundOf s1 (nI t) = some (rof (eL E) t) := roundOfM_eq (hB.MRs e2) hN (by omega)
    by_cases hr : rof (eL E) t = -nI 5
    · have hm := loose_out hr
      obtain ⟨v, s2, z1, z2, z3, z4, z5, vr, vp, va, ve, g1, g2, g3, g4⟩ := cheapAllM hB e2 ht hm cs bs b w l
      have lw := e3.trans g3
      have step : ∀ (k2 : TGr → Option TGr) (k : TGs → Option TGr), b_X8_fills_19 k2 x1 k x2 x3 x4 x5 x6 (nI t) s1 cs bs b w l br bp ba re = if v = nI 0 then k (x2, x3, x4, x5, x6, nI (t + 1), s2, z1, z2, z3, z4, z5, vr, vp, va, ve) else if x2 < nI 0 ∨ ¬ ve < x3 ∧ (ve = x3 → va < x4) then k (nI t, ve, va, vr, vp, nI (t + 1), s2, z1, z2, z3, z4, z5, vr, vp, va, ve) else k (x2, x3, x4, x5, x6, nI (t + 1), s2, z1, z2, z3, z4, z5, vr, vp, va, ve) := by
        intro k2 k
        unfold b_X8_fills_19 b_X8_fills_83
        simp only [lI, nI_add]
        rw [e4, e2.1, if_neg (nI_ge ht (by omega)), hro, Option.bind_some, hr, if_neg m5_lt, g1, Option.bind_some]
        dsimp only
        by_cases q1 : v = nI 0
        · rw [if_pos q1, if_pos q1]
        · rw [if_neg q1, if_neg q1]
          by_cases q2 : x2 < nI 0
          · rw [if_pos q2, if_pos (Or.inl q2)]
          · rw [if_neg q2]
            by_cases q3 : ve < x3
            · have hn : ¬ (x2 < nI 0 ∨ ¬ ve < x3 ∧ (ve = x3 → va < x4)) := fun z => z.elim q2 (fun z => z.1 q3)
              rw [if_pos q3, if_neg hn]
            · rw [if_neg q3]
              by_cases q4 : ve = x3
              · rw [if_pos q4]
                by_cases q5 : va < x4
                · rw [if_pos q5, if_pos (Or.inr ⟨q3, fun _ => q5⟩)]
                · have hn : ¬ (x2 < nI 0 ∨ ¬ ve < x3 ∧ (ve = x3 → va < x4)) := fun z => z.elim q2 (fun z => q5 (z.2 q4))
                  rw [if_neg q5, if_neg hn]
              · rw [if_neg q4, if_pos (Or.inr ⟨q3, fun z => absurd z q4⟩)]
      have hfs := fs_t hr
      cases e : wg E t 0 4 with
      | none =>
        rw [e] at g4 hfs
        have hv : v = nI 0 := g4
        refine ⟨(x2, x3, x4, x5, x6, nI (t + 1), s2, z1, z2, z3, z4, z5, vr, vp, va, ve), ⟨rfl, g2, lw, ?_⟩, fun k2 k => (step k2 k).trans (if_pos hv)⟩
        show encG (fs E (t + 1)) x2 x3 x4 x5 x6
        rw [hfs]
        exact e5
      | some y =>
        obtain ⟨r, k0, a, g⟩ := y
        rw [e] at g4 hfs
        obtain ⟨hv1, rfl, rfl, rfl, rfl⟩ := g4
        have hv : ¬ v = nI 0 := by rw [hv1]; decide
        cases f : fs E t with
        | none =>
          rw [f] at e5 hfs
          have e5' : x2 = -nI 5 := e5
          refine ⟨(nI t, ve, va, nI r, nI k0, nI (t + 1), s2, z1, z2, z3, z4, z5, nI r, nI k0, va, ve), ⟨rfl, g2, lw, ?_⟩, fun k2 k => (step k2 k).trans ((if_neg hv).trans (if_pos (Or.inl (by rw [e5']; exact m5_lt0))))⟩
          show encG (fs E (t + 1)) (nI t) ve va (nI r) (nI k0)
          rw [hfs]
          exact ⟨rfl, rfl, rfl, rfl, rfl, by omega⟩
        | some z =>
          obtain ⟨p0, r0, k1, a0, g0⟩ := z
          rw [f] at e5 hfs
          have e5' := e5
          obtain ⟨rfl, rfl, rfl, rfl, rfl, hp0⟩ := e5
          change fs E (t + 1) = (if x3 < ve ∨ ve = x3 ∧ va < x4 then some (t, r, k0, va, ve) else some (p0, r0, k1, x4, x3)) at hfs
          have hp0' : ¬ nI p0 < nI 0 := nI_lt0 (by omega)
          by_cases q : x3 < ve ∨ ve = x3 ∧ va < x4
          · rw [if_pos q] at hfs
            have hc : nI p0 < nI 0 ∨ ¬ ve < x3 ∧ (ve = x3 → va < x4) := by
              refine Or.inr ?_
              rcases q with q | q
              · exact ⟨Int32.not_lt.mpr (Int32.le_of_lt q), fun z => absurd q (by rw [z]; exact fun z => Int32.lt_irrefl z)⟩
              · exact ⟨by rw [q.1]; exact fun z => Int32.lt_irrefl z, fun _ => q.2⟩
            refine ⟨(nI t, ve, va, nI r, nI k0, nI (t + 1), s2, z1, z2, z3, z4, z5, nI r, nI k0, va, ve), ⟨rfl, g2, lw, ?_⟩, fun k2 k => (step k2 k).trans ((if_neg hv).trans (if_pos hc))⟩
            show encG (fs E (t + 1)) (nI t) ve va (nI r) (nI k0)
            rw [hfs]
            exact ⟨rfl, rfl, rfl, rfl, rfl, by omega⟩
          · rw [if_neg q] at hfs
            have hc : ¬ (nI p0 < nI 0 ∨ ¬ ve < x3 ∧ (ve = x3 → va < x4)) := by
              rintro (z | ⟨z1, z2⟩)
              · exact hp0' z
              · by_cases q1 : ve = x3
                · exact q (Or.inr ⟨q1, z2 q1⟩)
                · refine q (Or.inl ?_)
                  rcases Int32.lt_or_eq_of_le (Int32.not_lt.mp z1) with z | z
                  · exact z
                  · exact absurd z.symm q1
            refine ⟨(nI p0, x3, x4, nI r0, nI k1, nI (t + 1), s2, z1, z2, z3, z4, z5, nI r, nI k0, va, ve), ⟨rfl, g2, lw, ?_⟩, fun k2 k => (step k2 k).trans ((if_neg hv).trans (if_neg hc))⟩
            show encG (fs E (t + 1)) (nI p0) x3 x4 (nI r0) (nI k1)
            rw [hfs]
            exact e5'
    · refine ⟨(x2, x3, x4, x5, x6, nI (t + 1), s1, cs, bs, b, w, l, br, bp, ba, re), ⟨rfl, e2, e3, by rw [fs_f hr]; exact e5⟩, fun k2 k => ?_⟩
      show b_X8_fills_19 k2 x1 k x2 x3 x4 x5 x6 (nI t) s1 cs bs b w l br bp ba re = _
      unfold b_X8_fills_19
      simp only [lI, nI_add]
      rw [e4, e2.1, if_neg (nI_ge ht (by omega)), hro, Option.bind_some, if_pos]
      rcases rof_or (eL E) t with ⟨a, ha, -, -, e⟩ | ⟨-, e⟩
      · rw [e]; exact nI_0le (by omega)
      · exact absurd e hr
  · rintro ⟨x2, x3, x4, x5, x6, x7, s1, cs, bs, b, w, l, br, bp, ba, re⟩ ⟨e1, e2, e3, e5⟩
    dsimp only at e1 e2 e3 e5
    subst e1
    cases f : fs E (eN E) with
    | none =>
      rw [f] at e5
      have e5' : x2 = -nI 5 := e5
      refine ⟨fun _ => some (x1, s1, cs, bs, b, w, l, br, bp, ba, re), ⟨s1, cs, bs, b, w, l, br, bp, ba, re, e3, Or.inl ⟨f, e2, fun _ => rfl⟩⟩, fun k2 k => ?_⟩
      show b_X8_fills_19 k2 x1 k x2 x3 x4 x5 x6 (nI (eN E)) s1 cs bs b w l br bp ba re = _
      unfold b_X8_fills_19
      simp only [lI]
      rw [e4, e2.1, if_pos (nI_le (Nat.le_refl _) (by omega)), e5', if_neg m5_lt]
    | some y =>
      obtain ⟨p, r, k0, a, g⟩ := y
      rw [f] at e5
      obtain ⟨rfl, rfl, rfl, rfl, rfl, hp16⟩ := e5
      obtain ⟨hp, hm, hr, hk, hG⟩ := fs_ok hI f
      obtain ⟨s2, i1, i2, i3⟩ := insertsM_eq (p := p) hr (e2.2.2.2.2.2.2 r hr) (len_lt hB hp hr (hm r hr)) hk
      refine ⟨fun k2 => k2 (x1 + nI 1, s2, cs, bs, b, w, l, br, bp, ba, re), ⟨s2, cs, bs, b, w, l, br, bp, ba, re, e3.trans i3.low, Or.inr ⟨p, r, k0, x4, x3, f, MW.up hB e2 hr i2 i3, fun _ => rfl⟩⟩, fun k2 k => ?_⟩
      show b_X8_fills_19 k2 x1 k (nI p) x3 x4 (nI r) (nI k0) (nI (eN E)) s1 cs bs b w l br bp ba re = _
      unfold b_X8_fills_19
      simp only [lI]
      rw [e4, e2.1, if_pos (nI_le (Nat.le_refl _) (by omega)), if_pos (nI_0le (by omega)), i1, Option.bind_some]
theorem fillsM {E : ES} {s : Nat → Int32} (hI : GI E) (h : MW E s) (cs bs : Nat → Int32) (b w l br bp ba re : Int32) : ∃ (s' cs' bs' : Nat → Int32) (b' w' l' br' bp' ba' re' : Int32), f_X8_fills s cs bs b w l br bp ba re = some (nI (fl E 16).2, s', cs', bs', b', w', l', br', bp', ba', re') ∧ MW (fl E 16).1 s' ∧ low s s' := by
  unfold f_X8_fills l_X8_fills_2
  simp only [lI]
  obtain ⟨q, h1, h2⟩ := lp_inv (F := fun k (x : TGr) => b_X8_fills_2 k x.1 x.2.1 x.2.2.1 x.2.2.2.1 x.2.2.2.2.1 x.2.2.2.2.2.1 x.2.2.2.2.2.2.1 x.2.2.2.2.2.2.2.1 x.2.2.2.2.2.2.2.2.1 x.2.2.2.2.2.2.2.2.2.1 x.2.2.2.2.2.2.2.2.2.2) (fun t x => x.1 = nI t ∧ ∃ F, FlI E t F ∧ MW F x.2.1 ∧ low s x.2.1) (fun q : TGr => q.1 = nI (fl E 16).2 ∧ MW (fl E 16).1 q.2.1 ∧ low s q.2.1) 16 (by
    rintro t ⟨x1, s1, cs, bs, b, w, l, br, bp, ba, re⟩ ht ⟨e1, F, e2, e3, e4⟩
    dsimp only at e1 e3 e4
    subst e1
    obtain ⟨s2, z1, z2, z3, z4, z5, z6, z7, z8, z9, g1, g⟩ := fills19 e2.1 e3 (nI t) cs bs b w l br bp ba re
    have lw := e4.trans g1
    rcases g with ⟨g2, g3, g4⟩ | ⟨p, r, k, a, g, g2, g3, g4⟩
    · have hs := e2.stop g2
      exact Or.inr ⟨(nI t, s2, z1, z2, z3, z4, z5, z6, z7, z8, z9), ⟨by rw [hs], by rw [hs]; exact g3, lw⟩, fun k => g4 k⟩
    · rw [nI_add] at g4
      exact Or.inl ⟨(nI (t + 1), s2, z1, z2, z3, z4, z5, z6, z7, z8, z9), ⟨rfl, _, (e2.step g2).2, g3, lw⟩, fun k => g4 k⟩) (by
    rintro ⟨x1, s1, cs, bs, b, w, l, br, bp, ba, re⟩ ⟨e1, F, e2, e3, e4⟩
    dsimp only at e1 e3 e4
    subst e1
    obtain ⟨s2, z1, z2, z3, z4, z5, z6, z7, z8, z9, g1, g⟩ := fills19 e2.1 e3 (nI 16) cs bs b w l br bp ba re
    have lw := e4.trans g1
    rcases g with ⟨g2, g3, g4⟩ | ⟨p, r, k, a, g, g2, g3, g4⟩
    · have hs := e2.stop g2
      exact ⟨(nI 16, s2, z1, z2, z3, z4, z5, z6, z7, z8, z9), ⟨by rw [hs], by rw [hs]; exact g3, lw⟩, fun k => g4 k⟩
    · rw [e2.last] at g2
      cases g2) fu (nI 0, s, cs, bs, b, w, l, br, bp, ba, re) (by unfold fu; omega) ⟨rfl, E, FlI.zero hI, h, low.refl s⟩
  obtain ⟨q0, z1, z2, z3, z4, z5, z6, z7, z8, z9, z10⟩ := q
  obtain ⟨rfl, h3, h4⟩ := h1
  exact ⟨z1, z2, z3, z4, z5, z6, z7, z8, z9, z10, h2, h3, h4⟩
/-- WORK: both spend it alike -/
theorem spend_eq {W n : Nat} (hW : W ≤ 1500) (hn : n ≤ 1500) : (W + n ≤ 1500 ∧ f_X7_spend (nI W) (nI n) = some (nI 1, nI (W + n)) ∧ f_X8_works (nI W) (nI n) = some (nI 1, nI (W + n))) ∨ (¬ W + n ≤ 1500 ∧ f_X7_spend (nI W) (nI n) = some (nI 0, nI W) ∧ f_X8_works (nI W) (nI n) = some (nI 0, nI W)) := by
  unfold f_X7_spend f_X8_works
  simp only [lI, nI_add]
  rw [pk_sub hW]
  by_cases h : W + n ≤ 1500
  · exact Or.inl ⟨h, by rw [if_pos (nI_le (by omega) (by omega))], by rw [if_pos (nI_le h (by omega))]⟩
  · exact Or.inr ⟨h, by rw [if_neg (nI_ge (by omega) (by omega))], by rw [if_neg (nI_ge (by omega) (by omega))]⟩
