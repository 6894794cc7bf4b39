/-! B32: improve, best, fill, in both -/
abbrev TI31 : Type := Int32 × (Nat → Int32) × (Nat → Int32) × (Nat → Int32) × (Nat → Int32) × (Nat → Int32) × (Nat → Int32) × Int32 × Int32 × Int32 × Int32 × Int32 × Int32 × Int32 × (Nat → Int32) × (Nat → Int32) × (Nat → Int32) × Int32 × Int32 × Int32 × Int32 × Int32 × Int32 × Int32 × Int32 × Int32 × Int32 × Int32 × Int32 × Int32 × Int32
section IM
variable {E : ES} {facts ro locked rules sizes rows : Nat → Int32} {sc metric fixed : Int32}
theorem improveC (hI : GI E) (h : CW E facts ro locked rules sizes rows sc metric fixed) (n : Nat) (hn : n ≤ 20) (W : Int32) (S : TS26) : ∃ q : TI31, l_X7_improve_29 (nI n) facts locked rules sc metric fixed W (nI 0, nI 0, ro, sizes, rows, S) = some q ∧ q.1 = nI (imp E n).2 ∧ GI (imp E n).1 ∧ CW (imp E n).1 facts q.2.1 locked rules q.2.2.1 q.2.2.2.1 sc metric fixed ∧ q.2.2.2.2.2.2.2.2.2.2.2.2.2.2.2.2.2.2.2.2.2.2.2.2.2.2.2.2.2.2 = W := by
  unfold l_X7_improve_29
  obtain ⟨q, h1, h2⟩ := lp_inv (F := fun k (x : Int32 × Int32 × (Nat → Int32) × (Nat → Int32) × (Nat → Int32) × TS26) => b_X7_improve_29 (nI n) facts locked rules sc metric fixed W k x.1 x.2.1 x.2.2.1 x.2.2.2.1 x.2.2.2.2.1 x.2.2.2.2.2.1 x.2.2.2.2.2.2.1 x.2.2.2.2.2.2.2.1 x.2.2.2.2.2.2.2.2.1 x.2.2.2.2.2.2.2.2.2.1 x.2.2.2.2.2.2.2.2.2.2.1 x.2.2.2.2.2.2.2.2.2.2.2.1 x.2.2.2.2.2.2.2.2.2.2.2.2.1 x.2.2.2.2.2.2.2.2.2.2.2.2.2.1 x.2.2.2.2.2.2.2.2.2.2.2.2.2.2.1 x.2.2.2.2.2.2.2.2.2.2.2.2.2.2.2.1 x.2.2.2.2.2.2.2.2.2.2.2.2.2.2.2.2.1 x.2.2.2.2.2.2.2.2.2.2.2.2.2.2.2.2.2.1 x.2.2.2.2.2.2.2.2.2.2.2.2.2.2.2.2.2.2.1 x.2.2.2.2.2.2.2.2.2.2.2.2.2.2.2.2.2.2.2.1 x.2.2.2.2.2.2.2.2.2.2.2.2.2.2.2.2.2.2.2.2.1 x.2.2.2.2.2.2.2.2.2.2.2.2.2.2.2.2.2.2.2.2.2.1 x.2.2.2.2.2.2.2.2.2.2.2.2.2.2.2.2.2.2.2.2.2.2.1 x.2.2.2.2.2.2.2.2.2.2.2.2.2.2.2.2.2.2.2.2.2.2.2.1 x.2.2.2.2.2.2.2.2.2.2.2.2.2.2.2.2.2.2.2.2.2.2.2.2.1 x.2.2.2.2.2.2.2.2.2.2.2.2.2.2.2.2.2.2.2.2.2.2.2.2.2.1 x.2.2.2.2.2.2.2.2.2.2.2.2.2.2.2.2.2.2.2.2.2.2.2.2.2.2.1 x.2.2.2.2.2.2.2.2.2.2.2.2.2.2.2.2.2.2.2.2.2.2.2.2.2.2.2.1 x.2.2.2.2.2.2.2.2.2.2.2.2.2.2.2.2.2.2.2.2.2.2.2.2.2.2.2.2.1 x.2.2.2.2.2.2.2.2.2.2.2.2.2.2.2.2.2.2.2.2.2.2.2.2.2.2.2.2.2.1 x.2.2.2.2.2.2.2.2.2.2.2.2.2.2.2.2.2.2.2.2.2.2.2.2.2.2.2.2.2.2) (fun t x => x.1 = nI t ∧ x.2.1 = nI t ∧ ∃ F, ImI E n t F ∧ CW F facts x.2.2.1 locked rules x.2.2.2.1 x.2.2.2.2.1 sc metric fixed) (fun q : TI31 => q.1 = nI (imp E n).2 ∧ GI (imp E n).1 ∧ CW (imp E n).1 facts q.2.1 locked rules q.2.2.1 q.2.2.2.1 sc metric fixed ∧ q.2.2.2.2.2.2.2.2.2.2.2.2.2.2.2.2.2.2.2.2.2.2.2.2.2.2.2.2.2.2 = W) n (by
    rintro t ⟨x1, x2, ro1, sizes1, rows1, y1, y2, y3, y4, y5, y6, y7, y8, y9, y10, v1, v2, v3, v4, v5, v6, v7, v8, v9, v10, tw, kd, gg, ca, cb, cc⟩ ht ⟨e1, e2, F, e3, e4⟩
    dsimp only at e1 e2 e4
    subst e1 e2
    obtain ⟨⟨z1, z2, z3, z4, z5, z6, z7, z8, z9, z10, u1, u2, u3, u4, u5, u6, u7, u8, u9, u10, uw, c⟩, f1, f2⟩ := findC e3.1.1 e4 y1 y2 y3 y4 y5 y6 y7 y8 y9 y10 v1 v2 v3 v4 v5 v6 v7 v8 v9 v10 tw ca cb cc
    change encV F (bestF F) c at f1
    cases f : bestF F with
    | none =>
      rw [f] at f1
      have hs := e3.stop f
      have hc : c.1 = -nI 5 := f1.1
      refine Or.inr ⟨(nI t, ro1, sizes1, rows1, z1, z2, z3, z4, z5, z6, z7, z8, z9, z10, u1, u2, u3, u4, u5, u6, u7, u8, u9, u10, uw, c.1, c.2.1, c.2.2.1, c.2.2.2.1, c.2.2.2.2, W), ⟨by rw [hs], by rw [hs]; exact e3.1, by rw [hs]; exact e4, rfl⟩, fun k => ?_⟩
      show b_X7_improve_29 (nI n) facts locked rules sc metric fixed W k (nI t) (nI t) ro1 sizes1 rows1 y1 y2 y3 y4 y5 y6 y7 y8 y9 y10 v1 v2 v3 v4 v5 v6 v7 v8 v9 v10 tw kd gg ca cb cc = _
      unfold b_X7_improve_29
      simp only [lI, nI_add]
      rw [if_neg (nI_ge ht (by omega)), f2, Option.bind_some]
      dsimp only
      rw [if_pos hc]
    | some m =>
      rw [f] at f1
      have hc : c = (m.kd, m.gain F, m.a1, m.a2, m.a3) := f1
      subst hc
      have hm := best_ok f
      obtain ⟨p1, p2, p3, p4, p5, p6, p7, p8, p9, p10, s1, s2, s3, s4, s5, s6, s7, s8, s9, s10, sw, ro', sizes', rows', g1, g2⟩ := performC e3.1 e4 hm z1 z2 z3 z4 z5 z6 z7 z8 z9 z10 u1 u2 u3 u4 u5 u6 u7 u8 u9 u10 uw
      refine Or.inl ⟨(nI (t + 1), nI (t + 1), ro', sizes', rows', p1, p2, p3, p4, p5, p6, p7, p8, p9, p10, s1, s2, s3, s4, s5, s6, s7, s8, s9, s10, sw, m.kd, m.gain F, m.a1, m.a2, m.a3), ⟨rfl, rfl, _, e3.step ht f, g2⟩, fun k => ?_⟩
      show b_X7_improve_29 (nI n) facts locked rules sc metric fixed W k (nI t) (nI t) ro1 sizes1 rows1 y1 y2 y3 y4 y5 y6 y7 y8 y9 y10 v1 v2 v3 v4 v5 v6 v7 v8 v9 v10 tw kd gg ca cb cc = _
      unfold b_X7_improve_29
      simp only [lI, nI_add]
      rw [if_neg (nI_ge ht (by omega)), f2, Option.bind_some]
      dsimp only
      rw [if_neg m.kd_ne, g1, Option.bind_some]) (by
    rintro ⟨x1, x2, ro1, sizes1, rows1, y1, y2, y3, y4, y5, y6, y7, y8, y9, y10, v1, v2, v3, v4, v5, v6, v7, v8, v9, v10, tw, kd, gg, ca, cb, cc⟩ ⟨e1, e2, F, e3, e4⟩
    dsimp only at e1 e2 e4
    subst e1 e2
    have hs := e3.last
    refine ⟨(nI n, ro1, sizes1, rows1, y1, y2, y3, y4, y5, y6, y7, y8, y9, y10, v1, v2, v3, v4, v5, v6, v7, v8, v9, v10, tw, kd, gg, ca, cb, cc, W), ⟨by rw [hs], by rw [hs]; exact e3.1, by rw [hs]; exact e4, rfl⟩, fun k => ?_⟩
    show b_X7_improve_29 (nI n) facts locked rules sc metric fixed W k (nI n) (nI n) ro1 sizes1 rows1 y1 y2 y3 y4 y5 y6 y7 y8 y9 y10 v1 v2 v3 v4 v5 v6 v7 v8 v9 v10 tw kd gg ca cb cc = _
    unfold b_X7_improve_29
    simp only [lI]
    rw [if_pos (nI_le (Nat.le_refl _) (by omega))]) fu (nI 0, nI 0, ro, sizes, rows, S) (by unfold fu; omega) ⟨rfl, rfl, E, ImI.zero hI n, h⟩
  exact ⟨q, h2, h1⟩
abbrev TQ9 : Type := Int32 × (Nat → Int32) × Int32 × (Nat → Int32) × (Nat → Int32) × Int32 × Int32 × Int32 × (Nat → Int32)
theorem improveM {s : Nat → Int32} (hI : GI E) (h : MW E s) (n : Nat) (hn : n ≤ 20) (W : Int32) (cs bs : Nat → Int32) (b w l : Int32) (mv : Nat → Int32) : ∃ q : TQ9, l_X8_improve_26 (nI n) W (nI 0, s, cs, bs, b, w, l, mv) = some q ∧ q.1 = nI (imp E n).2 ∧ MW (imp E n).1 q.2.1 ∧ low s q.2.1 ∧ q.2.2.1 = W := by
  unfold l_X8_improve_26
  obtain ⟨q, h1, h2⟩ := lp_inv (F := fun k (x : Int32 × TR7) => b_X8_improve_26 (nI n) W k x.1 x.2.1 x.2.2.1 x.2.2.2.1 x.2.2.2.2.1 x.2.2.2.2.2.1 x.2.2.2.2.2.2.1 x.2.2.2.2.2.2.2) (fun t x => x.1 = nI t ∧ ∃ F, ImI E n t F ∧ MW F x.2.1 ∧ low s x.2.1) (fun q : TQ9 => q.1 = nI (imp E n).2 ∧ MW (imp E n).1 q.2.1 ∧ low s q.2.1 ∧ q.2.2.1 = W) n (by
    rintro t ⟨x1, s1, cs, bs, b, w, l, mv⟩ ht ⟨e1, F, e2, e3, e4⟩
    dsimp only at e1 e3 e4
    subst e1
    obtain ⟨v, s2, z1, z2, z3, z4, z5, mv', g1, g2, g3, g4, g5⟩ := findsBestM e2.1.1 e3 cs bs b w l mv
    rcases g5 with ⟨f, rfl⟩ | ⟨m, f, rfl⟩
    · have hs := e2.stop f
      refine Or.inr ⟨(nI t, s2, W, z1, z2, z3, z4, z5, mv'), ⟨by rw [hs], by rw [hs]; exact g2, e4.trans g3, rfl⟩, fun k => ?_⟩
      show b_X8_improve_26 (nI n) W k (nI t) s1 cs bs b w l mv = _
      unfold b_X8_improve_26
      simp only [lI, nI_add]
      rw [if_neg (nI_ge ht (by omega)), g1, Option.bind_some]
      dsimp only
      rw [if_pos rfl]
    · rw [f] at g4
      obtain ⟨s3, d1, d2, d3⟩ := doesBestM e2.1.1 g2 (best_ok f) g4
      refine Or.inl ⟨(nI (t + 1), s3, z1, z2, z3, z4, z5, mv'), ⟨rfl, _, e2.step ht f, d2, (e4.trans g3).trans d3⟩, fun k => ?_⟩
      show b_X8_improve_26 (nI n) W k (nI t) s1 cs bs b w l mv = _
      unfold b_X8_improve_26
      simp only [lI, nI_add]
      rw [if_neg (nI_ge ht (by omega)), g1, Option.bind_some]
      dsimp only
      rw [if_neg (show ¬ nI 1 = nI 0 by decide), d1, Option.bind_some]) (by
    rintro ⟨x1, s1, cs, bs, b, w, l, mv⟩ ⟨e1, F, e2, e3, e4⟩
    dsimp only at e1 e3 e4
    subst e1
    have hs := e2.last
    refine ⟨(nI n, s1, W, cs, bs, b, w, l, mv), ⟨by rw [hs], by rw [hs]; exact e3, e4, rfl⟩, fun k => ?_⟩
    show b_X8_improve_26 (nI n) W k (nI n) s1 cs bs b w l mv = _
    unfold b_X8_improve_26
    rw [if_pos (nI_le (Nat.le_refl _) (by omega))]) fu (nI 0, s, cs, bs, b, w, l, mv) (by unfold fu; omega) ⟨rfl, E, ImI.zero hI n, h, low.refl s⟩
  exact ⟨q, h2, h1⟩
theorem isIn1_20 (x : Int32) : (∃ n, n ≤ 20 ∧ x = nI n ∧ ¬ x < nI 1 ∧ x ≤ nI 20 ∧ f_X8_isIn x (nI 1) (nI 20) = some (nI 1)) ∨ ((x < nI 1 ∨ ¬ x < nI 1 ∧ ¬ x ≤ nI 20) ∧ f_X8_isIn x (nI 1) (nI 20) = some (nI 0)) := by
  unfold f_X8_isIn
  by_cases h0 : x < nI 1
  · exact Or.inr ⟨Or.inl h0, by rw [if_pos h0]; rfl⟩
  · by_cases h1 : nI 20 < x
    · exact Or.inr ⟨Or.inr ⟨h0, Int32.not_le.mpr h1⟩, by rw [if_neg h0, if_pos h1]; rfl⟩
    · have h00 : ¬ x < nI 0 := fun z => h0 (Int32.lt_trans z (by decide))
      obtain ⟨p, hp, rfl⟩ := nI_of2 (M := nI 20) (n := 20) (nI_toInt (by decide)) h00 (Int32.not_lt.mp h1)
      exact Or.inl ⟨p, hp, rfl, h0, Int32.not_lt.mp h1, by rw [if_neg h0, if_neg h1]; rfl⟩
theorem improve_both {s : Nat → Int32} (hI : GI E) (h : CW E facts ro locked rules sizes rows sc metric fixed) (hM : MW E s) {W : Nat} (hW : W ≤ 1500) (y1 y2 y3 : Nat → Int32) (y4 y5 y6 y7 y8 y9 y10 : Int32) (v1 v2 v3 : Nat → Int32) (v4 v5 v6 v7 v8 v9 v10 tw kd gg ca cb cc : Int32) (cs bs : Nat → Int32) (b w l : Int32) (mv : Nat → Int32) (x1 : Int32) : ∃ E' W' v ro' sizes' rows', ∃ (z1 z2 z3 : Nat → Int32) (z4 z5 z6 z7 z8 z9 z10 : Int32) (u1 u2 u3 : Nat → Int32) (u4 u5 u6 u7 u8 u9 u10 u11 u12 u13 u14 u15 u16 : Int32), ∃ s' z', f_X7_improve facts ro locked rules sizes rows sc metric fixed y1 y2 y3 y4 y5 y6 y7 y8 y9 y10 v1 v2 v3 v4 v5 v6 v7 v8 v9 v10 tw kd gg ca cb cc (nI W) x1 = some (v, ro', sizes', rows', z1, z2, z3, z4, z5, z6, z7, z8, z9, z10, u1, u2, u3, u4, u5, u6, u7, u8, u9, u10, u11, u12, u13, u14, u15, u16, nI W') ∧ f_X8_improve s (nI W) cs bs b w l mv x1 = some (v, s', nI W', z') ∧ GI E' ∧ CW E' facts ro' locked rules sizes' rows' sc metric fixed ∧ MW E' s' ∧ low s s' ∧ W' ≤ 1500 := by
  unfold f_X7_improve f_X8_improve
  simp only [lI]
  rcases isIn1_20 x1 with ⟨n, hn, rfl, q1, q2, q3⟩ | ⟨q1, q3⟩
  · rw [if_neg q1, if_pos q2, q3, Option.bind_some, if_neg (show ¬ nI 1 = nI 0 by decide)]
    rcases spend_eq hW (show n ≤ 1500 by omega) with ⟨hw, w1, w2⟩ | ⟨hw, w1, w2⟩
    · rw [w1, w2, Option.bind_some, Option.bind_some]
      dsimp only
      rw [if_neg (show ¬ nI 1 = nI 0 by decide), if_neg (show ¬ nI 1 = nI 0 by decide)]
      obtain ⟨⟨q, ro', sizes', rows', z1, z2, z3, z4, z5, z6, z7, z8, z9, z10, u1, u2, u3, u4, u5, u6, u7, u8, u9, u10, u11, u12, u13, u14, u15, u16, W1⟩, a1, a2, a3, a4, a5⟩ := improveC hI h n hn (nI (W + n)) (y1, y2, y3, y4, y5, y6, y7, y8, y9, y10, v1, v2, v3, v4, v5, v6, v7, v8, v9, v10, tw, kd, gg, ca, cb, cc)
      obtain ⟨⟨q', s', W2, z'⟩, b1, b2, b3, b4, b5⟩ := improveM hI hM n hn (nI (W + n)) cs bs b w l mv
      dsimp only at a2 a4 a5 b2 b3 b4 b5
      subst a2 a5 b2 b5
      exact ⟨_, _, _, ro', sizes', rows', z1, z2, z3, z4, z5, z6, z7, z8, z9, z10, u1, u2, u3, u4, u5, u6, u7, u8, u9, u10, u11, u12, u13, u14, u15, u16, s', z', a1, b1, a3, a4, b3, b4, hw⟩
    · rw [w1, w2, Option.bind_some, Option.bind_some]
      dsimp only
      rw [if_pos rfl, if_pos rfl]
      exact ⟨E, W, _, ro, sizes, rows, y1, y2, y3, y4, y5, y6, y7, y8, y9, y10, v1, v2, v3, v4, v5, v6, v7, v8, v9, v10, tw, kd, gg, ca, cb, cc, s, _, rfl, rfl, hI, h, hM, low.refl s, hW⟩
  · rw [q3, Option.bind_some, if_pos rfl]
    rcases q1 with q1 | ⟨q1, q2⟩
    · rw [if_pos q1]
      exact ⟨E, W, _, ro, sizes, rows, y1, y2, y3, y4, y5, y6, y7, y8, y9, y10, v1, v2, v3, v4, v5, v6, v7, v8, v9, v10, tw, kd, gg, ca, cb, cc, s, _, rfl, rfl, hI, h, hM, low.refl s, hW⟩
    · rw [if_neg q1, if_neg q2]
      exact ⟨E, W, _, ro, sizes, rows, y1, y2, y3, y4, y5, y6, y7, y8, y9, y10, v1, v2, v3, v4, v5, v6, v7, v8, v9, v10, tw, kd, gg, ca, cb, cc, s, _, rfl, rfl, hI, h, hM, low.refl s, hW⟩
/-- the kind that best told: the class's word and the reference's -/
def TK1 (told kind : Int32) : Prop := told = -nI 5 ∧ kind = nI 0 ∨ told = kind ∧ (kind = nI 1 ∨ kind = nI 2 ∨ kind = nI 3)
theorem best_both {s : Nat → Int32} (hI : GI E) (h : CW E facts ro locked rules sizes rows sc metric fixed) (hM : MW E s) {W : Nat} (hW : W ≤ 1500) (y1 y2 y3 : Nat → Int32) (y4 y5 y6 y7 y8 y9 y10 : Int32) (v1 v2 v3 : Nat → Int32) (v4 v5 v6 v7 v8 v9 v10 tw kd gg ca cb cc : Int32) {told kind : Int32} (hT : TK1 told kind) (cs bs : Nat → Int32) (b w l : Int32) (mv : Nat → Int32) (x1 : Int32) : ∃ W' v, ∃ (z1 z2 z3 : Nat → Int32) (z4 z5 z6 z7 z8 z9 z10 : Int32) (u1 u2 u3 : Nat → Int32) (u4 u5 u6 u7 u8 u9 u10 u11 u12 u13 u14 u15 u16 told' kind' : Int32), ∃ s' z', f_X7_best facts ro locked rules sizes rows sc metric fixed y1 y2 y3 y4 y5 y6 y7 y8 y9 y10 v1 v2 v3 v4 v5 v6 v7 v8 v9 v10 tw kd gg ca cb cc told (nI W) x1 = some (v, z1, z2, z3, z4, z5, z6, z7, z8, z9, z10, u1, u2, u3, u4, u5, u6, u7, u8, u9, u10, u11, u12, u13, u14, u15, u16, told', nI W') ∧ f_X8_best s (nI W) kind cs bs b w l mv x1 = some (v, s', nI W', kind', z') ∧ TK1 told' kind' ∧ MW E s' ∧ low s s' ∧ W' ≤ 1500 := by
  have hB := hI.1
  have h10 : ¬ nI 1 = nI 0 := by decide
  unfold f_X7_best f_X8_best
  simp only [lI]
  rw [isUpTo_isIn]
  rcases isIn_eq x1 4 (by decide) with ⟨n, hn, rfl, q3⟩ | ⟨q1, q3⟩
  · rw [q3, Option.bind_some, if_neg h10, Option.bind_some, if_neg h10]
    rcases spend_eq hW (show 1 ≤ 1500 by omega) with ⟨hw, w1, w2⟩ | ⟨hw, w1, w2⟩
    · rw [w1, w2, Option.bind_some, Option.bind_some]
      dsimp only
      rw [if_neg h10, if_neg h10]
      obtain ⟨⟨z1, z2, z3, z4, z5, z6, z7, z8, z9, z10, u1, u2, u3, u4, u5, u6, u7, u8, u9, u10, u11, c⟩, f1, f2⟩ := findC hB h y1 y2 y3 y4 y5 y6 y7 y8 y9 y10 v1 v2 v3 v4 v5 v6 v7 v8 v9 v10 tw ca cb cc
      obtain ⟨v, s2, a1, a2, a3, a4, a5, mv', g1, g2, g3, g4, g5⟩ := findsBestM hB hM cs bs b w l mv
      change encV E (bestF E) c at f1
      rw [f2, g1, Option.bind_some, Option.bind_some]
      dsimp only
      unfold f_X2_foundFact b_X8_best_42
      simp only [lI]
      rcases g5 with ⟨f, rfl⟩ | ⟨m, f, rfl⟩
      · rw [f] at f1
        have hc : c.1 = -nI 5 := f1.1
        rw [if_pos hc, if_pos rfl, if_pos rfl, Option.bind_some]
        exact ⟨_, _, z1, z2, z3, z4, z5, z6, z7, z8, z9, z10, u1, u2, u3, u4, u5, u6, u7, u8, u9, u10, u11, c.1, c.2.1, c.2.2.1, c.2.2.2.1, c.2.2.2.2, c.1, nI 0, s2, _, rfl, rfl, Or.inl ⟨hc, rfl⟩, g2, g3, hw⟩
      · rw [f] at f1 g4
        have hc : c = (m.kd, m.gain E, m.a1, m.a2, m.a3) := f1
        subst hc
        dsimp only
        have hv' : mvT mv' = (m.kd, m.gain E, m.a1, m.a2, m.a3) := g4
        have e0 : mv' 0 = m.kd := congrArg (fun t : T5 => t.1) hv'
        have e1 : mv' 1 = m.gain E := congrArg (fun t : T5 => t.2.1) hv'
        have e2 : mv' 2 = m.a1 := congrArg (fun t : T5 => t.2.2.1) hv'
        have e3 : mv' 3 = m.a2 := congrArg (fun t : T5 => t.2.2.2.1) hv'
        have e4 : mv' 4 = m.a3 := congrArg (fun t : T5 => t.2.2.2.2) hv'
        rw [if_neg m.kd_ne, if_neg h10, if_neg h10, gI_n (show n < 5 by omega) (by decide), nI_clamp (by omega), nI_clamp (show 0 < 2 ^ 31 by decide), e0]
        have hans : (if nI n = nI 0 then some m.kd else if nI n = nI 1 then some (m.gain E) else if nI n = nI 2 then some m.a1 else if nI n = nI 3 then some m.a2 else some m.a3) = some (mv' n) := by
          rcases (show n = 0 ∨ n = 1 ∨ n = 2 ∨ n = 3 ∨ n = 4 by omega) with rfl | rfl | rfl | rfl | rfl
          · rw [if_pos rfl, e0]
          · rw [if_neg (by decide), if_pos rfl, e1]
          · rw [if_neg (by decide), if_neg (by decide), if_pos rfl, e2]
          · rw [if_neg (by decide), if_neg (by decide), if_neg (by decide), if_pos rfl, e3]
          · rw [if_neg (by decide), if_neg (by decide), if_neg (by decide), if_neg (by decide), e4]
        rw [hans, Option.bind_some]
        exact ⟨_, _, z1, z2, z3, z4, z5, z6, z7, z8, z9, z10, u1, u2, u3, u4, u5, u6, u7, u8, u9, u10, u11, m.kd, m.gain E, m.a1, m.a2, m.a3, m.kd, m.kd, s2, _, rfl, rfl, Or.inr ⟨rfl, m.kd_bool⟩, g2, g3, hw⟩
    · rw [w1, w2, Option.bind_some, Option.bind_some]
      dsimp only
      rw [if_pos rfl, if_pos rfl]
      exact ⟨W, _, y1, y2, y3, y4, y5, y6, y7, y8, y9, y10, v1, v2, v3, v4, v5, v6, v7, v8, v9, v10, tw, kd, gg, ca, cb, cc, told, kind, s, _, rfl, rfl, hT, hM, low.refl s, hW⟩
  · rw [q3, Option.bind_some, if_pos rfl, Option.bind_some, if_pos rfl]
    exact ⟨W, _, y1, y2, y3, y4, y5, y6, y7, y8, y9, y10, v1, v2, v3, v4, v5, v6, v7, v8, v9, v10, tw, kd, gg, ca, cb, cc, told, kind, s, _, rfl, rfl, hT, hM, low.refl s, hW⟩
theorem fill_both {s : Nat → Int32} (hI : GI E) (h : CW E facts ro locked rules sizes rows sc metric fixed) (hM : MW E s) {W : Nat} (hW : W ≤ 1500) (y1 y2 y3 : Nat → Int32) (y4 y5 y6 y7 y8 y9 y10 y11 y12 y13 y14 c1 c2 c3 c4 c5 : Int32) (cs bs : Nat → Int32) (b w l br bp ba re : Int32) : ∃ E' W' v ro' sizes' rows', ∃ (z1 z2 z3 : Nat → Int32) (z4 z5 z6 z7 z8 z9 z10 z11 z12 z13 z14 z15 z16 z17 z18 z19 : Int32), ∃ s' z', f_X7_fill facts ro rules sizes rows sc metric fixed y1 y2 y3 y4 y5 y6 y7 y8 y9 y10 y11 y12 y13 y14 c1 c2 c3 c4 c5 (nI W) = some (v, ro', sizes', rows', z1, z2, z3, z4, z5, z6, z7, z8, z9, z10, z11, z12, z13, z14, z15, z16, z17, z18, z19, nI W') ∧ f_X8_fill s (nI W) cs bs b w l br bp ba re = some (v, s', nI W', z') ∧ GI E' ∧ CW E' facts ro' locked rules sizes' rows' sc metric fixed ∧ MW E' s' ∧ low s s' ∧ W' ≤ 1500 := by
  have h10 : ¬ nI 1 = nI 0 := by decide
  unfold f_X7_fill f_X8_fill
  simp only [lI]
  rcases spend_eq hW (show 1 ≤ 1500 by omega) with ⟨hw, w1, w2⟩ | ⟨hw, w1, w2⟩
  · rw [w1, w2, Option.bind_some, Option.bind_some]
    dsimp only
    rw [if_neg h10, if_neg h10]
    obtain ⟨z1, z2, z3, z4, z5, z6, z7, z8, z9, z10, z11, z12, z13, z14, d1, d2, d3, d4, d5, ro', sizes', rows', f1, f2, f3⟩ := fillC hI h y1 y2 y3 y4 y5 y6 y7 y8 y9 y10 y11 y12 y13 y14 c1 c2 c3 c4 c5
    obtain ⟨s', a1, a2, a3, a4, a5, a6, a7, a8, a9, g1, g2, g3⟩ := fillsM hI hM cs bs b w l br bp ba re
    rw [f1, g1, Option.bind_some, Option.bind_some]
    exact ⟨_, _, _, ro', sizes', rows', z1, z2, z3, z4, z5, z6, z7, z8, z9, z10, z11, z12, z13, z14, d1, d2, d3, d4, d5, s', _, rfl, rfl, f2, f3, g2, g3, hw⟩
  · rw [w1, w2, Option.bind_some, Option.bind_some]
    dsimp only
    rw [if_pos rfl, if_pos rfl]
    exact ⟨E, W, _, ro, sizes, rows, y1, y2, y3, y4, y5, y6, y7, y8, y9, y10, y11, y12, y13, y14, c1, c2, c3, c4, c5, s, _, rfl, rfl, hI, h, hM, low.refl s, hW⟩
end IM
