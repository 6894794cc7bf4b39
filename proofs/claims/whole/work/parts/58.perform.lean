/-! B31: a move is done; improve; best -/
theorem Mv.gi {E : ES} (hI : GI E) {m : Mv} (hm : m.ok E) : GI (m.res E) := by
  have hB := hI.1
  obtain (⟨r, i, j⟩ | ⟨p, f, i, r, k⟩ | ⟨p, q, a, i, b, j⟩) := m
  · obtain ⟨hr, hij, hj, -, hH⟩ : r < 4 ∧ i < j ∧ j < (eL E r).length ∧ turnOK E r i j := hm
    refine ⟨hB.rev hr (by omega) hj, fun r' h4 => ?_⟩
    show eH E r' (fup (eL E) r (rev (eL E r) i j) r')
    by_cases hq : r' = r
    · rw [hq, fup_s]; exact hH
    · rw [fup_n hq]; exact hI.2 r' h4
  · obtain ⟨ha, -, h1, h2⟩ : shArg E p f i r k ∧ shOK E p f i r k := hm
    refine ⟨ha.gb hB, fun r' h4 => ?_⟩
    show eH E r' (eL (eShift E p f i r k) r')
    by_cases q1 : r' = r
    · rw [q1]; exact h2
    · by_cases q2 : r' = f
      · rw [q2]; exact h1
      · have e : eL (eShift E p f i r k) r' = eL E r' := by
          show fup (fup (eL E) f (del (eL E f) i)) r _ r' = _
          rw [fup_n q1, fup_n q2]
        rw [e]
        exact hI.2 r' h4
  · obtain ⟨hs, -, -, h1, h2⟩ : swArg E p q a i b j ∧ swOK E p q a i b j := hm
    refine ⟨hs.gb hB, fun r' h4 => ?_⟩
    show eH E r' (eL (eSwap E p q a i b j) r')
    by_cases q1 : r' = b
    · rw [q1]; exact h2
    · by_cases q2 : r' = a
      · rw [q2]; exact h1
      · have e : eL (eSwap E p q a i b j) r' = eL E r' := by
          show fup (fup (eL E) a ((eL E a).set i q)) b _ r' = _
          rw [fup_n q1, fup_n q2]
        rw [e]
        exact hI.2 r' h4
theorem Mv.kd_ne (m : Mv) : m.kd ≠ -nI 5 := by
  obtain (⟨r, i, j⟩ | ⟨p, f, i, r, k⟩ | ⟨p, q, a, i, b, j⟩) := m
  · show nI 1 ≠ -nI 5
    decide
  · show nI 2 ≠ -nI 5
    decide
  · show nI 3 ≠ -nI 5
    decide
theorem Mv.kd_bool (m : Mv) : m.kd = nI 1 ∨ m.kd = nI 2 ∨ m.kd = nI 3 := by
  obtain (⟨r, i, j⟩ | ⟨p, f, i, r, k⟩ | ⟨p, q, a, i, b, j⟩) := m
  · exact Or.inl rfl
  · exact Or.inr (Or.inl rfl)
  · exact Or.inr (Or.inr rfl)
section PF
variable {E : ES} {facts ro locked rules sizes rows : Nat → Int32} {sc metric fixed : Int32}
theorem perf91 (hB : GB E) (h : CW E facts ro locked rules sizes rows sc metric fixed) {E2 : ES} (hB2 : GB E2) (y1 y2 y3 : Nat → Int32) (y4 y5 y6 y7 y8 y9 y10 : Int32) (v1 v2 v3 : Nat → Int32) (v4 v5 v6 v7 v8 v9 v10 tw : Int32) (hk : Kp E E2 y1 y4 y5 v1 v4 v5 tw) : ∃ ro' sizes' rows', b_X2_perform_91 (nI 1) y1 y2 y3 y4 y5 y6 y7 y8 y9 y10 v1 v2 v3 v4 v5 v6 v7 v8 v9 v10 tw ro sizes rows = some (y1, y2, y3, y4, y5, y6, y7, y8, y9, y10, v1, v2, v3, v4, v5, v6, v7, v8, v9, v10, tw, ro', sizes', rows') ∧ CW E2 facts ro' locked rules sizes' rows' sc metric fixed := by
  unfold b_X2_perform_91
  simp only [lI]
  rw [if_neg (show ¬ nI 1 = nI 0 by decide)]
  rcases hk with ⟨rfl, f, M, hf, rfl, rfl, hr, rfl⟩ | ⟨rfl, f, M, r, N, hf, hr4, hne, rfl, rfl, hr, rfl, rfl, hr2, hM, hM16, rfl⟩
  · obtain ⟨ro', sizes', rows', k1, -, k2⟩ := keepC hB h hf hr hB2
    rw [k1, Option.bind_some]
    exact ⟨ro', sizes', rows', by rw [if_pos rfl], k2⟩
  · obtain ⟨ro1, sizes1, rows1, ro', sizes', rows', k1, k2, k3⟩ := keepC2 hB h hf hr4 hne hr hr2 hM hM16 hB2
    rw [k1, Option.bind_some]
    dsimp only
    rw [if_neg (show ¬ nI 1 = nI 0 by decide), k2, Option.bind_some]
    exact ⟨ro', sizes', rows', rfl, k3⟩
theorem performC (hI : GI E) (h : CW E facts ro locked rules sizes rows sc metric fixed) {m : Mv} (hm : m.ok E) (y1 y2 y3 : Nat → Int32) (y4 y5 y6 y7 y8 y9 y10 : Int32) (v1 v2 v3 : Nat → Int32) (v4 v5 v6 v7 v8 v9 v10 tw : Int32) : ∃ (z1 z2 z3 : Nat → Int32) (z4 z5 z6 z7 z8 z9 z10 : Int32) (u1 u2 u3 : Nat → Int32) (u4 u5 u6 u7 u8 u9 u10 tw' : Int32) (ro' sizes' rows' : Nat → Int32), f_X2_perform y1 y2 y3 y4 y5 y6 y7 y8 y9 y10 v1 v2 v3 v4 v5 v6 v7 v8 v9 v10 tw m.kd m.a1 m.a2 m.a3 facts ro locked rules sizes rows metric = some (z1, z2, z3, z4, z5, z6, z7, z8, z9, z10, u1, u2, u3, u4, u5, u6, u7, u8, u9, u10, tw', ro', sizes', rows') ∧ CW (m.res E) facts ro' locked rules sizes' rows' sc metric fixed := by
  have hB := hI.1
  have hB2 := (Mv.gi hI hm).1
  obtain (⟨r, i, j⟩ | ⟨p, f, i, r, k⟩ | ⟨p, q, a, i, b, j⟩) := m
  · obtain ⟨hr, hij, hj, ht⟩ : r < 4 ∧ i < j ∧ j < (eL E r).length ∧ turnOK E r i j := hm
    obtain ⟨⟨v, z1, z2, z3, z4, z5, z6, z7, z8, z9, z10, z11⟩, z0, zz⟩ := tryTurnC hB h hr (show i ≤ j by omega) hj y1 y2 y3 y4 y5 y6 y7 y8 y9 y10 tw
    rcases zz with ⟨-, g2, g3, g4, g5, g6⟩ | ⟨g1, -⟩
    rotate_left
    · exact absurd ht g1
    dsimp only at g2 g3 g4 g5 g6
    have hk : Kp E (eRev E r i j) z1 z4 z5 v1 v4 v5 z11 := Or.inl ⟨g6, r, _, hr, g4, g5, g3, rfl⟩
    obtain ⟨ro', sizes', rows', k1, k2⟩ := perf91 hB h hB2 z1 z2 z3 z4 z5 z6 z7 z8 z9 z10 v1 v2 v3 v4 v5 v6 v7 v8 v9 v10 z11 hk
    refine ⟨z1, z2, z3, z4, z5, z6, z7, z8, z9, z10, v1, v2, v3, v4, v5, v6, v7, v8, v9, v10, z11, ro', sizes', rows', ?_, k2⟩
    show f_X2_perform y1 y2 y3 y4 y5 y6 y7 y8 y9 y10 v1 v2 v3 v4 v5 v6 v7 v8 v9 v10 tw (nI 1) (nI r) (nI i) (nI j) facts ro locked rules sizes rows metric = _
    unfold f_X2_perform
    simp only [lI]
    rw [if_pos trivial, z0, Option.bind_some]
    dsimp only
    rw [g2]
    exact k1
  · obtain ⟨ha, ht⟩ : shArg E p f i r k ∧ shOK E p f i r k := hm
    obtain ⟨v, z1, z2, z3, z4, z5, z6, z7, z8, z9, z10, u1, u2, u3, u4, u5, u6, u7, u8, u9, u10, tw', z0, zz⟩ := tryShiftC hB h ha y1 y2 y3 y4 y5 y6 y7 y8 y9 y10 v1 v2 v3 v4 v5 v6 v7 v8 v9 v10 tw
    rcases zz with ⟨-, g2, g3⟩ | ⟨g1, -⟩
    rotate_left
    · exact absurd ht g1
    obtain ⟨ro', sizes', rows', k1, k2⟩ := perf91 hB h hB2 z1 z2 z3 z4 z5 z6 z7 z8 z9 z10 u1 u2 u3 u4 u5 u6 u7 u8 u9 u10 tw' g3
    refine ⟨z1, z2, z3, z4, z5, z6, z7, z8, z9, z10, u1, u2, u3, u4, u5, u6, u7, u8, u9, u10, tw', ro', sizes', rows', ?_, k2⟩
    show f_X2_perform y1 y2 y3 y4 y5 y6 y7 y8 y9 y10 v1 v2 v3 v4 v5 v6 v7 v8 v9 v10 tw (nI 2) (nI p) (nI r) (nI k) facts ro locked rules sizes rows metric = _
    unfold f_X2_perform
    simp only [lI]
    rw [if_neg (show ¬ nI 2 = nI 1 by decide), if_pos trivial, z0, Option.bind_some]
    dsimp only
    rw [g2]
    exact k1
  · obtain ⟨ha, ht⟩ : swArg E p q a i b j ∧ swOK E p q a i b j := hm
    obtain ⟨v, z1, z2, z3, z4, z5, z6, z7, z8, z9, z10, u1, u2, u3, u4, u5, u6, u7, u8, u9, u10, tw', z0, zz⟩ := trySwapC hB h ha y1 y2 y3 y4 y5 y6 y7 y8 y9 y10 v1 v2 v3 v4 v5 v6 v7 v8 v9 v10 tw
    rcases zz with ⟨-, g2, g3⟩ | ⟨g1, -⟩
    rotate_left
    · exact absurd ht g1
    obtain ⟨ro', sizes', rows', k1, k2⟩ := perf91 hB h hB2 z1 z2 z3 z4 z5 z6 z7 z8 z9 z10 u1 u2 u3 u4 u5 u6 u7 u8 u9 u10 tw' g3
    refine ⟨z1, z2, z3, z4, z5, z6, z7, z8, z9, z10, u1, u2, u3, u4, u5, u6, u7, u8, u9, u10, tw', ro', sizes', rows', ?_, k2⟩
    show f_X2_perform y1 y2 y3 y4 y5 y6 y7 y8 y9 y10 v1 v2 v3 v4 v5 v6 v7 v8 v9 v10 tw (nI 3) (nI p) (nI q) (-nI 5) facts ro locked rules sizes rows metric = _
    unfold f_X2_perform
    simp only [lI]
    rw [if_neg (show ¬ nI 3 = nI 1 by decide), if_neg (show ¬ nI 3 = nI 2 by decide), if_pos trivial, z0, Option.bind_some]
    dsimp only
    rw [g2]
    exact k1
/-- when nothing was found, nothing is done -/
theorem performC0 (y1 y2 y3 : Nat → Int32) (y4 y5 y6 y7 y8 y9 y10 : Int32) (v1 v2 v3 : Nat → Int32) (v4 v5 v6 v7 v8 v9 v10 tw a b c : Int32) : f_X2_perform y1 y2 y3 y4 y5 y6 y7 y8 y9 y10 v1 v2 v3 v4 v5 v6 v7 v8 v9 v10 tw (-nI 5) a b c facts ro locked rules sizes rows metric = some (y1, y2, y3, y4, y5, y6, y7, y8, y9, y10, v1, v2, v3, v4, v5, v6, v7, v8, v9, v10, tw, ro, sizes, rows) := by
  unfold f_X2_perform b_X2_perform_91
  simp only [lI]
  rw [if_neg (show ¬ -nI 5 = nI 1 by decide), if_neg (show ¬ -nI 5 = nI 2 by decide), if_neg (show ¬ -nI 5 = nI 3 by decide), if_pos trivial]
end PF
theorem doesBestM {E : ES} {s : Nat → Int32} (hB : GB E) (h : MW E s) {m : Mv} (hm : m.ok E) {mv : Nat → Int32} (hv : encV E (some m) (mvT mv)) : ∃ s', f_X8_doesBest s mv = some s' ∧ MW (m.res E) s' ∧ low s s' := by
  have hN := hB.1
  have hv' : mvT mv = (m.kd, m.gain E, m.a1, m.a2, m.a3) := hv
  have e0 : mv 0 = m.kd := congrArg (fun t : T5 => t.1) hv'
  have e2 : mv 2 = m.a1 := congrArg (fun t : T5 => t.2.2.1) hv'
  have e3 : mv 3 = m.a2 := congrArg (fun t : T5 => t.2.2.2.1) hv'
  have e4 : mv 4 = m.a3 := congrArg (fun t : T5 => t.2.2.2.2) hv'
  unfold f_X8_doesBest
  simp only [lI]
  rw [nI_clamp (show 0 < 2 ^ 31 by decide), nI_clamp (show 2 < 2 ^ 31 by decide), nI_clamp (show 3 < 2 ^ 31 by decide), nI_clamp (show 4 < 2 ^ 31 by decide), e0, e2, e3, e4]
  obtain (⟨r, i, j⟩ | ⟨p, f, i, r, k⟩ | ⟨p, q, a, i, b, j⟩) := m
  · obtain ⟨hr, hij, hj, ht⟩ : r < 4 ∧ i < j ∧ j < (eL E r).length ∧ turnOK E r i j := hm
    obtain ⟨s1, g1, g2, g3⟩ := reversesM_eq hr (h.2.2.2.2.2.2 r hr) (hB.len hr) (show i ≤ j by omega) hj
    refine ⟨s1, ?_, MW.up hB h hr g2 g3, g3.low⟩
    show (if nI 1 = nI 1 then (f_X8_reverses s (nI r) (nI i) (nI j)).bind fun o => some o else _) = _
    rw [if_pos rfl, g1, Option.bind_some]
  · obtain ⟨ha, ht⟩ : shArg E p f i r k ∧ shOK E p f i r k := hm
    have hp := ha.p hB
    have hnone := ha.none hB
    obtain ⟨hf, hr, hi, hpi, hk⟩ := ha
    have hB1 : GB (eOut E f i) := hB.out hf hi
    obtain ⟨w1, w2⟩ := whereM hB h hf hi hpi
    obtain ⟨s1, g1, g2, g3⟩ := MW.outM hB h hf hi
    obtain ⟨s2, g4, g5, g6⟩ := MW.insM hB1 g2 (p := p) hp hr (hnone r hr) hk
    refine ⟨s2, ?_, g5, g3.low.trans g6.low⟩
    show (if nI 2 = nI 1 then _ else if nI 2 = nI 2 then (f_X8_roundOf s (nI p)).bind fun r4 => (f_X8_placeIn s r4 (nI p)).bind fun r5 => (f_X8_removes s r4 r5).bind fun o6 => (f_X8_inserts o6 (nI r) (nI k) (nI p)).bind fun o7 => some o7 else _) = _
    rw [if_neg (show ¬ nI 2 = nI 1 by decide), if_pos rfl, w1, Option.bind_some, w2, Option.bind_some, g1, Option.bind_some, g4, Option.bind_some]
  · obtain ⟨hs, ht⟩ : swArg E p q a i b j ∧ swOK E p q a i b j := hm
    obtain ⟨s1, g1, g2, g3⟩ := swapsM hB h hs
    refine ⟨s1, ?_, g2, g3⟩
    show (if nI 3 = nI 1 then _ else if nI 3 = nI 2 then _ else (f_X8_swaps s (nI p) (nI q)).bind fun o3 => some o3) = _
    rw [if_neg (show ¬ nI 3 = nI 1 by decide), if_neg (show ¬ nI 3 = nI 2 by decide), g1, Option.bind_some]
/-- so many best moves, as long as there is one -/
noncomputable def imp (E : ES) : Nat → ES × Nat
  | 0 => (E, 0)
  | n + 1 => match bestF E with
    | none => (E, 0)
    | some m => ((imp (m.res E) n).1, (imp (m.res E) n).2 + 1)
theorem imp_none {E : ES} (h : bestF E = none) : ∀ n, imp E n = (E, 0) := by
  intro n
  cases n with
  | zero => rfl
  | succ n =>
    show (match bestF E with
      | none => (E, 0)
      | some m => ((imp (m.res E) n).1, (imp (m.res E) n).2 + 1)) = _
    rw [h]
theorem imp_some {E : ES} {m : Mv} (h : bestF E = some m) (n : Nat) : imp E (n + 1) = ((imp (m.res E) n).1, (imp (m.res E) n).2 + 1) := by
  show (match bestF E with
    | none => (E, 0)
    | some m => ((imp (m.res E) n).1, (imp (m.res E) n).2 + 1)) = _
  rw [h]
theorem best_ok {E : ES} {m : Mv} (h : bestF E = some m) : m.ok E := ((FndI_best E).2 m h).1
/-- where both stand after so many -/
def ImI (E : ES) (n i : Nat) (F : ES) : Prop := GI F ∧ i ≤ n ∧ imp E n = ((imp F (n - i)).1, i + (imp F (n - i)).2)
theorem ImI.zero {E : ES} (hI : GI E) (n : Nat) : ImI E n 0 E := by
  refine ⟨hI, Nat.zero_le _, ?_⟩
  rw [Nat.sub_zero, Nat.zero_add]
theorem ImI.step {E F : ES} {n i : Nat} (h : ImI E n i F) (hi : i < n) {m : Mv} (hf : bestF F = some m) : ImI E n (i + 1) (m.res F) := by
  refine ⟨Mv.gi h.1 (best_ok hf), hi, ?_⟩
  rw [h.2.2]
  obtain ⟨d, hd⟩ : ∃ d, n - i = d + 1 := ⟨n - i - 1, by omega⟩
  rw [hd, imp_some hf, show n - (i + 1) = d by omega]
  dsimp only
  rw [show i + ((imp (m.res F) d).2 + 1) = i + 1 + (imp (m.res F) d).2 by omega]
theorem ImI.stop {E F : ES} {n i : Nat} (h : ImI E n i F) (hf : bestF F = none) : imp E n = (F, i) := by
  rw [h.2.2, imp_none hf]
  rfl
theorem ImI.last {E F : ES} {n : Nat} (h : ImI E n n F) : imp E n = (F, n) := by
  rw [h.2.2, Nat.sub_self]
  rfl
