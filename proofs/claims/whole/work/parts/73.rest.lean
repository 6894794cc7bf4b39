/-! B46: judge, taken, image, undo, fits, in both -/
section REST
variable {E : ES} {facts ro locked rules sizes rows s : Nat → Int32} {sc metric fixed : Int32}
theorem rg7 (a b c : Int32) : a - b - c = a - (b + c) := by grind
/-- how far a round is as a tape tells -/
def jdR (it : Nat → Int64) (L : List Nat) (b i0 n : Nat) : Nat → Nat → Int32
  | 0, _ => -nI 5
  | d + 1, k => if i0 + k < n then (if lg_cmp (it (b + (i0 + k))) (nI (at_ L k)).toInt64 = nI 0 then jdR it L b i0 n d (k + 1) else nI k) else nI (100 + k)
theorem jdR_succ (it : Nat → Int64) (L : List Nat) (b i0 n d k : Nat) : jdR it L b i0 n (d + 1) k = if i0 + k < n then (if lg_cmp (it (b + (i0 + k))) (nI (at_ L k)).toInt64 = nI 0 then jdR it L b i0 n d (k + 1) else nI k) else nI (100 + k) := rfl
theorem hasAt (sz : Nat → Int32) {t n i : Nat} (ht : t < 6) (hn : n ≤ 60) (e : sz t = nI n) (hi : i < 2 ^ 30) : f_X5_hasItem sz (nI t) (nI i) = some (if i < n then nI 1 else nI 0) := by
  rcases hasX sz ht hn e (nI i) with ⟨j, hj, ej, h, -⟩ | ⟨h1, h, -⟩
  · have : i = j := nI_inj (by omega) (by omega) ej
    rw [h, if_pos (by omega)]
  · rw [h, if_neg]
    intro z
    rcases h1 with h1 | h1
    · exact nI_lt0 (by omega) h1
    · exact nI_ge z (by omega) h1
theorem judge_both {so sz so' sz' : Nat → Int32} {it ce : Nat → Int64} (hB : GB E) (h : CW E facts ro locked rules sizes rows sc metric fixed) (hM : MW E s) (hT : TpR so sz it so' sz' ce) (x1 x2 x3 : Int32) : ∃ v, f_X7_judge sizes rows so sz it x1 x2 x3 = some v ∧ f_X8_judge s so' sz' ce x1 x2 x3 = some v := by
  unfold f_X7_judge f_X8_judge
  simp only [lI]
  rcases roundX x1 with ⟨r, hr, rfl, e1, e2⟩ | ⟨e1, e2⟩
  rotate_left
  · rw [e1, e2, Option.bind_some, Option.bind_some, if_pos rfl, if_pos rfl]
    exact ⟨_, rfl, rfl⟩
  rw [e1, e2, Option.bind_some, Option.bind_some, if_neg h10_, if_neg h10_]
  rcases tapeX x2 with ⟨t, ht, rfl, e3, e4⟩ | ⟨e3, e4⟩
  rotate_left
  · rw [e3, e4, Option.bind_some, Option.bind_some, if_pos rfl, if_pos rfl]
    exact ⟨_, rfl, rfl⟩
  have hl := hB.len hr
  have hS := h.2.2.2.2.2.2.2 r hr
  have hMR := hM.2.2.2.2.2.2 r hr
  obtain ⟨g1, g2, n, hn, en, hs, hc⟩ := hT t ht
  rw [e3, e4, Option.bind_some, Option.bind_some, if_neg h10_, if_neg h10_, sortC so ht, Option.bind_some, gI_n ht (by decide), nI_clamp (by omega), g1]
  -- the two walks
  have walk : (so t < nI 0 ∨ ¬ so t < nI 0) → (so t < nI 0 → n = 0) → ∃ v, l_X7_judge_47 (nI r) (nI t) x3 sizes rows sz it (nI 0) = some v ∧ l_X8_judge_31 (nI r) (nI t) x3 s so' sz' ce (nI 0) = some v := by
    intro _ hneg
    by_cases hx : ∃ i0, i0 < n ∧ x3 = nI i0
    · obtain ⟨i0, hi0, rfl⟩ := hx
      have hns : ¬ so t < nI 0 := fun z => by have := hneg z; omega
      refine ⟨jdR it (eL E r) (60 * t) i0 n (eL E r).length 0, ?_, ?_⟩
      · unfold l_X7_judge_47
        refine lp_eq (F := fun k (x : Int32) => b_X7_judge_47 (nI r) (nI t) (nI i0) sizes rows sz it k x) (fun d x => x = nI d ∧ jdR it (eL E r) (60 * t) i0 n ((eL E r).length - d) d = jdR it (eL E r) (60 * t) i0 n (eL E r).length 0) _ (eL E r).length ?_ ?_ fu _ (by unfold fu; omega) ⟨rfl, rfl⟩
        · rintro k x hk ⟨rfl, c2⟩
          obtain ⟨d, hd⟩ : ∃ d, (eL E r).length - k = d + 1 := ⟨(eL E r).length - k - 1, by omega⟩
          rw [hd, jdR_succ] at c2
          have step : ∀ z, b_X7_judge_47 (nI r) (nI t) (nI i0) sizes rows sz it z (nI k) = if i0 + k < n then (if lg_cmp (it (60 * t + (i0 + k))) (nI (at_ (eL E r) k)).toInt64 = nI 0 then z (nI (k + 1)) else some (nI k)) else some (nI (100 + k)) := by
            intro z
            unfold b_X7_judge_47
            simp only [lI, nI_add]
            rw [sizeOf_eq sizes hr, Option.bind_some, hS.1, if_neg (nI_ge hk (by omega)), hasAt sz ht hn en (by omega), Option.bind_some]
            by_cases q : i0 + k < n
            · rw [if_pos q, if_pos q, if_neg h10_, itemC sz it ht hn en q, Option.bind_some, rowAt_eq hr hS.1 hS.2 hl (by omega), Option.bind_some]
            · rw [if_neg q, if_neg q, if_pos rfl]
          by_cases q : i0 + k < n
          · rw [if_pos q] at c2
            by_cases q2 : lg_cmp (it (60 * t + (i0 + k))) (nI (at_ (eL E r) k)).toInt64 = nI 0
            · rw [if_pos q2] at c2
              exact Or.inl ⟨nI (k + 1), ⟨rfl, by rw [show (eL E r).length - (k + 1) = d by omega]; exact c2⟩, fun z => (step z).trans (by rw [if_pos q, if_pos q2])⟩
            · rw [if_neg q2] at c2
              exact Or.inr fun z => (step z).trans (by rw [if_pos q, if_neg q2, c2])
          · rw [if_neg q] at c2
            exact Or.inr fun z => (step z).trans (by rw [if_neg q, c2])
        · rintro x ⟨rfl, c2⟩ z
          rw [Nat.sub_self] at c2
          unfold b_X7_judge_47
          simp only [lI]
          rw [sizeOf_eq sizes hr, Option.bind_some, hS.1, if_pos (nI_le (Nat.le_refl _) (by omega)), ← c2]
          rfl
      · unfold l_X8_judge_31
        refine lp_eq (F := fun k (x : Int32) => b_X8_judge_31 (nI r) (nI t) (nI i0) s so' sz' ce k x) (fun d x => x = nI d ∧ jdR it (eL E r) (60 * t) i0 n ((eL E r).length - d) d = jdR it (eL E r) (60 * t) i0 n (eL E r).length 0) _ (eL E r).length ?_ ?_ fu _ (by unfold fu; omega) ⟨rfl, rfl⟩
        · rintro k x hk ⟨rfl, c2⟩
          obtain ⟨d, hd⟩ : ∃ d, (eL E r).length - k = d + 1 := ⟨(eL E r).length - k - 1, by omega⟩
          rw [hd, jdR_succ] at c2
          have hin : f_X8_isIn (nI i0) (nI 0) (nI n - nI 1 - nI k) = some (if i0 + k < n then nI 1 else nI 0) := by
            unfold f_X8_isIn
            rw [if_neg (nI_lt0 (by omega)), rg7, nI_add]
            by_cases q : i0 + k < n
            · rw [if_pos q, if_neg]
              · rfl
              · rw [Int32.lt_iff_toInt_lt, subI (by omega) (by omega), nI_toInt (by omega)]
                omega
            · rw [if_neg q, if_pos]
              · rfl
              · rw [Int32.lt_iff_toInt_lt, subI (by omega) (by omega), nI_toInt (by omega)]
                omega
          have step : ∀ z, b_X8_judge_31 (nI r) (nI t) (nI i0) s so' sz' ce z (nI k) = if i0 + k < n then (if lg_cmp (it (60 * t + (i0 + k))) (nI (at_ (eL E r) k)).toInt64 = nI 0 then z (nI (k + 1)) else some (nI k)) else some (nI (100 + k)) := by
            intro z
            unfold b_X8_judge_31
            simp only [lI, pk_mul, nI_add]
            rw [sizeM hM hr, Option.bind_some, if_neg (nI_ge hk (by omega)), gI_n ht (by decide), nI_clamp (show t < 2 ^ 31 by omega), g1, if_neg hns, g2, en, hin, Option.bind_some]
            by_cases q : i0 + k < n
            · have hcc := hc (i0 + k) q
              rw [if_pos q, if_pos q, if_neg h10_, gI_n (by omega) (by decide), inRow_at hr hMR hl hk, Option.bind_some, nI_clamp (by omega), show 60 * t + i0 + k = 60 * t + (i0 + k) by omega, hcc]
            · rw [if_neg q, if_neg q, if_pos rfl]
          by_cases q : i0 + k < n
          · rw [if_pos q] at c2
            by_cases q2 : lg_cmp (it (60 * t + (i0 + k))) (nI (at_ (eL E r) k)).toInt64 = nI 0
            · rw [if_pos q2] at c2
              exact Or.inl ⟨nI (k + 1), ⟨rfl, by rw [show (eL E r).length - (k + 1) = d by omega]; exact c2⟩, fun z => (step z).trans (by rw [if_pos q, if_pos q2])⟩
            · rw [if_neg q2] at c2
              exact Or.inr fun z => (step z).trans (by rw [if_pos q, if_neg q2, c2])
          · rw [if_neg q] at c2
            exact Or.inr fun z => (step z).trans (by rw [if_neg q, c2])
        · rintro x ⟨rfl, c2⟩ z
          rw [Nat.sub_self] at c2
          unfold b_X8_judge_31
          simp only [lI]
          rw [sizeM hM hr, Option.bind_some, if_pos (nI_le (Nat.le_refl _) (by omega)), ← c2]
          rfl
    · -- ended at once
      rcases hasX sz ht hn en x3 with ⟨i, hi, rfl, -, -⟩ | ⟨-, a1, a2⟩
      · exact absurd ⟨i, hi, rfl⟩ hx
      refine ⟨if (eL E r).length = 0 then -nI 5 else nI 100, ?_, ?_⟩
      · show b_X7_judge_47 (nI r) (nI t) x3 sizes rows sz it (lp _ 599) (nI 0) = _
        unfold b_X7_judge_47
        simp only [lI]
        rw [sizeOf_eq sizes hr, Option.bind_some, hS.1]
        by_cases h0 : (eL E r).length = 0
        · rw [h0, if_pos (Int32.le_refl _), if_pos rfl]
        · rw [if_neg (nI_ge (by omega) (by omega)), if_neg h0, show x3 + nI 0 = x3 from Int32.add_zero x3, a1, Option.bind_some, if_pos rfl]
          rfl
      · show b_X8_judge_31 (nI r) (nI t) x3 s so' sz' ce (lp _ 599) (nI 0) = _
        unfold b_X8_judge_31
        simp only [lI]
        rw [sizeM hM hr, Option.bind_some]
        by_cases h0 : (eL E r).length = 0
        · rw [h0, if_pos (Int32.le_refl _), if_pos rfl]
        · rw [if_neg (nI_ge (by omega) (by omega)), if_neg h0, gI_n ht (by decide), nI_clamp (show t < 2 ^ 31 by omega), g1, g2, en, sub_n0, a2]
          by_cases q : so t < nI 0
          · rw [if_pos q]
            rfl
          · rw [if_neg q, Option.bind_some, if_pos rfl]
            rfl
  rcases hs with ⟨hs, h0⟩ | ⟨k, hk, hs⟩
  · rw [hs, if_neg (show ¬ -nI 1 = nI 0 by decide), if_pos rfl, if_pos (show -nI 1 ≤ nI 0 by decide)]
    exact walk (Or.inl (by rw [hs]; decide)) (fun _ => h0)
  · have hns : ¬ so t < nI 0 := by rw [hs]; exact nI_lt0 (by omega)
    by_cases q : k = 0
    · rw [hs, q, if_pos rfl, if_pos (Int32.le_refl _)]
      exact walk (Or.inr hns) (fun z => absurd z hns)
    · have hne : ¬ nI k = -nI 1 := by
        intro z
        have := congrArg Int32.toInt z
        rw [nI_toInt (by omega)] at this
        have em : (-nI 1).toInt = -1 := by decide
        omega
      rw [hs, if_neg (by rw [nI_eq (by omega) (by decide)]; exact q), if_neg hne, if_neg (by rw [nI_leI (by omega) (by decide)]; omega)]
      exact ⟨_, rfl, rfl⟩
theorem taken_both {told kind : Int32} (hT : TK1 told kind) (x1 : Int32) : ∃ v, f_X7_taken told x1 = some v ∧ f_X8_taken kind x1 = some v := by
  unfold f_X7_taken f_X8_taken b_X7_taken_48 b_X7_taken_52 b_X7_taken_53
  simp only [lI]
  rw [isUpTo_isIn]
  rcases isIn_eq x1 4 (by decide) with ⟨n, hn, rfl, e⟩ | ⟨-, e⟩
  rotate_left
  · rw [e, Option.bind_some, Option.bind_some, if_pos rfl, if_pos rfl]
    exact ⟨_, rfl, rfl⟩
  rw [e, Option.bind_some, Option.bind_some, if_neg h10_, if_neg h10_]
  rcases hT with ⟨rfl, rfl⟩ | ⟨rfl, hk⟩
  · rw [if_pos rfl, if_pos rfl]
    exact ⟨_, rfl, rfl⟩
  have h5 : ¬ told = -nI 5 := by rcases hk with rfl | rfl | rfl <;> decide
  have h0 : ¬ told = nI 0 := by rcases hk with rfl | rfl | rfl <;> decide
  rw [if_neg h5, if_neg h0, if_neg h10_]
  simp only [if_true]
  by_cases q0 : nI n = nI 0
  · rw [if_pos q0, if_pos q0]
    exact ⟨_, rfl, rfl⟩
  rw [if_neg q0, if_neg q0]
  by_cases q1 : nI n = told
  · rw [if_pos q1, if_pos q1]
    exact ⟨_, rfl, rfl⟩
  rw [if_neg q1, if_neg q1]
  by_cases q2 : nI n = nI 4
  · rw [if_pos q2, if_pos q2]
    rcases hk with rfl | rfl | rfl
    · rw [if_pos rfl, if_pos (show nI 1 ≤ nI 1 by decide)]
      exact ⟨_, rfl, rfl⟩
    · rw [if_neg (show ¬ nI 2 = nI 1 by decide), if_neg (show ¬ nI 2 ≤ nI 1 by decide)]
      exact ⟨_, rfl, rfl⟩
    · rw [if_neg (show ¬ nI 3 = nI 1 by decide), if_neg (show ¬ nI 3 ≤ nI 1 by decide)]
      exact ⟨_, rfl, rfl⟩
  · rw [if_neg q2, if_neg q2]
    exact ⟨_, rfl, rfl⟩
theorem PS.copy {n : Nat} {sl sr pl pr bl br sl' sr' pl' pr' bl' br' s s' : Nat → Int32} {ss ps bs : Int32} (h : PS n sl sr ss pl pr ps bl br bs s) (h1 : ∀ i, i < 8 → sl' i = sl i ∧ sr' i = sr i) (h2 : ∀ i, i < 8 → pl' i = pl i ∧ pr' i = pr i) (h3 : ∀ i, i < 8 → bl' i = bl i ∧ br' i = br i) (h4 : ∀ i, i < 258 → s' i = s i) : PS n sl' sr' ss pl' pr' ps bl' br' bs s' := by
  obtain ⟨⟨a, ha, a1, a2, a3⟩, ⟨b, hb, b1, b2, b3⟩, ⟨c, hc, c1, c2, c3⟩, g1, g2, g3⟩ := h
  refine ⟨⟨a, ha, a1, by rw [h4 _ (by omega), a2], fun i hi => ?_⟩, ⟨b, hb, b1, by rw [h4 _ (by omega), b2], fun i hi => ?_⟩, ⟨c, hc, c1, by rw [h4 _ (by omega), c2], fun i hi => ?_⟩, fun i hi hl => ?_, fun i hi hl => ?_, fun i hi hl => ?_⟩
  · rw [h4 _ (by omega), h4 _ (by omega), (h1 i (by omega)).1, (h1 i (by omega)).2]; exact a3 i hi
  · rw [h4 _ (by omega), h4 _ (by omega), (h2 i (by omega)).1, (h2 i (by omega)).2]; exact b3 i hi
  · rw [h4 _ (by omega), h4 _ (by omega), (h3 i (by omega)).1, (h3 i (by omega)).2]; exact c3 i hi
  · rw [(h1 i hi).1]; exact g1 i hi hl
  · rw [(h2 i hi).1, (h2 i hi).2]; exact g2 i hi hl
  · rw [(h3 i hi).1]; exact g3 i hi hl
/-- an image kept in both, or in none -/
def KpR (hk ik : Int32) (facts ro locked rules sizes rows sl sr : Nat → Int32) (ss : Int32) (pl pr : Nat → Int32) (ps : Int32) (bl br : Nat → Int32) (bs sc metric fixed : Int32) (im : Nat → Int32) : Prop := (hk = nI 0 ∧ ik = nI 0) ∨ (hk = nI 1 ∧ ik = nI 1 ∧ ∃ K, GI K ∧ CW K facts ro locked rules sizes rows sc metric fixed ∧ MW K im ∧ PS (eN K) sl sr ss pl pr ps bl br bs im)
theorem image_both {sl sr pl pr bl br : Nat → Int32} {ss ps bs : Int32} (hI : GI E) (h : CW E facts ro locked rules sizes rows sc metric fixed) (hM : MW E s) (hP : PS (eN E) sl sr ss pl pr ps bl br bs s) (f0 r0 l0 u0 z0 w0 sl0 sr0 pl0 pr0 bl0 br0 im : Nat → Int32) : ∃ v facts' ro' locked' rules' sizes' rows' sl' sr' ss' pl' pr' ps' bl' br' bs' sc' metric' fixed' hk im' ik, f_X7_image facts ro locked rules sizes rows sl sr ss pl pr ps bl br bs sc metric fixed f0 r0 l0 u0 z0 w0 sl0 sr0 pl0 pr0 bl0 br0 = some (v, facts', ro', locked', rules', sizes', rows', sl', sr', ss', pl', pr', ps', bl', br', bs', sc', metric', fixed', hk) ∧ f_X8_image s im = some (v, im', ik) ∧ KpR hk ik facts' ro' locked' rules' sizes' rows' sl' sr' ss' pl' pr' ps' bl' br' bs' sc' metric' fixed' im' := by
  obtain ⟨facts1, ro1, lk1, ru1, sz1, rw1, sl1, sr1, pl1, pr1, bl1, br1, a1, a2, a3, a4, a5⟩ := copyFromC hI.1 h f0 r0 l0 u0 z0 w0 sl0 sr0 pl0 pr0 bl0 br0 sl sr pl pr bl br ss ps bs
  obtain ⟨im', b1, b2⟩ := copies_eq (n := 258) (by decide) s im
  unfold f_X7_image f_X8_image
  simp only [lI]
  rw [a1, b1, Option.bind_some, Option.bind_some, nI_clamp (by decide), hM.1, h.1]
  rw [h.1] at a2
  exact ⟨_, _, _, _, _, _, _, _, _, _, _, _, _, _, _, _, _, _, _, _, im', _, rfl, rfl, Or.inr ⟨rfl, rfl, E, hI, a2, MW.copy hI.1.1 (fun r hr => hI.1.len hr) hM b2, hP.copy a3 a4 a5 b2⟩⟩
theorem undo_both {sl sr pl pr bl br : Nat → Int32} {ss ps bs : Int32} (hI : GI E) (h : CW E facts ro locked rules sizes rows sc metric fixed) (hM : MW E s) (hP : PS (eN E) sl sr ss pl pr ps bl br bs s) {hk ik : Int32} {f0 r0 l0 u0 z0 w0 sl0 sr0 pl0 pr0 bl0 br0 im : Nat → Int32} {ss0 ps0 bs0 sc0 me0 fx0 : Int32} (hK : KpR hk ik f0 r0 l0 u0 z0 w0 sl0 sr0 ss0 pl0 pr0 ps0 bl0 br0 bs0 sc0 me0 fx0 im) : ∃ E' v facts' ro' locked' rules' sizes' rows' sl' sr' ss' pl' pr' ps' bl' br' bs' sc' metric' fixed' s', f_X7_undo facts ro locked rules sizes rows sl sr ss pl pr ps bl br bs sc metric fixed f0 r0 l0 u0 z0 w0 sl0 sr0 ss0 pl0 pr0 ps0 bl0 br0 bs0 sc0 me0 fx0 hk = some (v, facts', ro', locked', rules', sizes', rows', sl', sr', ss', pl', pr', ps', bl', br', bs', sc', metric', fixed') ∧ f_X8_undo s im ik = some (v, s') ∧ GI E' ∧ CW E' facts' ro' locked' rules' sizes' rows' sc' metric' fixed' ∧ MW E' s' ∧ PS (eN E') sl' sr' ss' pl' pr' ps' bl' br' bs' s' := by
  unfold f_X7_undo f_X8_undo
  simp only [lI]
  rcases hK with ⟨rfl, rfl⟩ | ⟨rfl, rfl, K, k1, k2, k3, k4⟩
  · rw [if_pos rfl, if_pos rfl]
    exact ⟨E, _, facts, ro, locked, rules, sizes, rows, sl, sr, ss, pl, pr, ps, bl, br, bs, sc, metric, fixed, s, rfl, rfl, hI, h, hM, hP⟩
  · obtain ⟨facts1, ro1, lk1, ru1, sz1, rw1, sl1, sr1, pl1, pr1, bl1, br1, a1, a2, a3, a4, a5⟩ := copyFromC k1.1 k2 facts ro locked rules sizes rows sl sr pl pr bl br sl0 sr0 pl0 pr0 bl0 br0 ss0 ps0 bs0
    obtain ⟨s', b1, b2⟩ := copies_eq (n := 258) (by decide) im s
    rw [if_neg h10_, if_neg h10_, a1, b1, Option.bind_some, Option.bind_some, nI_clamp (by decide), b2 4 (by decide), k3.1, k2.1]
    rw [k2.1] at a2
    exact ⟨K, _, facts1, ro1, lk1, ru1, sz1, rw1, sl1, sr1, _, pl1, pr1, _, bl1, br1, _, _, _, _, s', rfl, rfl, k1, a2, MW.copy k1.1.1 (fun r hr => k1.1.len hr) k3 b2, k4.copy a3 a4 a5 b2⟩
end REST
