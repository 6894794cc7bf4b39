/-! B39: a stop comes, in both -/
def six (a b c d e g : Int32) (u : Nat) : Int32 := match u with
  | 0 => a
  | 1 => b
  | 2 => c
  | 3 => d
  | 4 => e
  | _ => g
/-- six numbers that a stop may have -/
def okS (f : Nat → Int32) : Prop := (∀ u, u < 2 → nB 63 (f u)) ∧ ∀ u, u < 6 → nB 999 (f u)
section STOP
variable {E : ES} {facts ro locked rules sizes rows s : Nat → Int32} {sc metric fixed : Int32}
theorem not_in (hB : GB E) {r : Nat} (hr : r < 4) : eN E ∉ eL E r := fun h => Nat.lt_irrefl _ (hB.mem hr _ h)
theorem GI.add (hI : GI E) (hn : eN E < 16) {f : Nat → Int32} (hf : okS f) : GI (eAdd E f) := by
  have hB := hI.1
  refine ⟨⟨hn, hB.2.1, hB.2.2.1, fun q hq u hu => ?_, fun q hq u hu => ?_, fun q hq => ?_, hB.2.2.2.2.2.2.1, fun r hr => ⟨(hB.2.2.2.2.2.2.2.1 r hr).1, fun p hp => Nat.lt_succ_of_lt (hB.mem hr p hp)⟩, hB.2.2.2.2.2.2.2.2⟩, fun r hr => (eH_add hn (not_in hB hr)).mpr (hI.2 r hr)⟩
  · show ∃ x, x ≤ 63 ∧ (if q = eN E then f u else eF E q u) = nI x
    by_cases z : q = eN E
    · rw [if_pos z]
      exact hf.1 u hu
    · rw [if_neg z]
      refine hB.2.2.2.1 q ?_ u hu
      rcases hq with hq | hq
      · have hq' : q < eN E + 1 := hq
        exact Or.inl (by omega)
      · exact Or.inr hq
  · show nB 999 (if q = eN E then f u else eF E q u)
    by_cases z : q = eN E
    · rw [if_pos z]
      exact hf.2 u hu
    · rw [if_neg z]
      have hq' : q < eN E + 1 := hq
      exact hB.2.2.2.2.1 q (by omega) u hu
  · show (if q = eN E then nI 0 else eK E q) = nI 0 ∨ (if q = eN E then nI 0 else eK E q) = nI 1
    by_cases z : q = eN E
    · rw [if_pos z]
      exact Or.inl rfl
    · rw [if_neg z]
      have hq' : q < eN E + 1 := hq
      exact kk hB (by omega)
theorem upd6 (F : Nat → Int32) (m : Nat) (a b c d e g : Int32) : (∀ u, u < 6 → upd (upd (upd (upd (upd (upd F (m + 0) a) (m + 1) b) (m + 2) c) (m + 3) d) (m + 4) e) (m + 5) g (m + u) = six a b c d e g u) ∧ ∀ j, (j < m ∨ m + 6 ≤ j) → upd (upd (upd (upd (upd (upd F (m + 0) a) (m + 1) b) (m + 2) c) (m + 3) d) (m + 4) e) (m + 5) g j = F j := by
  refine ⟨fun u hu => ?_, fun j hj => ?_⟩
  · rcases (show u = 0 ∨ u = 1 ∨ u = 2 ∨ u = 3 ∨ u = 4 ∨ u = 5 by omega) with rfl | rfl | rfl | rfl | rfl | rfl
    · rw [pk_un (by omega), pk_un (by omega), pk_un (by omega), pk_un (by omega), pk_un (by omega), pk_us]
      rfl
    · rw [pk_un (by omega), pk_un (by omega), pk_un (by omega), pk_un (by omega), pk_us]
      rfl
    · rw [pk_un (by omega), pk_un (by omega), pk_un (by omega), pk_us]
      rfl
    · rw [pk_un (by omega), pk_un (by omega), pk_us]
      rfl
    · rw [pk_un (by omega), pk_us]
      rfl
    · rw [pk_us]
      rfl
  · rw [pk_un (by omega), pk_un (by omega), pk_un (by omega), pk_un (by omega), pk_un (by omega), pk_un (by omega)]
theorem addStopC (hB : GB E) (h : CW E facts ro locked rules sizes rows sc metric fixed) (hn : eN E < 16) (x1 x2 x3 x4 x5 x6 : Int32) : ∃ facts' ro' locked', f_X6_addStop facts ro locked sc x1 x2 x3 x4 x5 x6 = some (nI (eN E), facts', ro', locked', nI (eN E + 1)) ∧ CW (eAdd E (six x1 x2 x3 x4 x5 x6)) facts' ro' locked' rules sizes rows (nI (eN E + 1)) metric fixed := by
  obtain ⟨g1, g2⟩ := upd6 facts (6 * eN E) x1 x2 x3 x4 x5 x6
  refine ⟨upd (upd (upd (upd (upd (upd facts (6 * eN E + 0) x1) (6 * eN E + 1) x2) (6 * eN E + 2) x3) (6 * eN E + 3) x4) (6 * eN E + 4) x5) (6 * eN E + 5) x6, upd ro (eN E) (-nI 5), upd locked (eN E) (nI 0), ?_, ⟨rfl, h.2.1, h.2.2.1, ⟨fun q hq u hu => ?_, ?_, ?_⟩, fun q hq => ?_, fun q hq => ?_, h.2.2.2.2.2.2.1, h.2.2.2.2.2.2.2⟩⟩
  · unfold f_X6_addStop
    simp only [lI]
    rw [h.1, if_neg (nI_lt0 (by omega)), if_pos (nI_lt hn (by decide)), setFact_eq (w := 0) facts x1 (by omega), Option.bind_some, setFact_eq (w := 1) _ x2 (by omega), Option.bind_some, setFact_eq (w := 2) _ x3 (by omega), Option.bind_some, setFact_eq (w := 3) _ x4 (by omega), Option.bind_some, setFact_eq (w := 4) _ x5 (by omega), Option.bind_some, setFact_eq (w := 5) _ x6 (by omega), Option.bind_some, gI_n hn (by decide), nI_clamp (by omega), nI_add, nar_b (nI 0) (Or.inl rfl)]
  · have hq' : q < eN E + 1 := hq
    show _ = if q = eN E then six x1 x2 x3 x4 x5 x6 u else eF E q u
    by_cases z : q = eN E
    · rw [if_pos z, z]
      exact g1 u hu
    · rw [if_neg z, g2 _ (by omega)]
      exact h.2.2.2.1.1 q (by omega) u hu
  · show _ = if 16 = eN E then _ else eF E 16 0
    rw [if_neg (by omega), g2 _ (by omega)]
    exact h.2.2.2.1.2.1
  · show _ = if 16 = eN E then _ else eF E 16 1
    rw [if_neg (by omega), g2 _ (by omega)]
    exact h.2.2.2.1.2.2
  · have hq' : q < eN E + 1 := hq
    show upd ro (eN E) (-nI 5) q = rof (eL E) q
    by_cases z : q = eN E
    · rw [z, pk_us, rof_none (fun r hr => not_in hB hr)]
    · rw [pk_un z]
      exact h.2.2.2.2.1 q (by omega)
  · have hq' : q < eN E + 1 := hq
    show upd locked (eN E) (nI 0) q = if q = eN E then nI 0 else eK E q
    by_cases z : q = eN E
    · rw [if_pos z, z, pk_us]
    · rw [if_neg z, pk_un z]
      exact h.2.2.2.2.2.1 q (by omega)
theorem comesM (hB : GB E) (h : MW E s) (hn : eN E < 16) (x1 x2 x3 x4 x5 x6 : Int32) : ∃ s', f_X8_comes s x1 x2 x3 x4 x5 x6 = some s' ∧ MW (eAdd E (six x1 x2 x3 x4 x5 x6)) s' ∧ low s s' := by
  have e4 : (nI 4).toNatClampNeg = 4 := nI_clamp (by decide)
  obtain ⟨g1, g2⟩ := upd6 s (50 + 8 * eN E) x1 x2 x3 x4 x5 x6
  generalize hT : upd (upd (upd (upd (upd (upd s (50 + 8 * eN E + 0) x1) (50 + 8 * eN E + 1) x2) (50 + 8 * eN E + 2) x3) (50 + 8 * eN E + 3) x4) (50 + 8 * eN E + 4) x5) (50 + 8 * eN E + 5) x6 = T at g1 g2
  have hk : ∀ j, j ≠ 4 → upd (upd T (50 + 8 * eN E + 6) (nI 0)) 4 (nI (eN E + 1)) j = upd T (50 + 8 * eN E + 6) (nI 0) j := fun j hj => pk_un hj
  have hk2 : ∀ j, j ≠ 4 → (j < 50 + 8 * eN E ∨ 50 + 8 * eN E + 7 ≤ j) → upd (upd T (50 + 8 * eN E + 6) (nI 0)) 4 (nI (eN E + 1)) j = s j := fun j h1 h2 => by rw [hk j h1, pk_un (by omega), g2 j (by omega)]
  refine ⟨upd (upd T (50 + 8 * eN E + 6) (nI 0)) 4 (nI (eN E + 1)), ?_, ⟨pk_us, by rw [hk2 _ (by omega) (by omega)]; exact h.2.1, by rw [hk2 _ (by omega) (by omega)]; exact h.2.2.1, ⟨fun q hq u hu => ?_, ?_, ?_⟩, fun q hq => ?_, fun r hr u hu => ?_, fun r hr => ?_⟩, fun j h1 h2 => hk2 _ (by omega) (by omega)⟩
  · unfold f_X8_comes
    simp only [lI]
    rw [e4, h.1]
    simp only [pk_mul, nI_add]
    rw [gI_n (by omega) (by decide), gI_n (by omega) (by decide), gI_n (by omega) (by decide), gI_n (by omega) (by decide), gI_n (by omega) (by decide), gI_n (by omega) (by decide), gI_n (by omega) (by decide), nI_clamp (show 50 + 8 * eN E < 2 ^ 31 by omega), nI_clamp (show 50 + 8 * eN E + 1 < 2 ^ 31 by omega), nI_clamp (show 50 + 8 * eN E + 2 < 2 ^ 31 by omega), nI_clamp (show 50 + 8 * eN E + 3 < 2 ^ 31 by omega), nI_clamp (show 50 + 8 * eN E + 4 < 2 ^ 31 by omega), nI_clamp (show 50 + 8 * eN E + 5 < 2 ^ 31 by omega), nI_clamp (show 50 + 8 * eN E + 6 < 2 ^ 31 by omega)]
    have hT' : upd (upd (upd (upd (upd (upd s (50 + 8 * eN E) x1) (50 + 8 * eN E + 1) x2) (50 + 8 * eN E + 2) x3) (50 + 8 * eN E + 3) x4) (50 + 8 * eN E + 4) x5) (50 + 8 * eN E + 5) x6 = T := hT
    rw [hT', pk_un (show 4 ≠ 50 + 8 * eN E + 6 by omega), g2 4 (by omega), h.1, nI_add]
  · have hq' : q < eN E + 1 := hq
    show _ = if q = eN E then six x1 x2 x3 x4 x5 x6 u else eF E q u
    by_cases z : q = eN E
    · rw [if_pos z, hk _ (by omega), pk_un (by omega), z]
      exact g1 u hu
    · rw [if_neg z, hk2 _ (by omega) (by omega)]
      exact h.2.2.2.1.1 q (by omega) u hu
  · show _ = if 16 = eN E then _ else eF E 16 0
    rw [if_neg (by omega), hk2 _ (by omega) (by omega)]
    exact h.2.2.2.1.2.1
  · show _ = if 16 = eN E then _ else eF E 16 1
    rw [if_neg (by omega), hk2 _ (by omega) (by omega)]
    exact h.2.2.2.1.2.2
  · have hq' : q < eN E + 1 := hq
    show _ = if q = eN E then nI 0 else eK E q
    by_cases z : q = eN E
    · rw [if_pos z, hk _ (by omega), z, pk_us]
    · rw [if_neg z, hk2 _ (by omega) (by omega)]
      exact h.2.2.2.2.1 q (by omega)
  · rw [hk2 _ (by omega) (by omega)]
    exact h.2.2.2.2.2.1 r hr u hu
  · have hl := hB.len hr
    refine ⟨?_, fun k hkk => ?_⟩
    · rw [hk2 _ (by omega) (by omega)]
      exact (h.2.2.2.2.2.2 r hr).1
    · have hkk' : k < (eL E r).length := hkk
      rw [hk2 _ (by omega) (by omega)]
      exact (h.2.2.2.2.2.2 r hr).2 k hkk
theorem b55_bad {x1 x2 x3 x4 x5 x6 x7 y0 : Int32} (hc : x7 = nI 0 ∨ y0 = nI 0 ∨ f_X8_isIn x3 (nI 0) (nI 20) = some (nI 0) ∨ f_X8_isIn x6 (nI 0) (nI 30) = some (nI 0)) : b_X7_stop_55 x1 x2 x3 x4 x5 x6 x7 y0 facts ro locked sc = some (-nI 2, facts, ro, locked, sc) := by
  unfold b_X7_stop_55
  simp only [lI]
  rw [topOf_eq (show 2 < 6 by decide), topOf_eq (show 5 < 6 by decide)]
  simp only [Option.bind_some, isUpTo_isIn]
  show (if x7 = nI 0 then _ else if y0 = nI 0 then _ else (f_X8_isIn x3 (nI 0) (nI 20)).bind fun r4 => if r4 = nI 0 then _ else (f_X8_isIn x6 (nI 0) (nI 30)).bind fun r7 => if r7 = nI 0 then _ else _) = _
  by_cases q1 : x7 = nI 0
  · rw [if_pos q1]
  rw [if_neg q1]
  by_cases q2 : y0 = nI 0
  · rw [if_pos q2]
  rw [if_neg q2]
  rcases hc with hc | hc | hc | hc
  · exact absurd hc q1
  · exact absurd hc q2
  · rw [hc, Option.bind_some, if_pos rfl]
  · rcases isIn_eq x3 20 (by decide) with ⟨a, -, -, e⟩ | ⟨-, e⟩
    · rw [e, Option.bind_some, if_neg h10_, hc, Option.bind_some, if_pos rfl]
    · rw [e, Option.bind_some, if_pos rfl]
theorem b23_bad {x1 x2 x3 x4 x5 x6 y0 : Int32} (hc : y0 = nI 0 ∨ f_X8_isIn x5 (nI 0) (nI 999) = some (nI 0) ∨ f_X8_isIn x4 (nI 0) x5 = some (nI 0) ∨ f_X8_isIn x3 (nI 0) (nI 20) = some (nI 0) ∨ f_X8_isIn x6 (nI 0) (nI 30) = some (nI 0)) : b_X7_stop_23 x1 x2 x3 x4 x5 x6 y0 facts ro locked sc = some (-nI 2, facts, ro, locked, sc) := by
  have e01 : ∀ x y : Int32, f_X8_isIn x (nI 0) y = some (nI 0) ∨ f_X8_isIn x (nI 0) y = some (nI 1) := by
    intro x y
    unfold f_X8_isIn
    split
    · exact Or.inl rfl
    · split
      · exact Or.inl rfl
      · exact Or.inr rfl
  have h0 : ∀ y0, b_X7_stop_55 x1 x2 x3 x4 x5 x6 y0 (nI 0) facts ro locked sc = some (-nI 2, facts, ro, locked, sc) := fun y0 => b55_bad (Or.inr (Or.inl rfl))
  unfold b_X7_stop_23 b_X7_stop_54
  simp only [lI]
  rw [topOf_eq (show 4 < 6 by decide), Option.bind_some]
  simp only [isUpTo_isIn, h0]
  show ((f_X8_isIn x5 (nI 0) (nI 999)).bind fun r2 => if r2 = nI 0 then _ else (f_X8_isIn x4 (nI 0) x5).bind fun r4 => if r4 = nI 0 then _ else b_X7_stop_55 x1 x2 x3 x4 x5 x6 y0 (nI 1) facts ro locked sc) = _
  rcases e01 x5 (nI 999) with e | e
  · rw [e, Option.bind_some, if_pos rfl]
  rw [e, Option.bind_some, if_neg h10_]
  rcases e01 x4 x5 with e' | e'
  · rw [e', Option.bind_some, if_pos rfl]
  rw [e', Option.bind_some, if_neg h10_]
  refine b55_bad ?_
  rcases hc with hc | hc | hc | hc | hc
  · exact Or.inl hc
  · rw [e] at hc
    exact absurd (Option.some.inj hc) h10_
  · rw [e'] at hc
    exact absurd (Option.some.inj hc) h10_
  · exact Or.inr (Or.inr (Or.inl hc))
  · exact Or.inr (Or.inr (Or.inr hc))
theorem stop_both (hI : GI E) (h : CW E facts ro locked rules sizes rows sc metric fixed) (hM : MW E s) (x1 x2 x3 x4 x5 x6 : Int32) : ∃ E' v facts' ro' locked' sc' s', f_X7_stop facts ro locked sc x1 x2 x3 x4 x5 x6 = some (v, facts', ro', locked', sc') ∧ f_X8_stop s x1 x2 x3 x4 x5 x6 = some (v, s') ∧ GI E' ∧ CW E' facts' ro' locked' rules sizes rows sc' metric fixed ∧ MW E' s' ∧ low s s' ∧ eN E ≤ eN E' := by
  have hB := hI.1
  have hN := hB.1
  have e4 : (nI 4).toNatClampNeg = 4 := nI_clamp (by decide)
  have bad : ∀ A B, A = some (-nI 2, facts, ro, locked, sc) → B = some (-nI 2, s) → ∃ E' v facts' ro' locked' sc' s', A = some (v, facts', ro', locked', sc') ∧ B = some (v, s') ∧ GI E' ∧ CW E' facts' ro' locked' rules sizes rows sc' metric fixed ∧ MW E' s' ∧ low s s' ∧ eN E ≤ eN E' := fun A B h1 h2 => ⟨E, _, facts, ro, locked, sc, s, h1, h2, hI, h, hM, low.refl s, Nat.le_refl _⟩
  unfold f_X7_stop f_X8_stop b_X7_stop_22
  simp only [lI]
  rw [isTold_eq (show 0 < 6 by decide), isTold_eq (show 1 < 6 by decide), isTold_eq (show 2 < 6 by decide), isTold_eq (show 3 < 6 by decide), isTold_eq (show 4 < 6 by decide), isTold_eq (show 5 < 6 by decide), e4]
  simp only [isUpTo_isIn]
  show ∃ E' v facts' ro' locked' sc' s', _ = _ ∧ ((f_X8_isIn x1 (nI 0) (nI 63)).bind fun r1 => if r1 = nI 0 then some (-nI 2, s) else (f_X8_isIn x2 (nI 0) (nI 63)).bind fun r3 => if r3 = nI 0 then some (-nI 2, s) else (f_X8_isIn x3 (nI 0) (nI 20)).bind fun r5 => if r5 = nI 0 then some (-nI 2, s) else (f_X8_isIn x4 (nI 0) (nI 999)).bind fun r7 => if r7 = nI 0 then some (-nI 2, s) else (f_X8_isIn x5 (nI 0) (nI 999)).bind fun r9 => if r9 = nI 0 then some (-nI 2, s) else if x5 < x4 then some (-nI 2, s) else (f_X8_isIn x6 (nI 0) (nI 30)).bind fun r12 => if r12 = nI 0 then some (-nI 2, s) else if s 4 = nI 16 then some (-nI 4, s) else (f_X8_comes s x1 x2 x3 x4 x5 x6).bind fun o15 => some (o15 4 - nI 1, o15)) = _ ∧ _
  rcases isIn_eq x1 63 (by decide) with ⟨a1, ha1, rfl, c1⟩ | ⟨-, c1⟩
  rotate_left
  · rw [c1, Option.bind_some, Option.bind_some, if_pos rfl, if_pos rfl]
    exact bad _ _ (b23_bad (Or.inl rfl)) rfl
  rw [c1, Option.bind_some, Option.bind_some, if_neg h10_, if_neg h10_]
  rcases isIn_eq x2 63 (by decide) with ⟨a2, ha2, rfl, c2⟩ | ⟨-, c2⟩
  rotate_left
  · rw [c2, Option.bind_some, Option.bind_some, if_pos rfl, if_pos rfl]
    exact bad _ _ (b23_bad (Or.inl rfl)) rfl
  rw [c2, Option.bind_some, Option.bind_some, if_neg h10_, if_neg h10_]
  rcases isIn_eq x3 20 (by decide) with ⟨a3, ha3, rfl, c3⟩ | ⟨-, c3⟩
  rotate_left
  · rw [c3, Option.bind_some, if_pos rfl]
    exact bad _ _ (b23_bad (Or.inr (Or.inr (Or.inr (Or.inl c3))))) rfl
  rw [c3, Option.bind_some, if_neg h10_]
  rcases isIn_eq x5 999 (by decide) with ⟨a5, ha5, rfl, c5⟩ | ⟨hx5, c5⟩
  rotate_left
  · refine bad _ _ (b23_bad (Or.inr (Or.inl c5))) ?_
    rcases isIn_eq x4 999 (by decide) with ⟨a4, ha4, rfl, c4⟩ | ⟨-, c4⟩
    · rw [c4, Option.bind_some, if_neg h10_, c5, Option.bind_some, if_pos rfl]
    · rw [c4, Option.bind_some, if_pos rfl]
  rcases isIn_eq x4 999 (by decide) with ⟨a4, ha4, rfl, c4⟩ | ⟨hx4, c4⟩
  rotate_left
  · rw [c4, Option.bind_some, if_pos rfl]
    refine bad _ _ (b23_bad (Or.inr (Or.inr (Or.inl ?_)))) rfl
    unfold f_X8_isIn
    rcases hx4 with hx4 | hx4
    · rw [if_pos (show x4 < nI 0 from hx4)]
      rfl
    · by_cases z : x4 < nI 0
      · rw [if_pos z]; rfl
      · rw [if_neg z, if_pos (Int32.lt_of_le_of_lt (nI_le ha5 (by decide)) hx4)]; rfl
  rw [c4, Option.bind_some, if_neg h10_, c5, Option.bind_some, if_neg h10_]
  by_cases q : a4 ≤ a5
  rotate_left
  · rw [if_pos (nI_lt (by omega) (by omega))]
    refine bad _ _ (b23_bad (Or.inr (Or.inr (Or.inl ?_)))) rfl
    unfold f_X8_isIn
    rw [if_neg (nI_lt0 (by omega)), if_pos (nI_lt (by omega) (by omega))]
    rfl
  rw [if_neg (nI_nlt q (by omega))]
  rcases isIn_eq x6 30 (by decide) with ⟨a6, ha6, rfl, c6⟩ | ⟨-, c6⟩
  rotate_left
  · rw [c6, Option.bind_some, if_pos rfl]
    exact bad _ _ (b23_bad (Or.inr (Or.inr (Or.inr (Or.inr c6))))) rfl
  rw [c6, Option.bind_some, if_neg h10_]
  have c45 : f_X8_isIn (nI a4) (nI 0) (nI a5) = some (nI 1) := by
    unfold f_X8_isIn
    rw [if_neg (nI_lt0 (by omega)), if_neg (nI_nlt q (by omega))]
    rfl
  have hb : b_X7_stop_23 (nI a1) (nI a2) (nI a3) (nI a4) (nI a5) (nI a6) (nI 1) facts ro locked sc = if nI 16 ≤ sc then some (-nI 4, facts, ro, locked, sc) else (f_X6_addStop facts ro locked sc (nI a1) (nI a2) (nI a3) (nI a4) (nI a5) (nI a6)).bind fun q => some q := by
    unfold b_X7_stop_23 b_X7_stop_55
    simp only [lI]
    rw [topOf_eq (show 4 < 6 by decide), topOf_eq (show 2 < 6 by decide), topOf_eq (show 5 < 6 by decide)]
    simp only [Option.bind_some, isUpTo_isIn]
    rw [show f_X8_isIn (nI a5) (nI 0) (nI (top6 4)) = some (nI 1) from c5, Option.bind_some, if_neg h10_, c45, Option.bind_some, if_neg h10_, if_neg h10_, if_neg h10_, show f_X8_isIn (nI a3) (nI 0) (nI (top6 2)) = some (nI 1) from c3, Option.bind_some, if_neg h10_, show f_X8_isIn (nI a6) (nI 0) (nI (top6 5)) = some (nI 1) from c6, Option.bind_some, if_neg h10_]
  rw [hb, h.1, hM.1]
  by_cases hn : eN E = 16
  · rw [hn, if_pos (Int32.le_refl _), if_pos rfl]
    rw [← hn, ← h.1]
    exact ⟨E, _, facts, ro, locked, sc, s, rfl, rfl, hI, h, hM, low.refl s, Nat.le_refl _⟩
  · have hn16 : eN E < 16 := by omega
    obtain ⟨facts', ro', locked', k1, k2⟩ := addStopC hB h hn16 (nI a1) (nI a2) (nI a3) (nI a4) (nI a5) (nI a6)
    obtain ⟨s', j1, j2, j3⟩ := comesM hB hM hn16 (nI a1) (nI a2) (nI a3) (nI a4) (nI a5) (nI a6)
    have hok : okS (six (nI a1) (nI a2) (nI a3) (nI a4) (nI a5) (nI a6)) := by
      refine ⟨fun u hu => ?_, fun u hu => ?_⟩
      · rcases (show u = 0 ∨ u = 1 by omega) with rfl | rfl
        · exact ⟨a1, ha1, rfl⟩
        · exact ⟨a2, ha2, rfl⟩
      · rcases (show u = 0 ∨ u = 1 ∨ u = 2 ∨ u = 3 ∨ u = 4 ∨ u = 5 by omega) with rfl | rfl | rfl | rfl | rfl | rfl
        · exact ⟨a1, by omega, rfl⟩
        · exact ⟨a2, by omega, rfl⟩
        · exact ⟨a3, by omega, rfl⟩
        · exact ⟨a4, by omega, rfl⟩
        · exact ⟨a5, by omega, rfl⟩
        · exact ⟨a6, by omega, rfl⟩
    rw [h.1] at k1
    have hs4 : s' 4 = nI (eN E + 1) := j2.1
    rw [if_neg (nI_ge hn16 (by decide)), if_neg (by rw [nI_eq (by omega) (by decide)]; exact hn), k1, j1, Option.bind_some, Option.bind_some, hs4, nI_sub1 (by omega), Nat.add_sub_cancel]
    exact ⟨_, _, facts', ro', locked', _, s', rfl, rfl, hI.add hn16 hok, k2, j2, j3, Nat.le_succ _⟩
end STOP
