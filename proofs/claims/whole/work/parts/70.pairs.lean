/-! B43: rows told by hand: see, plan, book, looked, count -/
def PRs (b0 c0 m : Nat) (l r : Nat → Int32) (sz : Int32) (s : Nat → Int32) : Prop := ∃ a, a ≤ m ∧ sz = nI a ∧ s c0 = nI a ∧ ∀ i, i < a → s (b0 + 2 * i) = l i ∧ s (b0 + 2 * i + 1) = r i
def SnO (n : Nat) (sl : Nat → Int32) (ss : Int32) : Prop := ∀ i, i < 8 → nI i < ss → ∃ p, p < n ∧ sl i = nI p
def PlO (n : Nat) (pl pr : Nat → Int32) (ps : Int32) : Prop := ∀ i, i < 8 → nI i < ps → ∃ w, w ≤ 3 ∧ pl i = nI w ∧ (w = 2 → ∃ p, p < n ∧ pr i = nI p) ∧ (w = 3 → ∃ x, x ≤ 99 ∧ pr i = nI x)
def BkO (bl : Nat → Int32) (bs : Int32) : Prop := ∀ i, i < 8 → nI i < bs → ∃ r, r < 4 ∧ bl i = nI r
/-- the three rows, in both -/
def PS (n : Nat) (sl sr : Nat → Int32) (ss : Int32) (pl pr : Nat → Int32) (ps : Int32) (bl br : Nat → Int32) (bs : Int32) (s : Nat → Int32) : Prop := PRs 8 5 5 sl sr ss s ∧ PRs 18 6 8 pl pr ps s ∧ PRs 34 7 8 bl br bs s ∧ SnO n sl ss ∧ PlO n pl pr ps ∧ BkO bl bs
theorem PRs.agree {b0 c0 m : Nat} {l r s s' : Nat → Int32} {sz : Int32} (h : PRs b0 c0 m l r sz s) (h1 : s' c0 = s c0) (h2 : ∀ j, b0 ≤ j → j < b0 + 2 * m → s' j = s j) : PRs b0 c0 m l r sz s' := by
  obtain ⟨a, ha, e1, e2, e3⟩ := h
  refine ⟨a, ha, e1, by rw [h1, e2], fun i hi => ?_⟩
  rw [h2 _ (by omega) (by omega), h2 _ (by omega) (by omega)]
  exact e3 i hi
theorem PS.low {n n' : Nat} {sl sr pl pr bl br s s' : Nat → Int32} {ss ps bs : Int32} (h : PS n sl sr ss pl pr ps bl br bs s) (hl : low s s') (hn : n ≤ n') : PS n' sl sr ss pl pr ps bl br bs s' := by
  obtain ⟨h1, h2, h3, h4, h5, h6⟩ := h
  refine ⟨h1.agree (hl 5 (by omega) (by omega)) (fun j a b => hl j (by omega) (by omega)), h2.agree (hl 6 (by omega) (by omega)) (fun j a b => hl j (by omega) (by omega)), h3.agree (hl 7 (by omega) (by omega)) (fun j a b => hl j (by omega) (by omega)), fun i a b => ?_, fun i a b => ?_, h6⟩
  · obtain ⟨p, hp, e⟩ := h4 i a b
    exact ⟨p, by omega, e⟩
  · obtain ⟨w, hw, e, g1, g2⟩ := h5 i a b
    refine ⟨w, hw, e, fun z => ?_, g2⟩
    obtain ⟨p, hp, e2⟩ := g1 z
    exact ⟨p, by omega, e2⟩
theorem MW.mid {E : ES} {s s' : Nat → Int32} (hN : eN E ≤ 16) (h : MW E s) (h1 : ∀ j, (j < 5 ∨ 50 ≤ j) → s' j = s j) : MW E s' := by
  refine ⟨by rw [h1 _ (by omega)]; exact h.1, by rw [h1 _ (by omega)]; exact h.2.1, by rw [h1 _ (by omega)]; exact h.2.2.1, ⟨fun q hq u hu => by rw [h1 _ (by omega)]; exact h.2.2.2.1.1 q hq u hu, by rw [h1 _ (by omega)]; exact h.2.2.2.1.2.1, by rw [h1 _ (by omega)]; exact h.2.2.2.1.2.2⟩, fun q hq => by rw [h1 _ (by omega)]; exact h.2.2.2.2.1 q hq, fun r hr w hw => by rw [h1 _ (by omega)]; exact h.2.2.2.2.2.1 r hr w hw, fun r hr => ⟨by rw [h1 _ (by omega)]; exact (h.2.2.2.2.2.2 r hr).1, fun k hk => by rw [h1 _ (by omega)]; exact (h.2.2.2.2.2.2 r hr).2 k hk⟩⟩
def pushS (b0 c0 a : Nat) (x y : Int32) (s : Nat → Int32) : Nat → Int32 := upd (upd (upd s (b0 + 2 * a) x) (b0 + 2 * a + 1) y) c0 (nI (a + 1))
theorem pushS_off {b0 c0 a j : Nat} {x y : Int32} {s : Nat → Int32} (h1 : j ≠ c0) (h2 : j ≠ b0 + 2 * a) (h3 : j ≠ b0 + 2 * a + 1) : pushS b0 c0 a x y s j = s j := by
  unfold pushS
  rw [pk_un h1, pk_un h3, pk_un h2]
theorem PRs.push {b0 c0 m a : Nat} {l r s : Nat → Int32} {sz : Int32} (h : PRs b0 c0 m l r sz s) (hc : c0 < b0) (ea : sz = nI a) (ha : a < m) (hm : m ≤ 8) (x y : Int32) : PRs b0 c0 m (upd l a x) (upd r a y) (nI (a + 1)) (pushS b0 c0 a x y s) := by
  obtain ⟨b, hb, e1, e2, e3⟩ := h
  have hab : a = b := nI_inj (by omega) (by omega) (ea.symm.trans e1)
  subst hab
  refine ⟨a + 1, by omega, rfl, pk_us, fun i hi => ?_⟩
  by_cases q : i = a
  · subst q
    rw [pk_us, pk_us]
    unfold pushS
    exact ⟨by rw [pk_un (by omega), pk_un (by omega), pk_us], by rw [pk_un (by omega), pk_us]⟩
  · rw [pk_un q, pk_un q, pushS_off (by omega) (by omega) (by omega), pushS_off (by omega) (by omega) (by omega)]
    exact e3 i (by omega)
theorem appendC (l r : Nat → Int32) {a : Nat} (ha : a < 8) (x y : Int32) : f_X3_append l r (nI a) x y = some (nI (a + 1), upd l a x, upd r a y, nI (a + 1)) := by
  unfold f_X3_append
  simp only [lI, nI_add]
  rw [chk_in ha (by decide), nI_clamp (by omega)]
theorem push_see {s : Nat → Int32} {a : Nat} (ha : a < 8) (hs : s 5 = nI a) (x1 x2 : Int32) : (gI (nI 8 + nI 2 * s (nI 5).toNatClampNeg) 258 (gI (nI 8 + nI 2 * upd s (nI 8 + nI 2 * s (nI 5).toNatClampNeg).toNatClampNeg x1 (nI 5).toNatClampNeg + nI 1) 258 (some (upd (upd (upd s (nI 8 + nI 2 * s (nI 5).toNatClampNeg).toNatClampNeg x1) (nI 8 + nI 2 * upd s (nI 8 + nI 2 * s (nI 5).toNatClampNeg).toNatClampNeg x1 (nI 5).toNatClampNeg + nI 1).toNatClampNeg x2) (nI 5).toNatClampNeg (upd (upd s (nI 8 + nI 2 * s (nI 5).toNatClampNeg).toNatClampNeg x1) (nI 8 + nI 2 * upd s (nI 8 + nI 2 * s (nI 5).toNatClampNeg).toNatClampNeg x1 (nI 5).toNatClampNeg + nI 1).toNatClampNeg x2 (nI 5).toNatClampNeg + nI 1) (nI 5).toNatClampNeg, upd (upd (upd s (nI 8 + nI 2 * s (nI 5).toNatClampNeg).toNatClampNeg x1) (nI 8 + nI 2 * upd s (nI 8 + nI 2 * s (nI 5).toNatClampNeg).toNatClampNeg x1 (nI 5).toNatClampNeg + nI 1).toNatClampNeg x2) (nI 5).toNatClampNeg (upd (upd s (nI 8 + nI 2 * s (nI 5).toNatClampNeg).toNatClampNeg x1) (nI 8 + nI 2 * upd s (nI 8 + nI 2 * s (nI 5).toNatClampNeg).toNatClampNeg x1 (nI 5).toNatClampNeg + nI 1).toNatClampNeg x2 (nI 5).toNatClampNeg + nI 1))))) = some (nI (a + 1), pushS 8 5 a x1 x2 s) := by
  have e5 : (nI 5).toNatClampNeg = 5 := nI_clamp (by decide)
  have c1 : (nI (8 + 2 * a)).toNatClampNeg = 8 + 2 * a := nI_clamp (by omega)
  have c2 : (nI (8 + 2 * a + 1)).toNatClampNeg = 8 + 2 * a + 1 := nI_clamp (by omega)
  rw [e5, hs, pk_mul, nI_add, c1, pk_un (show 5 ≠ 8 + 2 * a by omega), hs, pk_mul, nI_add, nI_add, c2, pk_un (show 5 ≠ 8 + 2 * a + 1 by omega), pk_un (show 5 ≠ 8 + 2 * a by omega), hs, nI_add, pk_us, gI_n (by omega) (by decide), gI_n (by omega) (by decide)]
  rfl
theorem push_plan {s : Nat → Int32} {a : Nat} (ha : a < 8) (hs : s 6 = nI a) (x1 x2 : Int32) : (gI (nI 18 + nI 2 * s (nI 6).toNatClampNeg) 258 (gI (nI 18 + nI 2 * upd s (nI 18 + nI 2 * s (nI 6).toNatClampNeg).toNatClampNeg x1 (nI 6).toNatClampNeg + nI 1) 258 (some (upd (upd (upd s (nI 18 + nI 2 * s (nI 6).toNatClampNeg).toNatClampNeg x1) (nI 18 + nI 2 * upd s (nI 18 + nI 2 * s (nI 6).toNatClampNeg).toNatClampNeg x1 (nI 6).toNatClampNeg + nI 1).toNatClampNeg x2) (nI 6).toNatClampNeg (upd (upd s (nI 18 + nI 2 * s (nI 6).toNatClampNeg).toNatClampNeg x1) (nI 18 + nI 2 * upd s (nI 18 + nI 2 * s (nI 6).toNatClampNeg).toNatClampNeg x1 (nI 6).toNatClampNeg + nI 1).toNatClampNeg x2 (nI 6).toNatClampNeg + nI 1) (nI 6).toNatClampNeg, upd (upd (upd s (nI 18 + nI 2 * s (nI 6).toNatClampNeg).toNatClampNeg x1) (nI 18 + nI 2 * upd s (nI 18 + nI 2 * s (nI 6).toNatClampNeg).toNatClampNeg x1 (nI 6).toNatClampNeg + nI 1).toNatClampNeg x2) (nI 6).toNatClampNeg (upd (upd s (nI 18 + nI 2 * s (nI 6).toNatClampNeg).toNatClampNeg x1) (nI 18 + nI 2 * upd s (nI 18 + nI 2 * s (nI 6).toNatClampNeg).toNatClampNeg x1 (nI 6).toNatClampNeg + nI 1).toNatClampNeg x2 (nI 6).toNatClampNeg + nI 1))))) = some (nI (a + 1), pushS 18 6 a x1 x2 s) := by
  have e5 : (nI 6).toNatClampNeg = 6 := nI_clamp (by decide)
  have c1 : (nI (18 + 2 * a)).toNatClampNeg = 18 + 2 * a := nI_clamp (by omega)
  have c2 : (nI (18 + 2 * a + 1)).toNatClampNeg = 18 + 2 * a + 1 := nI_clamp (by omega)
  rw [e5, hs, pk_mul, nI_add, c1, pk_un (show 6 ≠ 18 + 2 * a by omega), hs, pk_mul, nI_add, nI_add, c2, pk_un (show 6 ≠ 18 + 2 * a + 1 by omega), pk_un (show 6 ≠ 18 + 2 * a by omega), hs, nI_add, pk_us, gI_n (by omega) (by decide), gI_n (by omega) (by decide)]
  rfl
theorem push_book {s : Nat → Int32} {a : Nat} (ha : a < 8) (hs : s 7 = nI a) (x1 x2 : Int32) : (gI (nI 34 + nI 2 * s (nI 7).toNatClampNeg) 258 (gI (nI 34 + nI 2 * upd s (nI 34 + nI 2 * s (nI 7).toNatClampNeg).toNatClampNeg x1 (nI 7).toNatClampNeg + nI 1) 258 (some (upd (upd (upd s (nI 34 + nI 2 * s (nI 7).toNatClampNeg).toNatClampNeg x1) (nI 34 + nI 2 * upd s (nI 34 + nI 2 * s (nI 7).toNatClampNeg).toNatClampNeg x1 (nI 7).toNatClampNeg + nI 1).toNatClampNeg x2) (nI 7).toNatClampNeg (upd (upd s (nI 34 + nI 2 * s (nI 7).toNatClampNeg).toNatClampNeg x1) (nI 34 + nI 2 * upd s (nI 34 + nI 2 * s (nI 7).toNatClampNeg).toNatClampNeg x1 (nI 7).toNatClampNeg + nI 1).toNatClampNeg x2 (nI 7).toNatClampNeg + nI 1) (nI 7).toNatClampNeg, upd (upd (upd s (nI 34 + nI 2 * s (nI 7).toNatClampNeg).toNatClampNeg x1) (nI 34 + nI 2 * upd s (nI 34 + nI 2 * s (nI 7).toNatClampNeg).toNatClampNeg x1 (nI 7).toNatClampNeg + nI 1).toNatClampNeg x2) (nI 7).toNatClampNeg (upd (upd s (nI 34 + nI 2 * s (nI 7).toNatClampNeg).toNatClampNeg x1) (nI 34 + nI 2 * upd s (nI 34 + nI 2 * s (nI 7).toNatClampNeg).toNatClampNeg x1 (nI 7).toNatClampNeg + nI 1).toNatClampNeg x2 (nI 7).toNatClampNeg + nI 1))))) = some (nI (a + 1), pushS 34 7 a x1 x2 s) := by
  have e5 : (nI 7).toNatClampNeg = 7 := nI_clamp (by decide)
  have c1 : (nI (34 + 2 * a)).toNatClampNeg = 34 + 2 * a := nI_clamp (by omega)
  have c2 : (nI (34 + 2 * a + 1)).toNatClampNeg = 34 + 2 * a + 1 := nI_clamp (by omega)
  rw [e5, hs, pk_mul, nI_add, c1, pk_un (show 7 ≠ 34 + 2 * a by omega), hs, pk_mul, nI_add, nI_add, c2, pk_un (show 7 ≠ 34 + 2 * a + 1 by omega), pk_un (show 7 ≠ 34 + 2 * a by omega), hs, nI_add, pk_us, gI_n (by omega) (by decide), gI_n (by omega) (by decide)]
  rfl
section PAIRS
variable {E : ES} {facts ro locked rules sizes rows s sl sr pl pr bl br : Nat → Int32} {sc metric fixed ss ps bs : Int32}
theorem see_both (hN : eN E ≤ 16) (hsc : sc = nI (eN E)) (hM : MW E s) (hP : PS (eN E) sl sr ss pl pr ps bl br bs s) (x1 x2 : Int32) : ∃ v sl' sr' ss' s', f_X7_see sl sr ss sc x1 x2 = some (v, sl', sr', ss') ∧ f_X8_see s x1 x2 = some (v, s') ∧ MW E s' ∧ PS (eN E) sl' sr' ss' pl pr ps bl br bs s' := by
  obtain ⟨h1, h2, h3, h4, h5, h6⟩ := hP
  obtain ⟨a, ha, e1, e2, e3⟩ := h1
  have h1 : PRs 8 5 5 sl sr ss s := ⟨a, ha, e1, e2, e3⟩
  have e5 : (nI 5).toNatClampNeg = 5 := nI_clamp (by decide)
  unfold f_X7_see f_X8_see f_X3_empty
  simp only [lI]
  by_cases q1 : x1 = -nI 1
  · rw [if_pos q1, if_pos q1, Option.bind_some, e5]
    refine ⟨_, sl, sr, _, _, rfl, rfl, hM.mid hN (fun j hj => pk_un (by omega)), ⟨0, by omega, rfl, pk_us, fun i hi => absurd hi (Nat.not_lt_zero i)⟩, h2.agree (pk_un (by decide)) (fun j c d => pk_un (by omega)), h3.agree (pk_un (by decide)) (fun j c d => pk_un (by omega)), fun i hi hlt => absurd hlt (nI_nlt (Nat.zero_le i) (by omega)), h5, h6⟩
  rw [if_neg q1, if_neg q1]
  rcases stopX (s := s) hN hsc hM.1 x1 with ⟨p, hp, rfl, c1, c2⟩ | ⟨c1, c2⟩
  rotate_left
  · rw [c1, c2, Option.bind_some, Option.bind_some, if_pos rfl, if_pos rfl]
    exact ⟨_, sl, sr, ss, s, rfl, rfl, hM, h1, h2, h3, h4, h5, h6⟩
  rw [c1, c2, Option.bind_some, Option.bind_some, if_neg h10_, if_neg h10_, isUpTo_isIn]
  rcases isIn_eq x2 1999 (by decide) with ⟨m, hm, rfl, c3⟩ | ⟨-, c3⟩
  rotate_left
  · rw [c3, Option.bind_some, Option.bind_some, if_pos rfl, if_pos rfl]
    exact ⟨_, sl, sr, ss, s, rfl, rfl, hM, h1, h2, h3, h4, h5, h6⟩
  rw [c3, Option.bind_some, Option.bind_some, if_neg h10_, if_neg h10_]
  by_cases q2 : a = 5
  · rw [if_pos (by rw [e1, q2]; exact Int32.le_refl _), if_pos (by rw [e5, e2, q2])]
    exact ⟨_, sl, sr, ss, s, rfl, rfl, hM, h1, h2, h3, h4, h5, h6⟩
  rw [if_neg (by rw [e1]; exact nI_ge (by omega) (by decide)), if_neg (by rw [e5, e2, nI_eq (by omega) (by decide)]; exact q2), push_see (by omega) e2, e1, appendC sl sr (show a < 8 by omega), Option.bind_some]
  refine ⟨nI (a + 1), upd sl a (nI p), upd sr a (nI m), nI (a + 1), _, rfl, rfl, hM.mid hN (fun j hj => pushS_off (by omega) (by omega) (by omega)), h1.push (by decide) e1 (by omega) (by decide) _ _, h2.agree (pushS_off (by omega) (by omega) (by omega)) (fun j c d => pushS_off (by omega) (by omega) (by omega)), h3.agree (pushS_off (by omega) (by omega) (by omega)) (fun j c d => pushS_off (by omega) (by omega) (by omega)), fun i hi hlt => ?_, h5, h6⟩
  by_cases q : i = a
  · rw [q, pk_us]
    exact ⟨p, hp, rfl⟩
  · rw [pk_un q]
    refine h4 i hi ?_
    rw [e1]
    rcases Nat.lt_or_ge i (a + 1) with z | z
    · exact nI_lt (by omega) (by omega)
    · exact absurd hlt (nI_nlt z (by omega))
theorem plan_both (hN : eN E ≤ 16) (hsc : sc = nI (eN E)) (hM : MW E s) (hP : PS (eN E) sl sr ss pl pr ps bl br bs s) (x1 x2 : Int32) : ∃ v pl' pr' ps' s', f_X7_plan pl pr ps sc x1 x2 = some (v, pl', pr', ps') ∧ f_X8_plan s x1 x2 = some (v, s') ∧ MW E s' ∧ PS (eN E) sl sr ss pl' pr' ps' bl br bs s' := by
  obtain ⟨h1, h2, h3, h4, h5, h6⟩ := hP
  obtain ⟨a, ha, e1, e2, e3⟩ := h2
  have h2 : PRs 18 6 8 pl pr ps s := ⟨a, ha, e1, e2, e3⟩
  have e5 : (nI 6).toNatClampNeg = 6 := nI_clamp (by decide)
  have stay : ∀ (A : Option (Int32 × (Nat → Int32) × (Nat → Int32) × Int32)) (B : Option (Int32 × (Nat → Int32))) (v : Int32), A = some (v, pl, pr, ps) → B = some (v, s) → ∃ v pl' pr' ps' s', A = some (v, pl', pr', ps') ∧ B = some (v, s') ∧ MW E s' ∧ PS (eN E) sl sr ss pl' pr' ps' bl br bs s' := fun A B v g1 g2 => ⟨v, pl, pr, ps, s, g1, g2, hM, h1, h2, h3, h4, h5, h6⟩
  unfold f_X7_plan f_X8_plan f_X3_empty
  simp only [lI]
  by_cases q1 : x1 = -nI 1
  · rw [if_pos q1, if_pos q1, Option.bind_some, e5]
    refine ⟨_, pl, pr, _, _, rfl, rfl, hM.mid hN (fun j hj => pk_un (by omega)), h1.agree (pk_un (by decide)) (fun j c d => pk_un (by omega)), ⟨0, by omega, rfl, pk_us, fun i hi => absurd hi (Nat.not_lt_zero i)⟩, h3.agree (pk_un (by decide)) (fun j c d => pk_un (by omega)), h4, fun i hi hlt => absurd hlt (nI_nlt (Nat.zero_le i) (by omega)), h6⟩
  rw [if_neg q1, if_neg q1, isUpTo_isIn]
  rcases isIn_eq x1 3 (by decide) with ⟨n, hn, rfl, c3⟩ | ⟨-, c3⟩
  rotate_left
  · rw [c3, Option.bind_some, Option.bind_some, if_pos rfl, if_pos rfl]
    exact stay _ _ _ rfl rfl
  rw [c3, Option.bind_some, Option.bind_some, if_neg h10_, if_neg h10_]
  have h59 : ((n = 2 → ∃ p, p < eN E ∧ x2 = nI p) ∧ (n = 3 → ∃ x, x ≤ 99 ∧ x2 = nI x)) → ∃ v pl' pr' ps' s', b_X7_plan_59 (nI n) x2 pl pr ps = some (v, pl', pr', ps') ∧ b_X8_plan_57 (nI n) x2 s = some (v, s') ∧ MW E s' ∧ PS (eN E) sl sr ss pl' pr' ps' bl br bs s' := by
    intro hok
    unfold b_X7_plan_59 b_X8_plan_57
    simp only [lI]
    by_cases q2 : a = 8
    · rw [if_pos (by rw [e1, q2]; exact Int32.le_refl _), if_pos (by rw [e5, e2, q2])]
      exact stay _ _ _ rfl rfl
    rw [if_neg (by rw [e1]; exact nI_ge (by omega) (by decide)), if_neg (by rw [e5, e2, nI_eq (by omega) (by decide)]; exact q2), push_plan (by omega) e2, e1, appendC pl pr (show a < 8 by omega), Option.bind_some]
    refine ⟨nI (a + 1), upd pl a (nI n), upd pr a x2, nI (a + 1), _, rfl, rfl, hM.mid hN (fun j hj => pushS_off (by omega) (by omega) (by omega)), h1.agree (pushS_off (by omega) (by omega) (by omega)) (fun j c d => pushS_off (by omega) (by omega) (by omega)), h2.push (by decide) e1 (by omega) (by decide) _ _, h3.agree (pushS_off (by omega) (by omega) (by omega)) (fun j c d => pushS_off (by omega) (by omega) (by omega)), h4, fun i hi hlt => ?_, h6⟩
    by_cases q : i = a
    · rw [q, pk_us, pk_us]
      exact ⟨n, hn, rfl, hok.1, hok.2⟩
    · rw [pk_un q, pk_un q]
      refine h5 i hi ?_
      rw [e1]
      rcases Nat.lt_or_ge i (a + 1) with z | z
      · exact nI_lt (by omega) (by omega)
      · exact absurd hlt (nI_nlt z (by omega))
  have h42 : (n = 2 → ∃ p, p < eN E ∧ x2 = nI p) → ∃ v pl' pr' ps' s', b_X7_plan_42 (nI n) x2 pl pr ps = some (v, pl', pr', ps') ∧ b_X8_plan_39 (nI n) x2 s = some (v, s') ∧ MW E s' ∧ PS (eN E) sl sr ss pl' pr' ps' bl br bs s' := by
    intro hok
    unfold b_X7_plan_42 b_X8_plan_39
    simp only [lI]
    by_cases q3 : n = 3
    · rw [if_pos (congrArg nI q3), if_pos (congrArg nI q3), isUpTo_isIn]
      rcases isIn_eq x2 99 (by decide) with ⟨m, hm, rfl, c4⟩ | ⟨-, c4⟩
      · rw [c4, Option.bind_some, Option.bind_some, if_neg h10_, if_neg h10_]
        exact h59 ⟨hok, fun _ => ⟨m, hm, rfl⟩⟩
      · rw [c4, Option.bind_some, Option.bind_some, if_pos rfl, if_pos rfl]
        exact stay _ _ _ rfl rfl
    · have q4 : ¬ nI n = nI 3 := by rw [nI_eq (by omega) (by decide)]; exact q3
      rw [if_neg q4, if_neg q4]
      exact h59 ⟨hok, fun z => absurd z q3⟩
  by_cases q2 : n = 2
  · rw [if_pos (congrArg nI q2), if_pos (congrArg nI q2)]
    rcases stopX (s := s) hN hsc hM.1 x2 with ⟨p, hp, rfl, c1, c2⟩ | ⟨c1, c2⟩
    · rw [c1, c2, Option.bind_some, Option.bind_some, if_neg h10_, if_neg h10_]
      exact h42 (fun _ => ⟨p, hp, rfl⟩)
    · rw [c1, c2, Option.bind_some, Option.bind_some, if_pos rfl, if_pos rfl]
      exact stay _ _ _ rfl rfl
  · have q4 : ¬ nI n = nI 2 := by rw [nI_eq (by omega) (by decide)]; exact q2
    rw [if_neg q4, if_neg q4]
    exact h42 (fun z => absurd z q2)
theorem book_both (hN : eN E ≤ 16) (hM : MW E s) (hP : PS (eN E) sl sr ss pl pr ps bl br bs s) (x1 x2 : Int32) : ∃ v bl' br' bs' s', f_X7_book bl br bs x1 x2 = some (v, bl', br', bs') ∧ f_X8_book s x1 x2 = some (v, s') ∧ MW E s' ∧ PS (eN E) sl sr ss pl pr ps bl' br' bs' s' := by
  obtain ⟨h1, h2, h3, h4, h5, h6⟩ := hP
  obtain ⟨a, ha, e1, e2, e3⟩ := h3
  have h3 : PRs 34 7 8 bl br bs s := ⟨a, ha, e1, e2, e3⟩
  have e5 : (nI 7).toNatClampNeg = 7 := nI_clamp (by decide)
  unfold f_X7_book f_X8_book f_X3_empty
  simp only [lI]
  by_cases q1 : x1 = -nI 1
  · rw [if_pos q1, if_pos q1, Option.bind_some, e5]
    refine ⟨_, bl, br, _, _, rfl, rfl, hM.mid hN (fun j hj => pk_un (by omega)), h1.agree (pk_un (by decide)) (fun j c d => pk_un (by omega)), h2.agree (pk_un (by decide)) (fun j c d => pk_un (by omega)), ⟨0, by omega, rfl, pk_us, fun i hi => absurd hi (Nat.not_lt_zero i)⟩, h4, h5, fun i hi hlt => absurd hlt (nI_nlt (Nat.zero_le i) (by omega))⟩
  rw [if_neg q1, if_neg q1]
  rcases roundX x1 with ⟨r, hr, rfl, c1, c2⟩ | ⟨c1, c2⟩
  rotate_left
  · rw [c1, c2, Option.bind_some, Option.bind_some, if_pos rfl, if_pos rfl]
    exact ⟨_, bl, br, bs, s, rfl, rfl, hM, h1, h2, h3, h4, h5, h6⟩
  rw [c1, c2, Option.bind_some, Option.bind_some, if_neg h10_, if_neg h10_, isUpTo_isIn]
  rcases isIn_eq x2 16 (by decide) with ⟨m, hm, rfl, c3⟩ | ⟨-, c3⟩
  rotate_left
  · rw [c3, Option.bind_some, Option.bind_some, if_pos rfl, if_pos rfl]
    exact ⟨_, bl, br, bs, s, rfl, rfl, hM, h1, h2, h3, h4, h5, h6⟩
  rw [c3, Option.bind_some, Option.bind_some, if_neg h10_, if_neg h10_]
  by_cases q2 : a = 8
  · rw [if_pos (by rw [e1, q2]; exact Int32.le_refl _), if_pos (by rw [e5, e2, q2])]
    exact ⟨_, bl, br, bs, s, rfl, rfl, hM, h1, h2, h3, h4, h5, h6⟩
  rw [if_neg (by rw [e1]; exact nI_ge (by omega) (by decide)), if_neg (by rw [e5, e2, nI_eq (by omega) (by decide)]; exact q2), push_book (by omega) e2, e1, appendC bl br (show a < 8 by omega), Option.bind_some]
  refine ⟨nI (a + 1), upd bl a (nI r), upd br a (nI m), nI (a + 1), _, rfl, rfl, hM.mid hN (fun j hj => pushS_off (by omega) (by omega) (by omega)), h1.agree (pushS_off (by omega) (by omega) (by omega)) (fun j c d => pushS_off (by omega) (by omega) (by omega)), h2.agree (pushS_off (by omega) (by omega) (by omega)) (fun j c d => pushS_off (by omega) (by omega) (by omega)), h3.push (by decide) e1 (by omega) (by decide) _ _, h4, h5, fun i hi hlt => ?_⟩
  by_cases q : i = a
  · rw [q, pk_us]
    exact ⟨r, hr, rfl⟩
  · rw [pk_un q]
    refine h6 i hi ?_
    rw [e1]
    rcases Nat.lt_or_ge i (a + 1) with z | z
    · exact nI_lt (by omega) (by omega)
    · exact absurd hlt (nI_nlt z (by omega))
theorem leftAtC (l : Nat → Int32) {i : Nat} (hi : i < 8) : f_X3_leftAt l (nI i) = some (l i) := by
  unfold f_X3_leftAt
  simp only [lI]
  rw [chk_in hi (by decide), nI_clamp (by omega)]
theorem rightAtC (l : Nat → Int32) {i : Nat} (hi : i < 8) : f_X3_rightAt l (nI i) = some (l i) := by
  unfold f_X3_rightAt
  simp only [lI]
  rw [chk_in hi (by decide), nI_clamp (by omega)]
/-- the first row of the book that isn't so -/
def lkR (E : ES) (bl br : Nat → Int32) : Nat → Nat → Int32
  | 0, _ => -nI 5
  | d + 1, i => if nI (eL E (bl i).toNatClampNeg).length = br i then lkR E bl br d (i + 1) else nI i
theorem lkR_succ (E : ES) (bl br : Nat → Int32) (d i : Nat) : lkR E bl br (d + 1) i = if nI (eL E (bl i).toNatClampNeg).length = br i then lkR E bl br d (i + 1) else nI i := rfl
theorem looked_both (h : CW E facts ro locked rules sizes rows sc metric fixed) (hM : MW E s) (hP : PS (eN E) sl sr ss pl pr ps bl br bs s) : ∃ v, f_X7_looked sizes bl br bs = some v ∧ f_X8_looked s = some v := by
  obtain ⟨h1, h2, ⟨a, ha, e1, e2, e3⟩, h4, h5, h6⟩ := hP
  have e7 : (nI 7).toNatClampNeg = 7 := nI_clamp (by decide)
  refine ⟨lkR E bl br a 0, ?_, ?_⟩
  · unfold f_X7_looked l_X7_looked_2
    simp only [lI]
    refine lp_eq (F := fun k (x : Int32) => b_X7_looked_2 sizes bl br bs k x) (fun t x => x = nI t ∧ lkR E bl br (a - t) t = lkR E bl br a 0) _ a ?_ ?_ fu _ (by unfold fu; omega) ⟨rfl, rfl⟩
    · rintro t x ht ⟨rfl, g2⟩
      obtain ⟨d, hd⟩ : ∃ d, a - t = d + 1 := ⟨a - t - 1, by omega⟩
      rw [hd, lkR_succ] at g2
      obtain ⟨r, hr, er⟩ := h6 t (by omega) (by rw [e1]; exact nI_lt ht (by omega))
      rw [er, nI_clamp (by omega)] at g2
      have step : ∀ z, b_X7_looked_2 sizes bl br bs z (nI t) = if nI (eL E r).length = br t then z (nI (t + 1)) else some (nI t) := by
        intro z
        unfold b_X7_looked_2
        simp only [lI, nI_add]
        rw [if_neg (by rw [e1]; exact nI_ge ht (by omega)), leftAtC bl (by omega), Option.bind_some, er, sizeOf_eq sizes hr, Option.bind_some, (h.2.2.2.2.2.2.2 r hr).1, rightAtC br (by omega), Option.bind_some]
      by_cases q : nI (eL E r).length = br t
      · rw [if_pos q] at g2
        exact Or.inl ⟨nI (t + 1), ⟨rfl, by rw [show a - (t + 1) = d by omega]; exact g2⟩, fun z => (step z).trans (if_pos q)⟩
      · rw [if_neg q] at g2
        exact Or.inr fun z => (step z).trans (by rw [if_neg q, g2])
    · rintro x ⟨rfl, g2⟩ z
      rw [Nat.sub_self] at g2
      unfold b_X7_looked_2
      simp only [lI]
      rw [if_pos (by rw [e1]; exact nI_le (Nat.le_refl _) (by omega)), ← g2]
      rfl
  · unfold f_X8_looked l_X8_looked_2
    simp only [lI]
    refine lp_eq (F := fun k (x : Int32) => b_X8_looked_2 s k x) (fun t x => x = nI t ∧ lkR E bl br (a - t) t = lkR E bl br a 0) _ a ?_ ?_ fu _ (by unfold fu; omega) ⟨rfl, rfl⟩
    · rintro t x ht ⟨rfl, g2⟩
      obtain ⟨d, hd⟩ : ∃ d, a - t = d + 1 := ⟨a - t - 1, by omega⟩
      rw [hd, lkR_succ] at g2
      obtain ⟨r, hr, er⟩ := h6 t (by omega) (by rw [e1]; exact nI_lt ht (by omega))
      rw [er, nI_clamp (by omega)] at g2
      have step : ∀ z, b_X8_looked_2 s z (nI t) = if nI (eL E r).length = br t then z (nI (t + 1)) else some (nI t) := by
        intro z
        unfold b_X8_looked_2
        simp only [lI, pk_mul, nI_add]
        rw [e7, e2, if_neg (nI_ge ht (by omega)), gI_n (by omega) (by decide), nI_clamp (by omega), (e3 t ht).1, er, sizeM hM hr, Option.bind_some, gI_n (by omega) (by decide), nI_clamp (by omega), (e3 t ht).2]
      by_cases q : nI (eL E r).length = br t
      · rw [if_pos q] at g2
        exact Or.inl ⟨nI (t + 1), ⟨rfl, by rw [show a - (t + 1) = d by omega]; exact g2⟩, fun z => (step z).trans (if_pos q)⟩
      · rw [if_neg q] at g2
        exact Or.inr fun z => (step z).trans (by rw [if_neg q, g2])
    · rintro x ⟨rfl, g2⟩ z
      rw [Nat.sub_self] at g2
      unfold b_X8_looked_2
      simp only [lI]
      rw [e7, e2, if_pos (nI_le (Nat.le_refl _) (by omega)), ← g2]
      rfl
theorem count_both (hsc : sc = nI (eN E)) (hM : MW E s) (hP : PS (eN E) sl sr ss pl pr ps bl br bs s) (tx W x1 : Int32) : ∃ v, f_X7_count ss ps bs sc tx W x1 = some v ∧ f_X8_count s W tx x1 = some v := by
  obtain ⟨⟨a, -, a1, a2, -⟩, ⟨b, -, b1, b2, -⟩, ⟨c, -, c1, c2, -⟩, -⟩ := hP
  unfold f_X7_count f_X8_count
  simp only [lI]
  rw [nI_clamp (show 4 < 2 ^ 31 by decide), nI_clamp (show 5 < 2 ^ 31 by decide), nI_clamp (show 6 < 2 ^ 31 by decide), nI_clamp (show 7 < 2 ^ 31 by decide), hM.1, a2, b2, c2, hsc, a1, b1, c1]
  by_cases q0 : x1 = nI 0
  · rw [if_pos q0]; exact ⟨_, rfl, rfl⟩
  rw [if_neg q0]
  by_cases q1 : x1 = nI 1
  · rw [if_pos q1]; exact ⟨_, rfl, rfl⟩
  rw [if_neg q1]
  by_cases q2 : x1 = nI 2
  · rw [if_pos q2]; exact ⟨_, rfl, rfl⟩
  rw [if_neg q2]
  by_cases q3 : x1 = nI 3
  · rw [if_pos q3]; exact ⟨_, rfl, rfl⟩
  rw [if_neg q3]
  by_cases q4 : x1 = nI 4
  · rw [if_pos q4]; exact ⟨_, rfl, rfl⟩
  rw [if_neg q4]
  by_cases q5 : x1 = nI 5
  · rw [if_pos q5]; exact ⟨_, rfl, rfl⟩
  rw [if_neg q5]
  exact ⟨_, rfl, rfl⟩
end PAIRS
