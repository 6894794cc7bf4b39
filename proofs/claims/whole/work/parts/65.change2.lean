/-! B38: depot, rule, price, lock, stop, in both -/
theorem nar_b (x : Int32) (h : x = nI 0 ∨ x = nI 1) : vp_nar .boolean x = x := by
  rcases h with rfl | rfl <;> decide
section CHG2
variable {E : ES} {facts ro locked rules sizes rows s : Nat → Int32} {sc metric fixed : Int32}
theorem GB.setR (hB : GB E) {r w a : Nat} (ha : a ≤ 1999) : GB (eSetR E r w (nI a)) := by
  refine ⟨hB.1, hB.2.1, hB.2.2.1, hB.2.2.2.1, hB.2.2.2.2.1, hB.2.2.2.2.2.1, fun q hq u hu => ?_, hB.2.2.2.2.2.2.2.1, hB.2.2.2.2.2.2.2.2⟩
  show nB 1999 (if q = r ∧ u = w then nI a else eR E q u)
  by_cases z : q = r ∧ u = w
  · rw [if_pos z]
    exact ⟨a, ha, rfl⟩
  · rw [if_neg z]
    exact hB.2.2.2.2.2.2.1 q hq u hu
theorem CW.setR (h : CW E facts ro locked rules sizes rows sc metric fixed) {r w : Nat} (hr : r < 4) (hw : w < 3) (v : Int32) : CW (eSetR E r w v) facts ro locked (upd rules (3 * r + w) v) sizes rows sc metric fixed := by
  refine ⟨h.1, h.2.1, h.2.2.1, h.2.2.2.1, h.2.2.2.2.1, h.2.2.2.2.2.1, fun q hq u hu => ?_, h.2.2.2.2.2.2.2⟩
  show upd rules (3 * r + w) v (3 * q + u) = if q = r ∧ u = w then v else eR E q u
  by_cases z : q = r ∧ u = w
  · rw [if_pos z, z.1, z.2, pk_us]
  · rw [if_neg z, pk_un (by omega)]
    exact h.2.2.2.2.2.2.1 q hq u hu
theorem MW.setR (hB : GB E) (h : MW E s) {r w : Nat} (hr : r < 4) (hw : w < 3) (v : Int32) : MW (eSetR E r w v) (upd s (178 + 20 * r + w) v) := by
  have hN := hB.1
  refine ⟨by rw [pk_un (by omega)]; exact h.1, by rw [pk_un (by omega)]; exact h.2.1, by rw [pk_un (by omega)]; exact h.2.2.1, ⟨fun q hq u hu => ?_, by rw [pk_un (by omega)]; exact h.2.2.2.1.2.1, by rw [pk_un (by omega)]; exact h.2.2.2.1.2.2⟩, fun q hq => ?_, fun q hq u hu => ?_, fun q hq => ?_⟩
  · have hq' : q < eN E := hq
    rw [pk_un (by omega)]
    exact h.2.2.2.1.1 q hq u hu
  · have hq' : q < eN E := hq
    rw [pk_un (by omega)]
    exact h.2.2.2.2.1 q hq
  · show upd s (178 + 20 * r + w) v (178 + 20 * q + u) = if q = r ∧ u = w then v else eR E q u
    by_cases z : q = r ∧ u = w
    · rw [if_pos z, z.1, z.2, pk_us]
    · rw [if_neg z, pk_un (by omega)]
      exact h.2.2.2.2.2.1 q hq u hu
  · exact (h.2.2.2.2.2.2 q hq).far (hB.len hq) (by omega)
theorem rule_holds (hI : GI E) {r w : Nat} (hr : r < 4) (v : Int32) : (∀ q, q < 4 → eH (eSetR E r w v) q (eL E q)) ↔ eH (eSetR E r w v) r (eL E r) := by
  constructor
  · intro h
    exact h r hr
  · intro h q hq
    by_cases e : q = r
    · rw [e]; exact h
    · exact (eH_rule e).mpr (hI.2 q hq)
def top3 (w : Nat) : Nat := match w with
  | 0 => 60
  | 1 => 999
  | _ => 1999
theorem top3_le (w : Nat) : top3 w ≤ 1999 := by
  unfold top3
  split <;> decide
theorem topOf2_eq {w : Nat} (h : w < 3) : f_X7_topOf 2 (nI w) = some (nI (top3 w)) := by
  rcases (show w = 0 ∨ w = 1 ∨ w = 2 by omega) with rfl | rfl | rfl <;> decide
theorem rule_both (hI : GI E) (h : CW E facts ro locked rules sizes rows sc metric fixed) (hM : MW E s) (y1 y2 y3 : Nat → Int32) (y4 y5 y6 y7 y8 y9 y10 : Int32) (cs bs : Nat → Int32) (b w l : Int32) (x1 x2 x3 : Int32) : ∃ E' v rules' z s' z', f_X7_rule facts rules sizes rows metric y1 y2 y3 y4 y5 y6 y7 y8 y9 y10 x1 x2 x3 = some (v, rules', z) ∧ f_X8_rule s cs bs b w l x1 x2 x3 = some (v, s', z') ∧ GI E' ∧ CW E' facts ro locked rules' sizes rows sc metric fixed ∧ MW E' s' ∧ low s s' ∧ eN E' = eN E := by
  have hB := hI.1
  have hN := hB.1
  unfold f_X7_rule f_X8_rule
  simp only [lI]
  rcases roundX x1 with ⟨r, hr, rfl, e1, e2⟩ | ⟨e1, e2⟩
  rotate_left
  · rw [e1, e2, Option.bind_some, Option.bind_some, if_pos rfl, if_pos rfl]
    exact ⟨E, _, rules, _, s, _, rfl, rfl, hI, h, hM, low.refl s, rfl⟩
  rw [e1, e2, isUpTo_isIn, Option.bind_some, Option.bind_some, if_neg h10_, if_neg h10_]
  rcases isIn_eq x2 2 (by decide) with ⟨n, hn, rfl, e3⟩ | ⟨-, e3⟩
  rotate_left
  · rw [e3, Option.bind_some, Option.bind_some, if_pos rfl, if_pos rfl]
    exact ⟨E, _, rules, _, s, _, rfl, rfl, hI, h, hM, low.refl s, rfl⟩
  have hn3 : n < 3 := by omega
  have ht := top3_le n
  rw [e3, Option.bind_some, Option.bind_some, if_neg h10_, if_neg h10_, topOf2_eq hn3, Option.bind_some, isUpTo_isIn]
  have h43 : (if nI n = nI 0 then b_X8_rule_43 (nI r) (nI n) x3 x3 (nI 0) (nI 60) s cs bs b w l else if nI n = nI 1 then b_X8_rule_43 (nI r) (nI n) x3 x3 (nI 0) (nI 999) s cs bs b w l else b_X8_rule_43 (nI r) (nI n) x3 x3 (nI 0) (nI 1999) s cs bs b w l) = b_X8_rule_43 (nI r) (nI n) x3 x3 (nI 0) (nI (top3 n)) s cs bs b w l := by
    rcases (show n = 0 ∨ n = 1 ∨ n = 2 by omega) with rfl | rfl | rfl
    · rw [if_pos rfl]; rfl
    · rw [if_neg (by decide), if_pos rfl]; rfl
    · rw [if_neg (by decide), if_neg (by decide)]; rfl
  rw [h43]
  unfold b_X8_rule_43
  simp only [lI, pk_mul, nI_add]
  rcases isIn_eq x3 (top3 n) (by omega) with ⟨a, ha, rfl, e4⟩ | ⟨-, e4⟩
  rotate_left
  · rw [e4, Option.bind_some, Option.bind_some, if_pos rfl, if_pos rfl]
    exact ⟨E, _, rules, _, s, _, rfl, rfl, hI, h, hM, low.refl s, rfl⟩
  rw [e4, Option.bind_some, Option.bind_some, if_neg h10_, if_neg h10_]
  have hB' : GB (eSetR E r n (nI a)) := hB.setR (by omega)
  have hC' := h.setR hr hn3 (nI a)
  have hM' := hM.setR hB hr hn3 (nI a)
  obtain ⟨z1, k1⟩ := becomesM (s := s) hB' (show 178 + 20 * r + n < 258 by omega) hM' cs bs b w l
  have hF : rules (3 * r + n) = eR E r n := h.2.2.2.2.2.2.1 r hr n hn3
  have hs : s (178 + 20 * r + n) = eR E r n := hM.2.2.2.2.2.1 r hr n hn3
  have hlow : low s (upd s (178 + 20 * r + n) (nI a)) := fun j _ h2 => pk_un (by omega)
  have hset := rule_holds hI (w := n) hr (nI a)
  obtain ⟨q, g1, g2⟩ := holdsC hB' hC' hr y1 y2 y3 y4 y5 y6 y7 y8 y9 y10
  rw [ruleOf_eq rules (by omega), Option.bind_some, setRule_eq rules (nI a) (by omega), Option.bind_some, g1, Option.bind_some]
  rcases g2 with ⟨g2, g3⟩ | ⟨g2, g3⟩
  · rcases k1 with ⟨k0, k1⟩ | ⟨k1, -⟩
    · rw [if_neg (by rw [g3]; decide), k1, Option.bind_some, hF, hs]
      exact ⟨_, _, _, _, _, _, rfl, rfl, ⟨hB', k0⟩, hC', hM', hlow, rfl⟩
    · exact absurd (hset.mpr g2) k1
  · rcases k1 with ⟨k1, -⟩ | ⟨-, k1⟩
    · exact absurd (hset.mp k1) g2
    · rw [if_pos g3, k1, Option.bind_some, setRule_eq _ _ (by omega), upd_back, Option.bind_some]
      exact ⟨E, _, _, _, _, _, rfl, rfl, hI, h, hM, low.refl s, rfl⟩
theorem MW.setM (hB : GB E) (h : MW E s) (v : Int32) : MW (eSetM E v) (upd s 2 v) := by
  have hN := hB.1
  refine ⟨by rw [pk_un (by omega)]; exact h.1, pk_us, by rw [pk_un (by omega)]; exact h.2.2.1, ⟨fun q hq u hu => by rw [pk_un (by omega)]; exact h.2.2.2.1.1 q hq u hu, by rw [pk_un (by omega)]; exact h.2.2.2.1.2.1, by rw [pk_un (by omega)]; exact h.2.2.2.1.2.2⟩, fun q hq => by rw [pk_un (by omega)]; exact h.2.2.2.2.1 q hq, fun q hq u hu => by rw [pk_un (by omega)]; exact h.2.2.2.2.2.1 q hq u hu, fun q hq => (h.2.2.2.2.2.2 q hq).far (hB.len hq) (by omega)⟩
theorem MW.setX (hB : GB E) (h : MW E s) (v : Int32) : MW (eSetX E v) (upd s 3 v) := by
  have hN := hB.1
  refine ⟨by rw [pk_un (by omega)]; exact h.1, by rw [pk_un (by omega)]; exact h.2.1, pk_us, ⟨fun q hq u hu => by rw [pk_un (by omega)]; exact h.2.2.2.1.1 q hq u hu, by rw [pk_un (by omega)]; exact h.2.2.2.1.2.1, by rw [pk_un (by omega)]; exact h.2.2.2.1.2.2⟩, fun q hq => by rw [pk_un (by omega)]; exact h.2.2.2.2.1 q hq, fun q hq u hu => by rw [pk_un (by omega)]; exact h.2.2.2.2.2.1 q hq u hu, fun q hq => (h.2.2.2.2.2.2 q hq).far (hB.len hq) (by omega)⟩
theorem GI.setX (hI : GI E) {a : Nat} (ha : a ≤ 99) : GI (eSetX E (nI a)) := by
  have hB := hI.1
  exact ⟨⟨hB.1, hB.2.1, ⟨a, ha, rfl⟩, hB.2.2.2.1, hB.2.2.2.2.1, hB.2.2.2.2.2.1, hB.2.2.2.2.2.2.1, hB.2.2.2.2.2.2.2.1, hB.2.2.2.2.2.2.2.2⟩, hI.2⟩
theorem price_both (hI : GI E) (h : CW E facts ro locked rules sizes rows sc metric fixed) (hM : MW E s) (y1 y2 y3 : Nat → Int32) (y4 y5 y6 y7 y8 y9 y10 : Int32) (cs bs : Nat → Int32) (b w l : Int32) (x1 x2 : Int32) : ∃ E' v metric' fixed' z s' z', f_X7_price facts rules sizes rows metric fixed y1 y2 y3 y4 y5 y6 y7 y8 y9 y10 x1 x2 = some (v, metric', fixed', z) ∧ f_X8_price s cs bs b w l x1 x2 = some (v, s', z') ∧ GI E' ∧ CW E' facts ro locked rules sizes rows sc metric' fixed' ∧ MW E' s' ∧ low s s' ∧ eN E' = eN E := by
  have hB := hI.1
  have hN := hB.1
  unfold f_X7_price f_X8_price b_X7_price_21 b_X8_price_23
  simp only [lI]
  rw [isUpTo_isIn]
  rcases isIn_eq x1 1 (by decide) with ⟨n, hn, rfl, e3⟩ | ⟨-, e3⟩
  rotate_left
  · rw [e3, Option.bind_some, Option.bind_some, if_pos rfl, if_pos rfl]
    exact ⟨E, _, _, _, _, s, _, rfl, rfl, hI, h, hM, low.refl s, rfl⟩
  rw [e3, Option.bind_some, Option.bind_some, if_neg h10_, if_neg h10_]
  rcases (show n = 0 ∨ n = 1 by omega) with rfl | rfl
  · rw [if_pos rfl, if_pos rfl, isUpTo_isIn]
    rcases isIn_eq x2 2 (by decide) with ⟨a, ha, rfl, e4⟩ | ⟨-, e4⟩
    rotate_left
    · rw [e4, Option.bind_some, Option.bind_some, if_pos rfl, if_pos rfl]
      exact ⟨E, _, _, _, _, s, _, rfl, rfl, hI, h, hM, low.refl s, rfl⟩
    rw [e4, Option.bind_some, Option.bind_some, if_neg h10_, if_neg h10_, if_neg (show ¬ nI 0 = nI 1 by decide), show nI 2 + nI 0 = nI 2 by decide]
    have hB' : GB (eSetM E (nI a)) := by
      refine ⟨hB.1, ?_, hB.2.2.1, hB.2.2.2.1, hB.2.2.2.2.1, hB.2.2.2.2.2.1, hB.2.2.2.2.2.2.1, hB.2.2.2.2.2.2.2.1, hB.2.2.2.2.2.2.2.2⟩
      show isM (nI a)
      rcases (show a = 0 ∨ a = 1 ∨ a = 2 by omega) with rfl | rfl | rfl
      · exact Or.inl rfl
      · exact Or.inr (Or.inl rfl)
      · exact Or.inr (Or.inr rfl)
    have hC' : CW (eSetM E (nI a)) facts ro locked rules sizes rows sc (nI a) fixed := ⟨h.1, rfl, h.2.2.1, h.2.2.2.1, h.2.2.2.2.1, h.2.2.2.2.2.1, h.2.2.2.2.2.2.1, h.2.2.2.2.2.2.2⟩
    have hM' := hM.setM hB (nI a)
    obtain ⟨z1, k1⟩ := becomesM (s := s) hB' (show 2 < 258 by omega) hM' cs bs b w l
    have hlow : low s (upd s 2 (nI a)) := fun j _ h2 => pk_un (by omega)
    obtain ⟨q, g1, g2⟩ := allHoldC hB' hC' y1 y2 y3 y4 y5 y6 y7 y8 y9 y10
    rw [g1, Option.bind_some]
    have hs : s 2 = metric := by rw [hM.2.1, h.2.1]
    rcases g2 with ⟨g2, g3⟩ | ⟨g2, g3⟩
    · rcases k1 with ⟨k0, k1⟩ | ⟨k1, -⟩
      · rw [if_neg (by rw [g3]; decide), k1, Option.bind_some, hs]
        exact ⟨_, _, _, _, _, _, _, rfl, rfl, ⟨hB', g2⟩, hC', hM', hlow, rfl⟩
      · exact absurd g2 k1
    · rcases k1 with ⟨k1, -⟩ | ⟨-, k1⟩
      · exact absurd k1 g2
      · rw [if_pos g3, k1, Option.bind_some]
        exact ⟨E, _, _, _, _, _, _, rfl, rfl, hI, h, hM, low.refl s, rfl⟩
  · rw [if_neg h10_, if_neg h10_, isUpTo_isIn]
    rcases isIn_eq x2 99 (by decide) with ⟨a, ha, rfl, e4⟩ | ⟨-, e4⟩
    rotate_left
    · rw [e4, Option.bind_some, Option.bind_some, if_pos rfl, if_pos rfl]
      exact ⟨E, _, _, _, _, s, _, rfl, rfl, hI, h, hM, low.refl s, rfl⟩
    rw [e4, Option.bind_some, Option.bind_some, if_neg h10_, if_neg h10_, if_pos rfl, show nI 2 + nI 1 = nI 3 by decide]
    have hI' : GI (eSetX E (nI a)) := hI.setX ha
    have hC' : CW (eSetX E (nI a)) facts ro locked rules sizes rows sc metric (nI a) := ⟨h.1, h.2.1, rfl, h.2.2.2.1, h.2.2.2.2.1, h.2.2.2.2.2.1, h.2.2.2.2.2.2.1, h.2.2.2.2.2.2.2⟩
    have hM' := hM.setX hB (nI a)
    obtain ⟨z1, k1⟩ := becomesM (s := s) hI'.1 (show 3 < 258 by omega) hM' cs bs b w l
    have hlow : low s (upd s 3 (nI a)) := fun j _ h2 => pk_un (by omega)
    have hs : s 3 = fixed := by rw [hM.2.2.1, h.2.2.1]
    rcases k1 with ⟨k0, k1⟩ | ⟨k1, -⟩
    · rw [k1, Option.bind_some, hs]
      exact ⟨_, _, _, _, _, _, _, rfl, rfl, hI', hC', hM', hlow, rfl⟩
    · exact absurd hI'.2 k1
theorem depot_both (hI : GI E) (h : CW E facts ro locked rules sizes rows sc metric fixed) (hM : MW E s) (y1 y2 y3 : Nat → Int32) (y4 y5 y6 y7 y8 y9 y10 : Int32) (cs bs : Nat → Int32) (b w l : Int32) (x1 x2 : Int32) : ∃ E' v facts' z s' z', f_X7_depot facts rules sizes rows metric y1 y2 y3 y4 y5 y6 y7 y8 y9 y10 x1 x2 = some (v, facts', z) ∧ f_X8_depot s cs bs b w l x1 x2 = some (v, s', z') ∧ GI E' ∧ CW E' facts' ro locked rules sizes rows sc metric fixed ∧ MW E' s' ∧ low s s' ∧ eN E' = eN E := by
  have hB := hI.1
  have hN := hB.1
  unfold f_X7_depot f_X8_depot
  simp only [lI]
  rw [isTold_eq (show 0 < 6 by decide), isTold_eq (show 1 < 6 by decide)]
  simp only [isUpTo_isIn]
  show ∃ E' v facts' z s' z', _ ∧ ((f_X8_isIn x1 (nI 0) (nI 63)).bind _) = _ ∧ _
  rcases isIn_eq x1 63 (by decide) with ⟨a, ha, rfl, e1⟩ | ⟨-, e1⟩
  rotate_left
  · rw [e1, Option.bind_some, Option.bind_some, if_pos rfl, if_pos rfl]
    exact ⟨E, _, _, _, s, _, rfl, rfl, hI, h, hM, low.refl s, rfl⟩
  rw [e1, Option.bind_some, Option.bind_some, if_neg h10_, if_neg h10_]
  show ∃ E' v facts' z s' z', _ ∧ ((f_X8_isIn x2 (nI 0) (nI 63)).bind _) = _ ∧ _
  rcases isIn_eq x2 63 (by decide) with ⟨c, hc, rfl, e2⟩ | ⟨-, e2⟩
  rotate_left
  · rw [e2, Option.bind_some, Option.bind_some, if_pos rfl, if_pos rfl]
    exact ⟨E, _, _, _, s, _, rfl, rfl, hI, h, hM, low.refl s, rfl⟩
  rw [e2, Option.bind_some, Option.bind_some, if_neg h10_, if_neg h10_]
  have hB' : GB (eDep E (nI a) (nI c)) := by
    refine ⟨hB.1, hB.2.1, hB.2.2.1, fun q hq u hu => ?_, fun q hq u hu => ?_, hB.2.2.2.2.2.1, hB.2.2.2.2.2.2.1, hB.2.2.2.2.2.2.2.1, hB.2.2.2.2.2.2.2.2⟩
    · show ∃ x, x ≤ 63 ∧ (if q = 16 then (if u = 0 then nI a else if u = 1 then nI c else eF E q u) else eF E q u) = nI x
      by_cases z : q = 16
      · rw [if_pos z]
        rcases (show u = 0 ∨ u = 1 by omega) with rfl | rfl
        · exact ⟨a, ha, rfl⟩
        · exact ⟨c, hc, rfl⟩
      · rw [if_neg z]
        exact hB.2.2.2.1 q hq u hu
    · show nB 999 (if q = 16 then (if u = 0 then nI a else if u = 1 then nI c else eF E q u) else eF E q u)
      have hq' : q < eN E := hq
      rw [if_neg (by omega)]
      exact hB.2.2.2.2.1 q hq u hu
  have hC' : CW (eDep E (nI a) (nI c)) (upd (upd facts 96 (nI a)) 97 (nI c)) ro locked rules sizes rows sc metric fixed := by
    refine ⟨h.1, h.2.1, h.2.2.1, ⟨fun q hq u hu => ?_, ?_, ?_⟩, h.2.2.2.2.1, h.2.2.2.2.2.1, h.2.2.2.2.2.2.1, h.2.2.2.2.2.2.2⟩
    · have hq' : q < eN E := hq
      show _ = if q = 16 then _ else eF E q u
      rw [if_neg (by omega), pk_un (by omega), pk_un (by omega)]
      exact h.2.2.2.1.1 q hq u hu
    · rw [pk_un (by decide), pk_us]
      rfl
    · rw [pk_us]
      rfl
  have hM' : MW (eDep E (nI a) (nI c)) (upd (upd s 0 (nI a)) 1 (nI c)) := by
    refine ⟨by rw [pk_un (by omega), pk_un (by omega)]; exact hM.1, by rw [pk_un (by omega), pk_un (by omega)]; exact hM.2.1, by rw [pk_un (by omega), pk_un (by omega)]; exact hM.2.2.1, ⟨fun q hq u hu => ?_, by rw [pk_un (by omega), pk_us]; rfl, by rw [pk_us]; rfl⟩, fun q hq => by rw [pk_un (by omega), pk_un (by omega)]; exact hM.2.2.2.2.1 q hq, fun q hq u hu => by rw [pk_un (by omega), pk_un (by omega)]; exact hM.2.2.2.2.2.1 q hq u hu, fun q hq => ((hM.2.2.2.2.2.2 q hq).far (hB.len hq) (by omega)).far (hB.len hq) (by omega)⟩
    have hq' : q < eN E := hq
    show _ = if q = 16 then _ else eF E q u
    rw [if_neg (by omega), pk_un (by omega), pk_un (by omega)]
    exact hM.2.2.2.1.1 q hq u hu
  have hlow : low s (upd (upd s 0 (nI a)) 1 (nI c)) := fun j h1 h2 => by rw [pk_un (by omega), pk_un (by omega)]
  have hbk : ∀ (F : Nat → Int32) (i : Nat) (u v : Int32), upd (upd (upd (upd F i u) (i + 1) v) i (F i)) (i + 1) (F (i + 1)) = F := by
    intro F i u v
    funext j
    by_cases z : j = i + 1
    · rw [z, pk_us]
    · rw [pk_un z]
      by_cases z2 : j = i
      · rw [z2, pk_us]
      · rw [pk_un z2, pk_un z, pk_un z2]
  obtain ⟨a0, ha0, ea⟩ := hB.2.2.2.1 16 (Or.inr rfl) 0 (by decide)
  obtain ⟨c0, hc0, ec⟩ := hB.2.2.2.1 16 (Or.inr rfl) 1 (by decide)
  have f96 : facts 96 = nI a0 := by rw [h.2.2.2.1.2.1, ea]
  have f97 : facts 97 = nI c0 := by rw [h.2.2.2.1.2.2, ec]
  have s0 : s 0 = nI a0 := by rw [hM.2.2.2.1.2.1, ea]
  have s1 : s 1 = nI c0 := by rw [hM.2.2.2.1.2.2, ec]
  obtain ⟨⟨v1, q1⟩, g1, g2⟩ := allHoldC hB' hC' y1 y2 y3 y4 y5 y6 y7 y8 y9 y10
  obtain ⟨⟨v2, q2⟩, g3, g4⟩ := allHoldM hB' hM' cs bs b w l
  have sd : ∀ (F : Nat → Int32) (u v : Int32), f_X6_setDepot F u v = some (upd (upd F 96 u) 97 v) := by
    intro F u v
    unfold f_X6_setDepot
    simp only [lI]
    rw [setFact_eq (s := 16) (w := 0) F u (by decide), Option.bind_some, setFact_eq (s := 16) (w := 1) _ v (by decide), Option.bind_some]
  rw [fact_eq (s := 16) (w := 0) facts (by decide), Option.bind_some, fact_eq (s := 16) (w := 1) facts (by decide), Option.bind_some, sd, Option.bind_some, nI_clamp (show 0 < 2 ^ 31 by decide), nI_clamp (show 1 < 2 ^ 31 by decide), g1, g3, Option.bind_some, Option.bind_some]
  dsimp only at g2 g4 ⊢
  rcases g2 with ⟨g2, rfl⟩ | ⟨g2, rfl⟩
  · rcases g4 with ⟨-, rfl⟩ | ⟨g4, -⟩
    · have hdd : apv metric (nI a0) (nI c0) (nI a) (nI c) = apv metric (nI a) (nI c) (nI a0) (nI c0) := apv_comm _ _ _ _ _
      have hap := apartM_eq (upd (upd s 0 (nI a)) 1 (nI c)) (me := metric) (by rw [pk_un (by omega), pk_un (by omega), hM.2.1, h.2.1]) (by rw [h.2.1]; exact hB.2.1) ha hc ha0 hc0
      rw [if_neg h10_, if_neg h10_, apart_eq, show facts (6 * 16 + 0) = nI a0 from f96, show facts (6 * 16 + 1) = nI c0 from f97, hdd, s0, s1, hap, Option.bind_some, Option.bind_some]
      exact ⟨_, _, _, _, _, _, rfl, rfl, ⟨hB', g2⟩, hC', hM', hlow, rfl⟩
    · exact absurd g2 g4
  · rcases g4 with ⟨g4, -⟩ | ⟨-, rfl⟩
    · exact absurd g4 g2
    · rw [if_pos rfl, if_pos rfl, sd, Option.bind_some, hbk s 0, show upd (upd (upd (upd facts 96 (nI a)) 97 (nI c)) 96 (facts (6 * 16 + 0))) 97 (facts (6 * 16 + 1)) = facts from hbk facts 96 _ _]
      exact ⟨E, _, _, _, _, _, rfl, rfl, hI, h, hM, low.refl s, rfl⟩
theorem lock_both (hI : GI E) (h : CW E facts ro locked rules sizes rows sc metric fixed) (hM : MW E s) (x1 x2 : Int32) (hx : x2 = nI 0 ∨ x2 = nI 1) : ∃ E' v locked' s', f_X7_lock ro locked sc x1 x2 = some (v, locked') ∧ f_X8_lock s x1 x2 = some (v, s') ∧ GI E' ∧ CW E' facts ro locked' rules sizes rows sc metric fixed ∧ MW E' s' ∧ low s s' ∧ eN E' = eN E := by
  have hB := hI.1
  have hN := hB.1
  unfold f_X7_lock f_X8_lock
  simp only [lI]
  rcases stopX (s := s) hN h.1 hM.1 x1 with ⟨p, hp, rfl, e1, e2⟩ | ⟨e1, e2⟩
  rotate_left
  · rw [e1, e2, Option.bind_some, Option.bind_some, if_pos rfl, if_pos rfl]
    exact ⟨E, _, _, s, rfl, rfl, hI, h, hM, low.refl s, rfl⟩
  rw [e1, e2, Option.bind_some, Option.bind_some, if_neg h10_, if_neg h10_, (placeOf_eq hB h hp).2, rofM hB hM hp, Option.bind_some, Option.bind_some]
  by_cases q : rof (eL E) p = -nI 5
  · rw [if_pos q, if_neg (by rw [q]; exact m5_lt)]
    exact ⟨E, _, _, s, rfl, rfl, hI, h, hM, low.refl s, rfl⟩
  · obtain ⟨w1, w2, w3, w4, w5⟩ := wrk q
    have h0 : nI 0 ≤ rof (eL E) p := by rw [w3]; exact nI_0le (by omega)
    have esl : f_X6_setLocked locked (nI p) x2 = some (upd locked p x2) := by
      unfold f_X6_setLocked
      simp only [lI]
      rw [chk_in (i := p) (by omega) (by decide), nI_clamp (by omega), nar_b x2 hx]
    have e52 : ∀ y, b_X8_lock_52 (eK E p) (nI 50 + nI 8 * nI p + nI 6) y s = some (eK E p, upd s (50 + 8 * p + 6) y) := by
      intro y
      unfold b_X8_lock_52
      simp only [pk_mul, nI_add]
      rw [gI_n (by omega) (by decide), nI_clamp (by omega)]
    have hI' : GI (eSetK E p x2) := by
      refine ⟨⟨hB.1, hB.2.1, hB.2.2.1, hB.2.2.2.1, hB.2.2.2.2.1, fun r hr => ?_, hB.2.2.2.2.2.2.1, hB.2.2.2.2.2.2.2.1, hB.2.2.2.2.2.2.2.2⟩, hI.2⟩
      show (if r = p then x2 else eK E r) = nI 0 ∨ (if r = p then x2 else eK E r) = nI 1
      by_cases z : r = p
      · rw [if_pos z]; exact hx
      · rw [if_neg z]; exact kk hB hr
    have hC' : CW (eSetK E p x2) facts ro (upd locked p x2) rules sizes rows sc metric fixed := by
      refine ⟨h.1, h.2.1, h.2.2.1, h.2.2.2.1, h.2.2.2.2.1, fun r hr => ?_, h.2.2.2.2.2.2.1, h.2.2.2.2.2.2.2⟩
      show _ = if r = p then x2 else eK E r
      by_cases z : r = p
      · rw [if_pos z, z, pk_us]
      · rw [if_neg z, pk_un z]; exact h.2.2.2.2.2.1 r hr
    have hM' : MW (eSetK E p x2) (upd s (50 + 8 * p + 6) x2) := by
      refine ⟨by rw [pk_un (by omega)]; exact hM.1, by rw [pk_un (by omega)]; exact hM.2.1, by rw [pk_un (by omega)]; exact hM.2.2.1, ⟨fun r hr u hu => by rw [pk_un (by omega)]; exact hM.2.2.2.1.1 r hr u hu, by rw [pk_un (by omega)]; exact hM.2.2.2.1.2.1, by rw [pk_un (by omega)]; exact hM.2.2.2.1.2.2⟩, fun r hr => ?_, fun r hr u hu => by rw [pk_un (by omega)]; exact hM.2.2.2.2.2.1 r hr u hu, fun r hr => (hM.2.2.2.2.2.2 r hr).far (hB.len hr) (by omega)⟩
      show _ = if r = p then x2 else eK E r
      by_cases z : r = p
      · rw [if_pos z, z, pk_us]
      · rw [if_neg z, pk_un (by omega)]; exact hM.2.2.2.2.1 r hr
    have hlow : low s (upd s (50 + 8 * p + 6) x2) := fun j h1 h2 => pk_un (by omega)
    rw [if_neg q, if_pos h0, lockC hB h hp, lockM hB hM hp, esl, Option.bind_some, Option.bind_some, Option.bind_some, e52, e52]
    refine ⟨eSetK E p x2, eK E p, upd locked p x2, upd s (50 + 8 * p + 6) x2, ?_, ?_, hI', hC', hM', hlow, rfl⟩
    · rcases kk hB hp with k | k
      · rw [k, if_pos rfl]
      · rw [k, if_neg h10_]
    · rcases hx with rfl | rfl
      · rw [if_pos rfl]
      · rw [if_neg h10_]
end CHG2
