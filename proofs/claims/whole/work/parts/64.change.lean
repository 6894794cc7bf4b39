/-! B37: what changes numbers: set, depot, rule, price, lock, stop -/
theorem upd_back (F : Nat → Int32) (i : Nat) (v : Int32) : upd (upd F i v) i (F i) = F := by
  funext j
  by_cases h : j = i
  · rw [h, pk_us]
  · rw [pk_un h, pk_un h]
theorem HO_congr {me : Int32} {fc fc' : Nat → Nat → Int32} {t0 home room : Int32} {L : List Nat} (h : ∀ k w, fc' (at_ L k) w = fc (at_ L k) w) : HO (dist me fc') fc' t0 home room L ↔ HO (dist me fc) fc t0 home room L := by
  have hpv : ∀ k w, fc' (pv_ L k) w = fc (pv_ L k) w := by
    intro k w
    cases k with
    | zero =>
      have := h L.length w
      rw [at_ge (Nat.le_refl _)] at this
      exact this
    | succ k => exact h k w
  have hd : ∀ k, dist me fc' (pv_ L k) (at_ L k) = dist me fc (pv_ L k) (at_ L k) := by
    intro k
    unfold dist
    rw [hpv, hpv, h, h]
  have htm : ∀ k, tm (dist me fc') fc' t0 L k = tm (dist me fc) fc t0 L k := by
    intro k
    induction k with
    | zero => rfl
    | succ k ih =>
      show bgn fc' (tm (dist me fc') fc' t0 L k + dist me fc' (pv_ L k) (at_ L k)) (at_ L k) + fc' (at_ L k) 5 = bgn fc (tm (dist me fc) fc t0 L k + dist me fc (pv_ L k) (at_ L k)) (at_ L k) + fc (at_ L k) 5
      unfold bgn
      rw [ih, hd, h, h]
  have hbg : ∀ k, bg (dist me fc') fc' t0 L k = bg (dist me fc) fc t0 L k := by
    intro k
    show bgn fc' (tm (dist me fc') fc' t0 L k + dist me fc' (pv_ L k) (at_ L k)) (at_ L k) = bgn fc (tm (dist me fc) fc t0 L k + dist me fc (pv_ L k) (at_ L k)) (at_ L k)
    unfold bgn
    rw [htm, hd, h]
  have hon : onT (dist me fc') fc' t0 L ↔ onT (dist me fc) fc t0 L := by
    unfold onT inT
    simp only [hbg, h]
  have hbk : bk (dist me fc') fc' t0 L = bk (dist me fc) fc t0 L := by
    have h16 := hd L.length
    rw [at_ge (Nat.le_refl L.length)] at h16
    unfold bk
    rw [htm, h16]
  have hld : ∀ k, ld fc' L k = ld fc L k := by
    intro k
    induction k with
    | zero => rfl
    | succ k ih =>
      show ld fc' L k + fc' (at_ L k) 2 = ld fc L k + fc (at_ L k) 2
      rw [ih, h]
  unfold HO
  rw [hon, hbk, hld]
theorem at_ne {L : List Nat} {p : Nat} (hp : p < 16) (h : p ∉ L) (k : Nat) : at_ L k ≠ p := by
  by_cases hk : k < L.length
  · exact fun e => h (e ▸ at_mem hk)
  · rw [at_ge (by omega)]
    omega
def eSetF (E : ES) (p w : Nat) (v : Int32) : ES := (eN E, eL E, fun q u => if q = p ∧ u = w then v else eF E q u, eK E, eR E, eM E, eX E)
def eSetR (E : ES) (r w : Nat) (v : Int32) : ES := (eN E, eL E, eF E, eK E, fun q u => if q = r ∧ u = w then v else eR E q u, eM E, eX E)
def eSetM (E : ES) (m : Int32) : ES := (eN E, eL E, eF E, eK E, eR E, m, eX E)
def eSetX (E : ES) (x : Int32) : ES := (eN E, eL E, eF E, eK E, eR E, eM E, x)
def eSetK (E : ES) (p : Nat) (v : Int32) : ES := (eN E, eL E, eF E, fun q => if q = p then v else eK E q, eR E, eM E, eX E)
def eDep (E : ES) (x y : Int32) : ES := (eN E, eL E, fun q u => if q = 16 then (if u = 0 then x else if u = 1 then y else eF E q u) else eF E q u, eK E, eR E, eM E, eX E)
def eAdd (E : ES) (f : Nat → Int32) : ES := (eN E + 1, eL E, fun q u => if q = eN E then f u else eF E q u, fun q => if q = eN E then nI 0 else eK E q, eR E, eM E, eX E)
theorem eH_set {E : ES} {p w r : Nat} {v : Int32} {L : List Nat} (hp : p < 16) (hL : p ∉ L) : eH (eSetF E p w v) r L ↔ eH E r L :=
  HO_congr (fun k u => if_neg (fun z => at_ne hp hL k z.1))
theorem eH_rule {E : ES} {r w q : Nat} {v : Int32} {L : List Nat} (hq : q ≠ r) : eH (eSetR E r w v) q L ↔ eH E q L := by
  have e : ∀ u, eR (eSetR E r w v) q u = eR E q u := fun u => if_neg (fun z => hq z.1)
  show HO (eD E) (eF E) (eR (eSetR E r w v) q 1 + nI 0) (eR (eSetR E r w v) q 2) (eR (eSetR E r w v) q 0) L ↔ _
  rw [e, e, e]
theorem eH_add {E : ES} {f : Nat → Int32} {r : Nat} {L : List Nat} (hn : eN E < 16) (hL : eN E ∉ L) : eH (eAdd E f) r L ↔ eH E r L :=
  HO_congr (fun k u => if_neg (fun z => at_ne hn hL k z))
section CHG
variable {E : ES} {facts ro locked rules sizes rows s : Nat → Int32} {sc metric fixed : Int32}
theorem becomesM {E' : ES} {v : Int32} (hB' : GB E') {i : Nat} (hi : i < 258) (hM' : MW E' (upd s i v)) (cs bs : Nat → Int32) (b w l : Int32) : ∃ z, (∀ r, r < 4 → eH E' r (eL E' r)) ∧ f_X8_becomes s cs bs b w l (nI i) v = some (s i, upd s i v, z) ∨ ¬ (∀ r, r < 4 → eH E' r (eL E' r)) ∧ f_X8_becomes s cs bs b w l (nI i) v = some (-nI 3, s, z) := by
  obtain ⟨⟨q, z⟩, h1, h2⟩ := allHoldM hB' hM' cs bs b w l
  unfold f_X8_becomes
  simp only [lI]
  rw [gI_n hi (by decide), nI_clamp (by omega), h1, Option.bind_some]
  dsimp only at h2 ⊢
  rw [upd_back]
  rcases h2 with ⟨h2, h3⟩ | ⟨h2, h3⟩
  · rw [if_neg (by rw [h3]; decide)]
    exact ⟨z, Or.inl ⟨h2, rfl⟩⟩
  · rw [if_pos h3]
    exact ⟨z, Or.inr ⟨h2, rfl⟩⟩
theorem GB.setF (hB : GB E) {p w a : Nat} (hp : p < eN E) (hw : w < 6) (ha : a ≤ top6 w) : GB (eSetF E p w (nI a)) := by
  have hN := hB.1
  refine ⟨hB.1, hB.2.1, hB.2.2.1, fun q hq u hu => ?_, fun q hq u hu => ?_, hB.2.2.2.2.2.1, hB.2.2.2.2.2.2.1, hB.2.2.2.2.2.2.2.1, hB.2.2.2.2.2.2.2.2⟩
  · show ∃ x, x ≤ 63 ∧ (if q = p ∧ u = w then nI a else eF E q u) = nI x
    by_cases z : q = p ∧ u = w
    · rw [if_pos z]
      refine ⟨a, ?_, rfl⟩
      rw [← z.2] at ha
      rcases (show u = 0 ∨ u = 1 by omega) with rfl | rfl
      · exact ha
      · exact ha
    · rw [if_neg z]
      exact hB.2.2.2.1 q hq u hu
  · show nB 999 (if q = p ∧ u = w then nI a else eF E q u)
    by_cases z : q = p ∧ u = w
    · rw [if_pos z]
      have := top6_le w
      exact ⟨a, by omega, rfl⟩
    · rw [if_neg z]
      exact hB.2.2.2.2.1 q hq u hu
theorem CW.setF (hB : GB E) (h : CW E facts ro locked rules sizes rows sc metric fixed) {p w : Nat} (hp : p < eN E) (hw : w < 6) (v : Int32) : CW (eSetF E p w v) (upd facts (6 * p + w) v) ro locked rules sizes rows sc metric fixed := by
  have hN := hB.1
  refine ⟨h.1, h.2.1, h.2.2.1, ⟨fun q hq u hu => ?_, ?_, ?_⟩, h.2.2.2.2.1, h.2.2.2.2.2.1, h.2.2.2.2.2.2.1, h.2.2.2.2.2.2.2⟩
  · show upd facts (6 * p + w) v (6 * q + u) = if q = p ∧ u = w then v else eF E q u
    by_cases z : q = p ∧ u = w
    · rw [if_pos z, z.1, z.2, pk_us]
    · rw [if_neg z, pk_un (by omega)]
      exact h.2.2.2.1.1 q hq u hu
  · show upd facts (6 * p + w) v 96 = if 16 = p ∧ 0 = w then v else eF E 16 0
    rw [if_neg (by omega), pk_un (by omega)]
    exact h.2.2.2.1.2.1
  · show upd facts (6 * p + w) v 97 = if 16 = p ∧ 1 = w then v else eF E 16 1
    rw [if_neg (by omega), pk_un (by omega)]
    exact h.2.2.2.1.2.2
theorem MR.far {f : Nat → Int32} {r i : Nat} {L : List Nat} {v : Int32} (h : MR f r L) (hL : L.length ≤ 16) (hi : i < 178 + 20 * r + 3 ∨ 178 + 20 * r + 20 ≤ i) : MR (upd f i v) r L := by
  refine ⟨?_, fun k hk => ?_⟩
  · rw [pk_un (by omega)]; exact h.1
  · rw [pk_un (by omega)]; exact h.2 k hk
theorem MW.setF (hB : GB E) (h : MW E s) {p w : Nat} (hp : p < eN E) (hw : w < 6) (v : Int32) : MW (eSetF E p w v) (upd s (50 + 8 * p + w) v) := by
  have hN := hB.1
  refine ⟨by rw [pk_un (by omega)]; exact h.1, by rw [pk_un (by omega)]; exact h.2.1, by rw [pk_un (by omega)]; exact h.2.2.1, ⟨fun q hq u hu => ?_, ?_, ?_⟩, fun q hq => ?_, fun r hr u hu => ?_, fun r hr => ?_⟩
  · show upd s (50 + 8 * p + w) v (50 + 8 * q + u) = if q = p ∧ u = w then v else eF E q u
    by_cases z : q = p ∧ u = w
    · rw [if_pos z, z.1, z.2, pk_us]
    · rw [if_neg z, pk_un (by omega)]
      exact h.2.2.2.1.1 q hq u hu
  · show upd s (50 + 8 * p + w) v 0 = if 16 = p ∧ 0 = w then v else eF E 16 0
    rw [if_neg (by omega), pk_un (by omega)]
    exact h.2.2.2.1.2.1
  · show upd s (50 + 8 * p + w) v 1 = if 16 = p ∧ 1 = w then v else eF E 16 1
    rw [if_neg (by omega), pk_un (by omega)]
    exact h.2.2.2.1.2.2
  · rw [pk_un (by omega)]
    exact h.2.2.2.2.1 q hq
  · rw [pk_un (by omega)]
    exact h.2.2.2.2.2.1 r hr u hu
  · exact (h.2.2.2.2.2.2 r hr).far (hB.len hr) (by omega)
/-- a stop's round alone is touched by its facts -/
theorem set_holds (hI : GI E) {p w : Nat} (hp : p < eN E) (v : Int32) : (∀ r, r < 4 → eH (eSetF E p w v) r (eL E r)) ↔ (rof (eL E) p = -nI 5 ∨ eH (eSetF E p w v) (wr E p) (eL E (wr E p))) := by
  have hN := hI.1.1
  constructor
  · intro h
    by_cases q : rof (eL E) p = -nI 5
    · exact Or.inl q
    · exact Or.inr (h _ (wrk q).1)
  · intro h r hr
    by_cases hm : p ∈ eL E r
    · have e := hI.1.rof hr hm
      have q : rof (eL E) p ≠ -nI 5 := by rw [e]; exact nI_ne_m5 (by omega)
      have hw := wrk q
      have : wr E p = r := by
        have := hw.2.2.1
        rw [e] at this
        exact (nI_inj (by omega) (by omega) this).symm
      rcases h with h | h
      · exact absurd h q
      · rw [this] at h; exact h
    · exact (eH_set (by omega) hm).mpr (hI.2 r hr)
theorem holds_none (y1 y2 y3 : Nat → Int32) (y4 y5 y6 y7 y8 y9 y10 : Int32) : f_X7_holds facts rules sizes rows metric y1 y2 y3 y4 y5 y6 y7 y8 y9 y10 (-nI 5) = some (nI 1, y1, y2, y3, y4, y5, y6, y7, y8, y9, y10) := by
  have e1 : f_X7_isRound (-nI 5) = some (nI 0) := by
    rcases roundX (-nI 5) with ⟨r, hr, e, -, -⟩ | ⟨e, -⟩
    · exact absurd e.symm (nI_ne_m5 (by omega))
    · exact e
  unfold f_X7_holds
  simp only [lI]
  rw [e1, Option.bind_some, if_pos rfl]
theorem set_both (hI : GI E) (h : CW E facts ro locked rules sizes rows sc metric fixed) (hM : MW E s) (y1 y2 y3 : Nat → Int32) (y4 y5 y6 y7 y8 y9 y10 : Int32) (cs bs : Nat → Int32) (b w l : Int32) (x1 x2 x3 : Int32) : ∃ E' v facts' z s' z', f_X7_set facts ro rules sizes rows sc metric y1 y2 y3 y4 y5 y6 y7 y8 y9 y10 x1 x2 x3 = some (v, facts', z) ∧ f_X8_set s cs bs b w l x1 x2 x3 = some (v, s', z') ∧ GI E' ∧ CW E' facts' ro locked rules sizes rows sc metric fixed ∧ MW E' s' ∧ low s s' ∧ eN E' = eN E := by
  have hB := hI.1
  have hN := hB.1
  unfold f_X7_set f_X8_set
  simp only [lI]
  rcases stopX (s := s) hN h.1 hM.1 x1 with ⟨p, hp, rfl, e1, e2⟩ | ⟨e1, e2⟩
  rotate_left
  · rw [e1, e2, Option.bind_some, Option.bind_some, if_pos rfl, if_pos rfl]
    exact ⟨E, _, facts, _, s, _, rfl, rfl, hI, h, hM, low.refl s, rfl⟩
  rw [e1, e2, isUpTo_isIn, Option.bind_some, Option.bind_some, if_neg h10_, if_neg h10_]
  rcases isIn_eq x2 5 (by decide) with ⟨n, hn, rfl, e3⟩ | ⟨-, e3⟩
  rotate_left
  · rw [e3, Option.bind_some, Option.bind_some, if_pos rfl, if_pos rfl]
    exact ⟨E, _, facts, _, s, _, rfl, rfl, hI, h, hM, low.refl s, rfl⟩
  have hn6 : n < 6 := by omega
  have ht := top6_le n
  rw [e3, Option.bind_some, Option.bind_some, if_neg h10_, if_neg h10_, isTold_eq hn6]
  unfold f_X6_mayBe
  simp only [lI]
  rw [topOf_eq hn6, Option.bind_some, isUpTo_isIn]
  rcases isIn_eq x3 (top6 n) (by omega) with ⟨a, ha, rfl, e4⟩ | ⟨-, e4⟩
  rotate_left
  · rw [e4]
    simp only [Option.bind_some]
    rw [if_pos trivial, if_pos trivial]
    simp only [Option.bind_some]
    rw [if_pos trivial]
    exact ⟨E, _, facts, _, s, _, rfl, rfl, hI, h, hM, low.refl s, rfl⟩
  rw [e4, Option.bind_some, Option.bind_some, if_neg h10_, if_neg h10_]
  have hB' := hB.setF hp hn6 ha
  have hC' := h.setF hB hp hn6 (nI a)
  have hM' := hM.setF hB hp hn6 (nI a)
  obtain ⟨z1, k1⟩ := becomesM (s := s) hB' (show 50 + 8 * p + n < 258 by omega) hM' cs bs b w l
  have hfin : ∃ E' v facts' z s' z', ((f_X6_fact facts (nI p) (nI n)).bind fun r7 => (f_X6_setFact facts (nI p) (nI n) (nI a)).bind fun o8 => (f_X6_roundOf ro (nI p)).bind fun r9 => (f_X7_holds o8 rules sizes rows metric y1 y2 y3 y4 y5 y6 y7 y8 y9 y10 r9).bind fun q => if q.1 = nI 0 then ((f_X6_setFact o8 (nI p) (nI n) r7).bind fun o12 => some (-nI 3, o12, q.2)) else some (r7, o8, q.2)) = some (v, facts', z) ∧ b_X8_set_60 (nI p) (nI n) (nI a) s cs bs b w l = some (v, s', z') ∧ GI E' ∧ CW E' facts' ro locked rules sizes rows sc metric fixed ∧ MW E' s' ∧ low s s' ∧ eN E' = eN E := by
    have hF : facts (6 * p + n) = eF E p n := h.2.2.2.1.1 p hp n hn6
    have hs : s (50 + 8 * p + n) = eF E p n := hM.2.2.2.1.1 p hp n hn6
    have hlow : low s (upd s (50 + 8 * p + n) (nI a)) := fun j _ h2 => pk_un (by omega)
    unfold b_X8_set_60
    simp only [lI, pk_mul, nI_add]
    rw [fact_eq facts (by omega), Option.bind_some, setFact_eq facts (nI a) (by omega), Option.bind_some, (placeOf_eq hB h hp).2, Option.bind_some]
    have hset := set_holds hI (w := n) hp (nI a)
    have hres : ∃ q, f_X7_holds (upd facts (6 * p + n) (nI a)) rules sizes rows metric y1 y2 y3 y4 y5 y6 y7 y8 y9 y10 (rof (eL E) p) = some q ∧ ((∀ r, r < 4 → eH (eSetF E p n (nI a)) r (eL E r)) ∧ q.1 = nI 1 ∨ ¬ (∀ r, r < 4 → eH (eSetF E p n (nI a)) r (eL E r)) ∧ q.1 = nI 0) := by
      by_cases q : rof (eL E) p = -nI 5
      · rw [q]
        exact ⟨_, holds_none y1 y2 y3 y4 y5 y6 y7 y8 y9 y10, Or.inl ⟨hset.mpr (Or.inl q), rfl⟩⟩
      · obtain ⟨w1, w2, w3, w4, w5⟩ := wrk q
        obtain ⟨q1, g1, g2⟩ := holdsC hB' hC' w1 y1 y2 y3 y4 y5 y6 y7 y8 y9 y10
        rw [w3]
        refine ⟨q1, g1, ?_⟩
        rcases g2 with ⟨g2, g3⟩ | ⟨g2, g3⟩
        · exact Or.inl ⟨hset.mpr (Or.inr g2), g3⟩
        · exact Or.inr ⟨fun z => (hset.mp z).elim q g2, g3⟩
    obtain ⟨q, g1, g2⟩ := hres
    rw [g1, Option.bind_some]
    rcases g2 with ⟨g2, g3⟩ | ⟨g2, g3⟩
    · rcases k1 with ⟨-, k1⟩ | ⟨k1, -⟩
      · rw [if_neg (by rw [g3]; decide), k1, Option.bind_some, hF, hs]
        exact ⟨_, _, _, _, _, _, rfl, rfl, ⟨hB', g2⟩, hC', hM', hlow, rfl⟩
      · exact absurd g2 k1
    · rcases k1 with ⟨k1, -⟩ | ⟨-, k1⟩
      · exact absurd k1 g2
      · rw [if_pos g3, k1, Option.bind_some, setFact_eq _ _ (by omega), upd_back, Option.bind_some]
        exact ⟨E, _, _, _, _, _, rfl, rfl, hI, h, hM, low.refl s, rfl⟩
  have h42 : n ≠ 4 → b_X8_set_42 (nI p) (nI n) (nI a) s cs bs b w l = b_X8_set_60 (nI p) (nI n) (nI a) s cs bs b w l := by
    intro h4
    unfold b_X8_set_42
    simp only [lI]
    rw [if_neg (by rw [nI_eq (by omega) (by decide)]; exact h4)]
  by_cases n3 : n = 3
  · subst n3
    rw [if_pos rfl, if_pos rfl, fc_eq h.2.2.2.1 hN hp (by decide), stopAt_eq s (by omega), hM.2.2.2.1.1 p hp 4 (by decide), Option.bind_some, Option.bind_some]
    by_cases q : eF E p 4 < nI a
    · rw [if_pos q, if_pos q, Option.bind_some, if_pos rfl]
      exact ⟨E, _, facts, _, s, _, rfl, rfl, hI, h, hM, low.refl s, rfl⟩
    · rw [if_neg q, if_neg q, Option.bind_some, if_neg h10_, h42 (by decide)]
      exact hfin
  · rw [if_neg (show ¬ nI n = nI 3 by rw [nI_eq (by omega) (by decide)]; exact n3), if_neg (show ¬ nI n = nI 3 by rw [nI_eq (by omega) (by decide)]; exact n3)]
    by_cases n4 : n = 4
    · subst n4
      unfold b_X8_set_42
      simp only [lI]
      rw [if_pos trivial, if_pos trivial, fc_eq h.2.2.2.1 hN hp (by decide), stopAt_eq s (by omega), hM.2.2.2.1.1 p hp 3 (by decide), Option.bind_some, Option.bind_some]
      by_cases q : eF E p 3 ≤ nI a
      · rw [if_neg (Int32.not_lt.mpr q), if_pos q, Option.bind_some, if_neg h10_]
        exact hfin
      · rw [if_pos (Int32.not_le.mp q), if_neg q, Option.bind_some, if_pos rfl]
        exact ⟨E, _, facts, _, s, _, rfl, rfl, hI, h, hM, low.refl s, rfl⟩
    · rw [if_neg (show ¬ nI n = nI 4 by rw [nI_eq (by omega) (by decide)]; exact n4), h42 n4, Option.bind_some, if_neg h10_]
      exact hfin
end CHG
