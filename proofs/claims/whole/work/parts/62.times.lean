/-! B35: times told: of, round, late, at -/
theorem mmin_eq (x y : Int32) : mmin x y = if y ≤ x then y else x := by
  unfold mmin
  by_cases h : y < x
  · rw [if_pos h, if_pos (Int32.le_of_lt h)]
  · rw [if_neg h]
    by_cases h2 : y ≤ x
    · rw [if_pos h2]
      exact Int32.le_antisymm (Int32.not_lt.mp h) h2
    · rw [if_neg h2]
theorem la_succ (D : Nat → Nat → Int32) (fc : Nat → Nat → Int32) (home : Int32) (L : List Nat) (d : Nat) : la D fc home L (d + 1) = if la D fc home L d - D (at_ L (L.length - (d + 1))) (if d = 0 then 16 else at_ L (L.length - (d + 1) + 1)) - fc (at_ L (L.length - (d + 1))) 5 ≤ fc (at_ L (L.length - (d + 1))) 4 then la D fc home L d - D (at_ L (L.length - (d + 1))) (if d = 0 then 16 else at_ L (L.length - (d + 1) + 1)) - fc (at_ L (L.length - (d + 1))) 5 else fc (at_ L (L.length - (d + 1))) 4 := rfl
section TIMES
variable {E : ES} {facts ro locked rules sizes rows s : Nat → Int32} {sc metric fixed : Int32}
abbrev eT (E : ES) (r : Nat) : Int32 := eR E r 1 + nI 0
abbrev eCm (E : ES) (r k : Nat) : Int32 := cm (eD E) (eF E) (eT E r) (eL E r) k
abbrev eBg (E : ES) (r k : Nat) : Int32 := bg (eD E) (eF E) (eT E r) (eL E r) k
abbrev eLa (E : ES) (r d : Nat) : Int32 := la (eD E) (eF E) (eR E r 2) (eL E r) d
abbrev eBk (E : ES) (r : Nat) : Int32 := bk (eD E) (eF E) (eT E r) (eL E r)
abbrev eWt (E : ES) (r : Nat) : Int32 := wt (eD E) (eF E) (eT E r) (eL E r) (eL E r).length
/-- a round that holds, gone through and looked back at, in the class -/
theorem seeC (hI : GI E) (h : CW E facts ro locked rules sizes rows sc metric fixed) {r : Nat} (hr : r < 4) (row cs bs sl : Nat → Int32) (later : Int32) : ∃ (row1 cs1 bs1 sl1 : Nat → Int32) (bk1 lo1 mi1 wa1 la1 lt1 : Int32), f_X0_load row sizes rows (nI r) = some (row1, nI r, nI (eL E r).length) ∧ f_X0_follow row1 cs bs (nI r) (nI (eL E r).length) facts rules metric (nI 0) = some (nI 1, cs1, bs1, bk1, lo1, mi1, wa1, la1) ∧ f_X0_lookBack row1 cs1 bs1 sl (nI r) (nI (eL E r).length) later facts rules metric = some (sl1, lt1) ∧ Rep row1 0 (eL E r) ∧ (∀ k, k < (eL E r).length → cs1 k = eCm E r k ∧ bs1 k = eBg E r k) ∧ bk1 = eBk E r ∧ lo1 = ld (eF E) (eL E r) (eL E r).length ∧ mi1 = ml (eD E) (eL E r) ∧ wa1 = eWt E r ∧ (∀ k, k < (eL E r).length → sl1 k = eLa E r ((eL E r).length - k) - eBg E r k) ∧ (0 < (eL E r).length → lt1 = eLa E r (eL E r).length - eCm E r 0) := by
  have hB := hI.1
  have hH := hI.2 r hr
  obtain ⟨row1, h1, h2⟩ := loadC hB h hr row
  obtain ⟨⟨v, cs1, bs1, bk1, lo1, mi1, wa1, la1⟩, h3, h4⟩ := folC hB h hr h1 (hB.len hr) (hB.mem hr) cs bs (nI 0)
  obtain ⟨sl1, lt1, h5, h6, h7⟩ := lookBack_eq (comes := cs1) (begins := bs1) (slacks := sl) (rules := rules) (me := metric) (later := later) hr h1 (hB.len hr) (hB.mem hr) hB.1 h.2.2.2.1
  obtain ⟨g1, g2, g3, g4, g5, g6⟩ := h3.1 hH.1
  have hv : v = nI 1 := by
    rcases h3.2.2 with ⟨-, e⟩ | ⟨e, -⟩
    · exact e
    · exact absurd hH e
  have hu := h.2.2.2.2.2.2.1 r hr
  rw [hu 2 (by decide), h.2.1] at h5 h6
  dsimp only at g1 g2 g3 g4 g5
  subst hv
  refine ⟨row1, cs1, bs1, sl1, bk1, lo1, mi1, wa1, la1, lt1, h2, h4, h7, h1, g1, g2, g3, by rw [g4, ml_eq], g5, fun k hk => ?_, fun h0 => ?_⟩
  · rw [h5 k hk, (g1 k hk).2]
  · rw [h6 h0, (g1 0 h0).1]
theorem latestM (hB : GB E) (hM : MW E s) {r : Nat} (hr : r < 4) (cs bs lt : Nat → Int32) : ∃ cs' bs' lt' back wa lo, f_X8_latest s cs bs lt (nI r) = some (cs', bs', lt', back, wa, lo) ∧ (∀ k, k < (eL E r).length → cs' k = eCm E r k ∧ bs' k = eBg E r k) ∧ back = (if (eL E r).length = 0 then eR E r 1 else eBk E r) ∧ wa = eWt E r ∧ lo = ld (eF E) (eL E r) (eL E r).length ∧ ∀ k, k < (eL E r).length → lt' k = eLa E r ((eL E r).length - k) := by
  have hN := hB.1
  have hl := hB.len hr
  have hMR := hM.2.2.2.2.2.2 r hr
  have hu := hM.2.2.2.2.2.1 r hr
  obtain ⟨v, cs1, bs1, back, wa, lo, g1, g2, g3, g4, g5, -⟩ := lateM hB hM hr cs bs (nI 0)
  unfold f_X8_latest l_X8_latest_18
  simp only [lI]
  rw [g1, Option.bind_some]
  dsimp only
  rw [sizeM hM hr, Option.bind_some]
  obtain ⟨q, ⟨lt', rfl, h1⟩, h2⟩ := lp_inv (F := fun k (x : Int32 × (Nat → Int32)) => b_X8_latest_18 (nI r) (nI (eL E r).length) s cs1 bs1 back wa lo k x.1 x.2) (fun t x => x.1 = nI ((eL E r).length - t) - nI 1 ∧ ∀ k, (eL E r).length - t ≤ k → k < (eL E r).length → x.2 k = eLa E r ((eL E r).length - k)) (fun q => ∃ lt' : Nat → Int32, q = (cs1, bs1, lt', back, wa, lo) ∧ ∀ k, k < (eL E r).length → lt' k = eLa E r ((eL E r).length - k)) (eL E r).length (by
    rintro t ⟨x3, f⟩ ht ⟨e3, h3⟩
    dsimp only at e3 h3
    subst e3
    obtain ⟨k, hk⟩ : ∃ k, (eL E r).length - t = k + 1 := ⟨(eL E r).length - t - 1, by omega⟩
    have hkl : k < (eL E r).length := by omega
    have hp := at_lt (hB.mem hr) hkl
    have ek : (eL E r).length - (t + 1) = k := by omega
    have e76 : ∀ (z : Int32 × (Nat → Int32) → Option ((Nat → Int32) × (Nat → Int32) × (Nat → Int32) × Int32 × Int32 × Int32)) (y : Int32), y - eF E (at_ (eL E r) k) 5 = eLa E r t - eD E (at_ (eL E r) k) (if t = 0 then 16 else at_ (eL E r) (k + 1)) - eF E (at_ (eL E r) k) 5 → b_X8_latest_76 z (nI r) (nI (eL E r).length) (nI k) (nI (at_ (eL E r) k)) y s cs1 bs1 f back wa lo = z (nI k - nI 1, upd f k (eLa E r (t + 1))) := by
      intro z y hy
      unfold b_X8_latest_76
      simp only [lI]
      rw [stopAt_eq s (by omega), Option.bind_some, stopAt_eq s (by omega), Option.bind_some, hM.2.2.2.1.1 _ hp 4 (by decide), hM.2.2.2.1.1 _ hp 5 (by decide), gI_n (by omega) (by decide), nI_clamp (by omega), mmin_eq, hy, ← Int32.sub_eq_add_neg]
      show _ = z (nI k - nI 1, upd f k (la (eD E) (eF E) (eR E r 2) (eL E r) (t + 1)))
      rw [la_succ, ek]
    refine Or.inl ⟨(nI k - nI 1, upd f k (eLa E r (t + 1))), ⟨by dsimp only; rw [ek], fun j hj1 hj2 => ?_⟩, fun z => ?_⟩
    · dsimp only
      by_cases q : j = k
      · rw [q, pk_us, show (eL E r).length - k = t + 1 by omega]
      · rw [pk_un q]
        exact h3 j (by omega) hj2
    · show b_X8_latest_18 (nI r) (nI (eL E r).length) s cs1 bs1 back wa lo z (nI ((eL E r).length - t) - nI 1) f = _
      unfold b_X8_latest_18
      simp only [lI]
      rw [hk, nI_sub1 (show 0 < k + 1 by omega), Nat.add_sub_cancel, if_neg (nI_lt0 (by omega)), inRow_at hr hMR hl hkl, Option.bind_some, nI_sub1 (show 0 < (eL E r).length by omega)]
      by_cases h0 : t = 0
      · subst h0
        have ekn : k = (eL E r).length - 1 := by omega
        rw [if_pos (congrArg nI ekn), roundAt_eq s (by omega), Option.bind_some, hu 2 (by decide), fromDepot_eq s hM.2.1 hB.2.1 hB.2.2.2.1 hM.2.2.2.1 hN hp, Option.bind_some]
        exact e76 z _ (by rw [if_pos rfl, dist_comm]; rfl)
      · have hk1 : k + 1 < (eL E r).length := by omega
        rw [if_neg (by rw [nI_eq (by omega) (by omega)]; omega), nI_add, gI_n (by omega) (by decide), inRow_at hr hMR hl hk1, Option.bind_some, between_eq s hM.2.1 hB.2.1 hB.2.2.2.1 hM.2.2.2.1 hN hp (at_lt (hB.mem hr) hk1), Option.bind_some, nI_clamp (by omega)]
        exact e76 z _ (by rw [if_neg h0, h3 (k + 1) (by omega) hk1, show (eL E r).length - (k + 1) = t by omega])) (by
    rintro ⟨x3, f⟩ ⟨e3, h3⟩
    dsimp only at e3 h3
    subst e3
    refine ⟨(cs1, bs1, f, back, wa, lo), ⟨f, rfl, fun k hk => h3 k (by omega) hk⟩, fun z => ?_⟩
    show b_X8_latest_18 (nI r) (nI (eL E r).length) s cs1 bs1 back wa lo z (nI ((eL E r).length - (eL E r).length) - nI 1) f = _
    unfold b_X8_latest_18
    simp only [lI]
    rw [Nat.sub_self, if_pos (nI_neg (by decide) (by decide))]) fu (nI (eL E r).length - nI 1, lt) (by unfold fu; omega) ⟨rfl, fun k hk1 hk2 => absurd hk2 (by omega)⟩
  exact ⟨cs1, bs1, lt', back, wa, lo, h2, g2, g3, g4, g5, h1⟩
/-- the back of an empty round -/
theorem bk_nil (E : ES) {r : Nat} (h : (eL E r).length = 0) : eBk E r = eR E r 1 := by
  have e : eL E r = [] := List.length_eq_zero_iff.mp h
  show bk (eD E) (eF E) (eT E r) (eL E r) = _
  rw [e]
  show eR E r 1 + nI 0 + dist (eM E) (eF E) 16 16 = _
  rw [dist_self]
  show eR E r 1 + 0 + 0 = _
  rw [Int32.add_zero, Int32.add_zero]
/-- the tightest stop, its slack -/
def tgF (f : Nat → Int32) (L : List Nat) : Nat → Int32 × Int32
  | 0 => (-nI 5, nI 0)
  | k + 1 => if (tgF f L k).1 = -nI 5 ∨ f k < (tgF f L k).2 then (nI (at_ L k), f k) else tgF f L k
theorem tgF_succ (f : Nat → Int32) (L : List Nat) (k : Nat) : tgF f L (k + 1) = if (tgF f L k).1 = -nI 5 ∨ f k < (tgF f L k).2 then (nI (at_ L k), f k) else tgF f L k := rfl
theorem tgF_or {f : Nat → Int32} {L : List Nat} {n : Nat} (hn : n ≤ 16) (hL : ∀ p ∈ L, p < n) : ∀ k, k ≤ L.length → (tgF f L k).1 = -nI 5 ∨ ∃ a, a < 16 ∧ (tgF f L k).1 = nI a := by
  intro k
  induction k with
  | zero => intro _; exact Or.inl rfl
  | succ k ih =>
    intro hk
    rw [tgF_succ]
    split
    · have := at_lt hL (show k < L.length by omega)
      exact Or.inr ⟨at_ L k, by omega, rfl⟩
    · exact ih (by omega)
theorem tightC {n : Nat} (hn : n ≤ 16) {L : List Nat} (hL : L.length ≤ 16) (hm : ∀ p ∈ L, p < n) {row sl f : Nat → Int32} (hrow : Rep row 0 L) (hsl : ∀ k, k < L.length → sl k = f k) : f_X0_tightest row sl (nI L.length) = some (tgF f L L.length).1 := by
  unfold f_X0_tightest l_X0_tightest_7
  simp only [lI]
  refine lp_eq (F := fun k (x : Int32 × Int32 × Int32) => b_X0_tightest_7 row sl (nI L.length) k x.1 x.2.1 x.2.2) (fun t x => x.2.2 = nI t ∧ x.1 = (tgF f L t).1 ∧ x.2.1 = (tgF f L t).2) _ L.length ?_ ?_ fu _ (by unfold fu; omega) ⟨rfl, rfl, rfl⟩
  · rintro t ⟨x1, x2, x3⟩ ht ⟨e3, e1, e2⟩
    dsimp only at e1 e2 e3
    subst e1 e2 e3
    have hw := hrow t ht
    rw [Nat.zero_add] at hw
    have step : ∀ z, b_X0_tightest_7 row sl (nI L.length) z (tgF f L t).1 (tgF f L t).2 (nI t) = z ((tgF f L (t + 1)).1, (tgF f L (t + 1)).2, nI (t + 1)) := by
      intro z
      unfold b_X0_tightest_7 b_X0_tightest_37
      simp only [lI, nI_add]
      rw [if_neg (nI_ge ht (by omega)), if_neg (nI_ge (by omega) (by decide)), gI_n (by omega) (by decide), gI_n (by omega) (by decide), nI_clamp (by omega), hw, hsl t ht, tgF_succ]
      by_cases q1 : (tgF f L t).1 = -nI 5
      · rw [if_pos q1, if_pos (Or.inl q1)]
      · rw [if_neg q1]
        by_cases q2 : f t < (tgF f L t).2
        · rw [if_neg (Int32.not_le.mpr q2), if_pos (Or.inr q2)]
        · rw [if_pos (Int32.not_lt.mp q2), if_neg (fun z => z.elim q1 q2)]
    exact Or.inl ⟨((tgF f L (t + 1)).1, (tgF f L (t + 1)).2, nI (t + 1)), ⟨rfl, rfl, rfl⟩, step⟩
  · rintro ⟨x1, x2, x3⟩ ⟨e3, e1, e2⟩ z
    dsimp only at e1 e2 e3
    subst e1 e2 e3
    show b_X0_tightest_7 row sl (nI L.length) z (tgF f L L.length).1 (tgF f L L.length).2 (nI L.length) = _
    unfold b_X0_tightest_7
    rw [if_pos (nI_le (Nat.le_refl _) (by omega))]
theorem tightM (hB : GB E) (hM : MW E s) {r : Nat} (hr : r < 4) (cs bs lt : Nat → Int32) : ∃ z, f_X8_tight s cs bs lt (nI r) = some ((tgF (fun k => eLa E r ((eL E r).length - k) - eBg E r k) (eL E r) (eL E r).length).1, z) := by
  have hl := hB.len hr
  obtain ⟨cs', bs', lt', back, wa, lo, g1, g2, -, -, -, g6⟩ := latestM hB hM hr cs bs lt
  generalize hf : (fun k => eLa E r ((eL E r).length - k) - eBg E r k) = f
  refine ⟨(cs', bs', lt', back, wa, lo), ?_⟩
  unfold f_X8_tight l_X8_tight_13
  simp only [lI]
  rw [g1, Option.bind_some]
  dsimp only
  refine lp_eq (F := fun k (x : Int32 × Int32 × Int32) => b_X8_tight_13 (nI r) s cs' bs' lt' back wa lo k x.1 x.2.1 x.2.2) (fun t x => x.2.2 = nI t ∧ x.1 = (tgF f (eL E r) t).1 ∧ x.2.1 = (tgF f (eL E r) t).2) _ (eL E r).length ?_ ?_ fu _ (by unfold fu; omega) ⟨rfl, rfl, rfl⟩
  · rintro t ⟨x1, x2, x3⟩ ht ⟨e3, e1, e2⟩
    dsimp only at e1 e2 e3
    subst e1 e2 e3
    have hft : lt' t - bs' t = f t := by
      rw [g6 t ht, (g2 t ht).2, ← hf]
    have step : ∀ z, b_X8_tight_13 (nI r) s cs' bs' lt' back wa lo z (tgF f (eL E r) t).1 (tgF f (eL E r) t).2 (nI t) = z ((tgF f (eL E r) (t + 1)).1, (tgF f (eL E r) (t + 1)).2, nI (t + 1)) := by
      intro z
      unfold b_X8_tight_13 b_X8_tight_54
      simp only [lI, nI_add]
      rw [sizeM hM hr, Option.bind_some, if_neg (nI_ge ht (by omega)), gI_n (by omega) (by decide), nI_clamp (by omega), inRow_at hr (hM.2.2.2.2.2.2 r hr) hl ht, Option.bind_some, hft, tgF_succ]
      rcases tgF_or (f := f) hB.1 (hB.mem hr) t (by omega) with q1 | ⟨a, ha, q1⟩
      · rw [if_pos (by rw [q1]; exact m5_lt0), if_pos (Or.inl q1)]
      · have q3 : ¬ (tgF f (eL E r) t).1 = -nI 5 := by rw [q1]; exact nI_ne_m5 (by omega)
        rw [if_neg (by rw [q1]; exact nI_lt0 (by omega))]
        by_cases q2 : f t < (tgF f (eL E r) t).2
        · rw [if_pos q2, if_pos (Or.inr q2)]
        · rw [if_neg q2, if_neg (fun z => z.elim q3 q2)]
    exact Or.inl ⟨((tgF f (eL E r) (t + 1)).1, (tgF f (eL E r) (t + 1)).2, nI (t + 1)), ⟨rfl, rfl, rfl⟩, step⟩
  · rintro ⟨x1, x2, x3⟩ ⟨e3, e1, e2⟩ z
    dsimp only at e1 e2 e3
    subst e1 e2 e3
    show b_X8_tight_13 (nI r) s cs' bs' lt' back wa lo z (tgF f (eL E r) (eL E r).length).1 (tgF f (eL E r) (eL E r).length).2 (nI (eL E r).length) = _
    unfold b_X8_tight_13
    simp only [lI]
    rw [sizeM hM hr, Option.bind_some, if_pos (nI_le (Nat.le_refl _) (by omega))]
theorem round_both (hI : GI E) (h : CW E facts ro locked rules sizes rows sc metric fixed) (hM : MW E s) (row cs bs sl : Nat → Int32) (y1 y2 y3 y4 y5 y6 y7 y8 : Int32) (cs2 bs2 lt2 : Nat → Int32) (b w l : Int32) (x1 x2 : Int32) : ∃ v z z', f_X7_round facts rules sizes rows metric row cs bs sl y1 y2 y3 y4 y5 y6 y7 y8 x1 x2 = some (v, z) ∧ f_X8_round s cs2 bs2 lt2 b w l x1 x2 = some (v, z') := by
  have hB := hI.1
  unfold f_X7_round f_X8_round
  simp only [lI]
  rcases roundX x1 with ⟨r, hr, rfl, e1, e2⟩ | ⟨e1, e2⟩
  · have hl := hB.len hr
    rw [e1, e2, isUpTo_isIn]
    simp only [Option.bind_some]
    rw [if_neg h10_, if_neg h10_]
    rcases isIn_eq x2 9 (by decide) with ⟨n, hn, rfl, e3⟩ | ⟨-, e3⟩
    · rw [e3]
      simp only [Option.bind_some]
      rw [if_neg h10_, if_neg h10_]
      obtain ⟨row1, cs1, bs1, sl1, bk1, lo1, mi1, wa1, la1, lt1, c1, c2, c3, c4, c5, c6, c7, c8, c9, c10, c11⟩ := seeC hI h hr row cs bs sl y8
      obtain ⟨cs', bs', lt', back, wa, lo, d1, d2, d3, d4, d5, d6⟩ := latestM hB hM hr cs2 bs2 lt2
      rcases (show n < 3 ∨ n = 3 ∨ n = 4 ∨ n = 5 ∨ n = 6 ∨ n = 7 ∨ n = 8 ∨ n = 9 by omega) with h3 | rfl | rfl | rfl | rfl | rfl | rfl | rfl
      · rw [if_neg (nI_nlt (show n ≤ 2 by omega) (by decide)), if_neg (nI_ge (show n < 4 by omega) (by decide)), ruleOf_eq rules (by omega), roundAt_eq s (by omega), h.2.2.2.2.2.2.1 r hr n h3, hM.2.2.2.2.2.1 r hr n h3]
        simp only [Option.bind_some]
        exact ⟨_, _, _, rfl, rfl⟩
      · rw [if_pos (show nI 2 < nI 3 by decide), if_neg (show ¬ nI 4 ≤ nI 3 by decide), c1, sizeM hM hr]
        simp only [Option.bind_some]
        rw [c2]
        simp only [Option.bind_some]
        rw [c3]
        simp only [Option.bind_some]
        exact ⟨_, _, _, rfl, rfl⟩
      · rw [if_pos (show nI 2 < nI 4 by decide), if_pos (show nI 4 ≤ nI 4 by decide), if_neg (show ¬ nI 4 = nI 5 by decide), if_neg (show ¬ nI 4 = nI 8 by decide), c1, d1]
        simp only [Option.bind_some]
        rw [c2]
        simp only [Option.bind_some]
        rw [c3]
        simp only [Option.bind_some]
        rw [if_neg (show ¬ nI 4 = nI 3 by decide), if_pos trivial, if_neg (show ¬ nI 4 = nI 9 by decide), if_pos trivial]
        exact ⟨_, _, _, rfl, by rw [d5, c7]⟩
      · rw [if_pos (show nI 2 < nI 5 by decide), if_pos (show nI 4 ≤ nI 5 by decide), if_pos (show nI 5 = nI 5 from rfl), c1, milesM hB hM hr]
        simp only [Option.bind_some]
        rw [c2]
        simp only [Option.bind_some]
        rw [c3]
        simp only [Option.bind_some]
        rw [if_neg (show ¬ nI 5 = nI 3 by decide), if_neg (show ¬ nI 5 = nI 4 by decide), if_pos trivial]
        exact ⟨_, _, _, rfl, by rw [c8]⟩
      · rw [if_pos (show nI 2 < nI 6 by decide), if_pos (show nI 4 ≤ nI 6 by decide), if_neg (show ¬ nI 6 = nI 5 by decide), if_neg (show ¬ nI 6 = nI 8 by decide), c1, d1]
        simp only [Option.bind_some]
        rw [c2]
        simp only [Option.bind_some]
        rw [c3]
        simp only [Option.bind_some]
        rw [if_neg (show ¬ nI 6 = nI 3 by decide), if_neg (show ¬ nI 6 = nI 4 by decide), if_neg (show ¬ nI 6 = nI 5 by decide), if_pos trivial, if_neg (show ¬ nI 6 = nI 9 by decide), if_neg (show ¬ nI 6 = nI 4 by decide), if_pos trivial]
        refine ⟨_, _, (cs', bs', lt', back, wa, lo), rfl, ?_⟩
        rw [d3, c6]
        by_cases h0 : (eL E r).length = 0
        · rw [if_pos h0, bk_nil E h0]
        · rw [if_neg h0]
      · rw [if_pos (show nI 2 < nI 7 by decide), if_pos (show nI 4 ≤ nI 7 by decide), if_neg (show ¬ nI 7 = nI 5 by decide), if_neg (show ¬ nI 7 = nI 8 by decide), c1, d1]
        simp only [Option.bind_some]
        rw [c2]
        simp only [Option.bind_some]
        rw [c3]
        simp only [Option.bind_some]
        rw [if_neg (show ¬ nI 7 = nI 3 by decide), if_neg (show ¬ nI 7 = nI 4 by decide), if_neg (show ¬ nI 7 = nI 5 by decide), if_neg (show ¬ nI 7 = nI 6 by decide), if_pos trivial, if_neg (show ¬ nI 7 = nI 9 by decide), if_neg (show ¬ nI 7 = nI 4 by decide), if_neg (show ¬ nI 7 = nI 6 by decide)]
        exact ⟨_, _, _, rfl, by rw [d4, c9]⟩
      · obtain ⟨z, t1⟩ := tightM hB hM hr cs2 bs2 lt2
        have t2 := tightC (f := fun k => eLa E r ((eL E r).length - k) - eBg E r k) hB.1 hl (hB.mem hr) c4 c10
        rw [if_pos (show nI 2 < nI 8 by decide), if_pos (show nI 4 ≤ nI 8 by decide), if_neg (show ¬ nI 8 = nI 5 by decide), if_pos (show nI 8 = nI 8 from rfl), c1, t1]
        simp only [Option.bind_some]
        rw [c2]
        simp only [Option.bind_some]
        rw [c3]
        simp only [Option.bind_some]
        rw [if_neg (show ¬ nI 8 = nI 3 by decide), if_neg (show ¬ nI 8 = nI 4 by decide), if_neg (show ¬ nI 8 = nI 5 by decide), if_neg (show ¬ nI 8 = nI 6 by decide), if_neg (show ¬ nI 8 = nI 7 by decide), if_pos trivial, t2]
        simp only [Option.bind_some]
        exact ⟨_, _, _, rfl, rfl⟩
      · rw [if_pos (show nI 2 < nI 9 by decide), if_pos (show nI 4 ≤ nI 9 by decide), if_neg (show ¬ nI 9 = nI 5 by decide), if_neg (show ¬ nI 9 = nI 8 by decide), c1, d1]
        simp only [Option.bind_some]
        rw [c2]
        simp only [Option.bind_some]
        rw [c3]
        simp only [Option.bind_some]
        rw [if_neg (show ¬ nI 9 = nI 3 by decide), if_neg (show ¬ nI 9 = nI 4 by decide), if_neg (show ¬ nI 9 = nI 5 by decide), if_neg (show ¬ nI 9 = nI 6 by decide), if_neg (show ¬ nI 9 = nI 7 by decide), if_neg (show ¬ nI 9 = nI 8 by decide), if_pos trivial, sizeM hM hr]
        unfold f_X0_canLeaveLater
        simp only [Option.bind_some, lI]
        by_cases h0 : (eL E r).length = 0
        · rw [if_pos (by rw [h0]; exact Int32.le_refl _), if_pos (by rw [h0])]
          simp only [Option.bind_some]
          exact ⟨_, _, _, rfl, rfl⟩
        · have hp0 : 0 < (eL E r).length := by omega
          rw [if_neg (by rw [nI_leI (by omega) (by decide)]; omega), if_neg (by rw [nI_eq (by omega) (by decide)]; exact h0), nI_clamp (by decide), d6 0 hp0, (d2 0 hp0).1, c11 hp0]
          simp only [Option.bind_some]
          exact ⟨_, _, _, rfl, by rw [Nat.sub_zero]⟩
    · rw [e3]
      simp only [Option.bind_some]
      rw [if_pos trivial, if_pos trivial]
      exact ⟨_, _, _, rfl, rfl⟩
  · rw [e1, e2]
    simp only [Option.bind_some]
    rw [if_pos trivial, if_pos trivial]
    exact ⟨_, _, _, rfl, rfl⟩
theorem of_both (hI : GI E) (h : CW E facts ro locked rules sizes rows sc metric fixed) (hM : MW E s) (row cs bs sl : Nat → Int32) (y1 y2 y3 y4 y5 y6 y7 y8 : Int32) (cs2 bs2 lt2 : Nat → Int32) (b w l : Int32) (x1 x2 : Int32) : ∃ v z z', f_X7_of facts ro locked rules sizes rows sc metric row cs bs sl y1 y2 y3 y4 y5 y6 y7 y8 x1 x2 = some (v, z) ∧ f_X8_of s cs2 bs2 lt2 b w l x1 x2 = some (v, z') := by
  have hB := hI.1
  have hN := hB.1
  unfold f_X7_of f_X8_of
  simp only [lI]
  rcases stopX (s := s) hN h.1 hM.1 x1 with ⟨p, hp, rfl, e1, e2⟩ | ⟨e1, e2⟩
  · rw [e1, e2, isUpTo_isIn]
    simp only [Option.bind_some]
    rw [if_neg h10_, if_neg h10_]
    rcases isIn_eq x2 11 (by decide) with ⟨n, hn, rfl, e3⟩ | ⟨-, e3⟩
    · rw [e3]
      simp only [Option.bind_some]
      rw [if_neg h10_, if_neg h10_]
      by_cases h6 : n < 6
      · rw [if_neg (nI_nlt (show n ≤ 5 by omega) (by decide)), if_neg (nI_ge h6 (by decide)), fc_eq h.2.2.2.1 hN hp h6, stopAt_eq s (by omega), hM.2.2.2.1.1 p hp n h6]
        simp only [Option.bind_some]
        exact ⟨_, _, _, rfl, rfl⟩
      · rw [if_pos (nI_lt (show 5 < n by omega) (by omega)), if_pos (nI_le (show 6 ≤ n by omega) (by omega)), (placeOf_eq hB h hp).2, rofM hB hM hp]
        simp only [Option.bind_some]
        by_cases h8 : n = 8
        · subst h8
          rw [if_pos (show nI 8 = nI 8 from rfl), if_pos (show nI 8 = nI 8 from rfl), lockC hB h hp, lockM hB hM hp]
          simp only [Option.bind_some]
          rcases kk hB hp with k | k
          · rw [k, if_pos rfl]
            exact ⟨_, _, _, rfl, rfl⟩
          · rw [k, if_neg h10_]
            exact ⟨_, _, _, rfl, rfl⟩
        · have hn8 : ¬ nI n = nI 8 := by rw [nI_eq (by omega) (by decide)]; exact h8
          rw [if_neg hn8, if_neg hn8]
          by_cases q1 : rof (eL E) p = -nI 5
          · rw [if_neg (show ¬ nI 0 ≤ rof (eL E) p by rw [q1]; exact m5_lt), if_pos q1]
            by_cases h66 : nI n = nI 6
            · rw [if_pos h66]
              exact ⟨_, _, _, rfl, by rw [q1]⟩
            · rw [if_neg h66]
              exact ⟨_, _, _, rfl, by rw [q1]⟩
          · obtain ⟨w1, w2, w3, w4, w5⟩ := wrk q1
            have hl := hB.len w1
            obtain ⟨row1, cs1, bs1, sl1, bk1, lo1, mi1, wa1, la1, lt1, c1, c2, c3, c4, c5, c6, c7, c8, c9, c10, c11⟩ := seeC hI h w1 row cs bs sl y8
            obtain ⟨cs', bs', lt', back, wa, lo, d1, d2, d3, d4, d5, d6⟩ := latestM hB hM w1 cs2 bs2 lt2
            have hpl : f_X6_placeOf ro sizes rows (nI p) = some (nI (wk E p)) := (placeOf_eq hB h hp).1 _ w1 w2
            rw [if_neg q1, w3, if_pos (nI_0le (show wr E p < 2 ^ 31 by omega)), hpl, (whereM hB hM w1 w4 w5).2]
            simp only [Option.bind_some]
            rw [d1]
            simp only [Option.bind_some]
            unfold f_X7_timeAt f_X0_comesAt f_X0_beginsAt f_X0_slackAt
            simp only [lI]
            rw [c1]
            simp only [Option.bind_some]
            rw [c2]
            simp only [Option.bind_some]
            rw [c3]
            simp only [Option.bind_some]
            have hk16 : wk E p < 16 := by omega
            rcases (show n = 6 ∨ n = 7 ∨ n = 9 ∨ n = 10 ∨ n = 11 by omega) with rfl | rfl | rfl | rfl | rfl
            · rw [if_pos rfl, if_pos rfl]
              exact ⟨_, _, _, rfl, rfl⟩
            · rw [if_neg (show ¬ nI 7 = nI 6 by decide), if_neg (show ¬ nI 7 = nI 6 by decide), if_pos rfl, if_pos rfl]
              exact ⟨_, _, _, rfl, rfl⟩
            · rw [if_neg (show ¬ nI 9 = nI 6 by decide), if_neg (show ¬ nI 9 = nI 7 by decide), if_pos (show nI 9 = nI 9 from rfl), if_neg (show ¬ nI 9 = nI 6 by decide), if_neg (show ¬ nI 9 = nI 7 by decide), if_pos (show nI 9 = nI 9 from rfl), chk_in hk16 (by decide), gI_n hk16 (by decide), nI_clamp (by omega), (d2 _ w4).1, (c5 _ w4).1]
              exact ⟨_, _, _, rfl, rfl⟩
            · rw [if_neg (show ¬ nI 10 = nI 6 by decide), if_neg (show ¬ nI 10 = nI 7 by decide), if_neg (show ¬ nI 10 = nI 9 by decide), if_pos (show nI 10 = nI 10 from rfl), if_neg (show ¬ nI 10 = nI 6 by decide), if_neg (show ¬ nI 10 = nI 7 by decide), if_neg (show ¬ nI 10 = nI 9 by decide), if_pos (show nI 10 = nI 10 from rfl), chk_in hk16 (by decide), gI_n hk16 (by decide), nI_clamp (by omega), (d2 _ w4).2, (c5 _ w4).2]
              exact ⟨_, _, _, rfl, rfl⟩
            · rw [if_neg (show ¬ nI 11 = nI 6 by decide), if_neg (show ¬ nI 11 = nI 7 by decide), if_neg (show ¬ nI 11 = nI 9 by decide), if_neg (show ¬ nI 11 = nI 10 by decide), if_neg (show ¬ nI 11 = nI 6 by decide), if_neg (show ¬ nI 11 = nI 7 by decide), if_neg (show ¬ nI 11 = nI 9 by decide), if_neg (show ¬ nI 11 = nI 10 by decide), chk_in hk16 (by decide), gI_n hk16 (by decide), nI_clamp (by omega), (d2 _ w4).2, d6 _ w4, c10 _ w4]
              exact ⟨_, _, _, rfl, rfl⟩
    · rw [e3]
      simp only [Option.bind_some]
      rw [if_pos trivial, if_pos trivial]
      exact ⟨_, _, _, rfl, rfl⟩
  · rw [e1, e2]
    simp only [Option.bind_some]
    rw [if_pos trivial, if_pos trivial]
    exact ⟨_, _, _, rfl, rfl⟩
theorem late_both (hB : GB E) (h : CW E facts ro locked rules sizes rows sc metric fixed) (hM : MW E s) (row cs bs : Nat → Int32) (y1 y2 y3 y4 y5 y6 y7 : Int32) (cs2 bs2 : Nat → Int32) (b w l : Int32) (x1 x2 : Int32) : ∃ v z z', f_X7_late facts rules sizes rows metric row cs bs y1 y2 y3 y4 y5 y6 y7 x1 x2 = some (v, z) ∧ f_X8_late s cs2 bs2 b w l x1 x2 = some (v, z') := by
  unfold f_X7_late f_X8_late
  simp only [lI]
  rcases roundX x1 with ⟨r, hr, rfl, e1, e2⟩ | ⟨e1, e2⟩
  · have hl := hB.len hr
    rw [e1, e2, isUpTo_isIn]
    simp only [Option.bind_some]
    rw [if_neg h10_, if_neg h10_]
    rcases isIn_eq x2 1999 (by decide) with ⟨n, hn, rfl, e3⟩ | ⟨-, e3⟩
    · rw [e3]
      simp only [Option.bind_some]
      rw [if_neg h10_, if_neg h10_]
      obtain ⟨row1, h1, h2⟩ := loadC hB h hr row
      obtain ⟨⟨v, cs1, bs1, bk1, lo1, mi1, wa1, la1⟩, h3, h4⟩ := folC hB h hr h1 hl (hB.mem hr) cs bs (nI n)
      obtain ⟨v2, cs3, bs3, back, wa, lo, g1, -, -, -, -, g6⟩ := lateM hB hM hr cs2 bs2 (nI n)
      have hla : (eL E r).length = 0 → la1 = -nI 5 := by
        intro h0
        have hon : onT (eD E) (eF E) (eR E r 1 + nI n) (eL E r) := fun k hk => absurd hk (by omega)
        have := (h3.1 hon).2.2.2.2.2
        rw [if_pos (Or.inl h0)] at this
        exact this
      have hv : la1 = v2 := by
        by_cases hon : onT (eD E) (eF E) (eR E r 1 + nI n) (eL E r)
        · have a := (h3.1 hon).2.2.2.2.2
          have b := g6.1 hon
          dsimp only at a
          rw [a, b]
        · obtain ⟨j, j1, j2, j3, j4⟩ := h3.2.1 hon
          obtain ⟨i, i1, i2, i3, i4⟩ := g6.2 hon
          dsimp only at j4
          have : i = j := by
            rcases Nat.lt_trichotomy i j with q | q | q
            · exact absurd (j3 i q) i2
            · exact q
            · exact absurd (i3 j q) j2
          rw [j4, i4, this]
      rw [h2, sizeM hM hr]
      simp only [Option.bind_some]
      rw [h4, g1]
      simp only [Option.bind_some]
      by_cases h0 : (eL E r).length = 0
      · rw [if_pos (by rw [h0])]
        exact ⟨_, _, _, rfl, by rw [hla h0]⟩
      · rw [if_neg (by rw [nI_eq (by omega) (by decide)]; exact h0)]
        exact ⟨_, _, _, rfl, by rw [hv]⟩
    · rw [e3]
      simp only [Option.bind_some]
      rw [if_pos trivial, if_pos trivial]
      exact ⟨_, _, _, rfl, rfl⟩
  · rw [e1, e2]
    simp only [Option.bind_some]
    rw [if_pos trivial, if_pos trivial]
    exact ⟨_, _, _, rfl, rfl⟩
theorem at_both (hB : GB E) (h : CW E facts ro locked rules sizes rows sc metric fixed) (hM : MW E s) (x1 x2 : Int32) : ∃ v, f_X7_at sizes rows x1 x2 = some v ∧ f_X8_at s x1 x2 = some v := by
  unfold f_X7_at f_X8_at
  simp only [lI]
  rcases roundX x1 with ⟨r, hr, rfl, e1, e2⟩ | ⟨e1, e2⟩
  · have hl := hB.len hr
    have hS := h.2.2.2.2.2.2.2 r hr
    rw [e1, e2]
    simp only [Option.bind_some]
    rw [if_neg h10_, if_neg h10_, sizeOf_eq sizes hr, sizeM hM hr, hS.1]
    simp only [Option.bind_some]
    unfold f_X8_isIn
    rcases pk_ix x2 (show (eL E r).length < 2 ^ 31 by omega) with h3 | h3 | ⟨k, hk, rfl⟩
    · have h3' : x2 < nI 0 := h3
      rw [if_pos h3', if_pos h3']
      exact ⟨_, rfl, rfl⟩
    · by_cases h0 : x2 < nI 0
      · rw [if_pos h0, if_pos h0]
        exact ⟨_, rfl, rfl⟩
      · have hx : nI (eL E r).length - nI 1 < x2 := by
          by_cases hz : (eL E r).length = 0
          · rw [hz]
            exact Int32.lt_of_lt_of_le (show nI 0 - nI 1 < nI 0 by decide) (Int32.not_lt.mp h0)
          · rw [nI_sub1 (by omega)]
            exact Int32.lt_of_lt_of_le (nI_lt (show (eL E r).length - 1 < (eL E r).length by omega) (by omega)) h3
        rw [if_neg h0, if_neg h0, if_pos h3, if_pos hx]
        exact ⟨_, rfl, rfl⟩
    · rw [if_neg (nI_lt0 (by omega)), if_neg (nI_lt0 (by omega)), if_neg (nI_ge hk (by omega)), nI_sub1 (by omega), if_neg (nI_nlt (by omega) (by omega)), rowAt_eq hr hS.1 hS.2 hl (by omega)]
      simp only [Option.bind_some]
      rw [if_neg (show ¬ (1 : Int32) = nI 0 by decide), inRow_at hr (hM.2.2.2.2.2.2 r hr) hl hk]
      exact ⟨_, rfl, rfl⟩
  · rw [e1, e2]
    simp only [Option.bind_some]
    rw [if_pos trivial, if_pos trivial]
    exact ⟨_, rfl, rfl⟩
end TIMES
