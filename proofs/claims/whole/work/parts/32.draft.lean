/-! B5: a Draft follows a list -/
theorem Rep.upd {f : Nat → Int32} {o : Nat} {L : List Nat} (h : Rep f o L) {k : Nat} (hk : k < o ∨ o + L.length ≤ k) (v : Int32) : Rep (upd f k v) o L := fun j hj => by
  rw [pk_un (by omega)]
  exact h j hj
theorem at_take {L : List Nat} {i k : Nat} (h : k < i) : at_ (L.take i) k = at_ L k := by
  unfold at_
  rw [List.getD_eq_getElem?_getD, List.getD_eq_getElem?_getD, List.getElem?_take]
  rw [if_pos h]
theorem load_eq {row sizes rows : Nat → Int32} {r : Nat} {L : List Nat} (hr : r < 4) (hZ : sizes r = nI L.length) (hR : Rep rows (16 * r) L) (hL : L.length ≤ 16) : ∃ row', Rep row' 0 L ∧ f_X0_load row sizes rows (nI r) = some (row', nI r, nI L.length) := by
  unfold f_X0_load l_X0_load_16
  simp only [lI]
  rw [sizeOf_eq sizes hr, Option.bind_some, hZ]
  obtain ⟨q, ⟨row', h1, rfl⟩, h3⟩ := lp_inv (F := fun k x => b_X0_load_16 (nI r) (nI r) (nI L.length) sizes rows k x.1 x.2) (fun i x => x.1 = nI i ∧ ∀ j, j < i → x.2 j = nI (at_ L j)) (fun q => ∃ row', Rep row' 0 L ∧ q = (row', nI r, nI L.length)) L.length
    (by
      rintro i ⟨x3, f⟩ hi ⟨rfl, h2⟩
      refine Or.inl ⟨(nI (i + 1), upd f i (nI (at_ L i))), ⟨rfl, fun j hj => ?_⟩, fun k => ?_⟩
      · by_cases hji : j = i
        · subst hji; exact pk_us
        · show upd f i _ j = _
          rw [pk_un hji]
          exact h2 j (by omega)
      · show b_X0_load_16 _ _ _ _ _ k (nI i) f = _
        unfold b_X0_load_16
        simp only [lI, nI_add]
        rw [if_neg (nI_ge hi (by omega)), if_neg (nI_ge (by omega) (by decide)), rowAt_eq hr hZ hR hL (by omega), Option.bind_some, gI_n (by omega) (by decide), nI_clamp (by omega)])
    (by
      rintro ⟨x3, f⟩ ⟨rfl, h2⟩
      refine ⟨(f, nI r, nI L.length), ⟨f, fun j hj => by rw [Nat.zero_add]; exact h2 j hj, rfl⟩, fun k => ?_⟩
      show b_X0_load_16 _ _ _ _ _ k (nI L.length) f = _
      unfold b_X0_load_16
      rw [if_pos (nI_le (Nat.le_refl _) (by omega))])
    fu (nI 0, row) (by unfold fu; omega) ⟨rfl, fun j hj => absurd hj (Nat.not_lt_zero j)⟩
  exact ⟨row', h1, h3⟩
/-- what a Draft holds of a row that was followed -/
def Fol (me : Int32) (fc : Nat → Nat → Int32) (t0 home room : Int32) (L : List Nat) (q : Int32 × (Nat → Int32) × (Nat → Int32) × Int32 × Int32 × Int32 × Int32 × Int32) : Prop :=
  (onT (dist me fc) fc t0 L → (∀ k, k < L.length → q.2.1 k = cm (dist me fc) fc t0 L k ∧ q.2.2.1 k = bg (dist me fc) fc t0 L k) ∧ q.2.2.2.1 = bk (dist me fc) fc t0 L ∧ q.2.2.2.2.1 = ld fc L L.length ∧ q.2.2.2.2.2.1 = mi (dist me fc) L L.length + dist me fc (pv_ L L.length) 16 ∧ q.2.2.2.2.2.2.1 = wt (dist me fc) fc t0 L L.length ∧ q.2.2.2.2.2.2.2 = (if L.length = 0 ∨ bk (dist me fc) fc t0 L ≤ home then -nI 5 else nI L.length)) ∧
  (¬ onT (dist me fc) fc t0 L → ∃ j, j < L.length ∧ ¬ inT (dist me fc) fc t0 L j ∧ (∀ i, i < j → inT (dist me fc) fc t0 L i) ∧ q.2.2.2.2.2.2.2 = nI j) ∧
  (HO (dist me fc) fc t0 home room L ∧ q.1 = nI 1 ∨ ¬ HO (dist me fc) fc t0 home room L ∧ q.1 = nI 0)
theorem nI_ne_m5 {a : Nat} (h : a < 2 ^ 31) : ¬ nI a = -nI 5 := by
  intro q
  have h2 := congrArg Int32.toInt q
  rw [nI_toInt h] at h2
  have h3 : (-nI 5).toInt = -5 := by decide
  rw [h3] at h2
  omega
theorem follow_eq {row comes begins facts rules : Nat → Int32} {me : Int32} {n r : Nat} {fc : Nat → Nat → Int32} {L : List Nat} (hr : r < 4) (hrow : Rep row 0 L) (hL : L.length ≤ 16) (hLn : ∀ p ∈ L, p < n) (hn : n ≤ 16) (hF : FcR facts n fc) (d : Int32) : ∃ q, Fol me fc (rules (3 * r + 1) + d) (rules (3 * r + 2)) (rules (3 * r)) L q ∧ f_X0_follow row comes begins (nI r) (nI L.length) facts rules me d = some q := by
  have h309 : ∀ (cs bs : Nat → Int32) (back lo mi' wa lat : Int32), b_X0_follow_309 cs bs (nI r) back lo mi' wa lat rules = some (if lat = -nI 5 ∧ lo ≤ rules (3 * r) then nI 1 else nI 0, cs, bs, back, lo, mi', wa, lat) := by
    intro cs bs back lo mi' wa lat
    unfold b_X0_follow_309
    simp only [lI]
    by_cases h : lat = -nI 5
    · rw [if_pos h, ruleOf_eq rules (by omega), Option.bind_some]
      by_cases h2 : rules (3 * r + 0) < lo
      · rw [if_pos h2, if_neg (fun q => Int32.not_le.mpr h2 q.2)]
      · rw [if_neg h2, if_pos ⟨h, Int32.not_lt.mp h2⟩]
    · rw [if_neg h, if_neg (fun q => h q.1)]
  generalize ht0 : rules (3 * r + 1) + d = t0
  generalize hD : dist me fc = D
  -- behind the last stop
  have h240 : ∀ (cs bs : Nat → Int32) (t lo mi' wa lat : Int32) (a : Nat), isP n a → b_X0_follow_240 t (nI a) cs bs (nI r) (nI L.length) lo mi' wa lat facts rules me = some (
      let back := t + D a 16
      let lat' := if L.length = 0 ∨ lat ≠ -nI 5 ∨ back ≤ rules (3 * r + 2) then lat else nI L.length
      (if lat' = -nI 5 ∧ lo ≤ rules (3 * r) then nI 1 else nI 0, cs, bs, back, lo, mi' + D a 16, wa, lat')) := by
    intro cs bs t lo mi' wa lat a ha
    unfold b_X0_follow_240
    simp only [lI]
    rw [way_eq hF hn ha (Or.inr rfl), Option.bind_some, hD]
    by_cases h0 : L.length = 0
    · rw [if_pos (by rw [h0]; exact Int32.le_refl _), h309, if_pos (Or.inl h0)]
    · rw [if_neg (by rw [nI_leI (by omega) (by decide)]; omega)]
      by_cases h : lat = -nI 5
      · rw [if_pos h, ruleOf_eq rules (by omega), Option.bind_some]
        by_cases h2 : t + D a 16 ≤ rules (3 * r + 2)
        · rw [if_pos h2, h309, if_pos (Or.inr (Or.inr h2))]
        · have hc : ¬ (L.length = 0 ∨ lat ≠ -nI 5 ∨ t + D a 16 ≤ rules (3 * r + 2)) := by simp [h0, h, h2]
          rw [if_neg h2, h309]
          simp only [if_neg hc]
      · rw [if_neg h, h309, if_pos (Or.inr (Or.inl h))]
  unfold f_X0_follow l_X0_follow_40
  simp only [lI]
  rw [ruleOf_eq rules (by omega), Option.bind_some, ht0]
  refine lp_inv (F := fun k x => b_X0_follow_40 row (nI r) (nI L.length) facts rules me k x.1 x.2.1 x.2.2.1 x.2.2.2.1 x.2.2.2.2.1 x.2.2.2.2.2.1 x.2.2.2.2.2.2.1 x.2.2.2.2.2.2.2.1 x.2.2.2.2.2.2.2.2)
    (fun i x => x.2.1 = nI (pv_ L i) ∧ x.2.2.1 = nI i ∧ ((x.1 = tm D fc t0 L i ∧ (∀ j, j < i → x.2.2.2.1 j = cm D fc t0 L j ∧ x.2.2.2.2.1 j = bg D fc t0 L j ∧ inT D fc t0 L j) ∧ x.2.2.2.2.2.1 = ld fc L i ∧ x.2.2.2.2.2.2.1 = mi D L i ∧ x.2.2.2.2.2.2.2.1 = wt D fc t0 L i ∧ x.2.2.2.2.2.2.2.2 = -nI 5) ∨ (0 < i ∧ ¬ inT D fc t0 L (i - 1) ∧ (∀ j, j < i - 1 → inT D fc t0 L j) ∧ x.2.2.2.2.2.2.2.2 = nI (i - 1))))
    _ L.length ?_ ?_ fu _ (by unfold fu; omega) ?_
  · rintro i ⟨x3, x4, x5, cs, bs, lo, mi', wa, lat⟩ hi ⟨e4, e5, hs⟩
    dsimp only at e4 e5 hs
    subst e4 e5
    have hat := at_lt hLn hi
    rcases hs with ⟨rfl, hj, rfl, rfl, rfl, rfl⟩ | ⟨h0, hla, hj, rfl⟩
    · by_cases hin : inT D fc t0 L i
      · refine Or.inl ⟨(tm D fc t0 L (i + 1), nI (pv_ L (i + 1)), nI (i + 1), upd cs i (cm D fc t0 L i), upd bs i (bg D fc t0 L i), ld fc L (i + 1), mi D L (i + 1), wt D fc t0 L (i + 1), -nI 5), ⟨rfl, rfl, Or.inl ⟨rfl, fun j hji => ?_, rfl, rfl, rfl, rfl⟩⟩, fun k => ?_⟩
        · by_cases e : j = i
          · subst e; exact ⟨pk_us, pk_us, hin⟩
          · dsimp only
            rw [pk_un e, pk_un e]
            exact hj j (by omega)
        · dsimp only
          unfold b_X0_follow_40
          simp only [lI]
          rw [if_neg (nI_ge hi (by omega)), if_neg (nI_ge (by omega) (by decide)), if_pos trivial, gI_n (by omega) (by decide), nI_clamp (by omega)]
          have er : row i = nI (at_ L i) := by have := hrow i hi; rwa [Nat.zero_add] at this
          rw [er, way_eq hF hn (pv_P hLn i) (Or.inl hat), Option.bind_some, hD, fc_eq hF hn hat (by decide), Option.bind_some, pk_us]
          have e134 : ∀ y2, y2 = bg D fc t0 L i → b_X0_follow_134 k (nI i) (nI (at_ L i)) (D (pv_ L i) (at_ L i)) (nI i) y2 row (upd cs i (tm D fc t0 L i + D (pv_ L i) (at_ L i))) bs (nI r) (nI L.length) (ld fc L i) (mi D L i) (wt D fc t0 L i) facts rules me = k (tm D fc t0 L (i + 1), nI (pv_ L (i + 1)), nI (i + 1), upd cs i (cm D fc t0 L i), upd bs i (bg D fc t0 L i), ld fc L (i + 1), mi D L (i + 1), wt D fc t0 L (i + 1), -nI 5) := by
            rintro y2 rfl
            unfold b_X0_follow_134
            simp only [lI]
            rw [gI_n (by omega) (by decide), gI_n (by omega) (by decide), fc_eq hF hn hat (by decide), Option.bind_some, nI_clamp (by omega), pk_us, if_pos (show bg D fc t0 L i ≤ fc (at_ L i) 4 from hin)]
            unfold b_X0_follow_160
            simp only [lI, nI_add]
            rw [gI_n (by omega) (by decide), fc_eq hF hn hat (by decide), Option.bind_some, fc_eq hF hn hat (by decide), Option.bind_some, nI_clamp (by omega), pk_us, pk_us]
            rfl
          by_cases hfi : fc (at_ L i) 3 ≤ tm D fc t0 L i + D (pv_ L i) (at_ L i)
          · rw [if_pos hfi]
            exact e134 _ (by unfold bg bgn cm; rw [if_pos hfi])
          · rw [if_neg hfi]
            exact e134 _ (by unfold bg bgn cm; rw [if_neg hfi])
      · refine Or.inl ⟨(tm D fc t0 L (i + 1), nI (pv_ L (i + 1)), nI (i + 1), upd cs i (cm D fc t0 L i), upd bs i (bg D fc t0 L i), ld fc L (i + 1), mi D L (i + 1), wt D fc t0 L (i + 1), nI i), ⟨rfl, rfl, Or.inr ⟨Nat.succ_pos i, hin, fun j hji => (hj j hji).2.2, rfl⟩⟩, fun k => ?_⟩
        dsimp only
        unfold b_X0_follow_40
        simp only [lI]
        rw [if_neg (nI_ge hi (by omega)), if_neg (nI_ge (by omega) (by decide)), if_pos trivial, gI_n (by omega) (by decide), nI_clamp (by omega)]
        have er : row i = nI (at_ L i) := by have := hrow i hi; rwa [Nat.zero_add] at this
        rw [er, way_eq hF hn (pv_P hLn i) (Or.inl hat), Option.bind_some, hD, fc_eq hF hn hat (by decide), Option.bind_some, pk_us]
        have e134 : ∀ y2, y2 = bg D fc t0 L i → b_X0_follow_134 k (nI i) (nI (at_ L i)) (D (pv_ L i) (at_ L i)) (nI i) y2 row (upd cs i (tm D fc t0 L i + D (pv_ L i) (at_ L i))) bs (nI r) (nI L.length) (ld fc L i) (mi D L i) (wt D fc t0 L i) facts rules me = k (tm D fc t0 L (i + 1), nI (pv_ L (i + 1)), nI (i + 1), upd cs i (cm D fc t0 L i), upd bs i (bg D fc t0 L i), ld fc L (i + 1), mi D L (i + 1), wt D fc t0 L (i + 1), nI i) := by
          rintro y2 rfl
          unfold b_X0_follow_134
          simp only [lI]
          rw [gI_n (by omega) (by decide), gI_n (by omega) (by decide), fc_eq hF hn hat (by decide), Option.bind_some, nI_clamp (by omega), pk_us, if_neg (show ¬ bg D fc t0 L i ≤ fc (at_ L i) 4 from hin)]
          unfold b_X0_follow_160
          simp only [lI, nI_add]
          rw [gI_n (by omega) (by decide), fc_eq hF hn hat (by decide), Option.bind_some, fc_eq hF hn hat (by decide), Option.bind_some, nI_clamp (by omega), pk_us, pk_us]
          rfl
        by_cases hfi : fc (at_ L i) 3 ≤ tm D fc t0 L i + D (pv_ L i) (at_ L i)
        · rw [if_pos hfi]
          exact e134 _ (by unfold bg bgn cm; rw [if_pos hfi])
        · rw [if_neg hfi]
          exact e134 _ (by unfold bg bgn cm; rw [if_neg hfi])
    · have hb := h240 cs bs x3 lo mi' wa (nI (i - 1)) (pv_ L i) (pv_P hLn i)
      refine Or.inr ⟨_, ?_, fun k => Eq.trans ?_ hb⟩
      rotate_left 1
      · dsimp only
        unfold b_X0_follow_40
        simp only [lI]
        rw [if_neg (nI_ge hi (by omega)), if_neg (nI_ge (by omega) (by decide)), if_neg (nI_ne_m5 (by omega))]
      refine ⟨?_, ?_, ?_⟩
      · intro hon
        exact absurd (hon (i - 1) (by omega)) (hD ▸ hla)
      · intro _
        refine ⟨i - 1, by omega, hD ▸ hla, fun j hji => hD ▸ hj j hji, ?_⟩
        dsimp only
        rw [if_pos (Or.inr (Or.inl (nI_ne_m5 (by omega))))]
      · refine Or.inr ⟨fun q => hla (hD ▸ q.1 (i - 1) (by omega)), ?_⟩
        dsimp only
        rw [if_pos (Or.inr (Or.inl (nI_ne_m5 (by omega)))), if_neg (fun q => nI_ne_m5 (by omega) q.1)]
  · rintro ⟨x3, x4, x5, cs, bs, lo, mi', wa, lat⟩ ⟨e4, e5, hs⟩
    dsimp only at e4 e5 hs
    subst e4 e5
    have hb := h240 cs bs x3 lo mi' wa lat (pv_ L L.length) (pv_P hLn _)
    refine ⟨_, ?_, fun k => Eq.trans ?_ hb⟩
    rotate_left 1
    · dsimp only
      unfold b_X0_follow_40
      rw [if_pos (nI_le (Nat.le_refl _) (by omega))]
    refine ⟨?_, ?_, ?_⟩
    · intro hon
      rcases hs with ⟨rfl, hj, rfl, rfl, rfl, rfl⟩ | ⟨h0, hla, hj, rfl⟩
      · rw [hD]
        refine ⟨fun k hk => ⟨(hj k hk).1, (hj k hk).2.1⟩, rfl, rfl, rfl, rfl, ?_⟩
        dsimp only
        by_cases h0 : L.length = 0
        · rw [if_pos (Or.inl h0), if_pos (Or.inl h0)]
        · by_cases h2 : bk D fc t0 L ≤ rules (3 * r + 2)
          · have h2' : tm D fc t0 L L.length + D (pv_ L L.length) 16 ≤ rules (3 * r + 2) := h2
            rw [if_pos (Or.inr (Or.inr h2')), if_pos (Or.inr h2)]
          · have h2' : ¬ tm D fc t0 L L.length + D (pv_ L L.length) 16 ≤ rules (3 * r + 2) := h2
            rw [if_neg (by simp [h0, h2']), if_neg (by simp [h0, h2])]
      · exact absurd (hD ▸ hon (L.length - 1) (by omega)) hla
    · intro hon
      rcases hs with ⟨rfl, hj, rfl, rfl, rfl, rfl⟩ | ⟨h0, hla, hj, rfl⟩
      · exact absurd (fun k hk => hD ▸ (hj k hk).2.2) hon
      · refine ⟨L.length - 1, by omega, hD ▸ hla, fun j hji => hD ▸ hj j hji, ?_⟩
        dsimp only
        rw [if_pos (Or.inr (Or.inl (nI_ne_m5 (by omega))))]
    · rcases hs with ⟨rfl, hj, rfl, rfl, rfl, rfl⟩ | ⟨h0, hla, hj, rfl⟩
      · have hon : onT D fc t0 L := fun k hk => (hj k hk).2.2
        rw [hD]
        dsimp only
        by_cases h0 : L.length = 0
        · rw [if_pos (Or.inl h0)]
          by_cases h3 : ld fc L L.length ≤ rules (3 * r)
          · rw [if_pos ⟨rfl, h3⟩]
            exact Or.inl ⟨⟨hon, Or.inl (List.length_eq_zero_iff.mp h0), h3⟩, rfl⟩
          · rw [if_neg (fun q => h3 q.2)]
            exact Or.inr ⟨fun q => h3 q.2.2, rfl⟩
        · by_cases h2 : tm D fc t0 L L.length + D (pv_ L L.length) 16 ≤ rules (3 * r + 2)
          · rw [if_pos (Or.inr (Or.inr h2))]
            by_cases h3 : ld fc L L.length ≤ rules (3 * r)
            · rw [if_pos ⟨rfl, h3⟩]
              exact Or.inl ⟨⟨hon, Or.inr h2, h3⟩, rfl⟩
            · rw [if_neg (fun q => h3 q.2)]
              exact Or.inr ⟨fun q => h3 q.2.2, rfl⟩
          · have hc : ¬ (L.length = 0 ∨ -nI 5 ≠ -nI 5 ∨ tm D fc t0 L L.length + D (pv_ L L.length) 16 ≤ rules (3 * r + 2)) := by simp [h0, h2]
            simp only [if_neg hc]
            rw [if_neg (fun q => nI_ne_m5 (by omega) q.1)]
            refine Or.inr ⟨fun q => ?_, rfl⟩
            rcases q.2.1 with e | e
            · exact h0 (by rw [e]; rfl)
            · exact h2 e
      · refine Or.inr ⟨fun q => hla (hD ▸ q.1 (L.length - 1) (by omega)), ?_⟩
        dsimp only
        rw [if_pos (Or.inr (Or.inl (nI_ne_m5 (by omega)))), if_neg (fun q => nI_ne_m5 (by omega) q.1)]
  · exact ⟨rfl, rfl, Or.inl ⟨rfl, fun j hj => absurd hj (Nat.not_lt_zero j), rfl, rfl, rfl, rfl⟩⟩
