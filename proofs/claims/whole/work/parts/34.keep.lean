/-! B7: a row is kept; slacks; the unlocked dropped -/
theorem isRound_eq {r : Nat} (h : r < 4) : f_X7_isRound (nI r) = some (nI 1) := by
  unfold f_X7_isRound f_X7_isUpTo
  simp only [lI]
  rw [if_neg (nI_lt0 (by omega)), if_neg (nI_nlt (by omega) (by decide)), Option.bind_some]
  exact gd_t (Or.inr rfl)
theorem emptyRow_eq {ro sizes rows : Nat → Int32} {r : Nat} {L : List Nat} (hr : r < 4) (hZ : sizes r = nI L.length) (hR : Rep rows (16 * r) L) (hL : L.length ≤ 16) (hL16 : ∀ p ∈ L, p < 16) : ∃ ro', (∀ p, ro' p = if p ∈ L ∧ ro p = nI r then -nI 5 else ro p) ∧ f_X6_emptyRow ro sizes rows (nI r) = some (ro', upd sizes r (nI 0)) := by
  unfold f_X6_emptyRow l_X6_emptyRow_2
  simp only [lI]
  obtain ⟨q, ⟨ro', h1, rfl⟩, h3⟩ := lp_inv (F := fun z x => b_X6_emptyRow_2 (nI r) sizes rows z x.1 x.2) (fun t x => x.1 = nI t ∧ ∀ p, x.2 p = if p ∈ L.take t ∧ ro p = nI r then -nI 5 else ro p) (fun q => ∃ ro', (∀ p, ro' p = if p ∈ L ∧ ro p = nI r then -nI 5 else ro p) ∧ q = (ro', upd sizes r (nI 0))) L.length
    (by
      rintro t ⟨x2, f⟩ ht ⟨rfl, h2⟩
      dsimp only at h2
      have hlt := at_lt hL16 ht
      have htk : L.take (t + 1) = L.take t ++ [at_ L t] := by
        rw [List.take_succ, List.getElem?_eq_getElem ht]
        congr 1
        rw [at_def, List.getElem?_eq_getElem ht]
        rfl
      have hstep : ∀ z, b_X6_emptyRow_2 (nI r) sizes rows z (nI t) f = if f (at_ L t) = nI r then z (nI (t + 1), upd f (at_ L t) (-nI 5)) else z (nI (t + 1), f) := by
        intro z
        unfold b_X6_emptyRow_2
        simp only [lI, nI_add]
        rw [sizeOf_eq sizes hr, Option.bind_some, hZ, if_neg (nI_ge ht (by omega)), rowAt_eq hr hZ hR hL (by omega), Option.bind_some, chk_in hlt (by decide), nI_clamp (by omega)]
      by_cases hc : f (at_ L t) = nI r
      · refine Or.inl ⟨(nI (t + 1), upd f (at_ L t) (-nI 5)), ⟨rfl, fun p => ?_⟩, fun z => (hstep z).trans (if_pos hc)⟩
        dsimp only
        rw [htk]
        by_cases hp : p = at_ L t
        · subst hp
          have hro : ro (at_ L t) = nI r := by
            have h4 := h2 (at_ L t)
            rw [hc] at h4
            by_cases h5 : at_ L t ∈ L.take t ∧ ro (at_ L t) = nI r
            · exact h5.2
            · rw [if_neg h5] at h4
              exact h4.symm
          rw [pk_us, if_pos ⟨by simp, hro⟩]
        · rw [pk_un hp, h2 p]
          by_cases h5 : p ∈ L.take t ∧ ro p = nI r
          · rw [if_pos h5, if_pos ⟨by simp [h5.1], h5.2⟩]
          · rw [if_neg h5, if_neg (by simpa [hp] using h5)]
      · refine Or.inl ⟨(nI (t + 1), f), ⟨rfl, fun p => ?_⟩, fun z => (hstep z).trans (if_neg hc)⟩
        dsimp only
        rw [htk, h2 p]
        by_cases h5 : p ∈ L.take t ∧ ro p = nI r
        · rw [if_pos h5, if_pos ⟨by simp [h5.1], h5.2⟩]
        · rw [if_neg h5]
          by_cases hp : p = at_ L t
          · subst hp
            rw [if_neg]
            rintro ⟨-, h6⟩
            have h4 := h2 (at_ L t)
            rw [if_neg h5, h6] at h4
            exact hc h4
          · rw [if_neg (by simpa [hp] using h5)])
    (by
      rintro ⟨x2, f⟩ ⟨rfl, h2⟩
      dsimp only at h2
      refine ⟨(f, upd sizes r (nI 0)), ⟨f, fun p => by rw [h2 p, List.take_length], rfl⟩, fun z => ?_⟩
      show b_X6_emptyRow_2 (nI r) sizes rows z (nI L.length) f = _
      unfold b_X6_emptyRow_2
      simp only [lI]
      rw [sizeOf_eq sizes hr, Option.bind_some, hZ, if_pos (nI_le (Nat.le_refl _) (by omega)), chk_in hr (by decide), nI_clamp (by omega)])
    fu (nI 0, ro) (by unfold fu; omega) ⟨rfl, fun p => by simp⟩
  exact ⟨ro', h1, h3⟩
theorem append_eq {ro sizes rows : Nat → Int32} {r c p : Nat} (hr : r < 4) (hZ : sizes r = nI c) (hc : c < 16) (hp : p < 16) : f_X6_appendToRow ro sizes rows (nI r) (nI p) = some (upd ro p (nI r), upd sizes r (nI (c + 1)), upd rows (16 * r + c) (nI p)) := by
  unfold f_X6_appendToRow
  simp only [lI, pk_mul]
  rw [sizeOf_eq sizes hr, Option.bind_some, isRound_eq hr, Option.bind_some, hZ]
  simp only [nI_add]
  rw [if_neg (show ¬ nI 1 = nI 0 from by decide), if_neg (nI_lt0 (by omega)), if_neg (nI_ge hp (by decide)), if_neg (nI_ge hc (by decide)), if_neg (nI_lt0 (by omega)), if_pos (nI_lt (by omega) (by decide)), gI_n (by omega) (by decide), gI_n (by omega) (by decide), gI_n (by omega) (by decide), nI_clamp (by omega), nI_clamp (by omega), nI_clamp (by omega), Nat.mul_comm r 16]
/-- what keeping a row does -/
theorem keep_eq {row ro sizes rows : Nat → Int32} {r : Nat} {L L' : List Nat} (hr : r < 4) (hrow : Rep row 0 L') (hL' : L'.length ≤ 16) (hL16' : ∀ p ∈ L', p < 16) (hZ : sizes r = nI L.length) (hR : Rep rows (16 * r) L) (hL : L.length ≤ 16) (hL16 : ∀ p ∈ L, p < 16) : ∃ ro' sizes' rows', (∀ p, ro' p = if p ∈ L' then nI r else if p ∈ L ∧ ro p = nI r then -nI 5 else ro p) ∧ (sizes' r = nI L'.length ∧ ∀ j, j ≠ r → sizes' j = sizes j) ∧ (Rep rows' (16 * r) L' ∧ ∀ j, (j < 16 * r ∨ 16 * r + 16 ≤ j) → rows' j = rows j) ∧ f_X0_keep row (nI r) (nI L'.length) ro sizes rows = some (ro', sizes', rows') := by
  obtain ⟨ro1, h1, e1⟩ := emptyRow_eq (ro := ro) hr hZ hR hL hL16
  unfold f_X0_keep l_X0_keep_10
  simp only [lI]
  rw [e1, Option.bind_some]
  obtain ⟨q, ⟨ro', sizes', rows', a1, a2, a3, rfl⟩, h3⟩ := lp_inv (F := fun z x => b_X0_keep_10 row (nI r) (nI L'.length) z x.1 x.2.1 x.2.2.1 x.2.2.2) (fun t x => x.1 = nI t ∧ (∀ p, x.2.1 p = if p ∈ L'.take t then nI r else ro1 p) ∧ (x.2.2.1 r = nI t ∧ ∀ j, j ≠ r → x.2.2.1 j = sizes j) ∧ (Rep x.2.2.2 (16 * r) (L'.take t) ∧ ∀ j, (j < 16 * r ∨ 16 * r + 16 ≤ j) → x.2.2.2 j = rows j)) (fun q => ∃ ro' sizes' rows', (∀ p, ro' p = if p ∈ L' then nI r else ro1 p) ∧ (sizes' r = nI L'.length ∧ ∀ j, j ≠ r → sizes' j = sizes j) ∧ (Rep rows' (16 * r) L' ∧ ∀ j, (j < 16 * r ∨ 16 * r + 16 ≤ j) → rows' j = rows j) ∧ q = (ro', sizes', rows')) L'.length
    (by
      rintro t ⟨x2, f, g, h⟩ ht ⟨rfl, h2, ⟨h4, h5⟩, h6, h7⟩
      dsimp only at h2 h4 h5 h6 h7
      have hlt := at_lt hL16' ht
      have htk : L'.take (t + 1) = L'.take t ++ [at_ L' t] := by
        rw [List.take_succ, List.getElem?_eq_getElem ht]
        congr 1
        rw [at_def, List.getElem?_eq_getElem ht]
        rfl
      have htl : (L'.take t).length = t := by rw [List.length_take]; omega
      refine Or.inl ⟨(nI (t + 1), upd f (at_ L' t) (nI r), upd g r (nI (t + 1)), upd h (16 * r + t) (nI (at_ L' t))), ⟨rfl, fun p => ?_, ⟨pk_us, fun j hj => ?_⟩, fun k hk => ?_, fun j hj => ?_⟩, fun z => ?_⟩
      · dsimp only
        rw [htk]
        by_cases hp : p = at_ L' t
        · subst hp; rw [pk_us, if_pos (by simp)]
        · rw [pk_un hp, h2 p]
          by_cases h8 : p ∈ L'.take t
          · rw [if_pos h8, if_pos (by simp [h8])]
          · rw [if_neg h8, if_neg (by simp [h8, hp])]
      · dsimp only
        rw [pk_un hj, h5 j hj]
      · dsimp only
        rw [htk, List.length_append, htl] at hk
        have hk' : k < t + 1 := hk
        rw [htk]
        by_cases h8 : k = t
        · subst h8
          have h9 : at_ (L'.take k ++ [at_ L' k]) k = at_ L' k := by
            rw [at_def (L'.take k ++ [at_ L' k]), List.getElem?_append, htl, if_neg (Nat.lt_irrefl _), Nat.sub_self]
            rfl
          rw [pk_us, h9]
        · rw [pk_un (by omega), h6 k (by omega), at_def, at_def, List.getElem?_append, if_pos (by omega)]
      · dsimp only
        rw [pk_un (by omega), h7 j hj]
      · show b_X0_keep_10 _ _ _ z (nI t) f g h = _
        unfold b_X0_keep_10
        simp only [lI, nI_add]
        have hw := hrow t ht
        rw [Nat.zero_add] at hw
        rw [if_neg (nI_ge ht (by omega)), if_neg (nI_ge (by omega) (by decide)), gI_n (by omega) (by decide), nI_clamp (by omega), hw, append_eq hr h4 (by omega) hlt, Option.bind_some])
    (by
      rintro ⟨x2, f, g, h⟩ ⟨rfl, h2, ⟨h4, h5⟩, h6, h7⟩
      dsimp only at h2 h4 h5 h6 h7
      rw [List.take_length] at h6
      refine ⟨(f, g, h), ⟨f, g, h, fun p => by rw [h2 p, List.take_length], ⟨h4, h5⟩, ⟨h6, h7⟩, rfl⟩, fun z => ?_⟩
      show b_X0_keep_10 _ _ _ z (nI L'.length) f g h = _
      unfold b_X0_keep_10
      rw [if_pos (nI_le (Nat.le_refl _) (by omega))])
    fu (nI 0, ro1, upd sizes r (nI 0), rows) (by unfold fu; omega) ⟨rfl, fun p => by simp, ⟨pk_us, fun j hj => pk_un hj⟩, fun k hk => by simp at hk, fun j _ => rfl⟩
  exact ⟨ro', sizes', rows', fun p => by rw [a1 p, h1 p], a2, a3, h3⟩
/-- by when it is to begin at the k-th at most, told from behind -/
def la (D : Nat → Nat → Int32) (fc : Nat → Nat → Int32) (home : Int32) (L : List Nat) : Nat → Int32
  | 0 => home
  | d + 1 => let k := L.length - (d + 1)
    let next := if d = 0 then 16 else at_ L (k + 1)
    let it := la D fc home L d - D (at_ L k) next - fc (at_ L k) 5
    if it ≤ fc (at_ L k) 4 then it else fc (at_ L k) 4
theorem lookBack_eq {row comes begins slacks facts rules : Nat → Int32} {me later : Int32} {n r : Nat} {fc : Nat → Nat → Int32} {L : List Nat} (hr : r < 4) (hrow : Rep row 0 L) (hL : L.length ≤ 16) (hLn : ∀ p ∈ L, p < n) (hn : n ≤ 16) (hF : FcR facts n fc) : ∃ slacks' later', (∀ k, k < L.length → slacks' k = la (dist me fc) fc (rules (3 * r + 2)) L (L.length - k) - begins k) ∧ (0 < L.length → later' = la (dist me fc) fc (rules (3 * r + 2)) L L.length - comes 0) ∧ f_X0_lookBack row comes begins slacks (nI r) (nI L.length) later facts rules me = some (slacks', later') := by
  unfold f_X0_lookBack l_X0_lookBack_21
  simp only [lI]
  rw [ruleOf_eq rules (by omega), Option.bind_some]
  generalize hh : rules (3 * r + 2) = home
  generalize hD : dist me fc = D
  obtain ⟨q, ⟨s', l', h1, h2, rfl⟩, h3⟩ := lp_inv (F := fun z x => b_X0_lookBack_21 row comes begins facts me z x.1 x.2.1 x.2.2.1 x.2.2.2.1 x.2.2.2.2)
    (fun d x => x.1 = la D fc home L d ∧ x.2.1 = nI (if d = 0 then 16 else at_ L (L.length - d)) ∧ x.2.2.1 = nI (L.length - d) - nI 1 ∧ (∀ k, L.length - d ≤ k → k < L.length → x.2.2.2.1 k = la D fc home L (L.length - k) - begins k) ∧ (0 < d → x.2.2.2.2 = la D fc home L d - comes (L.length - d)))
    (fun q => ∃ slacks' later', (∀ k, k < L.length → slacks' k = la D fc home L (L.length - k) - begins k) ∧ (0 < L.length → later' = la D fc home L L.length - comes 0) ∧ q = (slacks', later')) L.length
    (by
      rintro d ⟨x2, x3, x4, sl, lt⟩ hd ⟨e2, e3, e4, h5, h6⟩
      dsimp only at e2 e3 e4 h5 h6
      subst e2 e3 e4
      have hk : L.length - (d + 1) < L.length := by omega
      have hat := at_lt hLn hk
      have hpn : isP n (if d = 0 then 16 else at_ L (L.length - d)) := by
        split
        · exact Or.inr rfl
        · exact at_P hLn _
      have hw := hrow (L.length - (d + 1)) hk
      rw [Nat.zero_add] at hw
      have hnx : (if d = 0 then 16 else at_ L (L.length - (d + 1) + 1)) = (if d = 0 then 16 else at_ L (L.length - d)) := by
        by_cases h0 : d = 0
        · rw [if_pos h0, if_pos h0]
        · rw [if_neg h0, if_neg h0]
          congr 1
          omega
      have e84 : ∀ (z : Int32 × Int32 × Int32 × (Nat → Int32) × Int32 → Option ((Nat → Int32) × Int32)) (y0 : Int32), y0 = la D fc home L (d + 1) → b_X0_lookBack_84 z (nI (L.length - (d + 1))) (nI (at_ L (L.length - (d + 1)))) y0 row comes begins sl facts me = z (la D fc home L (d + 1), nI (at_ L (L.length - (d + 1))), nI (L.length - (d + 1)) - nI 1, upd sl (L.length - (d + 1)) (la D fc home L (d + 1) - begins (L.length - (d + 1))), la D fc home L (d + 1) - comes (L.length - (d + 1))) := by
        rintro z y0 rfl
        unfold b_X0_lookBack_84
        simp only [lI]
        rw [gI_n (by omega) (by decide), nI_clamp (by omega), ← Int32.sub_eq_add_neg]
      refine Or.inl ⟨(la D fc home L (d + 1), nI (at_ L (L.length - (d + 1))), nI (L.length - (d + 1)) - nI 1, upd sl (L.length - (d + 1)) (la D fc home L (d + 1) - begins (L.length - (d + 1))), la D fc home L (d + 1) - comes (L.length - (d + 1))), ⟨rfl, by dsimp only; rw [if_neg (by omega)], rfl, fun k hk1 hk2 => ?_, fun _ => rfl⟩, fun z => ?_⟩
      · dsimp only
        by_cases h8 : k = L.length - (d + 1)
        · subst h8
          rw [pk_us]
          congr 2
          omega
        · rw [pk_un h8]
          exact h5 k (by omega) hk2
      · show b_X0_lookBack_21 row comes begins facts me z (la D fc home L d) _ (nI (L.length - d) - nI 1) sl lt = _
        unfold b_X0_lookBack_21
        simp only [lI]
        rw [nI_sub1 (by omega), show L.length - d - 1 = L.length - (d + 1) from by omega, if_neg (nI_lt0 (by omega)), if_neg (nI_ge (by omega) (by decide)), gI_n (by omega) (by decide), nI_clamp (by omega), hw, way_eq hF hn (Or.inl hat) hpn, Option.bind_some, hD, fc_eq hF hn hat (by decide), Option.bind_some, fc_eq hF hn hat (by decide), Option.bind_some]
        have ela : la D fc home L (d + 1) = if la D fc home L d - D (at_ L (L.length - (d + 1))) (if d = 0 then 16 else at_ L (L.length - d)) - fc (at_ L (L.length - (d + 1))) 5 ≤ fc (at_ L (L.length - (d + 1))) 4 then la D fc home L d - D (at_ L (L.length - (d + 1))) (if d = 0 then 16 else at_ L (L.length - d)) - fc (at_ L (L.length - (d + 1))) 5 else fc (at_ L (L.length - (d + 1))) 4 := by
          rw [← hnx]
          rfl
        by_cases hc : la D fc home L d - D (at_ L (L.length - (d + 1))) (if d = 0 then 16 else at_ L (L.length - d)) - fc (at_ L (L.length - (d + 1))) 5 ≤ fc (at_ L (L.length - (d + 1))) 4
        · rw [if_pos hc]
          exact e84 z _ (by rw [ela, if_pos hc])
        · rw [if_neg hc]
          exact e84 z _ (by rw [ela, if_neg hc]))
    (by
      rintro ⟨x2, x3, x4, sl, lt⟩ ⟨e2, e3, e4, h5, h6⟩
      dsimp only at e2 e3 e4 h5 h6
      subst e2 e3 e4
      refine ⟨(sl, lt), ⟨sl, lt, fun k hk => h5 k (by omega) hk, fun h0 => by rw [h6 h0, Nat.sub_self], rfl⟩, fun z => ?_⟩
      show b_X0_lookBack_21 row comes begins facts me z _ _ (nI (L.length - L.length) - nI 1) sl lt = _
      unfold b_X0_lookBack_21
      simp only [lI]
      rw [Nat.sub_self, if_pos (nI_neg (by decide) (by decide))])
    fu (home, nI 16, nI L.length - nI 1, slacks, later) (by unfold fu; omega) ⟨rfl, rfl, rfl, fun k hk1 hk2 => absurd hk2 (by omega), fun h => absurd h (Nat.lt_irrefl _)⟩
  exact ⟨s', l', h1, h2, h3⟩
