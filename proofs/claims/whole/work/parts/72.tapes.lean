/-! B45: tapes: tape, item, peek, slide, judge, in both -/
theorem subI {a b : Nat} (ha : a < 2 ^ 31) (hb : b < 2 ^ 31) : (nI a - nI b).toInt = (a : Int) - b := by
  rw [Int32.toInt_sub, nI_toInt ha, nI_toInt hb]
  exact Int.bmod_eq_of_le (by omega) (by omega)
/-- one tape in both -/
def Tp1 (so sz : Nat → Int32) (it : Nat → Int64) (so' sz' : Nat → Int32) (ce : Nat → Int64) (t : Nat) : Prop := so' t = so t ∧ sz' t = sz t ∧ ∃ n, n ≤ 60 ∧ sz t = nI n ∧ (so t = -nI 1 ∧ n = 0 ∨ ∃ k, k ≤ 4 ∧ so t = nI k) ∧ ∀ i, i < n → ce (60 * t + i) = it (60 * t + i)
def TpR (so sz : Nat → Int32) (it : Nat → Int64) (so' sz' : Nat → Int32) (ce : Nat → Int64) : Prop := ∀ t, t < 6 → Tp1 so sz it so' sz' ce t
theorem tapeX (x : Int32) : (∃ t, t < 6 ∧ x = nI t ∧ f_X5_isTape x = some (nI 1) ∧ f_X8_isTape x = some (nI 1)) ∨ (f_X5_isTape x = some (nI 0) ∧ f_X8_isTape x = some (nI 0)) := by
  have h8 : f_X8_isTape x = (f_X8_isIn x (nI 0) (nI 5)).bind fun r1 => gd (r1 = nI 0 ∨ r1 = nI 1) (some r1) := rfl
  unfold f_X5_isTape
  simp only [lI]
  rcases isIn_eq x 5 (by decide) with ⟨p, hp, rfl, h⟩ | ⟨hx, h⟩
  · refine Or.inl ⟨p, by omega, rfl, ?_, by rw [h8, h]; rfl⟩
    rw [if_neg (nI_lt0 (by omega)), if_neg (nI_ge (by omega) (by decide))]
  · refine Or.inr ⟨?_, by rw [h8, h]; rfl⟩
    rcases hx with hx | hx
    · rw [if_pos (show x < nI 0 from hx)]
    · by_cases q : x < nI 0
      · rw [if_pos q]
      · rw [if_neg q, if_pos]
        have h0 := Int32.lt_iff_toInt_lt.mp hx
        rw [Int32.le_iff_toInt_le]
        have e5 : (nI 5).toInt = 5 := by decide
        have e6 : (nI 6).toInt = 6 := by decide
        rw [e5] at h0
        rw [e6]
        omega
theorem sortC (so : Nat → Int32) {t : Nat} (ht : t < 6) : f_X5_sortOf so (nI t) = some (so t) := by
  unfold f_X5_sortOf
  simp only [lI]
  rw [chk_in ht (by decide), nI_clamp (by omega)]
theorem hasX (sz : Nat → Int32) {t n : Nat} (ht : t < 6) (hn : n ≤ 60) (e : sz t = nI n) (x : Int32) : (∃ i, i < n ∧ x = nI i ∧ f_X5_hasItem sz (nI t) x = some (nI 1) ∧ f_X8_isIn x (nI 0) (nI n - nI 1) = some (nI 1)) ∨ ((x < nI 0 ∨ nI n ≤ x) ∧ f_X5_hasItem sz (nI t) x = some (nI 0) ∧ f_X8_isIn x (nI 0) (nI n - nI 1) = some (nI 0)) := by
  unfold f_X5_hasItem f_X8_isIn
  simp only [lI]
  rw [if_neg (nI_lt0 (by omega)), if_neg (nI_ge ht (by decide)), gI_n ht (by decide), nI_clamp (by omega), e]
  rcases pk_ix x (show n < 2 ^ 31 by omega) with h | h | ⟨i, hi, rfl⟩
  · have h' : x < nI 0 := h
    exact Or.inr ⟨Or.inl h', by rw [if_pos h'], by rw [if_pos h']⟩
  · by_cases h0 : x < nI 0
    · exact Or.inr ⟨Or.inl h0, by rw [if_pos h0], by rw [if_pos h0]⟩
    · have hx : nI n - nI 1 < x := by
        rw [Int32.lt_iff_toInt_lt, subI (by omega) (by decide)]
        have := Int32.le_iff_toInt_le.mp h
        rw [nI_toInt (by omega)] at this
        omega
      exact Or.inr ⟨Or.inr h, by rw [if_neg h0, if_pos h], by rw [if_neg h0, if_pos hx]⟩
  · refine Or.inl ⟨i, hi, rfl, by rw [if_neg (nI_lt0 (by omega)), if_neg (nI_ge hi (by omega))], ?_⟩
    rw [if_neg (nI_lt0 (by omega)), nI_sub1 (by omega), if_neg (nI_nlt (by omega) (by omega))]
theorem itemC (sz : Nat → Int32) (it : Nat → Int64) {t n i : Nat} (ht : t < 6) (hn : n ≤ 60) (e : sz t = nI n) (hi : i < n) : f_X5_itemAt sz it (nI t) (nI i) = some (it (60 * t + i)) := by
  unfold f_X5_itemAt
  simp only [lI, pk_mul, nI_add]
  rcases hasX sz ht hn e (nI i) with ⟨j, -, -, h, -⟩ | ⟨h, -⟩
  · rw [h, Option.bind_some, if_neg h10_, chk_in (by omega) (by decide), nI_clamp (by omega), Nat.mul_comm t 60]
  · rcases h with h | h
    · exact absurd h (nI_lt0 (by omega))
    · exact absurd h (nI_ge hi (by omega))
theorem peek_both {so sz so' sz' : Nat → Int32} {it ce : Nat → Int64} (hT : TpR so sz it so' sz' ce) (x1 x2 : Int32) : ∃ v, f_X7_peek sz it x1 x2 = some v ∧ f_X8_peek so' sz' ce x1 x2 = some v := by
  unfold f_X7_peek f_X8_peek
  simp only [lI]
  rcases tapeX x1 with ⟨t, ht, rfl, e1, e2⟩ | ⟨e1, e2⟩
  · obtain ⟨g1, g2, n, hn, en, hs, hc⟩ := hT t ht
    rw [e2, Option.bind_some, if_neg h10_, gI_n ht (by decide), nI_clamp (by omega), g1, g2, en]
    simp only [pk_mul]
    rcases hasX sz ht hn en x2 with ⟨i, hi, rfl, a1, a2⟩ | ⟨-, a1, a2⟩
    · have hns : ¬ so t < nI 0 := by
        rcases hs with ⟨-, hs⟩ | ⟨k, hk, hs⟩
        · omega
        · rw [hs]; exact nI_lt0 (by omega)
      rw [a1, Option.bind_some, if_neg h10_, itemC sz it ht hn en hi, if_neg hns, a2, Option.bind_some, Option.bind_some, if_neg h10_, nI_add, gI_n (by omega) (by decide), nI_clamp (by omega), hc i hi]
      exact ⟨_, rfl, rfl⟩
    · rw [a1, Option.bind_some, if_pos rfl]
      by_cases q : so t < nI 0
      · rw [if_pos q]
        exact ⟨_, rfl, rfl⟩
      · rw [if_neg q, a2, Option.bind_some, if_pos rfl]
        exact ⟨_, rfl, rfl⟩
  · rw [e2, Option.bind_some, if_pos rfl]
    have : f_X5_hasItem sz x1 x2 = some (nI 0) := by
      unfold f_X5_isTape at e1
      unfold f_X5_hasItem
      simp only [lI] at e1 ⊢
      by_cases q1 : x1 < nI 0
      · rw [if_pos q1]
      · rw [if_neg q1] at e1 ⊢
        by_cases q2 : nI 6 ≤ x1
        · rw [if_pos q2]
        · rw [if_neg q2] at e1
          exact absurd (Option.some.inj e1) h10_
    rw [this, Option.bind_some, if_pos rfl]
    exact ⟨_, rfl, rfl⟩
theorem becomeC (so sz : Nat → Int32) (it : Nat → Int64) {t n : Nat} (ht : t < 6) (hn : n ≤ 60) (v : Int32) : ∃ it', f_X5_become so sz it (nI t) v (nI n) = some (upd so t v, upd sz t (nI n), it') ∧ (∀ i, i < 60 → it' (60 * t + i) = 0) ∧ ∀ j, (j < 60 * t ∨ 60 * t + 60 ≤ j) → it' j = it j := by
  unfold f_X5_become l_X5_become_38
  simp only [lI]
  rw [if_neg (nI_lt0 (by omega)), if_neg (nI_ge ht (by decide)), if_neg (nI_lt0 (by omega)), if_pos (nI_le hn (by decide)), gI_n ht (by decide), nI_clamp (by omega)]
  obtain ⟨q, ⟨it', rfl, h1, h3⟩, h2⟩ := lp_inv (F := fun k (x : Int32 × (Nat → Int64)) => b_X5_become_38 (nI t) (upd so t v) (upd sz t (nI n)) k x.1 x.2) (fun d x => x.1 = nI d ∧ (∀ i, i < d → x.2 (60 * t + i) = 0) ∧ ∀ j, (j < 60 * t ∨ 60 * t + d ≤ j) → x.2 j = it j) (fun q => ∃ it' : Nat → Int64, q = (upd so t v, upd sz t (nI n), it') ∧ (∀ i, i < 60 → it' (60 * t + i) = 0) ∧ ∀ j, (j < 60 * t ∨ 60 * t + 60 ≤ j) → it' j = it j) 60 (by
    rintro d ⟨x1, f⟩ hd ⟨e1, g1, g2⟩
    dsimp only at e1 g1 g2
    subst e1
    refine Or.inl ⟨(nI (d + 1), vp_updL f (60 * t + d) 0), ⟨rfl, fun i hi => ?_, fun j hj => ?_⟩, fun z => ?_⟩
    · dsimp only
      by_cases q : i = d
      · rw [q, pk_uLs]
      · rw [pk_uLn (by omega)]; exact g1 i (by omega)
    · dsimp only
      rw [pk_uLn (by omega)]
      exact g2 j (by omega)
    · show b_X5_become_38 (nI t) (upd so t v) (upd sz t (nI n)) z (nI d) f = _
      unfold b_X5_become_38
      simp only [lI, pk_mul, nI_add]
      rw [if_neg (nI_ge hd (by decide)), gI_n (by omega) (by decide), nI_clamp (by omega), Nat.mul_comm t 60]) (by
    rintro ⟨x1, f⟩ ⟨e1, g1, g2⟩
    dsimp only at e1 g1 g2
    subst e1
    refine ⟨_, ⟨f, rfl, g1, g2⟩, fun z => ?_⟩
    show b_X5_become_38 (nI t) (upd so t v) (upd sz t (nI n)) z (nI 60) f = _
    unfold b_X5_become_38
    simp only [lI]
    rw [if_pos (nI_le (Nat.le_refl _) (by decide))]) fu (nI 0, it) (by unfold fu; omega) ⟨rfl, fun i hi => absurd hi (Nat.not_lt_zero i), fun j _ => rfl⟩
  exact ⟨it', h2, h1, h3⟩
theorem tape63 (so sz : Nat → Int32) (ce : Nat → Int64) {t n : Nat} (ht : t < 6) (hn : n ≤ 60) : ∃ ce', b_X8_tape_63 (nI t) (nI t) (nI n) so sz ce = some (nI 1, so, upd sz t (nI n), ce') ∧ (∀ i, i < n → ce' (60 * t + i) = 0) ∧ ∀ j, (j < 60 * t ∨ 60 * t + n ≤ j) → ce' j = ce j := by
  unfold b_X8_tape_63 l_X8_tape_67
  simp only [lI]
  rw [gI_n ht (by decide), nI_clamp (by omega)]
  obtain ⟨q, ⟨ce', rfl, h1, h3⟩, h2⟩ := lp_inv (F := fun k (x : Int32 × (Nat → Int64)) => b_X8_tape_67 (nI t) so (upd sz t (nI n)) k x.1 x.2) (fun d x => x.1 = nI d ∧ (∀ i, i < d → x.2 (60 * t + i) = 0) ∧ ∀ j, (j < 60 * t ∨ 60 * t + d ≤ j) → x.2 j = ce j) (fun q => ∃ ce' : Nat → Int64, q = (nI 1, so, upd sz t (nI n), ce') ∧ (∀ i, i < n → ce' (60 * t + i) = 0) ∧ ∀ j, (j < 60 * t ∨ 60 * t + n ≤ j) → ce' j = ce j) n (by
    rintro d ⟨x1, f⟩ hd ⟨e1, g1, g2⟩
    dsimp only at e1 g1 g2
    subst e1
    refine Or.inl ⟨(nI (d + 1), vp_updL f (60 * t + d) 0), ⟨rfl, fun i hi => ?_, fun j hj => ?_⟩, fun z => ?_⟩
    · dsimp only
      by_cases q : i = d
      · rw [q, pk_uLs]
      · rw [pk_uLn (by omega)]; exact g1 i (by omega)
    · dsimp only
      rw [pk_uLn (by omega)]
      exact g2 j (by omega)
    · show b_X8_tape_67 (nI t) so (upd sz t (nI n)) z (nI d) f = _
      unfold b_X8_tape_67
      simp only [lI, pk_mul, nI_add]
      rw [gI_n ht (by decide), nI_clamp (show t < 2 ^ 31 by omega), pk_us, if_neg (nI_ge hd (by omega)), gI_n (by omega) (by decide), nI_clamp (by omega)]) (by
    rintro ⟨x1, f⟩ ⟨e1, g1, g2⟩
    dsimp only at e1 g1 g2
    subst e1
    refine ⟨_, ⟨f, rfl, g1, g2⟩, fun z => ?_⟩
    show b_X8_tape_67 (nI t) so (upd sz t (nI n)) z (nI n) f = _
    unfold b_X8_tape_67
    simp only [lI]
    rw [gI_n ht (by decide), nI_clamp (show t < 2 ^ 31 by omega), pk_us, if_pos (nI_le (Nat.le_refl _) (by omega))]) fu (nI 0, ce) (by unfold fu; omega) ⟨rfl, fun i hi => absurd hi (Nat.not_lt_zero i), fun j _ => rfl⟩
  exact ⟨ce', h2, h1, h3⟩
theorem TpR.become {so sz so' sz' : Nat → Int32} {it ce it2 ce2 : Nat → Int64} (hT : TpR so sz it so' sz' ce) {t n : Nat} (hn : n ≤ 60) {v : Int32} (hv : v = -nI 1 ∧ n = 0 ∨ ∃ k, k ≤ 4 ∧ v = nI k) (h1 : ∀ i, i < 60 → it2 (60 * t + i) = 0) (h2 : ∀ j, (j < 60 * t ∨ 60 * t + 60 ≤ j) → it2 j = it j) (h3 : ∀ i, i < n → ce2 (60 * t + i) = 0) (h4 : ∀ j, (j < 60 * t ∨ 60 * t + n ≤ j) → ce2 j = ce j) : TpR (upd so t v) (upd sz t (nI n)) it2 (upd so' t v) (upd sz' t (nI n)) ce2 := by
  intro u hu
  by_cases q : u = t
  · subst q
    refine ⟨by rw [pk_us, pk_us], by rw [pk_us, pk_us], n, hn, pk_us, by rw [pk_us]; exact hv, fun i hi => by rw [h3 i hi, h1 i (by omega)]⟩
  · obtain ⟨g1, g2, m, hm, em, hs, hc⟩ := hT u hu
    refine ⟨by rw [pk_un q, pk_un q]; exact g1, by rw [pk_un q, pk_un q]; exact g2, m, hm, by rw [pk_un q]; exact em, by rw [pk_un q]; exact hs, fun i hi => by rw [h4 _ (by omega), h2 _ (by omega)]; exact hc i hi⟩
theorem isInM1_4 (x : Int32) : (x = -nI 1 ∧ f_X8_isIn x (-nI 1) (nI 4) = some (nI 1)) ∨ (∃ k, k ≤ 4 ∧ x = nI k ∧ f_X8_isIn x (-nI 1) (nI 4) = some (nI 1) ∧ f_X8_isIn x (nI 0) (nI 4) = some (nI 1)) ∨ (x ≠ -nI 1 ∧ f_X8_isIn x (-nI 1) (nI 4) = some (nI 0) ∧ f_X8_isIn x (nI 0) (nI 4) = some (nI 0)) := by
  by_cases q : x = -nI 1
  · refine Or.inl ⟨q, ?_⟩
    rw [q]
    decide
  · rcases isIn_eq x 4 (by decide) with ⟨k, hk, rfl, e⟩ | ⟨hx, e⟩
    · refine Or.inr (Or.inl ⟨k, hk, rfl, ?_, e⟩)
      unfold f_X8_isIn
      rw [if_neg (by rw [Int32.lt_iff_toInt_lt, nI_toInt (by omega)]; have : (-nI 1).toInt = -1 := by decide
                     omega), if_neg (nI_nlt hk (by omega))]
      rfl
    · refine Or.inr (Or.inr ⟨q, ?_, e⟩)
      unfold f_X8_isIn
      rcases hx with hx | hx
      · have h1 := Int32.lt_iff_toInt_lt.mp hx
        have e0 : (0 : Int32).toInt = 0 := by decide
        have em : (-nI 1).toInt = -1 := by decide
        rw [e0] at h1
        have h2 : x.toInt ≠ -1 := fun z => q (Int32.toInt_inj.mp (z.trans em.symm))
        rw [if_pos (by rw [Int32.lt_iff_toInt_lt, em]; omega)]
        rfl
      · by_cases z : x < -nI 1
        · rw [if_pos z]; rfl
        · rw [if_neg z, if_pos hx]; rfl
theorem tape_both {so sz so' sz' : Nat → Int32} {it ce : Nat → Int64} (hT : TpR so sz it so' sz' ce) (x1 x2 x3 : Int32) : ∃ v so2 sz2 it2 so3 sz3 ce3, f_X7_tape so sz it x1 x2 x3 = some (v, so2, sz2, it2) ∧ f_X8_tape so' sz' ce x1 x2 x3 = some (v, so3, sz3, ce3) ∧ TpR so2 sz2 it2 so3 sz3 ce3 := by
  unfold f_X7_tape f_X8_tape
  simp only [lI]
  rcases tapeX x1 with ⟨t, ht, rfl, e1, e2⟩ | ⟨e1, e2⟩
  rotate_left
  · rw [e1, e2, Option.bind_some, Option.bind_some, if_pos rfl, if_pos rfl]
    exact ⟨_, so, sz, it, so', sz', ce, rfl, rfl, hT⟩
  rw [e1, e2, Option.bind_some, Option.bind_some, if_neg h10_, if_neg h10_, isUpTo_isIn]
  rcases isInM1_4 x2 with ⟨rfl, e3⟩ | ⟨k, hk, rfl, e3, e4⟩ | ⟨q, e3, e4⟩
  · obtain ⟨it2, a1, a2, a3⟩ := becomeC so sz it ht (show 0 ≤ 60 by omega) (-nI 1)
    obtain ⟨ce2, b1, b2, b3⟩ := tape63 (upd so' t (-nI 1)) sz' ce ht (show 0 ≤ 60 by omega)
    have hm1 : -nI 1 < nI 0 := by decide
    rw [if_pos rfl, e3, Option.bind_some, if_neg h10_, if_pos hm1]
    unfold b_X8_tape_31 b_X8_tape_42
    simp only [lI]
    rw [a1, Option.bind_some, if_pos hm1, gI_n ht (by decide), if_neg (show ¬ nI 0 ≤ -nI 1 by decide), nI_clamp (by omega), b1]
    exact ⟨_, _, _, _, _, _, _, rfl, rfl, hT.become (by omega) (Or.inl ⟨rfl, rfl⟩) a2 a3 b2 b3⟩
  · have hne : ¬ nI k = -nI 1 := by
      intro z
      have := congrArg Int32.toInt z
      rw [nI_toInt (by omega)] at this
      have em : (-nI 1).toInt = -1 := by decide
      omega
    rw [if_neg hne, e3, e4, Option.bind_some, Option.bind_some, if_neg h10_, if_neg h10_, if_neg (nI_lt0 (show k < 2 ^ 31 by omega))]
    by_cases q1 : x3 ≤ nI 60
    · rw [if_pos q1, if_pos q1]
      unfold b_X8_tape_31 b_X8_tape_42
      simp only [lI]
      rw [if_neg (nI_lt0 (show k < 2 ^ 31 by omega))]
      by_cases q2 : nI 0 ≤ x3
      · obtain ⟨n, hn, rfl⟩ := nI_of2 (M := nI 60) (n := 60) (nI_toInt (by decide)) (Int32.not_lt.mpr q2) q1
        obtain ⟨it2, a1, a2, a3⟩ := becomeC so sz it ht hn (nI k)
        obtain ⟨ce2, b1, b2, b3⟩ := tape63 (upd so' t (nI k)) sz' ce ht hn
        rw [if_pos q2, if_pos q2, a1, Option.bind_some, gI_n ht (by decide), if_pos (nI_0le (show k < 2 ^ 31 by omega)), nI_clamp (show t < 2 ^ 31 by omega), b1]
        exact ⟨_, _, _, _, _, _, _, rfl, rfl, hT.become hn (Or.inr ⟨k, hk, rfl⟩) a2 a3 b2 b3⟩
      · rw [if_neg q2, if_neg q2]
        exact ⟨_, so, sz, it, so', sz', ce, rfl, rfl, hT⟩
    · rw [if_neg q1, if_neg q1]
      exact ⟨_, so, sz, it, so', sz', ce, rfl, rfl, hT⟩
  · rw [if_neg q, e3, e4, Option.bind_some, Option.bind_some, if_pos rfl, if_pos rfl]
    exact ⟨_, so, sz, it, so', sz', ce, rfl, rfl, hT⟩
theorem item_both {so sz so' sz' : Nat → Int32} {it ce : Nat → Int64} (hT : TpR so sz it so' sz' ce) (x1 x2 : Int32) (x3 : Int64) : ∃ v it2 ce2, f_X7_item so sz it x1 x2 x3 = some (v, it2) ∧ f_X8_item so' sz' ce x1 x2 x3 = some (v, ce2) ∧ TpR so sz it2 so' sz' ce2 := by
  unfold f_X7_item f_X8_item
  simp only [lI]
  rcases tapeX x1 with ⟨t, ht, rfl, e1, e2⟩ | ⟨e1, e2⟩
  rotate_left
  · rw [e1, e2, Option.bind_some, Option.bind_some, if_pos rfl, if_pos rfl]
    exact ⟨_, it, ce, rfl, rfl, hT⟩
  obtain ⟨g1, g2, n, hn, en, hs, hc⟩ := hT t ht
  rw [e1, e2, Option.bind_some, Option.bind_some, if_neg h10_, if_neg h10_, sortC so ht, Option.bind_some, gI_n ht (by decide), nI_clamp (by omega), g1, g2, en]
  rcases hs with ⟨hs, h0⟩ | ⟨k, hk, hs⟩
  · rw [hs, if_pos rfl, if_neg (show ¬ nI 0 ≤ -nI 1 by decide)]
    exact ⟨_, it, ce, rfl, rfl, hT⟩
  have hne : ¬ nI k = -nI 1 := by
    intro z
    have := congrArg Int32.toInt z
    rw [nI_toInt (by omega)] at this
    have em : (-nI 1).toInt = -1 := by decide
    omega
  rw [hs, if_neg hne, if_pos (nI_0le (show k < 2 ^ 31 by omega))]
  rcases hasX sz ht hn en x2 with ⟨i, hi, rfl, a1, a2⟩ | ⟨-, a1, a2⟩
  rotate_left
  · rw [a1, a2, Option.bind_some, Option.bind_some, if_pos rfl, if_pos rfl]
    exact ⟨_, it, ce, rfl, rfl, hT⟩
  have hset : ∀ v : Int64, f_X5_cutTo (nI k) x3 = some v → f_X5_setItem so sz it (nI t) (nI i) x3 = some (vp_updL it (60 * t + i) v) := by
    intro v hv
    unfold f_X5_setItem
    simp only [lI, pk_mul, nI_add]
    rw [a1, Option.bind_some, if_neg h10_, if_neg (nI_lt0 (by omega)), if_neg (nI_ge (by omega) (by decide)), sortC so ht, Option.bind_some, hs, hv, Option.bind_some, gI_n (by omega) (by decide), nI_clamp (by omega), Nat.mul_comm t 60]
  have h124 : ∀ v : Int64, b_X8_item_124 (nI 60 * nI t + nI i) v ce = some (nI 1, vp_updL ce (60 * t + i) v) := by
    intro v
    unfold b_X8_item_124
    simp only [pk_mul, nI_add]
    rw [gI_n (by omega) (by decide), nI_clamp (by omega)]
    rfl
  have hT2 : ∀ v : Int64, TpR so sz (vp_updL it (60 * t + i) v) so' sz' (vp_updL ce (60 * t + i) v) := by
    intro v u hu
    obtain ⟨f1, f2, m, hm, em, fs, fc⟩ := hT u hu
    refine ⟨f1, f2, m, hm, em, fs, fun j hj => ?_⟩
    by_cases z : 60 * u + j = 60 * t + i
    · rw [z, pk_uLs, pk_uLs]
    · rw [pk_uLn z, pk_uLn z]
      exact fc j hj
  have fin : ∀ (v : Int64) (B : Option (Int32 × (Nat → Int64))), f_X5_cutTo (nI k) x3 = some v → B = b_X8_item_124 (nI 60 * nI t + nI i) v ce → ∃ w it2 ce2, ((f_X5_setItem so sz it (nI t) (nI i) x3).bind fun o7 => some (nI 1, o7)) = some (w, it2) ∧ B = some (w, ce2) ∧ TpR so sz it2 so' sz' ce2 := by
    intro v B h1 h2
    rw [hset v h1, Option.bind_some, h2, h124]
    exact ⟨_, _, _, rfl, rfl, hT2 v⟩
  rw [a1, a2, Option.bind_some, Option.bind_some, if_neg h10_, if_neg h10_]
  unfold f_X5_cutTo at fin
  simp only [lI] at fin
  rcases (show k = 0 ∨ k = 1 ∨ k = 2 ∨ k = 3 ∨ k = 4 by omega) with rfl | rfl | rfl | rfl | rfl
  · rw [if_pos rfl]
    exact fin _ _ (if_pos rfl) rfl
  · rw [if_neg (show ¬ nI 1 = nI 0 by decide), if_pos rfl]
    exact fin _ _ (by rw [if_neg (show ¬ nI 1 = nI 0 by decide), if_pos rfl]) rfl
  · rw [if_neg (show ¬ nI 2 = nI 0 by decide), if_neg (show ¬ nI 2 = nI 1 by decide), if_pos rfl]
    exact fin _ _ (by rw [if_neg (show ¬ nI 2 = nI 0 by decide), if_neg (show ¬ nI 2 = nI 1 by decide), if_pos rfl]) rfl
  · rw [if_neg (show ¬ nI 3 = nI 0 by decide), if_neg (show ¬ nI 3 = nI 1 by decide), if_neg (show ¬ nI 3 = nI 2 by decide), if_pos rfl]
    exact fin _ _ (by rw [if_neg (show ¬ nI 3 = nI 0 by decide), if_neg (show ¬ nI 3 = nI 1 by decide), if_neg (show ¬ nI 3 = nI 2 by decide), if_pos rfl]) rfl
  · rw [if_neg (show ¬ nI 4 = nI 0 by decide), if_neg (show ¬ nI 4 = nI 1 by decide), if_neg (show ¬ nI 4 = nI 2 by decide), if_neg (show ¬ nI 4 = nI 3 by decide)]
    by_cases q : lg_cmp x3 0 = nI 0
    · rw [if_pos q]
      exact fin _ _ (by rw [if_neg (show ¬ nI 4 = nI 0 by decide), if_neg (show ¬ nI 4 = nI 1 by decide), if_neg (show ¬ nI 4 = nI 2 by decide), if_neg (show ¬ nI 4 = nI 3 by decide), if_pos q]) rfl
    · rw [if_neg q]
      exact fin _ _ (by rw [if_neg (show ¬ nI 4 = nI 0 by decide), if_neg (show ¬ nI 4 = nI 1 by decide), if_neg (show ¬ nI 4 = nI 2 by decide), if_neg (show ¬ nI 4 = nI 3 by decide), if_neg q]) rfl
theorem hasPart_eq (sz : Nat → Int32) {t n : Nat} (ht : t < 6) (hn : n ≤ 60) (e : sz t = nI n) (x y : Int32) : (∃ i m, x = nI i ∧ y = nI m ∧ i + m ≤ n ∧ f_X5_hasPart sz (nI t) x y = some (nI 1)) ∨ ((x < nI 0 ∨ y < nI 0 ∨ ¬ y ≤ nI n - x) ∧ f_X5_hasPart sz (nI t) x y = some (nI 0)) := by
  have e0 : (nI 0).toInt = 0 := by decide
  unfold f_X5_hasPart
  simp only [lI]
  rw [if_neg (nI_lt0 (show t < 2 ^ 31 by omega)), if_neg (nI_ge ht (by decide)), gI_n ht (by decide), nI_clamp (by omega), e]
  by_cases q1 : x < nI 0
  · exact Or.inr ⟨Or.inl q1, by rw [if_pos q1]⟩
  by_cases q2 : y < nI 0
  · exact Or.inr ⟨Or.inr (Or.inl q2), by rw [if_neg q1, if_pos q2]⟩
  rw [if_neg q1, if_neg q2]
  have n1 : 0 ≤ x.toInt := by
    have := Int32.not_lt.mp q1
    rw [Int32.le_iff_toInt_le, e0] at this
    exact this
  have n2 : 0 ≤ y.toInt := by
    have := Int32.not_lt.mp q2
    rw [Int32.le_iff_toInt_le, e0] at this
    exact this
  have b1 := Int32.toInt_lt x
  have b2 := Int32.toInt_lt y
  have sx : (nI n - x).toInt = (n : Int) - x.toInt := by
    rw [Int32.toInt_sub, nI_toInt (by omega)]
    exact Int.bmod_eq_of_le (by omega) (by omega)
  have sy : (nI n - y).toInt = (n : Int) - y.toInt := by
    rw [Int32.toInt_sub, nI_toInt (by omega)]
    exact Int.bmod_eq_of_le (by omega) (by omega)
  have tn : (nI n).toInt = (n : Int) := nI_toInt (by omega)
  by_cases q3 : nI n < y
  · refine Or.inr ⟨Or.inr (Or.inr ?_), by rw [if_pos q3]⟩
    rw [Int32.le_iff_toInt_le, sx]
    rw [Int32.lt_iff_toInt_lt, tn] at q3
    omega
  by_cases q4 : nI n - y < x
  · refine Or.inr ⟨Or.inr (Or.inr ?_), by rw [if_neg q3, if_pos q4]⟩
    rw [Int32.le_iff_toInt_le, sx]
    rw [Int32.lt_iff_toInt_lt, sy] at q4
    omega
  rw [if_neg q3, if_neg q4]
  rw [Int32.lt_iff_toInt_lt, tn] at q3
  rw [Int32.lt_iff_toInt_lt, sy] at q4
  obtain ⟨i, hi, rfl⟩ := nI_of2 (M := nI 60) (n := 60) (nI_toInt (by decide)) q1 (by rw [Int32.le_iff_toInt_le, nI_toInt (show 60 < 2 ^ 31 by decide)]; omega)
  obtain ⟨m, hm, rfl⟩ := nI_of2 (M := nI 60) (n := 60) (nI_toInt (by decide)) q2 (by rw [Int32.le_iff_toInt_le, nI_toInt (show 60 < 2 ^ 31 by decide)]; omega)
  rw [nI_toInt (show m < 2 ^ 31 by omega)] at q3 q4
  rw [nI_toInt (show i < 2 ^ 31 by omega)] at q4
  exact Or.inl ⟨i, m, rfl, rfl, by omega, rfl⟩
theorem slideM (ce ca : Nat → Int64) {t i u j n : Nat} (ht : t < 6) (hi : i + n ≤ 60) (hu : u < 6) (hj : j + n ≤ 60) : ∃ ce2 ca2, l_X8_slide_102 (nI t) (nI i) (nI u) (nI j) (nI n) ce (nI 0, ca) = some (nI n, ce2, ca2) ∧ (∀ k, k < n → ce2 (60 * u + j + k) = ce (60 * t + i + k)) ∧ ∀ k, (k < 60 * u + j ∨ 60 * u + j + n ≤ k) → ce2 k = ce k := by
  have e139 : ∀ ca2 : Nat → Int64, (∀ k, k < n → ca2 k = ce (60 * t + i + k)) → ∃ ce2, l_X8_slide_139 (nI u) (nI j) (nI n) ca2 (nI 0, ce) = some (nI n, ce2, ca2) ∧ (∀ k, k < n → ce2 (60 * u + j + k) = ce (60 * t + i + k)) ∧ ∀ k, (k < 60 * u + j ∨ 60 * u + j + n ≤ k) → ce2 k = ce k := by
    intro ca2 hca
    unfold l_X8_slide_139
    obtain ⟨q, ⟨ce2, rfl, h1, h3⟩, h2⟩ := lp_inv (F := fun k (x : Int32 × (Nat → Int64)) => b_X8_slide_139 (nI u) (nI j) (nI n) ca2 k x.1 x.2) (fun d x => x.1 = nI d ∧ (∀ k, k < d → x.2 (60 * u + j + k) = ce (60 * t + i + k)) ∧ ∀ k, (k < 60 * u + j ∨ 60 * u + j + d ≤ k) → x.2 k = ce k) (fun q => ∃ ce2 : Nat → Int64, q = (nI n, ce2, ca2) ∧ (∀ k, k < n → ce2 (60 * u + j + k) = ce (60 * t + i + k)) ∧ ∀ k, (k < 60 * u + j ∨ 60 * u + j + n ≤ k) → ce2 k = ce k) n (by
      rintro d ⟨x1, f⟩ hd ⟨e1, g1, g2⟩
      dsimp only at e1 g1 g2
      subst e1
      refine Or.inl ⟨(nI (d + 1), vp_updL f (60 * u + j + d) (ca2 d)), ⟨rfl, fun k hk => ?_, fun k hk => ?_⟩, fun z => ?_⟩
      · dsimp only
        by_cases q : k = d
        · rw [q, pk_uLs]; exact hca d hd
        · rw [pk_uLn (by omega)]; exact g1 k (by omega)
      · dsimp only
        rw [pk_uLn (by omega)]
        exact g2 k (by omega)
      · show b_X8_slide_139 (nI u) (nI j) (nI n) ca2 z (nI d) f = _
        unfold b_X8_slide_139
        simp only [lI, pk_mul, nI_add]
        rw [if_neg (nI_ge hd (by omega)), gI_n (by omega) (by decide), gI_n (by omega) (by decide), nI_clamp (by omega), nI_clamp (by omega)]) (by
      rintro ⟨x1, f⟩ ⟨e1, g1, g2⟩
      dsimp only at e1 g1 g2
      subst e1
      refine ⟨_, ⟨f, rfl, g1, g2⟩, fun z => ?_⟩
      show b_X8_slide_139 (nI u) (nI j) (nI n) ca2 z (nI n) f = _
      unfold b_X8_slide_139
      rw [if_pos (nI_le (Nat.le_refl _) (by omega))]) fu (nI 0, ce) (by unfold fu; omega) ⟨rfl, fun k hk => absurd hk (Nat.not_lt_zero k), fun k _ => rfl⟩
    exact ⟨ce2, h2, h1, h3⟩
  unfold l_X8_slide_102
  obtain ⟨q, ⟨ce2, ca2, rfl, h1, h3⟩, h2⟩ := lp_inv (F := fun k (x : Int32 × (Nat → Int64)) => b_X8_slide_102 (nI t) (nI i) (nI u) (nI j) (nI n) ce k x.1 x.2) (fun d x => x.1 = nI d ∧ ∀ k, k < d → x.2 k = ce (60 * t + i + k)) (fun q => ∃ (ce2 ca2 : Nat → Int64), q = (nI n, ce2, ca2) ∧ (∀ k, k < n → ce2 (60 * u + j + k) = ce (60 * t + i + k)) ∧ ∀ k, (k < 60 * u + j ∨ 60 * u + j + n ≤ k) → ce2 k = ce k) n (by
    rintro d ⟨x1, f⟩ hd ⟨e1, g1⟩
    dsimp only at e1 g1
    subst e1
    refine Or.inl ⟨(nI (d + 1), vp_updL f d (ce (60 * t + i + d))), ⟨rfl, fun k hk => ?_⟩, fun z => ?_⟩
    · dsimp only
      by_cases q : k = d
      · rw [q, pk_uLs]
      · rw [pk_uLn q]; exact g1 k (by omega)
    · show b_X8_slide_102 (nI t) (nI i) (nI u) (nI j) (nI n) ce z (nI d) f = _
      unfold b_X8_slide_102
      simp only [lI, pk_mul, nI_add]
      rw [if_neg (nI_ge hd (by omega)), gI_n (by omega) (by decide), gI_n (by omega) (by decide), nI_clamp (by omega), nI_clamp (by omega)]) (by
    rintro ⟨x1, f⟩ ⟨e1, g1⟩
    dsimp only at e1 g1
    subst e1
    obtain ⟨ce2, c1, c2, c3⟩ := e139 f g1
    refine ⟨_, ⟨ce2, f, rfl, c2, c3⟩, fun z => ?_⟩
    show b_X8_slide_102 (nI t) (nI i) (nI u) (nI j) (nI n) ce z (nI n) f = _
    unfold b_X8_slide_102
    simp only [lI]
    rw [if_pos (nI_le (Nat.le_refl _) (by omega)), c1]) fu (nI 0, ca) (by unfold fu; omega) ⟨rfl, fun k hk => absurd hk (Nat.not_lt_zero k)⟩
  exact ⟨ce2, ca2, h2, h1, h3⟩
theorem slide_both {so sz so' sz' : Nat → Int32} {it ce : Nat → Int64} (hT : TpR so sz it so' sz' ce) (ca : Nat → Int64) (x1 x2 x3 x4 x5 : Int32) : ∃ v it2 ce2 ca2, f_X7_slide so sz it x1 x2 x3 x4 x5 = some (v, it2) ∧ f_X8_slide so' sz' ce ca x1 x2 x3 x4 x5 = some (v, ce2, ca2) ∧ TpR so sz it2 so' sz' ce2 := by
  unfold f_X7_slide f_X8_slide
  simp only [lI]
  rcases tapeX x1 with ⟨t, ht, rfl, e1, e2⟩ | ⟨e1, e2⟩
  rotate_left
  · rw [e1, e2, Option.bind_some, Option.bind_some, if_pos rfl, if_pos rfl]
    exact ⟨_, it, ce, ca, rfl, rfl, hT⟩
  rw [e1, e2, Option.bind_some, Option.bind_some, if_neg h10_, if_neg h10_]
  rcases tapeX x3 with ⟨u, hu, rfl, e3, e4⟩ | ⟨e3, e4⟩
  rotate_left
  · rw [e3, e4, Option.bind_some, Option.bind_some, if_pos rfl, if_pos rfl]
    exact ⟨_, it, ce, ca, rfl, rfl, hT⟩
  rw [e3, e4, Option.bind_some, Option.bind_some, if_neg h10_, if_neg h10_]
  obtain ⟨g1, g2, n, hn, en, hs, hc⟩ := hT t ht
  obtain ⟨f1, f2, m, hm, em, ps, pc⟩ := hT u hu
  have hneg : ∀ k : Nat, k ≤ 4 → ¬ nI k = -nI 1 := by
    intro k hk z
    have := congrArg Int32.toInt z
    rw [nI_toInt (by omega)] at this
    have em : (-nI 1).toInt = -1 := by decide
    omega
  have hm1 : -nI 1 < nI 0 := by decide
  rw [sortC so ht, sortC so hu, gI_n ht (by decide), gI_n hu (by decide), nI_clamp (show t < 2 ^ 31 by omega), nI_clamp (show u < 2 ^ 31 by omega), g1, g2, f1, f2, en, em]
  simp only [Option.bind_some]
  rcases hs with ⟨hs, h0⟩ | ⟨k, hk, hs⟩
  · rw [hs, if_pos rfl, if_pos hm1]
    exact ⟨_, it, ce, ca, rfl, rfl, hT⟩
  rw [hs, if_neg (hneg k hk), if_neg (nI_lt0 (show k < 2 ^ 31 by omega))]
  rcases ps with ⟨ps, h0⟩ | ⟨k2, hk2, ps⟩
  · rw [ps, if_pos rfl, if_neg (show ¬ nI 0 ≤ -nI 1 by decide)]
    exact ⟨_, it, ce, ca, rfl, rfl, hT⟩
  rw [ps, if_neg (hneg k2 hk2), if_pos (nI_0le (show k2 < 2 ^ 31 by omega))]
  by_cases q : nI k = nI k2
  rotate_left
  · rw [if_neg q, if_neg q]
    exact ⟨_, it, ce, ca, rfl, rfl, hT⟩
  rw [if_pos q, if_pos q]
  rcases hasPart_eq sz ht hn en x2 x5 with ⟨i, w, rfl, rfl, hiw, c1⟩ | ⟨c0, c1⟩
  rotate_left
  · rw [c1, Option.bind_some, if_pos rfl]
    refine ⟨_, it, ce, ca, rfl, ?_, hT⟩
    rcases c0 with c0 | c0 | c0
    · by_cases z : x5 < nI 0
      · rw [if_pos z]
      · rw [if_neg z, if_pos c0]
    · rw [if_pos c0]
    · by_cases z : x5 < nI 0
      · rw [if_pos z]
      · rw [if_neg z]
        by_cases z2 : x2 < nI 0
        · rw [if_pos z2]
        · rw [if_neg z2]
          by_cases z3 : x4 < nI 0
          · rw [if_pos z3]
          · rw [if_neg z3, if_pos (Int32.not_le.mp c0)]
  rw [c1, Option.bind_some, if_neg h10_, if_neg (nI_lt0 (show w < 2 ^ 31 by omega)), if_neg (nI_lt0 (show i < 2 ^ 31 by omega))]
  have hle : ¬ nI n - nI i < nI w := by
    rw [Int32.lt_iff_toInt_lt, subI (by omega) (by omega), nI_toInt (by omega)]
    omega
  rcases hasPart_eq sz hu hm em x4 (nI w) with ⟨j, w2, rfl, ew, hjw, d1⟩ | ⟨d0, d1⟩
  rotate_left
  · rw [d1, Option.bind_some, if_pos rfl]
    refine ⟨_, it, ce, ca, rfl, ?_, hT⟩
    rcases d0 with d0 | d0 | d0
    · rw [if_pos d0]
    · exact absurd d0 (nI_lt0 (by omega))
    · by_cases z3 : x4 < nI 0
      · rw [if_pos z3]
      · rw [if_neg z3, if_neg hle, if_neg d0]
  have hw2 : w = w2 := by
    by_cases z : w2 < 2 ^ 31
    · exact nI_inj (by omega) z ew
    · omega
  subst hw2
  have hle2 : nI w ≤ nI m - nI j := by
    rw [Int32.le_iff_toInt_le, subI (by omega) (by omega), nI_toInt (by omega)]
    omega
  obtain ⟨ce2, ca2, s1, s2, s3⟩ := slideM ce ca (t := t) (i := i) (u := u) (j := j) (n := w) ht (by omega) hu (by omega)
  have hcp : f_X5_copyPart sz it (nI t) (nI i) (nI u) (nI j) (nI w) = some (va_cpy it it (60 * t + i) (60 * u + j) w) := by
    unfold f_X5_copyPart
    simp only [lI, pk_mul, nI_add]
    rw [c1, Option.bind_some, if_neg h10_, d1, Option.bind_some, if_neg h10_, nI_clamp (show t * 60 + i < 2 ^ 31 by omega), nI_clamp (show u * 60 + j < 2 ^ 31 by omega), nI_clamp (show w < 2 ^ 31 by omega), gd_t ⟨nI_lt0 (by omega), nI_lt0 (by omega), nI_lt0 (by omega), by omega, by omega⟩, Nat.mul_comm t 60, Nat.mul_comm u 60]
  rw [d1, Option.bind_some, if_neg h10_, hcp, Option.bind_some, if_neg (nI_lt0 (show j < 2 ^ 31 by omega)), if_neg hle, if_pos hle2, s1]
  refine ⟨_, _, ce2, ca2, rfl, rfl, fun p hp => ?_⟩
  obtain ⟨r1, r2, y, hy, ey, ry, rc⟩ := hT p hp
  refine ⟨r1, r2, y, hy, ey, ry, fun k hk => ?_⟩
  by_cases z : 60 * u + j ≤ 60 * p + k ∧ 60 * p + k < 60 * u + j + w
  · rw [pk_cpy_in z.1 z.2]
    have := s2 (60 * p + k - (60 * u + j)) (by omega)
    rw [show 60 * u + j + (60 * p + k - (60 * u + j)) = 60 * p + k by omega] at this
    rw [this, show 60 * t + i + (60 * p + k - (60 * u + j)) = 60 * t + (i + (60 * p + k - (60 * u + j))) by omega]
    exact hc _ (by omega)
  · rw [pk_cpy_out (by omega), s3 _ (by omega)]
    exact rc k hk
