/-! B9: the reference's rows changed; where a stop stands; miles -/
/-- only places of one round's row (and how many) differ -/
def offR (r : Nat) (s s' : Nat → Int32) : Prop := ∀ j, (j < 178 + 20 * r + 3 ∨ 178 + 20 * r + 20 ≤ j) → s' j = s j
theorem MR.off {s s' : Nat → Int32} {r r' : Nat} {L : List Nat} (h : MR s r' L) (ho : offR r s s') (hne : r' ≠ r) (hL : L.length ≤ 16) : MR s' r' L := by
  refine ⟨?_, fun k hk => ?_⟩
  · rw [ho _ (by omega)]; exact h.1
  · rw [ho _ (by omega)]; exact h.2 k hk
theorem insertsM_eq {s : Nat → Int32} {r : Nat} {L : List Nat} (hr : r < 4) (hM : MR s r L) (hL : L.length < 16) {k p : Nat} (hk : k ≤ L.length) : ∃ s', f_X8_inserts s (nI r) (nI k) (nI p) = some s' ∧ MR s' r (ins L k p) ∧ offR r s s' := by
  unfold f_X8_inserts l_X8_inserts_21
  simp only [lI, pk_mul, nI_add]
  rw [gI_n (by omega) (by decide), nI_clamp (by omega), hM.1]
  obtain ⟨q, h1, h3⟩ := lp_inv (F := fun z x => b_X8_inserts_21 (nI k) (nI p) (nI (178 + 20 * r)) z x.1 x.2) (fun t x => x.1 = nI (L.length - t) ∧ (∀ j, j ≤ L.length → x.2 (178 + 20 * r + 4 + j) = if L.length - t < j then nI (at_ L (j - 1)) else s (178 + 20 * r + 4 + j)) ∧ x.2 (178 + 20 * r + 3) = nI L.length ∧ offR r s x.2) (fun q => MR q r (ins L k p) ∧ offR r s q) (L.length - k)
    (by
      rintro t ⟨x3, f⟩ ht ⟨rfl, h2, h4, h5⟩
      dsimp only at h2 h4 h5
      refine Or.inl ⟨(nI (L.length - (t + 1)), upd f (178 + 20 * r + 4 + (L.length - t)) (nI (at_ L (L.length - t - 1)))), ⟨rfl, fun j hj => ?_, ?_, fun j hj => ?_⟩, fun z => ?_⟩
      · dsimp only
        by_cases hji : j = L.length - t
        · subst hji; rw [pk_us, if_pos (by omega)]
        · rw [pk_un (by omega), h2 j hj]
          by_cases h6 : L.length - t < j
          · rw [if_pos h6, if_pos (by omega)]
          · rw [if_neg h6, if_neg (by omega)]
      · dsimp only
        rw [pk_un (by omega), h4]
      · dsimp only
        rw [pk_un (by omega), h5 j hj]
      · show b_X8_inserts_21 _ _ _ z (nI (L.length - t)) f = _
        unfold b_X8_inserts_21
        simp only [lI, nI_add]
        rw [if_neg (nI_ge (by omega) (by omega)), nI_sub1 (by omega), nI_m1 (by omega), gI_n (by omega) (by decide), gI_n (by omega) (by decide), nI_clamp (by omega), nI_clamp (by omega), show 178 + 20 * r + 4 + (L.length - t) - 1 = 178 + 20 * r + 4 + (L.length - t - 1) from by omega, h2 (L.length - t - 1) (by omega), if_neg (by omega), hM.2 _ (by omega)]
        rfl)
    (by
      rintro ⟨x3, f⟩ ⟨rfl, h2, h4, h5⟩
      dsimp only at h2 h4 h5
      refine ⟨upd (upd f (178 + 20 * r + 4 + k) (nI p)) (178 + 20 * r + 3) (nI (L.length + 1)), ⟨⟨?_, fun j hj => ?_⟩, fun j hj => ?_⟩, fun z => ?_⟩
      · rw [pk_us, ins_len hk]
      · rw [ins_len hk] at hj
        rw [pk_un (by omega), at_ins hk]
        by_cases h6 : j = k
        · subst h6
          rw [pk_us, if_neg (Nat.lt_irrefl _), if_pos rfl]
        · rw [pk_un (by omega), h2 j (by omega)]
          by_cases h7 : j < k
          · rw [if_neg (by omega), if_pos h7, hM.2 j (by omega)]
          · rw [if_pos (by omega), if_neg h7, if_neg h6]
      · rw [pk_un (by omega), pk_un (by omega), h5 j hj]
      · show b_X8_inserts_21 _ _ _ z (nI (L.length - (L.length - k))) f = _
        unfold b_X8_inserts_21
        simp only [lI, nI_add]
        rw [if_pos (nI_le (by omega) (by omega)), gI_n (by omega) (by decide), gI_n (by omega) (by decide), nI_clamp (by omega), nI_clamp (by omega), pk_un (by omega), h4, nI_add])
    fu (nI L.length, s) (by unfold fu; omega) ⟨rfl, fun j hj => by rw [if_neg (by omega)], hM.1, fun j _ => rfl⟩
  exact ⟨q, h3, h1.1, h1.2⟩
theorem removesM_eq {s : Nat → Int32} {r : Nat} {L : List Nat} (hr : r < 4) (hM : MR s r L) (hL : L.length ≤ 16) {k : Nat} (hk : k < L.length) : ∃ s', f_X8_removes s (nI r) (nI k) = some s' ∧ MR s' r (del L k) ∧ offR r s s' := by
  unfold f_X8_removes l_X8_removes_24
  simp only [lI, pk_mul, nI_add]
  rw [gI_n (by omega) (by decide), nI_clamp (by omega), hM.1, nI_sub1 (by omega)]
  obtain ⟨q, h1, h3⟩ := lp_inv (F := fun z x => b_X8_removes_24 (nI (178 + 20 * r)) z x.1 x.2) (fun t x => x.1 = nI (k + t) ∧ (∀ j, j < L.length → x.2 (178 + 20 * r + 4 + j) = if k ≤ j ∧ j < k + t then nI (at_ L (j + 1)) else nI (at_ L j)) ∧ x.2 (178 + 20 * r + 3) = nI (L.length - 1) ∧ offR r s x.2) (fun q => MR q r (del L k) ∧ offR r s q) (L.length - 1 - k)
    (by
      rintro t ⟨x3, f⟩ ht ⟨rfl, h2, h4, h5⟩
      dsimp only at h2 h4 h5
      refine Or.inl ⟨(nI (k + (t + 1)), upd f (178 + 20 * r + 4 + (k + t)) (nI (at_ L (k + t + 1)))), ⟨rfl, fun j hj => ?_, ?_, fun j hj => ?_⟩, fun z => ?_⟩
      · dsimp only
        by_cases hji : j = k + t
        · subst hji; rw [pk_us, if_pos (by omega)]
        · rw [pk_un (by omega), h2 j hj]
          by_cases h6 : k ≤ j ∧ j < k + t
          · rw [if_pos h6, if_pos (by omega)]
          · rw [if_neg h6, if_neg (by omega)]
      · dsimp only
        rw [pk_un (by omega), h4]
      · dsimp only
        rw [pk_un (by omega), h5 j hj]
      · show b_X8_removes_24 _ z (nI (k + t)) f = _
        unfold b_X8_removes_24
        simp only [lI, nI_add]
        rw [gI_n (by omega) (by decide), nI_clamp (by omega), h4, if_neg (nI_ge (by omega) (by omega)), gI_n (by omega) (by decide), gI_n (by omega) (by decide), nI_clamp (by omega), nI_clamp (by omega), show 178 + 20 * r + 4 + (k + t) + 1 = 178 + 20 * r + 4 + (k + t + 1) from by omega, h2 (k + t + 1) (by omega), if_neg (by omega)]
        rfl)
    (by
      rintro ⟨x3, f⟩ ⟨rfl, h2, h4, h5⟩
      dsimp only at h2 h4 h5
      refine ⟨f, ⟨⟨?_, fun j hj => ?_⟩, h5⟩, fun z => ?_⟩
      · rw [h4, del_len hk]
      · rw [del_len hk] at hj
        rw [at_del hk, h2 j (by omega)]
        by_cases h6 : j < k
        · rw [if_neg (by omega), if_pos h6]
        · rw [if_pos (by omega), if_neg h6]
      · show b_X8_removes_24 _ z (nI (k + (L.length - 1 - k))) f = _
        unfold b_X8_removes_24
        simp only [lI, nI_add]
        rw [gI_n (by omega) (by decide), nI_clamp (by omega), h4, if_pos (nI_le (by omega) (by omega))])
    fu (nI k, upd s (178 + 20 * r + 3) (nI (L.length - 1))) (by unfold fu; omega) ⟨rfl, fun j hj => by dsimp only; rw [if_neg (by omega), pk_un (by omega), hM.2 j hj], pk_us, fun j hj => by dsimp only; rw [pk_un (by omega)]⟩
  exact ⟨q, h3, h1.1, h1.2⟩
theorem reversesM_eq {s : Nat → Int32} {r : Nat} {L : List Nat} (hr : r < 4) (hM : MR s r L) (hL : L.length ≤ 16) {i j : Nat} (hij : i ≤ j) (hj : j < L.length) : ∃ s', f_X8_reverses s (nI r) (nI i) (nI j) = some s' ∧ MR s' r (rev L i j) ∧ offR r s s' := by
  unfold f_X8_reverses l_X8_reverses_18
  simp only [lI, pk_mul, nI_add]
  obtain ⟨q, h1, h3⟩ := lp_inv (F := fun z x => b_X8_reverses_18 (nI (178 + 20 * r + 4)) z x.1 x.2.1 x.2.2) (fun t x => x.1 = nI (i + t) ∧ x.2.1 = nI (j - t) ∧ (∀ y, y < L.length → x.2.2 (178 + 20 * r + 4 + y) = if (i ≤ y ∧ y < i + t) ∨ (j - t < y ∧ y ≤ j) then nI (at_ L (i + j - y)) else nI (at_ L y)) ∧ x.2.2 (178 + 20 * r + 3) = nI L.length ∧ offR r s x.2.2) (fun q => MR q r (rev L i j) ∧ offR r s q) ((j - i + 1) / 2)
    (by
      rintro t ⟨x3, x4, f⟩ ht ⟨e3, e4, h2, h4, h5⟩
      dsimp only at e3 e4 h2 h4 h5
      subst e3 e4
      refine Or.inl ⟨(nI (i + (t + 1)), nI (j - (t + 1)), upd (upd f (178 + 20 * r + 4 + (i + t)) (nI (at_ L (j - t)))) (178 + 20 * r + 4 + (j - t)) (nI (at_ L (i + t)))), ⟨rfl, rfl, fun y hy => ?_, ?_, fun y hy => ?_⟩, fun z => ?_⟩
      · dsimp only
        by_cases hy1 : y = j - t
        · subst hy1
          rw [pk_us, if_pos (by omega)]
          congr 2
          omega
        · rw [pk_un (by omega)]
          by_cases hy2 : y = i + t
          · subst hy2
            rw [pk_us, if_pos (by omega)]
            congr 2
            omega
          · rw [pk_un (by omega), h2 y hy]
            by_cases h6 : (i ≤ y ∧ y < i + t) ∨ (j - t < y ∧ y ≤ j)
            · rw [if_pos h6, if_pos (by omega)]
            · rw [if_neg h6, if_neg (by omega)]
      · dsimp only
        rw [pk_un (by omega), pk_un (by omega), h4]
      · dsimp only
        rw [pk_un (by omega), pk_un (by omega), h5 y hy]
      · show b_X8_reverses_18 _ z (nI (i + t)) (nI (j - t)) f = _
        unfold b_X8_reverses_18
        simp only [lI, nI_add]
        rw [if_neg (nI_ge (by omega) (by omega)), nI_m1 (by omega), gI_n (by omega) (by decide), gI_n (by omega) (by decide), nI_clamp (by omega), nI_clamp (by omega), h2 (j - t) (by omega), h2 (i + t) (by omega), if_neg (by omega), if_neg (by omega)]
        rfl)
    (by
      rintro ⟨x3, x4, f⟩ ⟨e3, e4, h2, h4, h5⟩
      dsimp only at e3 e4 h2 h4 h5
      subst e3 e4
      refine ⟨f, ⟨⟨?_, fun y hy => ?_⟩, h5⟩, fun z => ?_⟩
      · rw [h4, rev_len hij hj]
      · rw [rev_len hij hj] at hy
        rw [at_rev hij hj, h2 y hy]
        by_cases h6 : i ≤ y ∧ y ≤ j
        · rw [if_pos h6]
          by_cases h7 : (i ≤ y ∧ y < i + (j - i + 1) / 2) ∨ (j - (j - i + 1) / 2 < y ∧ y ≤ j)
          · rw [if_pos h7]
          · rw [if_neg h7]
            congr 2
            omega
        · rw [if_neg h6, if_neg (by omega)]
      · show b_X8_reverses_18 _ z (nI (i + (j - i + 1) / 2)) (nI (j - (j - i + 1) / 2)) f = _
        unfold b_X8_reverses_18
        rw [if_pos (nI_le (by omega) (by omega))])
    fu (nI i, nI j, s) (by unfold fu; omega) ⟨rfl, rfl, fun y hy => by dsimp only; rw [if_neg (by omega), hM.2 y hy], hM.1, fun y _ => rfl⟩
  exact ⟨q, h3, h1.1, h1.2⟩
/-- the place of a stop in a list -/
def plc (L : List Nat) (p : Nat) : Int32 := if p ∈ L then nI (L.idxOf p) else -nI 5
theorem at_idx {L : List Nat} {p : Nat} (h : p ∈ L) : at_ L (L.idxOf p) = p := by
  rw [at_def, List.getElem?_eq_getElem (List.idxOf_lt_length_iff.mpr h), List.getElem_idxOf]
  rfl
theorem at_mem {L : List Nat} {k : Nat} (h : k < L.length) : at_ L k ∈ L := by
  rw [at_def, List.getElem?_eq_getElem h]
  exact List.getElem_mem h
theorem ne_before {L : List Nat} {p k : Nat} (hk : k < L.idxOf p) : at_ L k ≠ p := by
  intro h
  by_cases hp : k < L.length
  · have h2 : L[k] = p := by
      rw [at_def, List.getElem?_eq_getElem hp] at h
      exact h
    have h3 := List.not_of_lt_findIdx (p := (· == p)) (xs := L) (i := k) hk
    simp [h2] at h3
  · have := List.idxOf_le_length (a := p) (l := L)
    omega
theorem placeIn_eq {s : Nat → Int32} {r p : Nat} {L : List Nat} (hr : r < 4) (hM : MR s r L) (hL : L.length ≤ 16) (hLn : ∀ p ∈ L, p < 16) (hp : p < 2 ^ 31) : f_X8_placeIn s (nI r) (nI p) = some (plc L p) := by
  unfold f_X8_placeIn l_X8_placeIn_2
  simp only [lI]
  have hle := List.idxOf_le_length (a := p) (l := L)
  refine lp_eq (F := fun z x => b_X8_placeIn_2 (nI r) (nI p) s z x) (fun t x => x = nI t) (plc L p) (L.idxOf p) ?_ ?_ fu (nI 0) (by unfold fu; omega) rfl
  · rintro t x ht rfl
    refine Or.inl ⟨nI (t + 1), rfl, fun z => ?_⟩
    show b_X8_placeIn_2 _ _ _ z (nI t) = _
    unfold b_X8_placeIn_2
    simp only [lI, nI_add]
    rw [roundAt_eq s (by omega), Option.bind_some, hM.1, if_neg (nI_ge (by omega) (by omega)), inRow_at hr hM hL (by omega), Option.bind_some, if_neg]
    rw [nI_eq (by have := at_lt hLn (show t < L.length by omega); omega) hp]
    exact ne_before ht
  · rintro x rfl z
    show b_X8_placeIn_2 _ _ _ z (nI (L.idxOf p)) = _
    unfold b_X8_placeIn_2 plc
    simp only [lI]
    rw [roundAt_eq s (by omega), Option.bind_some, hM.1]
    by_cases hm : p ∈ L
    · have hlt := List.idxOf_lt_length_iff.mpr hm
      rw [if_neg (nI_ge hlt (by omega)), inRow_at hr hM hL hlt, Option.bind_some, at_idx hm, if_pos rfl, if_pos hm]
    · have hge : L.length ≤ L.idxOf p := by
        rcases Nat.lt_or_ge (L.idxOf p) L.length with q | q
        · exact absurd (List.idxOf_lt_length_iff.mp q) hm
        · exact q
      rw [if_pos (nI_le hge (by omega)), if_neg hm]
/-- the round of a stop -/
def rof (L : Nat → List Nat) (p : Nat) : Int32 := if p ∈ L 0 then nI 0 else if p ∈ L 1 then nI 1 else if p ∈ L 2 then nI 2 else if p ∈ L 3 then nI 3 else -nI 5
/-- all rounds of the reference -/
def MRs (s : Nat → Int32) (n : Nat) (L : Nat → List Nat) : Prop := ∀ r, r < 4 → MR s r (L r) ∧ (L r).length ≤ 16 ∧ ∀ p ∈ L r, p < n
theorem roundOfM_eq {s : Nat → Int32} {n p : Nat} {L : Nat → List Nat} (hM : MRs s n L) (hn : n ≤ 16) (hp : p < 2 ^ 31) : f_X8_roundOf s (nI p) = some (rof L p) := by
  have hpl : ∀ r, r < 4 → f_X8_placeIn s (nI r) (nI p) = some (plc (L r) p) := fun r hr => placeIn_eq hr (hM r hr).1 (hM r hr).2.1 (fun q hq => Nat.lt_of_lt_of_le ((hM r hr).2.2 q hq) hn) hp
  have hneg : ∀ M : List Nat, M.length ≤ 16 → ((plc M p < nI 0) ↔ p ∉ M) := by
    intro M hlM
    unfold plc
    by_cases hm : p ∈ M
    · rw [if_pos hm]
      have := List.idxOf_lt_length_iff.mpr hm
      exact ⟨fun q => absurd q (nI_lt0 (by omega)), fun q => absurd hm q⟩
    · rw [if_neg hm]
      exact ⟨fun _ => hm, fun _ => by decide⟩
  have hrof : ∀ t, t < 4 → (∀ j, j < t → p ∉ L j) → p ∈ L t → rof L p = nI t := by
    intro t ht hj hm
    unfold rof
    rcases (show t = 0 ∨ t = 1 ∨ t = 2 ∨ t = 3 by omega) with rfl | rfl | rfl | rfl
    · rw [if_pos hm]
    · rw [if_neg (hj 0 (by omega)), if_pos hm]
    · rw [if_neg (hj 0 (by omega)), if_neg (hj 1 (by omega)), if_pos hm]
    · rw [if_neg (hj 0 (by omega)), if_neg (hj 1 (by omega)), if_neg (hj 2 (by omega)), if_pos hm]
  unfold f_X8_roundOf l_X8_roundOf_2
  simp only [lI]
  refine lp_eq (F := fun z x => b_X8_roundOf_2 (nI p) s z x) (fun t x => x = nI t ∧ ∀ j, j < t → p ∉ L j) (rof L p) 4 ?_ ?_ fu (nI 0) (by unfold fu; omega) ⟨rfl, fun j hj => absurd hj (Nat.not_lt_zero j)⟩
  · rintro t x ht ⟨rfl, hj⟩
    have hst : ∀ z, b_X8_roundOf_2 (nI p) s z (nI t) = if plc (L t) p < nI 0 then z (nI (t + 1)) else some (nI t) := by
      intro z
      unfold b_X8_roundOf_2
      simp only [lI, nI_add]
      rw [if_neg (nI_ge ht (by decide)), hpl t ht, Option.bind_some]
    by_cases hm : p ∈ L t
    · exact Or.inr fun z => (hst z).trans (by rw [if_neg (fun q => (hneg _ (hM t ht).2.1).mp q hm), hrof t ht hj hm])
    · refine Or.inl ⟨nI (t + 1), ⟨rfl, fun j hjt => ?_⟩, fun z => (hst z).trans (if_pos ((hneg _ (hM t ht).2.1).mpr hm))⟩
      by_cases e : j = t
      · subst e; exact hm
      · exact hj j (by omega)
  · rintro x ⟨rfl, hj⟩ z
    show b_X8_roundOf_2 (nI p) s z (nI 4) = _
    unfold b_X8_roundOf_2 rof
    simp only [lI]
    rw [if_pos (nI_le (Nat.le_refl _) (by decide)), if_neg (hj 0 (by omega)), if_neg (hj 1 (by omega)), if_neg (hj 2 (by omega)), if_neg (hj 3 (by omega))]
theorem mi_succ (D : Nat → Nat → Int32) (L : List Nat) (k : Nat) : mi D L (k + 1) = mi D L k + D (pv_ L k) (at_ L k) := rfl
theorem ml_eq (D : Nat → Nat → Int32) (L : List Nat) : ml D L = mi D L L.length + D (pv_ L L.length) 16 := by
  unfold ml
  rw [mi_succ, at_ge (Nat.le_refl _)]
theorem milesM_eq {s : Nat → Int32} {me : Int32} (hs : s 2 = me) (hm : isM me) {n r : Nat} {fc : Nat → Nat → Int32} {L : List Nat} (hr : r < 4) (hM : MR s r L) (hL : L.length ≤ 16) (hLn : ∀ p ∈ L, p < n) (hn : n ≤ 16) (hF : FcM s n fc) (hX : XY n fc) : f_X8_milesOf s (nI r) = some (ml (dist me fc) L) := by
  unfold f_X8_milesOf l_X8_milesOf_40
  simp only [lI]
  rw [roundAt_eq s (by omega), Option.bind_some, hM.1]
  by_cases h0 : L.length = 0
  · rw [if_pos (by rw [h0]), List.length_eq_zero_iff.mp h0]
    unfold ml
    rw [mi_succ]
    show some (nI 0) = some ((0 : Int32) + dist me fc 16 16)
    rw [dist_self]
    rfl
  · rw [if_neg (by rw [nI_eq (by omega) (by decide)]; exact h0), inRow_at hr hM hL (by omega), Option.bind_some, fromDepot_eq s hs hm hX hF hn (at_lt hLn (by omega)), Option.bind_some, nI_sub1 (by omega), inRow_at hr hM hL (by omega), Option.bind_some, fromDepot_eq s hs hm hX hF hn (at_lt hLn (by omega)), Option.bind_some]
    generalize hD : dist me fc = D
    have hc : ∀ a b, D a b = D b a := fun a b => by rw [← hD]; exact dist_comm me fc a b
    obtain ⟨m, hm1⟩ : ∃ m, L.length = m + 1 := ⟨L.length - 1, by omega⟩
    refine lp_eq (F := fun z x => b_X8_milesOf_40 (nI r) (nI L.length) s z x.1 x.2) (fun t x => x.2 = nI (t + 1) ∧ x.1 = mi D L (t + 1) + D (pv_ L L.length) 16) (ml D L) m ?_ ?_ fu _ (by unfold fu; omega) ⟨rfl, ?_⟩
    · rintro t ⟨x3, x4⟩ ht ⟨e4, e3⟩
      dsimp only at e3 e4
      subst e3 e4
      refine Or.inl ⟨(mi D L (t + 1 + 1) + D (pv_ L L.length) 16, nI (t + 1 + 1)), ⟨rfl, rfl⟩, fun z => ?_⟩
      show b_X8_milesOf_40 _ _ _ z _ (nI (t + 1)) = _
      unfold b_X8_milesOf_40
      simp only [lI, nI_add]
      rw [if_neg (nI_ge (by omega) (by omega)), nI_sub1 (by omega), inRow_at hr hM hL (by omega), Option.bind_some, inRow_at hr hM hL (by omega), Option.bind_some, between_eq s hs hm hX hF hn (at_lt hLn (by omega)) (at_lt hLn (by omega)), Option.bind_some, hD, mi_succ D L (t + 1), pv_succ (show 0 < t + 1 by omega)]
      congr 2
      rw [Int32.add_assoc, Int32.add_comm (D (pv_ L L.length) 16), ← Int32.add_assoc]
    · rintro ⟨x3, x4⟩ ⟨e4, e3⟩ z
      dsimp only at e3 e4
      subst e3 e4
      show b_X8_milesOf_40 _ _ _ z _ (nI (m + 1)) = _
      unfold b_X8_milesOf_40
      rw [if_pos (nI_le (by omega) (by omega)), ml_eq, hm1]
    · dsimp only
      rw [mi_succ D L 0, pv_succ (show 0 < L.length by omega), hc 16 (at_ L (L.length - 1))]
      show D 16 (at_ L 0) + _ = (0 + D 16 (at_ L 0)) + _
      rw [Int32.zero_add]
