/-! B6: lists: put in, take out, turn about, put in place of; what a Draft does of these -/
def ins (L : List Nat) (k p : Nat) : List Nat := L.take k ++ p :: L.drop k
def del (L : List Nat) (k : Nat) : List Nat := L.take k ++ L.drop (k + 1)
def rev (L : List Nat) (i j : Nat) : List Nat := L.take i ++ (((L.drop i).take (j + 1 - i)).reverse ++ L.drop (j + 1))
theorem at_def (L : List Nat) (k : Nat) : at_ L k = (L[k]?).getD 16 := by
  unfold at_
  exact List.getD_eq_getElem?_getD
theorem ins_len {L : List Nat} {k p : Nat} (h : k ≤ L.length) : (ins L k p).length = L.length + 1 := by
  unfold ins
  simp only [List.length_append, List.length_take, List.length_cons, List.length_drop]
  omega
theorem del_len {L : List Nat} {k : Nat} (h : k < L.length) : (del L k).length = L.length - 1 := by
  unfold del
  simp only [List.length_append, List.length_take, List.length_drop]
  omega
theorem rev_len {L : List Nat} {i j : Nat} (hij : i ≤ j) (h : j < L.length) : (rev L i j).length = L.length := by
  unfold rev
  simp only [List.length_append, List.length_take, List.length_reverse, List.length_drop]
  omega
theorem at_ins {L : List Nat} {k p : Nat} (h : k ≤ L.length) (j : Nat) : at_ (ins L k p) j = if j < k then at_ L j else if j = k then p else at_ L (j - 1) := by
  rw [at_def, at_def, at_def]
  unfold ins
  rw [List.getElem?_append, List.length_take, Nat.min_eq_left h]
  by_cases h1 : j < k
  · rw [if_pos h1, if_pos h1, List.getElem?_take, if_pos h1]
  · rw [if_neg h1, if_neg h1]
    by_cases h2 : j = k
    · subst h2
      rw [if_pos rfl, Nat.sub_self]
      rfl
    · rw [if_neg h2]
      obtain ⟨d, hd⟩ : ∃ d, j - k = d + 1 := ⟨j - k - 1, by omega⟩
      rw [hd, List.getElem?_cons_succ, List.getElem?_drop]
      congr 2
      omega
theorem at_del {L : List Nat} {k : Nat} (h : k < L.length) (j : Nat) : at_ (del L k) j = if j < k then at_ L j else at_ L (j + 1) := by
  rw [at_def, at_def, at_def]
  unfold del
  rw [List.getElem?_append, List.length_take, Nat.min_eq_left (by omega)]
  by_cases h1 : j < k
  · rw [if_pos h1, if_pos h1, List.getElem?_take, if_pos h1]
  · rw [if_neg h1, if_neg h1, List.getElem?_drop]
    congr 2
    omega
theorem at_rev {L : List Nat} {i j : Nat} (hij : i ≤ j) (h : j < L.length) (x : Nat) : at_ (rev L i j) x = if i ≤ x ∧ x ≤ j then at_ L (i + j - x) else at_ L x := by
  rw [at_def, at_def, at_def]
  unfold rev
  have hl : ((L.drop i).take (j + 1 - i)).length = j + 1 - i := by
    rw [List.length_take, List.length_drop]
    omega
  rw [List.getElem?_append, List.length_take, Nat.min_eq_left (by omega)]
  by_cases h1 : x < i
  · rw [if_pos h1, if_neg (by omega), List.getElem?_take, if_pos h1]
  · rw [if_neg h1, List.getElem?_append, List.length_reverse, hl]
    by_cases h2 : x ≤ j
    · rw [if_pos (by omega), if_pos ⟨by omega, h2⟩, List.getElem?_reverse (by omega), hl, List.getElem?_take, if_pos (by omega), List.getElem?_drop]
      congr 2
      omega
    · rw [if_neg (by omega), if_neg (by omega), List.getElem?_drop]
      congr 2
      omega
theorem at_put {L : List Nat} {k p : Nat} (h : k < L.length) (j : Nat) : at_ (L.set k p) j = if j = k then p else at_ L j := by
  rw [at_def, at_def, List.getElem?_set]
  by_cases h1 : k = j
  · subst h1
    rw [if_pos rfl, if_pos rfl, if_pos h]
    rfl
  · rw [if_neg h1, if_neg (fun q => h1 q.symm)]
theorem insert_eq {row : Nat → Int32} {L : List Nat} (hrow : Rep row 0 L) (hL : L.length < 16) {k p : Nat} (hk : k ≤ L.length) : ∃ row', Rep row' 0 (ins L k p) ∧ f_X0_insert row (nI L.length) (nI k) (nI p) = some (row', nI (L.length + 1)) := by
  unfold f_X0_insert l_X0_insert_27
  simp only [lI]
  rw [if_neg (nI_lt0 (by omega)), if_neg (nI_nlt hk (by omega)), if_pos (nI_lt hL (by decide))]
  obtain ⟨q, ⟨row', h1, rfl⟩, h3⟩ := lp_inv (F := fun z x => b_X0_insert_27 (nI k) (nI p) (nI L.length) z x.1 x.2) (fun t x => x.1 = nI (L.length - t) ∧ ∀ j, j ≤ L.length → x.2 j = if L.length - t < j then nI (at_ L (j - 1)) else row j) (fun q => ∃ row', Rep row' 0 (ins L k p) ∧ q = (row', nI (L.length + 1))) (L.length - k)
    (by
      rintro t ⟨x3, f⟩ ht ⟨rfl, h2⟩
      dsimp only at h2
      refine Or.inl ⟨(nI (L.length - (t + 1)), upd f (L.length - t) (nI (at_ L (L.length - t - 1)))), ⟨rfl, fun j hj => ?_⟩, fun z => ?_⟩
      · dsimp only
        by_cases hji : j = L.length - t
        · subst hji; rw [pk_us, if_pos (by omega)]
        · rw [pk_un hji, h2 j hj]
          by_cases h4 : L.length - t < j
          · rw [if_pos h4, if_pos (by omega)]
          · rw [if_neg h4, if_neg (by omega)]
      · show b_X0_insert_27 _ _ _ z (nI (L.length - t)) f = _
        unfold b_X0_insert_27
        simp only [lI]
        rw [if_neg (nI_ge (by omega) (by omega)), nI_sub1 (by omega), nI_m1 (by omega), gI_n (by omega) (by decide), gI_n (by omega) (by decide), nI_clamp (by omega), nI_clamp (by omega), h2 (L.length - t - 1) (by omega), if_neg (by omega)]
        have := hrow (L.length - t - 1) (by omega)
        rw [Nat.zero_add] at this
        rw [this]
        rfl)
    (by
      rintro ⟨x3, f⟩ ⟨rfl, h2⟩
      dsimp only at h2
      refine ⟨(upd f k (nI p), nI (L.length + 1)), ⟨_, fun j hj => ?_, rfl⟩, fun z => ?_⟩
      · rw [ins_len hk] at hj
        rw [Nat.zero_add, at_ins hk]
        by_cases h4 : j = k
        · subst h4
          rw [pk_us, if_neg (Nat.lt_irrefl _), if_pos rfl]
        · rw [pk_un h4, h2 j (by omega)]
          by_cases h5 : j < k
          · rw [if_neg (by omega), if_pos h5]
            have := hrow j (by omega)
            rwa [Nat.zero_add] at this
          · rw [if_pos (by omega), if_neg h5, if_neg h4]
      · show b_X0_insert_27 _ _ _ z (nI (L.length - (L.length - k))) f = _
        unfold b_X0_insert_27
        simp only [lI, nI_add]
        rw [if_pos (nI_le (by omega) (by omega)), gI_n (by omega) (by decide), nI_clamp (by omega)])
    fu (nI L.length, row) (by unfold fu; omega) ⟨rfl, fun j hj => by rw [if_neg (by omega)]⟩
  exact ⟨row', h1, h3⟩
theorem drop_eq {row : Nat → Int32} {L : List Nat} (hrow : Rep row 0 L) (hL : L.length ≤ 16) {k : Nat} (hk : k < L.length) : ∃ row', Rep row' 0 (del L k) ∧ f_X0_drop row (nI L.length) (nI k) = some (row', nI (L.length - 1)) := by
  unfold f_X0_drop l_X0_drop_24
  simp only [lI]
  rw [if_neg (nI_lt0 (by omega)), if_neg (nI_ge hk (by omega)), if_pos (nI_le hL (by decide))]
  obtain ⟨q, ⟨row', h1, rfl⟩, h3⟩ := lp_inv (F := fun z x => b_X0_drop_24 (nI L.length) z x.1 x.2) (fun t x => x.1 = nI (k + t) ∧ ∀ j, j < L.length → x.2 j = if k ≤ j ∧ j < k + t then nI (at_ L (j + 1)) else row j) (fun q => ∃ row', Rep row' 0 (del L k) ∧ q = (row', nI (L.length - 1))) (L.length - 1 - k)
    (by
      rintro t ⟨x3, f⟩ ht ⟨rfl, h2⟩
      dsimp only at h2
      refine Or.inl ⟨(nI (k + (t + 1)), upd f (k + t) (nI (at_ L (k + t + 1)))), ⟨rfl, fun j hj => ?_⟩, fun z => ?_⟩
      · dsimp only
        by_cases hji : j = k + t
        · subst hji; rw [pk_us, if_pos (by omega)]
        · rw [pk_un hji, h2 j hj]
          by_cases h4 : k ≤ j ∧ j < k + t
          · rw [if_pos h4, if_pos (by omega)]
          · rw [if_neg h4, if_neg (by omega)]
      · show b_X0_drop_24 _ z (nI (k + t)) f = _
        unfold b_X0_drop_24
        simp only [lI, nI_add]
        rw [nI_sub1 (by omega), if_neg (nI_ge (by omega) (by omega)), gI_n (by omega) (by decide), gI_n (by omega) (by decide), nI_clamp (by omega), nI_clamp (by omega), h2 (k + t + 1) (by omega), if_neg (by omega)]
        have := hrow (k + t + 1) (by omega)
        rw [Nat.zero_add] at this
        rw [this]
        rfl)
    (by
      rintro ⟨x3, f⟩ ⟨rfl, h2⟩
      dsimp only at h2
      refine ⟨(f, nI (L.length - 1)), ⟨_, fun j hj => ?_, rfl⟩, fun z => ?_⟩
      · rw [del_len hk] at hj
        rw [Nat.zero_add, at_del hk, h2 j (by omega)]
        by_cases h4 : j < k
        · rw [if_neg (by omega), if_pos h4]
          have := hrow j (by omega)
          rwa [Nat.zero_add] at this
        · rw [if_pos (by omega), if_neg h4]
      · show b_X0_drop_24 _ z (nI (k + (L.length - 1 - k))) f = _
        unfold b_X0_drop_24
        simp only [lI]
        rw [nI_sub1 (by omega), if_pos (nI_le (by omega) (by omega))])
    fu (nI k, row) (by unfold fu; omega) ⟨rfl, fun j hj => by rw [if_neg (by omega)]⟩
  exact ⟨row', h1, h3⟩
theorem replace_eq {row : Nat → Int32} {L : List Nat} (hrow : Rep row 0 L) (hL : L.length ≤ 16) {k p : Nat} (hk : k < L.length) : ∃ row', Rep row' 0 (L.set k p) ∧ f_X0_replace row (nI k) (nI p) = some row' := by
  unfold f_X0_replace
  simp only [lI]
  rw [chk_in (by omega) (by decide), nI_clamp (by omega)]
  refine ⟨_, fun j hj => ?_, rfl⟩
  rw [List.length_set] at hj
  rw [Nat.zero_add, at_put hk]
  by_cases h4 : j = k
  · subst h4; rw [pk_us, if_pos rfl]
  · rw [pk_un h4, if_neg h4]
    have := hrow j hj
    rwa [Nat.zero_add] at this
theorem reverse_eq {row : Nat → Int32} {L : List Nat} (hrow : Rep row 0 L) (hL : L.length ≤ 16) {i j : Nat} (hij : i ≤ j) (hj : j < L.length) : ∃ row', Rep row' 0 (rev L i j) ∧ f_X0_reverse row (nI i) (nI j) = some row' := by
  unfold f_X0_reverse l_X0_reverse_19
  simp only [lI]
  rw [if_neg (nI_lt0 (by omega)), if_pos (nI_lt (by omega) (by decide))]
  obtain ⟨q, h1, h3⟩ := lp_inv (F := fun z x => b_X0_reverse_19 z x.1 x.2.1 x.2.2) (fun t x => x.1 = nI (i + t) ∧ x.2.1 = nI (j - t) ∧ ∀ y, y < L.length → x.2.2 y = if (i ≤ y ∧ y < i + t) ∨ (j - t < y ∧ y ≤ j) then nI (at_ L (i + j - y)) else nI (at_ L y)) (fun q => Rep q 0 (rev L i j)) ((j - i + 1) / 2)
    (by
      rintro t ⟨x3, x4, f⟩ ht ⟨e3, e4, h2⟩
      dsimp only at e3 e4 h2
      subst e3 e4
      refine Or.inl ⟨(nI (i + (t + 1)), nI (j - (t + 1)), upd (upd f (i + t) (nI (at_ L (j - t)))) (j - t) (nI (at_ L (i + t)))), ⟨rfl, rfl, fun y hy => ?_⟩, fun z => ?_⟩
      · dsimp only
        by_cases hy1 : y = j - t
        · subst hy1
          rw [pk_us, if_pos (by omega)]
          congr 2
          omega
        · rw [pk_un hy1]
          by_cases hy2 : y = i + t
          · subst hy2
            rw [pk_us, if_pos (by omega)]
            congr 2
            omega
          · rw [pk_un hy2, h2 y hy]
            by_cases h4 : (i ≤ y ∧ y < i + t) ∨ (j - t < y ∧ y ≤ j)
            · rw [if_pos h4, if_pos (by omega)]
            · rw [if_neg h4, if_neg (by omega)]
      · show b_X0_reverse_19 z (nI (i + t)) (nI (j - t)) f = _
        unfold b_X0_reverse_19
        simp only [lI, nI_add]
        rw [if_neg (nI_ge (by omega) (by omega)), nI_m1 (by omega), gI_n (by omega) (by decide), gI_n (by omega) (by decide), nI_clamp (by omega), nI_clamp (by omega), h2 (j - t) (by omega), h2 (i + t) (by omega), if_neg (by omega), if_neg (by omega)]
        rfl)
    (by
      rintro ⟨x3, x4, f⟩ ⟨e3, e4, h2⟩
      dsimp only at e3 e4 h2
      subst e3 e4
      refine ⟨f, fun y hy => ?_, fun z => ?_⟩
      · rw [rev_len hij hj] at hy
        rw [Nat.zero_add, at_rev hij hj, h2 y hy]
        by_cases h4 : i ≤ y ∧ y ≤ j
        · rw [if_pos h4]
          by_cases h5 : (i ≤ y ∧ y < i + (j - i + 1) / 2) ∨ (j - (j - i + 1) / 2 < y ∧ y ≤ j)
          · rw [if_pos h5]
          · rw [if_neg h5]
            congr 2
            omega
        · rw [if_neg h4, if_neg (by omega)]
      · show b_X0_reverse_19 z (nI (i + (j - i + 1) / 2)) (nI (j - (j - i + 1) / 2)) f = _
        unfold b_X0_reverse_19
        rw [if_pos (nI_le (by omega) (by omega))])
    fu (nI i, nI j, row) (by unfold fu; omega) ⟨rfl, rfl, fun y hy => by
      dsimp only
      rw [if_neg (by omega)]
      have := hrow y hy
      rwa [Nat.zero_add] at this⟩
  exact ⟨q, h1, h3⟩
