/-! B12: what a change of a round's list does to its way -/
theorem pv_ins {L : List Nat} {k p : Nat} (h : k ≤ L.length) (j : Nat) : pv_ (ins L k p) j = if j ≤ k then pv_ L j else if j = k + 1 then p else pv_ L (j - 1) := by
  cases j with
  | zero => rw [if_pos (Nat.zero_le _)]; rfl
  | succ j =>
    rw [pv_succ (Nat.succ_pos j), Nat.succ_sub_one, at_ins h]
    by_cases h1 : j < k
    · rw [if_pos h1, if_pos (by omega), pv_succ (Nat.succ_pos j)]
      rfl
    · rw [if_neg h1]
      by_cases h2 : j = k
      · rw [if_pos h2, if_neg (by omega), if_pos (by omega)]
      · rw [if_neg h2, if_neg (by omega), if_neg (by omega), pv_succ (by omega)]
theorem pv_del {L : List Nat} {k : Nat} (h : k < L.length) (j : Nat) : pv_ (del L k) j = if j ≤ k then pv_ L j else pv_ L (j + 1) := by
  cases j with
  | zero => rw [if_pos (Nat.zero_le _)]; rfl
  | succ j =>
    rw [pv_succ (Nat.succ_pos j), Nat.succ_sub_one, at_del h]
    by_cases h1 : j < k
    · rw [if_pos h1, if_pos (by omega), pv_succ (Nat.succ_pos j)]
      rfl
    · rw [if_neg h1, if_neg (by omega), pv_succ (by omega)]
      rfl
section DELTA
variable (D : Nat → Nat → Int32)
theorem mi_congr {L M : List Nat} (j : Nat) (h : ∀ i, i < j → pv_ L i = pv_ M i ∧ at_ L i = at_ M i) : mi D L j = mi D M j := by
  induction j with
  | zero => rfl
  | succ j ih => rw [mi_succ, mi_succ, ih (fun i hi => h i (by omega)), (h j (by omega)).1, (h j (by omega)).2]
theorem rg1 (a x y z : Int32) : a + x + y = a + z + (x + y - z) := by grind
theorem rg2 (a b c : Int32) : a + b + c = a + c + b := by grind
theorem mi_ins {L : List Nat} {k p : Nat} (h : k ≤ L.length) (d : Nat) : mi D (ins L k p) (k + 2 + d) = mi D L (k + 1 + d) + (D (pv_ L k) p + D p (at_ L k) - D (pv_ L k) (at_ L k)) := by
  induction d with
  | zero =>
    show mi D (ins L k p) (k + 1 + 1) = mi D L (k + 1) + _
    rw [mi_succ, mi_succ, mi_succ, pv_ins h, pv_ins h, at_ins h, at_ins h, if_pos (Nat.le_refl _), if_neg (Nat.lt_irrefl k), if_pos rfl, if_neg (by omega), if_pos rfl, if_neg (by omega), if_neg (by omega), Nat.add_sub_cancel, mi_congr D k (M := L) (fun i hi => by rw [pv_ins h, at_ins h, if_pos (by omega), if_pos hi]; exact ⟨rfl, rfl⟩)]
    exact rg1 _ _ _ _
  | succ d ih =>
    rw [show k + 2 + (d + 1) = k + 2 + d + 1 by omega, show k + 1 + (d + 1) = k + 1 + d + 1 by omega, mi_succ, mi_succ, ih, pv_ins h, at_ins h, if_neg (by omega), if_neg (by omega), if_neg (by omega), if_neg (by omega), show k + 2 + d - 1 = k + 1 + d by omega]
    exact rg2 _ _ _
/-- what a stop's place between two others costs -/
def dtr (a p b : Nat) : Int32 := D a p + D p b - D a b
theorem ml_ins {L : List Nat} {k p : Nat} (h : k ≤ L.length) : ml D (ins L k p) = ml D L + dtr D (pv_ L k) p (at_ L k) := by
  unfold ml
  rw [ins_len h, show L.length + 1 + 1 = k + 2 + (L.length - k) by omega, mi_ins D h, show k + 1 + (L.length - k) = L.length + 1 by omega]
  rfl
theorem ml_del {L : List Nat} {k : Nat} (h : k < L.length) : ml D L = ml D (del L k) + dtr D (pv_ L k) (at_ L k) (at_ L (k + 1)) := by
  have hl := del_len h
  have := ml_ins D (L := del L k) (k := k) (p := at_ L k) (by omega)
  rw [ins_del h, pv_del h, if_pos (Nat.le_refl _), at_del h, if_neg (Nat.lt_irrefl k)] at this
  exact this
theorem ml_set {L : List Nat} {k p : Nat} (h : k < L.length) : ml D (L.set k p) = ml D (del L k) + dtr D (pv_ L k) p (at_ L (k + 1)) := by
  have hl := del_len h
  rw [set_eq h, ml_ins D (by omega), pv_del h, if_pos (Nat.le_refl _), at_del h, if_neg (Nat.lt_irrefl k)]
/-- what it gains that another stands there -/
def stn (L : List Nat) (k p : Nat) : Int32 := D (pv_ L k) (at_ L k) + D (at_ L k) (at_ L (k + 1)) - D (pv_ L k) p - D p (at_ L (k + 1))
theorem rg3 (m x y z u v : Int32) : m + (x + y - z) - (m + (u + v - z)) = x + y - u - v := by grind
theorem ml_stn {L : List Nat} {k p : Nat} (h : k < L.length) : ml D L - ml D (L.set k p) = stn D L k p := by
  rw [ml_set D h, ml_del D h]
  exact rg3 _ _ _ _ _ _
theorem mi_rev (hD : ∀ a b, D a b = D b a) {L : List Nat} {i j : Nat} (hij : i ≤ j) (h : j < L.length) (d : Nat) (hd : i + d ≤ j) : mi D (rev L i j) (i + 1 + d) = mi D L i + D (pv_ L i) (at_ L j) + (mi D L (j + 1) - mi D L (j + 1 - d)) := by
  induction d with
  | zero =>
    show mi D (rev L i j) (i + 1) = _
    have hp : pv_ (rev L i j) i = pv_ L i := by
      cases i with
      | zero => rfl
      | succ i => rw [pv_succ (Nat.succ_pos i), pv_succ (Nat.succ_pos i), at_rev hij h, if_neg (by omega)]
    rw [mi_succ, hp, at_rev hij h, if_pos ⟨Nat.le_refl _, hij⟩, show i + j - i = j by omega, Nat.sub_zero, Int32.sub_self, Int32.add_zero, mi_congr D i (M := L)]
    intro x hx
    refine ⟨?_, by rw [at_rev hij h, if_neg (by omega)]⟩
    cases x with
    | zero => rfl
    | succ x => rw [pv_succ (Nat.succ_pos x), pv_succ (Nat.succ_pos x), at_rev hij h, if_neg (by omega)]
  | succ d ih =>
    rw [show i + 1 + (d + 1) = i + 1 + d + 1 by omega, mi_succ, ih (by omega), pv_succ (L := rev L i j) (k := i + 1 + d) (by omega), at_rev hij h, if_pos (by omega), at_rev hij h, if_pos (by omega), show i + j - (i + 1 + d - 1) = j - d by omega, show i + j - (i + 1 + d) = j - d - 1 by omega, show j + 1 - (d + 1) = j - d by omega, show j + 1 - d = j - d + 1 by omega, mi_succ D L (j - d), pv_succ (show 0 < j - d by omega), hD (at_ L (j - d))]
    generalize mi D L i = a, D (pv_ L i) (at_ L j) = b, mi D L (j + 1) = c, mi D L (j - d) = e, D (at_ L (j - d - 1)) (at_ L (j - d)) = f
    grind
def trn (L : List Nat) (i j : Nat) : Int32 := D (pv_ L i) (at_ L i) + D (at_ L j) (at_ L (j + 1)) - D (pv_ L i) (at_ L j) - D (at_ L i) (at_ L (j + 1))
theorem ml_rev (hD : ∀ a b, D a b = D b a) {L : List Nat} {i j : Nat} (hij : i ≤ j) (h : j < L.length) : ml D L - ml D (rev L i j) = trn D L i j := by
  have key : ∀ d, mi D L (j + 2 + d) - mi D (rev L i j) (j + 2 + d) = trn D L i j := by
    intro d
    induction d with
    | zero =>
      show mi D L (j + 1 + 1) - mi D (rev L i j) (j + 1 + 1) = _
      have := mi_rev D hD hij h (j - i) (by omega)
      rw [show i + 1 + (j - i) = j + 1 by omega, show j + 1 - (j - i) = i + 1 by omega, mi_succ D L i] at this
      rw [mi_succ, mi_succ D (rev L i j), this, pv_succ (L := L) (k := j + 1) (by omega), pv_succ (L := rev L i j) (k := j + 1) (by omega), at_rev hij h (j + 1 - 1), if_pos (by omega), at_rev hij h (j + 1), if_neg (by omega), show j + 1 - 1 = j by omega, show i + j - j = i by omega]
      unfold trn
      generalize mi D L i = a, D (pv_ L i) (at_ L j) = b, mi D L (j + 1) = c, D (pv_ L i) (at_ L i) = e, D (at_ L j) (at_ L (j + 1)) = f, D (at_ L i) (at_ L (j + 1)) = g
      grind
    | succ d ih =>
      rw [show j + 2 + (d + 1) = j + 2 + d + 1 by omega, mi_succ, mi_succ, pv_succ (L := L) (k := j + 2 + d) (by omega), pv_succ (L := rev L i j) (k := j + 2 + d) (by omega), at_rev hij h, if_neg (by omega), at_rev hij h, if_neg (by omega), ← ih]
      generalize mi D L (j + 2 + d) = a, mi D (rev L i j) (j + 2 + d) = b
      grind
  have := key (L.length - 1 - j)
  rw [show j + 2 + (L.length - 1 - j) = L.length + 1 by omega] at this
  unfold ml
  rw [rev_len hij h]
  exact this
theorem set2_rev {L : List Nat} {i : Nat} (h : i + 1 < L.length) : (L.set i (at_ L (i + 1))).set (i + 1) (at_ L i) = rev L i (i + 1) ∧ (L.set (i + 1) (at_ L i)).set i (at_ L (i + 1)) = rev L i (i + 1) := by
  have h0 : i < L.length := by omega
  have hl := rev_len (i := i) (j := i + 1) (by omega) h
  refine ⟨list_at_ext (by rw [List.length_set, List.length_set, hl]) fun k hk => ?_, list_at_ext (by rw [List.length_set, List.length_set, hl]) fun k hk => ?_⟩
  · rw [at_put (by rw [List.length_set]; exact h), at_put h0, at_rev (by omega) h]
    by_cases h1 : k = i + 1
    · rw [if_pos h1, if_pos (by omega), h1, show i + (i + 1) - (i + 1) = i by omega]
    · rw [if_neg h1]
      by_cases h2 : k = i
      · rw [if_pos h2, if_pos (by omega), h2, show i + (i + 1) - i = i + 1 by omega]
      · rw [if_neg h2, if_neg (by omega)]
  · rw [at_put (by rw [List.length_set]; exact h0), at_put h, at_rev (by omega) h]
    by_cases h1 : k = i + 1
    · rw [if_neg (by omega), if_pos h1, if_pos (by omega), h1, show i + (i + 1) - (i + 1) = i by omega]
    · by_cases h2 : k = i
      · rw [if_pos h2, if_pos (by omega), h2, show i + (i + 1) - i = i + 1 by omega]
      · rw [if_neg h2, if_neg h1, if_neg (by omega)]
theorem ml_set2 {L : List Nat} {i j p q : Nat} (hi : i < L.length) (hj : j < L.length) (h0 : i ≠ j) (h1 : i ≠ j + 1) (h2 : j ≠ i + 1) : ml D L - ml D ((L.set i q).set j p) = stn D L i q + stn D L j p := by
  have hj' : j < (L.set i q).length := by rw [List.length_set]; exact hj
  have e1 := ml_stn D (p := q) hi
  have e2 := ml_stn D (p := p) hj'
  have e3 : stn D (L.set i q) j p = stn D L j p := by
    have hp : pv_ (L.set i q) j = pv_ L j := by
      cases j with
      | zero => rfl
      | succ j => rw [pv_succ (Nat.succ_pos j), pv_succ (Nat.succ_pos j), at_put hi, if_neg (by omega)]
    unfold stn
    rw [hp, at_put hi, at_put hi, if_neg (by omega), if_neg (by omega)]
  rw [← e1, ← e3, ← e2]
  generalize ml D L = a, ml D (L.set i q) = b, ml D ((L.set i q).set j p) = c
  grind
end DELTA
