/-! B10: the state of both, as numbers and lists -/
/-- how many stops, the rounds, facts, locked, rules, metric, fixed -/
abbrev ES : Type := Nat × (Nat → List Nat) × (Nat → Nat → Int32) × (Nat → Int32) × (Nat → Nat → Int32) × Int32 × Int32
abbrev eN (E : ES) : Nat := E.1
abbrev eL (E : ES) : Nat → List Nat := E.2.1
abbrev eF (E : ES) : Nat → Nat → Int32 := E.2.2.1
abbrev eK (E : ES) : Nat → Int32 := E.2.2.2.1
abbrev eR (E : ES) : Nat → Nat → Int32 := E.2.2.2.2.1
abbrev eM (E : ES) : Int32 := E.2.2.2.2.2.1
abbrev eX (E : ES) : Int32 := E.2.2.2.2.2.2
abbrev eD (E : ES) : Nat → Nat → Int32 := dist (eM E) (eF E)
abbrev eH (E : ES) (r : Nat) (M : List Nat) : Prop := HO (eD E) (eF E) (eR E r 1 + nI 0) (eR E r 2) (eR E r 0) M
/-- other rounds in place of one's list -/
def fup {α : Type} (f : Nat → α) (k : Nat) (v : α) : Nat → α := fun j => if j = k then v else f j
theorem fup_s {α : Type} {f : Nat → α} {k : Nat} {v : α} : fup f k v k = v := if_pos rfl
theorem fup_n {α : Type} {f : Nat → α} {k j : Nat} {v : α} (h : j ≠ k) : fup f k v j = f j := if_neg h
/-- the class's world -/
def CW (E : ES) (facts ro locked rules sizes rows : Nat → Int32) (sc metric fixed : Int32) : Prop :=
  sc = nI (eN E) ∧ metric = eM E ∧ fixed = eX E ∧ FcR facts (eN E) (eF E) ∧ (∀ p, p < eN E → ro p = rof (eL E) p) ∧ (∀ p, p < eN E → locked p = eK E p) ∧ (∀ r, r < 4 → ∀ w, w < 3 → rules (3 * r + w) = eR E r w) ∧ ∀ r, r < 4 → sizes r = nI (eL E r).length ∧ Rep rows (16 * r) (eL E r)
/-- the reference's world -/
def MW (E : ES) (s : Nat → Int32) : Prop :=
  s 4 = nI (eN E) ∧ s 2 = eM E ∧ s 3 = eX E ∧ FcM s (eN E) (eF E) ∧ (∀ p, p < eN E → s (50 + 8 * p + 6) = eK E p) ∧ (∀ r, r < 4 → ∀ w, w < 3 → s (178 + 20 * r + w) = eR E r w) ∧ ∀ r, r < 4 → MR s r (eL E r)
def nB (m : Nat) (x : Int32) : Prop := ∃ a, a ≤ m ∧ x = nI a
/-- what never fails but while something is tried -/
def GB (E : ES) : Prop :=
  eN E ≤ 16 ∧ isM (eM E) ∧ nB 99 (eX E) ∧ XY (eN E) (eF E) ∧ (∀ p, p < eN E → ∀ w, w < 6 → nB 999 (eF E p w)) ∧ (∀ p, p < eN E → eK E p = nI 0 ∨ eK E p = nI 1) ∧ (∀ r, r < 4 → ∀ w, w < 3 → nB 1999 (eR E r w)) ∧ (∀ r, r < 4 → (eL E r).Nodup ∧ ∀ p ∈ eL E r, p < eN E) ∧ ∀ r r', r < 4 → r' < 4 → r ≠ r' → ∀ p ∈ eL E r, p ∉ eL E r'
def GI (E : ES) : Prop := GB E ∧ ∀ r, r < 4 → eH E r (eL E r)
theorem nodup_len : ∀ (n : Nat) (M : List Nat), M.Nodup → (∀ p ∈ M, p < n) → M.length ≤ n := by
  intro n
  induction n with
  | zero =>
    intro M _ h
    cases M with
    | nil => exact Nat.le_refl _
    | cons a t => exact absurd (h a List.mem_cons_self) (Nat.not_lt_zero a)
  | succ n ih =>
    intro M hn h
    by_cases hm : n ∈ M
    · have h1 := ih (M.erase n) (hn.erase n) (fun p hp => by
        have h2 := (hn.mem_erase_iff).mp hp
        have := h p h2.2
        omega)
      rw [List.length_erase_of_mem hm] at h1
      omega
    · have := ih M hn (fun p hp => by
        have := h p hp
        have : p ≠ n := fun e => hm (e ▸ hp)
        omega)
      omega
theorem GB.len {E : ES} (h : GB E) {r : Nat} (hr : r < 4) : (eL E r).length ≤ 16 := by
  have h8 := h.2.2.2.2.2.2.2.1 r hr
  exact Nat.le_trans (nodup_len _ _ h8.1 h8.2) h.1
theorem GB.mem {E : ES} (h : GB E) {r : Nat} (hr : r < 4) : ∀ p ∈ eL E r, p < eN E := (h.2.2.2.2.2.2.2.1 r hr).2
theorem GB.mem16 {E : ES} (h : GB E) {r : Nat} (hr : r < 4) : ∀ p ∈ eL E r, p < 16 := fun p hp => Nat.lt_of_lt_of_le (h.mem hr p hp) h.1
theorem GB.MRs {E : ES} (h : GB E) {s : Nat → Int32} (hM : MW E s) : MRs s (eN E) (eL E) := fun r hr => ⟨hM.2.2.2.2.2.2 r hr, h.len hr, h.mem hr⟩
theorem rof_of {L : Nat → List Nat} {p r : Nat} (hr : r < 4) (hm : p ∈ L r) (hd : ∀ r', r' < 4 → r' ≠ r → p ∉ L r') : rof L p = nI r := by
  unfold rof
  rcases (show r = 0 ∨ r = 1 ∨ r = 2 ∨ r = 3 by omega) with rfl | rfl | rfl | rfl
  · rw [if_pos hm]
  · rw [if_neg (hd 0 (by omega) (by omega)), if_pos hm]
  · rw [if_neg (hd 0 (by omega) (by omega)), if_neg (hd 1 (by omega) (by omega)), if_pos hm]
  · rw [if_neg (hd 0 (by omega) (by omega)), if_neg (hd 1 (by omega) (by omega)), if_neg (hd 2 (by omega) (by omega)), if_pos hm]
theorem rof_none {L : Nat → List Nat} {p : Nat} (h : ∀ r, r < 4 → p ∉ L r) : rof L p = -nI 5 := by
  unfold rof
  rw [if_neg (h 0 (by omega)), if_neg (h 1 (by omega)), if_neg (h 2 (by omega)), if_neg (h 3 (by omega))]
theorem GB.rof {E : ES} (h : GB E) {p r : Nat} (hr : r < 4) (hm : p ∈ eL E r) : rof (eL E) p = nI r := rof_of hr hm (fun r' hr' hne hp => h.2.2.2.2.2.2.2.2 r r' hr hr' (fun e => hne e.symm) p hm hp)
/-- a stop is in a round, or in none -/
theorem rof_or (L : Nat → List Nat) (p : Nat) : (∃ r, r < 4 ∧ p ∈ L r ∧ (∀ j, j < r → p ∉ L j) ∧ rof L p = nI r) ∨ ((∀ r, r < 4 → p ∉ L r) ∧ rof L p = -nI 5) := by
  by_cases h0 : p ∈ L 0
  · exact Or.inl ⟨0, by omega, h0, fun j hj => absurd hj (Nat.not_lt_zero j), by unfold rof; rw [if_pos h0]⟩
  by_cases h1 : p ∈ L 1
  · exact Or.inl ⟨1, by omega, h1, fun j hj => by rw [show j = 0 by omega]; exact h0, by unfold rof; rw [if_neg h0, if_pos h1]⟩
  by_cases h2 : p ∈ L 2
  · exact Or.inl ⟨2, by omega, h2, fun j hj => by rcases (show j = 0 ∨ j = 1 by omega) with rfl | rfl <;> assumption, by unfold rof; rw [if_neg h0, if_neg h1, if_pos h2]⟩
  by_cases h3 : p ∈ L 3
  · exact Or.inl ⟨3, by omega, h3, fun j hj => by rcases (show j = 0 ∨ j = 1 ∨ j = 2 by omega) with rfl | rfl | rfl <;> assumption, by unfold rof; rw [if_neg h0, if_neg h1, if_neg h2, if_pos h3]⟩
  · exact Or.inr ⟨fun r hr => by rcases (show r = 0 ∨ r = 1 ∨ r = 2 ∨ r = 3 by omega) with rfl | rfl | rfl | rfl <;> assumption, by unfold rof; rw [if_neg h0, if_neg h1, if_neg h2, if_neg h3]⟩
theorem isStop_eq (n : Nat) (hn : n ≤ 16) (x : Int32) : (∃ p, p < n ∧ x = nI p ∧ f_X6_isStop (nI n) x = some (nI 1)) ∨ ((x < 0 ∨ nI n ≤ x) ∧ f_X6_isStop (nI n) x = some (nI 0)) := by
  unfold f_X6_isStop
  rcases pk_ix x (show n < 2 ^ 31 by omega) with h | h | ⟨p, hp, rfl⟩
  · exact Or.inr ⟨Or.inl h, by rw [if_pos h]; rfl⟩
  · refine Or.inr ⟨Or.inr h, ?_⟩
    by_cases h0 : x < 0
    · rw [if_pos h0]; rfl
    · rw [if_neg h0, if_pos h]; rfl
  · exact Or.inl ⟨p, hp, rfl, by rw [if_neg (nI_pos (by omega)), if_neg (nI_ge hp (by omega))]; rfl⟩
theorem isIn_eq (x : Int32) (N : Nat) (hN : N < 2 ^ 31) : (∃ p, p ≤ N ∧ x = nI p ∧ f_X8_isIn x (nI 0) (nI N) = some (nI 1)) ∨ ((x < 0 ∨ nI N < x) ∧ f_X8_isIn x (nI 0) (nI N) = some (nI 0)) := by
  unfold f_X8_isIn
  by_cases h0 : x < nI 0
  · exact Or.inr ⟨Or.inl h0, by rw [if_pos h0]; rfl⟩
  · by_cases h1 : nI N < x
    · exact Or.inr ⟨Or.inr h1, by rw [if_neg h0, if_pos h1]; rfl⟩
    · obtain ⟨p, hp, rfl⟩ := nI_of2 (M := nI N) (n := N) (nI_toInt hN) h0 (Int32.not_lt.mp h1)
      exact Or.inl ⟨p, hp, rfl, by rw [if_neg h0, if_neg h1]; rfl⟩
theorem isUpTo_isIn (x y : Int32) : f_X7_isUpTo x y = f_X8_isIn x (nI 0) y := rfl
/-- sums over the four rounds -/
def sm (f : Nat → Int32) : Nat → Int32
  | 0 => 0
  | k + 1 => sm f k + f k
theorem sm_succ (f : Nat → Int32) (k : Nat) : sm f (k + 1) = sm f k + f k := rfl
theorem sm_congr {f g : Nat → Int32} (n : Nat) (h : ∀ k, k < n → f k = g k) : sm f n = sm g n := by
  induction n with
  | zero => rfl
  | succ n ih => rw [sm_succ, sm_succ, ih (fun k hk => h k (by omega)), h n (by omega)]
theorem sm_add (f g : Nat → Int32) (n : Nat) : sm (fun k => f k + g k) n = sm f n + sm g n := by
  induction n with
  | zero => rfl
  | succ n ih =>
    rw [sm_succ, sm_succ, sm_succ, ih]
    simp only [Int32.add_assoc]
    rw [← Int32.add_assoc (sm g n), Int32.add_comm (sm g n), Int32.add_assoc]
theorem sm_mul (c : Int32) (f : Nat → Int32) (n : Nat) : sm (fun k => c * f k) n = c * sm f n := by
  induction n with
  | zero => exact (Int32.mul_zero).symm
  | succ n ih => rw [sm_succ, sm_succ, ih, Int32.mul_add]
def used (M : List Nat) : Int32 := if M.length = 0 then 0 else 1
def eC (E : ES) : Int32 := sm (fun r => ml (eD E) (eL E r)) 4 + eX E * sm (fun r => used (eL E r)) 4
section CLS
variable {E : ES} {facts ro locked rules sizes rows : Nat → Int32} {sc metric fixed : Int32}
theorem milesC_eq (hB : GB E) (h : CW E facts ro locked rules sizes rows sc metric fixed) {r : Nat} (hr : r < 4) : f_X6_milesOf facts sizes rows metric (nI r) = some (ml (eD E) (eL E r)) := by
  obtain ⟨rfl, rfl, rfl, hF, -, -, -, hS⟩ := h
  obtain ⟨hZ, hR⟩ := hS r hr
  have hL := hB.len hr
  unfold f_X6_milesOf l_X6_milesOf_4
  simp only [lI]
  refine lp_eq (F := fun z x => b_X6_milesOf_4 (nI r) facts sizes rows (eM E) z x.1 x.2) (fun t x => x.1 = mi (eD E) (eL E r) t ∧ x.2 = nI t) _ ((eL E r).length + 1) ?_ ?_ fu _ (by unfold fu; omega) ⟨rfl, rfl⟩
  · rintro t ⟨x2, x3⟩ ht ⟨e2, e3⟩
    dsimp only at e2 e3
    subst e2 e3
    refine Or.inl ⟨(mi (eD E) (eL E r) (t + 1), nI (t + 1)), ⟨rfl, rfl⟩, fun z => ?_⟩
    show b_X6_milesOf_4 _ _ _ _ _ z _ (nI t) = _
    unfold b_X6_milesOf_4
    simp only [lI, nI_add]
    rw [sizeOf_eq sizes hr, Option.bind_some, hZ, if_neg (nI_nlt (by omega) (by omega)), rowAt_pv hr hZ hR hL (by omega), Option.bind_some, rowAt_eq hr hZ hR hL (by omega), Option.bind_some, way_eq hF hB.1 (pv_P (hB.mem hr) t) (at_P (hB.mem hr) t), Option.bind_some]
    rfl
  · rintro ⟨x2, x3⟩ ⟨e2, e3⟩ z
    dsimp only at e2 e3
    subst e2 e3
    show b_X6_milesOf_4 _ _ _ _ _ z _ (nI ((eL E r).length + 1)) = _
    unfold b_X6_milesOf_4
    rw [sizeOf_eq sizes hr, Option.bind_some, hZ, if_pos (nI_lt (by omega) (by omega))]
    rfl
theorem costC_eq (hB : GB E) (h : CW E facts ro locked rules sizes rows sc metric fixed) : f_X6_milesOfAll facts sizes rows metric = some (sm (fun r => ml (eD E) (eL E r)) 4) ∧ f_X6_usedRounds sizes = some (sm (fun r => used (eL E r)) 4) ∧ f_X6_cost facts sizes rows metric fixed = some (eC E) := by
  have h1 : f_X6_milesOfAll facts sizes rows metric = some (sm (fun r => ml (eD E) (eL E r)) 4) := by
    unfold f_X6_milesOfAll l_X6_milesOfAll_4
    simp only [lI]
    refine lp_eq (F := fun z x => b_X6_milesOfAll_4 facts sizes rows metric z x.1 x.2) (fun t x => x.1 = sm (fun r => ml (eD E) (eL E r)) t ∧ x.2 = nI t) _ 4 ?_ ?_ fu _ (by unfold fu; omega) ⟨rfl, rfl⟩
    · rintro t ⟨x2, x3⟩ ht ⟨e2, e3⟩
      dsimp only at e2 e3
      subst e2 e3
      refine Or.inl ⟨(sm (fun r => ml (eD E) (eL E r)) (t + 1), nI (t + 1)), ⟨rfl, rfl⟩, fun z => ?_⟩
      show b_X6_milesOfAll_4 _ _ _ _ z _ (nI t) = _
      unfold b_X6_milesOfAll_4
      simp only [lI, nI_add]
      rw [if_neg (nI_ge ht (by decide)), milesC_eq hB h ht, Option.bind_some]
      rfl
    · rintro ⟨x2, x3⟩ ⟨e2, e3⟩ z
      dsimp only at e2 e3
      subst e2 e3
      show b_X6_milesOfAll_4 _ _ _ _ z _ (nI 4) = _
      unfold b_X6_milesOfAll_4
      simp only [lI]
      rw [if_pos (nI_le (Nat.le_refl _) (by decide))]
  have h2 : f_X6_usedRounds sizes = some (sm (fun r => used (eL E r)) 4) := by
    unfold f_X6_usedRounds l_X6_usedRounds_4
    simp only [lI]
    refine lp_eq (F := fun z x => b_X6_usedRounds_4 sizes z x.1 x.2) (fun t x => x.1 = sm (fun r => used (eL E r)) t ∧ x.2 = nI t) _ 4 ?_ ?_ fu _ (by unfold fu; omega) ⟨rfl, rfl⟩
    · rintro t ⟨x2, x3⟩ ht ⟨e2, e3⟩
      dsimp only at e2 e3
      subst e2 e3
      refine Or.inl ⟨(sm (fun r => used (eL E r)) (t + 1), nI (t + 1)), ⟨rfl, rfl⟩, fun z => ?_⟩
      show b_X6_usedRounds_4 _ z _ (nI t) = _
      unfold b_X6_usedRounds_4
      simp only [lI, nI_add]
      have hl := hB.len ht
      rw [if_neg (nI_ge ht (by decide)), sizeOf_eq sizes ht, Option.bind_some, (h.2.2.2.2.2.2.2 t ht).1]
      rw [sm_succ]
      show _ = z (_ + used (eL E t), _)
      unfold used
      by_cases h0 : (eL E t).length = 0
      · rw [h0, if_pos (Int32.le_refl _), if_pos rfl]
        rfl
      · rw [if_neg (by rw [nI_leI (by omega) (by decide)]; omega), if_neg h0]
        rfl
    · rintro ⟨x2, x3⟩ ⟨e2, e3⟩ z
      dsimp only at e2 e3
      subst e2 e3
      show b_X6_usedRounds_4 _ z _ (nI 4) = _
      unfold b_X6_usedRounds_4
      simp only [lI]
      rw [if_pos (nI_le (Nat.le_refl _) (by decide))]
  refine ⟨h1, h2, ?_⟩
  unfold f_X6_cost
  rw [h1, Option.bind_some, h2, Option.bind_some, h.2.2.1]
  rfl
theorem addsAt_eq (hB : GB E) (h : CW E facts ro locked rules sizes rows sc metric fixed) {p r k : Nat} (hp : p < eN E) (hr : r < 4) (hk : k ≤ (eL E r).length) : f_X6_addsAt facts sizes rows metric fixed (nI p) (nI r) (nI k) = some (eD E (pv_ (eL E r) k) p + eD E p (at_ (eL E r) k) - eD E (pv_ (eL E r) k) (at_ (eL E r) k) + if (eL E r).length = 0 then eX E else nI 0) := by
  obtain ⟨rfl, rfl, rfl, hF, -, -, -, hS⟩ := h
  obtain ⟨hZ, hR⟩ := hS r hr
  have hL := hB.len hr
  unfold f_X6_addsAt
  simp only [lI]
  rw [rowAt_pv hr hZ hR hL (by omega), Option.bind_some, rowAt_eq hr hZ hR hL (by omega), Option.bind_some, way_eq hF hB.1 (pv_P (hB.mem hr) k) (Or.inl hp), Option.bind_some, way_eq hF hB.1 (Or.inl hp) (at_P (hB.mem hr) k), Option.bind_some, way_eq hF hB.1 (pv_P (hB.mem hr) k) (at_P (hB.mem hr) k), Option.bind_some, sizeOf_eq sizes hr, Option.bind_some, hZ]
  by_cases h0 : (eL E r).length = 0
  · rw [if_pos (by rw [h0]), if_pos h0]
  · rw [if_neg (by rw [nI_eq (by omega) (by decide)]; exact h0), if_neg h0]
theorem placeOf_eq (hB : GB E) (h : CW E facts ro locked rules sizes rows sc metric fixed) {p : Nat} (hp : p < eN E) : (∀ r, r < 4 → p ∈ eL E r → f_X6_placeOf ro sizes rows (nI p) = some (nI ((eL E r).idxOf p))) ∧ f_X6_roundOf ro (nI p) = some (rof (eL E) p) := by
  have hN := hB.1
  have hro : f_X6_roundOf ro (nI p) = some (rof (eL E) p) := by rw [roundOf_eq ro (by omega), h.2.2.2.2.1 p hp]
  refine ⟨fun r hr hm => ?_, hro⟩
  obtain ⟨hZ, hR⟩ := h.2.2.2.2.2.2.2 r hr
  have hL := hB.len hr
  have hlt := List.idxOf_lt_length_iff.mpr hm
  unfold f_X6_placeOf l_X6_placeOf_8
  simp only [lI]
  rw [hro, Option.bind_some, hB.rof hr hm]
  refine lp_eq (F := fun z x => b_X6_placeOf_8 (nI p) (nI r) sizes rows z x) (fun t x => x = nI t) _ ((eL E r).idxOf p) ?_ ?_ fu (nI 0) (by unfold fu; omega) rfl
  · rintro t x ht rfl
    refine Or.inl ⟨nI (t + 1), rfl, fun z => ?_⟩
    show b_X6_placeOf_8 _ _ _ _ z (nI t) = _
    unfold b_X6_placeOf_8
    simp only [lI, nI_add]
    rw [sizeOf_eq sizes hr, Option.bind_some, hZ, if_neg (nI_ge (by omega) (by omega)), rowAt_eq hr hZ hR hL (by omega), Option.bind_some, if_neg]
    rw [nI_eq (by have := at_lt (hB.mem hr) (show t < (eL E r).length by omega); omega) (by omega)]
    exact ne_before ht
  · rintro x rfl z
    show b_X6_placeOf_8 _ _ _ _ z (nI ((eL E r).idxOf p)) = _
    unfold b_X6_placeOf_8
    rw [sizeOf_eq sizes hr, Option.bind_some, hZ, if_neg (nI_ge hlt (by omega)), rowAt_eq hr hZ hR hL (by omega), Option.bind_some, at_idx hm, if_pos rfl]
end CLS
theorem costM_eq {E : ES} {s : Nat → Int32} (hB : GB E) (h : MW E s) : f_X8_cost s = some (eC E) := by
  have key : eC E = sm (fun r => ml (eD E) (eL E r) + if (eL E r).length = 0 then nI 0 else eX E) 4 := by
    rw [sm_add]
    unfold eC
    rw [← sm_mul]
    congr 1
    refine sm_congr 4 fun k _ => ?_
    unfold used
    split
    · rw [Int32.mul_zero]; rfl
    · rw [Int32.mul_one]
  rw [key]
  unfold f_X8_cost l_X8_cost_4
  simp only [lI]
  refine lp_eq (F := fun z x => b_X8_cost_4 s z x.1 x.2) (fun t x => x.1 = sm (fun r => ml (eD E) (eL E r) + if (eL E r).length = 0 then nI 0 else eX E) t ∧ x.2 = nI t) _ 4 ?_ ?_ fu _ (by unfold fu; omega) ⟨rfl, rfl⟩
  · rintro t ⟨x2, x3⟩ ht ⟨e2, e3⟩
    dsimp only at e2 e3
    subst e2 e3
    refine Or.inl ⟨(sm (fun r => ml (eD E) (eL E r) + if (eL E r).length = 0 then nI 0 else eX E) (t + 1), nI (t + 1)), ⟨rfl, rfl⟩, fun z => ?_⟩
    show b_X8_cost_4 _ z _ (nI t) = _
    have hl := hB.len ht
    unfold b_X8_cost_4
    simp only [lI, nI_add]
    rw [if_neg (nI_ge ht (by decide)), milesM_eq h.2.1 hB.2.1 ht (h.2.2.2.2.2.2 t ht) hl (hB.mem ht) hB.1 h.2.2.2.1 hB.2.2.2.1, Option.bind_some, roundAt_eq s (by omega), Option.bind_some, (h.2.2.2.2.2.2 t ht).1, nI_clamp (by decide), h.2.2.1]
    rw [sm_succ]
    by_cases h0 : (eL E t).length = 0
    · rw [h0, if_pos (Int32.le_refl _), if_pos rfl]
    · rw [if_neg (by rw [nI_leI (by omega) (by decide)]; omega), if_neg h0]
  · rintro ⟨x2, x3⟩ ⟨e2, e3⟩ z
    dsimp only at e2 e3
    subst e2 e3
    show b_X8_cost_4 _ z _ (nI 4) = _
    unfold b_X8_cost_4
    simp only [lI]
    rw [if_pos (nI_le (Nat.le_refl _) (by decide))]
/-- how many stops are in no round -/
def eO (E : ES) : Int32 := sm (fun p => if rof (eL E) p = -nI 5 then 1 else 0) (eN E)
theorem looseC_eq {E : ES} {ro : Nat → Int32} (hN : eN E ≤ 16) (hro : ∀ p, p < eN E → ro p = rof (eL E) p) : f_X6_looseCount ro (nI (eN E)) = some (eO E) := by
  unfold f_X6_looseCount l_X6_looseCount_4 eO
  simp only [lI]
  refine lp_eq (F := fun z x => b_X6_looseCount_4 ro (nI (eN E)) z x.1 x.2) (fun t x => x.1 = sm (fun p => if rof (eL E) p = -nI 5 then nI 1 else nI 0) t ∧ x.2 = nI t) _ (eN E) ?_ ?_ fu _ (by unfold fu; omega) ⟨rfl, rfl⟩
  · rintro t ⟨x2, x3⟩ ht ⟨e2, e3⟩
    dsimp only at e2 e3
    subst e2 e3
    refine Or.inl ⟨(sm (fun p => if rof (eL E) p = -nI 5 then nI 1 else nI 0) (t + 1), nI (t + 1)), ⟨rfl, rfl⟩, fun z => ?_⟩
    show b_X6_looseCount_4 _ _ z _ (nI t) = _
    unfold b_X6_looseCount_4
    simp only [lI, nI_add]
    rw [if_neg (nI_ge ht (by omega)), roundOf_eq ro (by omega), Option.bind_some, hro t ht]
    rw [sm_succ]
    split <;> rfl
  · rintro ⟨x2, x3⟩ ⟨e2, e3⟩ z
    dsimp only at e2 e3
    subst e2 e3
    show b_X6_looseCount_4 _ _ z _ (nI (eN E)) = _
    unfold b_X6_looseCount_4
    rw [if_pos (nI_le (Nat.le_refl _) (by omega))]
theorem looseM_eq {E : ES} {s : Nat → Int32} (hB : GB E) (h : MW E s) : f_X8_inNone s = some (eO E) := by
  have hN := hB.1
  unfold f_X8_inNone l_X8_inNone_4 eO
  simp only [lI]
  refine lp_eq (F := fun z x => b_X8_inNone_4 s z x.1 x.2) (fun t x => x.1 = sm (fun p => if rof (eL E) p = -nI 5 then nI 1 else nI 0) t ∧ x.2 = nI t) _ (eN E) ?_ ?_ fu _ (by unfold fu; omega) ⟨rfl, rfl⟩
  · rintro t ⟨x2, x3⟩ ht ⟨e2, e3⟩
    dsimp only at e2 e3
    subst e2 e3
    refine Or.inl ⟨(sm (fun p => if rof (eL E) p = -nI 5 then nI 1 else nI 0) (t + 1), nI (t + 1)), ⟨rfl, rfl⟩, fun z => ?_⟩
    show b_X8_inNone_4 _ z _ (nI t) = _
    unfold b_X8_inNone_4
    simp only [lI, nI_add]
    rw [nI_clamp (by decide), h.1, if_neg (nI_ge ht (by omega)), roundOfM_eq (hB.MRs h) hN (by omega), Option.bind_some]
    rw [sm_succ]
    rcases rof_or (eL E) t with ⟨r, hr, -, -, e⟩ | ⟨-, e⟩
    · rw [e, if_pos (nI_0le (by omega)), if_neg (nI_ne_m5 (by omega))]
    · rw [e, if_neg m5_lt, if_pos rfl]
  · rintro ⟨x2, x3⟩ ⟨e2, e3⟩ z
    dsimp only at e2 e3
    subst e2 e3
    show b_X8_inNone_4 _ z _ (nI (eN E)) = _
    unfold b_X8_inNone_4
    simp only [lI]
    rw [nI_clamp (by decide), h.1, if_pos (nI_le (Nat.le_refl _) (by omega))]
