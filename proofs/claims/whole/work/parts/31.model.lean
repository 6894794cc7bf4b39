/-! B3: the reference's single reads -/
theorem stopAt_eq (s : Nat → Int32) {p w : Nat} (h : 50 + 8 * p + w < 258) : f_X8_stopAt s (nI p) (nI w) = some (s (50 + 8 * p + w)) := by
  unfold f_X8_stopAt
  simp only [lI, pk_mul, nI_add]
  rw [gI_n h (by decide), nI_clamp (by omega)]
theorem roundAt_eq (s : Nat → Int32) {r w : Nat} (h : 178 + 20 * r + w < 258) : f_X8_roundAt s (nI r) (nI w) = some (s (178 + 20 * r + w)) := by
  unfold f_X8_roundAt
  simp only [lI, pk_mul, nI_add]
  rw [gI_n h (by decide), nI_clamp (by omega)]
theorem inRow_eq (s : Nat → Int32) {r k : Nat} (h : 178 + 20 * r + 4 + k < 258) : f_X8_inRow s (nI r) (nI k) = some (s (178 + 20 * r + 4 + k)) := by
  unfold f_X8_inRow
  simp only [lI, pk_mul, nI_add]
  rw [gI_n h (by decide), nI_clamp (by omega)]
theorem mabs_eq {a b : Nat} (ha : a ≤ 63) (hb : b ≤ 63) : mabs (nI a - nI b) = if nI a ≤ nI b then nI b - nI a else nI a - nI b := by
  unfold mabs
  by_cases h : a ≤ b
  · rw [if_pos (nI_le h (by omega))]
    by_cases h2 : a = b
    · subst h2
      rw [pk_sub (Nat.le_refl _), Nat.sub_self]
      rfl
    · rw [if_neg]
      · rw [Int32.zero_sub, Int32.neg_sub]
      · rw [Int32.le_iff_toInt_le, pk_sub_toInt (by omega) (by omega)]
        show ¬ (0 : Int) ≤ _
        omega
  · rw [if_neg (nI_ge (by omega) (by omega)), if_pos]
    rw [pk_sub (by omega)]
    exact nI_pos' (by omega)
theorem mmax_eq (x y : Int32) : mmax x y = if x ≤ y then y else x := by
  unfold mmax
  by_cases h : x < y
  · rw [if_pos h, if_pos (Int32.le_of_lt h)]
  · rw [if_neg h]
    by_cases h2 : x ≤ y
    · rw [if_pos h2]
      exact Int32.le_antisymm h2 (Int32.not_lt.mp h)
    · rw [if_neg h2]
def isM (me : Int32) : Prop := me = nI 0 ∨ me = nI 1 ∨ me = nI 2
theorem apartM_eq (s : Nat → Int32) {me : Int32} (hs : s 2 = me) (hm : isM me) {a b c d : Nat} (ha : a ≤ 63) (hb : b ≤ 63) (hc : c ≤ 63) (hd : d ≤ 63) : f_X8_apart s (nI a) (nI b) (nI c) (nI d) = some (apv me (nI a) (nI b) (nI c) (nI d)) := by
  have e2 : (nI 2).toNatClampNeg = 2 := nI_clamp (by decide)
  unfold f_X8_apart b_X8_apart_36 apv f_X6_apart b_X6_apart_14 b_X6_apart_33 b_X6_apart_56
  simp only [lI, mabs_eq ha hc, mabs_eq hb hd, mmax_eq, e2, hs]
  rcases hm with rfl | rfl | rfl
  · rw [if_neg (show ¬ nI 0 = nI 1 from by decide)]
    simp only [if_true, show (nI 0 = nI 0) = True from eq_self _]
    split <;> split <;> split <;> simp [show nI 0 = (0 : Int32) from rfl]
  · rw [if_pos rfl]
    simp only [show ¬ nI 1 = nI 0 from by decide, if_false, if_true]
    split <;> split <;> split <;> simp [show nI 0 = (0 : Int32) from rfl]
  · rw [if_neg (show ¬ nI 2 = nI 1 from by decide)]
    simp only [show ¬ nI 2 = nI 0 from by decide, show ¬ nI 2 = nI 1 from by decide, if_false]
    split <;> split <;> split <;> simp
/-- places of stops and THE DEPOT lie within 0 .. 63 -/
def XY (n : Nat) (fc : Nat → Nat → Int32) : Prop := ∀ p, isP n p → ∀ w, w < 2 → ∃ a, a ≤ 63 ∧ fc p w = nI a
def FcM (s : Nat → Int32) (n : Nat) (fc : Nat → Nat → Int32) : Prop := (∀ p, p < n → ∀ w, w < 6 → s (50 + 8 * p + w) = fc p w) ∧ s 0 = fc 16 0 ∧ s 1 = fc 16 1
theorem apart_fc (s : Nat → Int32) {me : Int32} (hs : s 2 = me) (hm : isM me) {n : Nat} {fc : Nat → Nat → Int32} (hX : XY n fc) {p q : Nat} (hp : isP n p) (hq : isP n q) : f_X8_apart s (fc p 0) (fc p 1) (fc q 0) (fc q 1) = some (dist me fc p q) := by
  obtain ⟨a, ha, ea⟩ := hX p hp 0 (by decide)
  obtain ⟨b, hb, eb⟩ := hX p hp 1 (by decide)
  obtain ⟨c, hc, ec⟩ := hX q hq 0 (by decide)
  obtain ⟨d, hd, ed⟩ := hX q hq 1 (by decide)
  unfold dist
  rw [ea, eb, ec, ed]
  exact apartM_eq s hs hm ha hb hc hd
theorem fromDepot_eq (s : Nat → Int32) {me : Int32} (hs : s 2 = me) (hm : isM me) {n : Nat} {fc : Nat → Nat → Int32} (hX : XY n fc) (hF : FcM s n fc) (hn : n ≤ 16) {p : Nat} (hp : p < n) : f_X8_fromDepot s (nI p) = some (dist me fc 16 p) := by
  unfold f_X8_fromDepot
  simp only [lI]
  rw [stopAt_eq s (by omega), Option.bind_some, stopAt_eq s (by omega), Option.bind_some, hF.1 p hp 0 (by decide), hF.1 p hp 1 (by decide), nI_clamp (by decide), nI_clamp (by decide), hF.2.1, hF.2.2, apart_fc s hs hm hX (Or.inr rfl) (Or.inl hp)]
  rfl
theorem between_eq (s : Nat → Int32) {me : Int32} (hs : s 2 = me) (hm : isM me) {n : Nat} {fc : Nat → Nat → Int32} (hX : XY n fc) (hF : FcM s n fc) (hn : n ≤ 16) {p q : Nat} (hp : p < n) (hq : q < n) : f_X8_between s (nI p) (nI q) = some (dist me fc p q) := by
  unfold f_X8_between
  simp only [lI]
  rw [stopAt_eq s (by omega), Option.bind_some, stopAt_eq s (by omega), Option.bind_some, stopAt_eq s (by omega), Option.bind_some, stopAt_eq s (by omega), Option.bind_some, hF.1 p hp 0 (by decide), hF.1 p hp 1 (by decide), hF.1 q hq 0 (by decide), hF.1 q hq 1 (by decide), apart_fc s hs hm hX (Or.inl hp) (Or.inl hq)]
  rfl
theorem apv_comm (me x y ax ay : Int32) : apv me x y ax ay = apv me ax ay x y := by
  have key : ∀ a b : Int32, (if a ≤ b then b - a else a - b) = (if b ≤ a then a - b else b - a) := by
    intro a b
    by_cases h : a ≤ b
    · by_cases h2 : b ≤ a
      · obtain rfl := Int32.le_antisymm h h2
        rfl
      · rw [if_pos h, if_neg h2]
    · have h2 : b ≤ a := by
        rcases Int32.le_total a b with q | q
        · exact absurd q h
        · exact q
      rw [if_neg h, if_pos h2]
  have form : ∀ x y ax ay : Int32, apv me x y ax ay = (b_X6_apart_33 (if x ≤ ax then ax - x else x - ax) (if y ≤ ay then ay - y else y - ay) me).getD 0 := by
    intro x y ax ay
    unfold apv f_X6_apart b_X6_apart_14
    split <;> split <;> rfl
  rw [form, form, key x ax, key y ay]
theorem dist_comm (me : Int32) (fc : Nat → Nat → Int32) (a b : Nat) : dist me fc a b = dist me fc b a := apv_comm _ _ _ _ _
theorem dist_self (me : Int32) (fc : Nat → Nat → Int32) (a : Nat) : dist me fc a a = 0 := by
  unfold dist apv f_X6_apart b_X6_apart_14 b_X6_apart_33 b_X6_apart_56
  simp only [Int32.le_refl, if_true, Int32.sub_self]
  split <;> try rfl
  split <;> rfl
/-! B4: a round as a list: its way, its times -/
section LISTS
variable (D : Nat → Nat → Int32) (fc : Nat → Nat → Int32)
/-- miles through the first k legs -/
def mi (L : List Nat) : Nat → Int32
  | 0 => 0
  | k + 1 => mi L k + D (pv_ L k) (at_ L k)
def ml (L : List Nat) : Int32 := mi D L (L.length + 1)
/-- when it begins at a stop, having come -/
def bgn (t : Int32) (p : Nat) : Int32 := if fc p 3 ≤ t then t else fc p 3
/-- when it goes on from the k-th -/
def tm (t0 : Int32) (L : List Nat) : Nat → Int32
  | 0 => t0
  | k + 1 => bgn fc (tm t0 L k + D (pv_ L k) (at_ L k)) (at_ L k) + fc (at_ L k) 5
def cm (t0 : Int32) (L : List Nat) (k : Nat) : Int32 := tm D fc t0 L k + D (pv_ L k) (at_ L k)
def bg (t0 : Int32) (L : List Nat) (k : Nat) : Int32 := bgn fc (cm D fc t0 L k) (at_ L k)
def wt (t0 : Int32) (L : List Nat) : Nat → Int32
  | 0 => 0
  | k + 1 => wt t0 L k + (bg D fc t0 L k - cm D fc t0 L k)
def ld (L : List Nat) : Nat → Int32
  | 0 => 0
  | k + 1 => ld L k + fc (at_ L k) 2
def bk (t0 : Int32) (L : List Nat) : Int32 := tm D fc t0 L L.length + D (pv_ L L.length) 16
/-- in time at the k-th -/
def inT (t0 : Int32) (L : List Nat) (k : Nat) : Prop := bg D fc t0 L k ≤ fc (at_ L k) 4
def onT (t0 : Int32) (L : List Nat) : Prop := ∀ k, k < L.length → inT D fc t0 L k
def HO (t0 home room : Int32) (L : List Nat) : Prop := onT D fc t0 L ∧ (L = [] ∨ bk D fc t0 L ≤ home) ∧ ld fc L L.length ≤ room
end LISTS
theorem at_lt {L : List Nat} {n k : Nat} (h : ∀ p ∈ L, p < n) (hk : k < L.length) : at_ L k < n := by
  unfold at_
  rw [List.getD_eq_getElem?_getD, List.getElem?_eq_getElem hk]
  exact h _ (List.getElem_mem hk)
theorem at_P {L : List Nat} {n : Nat} (h : ∀ p ∈ L, p < n) (k : Nat) : isP n (at_ L k) := by
  by_cases hk : k < L.length
  · exact Or.inl (at_lt h hk)
  · exact Or.inr (at_ge (by omega))
theorem pv_P {L : List Nat} {n : Nat} (h : ∀ p ∈ L, p < n) (k : Nat) : isP n (pv_ L k) := by
  unfold pv_
  split
  · exact Or.inr rfl
  · exact at_P h _
