/-! B1: small numbers, loops -/
theorem lI (n : Nat) : (OfNat.ofNat n : Int32) = nI n := id rfl
theorem gI_n {α : Type} {i N : Nat} (h : i < N) (hN : N < 2 ^ 31) {x : Option α} : gI (nI i) N x = x := gI_t (by rw [nI_toInt (by omega)]; omega)
theorem nI_lt0 {a : Nat} (h : a < 2 ^ 31) : ¬ nI a < nI 0 := nI_nlt (Nat.zero_le _) h
/-- the class's look at an index ahead of its use -/
theorem chk_in {α : Type} {i N : Nat} (h : i < N) (hN : N < 2 ^ 31) {A B x : Option α} {d1 : Decidable (nI i < nI 0)} {d2 : Decidable (nI N ≤ nI i)} : (@ite _ (nI i < nI 0) d1 A (@ite _ (nI N ≤ nI i) d2 B (gI (nI i) N x))) = x := by
  rw [if_neg (nI_lt0 (by omega)), if_neg (nI_ge h hN), gI_n h hN]
theorem nI_inj {a b : Nat} (ha : a < 2 ^ 31) (hb : b < 2 ^ 31) (h : nI a = nI b) : a = b := (nI_eq ha hb).mp h
theorem nI_sub1 {k : Nat} (h : 0 < k) : nI k - nI 1 = nI (k - 1) := by
  obtain ⟨j, rfl⟩ : ∃ j, k = j + 1 := ⟨k - 1, by omega⟩
  exact nI_pred j
theorem nI_m1 {k : Nat} (h : 0 < k) : nI k + -nI 1 = nI (k - 1) := by
  obtain ⟨j, rfl⟩ : ∃ j, k = j + 1 := ⟨k - 1, by omega⟩
  exact pk_m1 j
theorem nI_neg {a b : Nat} (hb : b < 2 ^ 30) (h : a < b) : nI a - nI b < nI 0 := pk_sneg hb h
theorem lp_inv {σ ρ : Type} {F : (σ → Option ρ) → σ → Option ρ} (I : Nat → σ → Prop) (Post : ρ → Prop) (m : Nat) (hs : ∀ i x, i < m → I i x → (∃ x', I (i + 1) x' ∧ ∀ k, F k x = k x') ∨ (∃ r, Post r ∧ ∀ k, F k x = some r)) (he : ∀ x, I m x → ∃ r, Post r ∧ ∀ k, F k x = some r) : ∀ (n : Nat) (x : σ), m < n → I 0 x → ∃ r, Post r ∧ lp F n x = some r := by
  have key : ∀ (d i : Nat) (n : Nat) (x : σ), i + d = m → d < n → I i x → ∃ r, Post r ∧ lp F n x = some r := by
    intro d
    induction d with
    | zero =>
      intro i n x hi hn hI
      obtain ⟨n, rfl⟩ : ∃ k, n = k + 1 := ⟨n - 1, by omega⟩
      obtain rfl : i = m := by omega
      obtain ⟨r, h1, h2⟩ := he x hI
      exact ⟨r, h1, h2 _⟩
    | succ d ih =>
      intro i n x hi hn hI
      obtain ⟨n, rfl⟩ : ∃ k, n = k + 1 := ⟨n - 1, by omega⟩
      rcases hs i x (by omega) hI with ⟨x', h1, h2⟩ | ⟨r, h1, h2⟩
      · obtain ⟨r, h3, h4⟩ := ih (i + 1) n x' (by omega) (by omega) h1
        exact ⟨r, h3, by show F (lp F n) x = some r; rw [h2]; exact h4⟩
      · exact ⟨r, h1, h2 _⟩
  intro n x hn hI
  exact key m 0 n x (by omega) hn hI
/-- a loop whose answer is known -/
theorem lp_eq {σ ρ : Type} {F : (σ → Option ρ) → σ → Option ρ} (I : Nat → σ → Prop) (r : ρ) (m : Nat) (hs : ∀ i x, i < m → I i x → (∃ x', I (i + 1) x' ∧ ∀ k, F k x = k x') ∨ (∀ k, F k x = some r)) (he : ∀ x, I m x → ∀ k, F k x = some r) (n : Nat) (x : σ) (hn : m < n) (h0 : I 0 x) : lp F n x = some r := by
  obtain ⟨r', h1, h2⟩ := lp_inv I (fun z => z = r) m (fun i x hi hI => (hs i x hi hI).elim Or.inl (fun h => Or.inr ⟨r, rfl, h⟩)) (fun x hI => ⟨r, rfl, he x hI⟩) n x hn h0
  rw [h2, h1]
/-! B2: the class's single reads -/
theorem fact_eq (F : Nat → Int32) {s w : Nat} (h : 6 * s + w < 102) : f_X6_fact F (nI s) (nI w) = some (F (6 * s + w)) := by
  unfold f_X6_fact
  simp only [lI, pk_mul, nI_add]
  rw [Nat.mul_comm s 6, chk_in h (by decide), nI_clamp (by omega)]
theorem setFact_eq (F : Nat → Int32) {s w : Nat} (v : Int32) (h : 6 * s + w < 102) : f_X6_setFact F (nI s) (nI w) v = some (upd F (6 * s + w) v) := by
  unfold f_X6_setFact
  simp only [lI, pk_mul, nI_add]
  rw [Nat.mul_comm s 6, chk_in h (by decide), nI_clamp (by omega)]
theorem sizeOf_eq (Z : Nat → Int32) {r : Nat} (h : r < 4) : f_X6_sizeOf Z (nI r) = some (Z r) := by
  unfold f_X6_sizeOf
  simp only [lI]
  rw [chk_in h (by decide), nI_clamp (by omega)]
theorem ruleOf_eq (F : Nat → Int32) {r w : Nat} (h : 3 * r + w < 12) : f_X6_ruleOf F (nI r) (nI w) = some (F (3 * r + w)) := by
  unfold f_X6_ruleOf
  simp only [lI, pk_mul, nI_add]
  rw [Nat.mul_comm r 3, chk_in h (by decide), nI_clamp (by omega)]
theorem setRule_eq (F : Nat → Int32) {r w : Nat} (v : Int32) (h : 3 * r + w < 12) : f_X6_setRule F (nI r) (nI w) v = some (upd F (3 * r + w) v) := by
  unfold f_X6_setRule
  simp only [lI, pk_mul, nI_add]
  rw [Nat.mul_comm r 3, chk_in h (by decide), nI_clamp (by omega)]
theorem roundOf_eq (F : Nat → Int32) {s : Nat} (h : s < 16) : f_X6_roundOf F (nI s) = some (F s) := by
  unfold f_X6_roundOf
  simp only [lI]
  rw [chk_in h (by decide), nI_clamp (by omega)]
theorem isLocked_eq (F : Nat → Int32) {s : Nat} (h : s < 16) : f_X6_isLocked F (nI s) = some (if F s = 0 then 0 else 1) := by
  unfold f_X6_isLocked
  simp only [lI]
  rw [chk_in h (by decide), nI_clamp (by omega)]
  split <;> rfl
theorem isLocked_16 (F : Nat → Int32) : f_X6_isLocked F (nI 16) = some (nI 0) := by
  unfold f_X6_isLocked
  simp only [lI]
  rw [if_neg (nI_lt0 (by decide)), if_pos (nI_le (Nat.le_refl _) (by decide))]
/-- a stop by its place in a row; THE DEPOT (16) beyond -/
def at_ (L : List Nat) (k : Nat) : Nat := L.getD k 16
theorem at_ge {L : List Nat} {k : Nat} (h : L.length ≤ k) : at_ L k = 16 := by
  unfold at_
  rw [List.getD_eq_getElem?_getD, List.getElem?_eq_none h]
  rfl
def pv_ (L : List Nat) (k : Nat) : Nat := if k = 0 then 16 else at_ L (k - 1)
/-- a row of numbers tells a list -/
def Rep (f : Nat → Int32) (o : Nat) (L : List Nat) : Prop := ∀ k, k < L.length → f (o + k) = nI (at_ L k)
theorem rowAt_eq {Z R : Nat → Int32} {r : Nat} {L : List Nat} (hr : r < 4) (hZ : Z r = nI L.length) (hR : Rep R (16 * r) L) (hL : L.length ≤ 16) {k : Nat} (hk : k < 2 ^ 30) : f_X6_rowAt Z R (nI r) (nI k) = some (nI (at_ L k)) := by
  unfold f_X6_rowAt
  simp only [lI]
  rw [if_neg (nI_lt0 (by omega)), sizeOf_eq Z hr, Option.bind_some, hZ]
  by_cases h : k < L.length
  · rw [if_neg (nI_ge h (by omega))]
    simp only [pk_mul, nI_add]
    rw [chk_in (i := r * 16 + k) (by omega) (by decide), nI_clamp (by omega), Nat.mul_comm r 16, hR k h]
  · rw [if_pos (nI_le (by omega) (by omega))]
    rw [at_ge (show L.length ≤ k by omega)]
theorem rowAt_pv {Z R : Nat → Int32} {r : Nat} {L : List Nat} (hr : r < 4) (hZ : Z r = nI L.length) (hR : Rep R (16 * r) L) (hL : L.length ≤ 16) {k : Nat} (hk : k < 2 ^ 30) : f_X6_rowAt Z R (nI r) (nI k - nI 1) = some (nI (pv_ L k)) := by
  cases k with
  | zero =>
    unfold f_X6_rowAt
    simp only [lI]
    rw [if_pos (nI_neg (by decide) (by decide))]
    rfl
  | succ k =>
    rw [nI_sub1 (Nat.succ_pos k), rowAt_eq hr hZ hR hL (by omega)]
    rfl
/-- how far by the metric -/
def apv (me x y ax ay : Int32) : Int32 := (f_X6_apart me x y ax ay).getD 0
theorem apart_eq (me x y ax ay : Int32) : f_X6_apart me x y ax ay = some (apv me x y ax ay) := by
  unfold apv f_X6_apart b_X6_apart_14 b_X6_apart_33 b_X6_apart_56
  split <;> split <;> split <;> split <;> try rfl
  all_goals split <;> rfl
def dist (me : Int32) (fc : Nat → Nat → Int32) (a b : Nat) : Int32 := apv me (fc a 0) (fc a 1) (fc b 0) (fc b 1)
/-- facts, by stop and what; THE DEPOT's place is stop 16 -/
def FcR (F : Nat → Int32) (n : Nat) (fc : Nat → Nat → Int32) : Prop := (∀ p, p < n → ∀ w, w < 6 → F (6 * p + w) = fc p w) ∧ F 96 = fc 16 0 ∧ F 97 = fc 16 1
def isP (n a : Nat) : Prop := a < n ∨ a = 16
theorem FcR.get {F : Nat → Int32} {n : Nat} {fc : Nat → Nat → Int32} (h : FcR F n fc) {a : Nat} (ha : isP n a) {w : Nat} (hw : w < 2) : F (6 * a + w) = fc a w := by
  rcases ha with ha | rfl
  · exact h.1 a ha w (by omega)
  · rcases (show w = 0 ∨ w = 1 by omega) with rfl | rfl
    · exact h.2.1
    · exact h.2.2
theorem way_eq {F : Nat → Int32} {n : Nat} {fc : Nat → Nat → Int32} {me : Int32} (h : FcR F n fc) (hn : n ≤ 16) {a b : Nat} (ha : isP n a) (hb : isP n b) : f_X6_way F me (nI a) (nI b) = some (dist me fc a b) := by
  have ha' : a ≤ 16 := by rcases ha with h | h <;> omega
  have hb' : b ≤ 16 := by rcases hb with h | h <;> omega
  unfold f_X6_way
  simp only [lI]
  rw [fact_eq F (by omega), Option.bind_some, fact_eq F (by omega), Option.bind_some, fact_eq F (by omega), Option.bind_some, fact_eq F (by omega), Option.bind_some, apart_eq, Option.bind_some, h.get ha (by decide), h.get ha (by decide), h.get hb (by decide), h.get hb (by decide)]
  rfl
theorem fc_eq {F : Nat → Int32} {n : Nat} {fc : Nat → Nat → Int32} (h : FcR F n fc) (hn : n ≤ 16) {p w : Nat} (hp : p < n) (hw : w < 6) : f_X6_fact F (nI p) (nI w) = some (fc p w) := by
  rw [fact_eq F (by omega), h.1 p hp w hw]
