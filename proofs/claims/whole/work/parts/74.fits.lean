/-! B47: which hours of leaving were so as seen, in both -/
def AllS (L : List Nat) (B sl sr : Nat → Int32) (a : Nat) : Prop := ∀ i, i < a → ∀ k, k < L.length → nI (at_ L k) = sl i → B k = sr i
theorem seen12 {row f B sl sr : Nat → Int32} {L : List Nat} (hrow : Rep row 0 L) (hL : L.length ≤ 16) (hf : ∀ k, k < L.length → f k = B k) {a i : Nat} (hi : i < 8) (k2 : Int32 → Option Int32) : ((∀ k, k < L.length → nI (at_ L k) = sl i → B k = sr i) → l_X0_isAsSeen_12 k2 (nI i) row f (nI L.length) sl sr (nI a) (nI 0) = k2 (nI (i + 1))) ∧ (¬ (∀ k, k < L.length → nI (at_ L k) = sl i → B k = sr i) → l_X0_isAsSeen_12 k2 (nI i) row f (nI L.length) sl sr (nI a) (nI 0) = some (nI 0)) := by
  unfold l_X0_isAsSeen_12
  refine lp_to (F := fun k (x : Int32) => b_X0_isAsSeen_12 k2 (nI i) row f (nI L.length) sl sr (nI a) k x) (fun t x => x = nI t ∧ ∀ k, k < t → nI (at_ L k) = sl i → B k = sr i) (fun o => ((∀ k, k < L.length → nI (at_ L k) = sl i → B k = sr i) → o = k2 (nI (i + 1))) ∧ (¬ (∀ k, k < L.length → nI (at_ L k) = sl i → B k = sr i) → o = some (nI 0))) L.length ?_ ?_ fu (nI 0) (by unfold fu; omega) ⟨rfl, fun k hk => absurd hk (Nat.not_lt_zero k)⟩
  · rintro t x ht ⟨rfl, g⟩
    have hw := hrow t ht
    rw [Nat.zero_add] at hw
    have step : ∀ z, b_X0_isAsSeen_12 k2 (nI i) row f (nI L.length) sl sr (nI a) z (nI t) = if nI (at_ L t) = sl i then (if B t = sr i then z (nI (t + 1)) else some (nI 0)) else z (nI (t + 1)) := by
      intro z
      unfold b_X0_isAsSeen_12
      simp only [lI, nI_add]
      rw [if_neg (nI_ge ht (by omega)), if_neg (nI_ge (by omega) (by decide)), gI_n (by omega) (by decide), nI_clamp (by omega), hw, hf t ht, leftAtC sl hi, Option.bind_some, rightAtC sr hi, Option.bind_some]
    by_cases q1 : nI (at_ L t) = sl i
    · by_cases q2 : B t = sr i
      · refine Or.inl ⟨nI (t + 1), ⟨rfl, fun k hk => ?_⟩, fun z => (step z).trans (by rw [if_pos q1, if_pos q2])⟩
        by_cases e : k = t
        · rw [e]; exact fun _ => q2
        · exact g k (by omega)
      · refine Or.inr ⟨some (nI 0), ⟨fun h => absurd (h t ht q1) q2, fun _ => rfl⟩, fun z => (step z).trans (by rw [if_pos q1, if_neg q2])⟩
    · refine Or.inl ⟨nI (t + 1), ⟨rfl, fun k hk => ?_⟩, fun z => (step z).trans (if_neg q1)⟩
      by_cases e : k = t
      · rw [e]; exact fun z => absurd z q1
      · exact g k (by omega)
  · rintro x ⟨rfl, g⟩
    refine ⟨k2 (nI (i + 1)), ⟨fun _ => rfl, fun h => absurd g h⟩, fun z => ?_⟩
    unfold b_X0_isAsSeen_12
    simp only [lI, nI_add]
    rw [if_pos (nI_le (Nat.le_refl _) (by omega))]
theorem seenC {row f B sl sr : Nat → Int32} {L : List Nat} (hrow : Rep row 0 L) (hL : L.length ≤ 16) (hf : ∀ k, k < L.length → f k = B k) {a : Nat} (ha : a ≤ 8) : ∃ v, f_X0_isAsSeen row f (nI L.length) sl sr (nI a) = some v ∧ (AllS L B sl sr a ∧ v = nI 1 ∨ ¬ AllS L B sl sr a ∧ v = nI 0) := by
  unfold f_X0_isAsSeen l_X0_isAsSeen_2
  simp only [lI]
  obtain ⟨q, h1, h2⟩ := lp_inv (F := fun k (x : Int32) => b_X0_isAsSeen_2 row f (nI L.length) sl sr (nI a) k x) (fun t x => x = nI t ∧ ∀ i, i < t → ∀ k, k < L.length → nI (at_ L k) = sl i → B k = sr i) (fun v => AllS L B sl sr a ∧ v = nI 1 ∨ ¬ AllS L B sl sr a ∧ v = nI 0) a (by
    rintro t x ht ⟨rfl, g⟩
    have step : ∀ z, b_X0_isAsSeen_2 row f (nI L.length) sl sr (nI a) z (nI t) = l_X0_isAsSeen_12 z (nI t) row f (nI L.length) sl sr (nI a) (nI 0) := by
      intro z
      unfold b_X0_isAsSeen_2
      simp only [lI]
      rw [if_neg (nI_ge ht (by omega))]
    by_cases q : ∀ k, k < L.length → nI (at_ L k) = sl t → B k = sr t
    · refine Or.inl ⟨nI (t + 1), ⟨rfl, fun i hi => ?_⟩, fun z => (step z).trans ((seen12 hrow hL hf (show t < 8 by omega) z).1 q)⟩
      by_cases e : i = t
      · rw [e]; exact q
      · exact g i (by omega)
    · exact Or.inr ⟨nI 0, Or.inr ⟨fun h => q (h t ht), rfl⟩, fun z => (step z).trans ((seen12 hrow hL hf (show t < 8 by omega) z).2 q)⟩) (by
    rintro x ⟨rfl, g⟩
    refine ⟨nI 1, Or.inl ⟨g, rfl⟩, fun z => ?_⟩
    unfold b_X0_isAsSeen_2
    simp only [lI]
    rw [if_pos (nI_le (Nat.le_refl _) (by omega))]) fu (nI 0) (by unfold fu; omega) ⟨rfl, fun i hi => absurd hi (Nat.not_lt_zero i)⟩
  exact ⟨q, h2, h1⟩
section FITS
variable {E : ES} {facts ro locked rules sizes rows s : Nat → Int32} {sc metric fixed : Int32}
/-- leaving at that minute it holds, and was so as seen -/
def okF (E : ES) (r : Nat) (sl sr : Nat → Int32) (a t : Nat) : Prop := HO (eD E) (eF E) (nI t) (eR E r 2) (eR E r 0) (eL E r) ∧ AllS (eL E r) (bg (eD E) (eF E) (nI t) (eL E r)) sl sr a
theorem rg8 (a b : Int32) : a + (b - a) = b := by grind
/-- how many so far -/
noncomputable def cnF (P : Nat → Prop) : Nat → Nat
  | 0 => 0
  | t + 1 => cnF P t + @ite Nat (P t) (Classical.propDecidable _) 1 0
theorem cnF_t {P : Nat → Prop} {t : Nat} (h : P t) : cnF P (t + 1) = cnF P t + 1 := by
  show cnF P t + @ite Nat (P t) (Classical.propDecidable _) 1 0 = _
  rw [@if_pos _ (Classical.propDecidable _) h]
theorem cnF_f {P : Nat → Prop} {t : Nat} (h : ¬ P t) : cnF P (t + 1) = cnF P t := by
  show cnF P t + @ite Nat (P t) (Classical.propDecidable _) 1 0 = _
  rw [@if_neg _ (Classical.propDecidable _) h]
  rfl
theorem cnF_le (P : Nat → Prop) : ∀ t, cnF P t ≤ t := by
  intro t
  induction t with
  | zero => exact Nat.le_refl _
  | succ t ih =>
    by_cases h : P t
    · rw [cnF_t h]; omega
    · rw [cnF_f h]; omega
theorem cnF_0 {P : Nat → Prop} : ∀ {t : Nat}, cnF P t = 0 → ∀ u, u < t → ¬ P u := by
  intro t
  induction t with
  | zero => intro _ u hu; exact absurd hu (Nat.not_lt_zero u)
  | succ t ih =>
    intro h u hu
    by_cases q : P t
    · rw [cnF_t q] at h; omega
    · rw [cnF_f q] at h
      by_cases e : u = t
      · rw [e]; exact q
      · exact ih h u (by omega)
theorem cnF_pos {P : Nat → Prop} {t u : Nat} (hu : u < t) (h : P u) : 0 < cnF P t := by
  rcases Nat.eq_zero_or_pos (cnF P t) with z | z
  · exact absurd h (cnF_0 z u hu)
  · exact z
/-- the least minute from one on, none -/
def LsI (P : Nat → Prop) (lo hi : Nat) (v : Int32) : Prop := (v = -nI 5 ∧ ∀ u, lo ≤ u → u < hi → ¬ P u) ∨ ∃ t, lo ≤ t ∧ t < hi ∧ P t ∧ (∀ u, lo ≤ u → u < t → ¬ P u) ∧ v = nI t
theorem LsI.uniq {P : Nat → Prop} {lo hi : Nat} {v w : Int32} (h1 : LsI P lo hi v) (h2 : LsI P lo hi w) : v = w := by
  rcases h1 with ⟨e1, n1⟩ | ⟨t, a1, a2, a3, a4, a5⟩
  · rcases h2 with ⟨e2, -⟩ | ⟨u, b1, b2, b3, -⟩
    · rw [e1, e2]
    · exact absurd b3 (n1 u b1 b2)
  · rcases h2 with ⟨-, n2⟩ | ⟨u, b1, b2, b3, b4, b5⟩
    · exact absurd a3 (n2 t a1 a2)
    · have : t = u := by
        rcases Nat.lt_trichotomy t u with q | q | q
        · exact absurd a3 (b4 t a1 q)
        · exact q
        · exact absurd b3 (a4 u b1 q)
      rw [a5, b5, this]
abbrev TF10 : Type := Int32 × Int32 × Int32 × (Nat → Int32) × (Nat → Int32) × Int32 × Int32 × Int32 × Int32 × Int32
abbrev TF11 : Type := Int32 × (Nat → Int32) × (Nat → Int32) × (Nat → Int32) × Int32 × Int32 × Int32 × Int32 × Int32 × Int32 × Int32
theorem fitsC (hB : GB E) (h : CW E facts ro locked rules sizes rows sc metric fixed) {r : Nat} (hr : r < 4) {row : Nat → Int32} (hrow : Rep row 0 (eL E r)) {a : Nat} (ha : a ≤ 8) (sl sr : Nat → Int32) (x2 : Int32) (cs bs : Nat → Int32) (y1 y2 y3 y4 y5 : Int32) : ∃ v z, LsI (okF E r sl sr a) 0 100 v ∧ l_X7_fits_49 x2 (eR E r 1) facts rules sl sr (nI a) metric row (nI r) (nI (eL E r).length) (nI 0, -nI 5, nI 0, cs, bs, y1, y2, y3, y4, y5) = some (if x2 = nI 0 then nI (cnF (okF E r sl sr a) 100) else v, z) := by
  have hl := hB.len hr
  unfold l_X7_fits_49
  obtain ⟨⟨w, z⟩, ⟨v, h1, h3⟩, h2⟩ := lp_inv (F := fun k (x : TF10) => b_X7_fits_49 x2 (eR E r 1) facts rules sl sr (nI a) metric row (nI r) (nI (eL E r).length) k x.1 x.2.1 x.2.2.1 x.2.2.2.1 x.2.2.2.2.1 x.2.2.2.2.2.1 x.2.2.2.2.2.2.1 x.2.2.2.2.2.2.2.1 x.2.2.2.2.2.2.2.2.1 x.2.2.2.2.2.2.2.2.2) (fun t x => x.1 = nI (cnF (okF E r sl sr a) t) ∧ LsI (okF E r sl sr a) 0 t x.2.1 ∧ x.2.2.1 = nI t) (fun q : TF11 => ∃ v, LsI (okF E r sl sr a) 0 100 v ∧ q.1 = (if x2 = nI 0 then nI (cnF (okF E r sl sr a) 100) else v)) 100 (by
    rintro t ⟨x3, x4, x6, cs, bs, y1, y2, y3, y4, y5⟩ ht ⟨e1, e2, e3⟩
    dsimp only at e1 e2 e3
    subst e1 e3
    have hcl := cnF_le (okF E r sl sr a) t
    obtain ⟨⟨v, cs1, bs1, bk1, lo1, mi1, wa1, la1⟩, f1, f2⟩ := folC hB h hr hrow hl (hB.mem hr) cs bs (nI t - eR E r 1)
    rw [rg8] at f1
    have f3 := f1.2.2
    dsimp only at f3
    have hno : ¬ okF E r sl sr a t → LsI (okF E r sl sr a) 0 (t + 1) x4 := by
      intro hn
      rcases e2 with ⟨c1, c2⟩ | ⟨u, c1, c2, c3, c4, c5⟩
      · refine Or.inl ⟨c1, fun u _ hu => ?_⟩
        by_cases e : u = t
        · rw [e]; exact hn
        · exact c2 u (by omega) (by omega)
      · exact Or.inr ⟨u, c1, by omega, c3, c4, c5⟩
    rcases f3 with ⟨f3, f4⟩ | ⟨f3, f4⟩
    · obtain ⟨w, g1, g2⟩ := seenC (B := bg (eD E) (eF E) (nI t) (eL E r)) (sl := sl) (sr := sr) hrow hl (fun k hk => ((f1.1 f3.1).1 k hk).2) ha
      rcases g2 with ⟨g2, g3⟩ | ⟨g2, g3⟩
      · have hok : okF E r sl sr a t := ⟨f3, g2⟩
        refine Or.inl ⟨(nI (cnF (okF E r sl sr a) (t + 1)), if nI (cnF (okF E r sl sr a) t) = nI 0 then nI t else x4, nI (t + 1), cs1, bs1, bk1, lo1, mi1, wa1, la1), ⟨rfl, ?_, rfl⟩, fun k => ?_⟩
        · dsimp only
          by_cases q : cnF (okF E r sl sr a) t = 0
          · rw [if_pos (congrArg nI q)]
            exact Or.inr ⟨t, by omega, by omega, hok, fun u _ hu => cnF_0 q u hu, rfl⟩
          · rw [if_neg (by rw [nI_eq (by omega) (by decide)]; exact q)]
            rcases e2 with ⟨c1, c2⟩ | ⟨u, c1, c2, c3, c4, c5⟩
            · exfalso
              apply q
              have : ∀ j, j ≤ t → cnF (okF E r sl sr a) j = 0 := by
                intro j
                induction j with
                | zero => intro _; rfl
                | succ j ih =>
                  intro hj
                  rw [cnF_f (c2 j (by omega) (by omega))]
                  exact ih (by omega)
              exact this t (Nat.le_refl _)
            · exact Or.inr ⟨u, c1, by omega, c3, c4, c5⟩
        · show b_X7_fits_49 x2 (eR E r 1) facts rules sl sr (nI a) metric row (nI r) (nI (eL E r).length) k (nI (cnF (okF E r sl sr a) t)) x4 (nI t) cs bs y1 y2 y3 y4 y5 = _
          unfold b_X7_fits_49
          simp only [lI, nI_add]
          rw [if_neg (nI_ge ht (by decide)), f2, Option.bind_some]
          dsimp only
          rw [if_neg (by rw [f4]; decide), g1, Option.bind_some, if_neg (by rw [g3]; decide), cnF_t hok]
          by_cases q : nI (cnF (okF E r sl sr a) t) = nI 0
          · rw [if_pos q, if_pos q]
          · rw [if_neg q, if_neg q]
      · have hn : ¬ okF E r sl sr a t := fun z => g2 z.2
        refine Or.inl ⟨(nI (cnF (okF E r sl sr a) (t + 1)), x4, nI (t + 1), cs1, bs1, bk1, lo1, mi1, wa1, la1), ⟨rfl, hno hn, rfl⟩, fun k => ?_⟩
        show b_X7_fits_49 x2 (eR E r 1) facts rules sl sr (nI a) metric row (nI r) (nI (eL E r).length) k (nI (cnF (okF E r sl sr a) t)) x4 (nI t) cs bs y1 y2 y3 y4 y5 = _
        unfold b_X7_fits_49
        simp only [lI, nI_add]
        rw [if_neg (nI_ge ht (by decide)), f2, Option.bind_some]
        dsimp only
        rw [if_neg (by rw [f4]; decide), g1, Option.bind_some, if_pos g3, cnF_f hn]
    · have hn : ¬ okF E r sl sr a t := fun z => f3 z.1
      refine Or.inl ⟨(nI (cnF (okF E r sl sr a) (t + 1)), x4, nI (t + 1), cs1, bs1, bk1, lo1, mi1, wa1, la1), ⟨rfl, hno hn, rfl⟩, fun k => ?_⟩
      show b_X7_fits_49 x2 (eR E r 1) facts rules sl sr (nI a) metric row (nI r) (nI (eL E r).length) k (nI (cnF (okF E r sl sr a) t)) x4 (nI t) cs bs y1 y2 y3 y4 y5 = _
      unfold b_X7_fits_49
      simp only [lI, nI_add]
      rw [if_neg (nI_ge ht (by decide)), f2, Option.bind_some]
      dsimp only
      rw [if_pos f4, cnF_f hn]) (by
    rintro ⟨x3, x4, x6, cs, bs, y1, y2, y3, y4, y5⟩ ⟨e1, e2, e3⟩
    dsimp only at e1 e2 e3
    subst e1 e3
    refine ⟨(if x2 = nI 0 then nI (cnF (okF E r sl sr a) 100) else x4, row, cs, bs, nI r, nI (eL E r).length, y1, y2, y3, y4, y5), ⟨x4, e2, rfl⟩, fun k => ?_⟩
    show b_X7_fits_49 x2 (eR E r 1) facts rules sl sr (nI a) metric row (nI r) (nI (eL E r).length) k (nI (cnF (okF E r sl sr a) 100)) x4 (nI 100) cs bs y1 y2 y3 y4 y5 = _
    unfold b_X7_fits_49
    simp only [lI]
    rw [if_pos (nI_le (Nat.le_refl _) (by decide))]
    by_cases q : x2 = nI 0
    · rw [if_pos q, if_pos q]
    · rw [if_neg q, if_neg q]) fu (nI 0, -nI 5, nI 0, cs, bs, y1, y2, y3, y4, y5) (by unfold fu; omega) ⟨rfl, Or.inl ⟨rfl, fun u _ hu => absurd hu (Nat.not_lt_zero u)⟩, rfl⟩
  dsimp only at h3
  subst h3
  exact ⟨v, z, h1, h2⟩
theorem leaveR (E : ES) (r t : Nat) : eR (eSetR E r 1 (nI t)) r 1 + nI 0 = nI t ∧ eR (eSetR E r 1 (nI t)) r 2 = eR E r 2 ∧ eR (eSetR E r 1 (nI t)) r 0 = eR E r 0 := by
  refine ⟨?_, if_neg (fun z => absurd z.2 (by decide)), if_neg (fun z => absurd z.2 (by decide))⟩
  have : eR (eSetR E r 1 (nI t)) r 1 = nI t := if_pos ⟨rfl, rfl⟩
  rw [this, nI_add]
  rfl
theorem seenM {sl sr : Nat → Int32} (hB : GB E) (hM : MW E s) {r t : Nat} (hr : r < 4) (ht : t ≤ 1999) {a : Nat} (ha : a ≤ 5) (hs5 : s 5 = nI a) (hsl : ∀ i, i < a → s (8 + 2 * i) = sl i ∧ s (8 + 2 * i + 1) = sr i) (hp : ∀ i, i < a → ∃ p, p < eN E ∧ sl i = nI p) (cs bs : Nat → Int32) (b w l : Int32) : ∃ v z, f_X8_isAsSeen (upd s (178 + 20 * r + 1) (nI t)) cs bs b w l (nI r) = some (v, z) ∧ (okF E r sl sr a t ∧ v = nI 1 ∨ ¬ okF E r sl sr a t ∧ v = nI 0) := by
  have hN := hB.1
  have hl := hB.len hr
  have hB' : GB (eSetR E r 1 (nI t)) := hB.setR ht
  have hM' := hM.setR hB hr (show 1 < 3 by decide) (nI t)
  obtain ⟨q1, q2, q3⟩ := leaveR E r t
  have e5 : (nI 5).toNatClampNeg = 5 := nI_clamp (by decide)
  obtain ⟨v, cs1, bs1, bk1, wa1, lo1, g1, g2⟩ := holdsM hB' hM' hr cs bs b w l
  rw [q1] at g2
  change (HO (eD E) (eF E) (eR (eSetR E r 1 (nI t)) r 1 + nI 0) (eR (eSetR E r 1 (nI t)) r 2) (eR (eSetR E r 1 (nI t)) r 0) (eL E r) ∧ v = nI 1 ∧ (∀ k, k < (eL E r).length → bs1 k = bg (eD E) (eF E) (nI t) (eL E r) k)) ∨ (¬ HO (eD E) (eF E) (eR (eSetR E r 1 (nI t)) r 1 + nI 0) (eR (eSetR E r 1 (nI t)) r 2) (eR (eSetR E r 1 (nI t)) r 0) (eL E r) ∧ v = nI 0) at g2
  rw [q1, q2, q3] at g2
  unfold f_X8_isAsSeen l_X8_isAsSeen_12
  simp only [lI]
  rw [g1, Option.bind_some]
  dsimp only
  rcases g2 with ⟨g2, g3, g4⟩ | ⟨g2, g3⟩
  rotate_left
  · rw [if_pos g3]
    exact ⟨_, _, rfl, Or.inr ⟨fun z => g2 z.1, rfl⟩⟩
  rw [if_neg (by rw [g3]; decide)]
  obtain ⟨⟨v2, z⟩, h1, h2⟩ := lp_inv (F := fun k (x : Int32) => b_X8_isAsSeen_12 (nI r) (upd s (178 + 20 * r + 1) (nI t)) cs1 bs1 bk1 wa1 lo1 k x) (fun d x => x = nI d ∧ ∀ i, i < d → ∀ k, k < (eL E r).length → nI (at_ (eL E r) k) = sl i → bg (eD E) (eF E) (nI t) (eL E r) k = sr i) (fun q : Int32 × (Nat → Int32) × (Nat → Int32) × Int32 × Int32 × Int32 => okF E r sl sr a t ∧ q.1 = nI 1 ∨ ¬ okF E r sl sr a t ∧ q.1 = nI 0) a (by
    rintro d x hd ⟨rfl, g⟩
    obtain ⟨p, hpn, ep⟩ := hp d hd
    have hpl : f_X8_placeIn (upd s (178 + 20 * r + 1) (nI t)) (nI r) (nI p) = some (plc (eL E r) p) := placeIn_eq hr (hM'.2.2.2.2.2.2 r hr) hl (hB.mem16 hr) (by omega)
    have step : ∀ z, b_X8_isAsSeen_12 (nI r) (upd s (178 + 20 * r + 1) (nI t)) cs1 bs1 bk1 wa1 lo1 z (nI d) = if p ∈ eL E r then (if bs1 ((eL E r).idxOf p) = sr d then z (nI (d + 1)) else some (nI 0, cs1, bs1, bk1, wa1, lo1)) else z (nI (d + 1)) := by
      intro z
      unfold b_X8_isAsSeen_12
      simp only [lI, pk_mul, nI_add]
      rw [e5, pk_un (show 5 ≠ 178 + 20 * r + 1 by omega), hs5, if_neg (nI_ge hd (by omega)), gI_n (by omega) (by decide), nI_clamp (show 8 + 2 * d < 2 ^ 31 by omega), pk_un (show 8 + 2 * d ≠ 178 + 20 * r + 1 by omega), (hsl d hd).1, ep, hpl, Option.bind_some]
      unfold plc
      by_cases q : p ∈ eL E r
      · have hlt := List.idxOf_lt_length_iff.mpr q
        rw [if_pos q, if_pos q, if_neg (nI_lt0 (by omega)), gI_n (by omega) (by decide), gI_n (by omega) (by decide), nI_clamp (by omega), nI_clamp (by omega), pk_un (show 8 + 2 * d + 1 ≠ 178 + 20 * r + 1 by omega), (hsl d hd).2]
      · rw [if_neg q, if_neg q, if_pos m5_lt0]
    have hall : (∀ k, k < (eL E r).length → nI (at_ (eL E r) k) = sl d → bg (eD E) (eF E) (nI t) (eL E r) k = sr d) ↔ (p ∈ eL E r → bs1 ((eL E r).idxOf p) = sr d) := by
      constructor
      · intro hk q
        have hlt := List.idxOf_lt_length_iff.mpr q
        rw [g4 _ hlt]
        exact hk _ hlt (by rw [at_idx q, ep])
      · intro hk k hkl he
        have hat := at_lt (hB.mem hr) hkl
        rw [ep] at he
        have he' : at_ (eL E r) k = p := nI_inj (by omega) (by omega) he
        have hm : p ∈ eL E r := by rw [← he']; exact at_mem hkl
        have hid : (eL E r).idxOf p = k := by rw [← he']; exact idx_at (hB.nodup hr) hkl
        have := hk hm
        rw [hid, g4 k hkl] at this
        exact this
    by_cases q : p ∈ eL E r → bs1 ((eL E r).idxOf p) = sr d
    · refine Or.inl ⟨nI (d + 1), ⟨rfl, fun i hi => ?_⟩, fun z => (step z).trans ?_⟩
      · by_cases e : i = d
        · rw [e]; exact hall.mpr q
        · exact g i (by omega)
      · by_cases q2 : p ∈ eL E r
        · rw [if_pos q2, if_pos (q q2)]
        · rw [if_neg q2]
    · have q2 : p ∈ eL E r := by
        by_cases q3 : p ∈ eL E r
        · exact q3
        · exact absurd (fun z => absurd z q3) q
      have q4 : ¬ bs1 ((eL E r).idxOf p) = sr d := fun z => q (fun _ => z)
      exact Or.inr ⟨(nI 0, cs1, bs1, bk1, wa1, lo1), Or.inr ⟨fun z => q (hall.mp (z.2 d hd)), rfl⟩, fun z => (step z).trans (by rw [if_pos q2, if_neg q4])⟩) (by
    rintro x ⟨rfl, g⟩
    refine ⟨(nI 1, cs1, bs1, bk1, wa1, lo1), Or.inl ⟨⟨g2, g⟩, rfl⟩, fun z => ?_⟩
    unfold b_X8_isAsSeen_12
    simp only [lI]
    rw [e5, pk_un (show 5 ≠ 178 + 20 * r + 1 by omega), hs5, if_pos (nI_le (Nat.le_refl _) (by omega))]) fu (nI 0) (by unfold fu; omega) ⟨rfl, fun i hi => absurd hi (Nat.not_lt_zero i)⟩
  exact ⟨v2, z, h2, h1⟩
abbrev TH9 : Type := Int32 × Int32 × Int32 × (Nat → Int32) × (Nat → Int32) × (Nat → Int32) × Int32 × Int32 × Int32
abbrev TH7 : Type := Int32 × (Nat → Int32) × (Nat → Int32) × (Nat → Int32) × Int32 × Int32 × Int32
theorem fitsM {sl sr : Nat → Int32} (hB : GB E) (hM : MW E s) {r : Nat} (hr : r < 4) {a : Nat} (ha : a ≤ 5) (hs5 : s 5 = nI a) (hsl : ∀ i, i < a → s (8 + 2 * i) = sl i ∧ s (8 + 2 * i + 1) = sr i) (hp : ∀ i, i < a → ∃ p, p < eN E ∧ sl i = nI p) (x2 : Int32) (cs bs : Nat → Int32) (b w l : Int32) : ∃ v s' z, LsI (okF E r sl sr a) 0 100 v ∧ l_X8_fits_36 (nI r) x2 (eR E r 1) (nI 0, -nI 5, nI 99, s, cs, bs, b, w, l) = some (if x2 = nI 0 then nI (cnF (okF E r sl sr a) 100) else v, s', z) ∧ s' = s := by
  have hi1 : s (178 + 20 * r + 1) = eR E r 1 := hM.2.2.2.2.2.1 r hr 1 (by decide)
  have hback : ∀ f : Nat → Int32, (∀ j, j ≠ 178 + 20 * r + 1 → f j = s j) → ∀ v, upd f (178 + 20 * r + 1) v = upd s (178 + 20 * r + 1) v := by
    intro f hf v
    funext j
    by_cases q : j = 178 + 20 * r + 1
    · rw [q, pk_us, pk_us]
    · rw [pk_un q, pk_un q]; exact hf j q
  have hsame : upd s (178 + 20 * r + 1) (eR E r 1) = s := by
    funext j
    by_cases q : j = 178 + 20 * r + 1
    · rw [q, pk_us, hi1]
    · rw [pk_un q]
  unfold l_X8_fits_36
  obtain ⟨⟨u, s', z⟩, ⟨v, h1, h3, h4⟩, h2⟩ := lp_inv (F := fun k (x : TH9) => b_X8_fits_36 (nI r) x2 (eR E r 1) k x.1 x.2.1 x.2.2.1 x.2.2.2.1 x.2.2.2.2.1 x.2.2.2.2.2.1 x.2.2.2.2.2.2.1 x.2.2.2.2.2.2.2.1 x.2.2.2.2.2.2.2.2) (fun t x => (∃ c, x.1 = nI c ∧ c + cnF (okF E r sl sr a) (100 - t) = cnF (okF E r sl sr a) 100) ∧ LsI (okF E r sl sr a) (100 - t) 100 x.2.1 ∧ x.2.2.1 = nI (100 - t) - nI 1 ∧ ∀ j, j ≠ 178 + 20 * r + 1 → x.2.2.2.1 j = s j) (fun q : TH7 => ∃ v, LsI (okF E r sl sr a) 0 100 v ∧ q.1 = (if x2 = nI 0 then nI (cnF (okF E r sl sr a) 100) else v) ∧ q.2.1 = s) 100 (by
    rintro t ⟨x4, x5, x6, f, cs, bs, b, w, l⟩ ht ⟨⟨c, e1, e2⟩, e3, e4, e5⟩
    dsimp only at e1 e3 e4 e5
    subst e1 e4
    obtain ⟨m, hm⟩ : ∃ m, 100 - t = m + 1 := ⟨100 - t - 1, by omega⟩
    have ek : 100 - (t + 1) = m := by omega
    rw [hm] at e2 e3
    obtain ⟨v, z, g1, g2⟩ := seenM hB hM hr (show m ≤ 1999 by omega) ha hs5 hsl hp cs bs b w l
    have step : ∀ k, b_X8_fits_36 (nI r) x2 (eR E r 1) k (nI c) x5 (nI (100 - t) - nI 1) f cs bs b w l = if v = nI 0 then k (nI c, x5, nI m - nI 1, upd s (178 + 20 * r + 1) (nI m), z) else k (nI (c + 1), nI m, nI m - nI 1, upd s (178 + 20 * r + 1) (nI m), z) := by
      intro k
      unfold b_X8_fits_36
      simp only [lI, pk_mul, nI_add]
      rw [hm, nI_sub1 (show 0 < m + 1 by omega), Nat.add_sub_cancel, if_neg (nI_lt0 (by omega)), gI_n (by omega) (by decide), nI_clamp (show 178 + 20 * r + 1 < 2 ^ 31 by omega), hback f e5, g1, Option.bind_some, ← Int32.sub_eq_add_neg]
    rcases g2 with ⟨g2, g3⟩ | ⟨g2, g3⟩
    · refine Or.inl ⟨(nI (c + 1), nI m, nI m - nI 1, upd s (178 + 20 * r + 1) (nI m), z), ⟨⟨c + 1, rfl, ?_⟩, ?_, by dsimp only; rw [ek], fun j hj => pk_un hj⟩, fun k => (step k).trans (if_neg (by rw [g3]; decide))⟩
      · rw [ek]
        rw [cnF_t g2] at e2
        omega
      · dsimp only
        rw [ek]
        exact Or.inr ⟨m, Nat.le_refl _, by omega, g2, fun u h1 h2 => absurd h1 (by omega), rfl⟩
    · refine Or.inl ⟨(nI c, x5, nI m - nI 1, upd s (178 + 20 * r + 1) (nI m), z), ⟨⟨c, rfl, ?_⟩, ?_, by dsimp only; rw [ek], fun j hj => pk_un hj⟩, fun k => (step k).trans (if_pos g3)⟩
      · rw [ek]
        rw [cnF_f g2] at e2
        exact e2
      · dsimp only
        rw [ek]
        rcases e3 with ⟨c1, c2⟩ | ⟨u, c1, c2, c3, c4, c5⟩
        · refine Or.inl ⟨c1, fun u h1 h2 => ?_⟩
          by_cases e : u = m
          · rw [e]; exact g2
          · exact c2 u (by omega) h2
        · refine Or.inr ⟨u, by omega, c2, c3, fun y h1 h2 => ?_, c5⟩
          by_cases e : y = m
          · rw [e]; exact g2
          · exact c4 y (by omega) h2) (by
    rintro ⟨x4, x5, x6, f, cs, bs, b, w, l⟩ ⟨⟨c, e1, e2⟩, e3, e4, e5⟩
    dsimp only at e1 e3 e4 e5
    subst e1 e4
    rw [Nat.sub_self] at e2 e3
    have ec : c = cnF (okF E r sl sr a) 100 := e2
    refine ⟨(if x2 = nI 0 then nI (cnF (okF E r sl sr a) 100) else x5, s, cs, bs, b, w, l), ⟨x5, e3, rfl, rfl⟩, fun k => ?_⟩
    show b_X8_fits_36 (nI r) x2 (eR E r 1) k (nI c) x5 (nI (100 - 100) - nI 1) f cs bs b w l = _
    unfold b_X8_fits_36
    simp only [lI, pk_mul, nI_add]
    rw [Nat.sub_self, if_pos (nI_neg (by decide) (by decide)), gI_n (by omega) (by decide), nI_clamp (show 178 + 20 * r + 1 < 2 ^ 31 by omega), hback f e5, hsame, ec]
    by_cases q : x2 = nI 0
    · rw [if_pos q, if_pos q]
    · rw [if_neg q, if_neg q]) fu (nI 0, -nI 5, nI 99, s, cs, bs, b, w, l) (by unfold fu; omega) ⟨⟨0, rfl, Nat.zero_add _⟩, Or.inl ⟨rfl, fun u h1 h2 => absurd h2 (by omega)⟩, rfl, fun j _ => rfl⟩
  dsimp only at h3 h4
  subst h3
  exact ⟨v, s', z, h1, h2, h4⟩
theorem fits_both {sl sr pl pr bl br : Nat → Int32} {ss ps bs : Int32} (hB : GB E) (h : CW E facts ro locked rules sizes rows sc metric fixed) (hM : MW E s) (hP : PS (eN E) sl sr ss pl pr ps bl br bs s) (y1 y2 y3 : Nat → Int32) (y4 y5 y6 y7 y8 y9 y10 : Int32) (cs2 bs2 : Nat → Int32) (b w l : Int32) (x1 x2 : Int32) : ∃ v z s' z', f_X7_fits facts rules sizes rows sl sr ss metric y1 y2 y3 y4 y5 y6 y7 y8 y9 y10 x1 x2 = some (v, z) ∧ f_X8_fits s cs2 bs2 b w l x1 x2 = some (v, s', z') ∧ MW E s' ∧ low s s' := by
  obtain ⟨⟨a, ha, a1, a2, a3⟩, -, -, h4, -, -⟩ := hP
  have hp : ∀ i, i < a → ∃ p, p < eN E ∧ sl i = nI p := fun i hi => h4 i (by omega) (by rw [a1]; exact nI_lt hi (by omega))
  unfold f_X7_fits f_X8_fits
  simp only [lI]
  rcases roundX x1 with ⟨r, hr, rfl, e1, e2⟩ | ⟨e1, e2⟩
  rotate_left
  · rw [e1, e2, Option.bind_some, Option.bind_some, if_pos rfl, if_pos rfl]
    exact ⟨_, _, s, _, rfl, rfl, hM, low.refl s⟩
  rw [e1, e2, Option.bind_some, Option.bind_some, if_neg h10_, if_neg h10_, isUpTo_isIn]
  rcases isIn_eq x2 1 (by decide) with ⟨n, hn, rfl, e3⟩ | ⟨-, e3⟩
  rotate_left
  · rw [e3, Option.bind_some, Option.bind_some, if_pos rfl, if_pos rfl]
    exact ⟨_, _, s, _, rfl, rfl, hM, low.refl s⟩
  obtain ⟨row1, h1, h2⟩ := loadC hB h hr y1
  obtain ⟨v, z, c1, c2⟩ := fitsC hB h hr h1 (show a ≤ 8 by omega) sl sr (nI n) y2 y3 y6 y7 y8 y9 y10
  obtain ⟨v2, s', z', d1, d2, d3⟩ := fitsM hB hM hr ha a2 a3 hp (nI n) cs2 bs2 b w l
  have hv := c1.uniq d1
  rw [e3, Option.bind_some, Option.bind_some, if_neg h10_, if_neg h10_, ruleOf_eq rules (by omega), Option.bind_some, h.2.2.2.2.2.2.1 r hr 1 (by decide), h2, Option.bind_some, roundAt_eq s (by omega), Option.bind_some, hM.2.2.2.2.2.1 r hr 1 (by decide), a1]
  dsimp only
  rw [c2, d2, hv]
  refine ⟨_, _, s', _, rfl, rfl, by rw [d3]; exact hM, by rw [d3]; exact low.refl s⟩
end FITS
