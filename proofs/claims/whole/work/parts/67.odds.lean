/-! B40: copies; the lowest terms; odds, means -/
theorem copyRow_eq {n : Nat} (hn : n ≤ 500) (p0 p1 : Nat → Int32) : ∃ p', f_X7_copyRow n n p0 p1 = some p' ∧ ∀ i, i < n → p' i = p0 i := by
  have hof : ∀ m : Nat, Int32.ofNat m = nI m := fun m => rfl
  unfold f_X7_copyRow l_X7_copyRow_2
  simp only [lI]
  obtain ⟨q, h1, h2⟩ := lp_inv (F := fun k (x : Int32 × (Nat → Int32)) => b_X7_copyRow_2 n n p0 k x.1 x.2) (fun t x => x.1 = nI t ∧ ∀ i, i < t → x.2 i = p0 i) (fun q => ∀ i, i < n → q i = p0 i) n (by
    rintro t ⟨x1, f⟩ ht ⟨e1, g1⟩
    dsimp only at e1 g1
    subst e1
    refine Or.inl ⟨(nI (t + 1), upd f t (p0 t)), ⟨rfl, fun i hi => ?_⟩, fun z => ?_⟩
    · dsimp only
      by_cases q : i = t
      · rw [q, pk_us]
      · rw [pk_un q]; exact g1 i (by omega)
    · show b_X7_copyRow_2 n n p0 z (nI t) f = _
      unfold b_X7_copyRow_2
      simp only [lI, nI_add, hof]
      rw [if_neg (nI_ge ht (by omega)), if_neg (nI_ge ht (by omega)), gI_n ht (by omega), gI_n ht (by omega), nI_clamp (by omega)]) (by
    rintro ⟨x1, f⟩ ⟨e1, g1⟩
    dsimp only at e1 g1
    subst e1
    refine ⟨f, g1, fun z => ?_⟩
    show b_X7_copyRow_2 n n p0 z (nI n) f = _
    unfold b_X7_copyRow_2
    simp only [hof]
    rw [if_pos (nI_le (Nat.le_refl _) (by omega))]) fu (nI 0, p1) (by unfold fu; omega) ⟨rfl, fun i hi => absurd hi (Nat.not_lt_zero i)⟩
  exact ⟨q, h2, h1⟩
theorem copies_eq {n : Nat} (hn : n ≤ 500) (p0 p1 : Nat → Int32) : ∃ p', f_X8_copies n n p0 p1 = some p' ∧ ∀ i, i < n → p' i = p0 i := by
  have hof : ∀ m : Nat, Int32.ofNat m = nI m := fun m => rfl
  unfold f_X8_copies l_X8_copies_2
  simp only [lI]
  obtain ⟨q, h1, h2⟩ := lp_inv (F := fun k (x : Int32 × (Nat → Int32)) => b_X8_copies_2 n n p0 k x.1 x.2) (fun t x => x.1 = nI t ∧ ∀ i, i < t → x.2 i = p0 i) (fun q => ∀ i, i < n → q i = p0 i) n (by
    rintro t ⟨x1, f⟩ ht ⟨e1, g1⟩
    dsimp only at e1 g1
    subst e1
    refine Or.inl ⟨(nI (t + 1), upd f t (p0 t)), ⟨rfl, fun i hi => ?_⟩, fun z => ?_⟩
    · dsimp only
      by_cases q : i = t
      · rw [q, pk_us]
      · rw [pk_un q]; exact g1 i (by omega)
    · show b_X8_copies_2 n n p0 z (nI t) f = _
      unfold b_X8_copies_2
      simp only [lI, nI_add, hof]
      rw [if_neg (nI_ge ht (by omega)), gI_n ht (by omega), gI_n ht (by omega), nI_clamp (by omega)]) (by
    rintro ⟨x1, f⟩ ⟨e1, g1⟩
    dsimp only at e1 g1
    subst e1
    refine ⟨f, g1, fun z => ?_⟩
    show b_X8_copies_2 n n p0 z (nI n) f = _
    unfold b_X8_copies_2
    simp only [hof]
    rw [if_pos (nI_le (Nat.le_refl _) (by omega))]) fu (nI 0, p1) (by unfold fu; omega) ⟨rfl, fun i hi => absurd hi (Nat.not_lt_zero i)⟩
  exact ⟨q, h2, h1⟩
theorem gcd_step (a b : Nat) : Nat.gcd b (a % b) = Nat.gcd a b := by
  rw [Nat.gcd_comm b (a % b), ← Nat.gcd_rec, Nat.gcd_comm]
theorem common_eq : ∀ (k a b : Nat), a < 2 ^ 31 → b < k → b < 2 ^ 31 → f_X8_common k (nI a) (nI b) = some (nI (Nat.gcd a b)) := by
  intro k
  induction k with
  | zero => intro a b _ hb; exact absurd hb (Nat.not_lt_zero b)
  | succ k ih =>
    intro a b ha hb hb2
    show (if nI b = 0 then some (nI a) else f_X8_common k (nI b) (nI a - nI a / nI b * nI b)) = _
    by_cases h0 : b = 0
    · subst h0
      rw [if_pos (show nI 0 = (0 : Int32) from rfl), Nat.gcd_zero_right]
    · have hlt := Nat.mod_lt a (show b > 0 by omega)
      rw [if_neg (by intro z; exact h0 (nI_inj hb2 (by decide) z)), pk_rem ha (by omega) hb2, ih b (a % b) hb2 (by omega) (by omega), gcd_step]
/-- the first, of the two told by their lowest terms -/
def lwT (a b : Nat) (x : Int32) : Int32 := nI ((if x = nI 0 then a else b) / Nat.gcd a b)
theorem part_eq {a b : Nat} (ha : a < 2 ^ 31) (h0 : 0 < b) (hb : b ≤ 16) (x : Int32) : f_X8_part (nI a) (nI b) x = some (lwT a b x) := by
  have hg : 0 < Nat.gcd a b := Nat.gcd_pos_of_pos_right a h0
  have hg2 : Nat.gcd a b ≤ b := Nat.gcd_le_right a h0
  unfold f_X8_part b_X8_part_9 lwT
  simp only [lI]
  rw [common_eq 40 a b ha (by omega) (by omega), Option.bind_some, Option.bind_some, gd_t (by rw [nI_eq (by omega) (by decide)]; omega), gd_t (by rw [nI_eq (by omega) (by decide)]; omega), pk_div ha hg (by omega), pk_div (by omega) hg (by omega)]
  by_cases q : x = nI 0
  · rw [if_pos q, if_pos q]
  · rw [if_neg q, if_neg q]
theorem lowest_eq {a b : Nat} (ha : a < 2 ^ 31) (h0 : 0 < b) (hb : b ≤ 16) (x : Int32) : f_X7_lowest (nI a) (nI b) x = some (lwT a b x) := by
  have hg : 0 < Nat.gcd a b := Nat.gcd_pos_of_pos_right a h0
  have hg2 : Nat.gcd a b ≤ b := Nat.gcd_le_right a h0
  have e39 : b_X7_lowest_39 (nI a) (nI b) x (nI (Nat.gcd a b)) = some (lwT a b x) := by
    unfold b_X7_lowest_39 b_X7_lowest_48 lwT
    simp only [lI]
    have hle : ¬ nI (Nat.gcd a b) ≤ nI 0 := by rw [nI_leI (by omega) (by decide)]; omega
    have hne : ¬ nI (Nat.gcd a b) = nI 0 := by rw [nI_eq (by omega) (by decide)]; omega
    by_cases q : x = nI 0
    · rw [if_pos q, if_pos q, if_neg hle, gd_t hne, pk_div ha hg (by omega)]
    · rw [if_neg q, if_neg q, if_neg hle, gd_t hne, pk_div (by omega) hg (by omega)]
  -- after the first step the rest falls
  have key : ∀ (d t u v : Nat) (n : Nat), v ≤ d → t + d ≤ 60 → d < n → u < 2 ^ 31 → v < 2 ^ 31 → Nat.gcd u v = Nat.gcd a b → lp (fun k (x' : Int32 × Int32 × Int32) => b_X7_lowest_8 (nI a) (nI b) x k x'.1 x'.2.1 x'.2.2) n (nI u, nI v, nI t) = some (lwT a b x) := by
    intro d
    induction d with
    | zero =>
      intro t u v n hv ht hn hu hv2 hgc
      obtain ⟨n, rfl⟩ : ∃ k, n = k + 1 := ⟨n - 1, by omega⟩
      obtain rfl : v = 0 := by omega
      rw [Nat.gcd_zero_right] at hgc
      show b_X7_lowest_8 (nI a) (nI b) x (lp _ n) (nI u) (nI 0) (nI t) = _
      unfold b_X7_lowest_8
      simp only [lI]
      rw [if_neg (nI_ge (by omega) (by decide)), if_pos (Int32.le_refl _), hgc, e39]
    | succ d ih =>
      intro t u v n hv ht hn hu hv2 hgc
      obtain ⟨n, rfl⟩ : ∃ k, n = k + 1 := ⟨n - 1, by omega⟩
      by_cases h00 : v = 0
      · subst h00
        rw [Nat.gcd_zero_right] at hgc
        show b_X7_lowest_8 (nI a) (nI b) x (lp _ n) (nI u) (nI 0) (nI t) = _
        unfold b_X7_lowest_8
        simp only [lI]
        rw [if_neg (nI_ge (by omega) (by decide)), if_pos (Int32.le_refl _), hgc, e39]
      · have hlt := Nat.mod_lt u (show v > 0 by omega)
        show b_X7_lowest_8 (nI a) (nI b) x (lp _ n) (nI u) (nI v) (nI t) = _
        unfold b_X7_lowest_8
        simp only [lI, nI_add]
        rw [if_neg (nI_ge (by omega) (by decide)), if_neg (by rw [nI_leI (by omega) (by decide)]; omega), gd_t (by rw [nI_eq (by omega) (by decide)]; exact h00), pk_rem hu (by omega) hv2]
        exact ih (t + 1) v (u % v) n (by omega) (by omega) (by omega) hv2 (by omega) (by rw [gcd_step]; exact hgc)
  unfold f_X7_lowest l_X7_lowest_8
  simp only [lI]
  by_cases ha0 : a = 0
  · subst ha0
    exact key 0 0 b 0 fu (Nat.le_refl _) (by omega) (by unfold fu; omega) (by omega) (by decide) (Nat.gcd_comm _ _)
  · show b_X7_lowest_8 (nI a) (nI b) x (lp _ 599) (nI b) (nI a) (nI 0) = _
    have hlt := Nat.mod_lt b (show a > 0 by omega)
    have hle := Nat.mod_le b a
    unfold b_X7_lowest_8
    simp only [lI, nI_add]
    rw [if_neg (by decide), if_neg (by rw [nI_leI (by omega) (by decide)]; omega), gd_t (by rw [nI_eq (by omega) (by decide)]; exact ha0), pk_rem (by omega) (by omega) ha]
    exact key 20 1 a (b % a) 599 (by omega) (by omega) (by omega) ha (by omega) (by rw [gcd_step, Nat.gcd_comm])
section ODDS
variable {E : ES} {facts ro locked rules sizes rows s : Nat → Int32} {sc metric fixed : Int32}
/-- times of a round that holds are small -/
theorem tm_nB (hI : GI E) {r : Nat} (hr : r < 4) : ∀ k, k ≤ (eL E r).length → nB 1999 (tm (eD E) (eF E) (eT E r) (eL E r) k) ∧ nB (999 * k) (wt (eD E) (eF E) (eT E r) (eL E r) k) := by
  have hB := hI.1
  have hon := (hI.2 r hr).1
  intro k
  induction k with
  | zero =>
    intro _
    obtain ⟨a, ha, e⟩ := hB.2.2.2.2.2.2.1 r hr 1 (by decide)
    refine ⟨⟨a, ha, ?_⟩, ⟨0, by omega, rfl⟩⟩
    show eR E r 1 + nI 0 = nI a
    rw [e, nI_add]
    rfl
  | succ k ih =>
    intro hk
    obtain ⟨⟨t, ht, et⟩, ⟨w, hw, ew⟩⟩ := ih (by omega)
    have hp := at_lt (hB.mem hr) (show k < (eL E r).length by omega)
    obtain ⟨d, hd, ed⟩ := dist_nB hB (pv_P (hB.mem hr) k) (Or.inl hp)
    obtain ⟨f, hf, ef⟩ := hB.2.2.2.2.1 _ hp 3 (by decide)
    obtain ⟨la, hla, ela⟩ := hB.2.2.2.2.1 _ hp 4 (by decide)
    obtain ⟨st, hst, est⟩ := hB.2.2.2.2.1 _ hp 5 (by decide)
    have ecm : cm (eD E) (eF E) (eT E r) (eL E r) k = nI (t + d) := by
      show tm (eD E) (eF E) (eT E r) (eL E r) k + eD E (pv_ (eL E r) k) (at_ (eL E r) k) = _
      rw [et, ed, nI_add]
    have hin := hon k (by omega)
    have ebg : ∃ b, b ≤ 999 ∧ bg (eD E) (eF E) (eT E r) (eL E r) k = nI b ∧ t + d ≤ b ∧ b ≤ t + d + 999 := by
      unfold inT at hin
      rw [ela] at hin
      have e : bg (eD E) (eF E) (eT E r) (eL E r) k = if nI f ≤ nI (t + d) then nI (t + d) else nI f := by
        show bgn (eF E) (cm (eD E) (eF E) (eT E r) (eL E r) k) (at_ (eL E r) k) = _
        unfold bgn
        rw [ecm, ef]
      by_cases q : f ≤ t + d
      · rw [if_pos (nI_le q (by omega))] at e
        rw [e, nI_leI (by omega) (by omega)] at hin
        exact ⟨t + d, by omega, e, by omega, by omega⟩
      · rw [if_neg (nI_ge (by omega) (by omega))] at e
        exact ⟨f, by omega, e, by omega, by omega⟩
    obtain ⟨b, hb, eb, hb2, hb3⟩ := ebg
    constructor
    · refine ⟨b + st, by omega, ?_⟩
      show bg (eD E) (eF E) (eT E r) (eL E r) k + eF E (at_ (eL E r) k) 5 = _
      rw [eb, est, nI_add]
    · refine ⟨w + (b - (t + d)), by omega, ?_⟩
      show wt (eD E) (eF E) (eT E r) (eL E r) k + (bg (eD E) (eF E) (eT E r) (eL E r) k - cm (eD E) (eF E) (eT E r) (eL E r) k) = _
      rw [ew, eb, ecm, pk_sub hb2, nI_add]
theorem sm_nB {f : Nat → Int32} {m : Nat} (n : Nat) (h : ∀ k, k < n → nB m (f k)) : nB (m * n) (sm f n) := by
  induction n with
  | zero => exact ⟨0, by omega, rfl⟩
  | succ n ih =>
    obtain ⟨a, ha, ea⟩ := ih (fun k hk => h k (by omega))
    obtain ⟨b, hb, eb⟩ := h n (by omega)
    refine ⟨a + b, ?_, ?_⟩
    · rw [Nat.mul_succ]; omega
    · rw [sm_succ, ea, eb, nI_add]
theorem eW_nB (hI : GI E) : nB 70000 (eW E) := by
  have : nB (15984 * 4) (eW E) := sm_nB 4 (fun r hr => by
    obtain ⟨w, hw, e⟩ := (tm_nB hI hr _ (Nat.le_refl _)).2
    have hl := hI.1.len hr
    refine ⟨w, ?_, e⟩
    have : 999 * (eL E r).length ≤ 999 * 16 := Nat.mul_le_mul_left _ hl
    omega)
  obtain ⟨w, hw, e⟩ := this
  exact ⟨w, by omega, e⟩
theorem eO_nB (hB : GB E) : nB (eN E) (eO E) := by
  have : nB (1 * eN E) (eO E) := sm_nB (eN E) (fun p _ => by
    show nB 1 (if rof (eL E) p = -nI 5 then 1 else 0)
    split
    · exact ⟨1, by omega, rfl⟩
    · exact ⟨0, by omega, rfl⟩)
  rw [Nat.one_mul] at this
  exact this
theorem mean_both (hI : GI E) (h : CW E facts ro locked rules sizes rows sc metric fixed) (hM : MW E s) (y1 y2 y3 : Nat → Int32) (y4 y5 y6 y7 y8 y9 y10 : Int32) (cs bs : Nat → Int32) (b w l : Int32) (x1 : Int32) : ∃ v z z', f_X7_mean facts ro rules sizes rows sc metric y1 y2 y3 y4 y5 y6 y7 y8 y9 y10 x1 = some (v, z) ∧ f_X8_mean s cs bs b w l x1 = some (v, z') := by
  have hB := hI.1
  have hN := hB.1
  have e4 : (nI 4).toNatClampNeg = 4 := nI_clamp (by decide)
  obtain ⟨o, ho, eo⟩ := eO_nB hB
  unfold f_X7_mean f_X8_mean
  simp only [lI]
  rw [h.1, looseC_eq hN h.2.2.2.2.1, looseM_eq hB hM, Option.bind_some, Option.bind_some, isUpTo_isIn, e4, hM.1, eo, pk_sub ho]
  rcases isIn_eq x1 1 (by decide) with ⟨n, hn, rfl, e3⟩ | ⟨-, e3⟩
  · rw [e3, Option.bind_some, Option.bind_some, if_neg h10_, if_neg h10_]
    by_cases q : eN E - o = 0
    · rw [q, if_pos rfl, if_pos rfl]
      exact ⟨_, _, _, rfl, rfl⟩
    · have q2 : ¬ nI (eN E - o) = nI 0 := by rw [nI_eq (by omega) (by decide)]; exact q
      obtain ⟨z1, z2, z3, z4, z5, z6, z7, z8, z9, z10, w1⟩ := waitsC hI h y1 y2 y3 y4 y5 y6 y7 y8 y9 y10
      obtain ⟨z, w2⟩ := waitsM hB hM cs bs b w l
      obtain ⟨u, hu, eu⟩ := eW_nB hI
      rw [if_neg q2, if_neg q2, w1, w2, Option.bind_some, Option.bind_some]
      dsimp only
      rw [eu, lowest_eq (by omega) (by omega) (by omega), part_eq (by omega) (by omega) (by omega), Option.bind_some, Option.bind_some]
      exact ⟨_, _, _, rfl, rfl⟩
  · rw [e3, Option.bind_some, Option.bind_some, if_pos rfl, if_pos rfl]
    exact ⟨_, _, _, rfl, rfl⟩
/-- how many that are in no round could be put in -/
def cdF (E : ES) (p : Nat) : Int32 := if rof (eL E) p = -nI 5 ∧ (wg E p 0 4).isSome = true then nI 1 else nI 0
theorem cdF_nB (E : ES) (p : Nat) : nB 1 (cdF E p) := by
  unfold cdF
  split
  · exact ⟨1, by omega, rfl⟩
  · exact ⟨0, by omega, rfl⟩
abbrev TO16 : Type := Int32 × Int32 × (Nat → Int32) × (Nat → Int32) × (Nat → Int32) × Int32 × Int32 × Int32 × Int32 × Int32 × Int32 × Int32 × Int32 × Int32 × Int32 × Int32
abbrev TO15 : Type := Int64 × (Nat → Int32) × (Nat → Int32) × (Nat → Int32) × Int32 × Int32 × Int32 × Int32 × Int32 × Int32 × Int32 × Int32 × Int32 × Int32 × Int32
theorem oddsC (hB : GB E) (h : CW E facts ro locked rules sizes rows sc metric fixed) {o : Nat} (h0 : 0 < o) (ho : o ≤ 16) (x1 : Int32) (y1 y2 y3 : Nat → Int32) (y4 y5 y6 y7 y8 y9 y10 y11 y12 y13 y14 : Int32) : ∃ c z, c < 2 ^ 31 ∧ sm (cdF E) (eN E) = nI c ∧ l_X7_odds_29 x1 (nI o) facts ro rules sizes rows sc metric fixed (nI 0, nI 0, y1, y2, y3, y4, y5, y6, y7, y8, y9, y10, y11, y12, y13, y14) = some ((lwT c o x1).toInt64, z) := by
  have hN := hB.1
  obtain ⟨c, hc, ec⟩ := sm_nB (eN E) (fun p (_ : p < eN E) => cdF_nB E p)
  unfold l_X7_odds_29
  obtain ⟨⟨v, z⟩, h1, h2⟩ := lp_inv (F := fun k (x : TO16) => b_X7_odds_29 x1 (nI o) facts ro rules sizes rows sc metric fixed k x.1 x.2.1 x.2.2.1 x.2.2.2.1 x.2.2.2.2.1 x.2.2.2.2.2.1 x.2.2.2.2.2.2.1 x.2.2.2.2.2.2.2.1 x.2.2.2.2.2.2.2.2.1 x.2.2.2.2.2.2.2.2.2.1 x.2.2.2.2.2.2.2.2.2.2.1 x.2.2.2.2.2.2.2.2.2.2.2.1 x.2.2.2.2.2.2.2.2.2.2.2.2.1 x.2.2.2.2.2.2.2.2.2.2.2.2.2.1 x.2.2.2.2.2.2.2.2.2.2.2.2.2.2.1 x.2.2.2.2.2.2.2.2.2.2.2.2.2.2.2) (fun t x => x.1 = sm (cdF E) t ∧ x.2.1 = nI t) (fun q : TO15 => q.1 = (lwT c o x1).toInt64) (eN E) (by
    rintro t ⟨x3, x4, y1, y2, y3, y4, y5, y6, y7, y8, y9, y10, y11, y12, y13, y14⟩ ht ⟨e1, e2⟩
    dsimp only at e1 e2
    subst e1 e2
    have hro := (placeOf_eq hB h ht).2
    by_cases q : rof (eL E) t = -nI 5
    · have hm := loose_out q
      obtain ⟨z1, z2, z3, z4, z5, z6, z7, z8, z9, z10, u, g1, g2⟩ := weighC hB h ht hm (lo := 0) (n := 4) (by decide) (by decide) y1 y2 y3 y4 y5 y6 y7 y8 y9 y10 y12 y13
      change f_X1_weigh y1 y2 y3 y4 y5 y6 y7 y8 y9 y10 y12 y13 facts rules sizes rows metric fixed (nI t) (nI 0) (nI 3) = _ at g2
      refine Or.inl ⟨(sm (cdF E) (t + 1), nI (t + 1), z1, z2, z3, z4, z5, z6, z7, z8, z9, z10, u), ⟨rfl, rfl⟩, fun k => ?_⟩
      show b_X7_odds_29 x1 (nI o) facts ro rules sizes rows sc metric fixed k (sm (cdF E) t) (nI t) y1 y2 y3 y4 y5 y6 y7 y8 y9 y10 y11 y12 y13 y14 = _
      unfold b_X7_odds_29
      simp only [lI, nI_add]
      rw [h.1, if_neg (nI_ge ht (by omega)), hro, Option.bind_some, if_pos q, g2, Option.bind_some]
      dsimp only
      rw [sm_loop]
      show _ = k (_ + cdF E t, _)
      unfold cdF
      cases e : wg E t 0 4 with
      | none =>
        rw [e] at g1
        have g1' : u.1 = -nI 5 := g1.1
        rw [if_pos g1', if_neg (fun z => Bool.false_ne_true z.2)]
      | some y =>
        obtain ⟨r, k1, a, g⟩ := y
        rw [e] at g1
        obtain ⟨rfl, hr, hk⟩ := g1
        dsimp only
        rw [if_neg (nI_ne_m5 (by omega)), if_pos ⟨q, rfl⟩]
    · refine Or.inl ⟨(sm (cdF E) (t + 1), nI (t + 1), y1, y2, y3, y4, y5, y6, y7, y8, y9, y10, y11, y12, y13, y14), ⟨rfl, rfl⟩, fun k => ?_⟩
      show b_X7_odds_29 x1 (nI o) facts ro rules sizes rows sc metric fixed k (sm (cdF E) t) (nI t) y1 y2 y3 y4 y5 y6 y7 y8 y9 y10 y11 y12 y13 y14 = _
      unfold b_X7_odds_29
      simp only [lI, nI_add]
      rw [h.1, if_neg (nI_ge ht (by omega)), hro, Option.bind_some, if_neg q, sm_loop]
      have : cdF E t = 0 := by
        unfold cdF
        rw [if_neg (fun z => q z.1)]
        rfl
      rw [this, Int32.add_zero]) (by
    rintro ⟨x3, x4, y1, y2, y3, y4, y5, y6, y7, y8, y9, y10, y11, y12, y13, y14⟩ ⟨e1, e2⟩
    dsimp only at e1 e2
    subst e1 e2
    refine ⟨((lwT c o x1).toInt64, y1, y2, y3, y4, y5, y6, y7, y8, y9, y10, y11, y12, y13, y14), rfl, fun k => ?_⟩
    show b_X7_odds_29 x1 (nI o) facts ro rules sizes rows sc metric fixed k (sm (cdF E) (eN E)) (nI (eN E)) y1 y2 y3 y4 y5 y6 y7 y8 y9 y10 y11 y12 y13 y14 = _
    unfold b_X7_odds_29
    rw [h.1, if_pos (nI_le (Nat.le_refl _) (by omega)), ec, lowest_eq (by omega) h0 ho, Option.bind_some]) fu (nI 0, nI 0, y1, y2, y3, y4, y5, y6, y7, y8, y9, y10, y11, y12, y13, y14) (by unfold fu; omega) ⟨rfl, rfl⟩
  dsimp only at h1
  subst h1
  exact ⟨c, z, by omega, ec, h2⟩
abbrev TP12 : Type := Int32 × Int32 × (Nat → Int32) × (Nat → Int32) × (Nat → Int32) × Int32 × Int32 × Int32 × Int32 × Int32 × Int32 × Int32
abbrev TP11 : Type := Int64 × (Nat → Int32) × (Nat → Int32) × (Nat → Int32) × Int32 × Int32 × Int32 × Int32 × Int32 × Int32 × Int32
theorem oddsM (hB : GB E) (hM : MW E s) {o c : Nat} (h0 : 0 < o) (ho : o ≤ 16) (hc : c < 2 ^ 31) (ec : sm (cdF E) (eN E) = nI c) (x1 : Int32) (cs bs : Nat → Int32) (b w l br bp ba re : Int32) : ∃ s' z, l_X8_odds_27 x1 (nI o) (nI 0, nI 0, s, cs, bs, b, w, l, br, bp, ba, re) = some ((lwT c o x1).toInt64, s', z) ∧ MW E s' ∧ low s s' := by
  have hN := hB.1
  have e4 : (nI 4).toNatClampNeg = 4 := nI_clamp (by decide)
  unfold l_X8_odds_27
  obtain ⟨⟨v, s', z⟩, ⟨h1, h3, h4⟩, h2⟩ := lp_inv (F := fun k (x : TP12) => b_X8_odds_27 x1 (nI o) k x.1 x.2.1 x.2.2.1 x.2.2.2.1 x.2.2.2.2.1 x.2.2.2.2.2.1 x.2.2.2.2.2.2.1 x.2.2.2.2.2.2.2.1 x.2.2.2.2.2.2.2.2.1 x.2.2.2.2.2.2.2.2.2.1 x.2.2.2.2.2.2.2.2.2.2.1 x.2.2.2.2.2.2.2.2.2.2.2) (fun t x => x.1 = sm (cdF E) t ∧ x.2.1 = nI t ∧ MW E x.2.2.1 ∧ low s x.2.2.1) (fun q : TP11 => q.1 = (lwT c o x1).toInt64 ∧ MW E q.2.1 ∧ low s q.2.1) (eN E) (by
    rintro t ⟨x3, x4, s1, cs, bs, b, w, l, br, bp, ba, re⟩ ht ⟨e1, e2, e3, e5⟩
    dsimp only at e1 e2 e3 e5
    subst e1 e2
    by_cases q : rof (eL E) t = -nI 5
    · have hm := loose_out q
      obtain ⟨v, s2, z1, z2, z3, z4, z5, vr, vp, va, ve, g1, g2, g3, g4⟩ := cheapAllM hB e3 ht hm cs bs b w l
      refine Or.inl ⟨(sm (cdF E) (t + 1), nI (t + 1), s2, z1, z2, z3, z4, z5, vr, vp, va, ve), ⟨rfl, rfl, g2, e5.trans g3⟩, fun k => ?_⟩
      show b_X8_odds_27 x1 (nI o) k (sm (cdF E) t) (nI t) s1 cs bs b w l br bp ba re = _
      unfold b_X8_odds_27
      simp only [lI, nI_add]
      rw [e4, e3.1, if_neg (nI_ge ht (by omega)), rofM hB e3 ht, Option.bind_some, q, if_neg m5_lt, g1, Option.bind_some]
      dsimp only
      rw [sm_loop]
      show _ = k (_ + cdF E t, _)
      unfold cdF
      cases e : wg E t 0 4 with
      | none =>
        rw [e] at g4
        have hv : v = nI 0 := g4
        rw [if_pos hv, if_neg (fun z => Bool.false_ne_true z.2)]
      | some y =>
        obtain ⟨r, k0, a, g⟩ := y
        rw [e] at g4
        have hv1 : v = nI 1 := g4.1
        rw [if_neg (by rw [hv1]; decide), if_pos ⟨q, rfl⟩]
    · refine Or.inl ⟨(sm (cdF E) (t + 1), nI (t + 1), s1, cs, bs, b, w, l, br, bp, ba, re), ⟨rfl, rfl, e3, e5⟩, fun k => ?_⟩
      show b_X8_odds_27 x1 (nI o) k (sm (cdF E) t) (nI t) s1 cs bs b w l br bp ba re = _
      obtain ⟨w1, w2, w3, w4, w5⟩ := wrk q
      unfold b_X8_odds_27
      simp only [lI, nI_add]
      rw [e4, e3.1, if_neg (nI_ge ht (by omega)), rofM hB e3 ht, Option.bind_some, if_pos (show nI 0 ≤ rof (eL E) t by rw [w3]; exact nI_0le (by omega)), sm_loop]
      have : cdF E t = nI 0 := by
        unfold cdF
        rw [if_neg (fun z => q z.1)]
      rw [this]) (by
    rintro ⟨x3, x4, s1, cs, bs, b, w, l, br, bp, ba, re⟩ ⟨e1, e2, e3, e5⟩
    dsimp only at e1 e2 e3 e5
    subst e1 e2
    refine ⟨((lwT c o x1).toInt64, s1, cs, bs, b, w, l, br, bp, ba, re), ⟨rfl, e3, e5⟩, fun k => ?_⟩
    show b_X8_odds_27 x1 (nI o) k (sm (cdF E) (eN E)) (nI (eN E)) s1 cs bs b w l br bp ba re = _
    unfold b_X8_odds_27
    simp only [lI]
    rw [e4, e3.1, if_pos (nI_le (Nat.le_refl _) (by omega)), ec, part_eq hc h0 ho, Option.bind_some]) fu (nI 0, nI 0, s, cs, bs, b, w, l, br, bp, ba, re) (by unfold fu; omega) ⟨rfl, rfl, hM, low.refl s⟩
  dsimp only at h1
  subst h1
  exact ⟨s', z, h2, h3, h4⟩
theorem odds_both (hB : GB E) (h : CW E facts ro locked rules sizes rows sc metric fixed) (hM : MW E s) (y1 y2 y3 : Nat → Int32) (y4 y5 y6 y7 y8 y9 y10 y11 y12 y13 y14 : Int32) (cs bs : Nat → Int32) (b w l br bp ba re : Int32) (x1 : Int32) : ∃ v z s' z', f_X7_odds facts ro rules sizes rows sc metric fixed y1 y2 y3 y4 y5 y6 y7 y8 y9 y10 y11 y12 y13 y14 x1 = some (v, z) ∧ f_X8_odds s cs bs b w l br bp ba re x1 = some (v, s', z') ∧ MW E s' ∧ low s s' := by
  have hN := hB.1
  obtain ⟨o, ho, eo⟩ := eO_nB hB
  have hsc := h.1
  unfold f_X7_odds f_X8_odds
  simp only [lI]
  rw [show f_X6_looseCount ro sc = some (eO E) by rw [hsc]; exact looseC_eq hN h.2.2.2.2.1, looseM_eq hB hM, Option.bind_some, Option.bind_some, isUpTo_isIn, eo]
  rcases isIn_eq x1 1 (by decide) with ⟨n, hn, rfl, e3⟩ | ⟨-, e3⟩
  · rw [e3, Option.bind_some, Option.bind_some, if_neg h10_, if_neg h10_]
    by_cases q : o = 0
    · rw [q, if_pos rfl, if_pos rfl]
      exact ⟨_, _, s, _, rfl, rfl, hM, low.refl s⟩
    · have q2 : ¬ nI o = nI 0 := by rw [nI_eq (by omega) (by decide)]; exact q
      obtain ⟨c, z, c1, c2, c3⟩ := oddsC hB h (show 0 < o by omega) (by omega) (nI n) y1 y2 y3 y4 y5 y6 y7 y8 y9 y10 y11 y12 y13 y14
      obtain ⟨s', z', d1, d2, d3⟩ := oddsM hB hM (show 0 < o by omega) (by omega) c1 c2 (nI n) cs bs b w l br bp ba re
      rw [if_neg q2, if_neg q2]
      exact ⟨_, z, s', z', c3, d1, d2, d3⟩
  · rw [e3, Option.bind_some, Option.bind_some, if_pos rfl, if_pos rfl]
    exact ⟨_, _, s, _, rfl, rfl, hM, low.refl s⟩
end ODDS
