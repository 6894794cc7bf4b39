/-! B41: draws, in both -/
def shf (z : Int32) : Int32 := (z.toUInt32 >>> ((9 : Int32).toUInt32 &&& Int32.toUInt32 31)).toInt32
def nxz (z : Int32) : Int32 := z * nI 1103515245 + nI 12345
def pck (z N : Int32) : Int32 := shf (nxz z) - shf (nxz z) / N * N
theorem shf_nB (z : Int32) : ∃ m, m < 2 ^ 23 ∧ shf z = nI m := by
  have h := pk_ushr z 9 9 (by decide)
  have hz := z.toBitVec.isLt
  have hm : z.toBitVec.toNat / 2 ^ 9 < 2 ^ 23 := by omega
  refine ⟨z.toBitVec.toNat / 2 ^ 9, hm, ?_⟩
  refine Int32.toBitVec_inj.mp (BitVec.eq_of_toNat_eq ?_)
  rw [pk_tn (by omega)]
  exact h
theorem pck_nB (z : Int32) {N : Nat} (h0 : 0 < N) (hN : N ≤ 1000) : nB (N - 1) (pck z (nI N)) := by
  obtain ⟨m, hm, e⟩ := shf_nB (nxz z)
  have hlt := Nat.mod_lt m (show N > 0 by omega)
  refine ⟨m % N, by omega, ?_⟩
  unfold pck
  rw [e, pk_rem (by omega) h0 (by omega)]
def nxn (z : Int32) : Nat → Int32
  | 0 => z
  | k + 1 => nxz (nxn z k)
theorem nxn_succ (z : Int32) (k : Nat) : nxn z (k + 1) = nxz (nxn z k) := rfl
def dtop (w : Nat) : Nat := match w with
  | 0 => 64
  | 1 => 64
  | 2 => 10
  | 3 => 400
  | 4 => 200
  | _ => 20
theorem dtop_pos (w : Nat) : 0 < dtop w ∧ dtop w ≤ 400 := by
  unfold dtop
  split <;> decide
theorem topOf1_eq {w : Nat} (h : w < 6) : f_X7_topOf 1 (nI w) = some (nI (dtop w)) := by
  rcases (show w = 0 ∨ w = 1 ∨ w = 2 ∨ w = 3 ∨ w = 4 ∨ w = 5 by omega) with rfl | rfl | rfl | rfl | rfl | rfl <;> decide
/-- the six that are drawn -/
def dr1 (z : Int32) (w : Nat) : Int32 := pck (nxn z w) (nI (dtop w))
def drS (z : Int32) (u : Nat) : Int32 := if u = 4 then dr1 z 3 + nI 20 + dr1 z 4 else dr1 z u
theorem drS_six (z : Int32) (u : Nat) (h : u < 6) : drS z u = six (dr1 z 0) (dr1 z 1) (dr1 z 2) (dr1 z 3) (dr1 z 3 + nI 20 + dr1 z 4) (dr1 z 5) u := by
  rcases (show u = 0 ∨ u = 1 ∨ u = 2 ∨ u = 3 ∨ u = 4 ∨ u = 5 by omega) with rfl | rfl | rfl | rfl | rfl | rfl <;> rfl
abbrev drF (z : Int32) : Nat → Int32 := six (dr1 z 0) (dr1 z 1) (dr1 z 2) (dr1 z 3) (dr1 z 3 + nI 20 + dr1 z 4) (dr1 z 5)
theorem dr1_nB (z : Int32) (w : Nat) : nB (dtop w - 1) (dr1 z w) := pck_nB _ (dtop_pos w).1 (by have := (dtop_pos w).2; omega)
theorem drF_ok (z : Int32) : okS (drF z) := by
  obtain ⟨a0, h0, e0⟩ := dr1_nB z 0
  obtain ⟨a1, h1, e1⟩ := dr1_nB z 1
  obtain ⟨a2, h2, e2⟩ := dr1_nB z 2
  obtain ⟨a3, h3, e3⟩ := dr1_nB z 3
  obtain ⟨a4, h4, e4⟩ := dr1_nB z 4
  obtain ⟨a5, h5, e5⟩ := dr1_nB z 5
  have d0 : dtop 0 - 1 = 63 := rfl
  have d1 : dtop 1 - 1 = 63 := rfl
  have d2 : dtop 2 - 1 = 9 := rfl
  have d3 : dtop 3 - 1 = 399 := rfl
  have d4 : dtop 4 - 1 = 199 := rfl
  have d5 : dtop 5 - 1 = 19 := rfl
  refine ⟨fun u hu => ?_, fun u hu => ?_⟩
  · rcases (show u = 0 ∨ u = 1 by omega) with rfl | rfl
    · exact ⟨a0, by omega, e0⟩
    · exact ⟨a1, by omega, e1⟩
  · rcases (show u = 0 ∨ u = 1 ∨ u = 2 ∨ u = 3 ∨ u = 4 ∨ u = 5 by omega) with rfl | rfl | rfl | rfl | rfl | rfl
    · exact ⟨a0, by omega, e0⟩
    · exact ⟨a1, by omega, e1⟩
    · exact ⟨a2, by omega, e2⟩
    · exact ⟨a3, by omega, e3⟩
    · refine ⟨a3 + 20 + a4, by omega, ?_⟩
      show dr1 z 3 + nI 20 + dr1 z 4 = _
      rw [e3, e4, nI_add, nI_add]
    · exact ⟨a5, by omega, e5⟩
/-- so many stops drawn, as long as there is room -/
def drw : Nat → Int32 → ES → ES
  | 0, _, E => E
  | n + 1, z, E => if eN E < 16 then drw n (nxn z 6) (eAdd E (drF z)) else E
theorem drw_succ (n : Nat) (z : Int32) (E : ES) : drw (n + 1) z E = if eN E < 16 then drw n (nxn z 6) (eAdd E (drF z)) else E := rfl
theorem drw_full {n : Nat} {z : Int32} {E : ES} (h : ¬ eN E < 16) : drw n z E = E := by
  cases n with
  | zero => rfl
  | succ n => rw [drw_succ, if_neg h]
/-- where both stand after so many -/
def DwI (E : ES) (n : Nat) (z : Int32) (t : Nat) (F : ES) (y : Int32) : Prop := GI F ∧ drw (n - t) y F = drw n z E
theorem DwI.zero {E : ES} (hI : GI E) (n : Nat) (z : Int32) : DwI E n z 0 E z := ⟨hI, rfl⟩
theorem DwI.step {E F : ES} {n t : Nat} {z y : Int32} (h : DwI E n z t F y) (ht : t < n) (hF : eN F < 16) : DwI E n z (t + 1) (eAdd F (drF y)) (nxn y 6) := by
  refine ⟨h.1.add hF (drF_ok y), ?_⟩
  obtain ⟨d, hd⟩ : ∃ d, n - t = d + 1 := ⟨n - t - 1, by omega⟩
  have h2 := h.2
  rw [hd, drw_succ, if_pos hF] at h2
  rw [show n - (t + 1) = d by omega]
  exact h2
theorem DwI.stop {E F : ES} {n t : Nat} {z y : Int32} (h : DwI E n z t F y) (hF : ¬ eN F < 16) : F = drw n z E := by
  have := h.2
  rw [drw_full hF] at this
  exact this
theorem DwI.last {E F : ES} {n : Nat} {z y : Int32} (h : DwI E n z n F y) : F = drw n z E := by
  have := h.2
  rw [Nat.sub_self] at this
  exact this
section DRAW
variable {E : ES} {facts ro locked rules sizes rows s : Nat → Int32} {sc metric fixed : Int32}
theorem drawsM (z : Int32) {N : Nat} (h0 : 0 < N) (hN : N ≤ 1000) : f_X8_draws z (nI N) = some (pck z (nI N), nxz z) := by
  unfold f_X8_draws
  simp only [lI]
  rw [gd_t (by rw [nI_eq (by omega) (by decide)]; omega)]
  rfl
abbrev TW6 : Type := Int32 × Int32 × (Nat → Int32) × (Nat → Int32) × (Nat → Int32) × Int32
abbrev TW4 : Type := (Nat → Int32) × (Nat → Int32) × (Nat → Int32) × Int32
/-- one stop's six facts, drawn one by one -/
theorem draw35 {n : Nat} (hn : n < 16) (x2 x4 : Int32) (ro1 lk1 : Nat → Int32) (sc1 z : Int32) (F : Nat → Int32) : ∃ F' : Nat → Int32, (∀ u, u < 6 → F' (6 * n + u) = drS z u) ∧ (∀ j, (j < 6 * n ∨ 6 * n + 6 ≤ j) → F' j = F j) ∧ ∀ k5, l_X6_draw_35 k5 x2 x4 (nI n) ro1 lk1 sc1 (z, nI 0, F) = k5 (nxn z 6, x4 + nI 1, F', ro1, lk1, sc1) := by
  unfold l_X6_draw_35
  refine lp_toK (F := fun (k5 : TW6 → Option TW4) k (x : Int32 × Int32 × (Nat → Int32)) => b_X6_draw_35 k5 x2 x4 (nI n) ro1 lk1 sc1 k x.1 x.2.1 x.2.2) (fun t x => x.1 = nxn z t ∧ x.2.1 = nI t ∧ (∀ u, u < t → x.2.2 (6 * n + u) = drS z u) ∧ ∀ j, (j < 6 * n ∨ 6 * n + t ≤ j) → x.2.2 j = F j) (fun R => ∃ F' : Nat → Int32, (∀ u, u < 6 → F' (6 * n + u) = drS z u) ∧ (∀ j, (j < 6 * n ∨ 6 * n + 6 ≤ j) → F' j = F j) ∧ ∀ k5, R k5 = k5 (nxn z 6, x4 + nI 1, F', ro1, lk1, sc1)) 6 ?_ ?_ fu (z, nI 0, F) (by unfold fu; omega) ⟨rfl, rfl, fun u hu => absurd hu (Nat.not_lt_zero u), fun j _ => rfl⟩
  · rintro t ⟨x3, x6, f⟩ ht ⟨e1, e2, g1, g2⟩
    dsimp only at e1 e2 g1 g2
    subst e1 e2
    have htop := dtop_pos t
    have e108 : ∀ (k5 : Int32 × Int32 × (Nat → Int32) × (Nat → Int32) × (Nat → Int32) × Int32 → Option ((Nat → Int32) × (Nat → Int32) × (Nat → Int32) × Int32)) (k : Int32 × Int32 × (Nat → Int32) → Option ((Nat → Int32) × (Nat → Int32) × (Nat → Int32) × Int32)) (v : Int32), b_X6_draw_108 k5 k x2 (nxn z (t + 1)) x4 (nI n) (nI t) (nI n) (nI t) v f ro1 lk1 sc1 = k (nxn z (t + 1), nI (t + 1), upd f (6 * n + t) v) := by
      intro k5 k v
      unfold b_X6_draw_108
      simp only [lI, nI_add]
      rw [setFact_eq f v (by omega), Option.bind_some]
    have e77 : ∀ (k5 : Int32 × Int32 × (Nat → Int32) × (Nat → Int32) × (Nat → Int32) × Int32 → Option ((Nat → Int32) × (Nat → Int32) × (Nat → Int32) × Int32)) (k : Int32 × Int32 × (Nat → Int32) → Option ((Nat → Int32) × (Nat → Int32) × (Nat → Int32) × Int32)), b_X6_draw_77 k5 k x2 (nxn z (t + 1)) x4 (nI n) (nI t) (dr1 z t) f ro1 lk1 sc1 = k (nxn z (t + 1), nI (t + 1), upd f (6 * n + t) (drS z t)) := by
      intro k5 k
      unfold b_X6_draw_77
      simp only [lI]
      by_cases q : t = 4
      · subst q
        rw [if_pos rfl, fact_eq (w := 3) f (by omega), Option.bind_some, g1 3 (by decide), e108]
        rfl
      · rw [if_neg (by rw [nI_eq (by omega) (by decide)]; exact q), e108]
        unfold drS
        rw [if_neg q]
    refine Or.inl ⟨(nxn z (t + 1), nI (t + 1), upd f (6 * n + t) (drS z t)), ⟨rfl, rfl, fun u hu => ?_, fun j hj => ?_⟩, fun k5 k => ?_⟩
    · dsimp only
      by_cases q : u = t
      · rw [q, pk_us]
      · rw [pk_un (by omega)]; exact g1 u (by omega)
    · dsimp only
      rw [pk_un (by omega)]
      exact g2 j (by omega)
    · show b_X6_draw_35 k5 x2 x4 (nI n) ro1 lk1 sc1 k (nxn z t) (nI t) f = _
      have h35 : b_X6_draw_35 k5 x2 x4 (nI n) ro1 lk1 sc1 k (nxn z t) (nI t) f = b_X6_draw_77 k5 k x2 (nxn z (t + 1)) x4 (nI n) (nI t) (dr1 z t) f ro1 lk1 sc1 := by
        unfold b_X6_draw_35
        simp only [lI]
        rw [if_neg (nI_ge ht (by decide)), topOf1_eq ht, Option.bind_some, if_neg (by rw [nI_leI (by omega) (by decide)]; omega), gd_t (by rw [nI_eq (by omega) (by decide)]; omega)]
        rfl
      rw [h35, e77]
  · rintro ⟨x3, x6, f⟩ ⟨e1, e2, g1, g2⟩
    dsimp only at e1 e2 g1 g2
    subst e1 e2
    refine ⟨fun k5 => k5 (nxn z 6, x4 + nI 1, f, ro1, lk1, sc1), ⟨f, g1, g2, fun _ => rfl⟩, fun k5 k => ?_⟩
    show b_X6_draw_35 k5 x2 x4 (nI n) ro1 lk1 sc1 k (nxn z 6) (nI 6) f = _
    unfold b_X6_draw_35
    simp only [lI]
    rw [if_pos (nI_le (Nat.le_refl _) (by decide))]
theorem drawn_CW {F : ES} {f2 f3 r2 l2 : Nat → Int32} {y : Int32} (hB : GB F) (q : eN F < 16) (a2 : CW (eAdd F (six (nI 0) (nI 0) (nI 0) (nI 0) (nI 0) (nI 0))) f2 r2 l2 rules sizes rows (nI (eN F + 1)) metric fixed) (b1 : ∀ u, u < 6 → f3 (6 * eN F + u) = drS y u) (b2 : ∀ j, (j < 6 * eN F ∨ 6 * eN F + 6 ≤ j) → f3 j = f2 j) : CW (eAdd F (drF y)) f3 r2 l2 rules sizes rows (nI (eN F + 1)) metric fixed := by
  have k1 : metric = eM F := a2.2.1
  have k2 : fixed = eX F := a2.2.2.1
  have k5 : ∀ p, p < eN F + 1 → r2 p = rof (eL F) p := a2.2.2.2.2.1
  have k6 : ∀ p, p < eN F + 1 → l2 p = if p = eN F then nI 0 else eK F p := a2.2.2.2.2.2.1
  have k7 : ∀ r, r < 4 → ∀ w, w < 3 → rules (3 * r + w) = eR F r w := a2.2.2.2.2.2.2.1
  have k8 : ∀ r, r < 4 → sizes r = nI (eL F r).length ∧ Rep rows (16 * r) (eL F r) := a2.2.2.2.2.2.2.2
  refine ⟨rfl, k1, k2, ⟨fun p hp u hu => ?_, ?_, ?_⟩, k5, k6, k7, k8⟩
  · have hp' : p < eN F + 1 := hp
    show f3 (6 * p + u) = if p = eN F then drF y u else eF F p u
    by_cases q2 : p = eN F
    · rw [if_pos q2, q2, b1 u hu, drS_six y u hu]
    · have h1 : f2 (6 * p + u) = if p = eN F then six (nI 0) (nI 0) (nI 0) (nI 0) (nI 0) (nI 0) u else eF F p u := a2.2.2.2.1.1 p hp u hu
      rw [if_neg q2] at h1
      rw [if_neg q2, b2 _ (by omega), h1]
  · have h1 : f2 96 = if 16 = eN F then six (nI 0) (nI 0) (nI 0) (nI 0) (nI 0) (nI 0) 0 else eF F 16 0 := a2.2.2.2.1.2.1
    show f3 96 = if 16 = eN F then drF y 0 else eF F 16 0
    rw [if_neg (by omega)] at h1
    rw [if_neg (by omega), b2 _ (by omega), h1]
  · have h1 : f2 97 = if 16 = eN F then six (nI 0) (nI 0) (nI 0) (nI 0) (nI 0) (nI 0) 1 else eF F 16 1 := a2.2.2.2.1.2.2
    show f3 97 = if 16 = eN F then drF y 1 else eF F 16 1
    rw [if_neg (by omega)] at h1
    rw [if_neg (by omega), b2 _ (by omega), h1]
theorem drawC (hI : GI E) (h : CW E facts ro locked rules sizes rows sc metric fixed) (z : Int32) {n : Nat} (hn : n ≤ 8) : ∃ facts' ro' locked' sc', f_X6_draw facts ro locked sc z (nI n) = some (facts', ro', locked', sc') ∧ GI (drw n z E) ∧ CW (drw n z E) facts' ro' locked' rules sizes rows sc' metric fixed := by
  unfold f_X6_draw l_X6_draw_5
  simp only [lI]
  obtain ⟨⟨facts', ro', locked', sc'⟩, ⟨h1, h3⟩, h2⟩ := lp_inv (F := fun k (x : TW6) => b_X6_draw_5 (nI n) k x.1 x.2.1 x.2.2.1 x.2.2.2.1 x.2.2.2.2.1 x.2.2.2.2.2) (fun t x => x.2.1 = nI t ∧ ∃ F, DwI E n z t F x.1 ∧ CW F x.2.2.1 x.2.2.2.1 x.2.2.2.2.1 rules sizes rows x.2.2.2.2.2 metric fixed) (fun q : (Nat → Int32) × (Nat → Int32) × (Nat → Int32) × Int32 => GI (drw n z E) ∧ CW (drw n z E) q.1 q.2.1 q.2.2.1 rules sizes rows q.2.2.2 metric fixed) n (by
    rintro t ⟨y, x4, f1, r1, l1, c1⟩ ht ⟨e1, F, e2, e3⟩
    dsimp only at e1 e2 e3
    subst e1
    by_cases q : eN F < 16
    · obtain ⟨f2, r2, l2, a1, a2⟩ := addStopC e2.1.1 e3 q (nI 0) (nI 0) (nI 0) (nI 0) (nI 0) (nI 0)
      obtain ⟨f3, b1, b2, b3⟩ := draw35 q (nI n) (nI t) r2 l2 (nI (eN F + 1)) y f2
      have hC := drawn_CW e2.1.1 q a2 b1 b2
      refine Or.inl ⟨(nxn y 6, nI (t + 1), f3, r2, l2, nI (eN F + 1)), ⟨rfl, _, e2.step ht q, hC⟩, fun k => ?_⟩
      show b_X6_draw_5 (nI n) k y (nI t) f1 r1 l1 c1 = _
      unfold b_X6_draw_5
      simp only [lI]
      rw [if_neg (nI_ge ht (by omega)), if_neg (by rw [e3.1]; exact nI_ge q (by decide)), a1, Option.bind_some]
      dsimp only
      rw [b3, nI_add]
    · refine Or.inr ⟨(f1, r1, l1, c1), ?_, fun k => ?_⟩
      · rw [← e2.stop q]
        exact ⟨e2.1, e3⟩
      · show b_X6_draw_5 (nI n) k y (nI t) f1 r1 l1 c1 = _
        have := e2.1.1.1
        unfold b_X6_draw_5
        simp only [lI]
        rw [if_neg (nI_ge ht (by omega)), if_pos (by rw [e3.1]; exact nI_le (by omega) (by omega))]) (by
    rintro ⟨y, x4, f1, r1, l1, c1⟩ ⟨e1, F, e2, e3⟩
    dsimp only at e1 e2 e3
    subst e1
    refine ⟨(f1, r1, l1, c1), ?_, fun k => ?_⟩
    · rw [← e2.last]
      exact ⟨e2.1, e3⟩
    · show b_X6_draw_5 (nI n) k y (nI n) f1 r1 l1 c1 = _
      unfold b_X6_draw_5
      rw [if_pos (nI_le (Nat.le_refl _) (by omega))]) fu (z, nI 0, facts, ro, locked, sc) (by unfold fu; omega) ⟨rfl, E, DwI.zero hI n z, h⟩
  exact ⟨facts', ro', locked', sc', h2, h1, h3⟩
theorem CW.copy (hN : eN E ≤ 16) (h : CW E facts ro locked rules sizes rows sc metric fixed) {facts' ro' locked' rules' sizes' rows' : Nat → Int32} (h1 : ∀ i, i < 102 → facts' i = facts i) (h2 : ∀ i, i < 16 → ro' i = ro i) (h3 : ∀ i, i < eN E → locked' i = locked i) (h4 : ∀ i, i < 12 → rules' i = rules i) (h5 : ∀ i, i < 4 → sizes' i = sizes i) (h6 : ∀ i, i < 64 → rows' i = rows i) (hl : ∀ r, r < 4 → (eL E r).length ≤ 16) : CW E facts' ro' locked' rules' sizes' rows' sc metric fixed := by
  refine ⟨h.1, h.2.1, h.2.2.1, ⟨fun q hq u hu => ?_, ?_, ?_⟩, fun q hq => ?_, fun q hq => ?_, fun r hr w hw => ?_, fun r hr => ⟨?_, fun k hk => ?_⟩⟩
  · rw [h1 _ (by omega)]; exact h.2.2.2.1.1 q hq u hu
  · rw [h1 _ (by omega)]; exact h.2.2.2.1.2.1
  · rw [h1 _ (by omega)]; exact h.2.2.2.1.2.2
  · rw [h2 _ (by omega)]; exact h.2.2.2.2.1 q hq
  · rw [h3 _ hq]; exact h.2.2.2.2.2.1 q hq
  · rw [h4 _ (by omega)]; exact h.2.2.2.2.2.2.1 r hr w hw
  · rw [h5 _ hr]; exact (h.2.2.2.2.2.2.2 r hr).1
  · have := hl r hr
    rw [h6 _ (by omega)]; exact (h.2.2.2.2.2.2.2 r hr).2 k hk
theorem MW.copy (hN : eN E ≤ 16) (hl : ∀ r, r < 4 → (eL E r).length ≤ 16) (h : MW E s) {s' : Nat → Int32} (h1 : ∀ i, i < 258 → s' i = s i) : MW E s' := by
  refine ⟨by rw [h1 _ (by omega)]; exact h.1, by rw [h1 _ (by omega)]; exact h.2.1, by rw [h1 _ (by omega)]; exact h.2.2.1, ⟨fun q hq u hu => by rw [h1 _ (by omega)]; exact h.2.2.2.1.1 q hq u hu, by rw [h1 _ (by omega)]; exact h.2.2.2.1.2.1, by rw [h1 _ (by omega)]; exact h.2.2.2.1.2.2⟩, fun q hq => by rw [h1 _ (by omega)]; exact h.2.2.2.2.1 q hq, fun r hr w hw => by rw [h1 _ (by omega)]; exact h.2.2.2.2.2.1 r hr w hw, fun r hr => ⟨?_, fun k hk => ?_⟩⟩
  · rw [h1 _ (by omega)]; exact (h.2.2.2.2.2.2 r hr).1
  · have := hl r hr
    rw [h1 _ (by omega)]; exact (h.2.2.2.2.2.2 r hr).2 k hk
/-- a world copied: its numbers, and its three rows of pairs -/
theorem copyFromC (hB : GB E) (h : CW E facts ro locked rules sizes rows sc metric fixed) (f0 r0 l0 u0 z0 w0 sl0 sr0 pl0 pr0 bl0 br0 sl sr pl pr bl br : Nat → Int32) (ss ps bs : Int32) : ∃ facts' ro' locked' rules' sizes' rows' sl' sr' pl' pr' bl' br', f_X6_copyFrom f0 r0 l0 u0 z0 w0 sl0 sr0 pl0 pr0 bl0 br0 facts ro locked rules sizes rows sl sr ss pl pr ps bl br bs sc metric fixed = some (facts', ro', locked', rules', sizes', rows', sl', sr', ss, pl', pr', ps, bl', br', bs, sc, metric, fixed) ∧ CW E facts' ro' locked' rules' sizes' rows' sc metric fixed ∧ (∀ i, i < 8 → sl' i = sl i ∧ sr' i = sr i) ∧ (∀ i, i < 8 → pl' i = pl i ∧ pr' i = pr i) ∧ (∀ i, i < 8 → bl' i = bl i ∧ br' i = br i) := by
  have hN := hB.1
  obtain ⟨facts', a1, b1⟩ := copyRow_eq (n := 102) (by decide) facts f0
  obtain ⟨ro', a2, b2⟩ := copyRow_eq (n := 16) (by decide) ro r0
  obtain ⟨rules', a3, b3⟩ := copyRow_eq (n := 12) (by decide) rules u0
  obtain ⟨sizes', a4, b4⟩ := copyRow_eq (n := 4) (by decide) sizes z0
  obtain ⟨rows', a5, b5⟩ := copyRow_eq (n := 64) (by decide) rows w0
  obtain ⟨sl', a6, b6⟩ := copyRow_eq (n := 8) (by decide) sl sl0
  obtain ⟨sr', a7, b7⟩ := copyRow_eq (n := 8) (by decide) sr sr0
  obtain ⟨pl', a8, b8⟩ := copyRow_eq (n := 8) (by decide) pl pl0
  obtain ⟨pr', a9, b9⟩ := copyRow_eq (n := 8) (by decide) pr pr0
  obtain ⟨bl', a10, b10⟩ := copyRow_eq (n := 8) (by decide) bl bl0
  obtain ⟨br', a11, b11⟩ := copyRow_eq (n := 8) (by decide) br br0
  have hp : ∀ (x y u v u' v' : Nat → Int32) (n : Int32), f_X7_copyRow 8 8 u x = some u' → f_X7_copyRow 8 8 v y = some v' → f_X3_copyFrom x y u v n = some (u', v', n) := by
    intro x y u v u' v' n h1 h2
    unfold f_X3_copyFrom
    rw [h1, Option.bind_some, h2, Option.bind_some]
  unfold f_X6_copyFrom l_X6_copyFrom_57
  simp only [lI]
  rw [a1, Option.bind_some, a2, Option.bind_some, a3, Option.bind_some, a4, Option.bind_some, a5, Option.bind_some]
  obtain ⟨q, ⟨locked', h1, rfl⟩, h2⟩ := lp_inv (F := fun k (x : Int32 × (Nat → Int32)) => b_X6_copyFrom_57 facts' ro' rules' sizes' rows' sl0 sr0 pl0 pr0 bl0 br0 locked sl sr ss pl pr ps bl br bs sc metric fixed k x.1 x.2) (fun t x => x.1 = nI t ∧ ∀ i, i < t → x.2 i = vp_nar .boolean (locked i)) (fun q => ∃ locked' : Nat → Int32, (∀ i, i < 16 → locked' i = vp_nar .boolean (locked i)) ∧ q = (facts', ro', locked', rules', sizes', rows', sl', sr', ss, pl', pr', ps, bl', br', bs, sc, metric, fixed)) 16 (by
    rintro t ⟨x1, f⟩ ht ⟨e1, g1⟩
    dsimp only at e1 g1
    subst e1
    refine Or.inl ⟨(nI (t + 1), upd f t (vp_nar .boolean (locked t))), ⟨rfl, fun i hi => ?_⟩, fun z => ?_⟩
    · dsimp only
      by_cases q : i = t
      · rw [q, pk_us]
      · rw [pk_un q]; exact g1 i (by omega)
    · show b_X6_copyFrom_57 facts' ro' rules' sizes' rows' sl0 sr0 pl0 pr0 bl0 br0 locked sl sr ss pl pr ps bl br bs sc metric fixed z (nI t) f = _
      unfold b_X6_copyFrom_57
      simp only [lI, nI_add]
      rw [if_neg (nI_ge ht (by decide)), gI_n ht (by decide), nI_clamp (by omega)]) (by
    rintro ⟨x1, f⟩ ⟨e1, g1⟩
    dsimp only at e1 g1
    subst e1
    refine ⟨_, ⟨f, g1, rfl⟩, fun z => ?_⟩
    show b_X6_copyFrom_57 facts' ro' rules' sizes' rows' sl0 sr0 pl0 pr0 bl0 br0 locked sl sr ss pl pr ps bl br bs sc metric fixed z (nI 16) f = _
    unfold b_X6_copyFrom_57
    simp only [lI]
    rw [if_pos (nI_le (Nat.le_refl _) (by decide)), hp _ _ _ _ _ _ _ a6 a7, Option.bind_some, hp _ _ _ _ _ _ _ a8 a9, Option.bind_some, hp _ _ _ _ _ _ _ a10 a11, Option.bind_some]) fu (nI 0, l0) (by unfold fu; omega) ⟨rfl, fun i hi => absurd hi (Nat.not_lt_zero i)⟩
  refine ⟨facts', ro', locked', rules', sizes', rows', sl', sr', pl', pr', bl', br', h2, CW.copy hN h b1 b2 (fun i hi => ?_) b3 b4 b5 (fun r hr => hB.len hr), fun i hi => ⟨b6 i hi, b7 i hi⟩, fun i hi => ⟨b8 i hi, b9 i hi⟩, fun i hi => ⟨b10 i hi, b11 i hi⟩⟩
  rw [h1 i (by omega), nar_b]
  rw [h.2.2.2.2.2.1 i hi]
  exact kk hB hi
end DRAW
