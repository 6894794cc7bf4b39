/-! B36: told, far, due, in both -/
theorem sm_loop {g : Nat → Int32} (t : Nat) : sm g (t + 1) = sm g t + g t := rfl
section TOLD
variable {E : ES} {facts ro locked rules sizes rows s : Nat → Int32} {sc metric fixed : Int32}
theorem lockedC (hB : GB E) (h : CW E facts ro locked rules sizes rows sc metric fixed) : f_X6_lockedCount locked sc = some (sm (eK E) (eN E)) := by
  have hN := hB.1
  unfold f_X6_lockedCount l_X6_lockedCount_4
  simp only [lI]
  refine lp_eq (F := fun k (x : Int32 × Int32) => b_X6_lockedCount_4 locked sc k x.1 x.2) (fun t x => x.1 = sm (eK E) t ∧ x.2 = nI t) _ (eN E) ?_ ?_ fu _ (by unfold fu; omega) ⟨rfl, rfl⟩
  · rintro t ⟨x1, x2⟩ ht ⟨e1, e2⟩
    dsimp only at e1 e2
    subst e1 e2
    refine Or.inl ⟨(sm (eK E) (t + 1), nI (t + 1)), ⟨rfl, rfl⟩, fun z => ?_⟩
    show b_X6_lockedCount_4 locked sc z _ (nI t) = _
    unfold b_X6_lockedCount_4
    simp only [lI, nI_add]
    rw [h.1, if_neg (nI_ge ht (by omega)), lockC hB h ht, Option.bind_some, sm_loop]
    rcases kk hB ht with q | q
    · rw [q, if_pos rfl]
    · rw [q, if_neg h10_]
  · rintro ⟨x1, x2⟩ ⟨e1, e2⟩ z
    dsimp only at e1 e2
    subst e1 e2
    show b_X6_lockedCount_4 locked sc z _ (nI (eN E)) = _
    unfold b_X6_lockedCount_4
    rw [h.1, if_pos (nI_le (Nat.le_refl _) (by omega))]
/-- how long all wait -/
def eW (E : ES) : Int32 := sm (fun r => eWt E r) 4
theorem waitsC (hI : GI E) (h : CW E facts ro locked rules sizes rows sc metric fixed) (y1 y2 y3 : Nat → Int32) (y4 y5 y6 y7 y8 y9 y10 : Int32) : ∃ (z1 z2 z3 : Nat → Int32) (z4 z5 z6 z7 z8 z9 z10 : Int32), f_X7_waitsOfAll facts rules sizes rows metric y1 y2 y3 y4 y5 y6 y7 y8 y9 y10 = some (eW E, z1, z2, z3, z4, z5, z6, z7, z8, z9, z10) := by
  unfold f_X7_waitsOfAll l_X7_waitsOfAll_4
  simp only [lI]
  obtain ⟨⟨v, z1, z2, z3, z4, z5, z6, z7, z8, z9, z10⟩, h1, h2⟩ := lp_inv (F := fun k (x : Int32 × Int32 × TD10) => b_X7_waitsOfAll_4 facts rules sizes rows metric k x.1 x.2.1 x.2.2.1 x.2.2.2.1 x.2.2.2.2.1 x.2.2.2.2.2.1 x.2.2.2.2.2.2.1 x.2.2.2.2.2.2.2.1 x.2.2.2.2.2.2.2.2.1 x.2.2.2.2.2.2.2.2.2.1 x.2.2.2.2.2.2.2.2.2.2.1 x.2.2.2.2.2.2.2.2.2.2.2) (fun t x => x.1 = sm (fun r => eWt E r) t ∧ x.2.1 = nI t) (fun q : Int32 × TD10 => q.1 = eW E) 4 (by
    rintro t ⟨x1, x2, y1, y2, y3, y4, y5, y6, y7, y8, y9, y10⟩ ht ⟨e1, e2⟩
    dsimp only at e1 e2
    subst e1 e2
    obtain ⟨row1, cs1, bs1, sl1, bk1, lo1, mi1, wa1, la1, lt1, c1, c2, -, -, -, -, -, -, c9, -, -⟩ := seeC hI h ht y1 y2 y3 y3 y4
    refine Or.inl ⟨(sm (fun r => eWt E r) (t + 1), nI (t + 1), row1, cs1, bs1, nI t, nI (eL E t).length, bk1, lo1, mi1, wa1, la1), ⟨rfl, rfl⟩, fun z => ?_⟩
    show b_X7_waitsOfAll_4 facts rules sizes rows metric z _ (nI t) y1 y2 y3 y4 y5 y6 y7 y8 y9 y10 = _
    unfold b_X7_waitsOfAll_4
    simp only [lI, nI_add]
    rw [if_neg (nI_ge ht (by decide)), c1, Option.bind_some]
    dsimp only
    rw [c2, Option.bind_some]
    dsimp only
    rw [sm_loop, c9]) (by
    rintro ⟨x1, x2, y1, y2, y3, y4, y5, y6, y7, y8, y9, y10⟩ ⟨e1, e2⟩
    dsimp only at e1 e2
    subst e1 e2
    refine ⟨(eW E, y1, y2, y3, y4, y5, y6, y7, y8, y9, y10), rfl, fun z => ?_⟩
    show b_X7_waitsOfAll_4 facts rules sizes rows metric z _ (nI 4) y1 y2 y3 y4 y5 y6 y7 y8 y9 y10 = _
    unfold b_X7_waitsOfAll_4 eW
    simp only [lI]
    rw [if_pos (nI_le (Nat.le_refl _) (by decide))]) fu (nI 0, nI 0, y1, y2, y3, y4, y5, y6, y7, y8, y9, y10) (by unfold fu; omega) ⟨rfl, rfl⟩
  dsimp only at h1
  subst h1
  exact ⟨z1, z2, z3, z4, z5, z6, z7, z8, z9, z10, h2⟩
theorem waitsM (hB : GB E) (hM : MW E s) (cs bs : Nat → Int32) (b w l : Int32) : ∃ z, f_X8_allWaits s cs bs b w l = some (eW E, z) := by
  unfold f_X8_allWaits l_X8_allWaits_4
  simp only [lI]
  obtain ⟨⟨v, z⟩, h1, h2⟩ := lp_inv (F := fun k (x : Int32 × Int32 × (Nat → Int32) × (Nat → Int32) × Int32 × Int32 × Int32) => b_X8_allWaits_4 s k x.1 x.2.1 x.2.2.1 x.2.2.2.1 x.2.2.2.2.1 x.2.2.2.2.2.1 x.2.2.2.2.2.2) (fun t x => x.1 = sm (fun r => eWt E r) t ∧ x.2.1 = nI t) (fun q : Int32 × (Nat → Int32) × (Nat → Int32) × Int32 × Int32 × Int32 => q.1 = eW E) 4 (by
    rintro t ⟨x1, x2, cs, bs, b, w, l⟩ ht ⟨e1, e2⟩
    dsimp only at e1 e2
    subst e1 e2
    obtain ⟨v2, cs3, bs3, back, wa, lo, g1, -, -, g4, -, -⟩ := lateM hB hM ht cs bs (nI 0)
    refine Or.inl ⟨(sm (fun r => eWt E r) (t + 1), nI (t + 1), cs3, bs3, back, wa, lo), ⟨rfl, rfl⟩, fun z => ?_⟩
    show b_X8_allWaits_4 s z _ (nI t) cs bs b w l = _
    unfold b_X8_allWaits_4
    simp only [lI, nI_add]
    rw [if_neg (nI_ge ht (by decide)), g1, Option.bind_some]
    dsimp only
    rw [sm_loop, g4]) (by
    rintro ⟨x1, x2, cs, bs, b, w, l⟩ ⟨e1, e2⟩
    dsimp only at e1 e2
    subst e1 e2
    refine ⟨(eW E, cs, bs, b, w, l), rfl, fun z => ?_⟩
    show b_X8_allWaits_4 s z _ (nI 4) cs bs b w l = _
    unfold b_X8_allWaits_4 eW
    simp only [lI]
    rw [if_pos (nI_le (Nat.le_refl _) (by decide))]) fu (nI 0, nI 0, cs, bs, b, w, l) (by unfold fu; omega) ⟨rfl, rfl⟩
  dsimp only at h1
  subst h1
  exact ⟨z, h2⟩
theorem told47 (hB : GB E) (hM : MW E s) (cs bs : Nat → Int32) (b w l : Int32) : l_X8_told_47 s cs bs b w l (nI 0, nI 0) = some (sm (fun r => ml (eD E) (eL E r)) 4, cs, bs, b, w, l) := by
  unfold l_X8_told_47
  refine lp_eq (F := fun k (x : Int32 × Int32) => b_X8_told_47 s cs bs b w l k x.1 x.2) (fun t x => x.1 = sm (fun r => ml (eD E) (eL E r)) t ∧ x.2 = nI t) _ 4 ?_ ?_ fu _ (by unfold fu; omega) ⟨rfl, rfl⟩
  · rintro t ⟨x1, x2⟩ ht ⟨e1, e2⟩
    dsimp only at e1 e2
    subst e1 e2
    refine Or.inl ⟨(sm (fun r => ml (eD E) (eL E r)) (t + 1), nI (t + 1)), ⟨rfl, rfl⟩, fun z => ?_⟩
    show b_X8_told_47 s cs bs b w l z _ (nI t) = _
    unfold b_X8_told_47
    simp only [lI, nI_add]
    rw [if_neg (nI_ge ht (by decide)), milesM hB hM ht, Option.bind_some, sm_loop]
  · rintro ⟨x1, x2⟩ ⟨e1, e2⟩ z
    dsimp only at e1 e2
    subst e1 e2
    show b_X8_told_47 s cs bs b w l z _ (nI 4) = _
    unfold b_X8_told_47
    simp only [lI]
    rw [if_pos (nI_le (Nat.le_refl _) (by decide))]
theorem told75 (hB : GB E) (hM : MW E s) (cs bs : Nat → Int32) (b w l : Int32) : l_X8_told_75 s cs bs b w l (nI 0, nI 0) = some (sm (eK E) (eN E), cs, bs, b, w, l) := by
  have hN := hB.1
  have e4 : (nI 4).toNatClampNeg = 4 := nI_clamp (by decide)
  unfold l_X8_told_75
  refine lp_eq (F := fun k (x : Int32 × Int32) => b_X8_told_75 s cs bs b w l k x.1 x.2) (fun t x => x.1 = sm (eK E) t ∧ x.2 = nI t) _ (eN E) ?_ ?_ fu _ (by unfold fu; omega) ⟨rfl, rfl⟩
  · rintro t ⟨x1, x2⟩ ht ⟨e1, e2⟩
    dsimp only at e1 e2
    subst e1 e2
    refine Or.inl ⟨(sm (eK E) (t + 1), nI (t + 1)), ⟨rfl, rfl⟩, fun z => ?_⟩
    show b_X8_told_75 s cs bs b w l z _ (nI t) = _
    unfold b_X8_told_75
    simp only [lI, nI_add]
    rw [e4, hM.1, if_neg (nI_ge ht (by omega)), lockM hB hM ht, Option.bind_some, sm_loop]
  · rintro ⟨x1, x2⟩ ⟨e1, e2⟩ z
    dsimp only at e1 e2
    subst e1 e2
    show b_X8_told_75 s cs bs b w l z _ (nI (eN E)) = _
    unfold b_X8_told_75
    simp only [lI]
    rw [e4, hM.1, if_pos (nI_le (Nat.le_refl _) (by omega))]
theorem told105 (hB : GB E) (hM : MW E s) (cs bs : Nat → Int32) (b w l : Int32) : l_X8_told_105 s cs bs b w l (nI 0, nI 0) = some (sm (fun r => used (eL E r)) 4, cs, bs, b, w, l) := by
  unfold l_X8_told_105
  refine lp_eq (F := fun k (x : Int32 × Int32) => b_X8_told_105 s cs bs b w l k x.1 x.2) (fun t x => x.1 = sm (fun r => used (eL E r)) t ∧ x.2 = nI t) _ 4 ?_ ?_ fu _ (by unfold fu; omega) ⟨rfl, rfl⟩
  · rintro t ⟨x1, x2⟩ ht ⟨e1, e2⟩
    dsimp only at e1 e2
    subst e1 e2
    have hl := hB.len ht
    refine Or.inl ⟨(sm (fun r => used (eL E r)) (t + 1), nI (t + 1)), ⟨rfl, rfl⟩, fun z => ?_⟩
    show b_X8_told_105 s cs bs b w l z _ (nI t) = _
    unfold b_X8_told_105
    simp only [lI, nI_add]
    rw [if_neg (nI_ge ht (by decide)), sizeM hM ht, Option.bind_some, sm_loop]
    show _ = z (_ + used (eL E t), _)
    unfold used
    by_cases h0 : (eL E t).length = 0
    · rw [h0, if_pos (Int32.le_refl _), if_pos rfl]
      rfl
    · rw [if_neg (by rw [nI_leI (by omega) (by decide)]; omega), if_neg h0]
      rfl
  · rintro ⟨x1, x2⟩ ⟨e1, e2⟩ z
    dsimp only at e1 e2
    subst e1 e2
    show b_X8_told_105 s cs bs b w l z _ (nI 4) = _
    unfold b_X8_told_105
    simp only [lI]
    rw [if_pos (nI_le (Nat.le_refl _) (by decide))]
theorem told_both (hI : GI E) (h : CW E facts ro locked rules sizes rows sc metric fixed) (hM : MW E s) (y1 y2 y3 : Nat → Int32) (y4 y5 y6 y7 y8 y9 y10 : Int32) (cs bs : Nat → Int32) (b w l : Int32) (x1 : Int32) : ∃ v z z', f_X7_told facts ro locked rules sizes rows sc metric fixed y1 y2 y3 y4 y5 y6 y7 y8 y9 y10 x1 = some (v, z) ∧ f_X8_told s cs bs b w l x1 = some (v, z') := by
  have hB := hI.1
  unfold f_X7_told f_X8_told
  simp only [lI]
  by_cases q0 : x1 = nI 0
  · rw [if_pos q0, if_pos q0, (costC_eq hB h).2.2, costM hB hM, Option.bind_some, Option.bind_some]
    exact ⟨_, _, _, rfl, rfl⟩
  rw [if_neg q0, if_neg q0]
  by_cases q1 : x1 = nI 1
  · rw [if_pos q1, if_pos q1, (costC_eq hB h).1, told47 hB hM, Option.bind_some]
    exact ⟨_, _, _, rfl, rfl⟩
  rw [if_neg q1, if_neg q1]
  by_cases q2 : x1 = nI 2
  · rw [if_pos q2, if_pos q2, h.1, looseC_eq hB.1 h.2.2.2.2.1, looseM_eq hB hM, Option.bind_some, Option.bind_some]
    exact ⟨_, _, _, rfl, rfl⟩
  rw [if_neg q2, if_neg q2]
  by_cases q3 : x1 = nI 3
  · rw [if_pos q3, if_pos q3, lockedC hB h, told75 hB hM, Option.bind_some]
    exact ⟨_, _, _, rfl, rfl⟩
  rw [if_neg q3, if_neg q3]
  by_cases q4 : x1 = nI 4
  · rw [if_pos q4, if_pos q4, (costC_eq hB h).2.1, told105 hB hM, Option.bind_some]
    exact ⟨_, _, _, rfl, rfl⟩
  rw [if_neg q4, if_neg q4]
  by_cases q5 : x1 = nI 5
  · obtain ⟨z1, z2, z3, z4, z5, z6, z7, z8, z9, z10, w1⟩ := waitsC hI h y1 y2 y3 y4 y5 y6 y7 y8 y9 y10
    obtain ⟨z, w2⟩ := waitsM hB hM cs bs b w l
    rw [if_pos q5, if_pos q5, w1, w2, Option.bind_some, Option.bind_some]
    exact ⟨_, _, _, rfl, rfl⟩
  rw [if_neg q5, if_neg q5]
  exact ⟨_, _, _, rfl, rfl⟩
def top6 (w : Nat) : Nat := match w with
  | 0 => 63
  | 1 => 63
  | 2 => 20
  | 3 => 999
  | 4 => 999
  | _ => 30
theorem top6_le (w : Nat) : top6 w ≤ 999 := by
  unfold top6
  split <;> decide
theorem topOf_eq {w : Nat} (h : w < 6) : f_X7_topOf 0 (nI w) = some (nI (top6 w)) := by
  rcases (show w = 0 ∨ w = 1 ∨ w = 2 ∨ w = 3 ∨ w = 4 ∨ w = 5 by omega) with rfl | rfl | rfl | rfl | rfl | rfl <;> decide
theorem isTold_eq {w : Nat} (h : w < 6) (x : Int32) : f_X8_isTold (nI w) x = f_X8_isIn x (nI 0) (nI (top6 w)) := by
  have key : ∀ N : Nat, N < 2 ^ 31 → b_X8_isTold_35 x (nI 0) (nI N) = f_X8_isIn x (nI 0) (nI N) := by
    intro N hN
    unfold b_X8_isTold_35
    rcases isIn_eq x N hN with ⟨p, hp, e, h⟩ | ⟨-, h⟩
    · rw [h, Option.bind_some]
      rfl
    · rw [h, Option.bind_some]
      rfl
  unfold f_X8_isTold
  simp only [lI]
  rcases (show w = 0 ∨ w = 1 ∨ w = 2 ∨ w = 3 ∨ w = 4 ∨ w = 5 by omega) with rfl | rfl | rfl | rfl | rfl | rfl
  · rw [if_neg (by decide)]; exact key _ (by decide)
  · rw [if_neg (by decide)]; exact key _ (by decide)
  · rw [if_pos (by decide), if_pos rfl]; exact key _ (by decide)
  · rw [if_pos (by decide), if_neg (by decide), if_neg (by decide)]; exact key _ (by decide)
  · rw [if_pos (by decide), if_neg (by decide), if_neg (by decide)]; exact key _ (by decide)
  · rw [if_pos (by decide), if_neg (by decide), if_pos rfl]; exact key _ (by decide)
theorem far_both (hB : GB E) (h : CW E facts ro locked rules sizes rows sc metric fixed) (hM : MW E s) (x1 x2 x3 x4 : Int32) : ∃ v, f_X7_far metric x1 x2 x3 x4 = some v ∧ f_X8_far s x1 x2 x3 x4 = some v := by
  unfold f_X7_far f_X8_far
  simp only [lI]
  rw [isTold_eq (show 0 < 6 by decide), isTold_eq (show 1 < 6 by decide), isTold_eq (show 0 < 6 by decide), isTold_eq (show 1 < 6 by decide)]
  simp only [isUpTo_isIn]
  show ∃ v, _ ∧ ((f_X8_isIn x1 (nI 0) (nI 63)).bind fun r1 => if r1 = nI 0 then some (-nI 2) else (f_X8_isIn x2 (nI 0) (nI 63)).bind fun r3 => if r3 = nI 0 then some (-nI 2) else (f_X8_isIn x3 (nI 0) (nI 63)).bind fun r5 => if r5 = nI 0 then some (-nI 2) else (f_X8_isIn x4 (nI 0) (nI 63)).bind fun r7 => if r7 = nI 0 then some (-nI 2) else (f_X8_apart s x1 x2 x3 x4).bind fun r9 => some r9) = some v
  rcases isIn_eq x1 63 (by decide) with ⟨a, ha, rfl, e1⟩ | ⟨-, e1⟩
  · rw [e1, Option.bind_some, Option.bind_some, if_neg h10_, if_neg h10_]
    rcases isIn_eq x2 63 (by decide) with ⟨b, hb, rfl, e2⟩ | ⟨-, e2⟩
    · rw [e2, Option.bind_some, Option.bind_some, if_neg h10_, if_neg h10_]
      rcases isIn_eq x3 63 (by decide) with ⟨c, hc, rfl, e3⟩ | ⟨-, e3⟩
      · rw [e3, Option.bind_some, Option.bind_some, if_neg h10_, if_neg h10_]
        rcases isIn_eq x4 63 (by decide) with ⟨d, hd, rfl, e4⟩ | ⟨-, e4⟩
        · rw [e4, Option.bind_some, Option.bind_some, if_neg h10_, if_neg h10_, apart_eq, h.2.1, apartM_eq s hM.2.1 hB.2.1 ha hb hc hd]
          exact ⟨_, rfl, rfl⟩
        · rw [e4]
          exact ⟨_, rfl, rfl⟩
      · rw [e3]
        exact ⟨_, rfl, rfl⟩
    · rw [e2]
      exact ⟨_, rfl, rfl⟩
  · rw [e1]
    exact ⟨_, rfl, rfl⟩
/-- whether one is due ahead of another, as a number -/
def dA (E : ES) (p q : Nat) : Int32 := if eF E q 4 = eF E p 4 then (if eF E q 3 = eF E p 3 then (if q < p then nI 1 else nI 0) else if eF E q 3 < eF E p 3 then nI 1 else nI 0) else if eF E q 4 < eF E p 4 then nI 1 else nI 0
theorem sub_z {a b : Nat} (ha : a < 2 ^ 30) (hb : b < 2 ^ 30) : (nI a - nI b = nI 0 ↔ nI a = nI b) ∧ (nI 0 ≤ nI a - nI b ↔ ¬ nI a < nI b) := by
  constructor
  · rw [nI_eq (by omega) (by omega)]
    constructor
    · intro h
      have := congrArg Int32.toInt h
      rw [pk_sub_toInt (by omega) (by omega)] at this
      have h0 : (nI 0).toInt = 0 := by decide
      rw [h0] at this
      omega
    · rintro rfl
      rw [Int32.sub_self]
      rfl
  · rw [Int32.le_iff_toInt_le, pk_sub_toInt (by omega) (by omega), Int32.lt_iff_toInt_lt, nI_toInt (show a < 2 ^ 31 by omega), nI_toInt (show b < 2 ^ 31 by omega)]
    have h0 : (nI 0).toInt = 0 := by decide
    rw [h0]
    omega
theorem dueC (hB : GB E) (h : CW E facts ro locked rules sizes rows sc metric fixed) {p : Nat} (hp : p < eN E) : f_X6_dueAhead facts sc (nI p) = some (sm (dA E p) (eN E)) := by
  have hN := hB.1
  unfold f_X6_dueAhead l_X6_dueAhead_4
  simp only [lI]
  refine lp_eq (F := fun k (x : Int32 × Int32) => b_X6_dueAhead_4 (nI p) facts sc k x.1 x.2) (fun t x => x.1 = sm (dA E p) t ∧ x.2 = nI t) _ (eN E) ?_ ?_ fu _ (by unfold fu; omega) ⟨rfl, rfl⟩
  · rintro t ⟨x1, x2⟩ ht ⟨e1, e2⟩
    dsimp only at e1 e2
    subst e1 e2
    refine Or.inl ⟨(sm (dA E p) (t + 1), nI (t + 1)), ⟨rfl, rfl⟩, fun z => ?_⟩
    obtain ⟨a, ha, ea⟩ := hB.2.2.2.2.1 t ht 4 (by decide)
    obtain ⟨b, hb, eb⟩ := hB.2.2.2.2.1 p hp 4 (by decide)
    obtain ⟨c, hc, ec⟩ := hB.2.2.2.2.1 t ht 3 (by decide)
    obtain ⟨d, hd, ed⟩ := hB.2.2.2.2.1 p hp 3 (by decide)
    have e57 : ∀ x4 y : Int32, (nI 0 ≤ x4 → y = nI 0) → (¬ nI 0 ≤ x4 → y = nI 1) → b_X6_dueAhead_57 z (nI p) (sm (dA E p) t) (nI t) x4 facts sc = z (sm (dA E p) t + y, nI (t + 1)) := by
      intro x4 y h0 h1
      unfold b_X6_dueAhead_57
      simp only [lI, nI_add]
      by_cases q : nI 0 ≤ x4
      · rw [if_pos q, h0 q]
      · rw [if_neg q, h1 q]
    have e47 : ∀ u v : Nat, u < 2 ^ 30 → v < 2 ^ 30 → b_X6_dueAhead_47 z (nI p) (sm (dA E p) t) (nI t) (nI u - nI v) facts sc = z (sm (dA E p) t + (if nI u = nI v then (if t < p then nI 1 else nI 0) else if nI u < nI v then nI 1 else nI 0), nI (t + 1)) := by
      intro u v hu hv
      unfold b_X6_dueAhead_47
      simp only [lI]
      by_cases q : nI u = nI v
      · rw [if_pos ((sub_z hu hv).1.mpr q), if_pos q]
        refine e57 _ _ (fun z => ?_) (fun z => ?_)
        · rw [(sub_z (by omega) (by omega)).2] at z
          rw [if_neg (fun w => z (nI_lt w (by omega)))]
        · rw [(sub_z (by omega) (by omega)).2] at z
          rw [if_pos]
          rcases Nat.lt_or_ge t p with w | w
          · exact w
          · exact absurd (nI_nlt w (by omega)) z
      · rw [if_neg (fun w => q ((sub_z hu hv).1.mp w)), if_neg q]
        refine e57 _ _ (fun z => ?_) (fun z => ?_)
        · rw [(sub_z hu hv).2] at z
          rw [if_neg z]
        · rw [(sub_z hu hv).2] at z
          rw [if_pos (Decidable.not_not.mp z)]
    show b_X6_dueAhead_4 (nI p) facts sc z _ (nI t) = _
    unfold b_X6_dueAhead_4
    simp only [lI]
    rw [h.1, if_neg (nI_ge ht (by omega)), fc_eq h.2.2.2.1 hN ht (by decide), Option.bind_some, fc_eq h.2.2.2.1 hN hp (by decide), Option.bind_some, fc_eq h.2.2.2.1 hN ht (by decide), Option.bind_some, fc_eq h.2.2.2.1 hN hp (by decide), Option.bind_some, ← h.1, sm_loop]
    show _ = z (_ + dA E p t, _)
    have edA : dA E p t = if nI a = nI b then (if nI c = nI d then (if t < p then nI 1 else nI 0) else if nI c < nI d then nI 1 else nI 0) else if nI a < nI b then nI 1 else nI 0 := by
      unfold dA
      rw [ea, eb, ec, ed]
    rw [edA, ea, eb, ec, ed]
    by_cases q : nI a = nI b
    · rw [if_pos ((sub_z (by omega) (by omega)).1.mpr q), if_pos q]
      exact e47 c d (by omega) (by omega)
    · rw [if_neg (fun w => q ((sub_z (by omega) (by omega)).1.mp w)), if_neg q]
      have := e47 a b (by omega) (by omega)
      rw [if_neg q] at this
      exact this
  · rintro ⟨x1, x2⟩ ⟨e1, e2⟩ z
    dsimp only at e1 e2
    subst e1 e2
    show b_X6_dueAhead_4 (nI p) facts sc z _ (nI (eN E)) = _
    unfold b_X6_dueAhead_4
    rw [h.1, if_pos (nI_le (Nat.le_refl _) (by omega))]
theorem isDueM (hB : GB E) (hM : MW E s) {p q : Nat} (hp : p < eN E) (hq : q < eN E) : f_X8_isDueAhead s (nI q) (nI p) = some (dA E p q) := by
  have hN := hB.1
  have rd : ∀ x, x < eN E → ∀ w, w < 6 → f_X8_stopAt s (nI x) (nI w) = some (eF E x w) := fun x hx w hw => by rw [stopAt_eq s (by omega), hM.2.2.2.1.1 x hx w hw]
  unfold f_X8_isDueAhead l_X8_isDueAhead_2
  simp only [lI]
  have step : ∀ (z : Int32 → Option Int32) (w : Nat), 3 ≤ w → w < 6 → b_X8_isDueAhead_2 (nI q) (nI p) s z (nI w) = if eF E q w = eF E p w then z (nI (w - 1)) else some (if eF E q w < eF E p w then nI 1 else nI 0) := by
    intro z w h3 h6
    unfold b_X8_isDueAhead_2
    simp only [lI]
    rw [if_neg (nI_nlt h3 (by omega)), rd q hq w h6, Option.bind_some, rd p hp w h6, Option.bind_some, nI_m1 (by omega), Option.bind_some, Option.bind_some]
    by_cases e : eF E q w = eF E p w
    · rw [if_pos e, if_pos e]
    · rw [if_neg e, if_neg e]
      by_cases e2 : eF E p w ≤ eF E q w
      · rw [if_pos e2, if_neg (Int32.not_lt.mpr e2)]
      · rw [if_neg e2, if_pos (Int32.not_le.mp e2)]
  have last : ∀ z : Int32 → Option Int32, b_X8_isDueAhead_2 (nI q) (nI p) s z (nI 2) = some (if q < p then nI 1 else nI 0) := by
    intro z
    unfold b_X8_isDueAhead_2
    simp only [lI]
    rw [if_pos (by decide)]
    by_cases e : q < p
    · rw [if_neg (nI_ge e (by omega)), if_pos e]
    · rw [if_pos (nI_le (by omega) (by omega)), if_neg e]
  show lp (fun k x => b_X8_isDueAhead_2 (nI q) (nI p) s k x) 600 (nI 4) = _
  show b_X8_isDueAhead_2 (nI q) (nI p) s (lp (fun k x => b_X8_isDueAhead_2 (nI q) (nI p) s k x) 599) (nI 4) = _
  rw [step _ 4 (by decide) (by decide)]
  unfold dA
  by_cases e : eF E q 4 = eF E p 4
  · rw [if_pos e, if_pos e]
    show b_X8_isDueAhead_2 (nI q) (nI p) s (lp (fun k x => b_X8_isDueAhead_2 (nI q) (nI p) s k x) 598) (nI 3) = _
    rw [step _ 3 (by decide) (by decide)]
    by_cases e2 : eF E q 3 = eF E p 3
    · rw [if_pos e2, if_pos e2]
      show b_X8_isDueAhead_2 (nI q) (nI p) s (lp (fun k x => b_X8_isDueAhead_2 (nI q) (nI p) s k x) 597) (nI 2) = _
      exact last _
    · rw [if_neg e2, if_neg e2]
  · rw [if_neg e, if_neg e]
/-- the first that so many are due ahead of -/
def dueR (E : ES) (x : Int32) : Nat → Nat → Int32
  | 0, _ => -nI 2
  | d + 1, p => if sm (dA E p) (eN E) = x then nI p else dueR E x d (p + 1)
theorem dueR_succ (E : ES) (x : Int32) (d p : Nat) : dueR E x (d + 1) p = if sm (dA E p) (eN E) = x then nI p else dueR E x d (p + 1) := rfl
theorem dA_self (p : Nat) : dA E p p = nI 0 := by
  unfold dA
  rw [if_pos rfl, if_pos rfl, if_neg (Nat.lt_irrefl p)]
theorem dA_or (p q : Nat) : dA E p q = nI 0 ∨ dA E p q = nI 1 := by
  unfold dA
  split
  · split
    · split
      · exact Or.inr rfl
      · exact Or.inl rfl
    · split
      · exact Or.inr rfl
      · exact Or.inl rfl
  · split
    · exact Or.inr rfl
    · exact Or.inl rfl
theorem due_both (hB : GB E) (h : CW E facts ro locked rules sizes rows sc metric fixed) (hM : MW E s) (x1 : Int32) : ∃ v, f_X7_due facts sc x1 = some v ∧ f_X8_due s x1 = some v := by
  have hN := hB.1
  have e4 : (nI 4).toNatClampNeg = 4 := nI_clamp (by decide)
  refine ⟨dueR E x1 (eN E) 0, ?_, ?_⟩
  · unfold f_X7_due l_X7_due_2
    simp only [lI]
    refine lp_eq (F := fun k (x : Int32) => b_X7_due_2 x1 facts sc k x) (fun t x => x = nI t ∧ dueR E x1 (eN E - t) t = dueR E x1 (eN E) 0) _ (eN E) ?_ ?_ fu _ (by unfold fu; omega) ⟨rfl, rfl⟩
    · rintro t x ht ⟨rfl, e2⟩
      obtain ⟨d, hd⟩ : ∃ d, eN E - t = d + 1 := ⟨eN E - t - 1, by omega⟩
      rw [hd, dueR_succ] at e2
      have step : ∀ z, b_X7_due_2 x1 facts sc z (nI t) = if sm (dA E t) (eN E) = x1 then some (nI t) else z (nI (t + 1)) := by
        intro z
        unfold b_X7_due_2
        simp only [lI, nI_add]
        rw [if_neg (by rw [h.1]; exact nI_ge ht (by omega)), dueC hB h ht, Option.bind_some]
      by_cases q : sm (dA E t) (eN E) = x1
      · rw [if_pos q] at e2
        exact Or.inr fun z => (step z).trans (by rw [if_pos q, e2])
      · rw [if_neg q] at e2
        exact Or.inl ⟨nI (t + 1), ⟨rfl, by rw [show eN E - (t + 1) = d by omega]; exact e2⟩, fun z => (step z).trans (if_neg q)⟩
    · rintro x ⟨rfl, e2⟩ z
      rw [Nat.sub_self] at e2
      unfold b_X7_due_2
      simp only [lI]
      rw [if_pos (by rw [h.1]; exact nI_le (Nat.le_refl _) (by omega)), ← e2]
      rfl
  · have e17 : ∀ (k2 : Int32 → Option Int32) (p : Nat), p < eN E → l_X8_due_17 k2 x1 (nI p) s (nI 0, nI 0) = if sm (dA E p) (eN E) = x1 then some (nI p) else k2 (nI (p + 1)) := by
      intro k2 p hp
      unfold l_X8_due_17
      refine lp_to (F := fun k (x : Int32 × Int32) => b_X8_due_17 k2 x1 (nI p) s k x.1 x.2) (fun t x => x.1 = sm (dA E p) t ∧ x.2 = nI t) (fun o => o = if sm (dA E p) (eN E) = x1 then some (nI p) else k2 (nI (p + 1))) (eN E) ?_ ?_ fu (nI 0, nI 0) (by unfold fu; omega) ⟨rfl, rfl⟩
      · rintro t ⟨x3, x4⟩ ht ⟨e1, e2⟩
        dsimp only at e1 e2
        subst e1 e2
        refine Or.inl ⟨(sm (dA E p) (t + 1), nI (t + 1)), ⟨rfl, rfl⟩, fun z => ?_⟩
        show b_X8_due_17 k2 x1 (nI p) s z _ (nI t) = _
        unfold b_X8_due_17
        simp only [lI, nI_add]
        rw [e4, hM.1, if_neg (nI_ge ht (by omega)), sm_loop]
        by_cases q : t = p
        · rw [if_pos (congrArg nI q), q, dA_self]
        · rw [if_neg (by rw [nI_eq (by omega) (by omega)]; exact q), isDueM hB hM hp ht, Option.bind_some]
          rcases dA_or (E := E) p t with e | e
          · rw [e, if_pos rfl]
          · rw [e, if_neg h10_]
      · rintro ⟨x3, x4⟩ ⟨e1, e2⟩
        dsimp only at e1 e2
        subst e1 e2
        refine ⟨_, rfl, fun z => ?_⟩
        show b_X8_due_17 k2 x1 (nI p) s z _ (nI (eN E)) = _
        unfold b_X8_due_17
        simp only [lI, nI_add]
        rw [e4, hM.1, if_pos (nI_le (Nat.le_refl _) (by omega))]
    unfold f_X8_due l_X8_due_2
    simp only [lI]
    refine lp_eq (F := fun k (x : Int32) => b_X8_due_2 x1 s k x) (fun t x => x = nI t ∧ dueR E x1 (eN E - t) t = dueR E x1 (eN E) 0) _ (eN E) ?_ ?_ fu _ (by unfold fu; omega) ⟨rfl, rfl⟩
    · rintro t x ht ⟨rfl, e2⟩
      obtain ⟨d, hd⟩ : ∃ d, eN E - t = d + 1 := ⟨eN E - t - 1, by omega⟩
      rw [hd, dueR_succ] at e2
      have step : ∀ z, b_X8_due_2 x1 s z (nI t) = if sm (dA E t) (eN E) = x1 then some (nI t) else z (nI (t + 1)) := by
        intro z
        unfold b_X8_due_2
        simp only [lI]
        rw [e4, hM.1, if_neg (nI_ge ht (by omega)), e17 z t ht]
      by_cases q : sm (dA E t) (eN E) = x1
      · rw [if_pos q] at e2
        exact Or.inr fun z => (step z).trans (by rw [if_pos q, e2])
      · rw [if_neg q] at e2
        exact Or.inl ⟨nI (t + 1), ⟨rfl, by rw [show eN E - (t + 1) = d by omega]; exact e2⟩, fun z => (step z).trans (if_neg q)⟩
    · rintro x ⟨rfl, e2⟩ z
      rw [Nat.sub_self] at e2
      unfold b_X8_due_2
      simp only [lI]
      rw [e4, hM.1, if_pos (nI_le (Nat.le_refl _) (by omega)), ← e2]
      rfl
end TOLD
