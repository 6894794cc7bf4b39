/-! B48: the text: feed, read, in both -/
/-- a text's fault in both: none, or at a sign -/
def FR (f f' : Int32) : Prop := (f = -nI 5 ∧ f' = -nI 1) ∨ ∃ a, a ≤ 100 ∧ f = nI a ∧ f' = nI a
def TxR (n : Nat) (sg tx : Nat → Int32) : Prop := ∀ i, i < n → tx i = sg i
theorem FR.neg {f f' : Int32} (h : FR f f') : (f = -nI 5 ∧ f < nI 0 ∧ ¬ nI 0 ≤ f ∧ f' < nI 0 ∧ ¬ nI 0 ≤ f') ∨ (f ≠ -nI 5 ∧ ¬ f < nI 0 ∧ nI 0 ≤ f ∧ ¬ f' < nI 0 ∧ nI 0 ≤ f' ∧ f' = f) := by
  rcases h with ⟨rfl, rfl⟩ | ⟨a, ha, rfl, rfl⟩
  · exact Or.inl ⟨rfl, by decide, by decide, by decide, by decide⟩
  · exact Or.inr ⟨nI_ne_m5 (by omega), nI_lt0 (by omega), nI_0le (by omega), nI_lt0 (by omega), nI_0le (by omega), rfl⟩
theorem FR.at (p : Nat) (hp : p ≤ 100) : FR (nI p) (nI p) := Or.inr ⟨p, hp, rfl, rfl⟩
section TEXT
variable {sg tx : Nat → Int32} {n : Nat}
theorem signC (hn : n ≤ 100) {p : Nat} (hp : p ≤ n) : f_X4_nextSign sg (nI n) (nI p) = some (if p < n then sg p else -nI 1) := by
  unfold f_X4_nextSign
  simp only [lI]
  rw [if_neg (nI_lt0 (by omega))]
  by_cases q : p < n
  · rw [if_neg (nI_ge q (by omega)), if_pos q, if_neg (nI_ge (by omega) (by decide)), gI_n (by omega) (by decide), nI_clamp (by omega)]
  · rw [if_pos (nI_le (by omega) (by omega)), if_neg q]
theorem skip_both (hn : n ≤ 100) (hT : TxR n sg tx) {p : Nat} (hp : p ≤ n) {f f' : Int32} (hF : FR f f') {c : Nat} (hc : c < 128) : ∃ v q, q ≤ n ∧ (v = nI 0 ∨ v = nI 1) ∧ f_X4_skip sg (nI n) (nI p) f (nI c) = some (v, nI q) ∧ f_X8_takes tx (nI n) (nI p) f' (nI c) = some (v, nI q) := by
  have h36 : ∀ y : Int32, (y = nI 0 ∨ y = nI 1) → b_X8_takes_36 y (nI p) = some (y, nI p + y) := by
    intro y hy
    unfold b_X8_takes_36 b_X8_takes_51
    simp only [lI]
    rcases hy with rfl | rfl
    · rw [if_pos rfl, gd_t (Or.inl rfl)]
    · rw [if_neg h10_, gd_t (Or.inr rfl)]
  unfold f_X4_skip f_X8_takes b_X8_takes_35
  simp only [lI]
  rw [signC hn hp, Option.bind_some, h36 (nI 0) (Or.inl rfl), h36 (nI 1) (Or.inr rfl), nI_add, nI_add]
  rcases hF.neg with ⟨-, -, h1, -, h2⟩ | ⟨-, -, h1, -, h2, -⟩
  · rw [if_neg h1, if_neg h2]
    by_cases q : p < n
    · rw [if_pos q, if_neg (nI_ge q (by omega)), gI_n (by omega) (by decide), nI_clamp (by omega), hT p q]
      by_cases e : sg p = nI c
      · rw [if_pos e, if_pos e]
        exact ⟨_, p + 1, by omega, Or.inr rfl, rfl, rfl⟩
      · rw [if_neg e, if_neg e]
        exact ⟨_, p, hp, Or.inl rfl, rfl, rfl⟩
    · have hne : ¬ -nI 1 = nI c := by
        intro z
        have := congrArg Int32.toInt z
        rw [nI_toInt (by omega)] at this
        have em : (-nI 1).toInt = -1 := by decide
        omega
      rw [if_neg q, if_pos (nI_le (by omega) (by omega)), if_neg hne]
      exact ⟨_, p, hp, Or.inl rfl, rfl, rfl⟩
  · rw [if_pos h1, if_pos h2]
    exact ⟨_, p, hp, Or.inl rfl, rfl, rfl⟩
theorem expect_both (hn : n ≤ 100) (hT : TxR n sg tx) {p : Nat} (hp : p ≤ n) {f f' : Int32} (hF : FR f f') {c : Nat} (hc : c < 128) : ∃ q g g', q ≤ n ∧ FR g g' ∧ (g = -nI 5 → f = -nI 5) ∧ f_X4_expect sg (nI n) (nI p) f (nI c) = some (nI q, g) ∧ f_X8_needs tx (nI n) (nI p) f' (nI c) = some (nI q, g') := by
  obtain ⟨v, q, hq, hv, e1, e2⟩ := skip_both hn hT hp hF hc
  unfold f_X4_expect f_X8_needs f_X8_fails
  simp only [lI]
  rw [e1, e2, Option.bind_some, Option.bind_some]
  dsimp only
  rcases hv with rfl | rfl
  · rw [if_pos rfl, if_pos rfl]
    rcases hF.neg with ⟨h0, -, h1, -, h2⟩ | ⟨h0, -, h1, -, h2, h3⟩
    · rw [if_neg h1, if_neg h2, Option.bind_some]
      exact ⟨q, nI q, nI q, hq, FR.at q (by omega), fun _ => h0, rfl, rfl⟩
    · rw [if_pos h1, if_pos h2, Option.bind_some]
      exact ⟨q, f, f', hq, hF, fun z => z, rfl, rfl⟩
  · rw [if_neg h10_, if_neg h10_]
    exact ⟨q, f, f', hq, hF, fun z => z, rfl, rfl⟩
/-- a number's figures, read in both -/
theorem number_both (hn : n ≤ 100) (hT : TxR n sg tx) {p : Nat} (hp : p ≤ n) {f f' : Int32} (hF : FR f f') {dg : Nat} (hd : dg ≤ 3) (least top : Int32) : ∃ v q g g', q ≤ n ∧ FR g g' ∧ (g = -nI 5 → f = -nI 5 ∧ ¬ v < least ∧ v ≤ top) ∧ f_X4_number sg (nI n) (nI p) f (nI dg) least top = some (v, nI q, g) ∧ f_X8_number tx (nI n) (nI p) f' (nI dg) least top = some (v, nI q, g') := by
  have hin : ∀ v : Int32, f_X8_isIn v least top = some (if v < least then nI 0 else if top < v then nI 0 else nI 1) := by
    intro v
    unfold f_X8_isIn
    by_cases q1 : v < least
    · rw [if_pos q1, if_pos q1]; rfl
    · rw [if_neg q1, if_neg q1]
      by_cases q2 : top < v
      · rw [if_pos q2, if_pos q2]; rfl
      · rw [if_neg q2, if_neg q2]; rfl
  rcases hF.neg with ⟨h0, h1, h1', h2, h2'⟩ | ⟨h0, h1, h1', h2, h2', h3⟩
  rotate_left
  · -- behind the first fault nothing is read
    refine ⟨nI 0, p, f, f', hp, hF, fun z => absurd z h0, ?_, ?_⟩
    · unfold f_X4_number
      simp only [lI]
      rw [if_neg h1]
    · unfold f_X8_number l_X8_number_9
      simp only [lI]
      show b_X8_number_9 (nI dg) least top (nI p) tx (nI n) f' (lp _ 599) (nI 0) (nI p) = _
      unfold b_X8_number_9 b_X8_number_90 b_X8_number_107 f_X8_fails
      simp only [lI]
      rw [if_pos h2', if_pos trivial, if_pos h2', Option.bind_some, hin, Option.bind_some]
      by_cases e : (if nI 0 < least then nI 0 else if top < nI 0 then nI 0 else nI 1) = nI 0
      · rw [if_pos e, if_pos h2', Option.bind_some]
      · rw [if_neg e]
  -- what is read, and where it ends
  have e76 : ∀ (v : Int32) (q : Nat), q ≤ n → p ≤ q → ∃ g g', FR g g' ∧ (g = -nI 5 → f = -nI 5 ∧ ¬ v < least ∧ v ≤ top) ∧ b_X4_number_76 least top (nI p) v (nI q) f = some (v, nI q, g) ∧ b_X8_number_90 least top (nI p) v (nI q) f' = some (v, nI q, g') := by
    intro v q hq hpq
    unfold b_X4_number_76 b_X4_number_108 b_X8_number_90 b_X8_number_107 f_X8_fails
    simp only [lI]
    rw [hin]
    by_cases e : q = p
    · have h00 : nI 0 ≤ nI q := nI_0le (by omega)
      rw [if_pos (congrArg nI e), if_pos (congrArg nI e), if_neg h2', Option.bind_some, Option.bind_some]
      refine ⟨nI q, nI q, FR.at q (by omega), fun z => absurd z (nI_ne_m5 (by omega)), rfl, ?_⟩
      by_cases e2 : (if v < least then nI 0 else if top < v then nI 0 else nI 1) = nI 0
      · rw [if_pos e2, if_pos h00, Option.bind_some]
      · rw [if_neg e2]
    · have hne : ¬ nI q = nI p := by rw [nI_eq (by omega) (by omega)]; exact e
      rw [if_neg hne, if_neg hne, nI_sub1 (by omega), Option.bind_some]
      by_cases q1 : v < least
      · rw [if_pos q1, if_pos q1, if_pos rfl, if_neg h2', Option.bind_some]
        exact ⟨nI (q - 1), nI (q - 1), FR.at _ (by omega), fun z => absurd z (nI_ne_m5 (by omega)), rfl, rfl⟩
      · rw [if_neg q1, if_neg q1]
        by_cases q2 : v ≤ top
        · rw [if_pos q2, if_neg (Int32.not_lt.mpr q2), if_neg h10_]
          exact ⟨f, f', hF, fun z => ⟨z, q1, q2⟩, rfl, rfl⟩
        · rw [if_neg q2, if_pos (Int32.not_le.mp q2), if_pos rfl, if_neg h2', Option.bind_some]
          exact ⟨nI (q - 1), nI (q - 1), FR.at _ (by omega), fun z => absurd z (nI_ne_m5 (by omega)), rfl, rfl⟩
  have key : ∀ (d k : Nat) (v : Int32) (N N' : Nat), k + d = dg → p + k ≤ n → d < N → d < N' → ∃ w q, q ≤ n ∧ p ≤ q ∧ lp (fun k (x : Int32 × Int32 × Int32) => b_X4_number_21 (nI dg) least top (nI p) sg (nI n) f k x.1 x.2.1 x.2.2) N (v, nI k, nI (p + k)) = b_X4_number_76 least top (nI p) w (nI q) f ∧ lp (fun k (x : Int32 × Int32) => b_X8_number_9 (nI dg) least top (nI p) tx (nI n) f' k x.1 x.2) N' (v, nI (p + k)) = b_X8_number_90 least top (nI p) w (nI q) f' := by
    intro d
    induction d with
    | zero =>
      intro k v N N' hk hpk hN hN'
      obtain ⟨N, rfl⟩ : ∃ k, N = k + 1 := ⟨N - 1, by omega⟩
      obtain ⟨N', rfl⟩ : ∃ k, N' = k + 1 := ⟨N' - 1, by omega⟩
      refine ⟨v, p + k, hpk, by omega, ?_, ?_⟩
      · show b_X4_number_21 (nI dg) least top (nI p) sg (nI n) f (lp _ N) v (nI k) (nI (p + k)) = _
        unfold b_X4_number_21
        rw [if_pos (nI_le (by omega) (by omega))]
      · show b_X8_number_9 (nI dg) least top (nI p) tx (nI n) f' (lp _ N') v (nI (p + k)) = _
        unfold b_X8_number_9
        simp only [lI, nI_add]
        rw [if_neg h2']
        by_cases q : n ≤ p + k
        · rw [if_pos (nI_le q (by omega))]
        · rw [if_neg (nI_ge (by omega) (by omega)), if_pos (nI_le (by omega) (by omega))]
    | succ d ih =>
      intro k v N N' hk hpk hN hN'
      obtain ⟨N, rfl⟩ : ∃ k, N = k + 1 := ⟨N - 1, by omega⟩
      obtain ⟨N', rfl⟩ : ∃ k, N' = k + 1 := ⟨N' - 1, by omega⟩
      by_cases q : p + k < n
      rotate_left
      · refine ⟨v, p + k, hpk, by omega, ?_, ?_⟩
        · show b_X4_number_21 (nI dg) least top (nI p) sg (nI n) f (lp _ N) v (nI k) (nI (p + k)) = _
          unfold b_X4_number_21
          simp only [lI]
          rw [if_neg (nI_ge (by omega) (by omega)), signC hn hpk, if_neg q, Option.bind_some, if_pos (show -nI 1 < nI 48 by decide)]
        · show b_X8_number_9 (nI dg) least top (nI p) tx (nI n) f' (lp _ N') v (nI (p + k)) = _
          unfold b_X8_number_9
          simp only [lI, nI_add]
          rw [if_neg h2', if_pos (nI_le (by omega) (by omega))]
      by_cases q1 : sg (p + k) < nI 48 ∨ nI 57 < sg (p + k)
      · refine ⟨v, p + k, hpk, by omega, ?_, ?_⟩
        · show b_X4_number_21 (nI dg) least top (nI p) sg (nI n) f (lp _ N) v (nI k) (nI (p + k)) = _
          unfold b_X4_number_21
          simp only [lI]
          rw [if_neg (nI_ge (by omega) (by omega)), signC hn hpk, if_pos q, Option.bind_some]
          by_cases q2 : sg (p + k) < nI 48
          · rw [if_pos q2]
          · rw [if_neg q2, Option.bind_some, if_pos (q1.resolve_left q2)]
        · show b_X8_number_9 (nI dg) least top (nI p) tx (nI n) f' (lp _ N') v (nI (p + k)) = _
          unfold b_X8_number_9 f_X8_isIn
          simp only [lI, nI_add]
          rw [if_neg h2', if_neg (nI_ge (by omega) (by omega)), if_neg (nI_ge (by omega) (by omega)), gI_n (by omega) (by decide), nI_clamp (by omega), hT _ q]
          by_cases q2 : sg (p + k) < nI 48
          · rw [if_pos q2, Option.bind_some, if_pos rfl]
          · rw [if_neg q2, if_pos (q1.resolve_left q2), Option.bind_some, if_pos rfl]
      · have q2 : ¬ sg (p + k) < nI 48 := fun z => q1 (Or.inl z)
        have q3 : ¬ nI 57 < sg (p + k) := fun z => q1 (Or.inr z)
        obtain ⟨w, y, hy, hpy, a1, a2⟩ := ih (k + 1) (v * nI 10 + sg (p + k) - nI 48) N N' (by omega) (by omega) (by omega) (by omega)
        refine ⟨w, y, hy, hpy, ?_, ?_⟩
        · rw [← a1]
          show b_X4_number_21 (nI dg) least top (nI p) sg (nI n) f (lp _ N) v (nI k) (nI (p + k)) = _
          unfold b_X4_number_21
          simp only [lI, nI_add]
          rw [if_neg (nI_ge (by omega) (by omega)), signC hn hpk, if_pos q]
          simp only [Option.bind_some]
          rw [if_neg q2, if_neg q3]
          rfl
        · rw [← a2]
          show b_X8_number_9 (nI dg) least top (nI p) tx (nI n) f' (lp _ N') v (nI (p + k)) = _
          unfold b_X8_number_9 f_X8_isIn
          simp only [lI, nI_add]
          rw [if_neg h2', if_neg (nI_ge (by omega) (by omega)), if_neg (nI_ge (by omega) (by omega)), gI_n (by omega) (by decide), nI_clamp (by omega), hT _ q, if_neg q2, if_neg q3, Option.bind_some, if_neg h10_, Int32.mul_comm (nI 10) v]
          rfl
  obtain ⟨w, q, hq, hpq, a1, a2⟩ := key dg 0 (nI 0) 600 600 (by omega) (by omega) (by omega) (by omega)
  obtain ⟨g, g', b1, b2, b3, b4⟩ := e76 w q hq hpq
  refine ⟨w, q, g, g', hq, b1, b2, ?_, ?_⟩
  · unfold f_X4_number l_X4_number_21
    simp only [lI]
    rw [if_pos h1]
    exact a1.trans b3
  · unfold f_X8_number l_X8_number_9
    simp only [lI]
    exact a2.trans b4
theorem keepF (F : Nat → Int32) {c w : Nat} (h : 6 * c + w < 36) (v : Int32) : f_X4_keepFact F (nI c) (nI w) v = some (upd F (6 * c + w) v) := by
  unfold f_X4_keepFact
  simp only [lI, pk_mul, nI_add]
  rw [Nat.mul_comm c 6, if_neg (nI_lt0 (by omega)), if_neg (nI_ge h (by decide)), gI_n h (by decide), nI_clamp (by omega)]
/-- what a clause leaves -/
def ClO (c : Nat) (F R F' R' : Nat → Int32) (w : Nat → Int32) : Prop := (∀ u, u < 6 → F' (6 * c + u) = w u ∧ R' (6 * c + u) = w u) ∧ ∀ j, (j < 6 * c ∨ 6 * c + 6 ≤ j) → F' j = F j ∧ R' j = R j
theorem num_nB {v : Int32} {a top : Nat} (ht : top ≤ 1000) (h1 : ¬ v < nI a) (ha : a < 2 ^ 31) (h2 : v ≤ nI top) : nB top v := by
  have h0 : ¬ v < nI 0 := by
    intro z
    rw [Int32.lt_iff_toInt_lt] at z h1
    have e0 : (nI 0).toInt = 0 := by decide
    rw [e0] at z
    rw [nI_toInt ha] at h1
    omega
  obtain ⟨b, hb, e⟩ := nI_of2 (M := nI top) (n := top) (nI_toInt (by omega)) h0 h2
  exact ⟨b, hb, e⟩
theorem clause_both (hn : n ≤ 100) (hT : TxR n sg tx) {p : Nat} (hp : p ≤ n) {f f' : Int32} (hF : FR f f') {c : Nat} (hc : c < 6) (F R : Nat → Int32) : ∃ F' R' w q g g', q ≤ n ∧ FR g g' ∧ (g = -nI 5 → f = -nI 5 ∧ okS w) ∧ f_X4_parseClause sg F (nI n) (nI p) f (nI c) = some (F', nI q, g) ∧ f_X8_clause tx R (nI n) (nI p) f' (nI (6 * c)) = some (R', nI q, g') ∧ ClO c F R F' R' w := by
  obtain ⟨v0, p1, f1, f1', hp1, hF1, k1, a1, b1⟩ := number_both hn hT hp hF (dg := 2) (by decide) (nI 0) (nI 63)
  obtain ⟨p2, f2, f2', hp2, hF2, k2, a2, b2⟩ := expect_both hn hT hp1 hF1 (c := 44) (by decide)
  obtain ⟨v1, p3, f3, f3', hp3, hF3, k3, a3, b3⟩ := number_both hn hT hp2 hF2 (dg := 2) (by decide) (nI 0) (nI 63)
  obtain ⟨t4, p4, hp4, h4, a4, b4⟩ := skip_both hn hT hp3 hF3 (c := 42) (by decide)
  -- the load
  have load : ∃ v2 p5 f5 f5', p5 ≤ n ∧ FR f5 f5' ∧ (f5 = -nI 5 → f3 = -nI 5 ∧ nB 20 v2) ∧ (if t4 = nI 0 then b_X4_parseClause_63 (nI c) (nI c) (nI 2) (nI 1) sg (upd (upd F (6 * c + 0) v0) (6 * c + 1) v1) (nI n) (nI p4) f3 else (f_X4_number sg (nI n) (nI p4) f3 (nI 2) (nI 0) (nI 20)).bind fun q => b_X4_parseClause_63 (nI c) (nI c) (nI 2) q.1 sg (upd (upd F (6 * c + 0) v0) (6 * c + 1) v1) (nI n) q.2.1 q.2.2) = b_X4_parseClause_63 (nI c) (nI c) (nI 2) v2 sg (upd (upd F (6 * c + 0) v0) (6 * c + 1) v1) (nI n) (nI p5) f5 ∧ (if t4 = nI 0 then b_X8_clause_64 (nI (6 * c)) (nI (6 * c + 2)) (nI 1) tx (upd (upd R (6 * c + 0) v0) (6 * c + 1) v1) (nI n) (nI p4) f3' else (f_X8_number tx (nI n) (nI p4) f3' (nI 2) (nI 0) (nI 20)).bind fun q => b_X8_clause_64 (nI (6 * c)) (nI (6 * c + 2)) q.1 tx (upd (upd R (6 * c + 0) v0) (6 * c + 1) v1) (nI n) q.2.1 q.2.2) = b_X8_clause_64 (nI (6 * c)) (nI (6 * c + 2)) v2 tx (upd (upd R (6 * c + 0) v0) (6 * c + 1) v1) (nI n) (nI p5) f5' := by
    rcases h4 with rfl | rfl
    · exact ⟨nI 1, p4, f3, f3', hp4, hF3, fun z => ⟨z, 1, by omega, rfl⟩, if_pos rfl, if_pos rfl⟩
    · obtain ⟨v2, p5, f5, f5', hp5, hF5, k5, a5, b5⟩ := number_both hn hT hp4 hF3 (dg := 2) (by decide) (nI 0) (nI 20)
      refine ⟨v2, p5, f5, f5', hp5, hF5, fun z => ⟨(k5 z).1, num_nB (by decide) (k5 z).2.1 (by decide) (k5 z).2.2⟩, ?_, ?_⟩
      · rw [if_neg h10_, a5, Option.bind_some]
      · rw [if_neg h10_, b5, Option.bind_some]
  obtain ⟨v2, p5, f5, f5', hp5, hF5, k5, a5, b5⟩ := load
  -- the window
  obtain ⟨t6, p6, hp6, h6, a6, b6⟩ := skip_both hn hT hp5 hF5 (c := 64) (by decide)
  have hFc : ∀ (G : Nat → Int32) (w : Nat) (v : Int32), w < 6 → f_X4_keepFact G (nI c) (nI w) v = some (upd G (6 * c + w) v) := fun G w v hw => keepF G (by omega) v
  -- what comes behind the window
  have tail : ∀ (G H : Nat → Int32) (v4 : Int32) (p8 : Nat) (f8 f8' : Int32), p8 ≤ n → FR f8 f8' → ∃ v5 p9 f9 f9', p9 ≤ n ∧ FR f9 f9' ∧ (f9 = -nI 5 → f8 = -nI 5 ∧ nB 30 v5) ∧ b_X4_parseClause_135 (nI c) (nI c) (nI 4) v4 sg G (nI n) (nI p8) f8 = some (upd (upd G (6 * c + 4) v4) (6 * c + 5) v5, nI p9, f9) ∧ b_X8_clause_140 (nI (6 * c)) (nI (6 * c + 4)) v4 tx H (nI n) (nI p8) f8' = some (upd (upd H (6 * c + 4) v4) (6 * c + 5) v5, nI p9, f9') := by
    intro G H v4 p8 f8 f8' hp8 hF8
    obtain ⟨t9, p9, hp9, h9, a9, b9⟩ := skip_both hn hT hp8 hF8 (c := 43) (by decide)
    unfold b_X4_parseClause_135 b_X8_clause_140 b_X4_parseClause_167 b_X8_clause_169
    simp only [lI, nI_add]
    rw [hFc G 4 v4 (by decide), Option.bind_some, gI_n (show 6 * c + 4 < 36 by omega) (by decide), nI_clamp (show 6 * c + 4 < 2 ^ 31 by omega), a9, b9, Option.bind_some, Option.bind_some]
    dsimp only
    rcases h9 with rfl | rfl
    · rw [if_pos rfl, if_pos rfl, hFc _ 5 _ (by decide), Option.bind_some, gI_n (show 6 * c + 5 < 36 by omega) (by decide), nI_clamp (show 6 * c + 5 < 2 ^ 31 by omega)]
      exact ⟨nI 0, p9, f8, f8', hp9, hF8, fun z => ⟨z, 0, by omega, rfl⟩, rfl, rfl⟩
    · obtain ⟨v5, p10, f10, f10', hp10, hF10, k10, a10, b10⟩ := number_both hn hT hp9 hF8 (dg := 2) (by decide) (nI 0) (nI 30)
      rw [if_neg h10_, if_neg h10_, topOf_eq (show 5 < 6 by decide), Option.bind_some, show f_X4_number sg (nI n) (nI p9) f8 (nI 2) (nI 0) (nI (top6 5)) = some (v5, nI p10, f10) from a10, b10, Option.bind_some, Option.bind_some]
      dsimp only
      rw [hFc _ 5 _ (by decide), Option.bind_some, gI_n (show 6 * c + 5 < 36 by omega) (by decide), nI_clamp (show 6 * c + 5 < 2 ^ 31 by omega)]
      exact ⟨v5, p10, f10, f10', hp10, hF10, fun z => ⟨(k10 z).1, num_nB (by decide) (k10 z).2.1 (by decide) (k10 z).2.2⟩, rfl, rfl⟩
  have rest : ∃ v3 v4 v5 p9 f9 f9', p9 ≤ n ∧ FR f9 f9' ∧ (f9 = -nI 5 → f5 = -nI 5 ∧ nB 999 v3 ∧ nB 999 v4 ∧ nB 30 v5) ∧ b_X4_parseClause_63 (nI c) (nI c) (nI 2) v2 sg (upd (upd F (6 * c + 0) v0) (6 * c + 1) v1) (nI n) (nI p5) f5 = some (upd (upd (upd (upd (upd (upd F (6 * c + 0) v0) (6 * c + 1) v1) (6 * c + 2) v2) (6 * c + 3) v3) (6 * c + 4) v4) (6 * c + 5) v5, nI p9, f9) ∧ b_X8_clause_64 (nI (6 * c)) (nI (6 * c + 2)) v2 tx (upd (upd R (6 * c + 0) v0) (6 * c + 1) v1) (nI n) (nI p5) f5' = some (upd (upd (upd (upd (upd (upd R (6 * c + 0) v0) (6 * c + 1) v1) (6 * c + 2) v2) (6 * c + 3) v3) (6 * c + 4) v4) (6 * c + 5) v5, nI p9, f9') := by
    unfold b_X4_parseClause_63 b_X8_clause_64
    simp only [lI, nI_add]
    rw [hFc _ 2 v2 (by decide), Option.bind_some, topOf_eq (show 4 < 6 by decide), Option.bind_some, gI_n (show 6 * c + 2 < 36 by omega) (by decide), nI_clamp (show 6 * c + 2 < 2 ^ 31 by omega), a6, b6, Option.bind_some, Option.bind_some]
    dsimp only
    rcases h6 with rfl | rfl
    · rw [if_pos rfl, if_pos rfl]
      obtain ⟨v5, p9, f9, f9', hp9, hF9, k9, a9, b9⟩ := tail (upd (upd (upd (upd F (6 * c + 0) v0) (6 * c + 1) v1) (6 * c + 2) v2) (6 * c + 3) (nI 0)) (upd (upd (upd (upd R (6 * c + 0) v0) (6 * c + 1) v1) (6 * c + 2) v2) (6 * c + 3) (nI 0)) (nI 999) p6 f5 f5' hp6 hF5
      refine ⟨nI 0, nI 999, v5, p9, f9, f9', hp9, hF9, fun z => ⟨(k9 z).1, ⟨0, by omega, rfl⟩, ⟨999, by omega, rfl⟩, (k9 z).2⟩, ?_, ?_⟩
      · unfold b_X4_parseClause_96 b_X4_parseClause_116
        simp only [lI]
        rw [hFc _ 3 _ (by decide), Option.bind_some, if_pos trivial, if_pos trivial]
        exact a9
      · unfold b_X8_clause_96 b_X8_clause_107
        simp only [lI, nI_add]
        rw [gI_n (show 6 * c + 3 < 36 by omega) (by decide), nI_clamp (show 6 * c + 3 < 2 ^ 31 by omega), if_pos trivial, if_pos trivial]
        exact b9
    · obtain ⟨v3, p7, f7, f7', hp7, hF7, k7, a7, b7⟩ := number_both hn hT hp6 hF5 (dg := 3) (by decide) (nI 0) (nI 999)
      obtain ⟨p8, f8, f8', hp8, hF8, k8, a8, b8⟩ := expect_both hn hT hp7 hF7 (c := 45) (by decide)
      obtain ⟨v4, p9, f9, f9', hp9, hF9, k9, a9, b9⟩ := number_both hn hT hp8 hF8 (dg := 3) (by decide) v3 (nI 999)
      obtain ⟨v5, p10, f10, f10', hp10, hF10, k10, a10, b10⟩ := tail (upd (upd (upd (upd F (6 * c + 0) v0) (6 * c + 1) v1) (6 * c + 2) v2) (6 * c + 3) v3) (upd (upd (upd (upd R (6 * c + 0) v0) (6 * c + 1) v1) (6 * c + 2) v2) (6 * c + 3) v3) v4 p9 f9 f9' hp9 hF9
      rw [if_neg h10_, if_neg h10_, show f_X4_number sg (nI n) (nI p6) f5 (nI 3) (nI 0) (nI (top6 4)) = some (v3, nI p7, f7) from a7, b7, Option.bind_some, Option.bind_some]
      dsimp only
      refine ⟨v3, v4, v5, p10, f10, f10', hp10, hF10, fun z => ?_, ?_, ?_⟩
      · obtain ⟨z1, z2⟩ := k10 z
        obtain ⟨z3, z4, z5⟩ := k9 z1
        obtain ⟨z6, z7, z8⟩ := k7 (k8 z3)
        have h3 : nB 999 v3 := num_nB (by decide) z7 (by decide) z8
        obtain ⟨x3, hx3, e3⟩ := h3
        rw [e3] at z4
        exact ⟨z6, ⟨x3, hx3, e3⟩, num_nB (by decide) z4 (by omega) z5, z2⟩
      · unfold b_X4_parseClause_96 b_X4_parseClause_116
        simp only [lI]
        rw [hFc _ 3 _ (by decide), Option.bind_some, if_neg h10_, a8, Option.bind_some]
        dsimp only
        rw [if_neg h10_, show f_X4_number sg (nI n) (nI p8) f8 (nI 3) v3 (nI (top6 4)) = some (v4, nI p9, f9) from a9, Option.bind_some]
        exact a10
      · unfold b_X8_clause_96 b_X8_clause_107
        simp only [lI, nI_add]
        rw [gI_n (show 6 * c + 3 < 36 by omega) (by decide), nI_clamp (show 6 * c + 3 < 2 ^ 31 by omega), if_neg h10_, b8, Option.bind_some]
        dsimp only
        rw [if_neg h10_, gI_n (show 6 * c + 3 < 36 by omega) (by decide), pk_us, b9, Option.bind_some]
        exact b10
  obtain ⟨v3, v4, v5, p9, f9, f9', hp9, hF9, k9, a9, b9⟩ := rest
  obtain ⟨u1, u2⟩ := upd6 F (6 * c) v0 v1 v2 v3 v4 v5
  obtain ⟨u3, u4⟩ := upd6 R (6 * c) v0 v1 v2 v3 v4 v5
  refine ⟨_, _, six v0 v1 v2 v3 v4 v5, p9, f9, f9', hp9, hF9, fun z => ?_, ?_, ?_, fun u hu => ⟨u1 u hu, u3 u hu⟩, fun j hj => ⟨u2 j hj, u4 j hj⟩⟩
  · obtain ⟨z1, z2, z3, z4⟩ := k9 z
    obtain ⟨z5, z6⟩ := k5 z1
    obtain ⟨z7, z8, z9⟩ := k3 z5
    obtain ⟨y1, y2, y3⟩ := k1 (k2 z7)
    obtain ⟨x0, hx0, e0⟩ : nB 63 v0 := num_nB (by decide) y2 (by decide) y3
    obtain ⟨x1, hx1, e1⟩ : nB 63 v1 := num_nB (by decide) z8 (by decide) z9
    obtain ⟨x2, hx2, e2⟩ := z6
    obtain ⟨x3, hx3, e3⟩ := z2
    obtain ⟨x4, hx4, e4⟩ := z3
    obtain ⟨x5, hx5, e5⟩ := z4
    refine ⟨y1, fun u hu => ?_, fun u hu => ?_⟩
    · rcases (show u = 0 ∨ u = 1 by omega) with rfl | rfl
      · exact ⟨x0, hx0, e0⟩
      · exact ⟨x1, hx1, e1⟩
    · rcases (show u = 0 ∨ u = 1 ∨ u = 2 ∨ u = 3 ∨ u = 4 ∨ u = 5 by omega) with rfl | rfl | rfl | rfl | rfl | rfl
      · exact ⟨x0, by omega, e0⟩
      · exact ⟨x1, by omega, e1⟩
      · exact ⟨x2, by omega, e2⟩
      · exact ⟨x3, by omega, e3⟩
      · exact ⟨x4, by omega, e4⟩
      · exact ⟨x5, by omega, e5⟩
  · unfold f_X4_parseClause
    simp only [lI]
    rw [a1, Option.bind_some]
    dsimp only
    rw [hFc F 0 v0 (by decide), Option.bind_some, a2, Option.bind_some]
    dsimp only
    rw [a3, Option.bind_some]
    dsimp only
    rw [hFc _ 1 v1 (by decide), Option.bind_some, a4, Option.bind_some]
    dsimp only
    rw [topOf_eq (show 2 < 6 by decide), Option.bind_some]
    exact a5.trans a9
  · unfold f_X8_clause
    simp only [lI, nI_add]
    rw [b1, Option.bind_some]
    dsimp only
    rw [gI_n (show 6 * c < 36 by omega) (by decide), nI_clamp (show 6 * c < 2 ^ 31 by omega), b2, Option.bind_some]
    dsimp only
    rw [b3, Option.bind_some]
    dsimp only
    rw [gI_n (show 6 * c + 1 < 36 by omega) (by decide), nI_clamp (show 6 * c + 1 < 2 ^ 31 by omega), b4, Option.bind_some]
    dsimp only
    exact b5.trans b9
end TEXT
