/-! B49: feed and read, in both -/
theorem feed_both {sg tx : Nat → Int32} {n : Nat} (hn : n ≤ 100) (hT : TxR n sg tx) (x : Int32) : ∃ r n' sg' tx', n' ≤ 100 ∧ TxR n' sg' tx' ∧ f_X7_feed sg (nI n) x = some (r, sg', nI n') ∧ f_X8_feed tx (nI n) x = some (r, tx', nI n') := by
  unfold f_X7_feed f_X8_feed
  simp only [lI, isUpTo_isIn]
  rcases isIn_eq x 127 (by decide) with ⟨a, ha, rfl, c⟩ | ⟨-, c⟩
  · rw [c, Option.bind_some, Option.bind_some, if_neg h10_, if_neg h10_]
    by_cases q : n = 100
    · rw [if_pos (nI_le (by omega) (by omega)), if_pos (congrArg nI q)]
      exact ⟨_, n, sg, tx, hn, hT, rfl, rfl⟩
    · have hne : ¬ nI n = nI 100 := by rw [nI_eq (by omega) (by decide)]; exact q
      rw [if_neg (nI_ge (by omega) (by decide)), if_neg hne, gI_n (by omega) (by decide), nI_clamp (by omega)]
      unfold f_X4_append
      simp only [lI]
      rw [if_neg (nI_lt0 (by omega)), if_neg (nI_ge (by omega) (by decide)), gI_n (by omega) (by decide), nI_clamp (by omega), nI_add, Option.bind_some]
      refine ⟨nI (n + 1), n + 1, upd sg n (nI a), upd tx n (nI a), by omega, fun i hi => ?_, rfl, rfl⟩
      by_cases e : i = n
      · rw [e, pk_us, pk_us]
      · rw [pk_un e, pk_un e]
        exact hT i (by omega)
  · rw [c, Option.bind_some, Option.bind_some, if_pos rfl, if_pos rfl]
    exact ⟨_, n, sg, tx, hn, hT, rfl, rfl⟩
theorem six_eq (w : Nat → Int32) {u : Nat} (hu : u < 6) : six (w 0) (w 1) (w 2) (w 3) (w 4) (w 5) u = w u := by
  rcases (show u = 0 ∨ u = 1 ∨ u = 2 ∨ u = 3 ∨ u = 4 ∨ u = 5 by omega) with rfl | rfl | rfl | rfl | rfl | rfl <;> rfl
theorem okS.six {w : Nat → Int32} (h : okS w) : okS (six (w 0) (w 1) (w 2) (w 3) (w 4) (w 5)) :=
  ⟨fun u hu => by rw [six_eq w (by omega)]; exact h.1 u hu, fun u hu => by rw [six_eq w hu]; exact h.2 u hu⟩
theorem okS.of {w w' : Nat → Int32} (h : okS w) (e : ∀ u, u < 6 → w' u = w u) : okS w' :=
  ⟨fun u hu => by rw [e u (by omega)]; exact h.1 u hu, fun u hu => by rw [e u hu]; exact h.2 u hu⟩
theorem factAt_eq (F : Nat → Int32) {c u : Nat} (h : 6 * c + u < 36) : f_X4_factAt F (nI c) (nI u) = some (F (6 * c + u)) := by
  unfold f_X4_factAt
  simp only [lI, pk_mul, nI_add]
  rw [Nat.mul_comm c 6, if_neg (nI_lt0 (by omega)), if_neg (nI_ge h (by decide)), gI_n h (by decide), nI_clamp (by omega)]
section READ
variable {rules sizes rows : Nat → Int32} {metric fixed : Int32}
theorem reads_both {F R : Nat → Int32} {t : Nat} (ht : t ≤ 6) (hF : ∀ i, i < 6 * t → F i = R i) (hok : ∀ c, c < t → okS (fun u => F (6 * c + u))) (n0 : Nat) (sz nx fl sz' nx' fl' : Int32) : ∀ (d j : Nat) (E : ES) (facts ro locked s : Nat → Int32) (sc : Int32) (N N' : Nat), j + d = t → d < N → d < N' → GI E → CW E facts ro locked rules sizes rows sc metric fixed → MW E s → eN E = n0 + j → ∃ E' v facts' ro' locked' sc' s', lp (fun k (x : Int32 × (Nat → Int32) × (Nat → Int32) × (Nat → Int32) × Int32) => b_X7_read_35 (nI n0) F sz (nI t) nx fl k x.1 x.2.1 x.2.2.1 x.2.2.2.1 x.2.2.2.2) N (nI j, facts, ro, locked, sc) = some (v, facts', ro', locked', sc', F, sz, nI t, nx, fl) ∧ lp (fun k (x : Int32 × Int32 × (Nat → Int32)) => b_X8_read_81 (nI t) R sz' nx' fl' k x.1 x.2.1 x.2.2) N' (nI j, nI j, s) = some (v, s', R, sz', nx', fl') ∧ GI E' ∧ CW E' facts' ro' locked' rules sizes rows sc' metric fixed ∧ MW E' s' ∧ low s s' ∧ eN E ≤ eN E' := by
  intro d
  induction d with
  | zero =>
    intro j E facts ro locked s sc N N' hj hN hN' hI h hM hn
    obtain ⟨N, rfl⟩ : ∃ k, N = k + 1 := ⟨N - 1, by omega⟩
    obtain ⟨N', rfl⟩ : ∃ k, N' = k + 1 := ⟨N' - 1, by omega⟩
    refine ⟨E, nI j, facts, ro, locked, sc, s, ?_, ?_, hI, h, hM, low.refl s, Nat.le_refl _⟩
    · show b_X7_read_35 (nI n0) F sz (nI t) nx fl (lp _ N) (nI j) facts ro locked sc = _
      unfold b_X7_read_35
      simp only [lI]
      rw [if_pos (nI_le (by omega) (by omega)), h.1, hn, Nat.add_comm n0 j, ← nI_add, Int32.add_sub_cancel]
    · show b_X8_read_81 (nI t) R sz' nx' fl' (lp _ N') (nI j) (nI j) s = _
      unfold b_X8_read_81
      rw [if_pos (nI_le (by omega) (by omega))]
  | succ d ih =>
    intro j E facts ro locked s sc N N' hj hN hN' hI h hM hn
    obtain ⟨N, rfl⟩ : ∃ k, N = k + 1 := ⟨N - 1, by omega⟩
    obtain ⟨N', rfl⟩ : ∃ k, N' = k + 1 := ⟨N' - 1, by omega⟩
    have hB := hI.1
    have hN16 := hB.1
    have e4 : (nI 4).toNatClampNeg = 4 := nI_clamp (by decide)
    by_cases q : eN E < 16
    rotate_left
    · refine ⟨E, nI j, facts, ro, locked, sc, s, ?_, ?_, hI, h, hM, low.refl s, Nat.le_refl _⟩
      · show b_X7_read_35 (nI n0) F sz (nI t) nx fl (lp _ N) (nI j) facts ro locked sc = _
        unfold b_X7_read_35
        simp only [lI]
        rw [if_neg (nI_ge (by omega) (by omega)), h.1, if_pos (nI_le (by omega) (by omega)), hn, Nat.add_comm n0 j, ← nI_add, Int32.add_sub_cancel]
      · show b_X8_read_81 (nI t) R sz' nx' fl' (lp _ N') (nI j) (nI j) s = _
        unfold b_X8_read_81
        simp only [lI, e4]
        rw [if_neg (nI_ge (by omega) (by omega)), hM.1, if_pos (nI_le (by omega) (by omega))]
    obtain ⟨facts', ro', locked', k1, k2⟩ := addStopC hB h q (F (6 * j + 0)) (F (6 * j + 1)) (F (6 * j + 2)) (F (6 * j + 3)) (F (6 * j + 4)) (F (6 * j + 5))
    obtain ⟨s', j1, j2, j3⟩ := comesM hB hM q (F (6 * j + 0)) (F (6 * j + 1)) (F (6 * j + 2)) (F (6 * j + 3)) (F (6 * j + 4)) (F (6 * j + 5))
    have hI' := hI.add q (hok j (by omega)).six
    obtain ⟨E', v, facts2, ro2, locked2, sc2, s2, a1, a2, a3, a4, a5, a6, a7⟩ := ih (j + 1) _ facts' ro' locked' s' _ N N' (by omega) (by omega) (by omega) hI' k2 j2 (by show eN E + 1 = _; omega)
    refine ⟨E', v, facts2, ro2, locked2, sc2, s2, ?_, ?_, a3, a4, a5, j3.trans a6, Nat.le_trans (Nat.le_succ _) a7⟩
    · rw [← a1]
      show b_X7_read_35 (nI n0) F sz (nI t) nx fl (lp _ N) (nI j) facts ro locked sc = _
      unfold b_X7_read_35
      simp only [lI]
      rw [if_neg (nI_ge (by omega) (by omega)), factAt_eq F (show 6 * j + 0 < 36 by omega), factAt_eq F (show 6 * j + 1 < 36 by omega), factAt_eq F (show 6 * j + 2 < 36 by omega), factAt_eq F (show 6 * j + 3 < 36 by omega), factAt_eq F (show 6 * j + 4 < 36 by omega), factAt_eq F (show 6 * j + 5 < 36 by omega)]
      have hs : ¬ nI 16 ≤ sc := by rw [h.1]; exact nI_ge q (by decide)
      rw [if_neg hs]
      simp only [Option.bind_some]
      rw [k1, Option.bind_some, nI_add]
    · rw [← a2]
      show b_X8_read_81 (nI t) R sz' nx' fl' (lp _ N') (nI j) (nI j) s = _
      unfold b_X8_read_81
      simp only [lI, e4, pk_mul, nI_add]
      rw [if_neg (nI_ge (by omega) (by omega)), hM.1, if_neg (nI_ge q (by decide)), gI_n (show 6 * j < 36 by omega) (by decide), gI_n (show 6 * j + 1 < 36 by omega) (by decide), gI_n (show 6 * j + 2 < 36 by omega) (by decide), gI_n (show 6 * j + 3 < 36 by omega) (by decide), gI_n (show 6 * j + 4 < 36 by omega) (by decide), gI_n (show 6 * j + 5 < 36 by omega) (by decide), nI_clamp (show 6 * j < 2 ^ 31 by omega), nI_clamp (show 6 * j + 1 < 2 ^ 31 by omega), nI_clamp (show 6 * j + 2 < 2 ^ 31 by omega), nI_clamp (show 6 * j + 3 < 2 ^ 31 by omega), nI_clamp (show 6 * j + 4 < 2 ^ 31 by omega), nI_clamp (show 6 * j + 5 < 2 ^ 31 by omega), ← hF (6 * j) (by omega), ← hF (6 * j + 1) (by omega), ← hF (6 * j + 2) (by omega), ← hF (6 * j + 3) (by omega), ← hF (6 * j + 4) (by omega), ← hF (6 * j + 5) (by omega), show f_X8_comes s (F (6 * j)) (F (6 * j + 1)) (F (6 * j + 2)) (F (6 * j + 3)) (F (6 * j + 4)) (F (6 * j + 5)) = some s' from j1, Option.bind_some]
theorem parse_endc {sg : Nat → Int32} {n : Nat} (M : Nat) (c : Int32) (hc : c = nI 0) (G : Nat → Int32) (T P Q : Int32) : lp (fun k (x : Int32 × (Nat → Int32) × Int32 × Int32 × Int32) => b_X4_parse_18 sg (nI n) k x.1 x.2.1 x.2.2.1 x.2.2.2.1 x.2.2.2.2) (M + 1) (c, G, T, P, Q) = b_X4_parse_76 G (nI n) T P Q := by
  show b_X4_parse_18 sg (nI n) (lp _ M) c G T P Q = _
  generalize lp _ M = K
  unfold b_X4_parse_18
  simp only [lI]
  rw [if_pos hc]
theorem parse_end {sg : Nat → Int32} {n : Nat} (M : Nat) (G : Nat → Int32) (T P Q : Int32) : lp (fun k (x : Int32 × (Nat → Int32) × Int32 × Int32 × Int32) => b_X4_parse_18 sg (nI n) k x.1 x.2.1 x.2.2.1 x.2.2.2.1 x.2.2.2.2) (M + 1) (nI 0, G, T, P, Q) = b_X4_parse_76 G (nI n) T P Q := parse_endc M (nI 0) rfl G T P Q
theorem parse_step {sg F F1 : Nat → Int32} {n t p q q2 : Nat} {f g v : Int32} (hp : p ≤ n) (ht : t < 6) (a1 : f_X4_parseClause sg F (nI n) (nI p) f (nI t) = some (F1, nI q, g)) (a2 : f_X4_skip sg (nI n) (nI q) g (nI 59) = some (v, nI q2)) (M : Nat) : lp (fun k (x : Int32 × (Nat → Int32) × Int32 × Int32 × Int32) => b_X4_parse_18 sg (nI n) k x.1 x.2.1 x.2.2.1 x.2.2.2.1 x.2.2.2.2) (M + 1) (nI 1, F, nI t, nI p, f) = if nI 6 ≤ nI (t + 1) then lp (fun k (x : Int32 × (Nat → Int32) × Int32 × Int32 × Int32) => b_X4_parse_18 sg (nI n) k x.1 x.2.1 x.2.2.1 x.2.2.2.1 x.2.2.2.2) M (nI 0, F1, nI (t + 1), nI q, g) else if v = nI 0 then lp (fun k (x : Int32 × (Nat → Int32) × Int32 × Int32 × Int32) => b_X4_parse_18 sg (nI n) k x.1 x.2.1 x.2.2.1 x.2.2.2.1 x.2.2.2.2) M (nI 0, F1, nI (t + 1), nI q2, g) else lp (fun k (x : Int32 × (Nat → Int32) × Int32 × Int32 × Int32) => b_X4_parse_18 sg (nI n) k x.1 x.2.1 x.2.2.1 x.2.2.2.1 x.2.2.2.2) M (nI 1, F1, nI (t + 1), nI q2, g) := by
  show b_X4_parse_18 sg (nI n) (lp _ M) (nI 1) F (nI t) (nI p) f = _
  generalize lp _ M = K
  unfold b_X4_parse_18
  simp only [lI]
  rw [if_neg h10_, if_neg (nI_ge (by omega) (by decide)), a1, Option.bind_some]
  dsimp only
  rw [nI_add, a2, Option.bind_some]
theorem read_step {tx R R1 : Nat → Int32} (s : Nat → Int32) {n t p q q2 : Nat} {f' g' v : Int32} (ht : t < 6) (b1 : f_X8_clause tx R (nI n) (nI p) f' (nI (6 * t)) = some (R1, nI q, g')) (b2 : f_X8_takes tx (nI n) (nI q) g' (nI 59) = some (v, nI q2)) (N' : Nat) : lp (fun k (x : Int32 × (Nat → Int32) × Int32 × Int32) => b_X8_read_12 s tx (nI n) k x.1 x.2.1 x.2.2.1 x.2.2.2) (N' + 1) (nI t, R, nI p, f') = if nI 6 ≤ nI (t + 1) then b_X8_read_38 (nI (t + 1)) s R1 (nI n) (nI q) g' else if v = nI 0 then b_X8_read_38 (nI (t + 1)) s R1 (nI n) (nI q2) g' else lp (fun k (x : Int32 × (Nat → Int32) × Int32 × Int32) => b_X8_read_12 s tx (nI n) k x.1 x.2.1 x.2.2.1 x.2.2.2) N' (nI (t + 1), R1, nI q2, g') := by
  show b_X8_read_12 s tx (nI n) (lp _ N') (nI t) R (nI p) f' = _
  generalize lp _ N' = K
  unfold b_X8_read_12
  simp only [lI, pk_mul]
  rw [b1, Option.bind_some]
  dsimp only
  rw [nI_add, b2, Option.bind_some]
theorem clauses_both {sg tx : Nat → Int32} {n : Nat} (hn : n ≤ 100) (hT : TxR n sg tx) (s : Nat → Int32) : ∀ (d t p : Nat) (f f' : Int32) (F R : Nat → Int32) (N N' : Nat), t + d = 6 → 0 < d → d < N → d < N' → p ≤ n → FR f f' → (∀ i, i < 6 * t → F i = R i) → (f = -nI 5 → ∀ c, c < t → okS (fun u => F (6 * c + u))) → ∃ t' F' R' q g g', t' ≤ 6 ∧ q ≤ n ∧ FR g g' ∧ (∀ i, i < 6 * t' → F' i = R' i) ∧ (g = -nI 5 → ∀ c, c < t' → okS (fun u => F' (6 * c + u))) ∧ lp (fun k (x : Int32 × (Nat → Int32) × Int32 × Int32 × Int32) => b_X4_parse_18 sg (nI n) k x.1 x.2.1 x.2.2.1 x.2.2.2.1 x.2.2.2.2) N (nI 1, F, nI t, nI p, f) = b_X4_parse_76 F' (nI n) (nI t') (nI q) g ∧ lp (fun k (x : Int32 × (Nat → Int32) × Int32 × Int32) => b_X8_read_12 s tx (nI n) k x.1 x.2.1 x.2.2.1 x.2.2.2) N' (nI t, R, nI p, f') = b_X8_read_38 (nI t') s R' (nI n) (nI q) g' := by
  intro d
  induction d with
  | zero => intro t p f f' F R N N' h0 h1; exact absurd h1 (Nat.lt_irrefl _)
  | succ d ih =>
    intro t p f f' F R N N' htd h1 hN hN' hp hFR hF hok
    obtain ⟨N, rfl⟩ : ∃ k, N = k + 1 := ⟨N - 1, by omega⟩
    obtain ⟨N', rfl⟩ : ∃ k, N' = k + 1 := ⟨N' - 1, by omega⟩
    obtain ⟨N, rfl⟩ : ∃ k, N = k + 1 := ⟨N - 1, by omega⟩
    obtain ⟨F1, R1, w, q, g, g', hq, hG, k1, a1, b1, hC⟩ := clause_both hn hT hp hFR (c := t) (by omega) F R
    obtain ⟨v, q2, hq2, hv, a2, b2⟩ := skip_both hn hT hq hG (c := 59) (by decide)
    have hF1 : ∀ i, i < 6 * (t + 1) → F1 i = R1 i := by
      intro i hi
      by_cases z : i < 6 * t
      · rw [(hC.2 i (Or.inl z)).1, (hC.2 i (Or.inl z)).2]
        exact hF i z
      · obtain ⟨u, hu, rfl⟩ : ∃ u, u < 6 ∧ i = 6 * t + u := ⟨i - 6 * t, by omega, by omega⟩
        rw [(hC.1 u hu).1, (hC.1 u hu).2]
    have hok1 : g = -nI 5 → ∀ c, c < t + 1 → okS (fun u => F1 (6 * c + u)) := by
      intro hg c hc
      by_cases z : c = t
      · rw [z]
        exact (k1 hg).2.of (fun u hu => (hC.1 u hu).1)
      · exact (hok (k1 hg).1 c (by omega)).of (fun u hu => (hC.2 _ (Or.inl (by omega))).1)
    have ca := parse_step hp (t := t) (by omega) a1 a2
    have cb := read_step s (t := t) (by omega) b1 b2 N'
    rw [ca, cb, parse_end, parse_end]
    by_cases z : t + 1 = 6
    · rw [z, if_pos (Int32.le_refl _), if_pos (Int32.le_refl _)]
      rw [z] at hF1 hok1
      exact ⟨6, F1, R1, q, g, g', by omega, hq, hG, hF1, hok1, rfl, rfl⟩
    · rw [if_neg (nI_ge (by omega) (by decide)), if_neg (nI_ge (by omega) (by decide))]
      rcases hv with rfl | rfl
      · rw [if_pos rfl, if_pos rfl]
        exact ⟨t + 1, F1, R1, q2, g, g', by omega, hq2, hG, hF1, hok1, rfl, rfl⟩
      · rw [if_neg h10_, if_neg h10_]
        exact ih (t + 1) q2 g g' F1 R1 (N + 1) N' (by omega) (by omega) (by omega) (by omega) hq2 hG hF1 hok1
theorem read_both {E : ES} {facts ro locked s : Nat → Int32} {sc : Int32} (hI : GI E) (h : CW E facts ro locked rules sizes rows sc metric fixed) (hM : MW E s) {sg tx : Nat → Int32} {n : Nat} (hn : n ≤ 100) (hT : TxR n sg tx) (F R : Nat → Int32) : ∃ E' v facts' ro' locked' sc' F' c' nx' fl' s' R' at' ft', f_X7_read facts ro locked sc sg F (nI n) = some (v, facts', ro', locked', sc', F', nI 0, c', nx', fl') ∧ f_X8_read s tx R (nI n) = some (v, s', R', nI 0, at', ft') ∧ GI E' ∧ CW E' facts' ro' locked' rules sizes rows sc' metric fixed ∧ MW E' s' ∧ low s s' ∧ eN E ≤ eN E' := by
  obtain ⟨t, F1, R1, q, g, g', ht, hq, hG, hF1, hok1, a1, b1⟩ := clauses_both hn hT s 6 0 0 (-nI 5) (-nI 1) F R 600 600 (by omega) (by omega) (by omega) (by omega) (by omega) (Or.inl ⟨rfl, rfl⟩) (fun i hi => absurd hi (by omega)) (fun _ c hc => absurd hc (by omega))
  have ha : f_X4_parse sg F (nI n) = b_X4_parse_76 F1 (nI n) (nI t) (nI q) g := by
    unfold f_X4_parse l_X4_parse_18
    simp only [lI]
    exact a1
  have hb : f_X8_read s tx R (nI n) = b_X8_read_38 (nI t) s R1 (nI n) (nI q) g' := by
    unfold f_X8_read l_X8_read_12
    simp only [lI]
    exact b1
  -- a fault at the sign a
  have bad : ∀ a : Nat, a ≤ 100 → ∀ A B, A = some (-nI 10 - nI a, facts, ro, locked, sc, F1, nI 0, nI t, nI q, nI a) → B = some (-nI 10 - nI a, s, R1, nI 0, nI q, nI a) → ∃ E' v facts' ro' locked' sc' F' c' nx' fl' s' R' at' ft', A = some (v, facts', ro', locked', sc', F', nI 0, c', nx', fl') ∧ B = some (v, s', R', nI 0, at', ft') ∧ GI E' ∧ CW E' facts' ro' locked' rules sizes rows sc' metric fixed ∧ MW E' s' ∧ low s s' ∧ eN E ≤ eN E' :=
    fun a _ A B h1 h2 => ⟨E, _, facts, ro, locked, sc, F1, _, _, _, s, R1, _, _, h1, h2, hI, h, hM, low.refl s, Nat.le_refl _⟩
  unfold f_X7_read
  rw [ha, hb]
  unfold b_X4_parse_76 b_X8_read_38 b_X8_read_57 f_X8_fails
  simp only [lI]
  rcases hG with ⟨rfl, rfl⟩ | ⟨a, haa, rfl, rfl⟩
  rotate_left
  · have h0 : nI 0 ≤ nI a := nI_0le (by omega)
    have h1 : ¬ nI a < nI 0 := nI_lt0 (by omega)
    refine bad a haa _ _ ?_ ?_
    · rw [if_pos h0, Option.bind_some, if_neg h1]
    · rw [if_pos h0, if_neg h1, Option.bind_some, if_neg h1]
      split <;> rfl
  have h0 : ¬ nI 0 ≤ -nI 5 := by decide
  have h0' : ¬ nI 0 ≤ -nI 1 := by decide
  rw [if_neg h0, if_neg h0', Option.bind_some]
  by_cases z : n ≤ q
  rotate_left
  · have h1 : ¬ nI q < nI 0 := nI_lt0 (by omega)
    refine bad q (by omega) _ _ ?_ ?_
    · rw [if_neg (nI_ge (by omega) (by omega)), Option.bind_some, if_neg h1]
    · rw [if_neg (nI_ge (by omega) (by omega)), if_neg h1]
  rw [if_pos (nI_le z (by omega)), if_pos (nI_le z (by omega)), Option.bind_some, if_pos (show -nI 5 < nI 0 by decide), if_pos (show -nI 1 < nI 0 by decide)]
  obtain ⟨E', v, facts2, ro2, locked2, sc2, s2, c1, c2, c3, c4, c5, c6, c7⟩ := reads_both ht hF1 (hok1 rfl) (eN E) (nI 0) (nI q) (-nI 5) (nI 0) (nI q) (-nI 1) t 0 E facts ro locked s sc 600 600 (by omega) (by omega) (by omega) hI h hM rfl
  refine ⟨E', v, facts2, ro2, locked2, sc2, F1, nI t, nI q, -nI 5, s2, R1, nI q, -nI 1, ?_, ?_, c3, c4, c5, c6, c7⟩
  · rw [h.1] at c1 ⊢
    exact c1
  · exact c2
end READ
