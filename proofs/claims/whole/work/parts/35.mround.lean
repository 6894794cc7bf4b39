/-! B8: the reference's rounds -/
def MR (s : Nat → Int32) (r : Nat) (L : List Nat) : Prop := s (178 + 20 * r + 3) = nI L.length ∧ Rep s (178 + 20 * r + 4) L
theorem inRow_at {s : Nat → Int32} {r : Nat} {L : List Nat} (hr : r < 4) (h : MR s r L) (hL : L.length ≤ 16) {k : Nat} (hk : k < L.length) : f_X8_inRow s (nI r) (nI k) = some (nI (at_ L k)) := by
  rw [inRow_eq s (by omega), h.2 k hk]
theorem pv_succ {L : List Nat} {k : Nat} (hk : 0 < k) : pv_ L k = at_ L (k - 1) := by
  unfold pv_
  rw [if_neg (by omega)]
theorem nI_0le {a : Nat} (h : a < 2 ^ 31) : nI 0 ≤ nI a := nI_pos' h
theorem m5_lt : ¬ nI 0 ≤ -nI 5 := by decide
/-- how late, as the reference tells it -/
def Lat (D : Nat → Nat → Int32) (fc : Nat → Nat → Int32) (t0 home : Int32) (L : List Nat) (v : Int32) : Prop :=
  (onT D fc t0 L → v = if L.length = 0 ∨ bk D fc t0 L ≤ home then -nI 5 else nI L.length) ∧ (¬ onT D fc t0 L → ∃ j, j < L.length ∧ ¬ inT D fc t0 L j ∧ (∀ i, i < j → inT D fc t0 L i) ∧ v = nI j)
theorem lateBy_eq {s comes begins : Nat → Int32} {me : Int32} (hs : s 2 = me) (hm : isM me) {n r : Nat} {fc : Nat → Nat → Int32} {L : List Nat} (hr : r < 4) (hM : MR s r L) (hL : L.length ≤ 16) (hLn : ∀ p ∈ L, p < n) (hn : n ≤ 16) (hF : FcM s n fc) (hX : XY n fc) (d : Int32) : ∃ v cs bs back wa lo, f_X8_lateBy s comes begins (nI r) d = some (v, cs, bs, back, wa, lo) ∧ (∀ k, k < L.length → cs k = cm (dist me fc) fc (s (178 + 20 * r + 1) + d) L k ∧ bs k = bg (dist me fc) fc (s (178 + 20 * r + 1) + d) L k) ∧ back = (if L.length = 0 then s (178 + 20 * r + 1) else bk (dist me fc) fc (s (178 + 20 * r + 1) + d) L) ∧ wa = wt (dist me fc) fc (s (178 + 20 * r + 1) + d) L L.length ∧ lo = ld fc L L.length ∧ Lat (dist me fc) fc (s (178 + 20 * r + 1) + d) (s (178 + 20 * r + 2)) L v := by
  generalize ht0 : s (178 + 20 * r + 1) + d = t0
  generalize hD : dist me fc = D
  have h224 : ∀ (x5 y1 : Int32) (cs bs : Nat → Int32) (wa lo : Int32), b_X8_lateBy_224 (nI r) (nI L.length) x5 y1 s cs bs wa lo = some (if 0 ≤ x5 ∨ L.length = 0 ∨ y1 ≤ s (178 + 20 * r + 2) then x5 else nI L.length, cs, bs, y1, wa, lo) := by
    intro x5 y1 cs bs wa lo
    unfold b_X8_lateBy_224
    by_cases h : 0 ≤ x5
    · rw [if_pos h, if_pos (Or.inl h)]
    · rw [if_neg h]
      simp only [lI]
      by_cases h0 : L.length = 0
      · rw [if_pos (by rw [h0]), if_pos (Or.inr (Or.inl h0))]
      · rw [if_neg (by rw [nI_eq (by omega) (by decide)]; exact h0), roundAt_eq s (by omega), Option.bind_some]
        by_cases h2 : s (178 + 20 * r + 2) < y1
        · have hc : ¬ (nI 0 ≤ x5 ∨ L.length = 0 ∨ y1 ≤ s (178 + 20 * r + 2)) := by
            rintro (q | q | q)
            · exact h q
            · exact h0 q
            · exact Int32.not_le.mpr h2 q
          rw [if_pos h2, if_neg hc]
        · rw [if_neg h2, if_pos (Or.inr (Or.inr (Int32.not_lt.mp h2)))]
  unfold f_X8_lateBy l_X8_lateBy_34
  simp only [lI]
  rw [roundAt_eq s (by omega), Option.bind_some, roundAt_eq s (by omega), Option.bind_some, hM.1, ht0]
  obtain ⟨q, ⟨v, cs, bs, back, wa, lo, rfl, h1, h2, h3, h4, h5⟩, h6⟩ := lp_inv (F := fun z x => b_X8_lateBy_34 (nI r) (nI L.length) s z x.1 x.2.1 x.2.2.1 x.2.2.2.1 x.2.2.2.2.1 x.2.2.2.2.2.1 x.2.2.2.2.2.2)
    (fun i x => x.1 = tm D fc t0 L i ∧ x.2.2.1 = nI i ∧ (∀ j, j < i → x.2.2.2.1 j = cm D fc t0 L j ∧ x.2.2.2.2.1 j = bg D fc t0 L j) ∧ x.2.2.2.2.2.1 = wt D fc t0 L i ∧ x.2.2.2.2.2.2 = ld fc L i ∧ ((x.2.1 = -nI 5 ∧ ∀ j, j < i → inT D fc t0 L j) ∨ ∃ j, j < i ∧ ¬ inT D fc t0 L j ∧ (∀ y, y < j → inT D fc t0 L y) ∧ x.2.1 = nI j))
    (fun q => ∃ v cs bs back wa lo, q = (v, cs, bs, back, wa, lo) ∧ (∀ k, k < L.length → cs k = cm D fc t0 L k ∧ bs k = bg D fc t0 L k) ∧ back = (if L.length = 0 then s (178 + 20 * r + 1) else bk D fc t0 L) ∧ wa = wt D fc t0 L L.length ∧ lo = ld fc L L.length ∧ Lat D fc t0 (s (178 + 20 * r + 2)) L v) L.length
    (by
      rintro i ⟨x4, x5, x6, cs, bs, wa, lo⟩ hi ⟨e4, e6, hj, e7, e8, hl⟩
      dsimp only at e4 e6 hj e7 e8 hl
      subst e4 e6 e7 e8
      have hat := at_lt hLn hi
      -- what follows the way there
      have e80 : ∀ (z : Int32 × Int32 × Int32 × (Nat → Int32) × (Nat → Int32) × Int32 × Int32 → Option (Int32 × (Nat → Int32) × (Nat → Int32) × Int32 × Int32 × Int32)), b_X8_lateBy_80 z (nI r) (nI L.length) x5 (nI i) (nI (at_ L i)) (tm D fc t0 L i) (D (pv_ L i) (at_ L i)) s cs bs (wt D fc t0 L i) (ld fc L i) = z (tm D fc t0 L (i + 1), (if bg D fc t0 L i ≤ fc (at_ L i) 4 ∨ 0 ≤ x5 then x5 else nI i), nI (i + 1), upd cs i (cm D fc t0 L i), upd bs i (bg D fc t0 L i), wt D fc t0 L (i + 1), ld fc L (i + 1)) := by
        intro z
        have e172 : ∀ (w : Int32), b_X8_lateBy_172 z (nI r) (nI L.length) w (nI i) (nI (at_ L i)) s (upd cs i (cm D fc t0 L i)) (upd bs i (bg D fc t0 L i)) (wt D fc t0 L i + (bg D fc t0 L i - cm D fc t0 L i)) (ld fc L i + fc (at_ L i) 2) = z (tm D fc t0 L (i + 1), w, nI (i + 1), upd cs i (cm D fc t0 L i), upd bs i (bg D fc t0 L i), wt D fc t0 L (i + 1), ld fc L (i + 1)) := by
          intro w
          unfold b_X8_lateBy_172
          simp only [lI, nI_add]
          rw [gI_n (by omega) (by decide), stopAt_eq s (by omega), Option.bind_some, hF.1 _ hat 5 (by decide), nI_clamp (by omega), pk_us]
          rfl
        have ebg : mmax (tm D fc t0 L i + D (pv_ L i) (at_ L i)) (fc (at_ L i) 3) = bg D fc t0 L i := by
          unfold mmax bg bgn cm
          by_cases h : fc (at_ L i) 3 ≤ tm D fc t0 L i + D (pv_ L i) (at_ L i)
          · rw [if_neg (Int32.not_lt.mpr h), if_pos h]
          · rw [if_pos (Int32.not_le.mp h), if_neg h]
        unfold b_X8_lateBy_80
        simp only [lI]
        rw [gI_n (by omega) (by decide), stopAt_eq s (by omega), Option.bind_some, stopAt_eq s (by omega), Option.bind_some, stopAt_eq s (by omega), Option.bind_some, hF.1 _ hat 3 (by decide), hF.1 _ hat 2 (by decide), hF.1 _ hat 4 (by decide), nI_clamp (by omega), ebg, pk_us]
        by_cases hb : bg D fc t0 L i ≤ fc (at_ L i) 4
        · rw [if_pos hb, if_pos (Or.inl hb)]
          exact e172 x5
        · rw [if_neg hb]
          by_cases h0 : nI 0 ≤ x5
          · rw [if_pos h0, if_pos (Or.inr h0)]
            exact e172 x5
          · have hc : ¬ (bg D fc t0 L i ≤ fc (at_ L i) 4 ∨ nI 0 ≤ x5) := fun q => q.elim hb h0
            rw [if_neg h0, if_neg hc]
            exact e172 (nI i)
      refine Or.inl ⟨(tm D fc t0 L (i + 1), (if bg D fc t0 L i ≤ fc (at_ L i) 4 ∨ 0 ≤ x5 then x5 else nI i), nI (i + 1), upd cs i (cm D fc t0 L i), upd bs i (bg D fc t0 L i), wt D fc t0 L (i + 1), ld fc L (i + 1)), ⟨rfl, rfl, fun j hji => ?_, rfl, rfl, ?_⟩, fun z => ?_⟩
      · dsimp only
        by_cases e : j = i
        · subst e; exact ⟨pk_us, pk_us⟩
        · rw [pk_un e, pk_un e]
          exact hj j (by omega)
      · dsimp only
        rcases hl with ⟨rfl, hin⟩ | ⟨j, h7, h8, h9, rfl⟩
        · by_cases hb : bg D fc t0 L i ≤ fc (at_ L i) 4
          · rw [if_pos (Or.inl hb)]
            refine Or.inl ⟨rfl, fun j hji => ?_⟩
            by_cases e : j = i
            · subst e; exact hb
            · exact hin j (by omega)
          · have hc : ¬ (bg D fc t0 L i ≤ fc (at_ L i) 4 ∨ (0 : Int32) ≤ -nI 5) := fun q => q.elim hb m5_lt
            rw [if_neg hc]
            exact Or.inr ⟨i, by omega, hb, hin, rfl⟩
        · rw [if_pos (Or.inr (show (0 : Int32) ≤ nI j from nI_pos' (by omega)))]
          exact Or.inr ⟨j, by omega, h8, h9, rfl⟩
      · show b_X8_lateBy_34 (nI r) (nI L.length) s z (tm D fc t0 L i) x5 (nI i) cs bs (wt D fc t0 L i) (ld fc L i) = _
        unfold b_X8_lateBy_34
        simp only [lI]
        rw [if_neg (nI_ge hi (by omega)), inRow_at hr hM hL hi, Option.bind_some]
        by_cases h0 : i = 0
        · subst h0
          rw [if_pos rfl, fromDepot_eq s hs hm hX hF hn hat, Option.bind_some, hD]
          exact e80 z
        · rw [if_neg (by rw [nI_eq (by omega) (by decide)]; exact h0), nI_sub1 (by omega), inRow_at hr hM hL (by omega), Option.bind_some, between_eq s hs hm hX hF hn (at_lt hLn (by omega)) hat, Option.bind_some, hD, ← pv_succ (by omega)]
          exact e80 z)
    (by
      rintro ⟨x4, x5, x6, cs, bs, wa, lo⟩ ⟨e4, e6, hj, e7, e8, hl⟩
      dsimp only at e4 e6 hj e7 e8 hl
      subst e4 e6 e7 e8
      have hend : ∀ z, b_X8_lateBy_34 (nI r) (nI L.length) s z (tm D fc t0 L L.length) x5 (nI L.length) cs bs (wt D fc t0 L L.length) (ld fc L L.length) = b_X8_lateBy_224 (nI r) (nI L.length) x5 (if L.length = 0 then s (178 + 20 * r + 1) else bk D fc t0 L) s cs bs (wt D fc t0 L L.length) (ld fc L L.length) := by
        intro z
        unfold b_X8_lateBy_34
        simp only [lI]
        rw [if_pos (nI_le (Nat.le_refl _) (by omega))]
        by_cases h0 : L.length = 0
        · rw [if_pos (by rw [h0]), if_pos h0, roundAt_eq s (by omega), Option.bind_some]
        · rw [if_neg (by rw [nI_eq (by omega) (by decide)]; exact h0), if_neg h0, nI_sub1 (by omega), inRow_at hr hM hL (by omega), Option.bind_some, fromDepot_eq s hs hm hX hF hn (at_lt hLn (by omega)), Option.bind_some, dist_comm, hD, ← pv_succ (by omega)]
          rfl
      refine ⟨_, ⟨_, cs, bs, _, _, _, rfl, hj, rfl, rfl, rfl, ?_⟩, fun z => (hend z).trans (h224 _ _ _ _ _ _)⟩
      rcases hl with ⟨rfl, hin⟩ | ⟨j, h7, h8, h9, rfl⟩
      · refine ⟨fun _ => ?_, fun q => absurd hin q⟩
        by_cases h0 : L.length = 0
        · rw [if_pos (Or.inr (Or.inl h0)), if_pos (Or.inl h0)]
        · rw [if_neg h0]
          by_cases h2 : bk D fc t0 L ≤ s (178 + 20 * r + 2)
          · rw [if_pos (Or.inr (Or.inr h2)), if_pos (Or.inr h2)]
          · have hc : ¬ ((0 : Int32) ≤ -nI 5 ∨ L.length = 0 ∨ bk D fc t0 L ≤ s (178 + 20 * r + 2)) := by
              rintro (q | q | q)
              · exact m5_lt q
              · exact h0 q
              · exact h2 q
            rw [if_neg hc, if_neg (fun q => q.elim h0 h2)]
      · rw [if_pos (Or.inl (show (0 : Int32) ≤ nI j from nI_pos' (by omega)))]
        exact ⟨fun q => absurd (q j h7) h8, fun _ => ⟨j, h7, h8, h9, rfl⟩⟩)
    fu (t0, -nI 5, nI 0, comes, begins, nI 0, nI 0) (by unfold fu; omega) ⟨rfl, rfl, fun j hj => absurd hj (Nat.not_lt_zero j), rfl, rfl, Or.inl ⟨rfl, fun j hj => absurd hj (Nat.not_lt_zero j)⟩⟩
  exact ⟨v, cs, bs, back, wa, lo, h6, h1, h2, h3, h4, h5⟩
theorem holdsM_eq {s comes begins : Nat → Int32} {back waits loads : Int32} {me : Int32} (hs : s 2 = me) (hm : isM me) {n r : Nat} {fc : Nat → Nat → Int32} {L : List Nat} (hr : r < 4) (hM : MR s r L) (hL : L.length ≤ 16) (hLn : ∀ p ∈ L, p < n) (hn : n ≤ 16) (hF : FcM s n fc) (hX : XY n fc) (hro : nI 0 ≤ s (178 + 20 * r)) : ∃ v cs bs back' wa lo, f_X8_holds s comes begins back waits loads (nI r) = some (v, cs, bs, back', wa, lo) ∧ (HO (dist me fc) fc (s (178 + 20 * r + 1) + nI 0) (s (178 + 20 * r + 2)) (s (178 + 20 * r)) L ∧ v = nI 1 ∧ (∀ k, k < L.length → bs k = bg (dist me fc) fc (s (178 + 20 * r + 1) + nI 0) L k) ∨ ¬ HO (dist me fc) fc (s (178 + 20 * r + 1) + nI 0) (s (178 + 20 * r + 2)) (s (178 + 20 * r)) L ∧ v = nI 0) := by
  unfold f_X8_holds
  simp only [lI]
  rw [roundAt_eq s (by omega), Option.bind_some, hM.1]
  by_cases h0 : L.length = 0
  · rw [if_pos (by rw [h0])]
    refine ⟨_, _, _, _, _, _, rfl, Or.inl ⟨⟨fun k hk => absurd hk (by omega), Or.inl (List.length_eq_zero_iff.mp h0), ?_⟩, rfl, fun k hk => absurd hk (by omega)⟩⟩
    rw [h0]
    exact hro
  · rw [if_neg (by rw [nI_eq (by omega) (by decide)]; exact h0)]
    obtain ⟨v, cs, bs, back', wa, lo, e, h1, h2, h3, h4, h5⟩ := lateBy_eq (comes := comes) (begins := begins) hs hm hr hM hL hLn hn hF hX (nI 0)
    rw [e, Option.bind_some]
    dsimp only
    by_cases hon : onT (dist me fc) fc (s (178 + 20 * r + 1) + nI 0) L
    · have hv := h5.1 hon
      by_cases hb : bk (dist me fc) fc (s (178 + 20 * r + 1) + nI 0) L ≤ s (178 + 20 * r + 2)
      · rw [if_pos (Or.inr hb)] at hv
        subst hv
        rw [if_neg m5_lt, roundAt_eq s (by omega), Option.bind_some]
        by_cases hl : s (178 + 20 * r + 0) < lo
        · rw [if_pos hl]
          refine ⟨_, _, _, _, _, _, rfl, Or.inr ⟨fun q => ?_, rfl⟩⟩
          rw [h4] at hl
          exact Int32.not_le.mpr hl q.2.2
        · rw [if_neg hl]
          refine ⟨_, _, _, _, _, _, rfl, Or.inl ⟨⟨hon, Or.inr hb, ?_⟩, rfl, fun k hk => (h1 k hk).2⟩⟩
          rw [← h4]
          exact Int32.not_lt.mp hl
      · rw [if_neg (fun q => q.elim h0 hb)] at hv
        subst hv
        rw [if_pos (nI_0le (by omega))]
        refine ⟨_, _, _, _, _, _, rfl, Or.inr ⟨fun q => ?_, rfl⟩⟩
        rcases q.2.1 with q | q
        · exact h0 (by rw [q]; rfl)
        · exact hb q
    · obtain ⟨j, g1, g2, g3, rfl⟩ := h5.2 hon
      rw [if_pos (nI_0le (by omega))]
      exact ⟨_, _, _, _, _, _, rfl, Or.inr ⟨fun q => hon q.1, rfl⟩⟩
