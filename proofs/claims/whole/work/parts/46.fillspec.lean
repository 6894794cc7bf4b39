/-! B19: filling by regrets, told for both -/
theorem ckE_some {E : ES} {p r : Nat} : ∀ (n : Nat) {j : Nat} {b : Int32}, ckE E p r n = some (j, b) → j < n ∧ canIn E r j p ∧ b = adC E p r j := by
  intro n
  induction n with
  | zero => intro j b h; cases h
  | succ n ih =>
    intro j b h
    by_cases hc : canIn E r n p
    · rw [ckE_succ_t hc] at h
      cases e : ckE E p r n with
      | none =>
        rw [e] at h
        cases h
        exact ⟨by omega, hc, rfl⟩
      | some x =>
        rw [e] at h
        dsimp only at h
        split at h
        · cases h
          exact ⟨by omega, hc, rfl⟩
        · cases h
          have := ih e
          exact ⟨by omega, this.2⟩
    · rw [ckE_succ_f hc] at h
      have := ih h
      exact ⟨by omega, this.2⟩
theorem wg_some {E : ES} {p lo : Nat} : ∀ (n : Nat) {r k : Nat} {a g : Int32}, wg E p lo n = some (r, k, a, g) → r < lo + n ∧ cE E p r = some (k, a) := by
  intro n
  induction n with
  | zero => intro r k a g h; cases h
  | succ n ih =>
    intro r k a g h
    change wst (wg E p lo n) (lo + n) (cE E p (lo + n)) = _ at h
    cases e : cE E p (lo + n) with
    | none =>
      rw [e] at h
      have := ih (show wg E p lo n = some (r, k, a, g) from h)
      exact ⟨by omega, this.2⟩
    | some y =>
      obtain ⟨k1, a1⟩ := y
      rw [e] at h
      cases f : wg E p lo n with
      | none =>
        rw [f] at h
        change some (lo + n, k1, a1, nI 10000) = _ at h
        cases h
        exact ⟨by omega, e⟩
      | some z =>
        obtain ⟨r0, k0, a0, g0⟩ := z
        rw [f] at h
        change (if a1 < a0 then some (lo + n, k1, a1, a0 - a1) else if a1 - a0 < g0 then some (r0, k0, a0, a1 - a0) else some (r0, k0, a0, g0)) = _ at h
        have hi := ih f
        split at h
        · cases h
          exact ⟨by omega, e⟩
        · split at h
          · cases h
            exact ⟨by omega, hi.2⟩
          · cases h
            exact ⟨by omega, hi.2⟩
abbrev Fs : Type := Option (Nat × Nat × Nat × Int32 × Int32)
def fstp (x : Fs) (p : Nat) (w : Wg) : Fs := match w with
  | none => x
  | some (r, k, a, g) => match x with
    | none => some (p, r, k, a, g)
    | some (p0, r0, k0, a0, g0) => if g0 < g ∨ g = g0 ∧ a < a0 then some (p, r, k, a, g) else some (p0, r0, k0, a0, g0)
/-- the stop to be put in next -/
def fs (E : ES) : Nat → Fs
  | 0 => none
  | p + 1 => if rof (eL E) p = -nI 5 then fstp (fs E p) p (wg E p 0 4) else fs E p
theorem fs_t {E : ES} {p : Nat} (h : rof (eL E) p = -nI 5) : fs E (p + 1) = fstp (fs E p) p (wg E p 0 4) := if_pos h
theorem fs_f {E : ES} {p : Nat} (h : rof (eL E) p ≠ -nI 5) : fs E (p + 1) = fs E p := if_neg h
theorem fs_some {E : ES} : ∀ (n : Nat) {p r k : Nat} {a g : Int32}, fs E n = some (p, r, k, a, g) → p < n ∧ rof (eL E) p = -nI 5 ∧ wg E p 0 4 = some (r, k, a, g) := by
  intro n
  induction n with
  | zero => intro p r k a g h; cases h
  | succ n ih =>
    intro p r k a g h
    by_cases hr : rof (eL E) n = -nI 5
    · rw [fs_t hr] at h
      cases e : wg E n 0 4 with
      | none =>
        rw [e] at h
        have := ih (show fs E n = _ from h)
        exact ⟨by omega, this.2⟩
      | some y =>
        obtain ⟨r1, k1, a1, g1⟩ := y
        rw [e] at h
        cases f : fs E n with
        | none =>
          rw [f] at h
          change some (n, r1, k1, a1, g1) = _ at h
          cases h
          exact ⟨by omega, hr, e⟩
        | some z =>
          obtain ⟨p0, r0, k0, a0, g0⟩ := z
          rw [f] at h
          change (if g0 < g1 ∨ g1 = g0 ∧ a1 < a0 then some (n, r1, k1, a1, g1) else some (p0, r0, k0, a0, g0)) = _ at h
          have hi := ih f
          split at h
          · cases h
            exact ⟨by omega, hr, e⟩
          · cases h
            exact ⟨by omega, hi.2⟩
    · rw [fs_f hr] at h
      have := ih h
      exact ⟨by omega, this.2⟩
theorem loose_out {L : Nat → List Nat} {p : Nat} (h : rof L p = -nI 5) : ∀ r, r < 4 → p ∉ L r := by
  rcases rof_or L p with ⟨a, ha, -, -, e⟩ | ⟨hn, -⟩
  · rw [e] at h
    exact absurd h (nI_ne_m5 (by omega))
  · exact hn
/-- all that is known of the one chosen -/
theorem fs_ok {E : ES} (hI : GI E) {p r k : Nat} {a g : Int32} (h : fs E (eN E) = some (p, r, k, a, g)) : p < eN E ∧ (∀ r, r < 4 → p ∉ eL E r) ∧ r < 4 ∧ k ≤ (eL E r).length ∧ GI (eIn E r k p) := by
  obtain ⟨hp, hl, hw⟩ := fs_some _ h
  obtain ⟨hr, hc⟩ := wg_some _ hw
  obtain ⟨hk, hcan, -⟩ := ckE_some _ hc
  have hm := loose_out hl
  have hr' : r < 4 := by omega
  refine ⟨hp, hm, hr', by omega, hI.1.ins hp hr' hm, fun r' h4 => ?_⟩
  show eH E r' (fup (eL E) r (ins (eL E r) k p) r')
  by_cases hq : r' = r
  · rw [hq, fup_s]; exact hcan
  · rw [fup_n hq]; exact hI.2 r' h4
def fl (E : ES) : Nat → ES × Nat
  | 0 => (E, 0)
  | n + 1 => match fs E (eN E) with
    | none => (E, 0)
    | some (p, r, k, _, _) => ((fl (eIn E r k p) n).1, (fl (eIn E r k p) n).2 + 1)
theorem fl_none {E : ES} (h : fs E (eN E) = none) : ∀ n, fl E n = (E, 0) := by
  intro n
  cases n with
  | zero => rfl
  | succ n =>
    show (match fs E (eN E) with
      | none => (E, 0)
      | some (p, r, k, _, _) => ((fl (eIn E r k p) n).1, (fl (eIn E r k p) n).2 + 1)) = _
    rw [h]
theorem fl_some {E : ES} {p r k : Nat} {a g : Int32} (h : fs E (eN E) = some (p, r, k, a, g)) (n : Nat) : fl E (n + 1) = ((fl (eIn E r k p) n).1, (fl (eIn E r k p) n).2 + 1) := by
  show (match fs E (eN E) with
    | none => (E, 0)
    | some (p, r, k, _, _) => ((fl (eIn E r k p) n).1, (fl (eIn E r k p) n).2 + 1)) = _
  rw [h]
/-- how many are in no round -/
def nl (L : Nat → List Nat) : Nat → Nat
  | 0 => 0
  | m + 1 => nl L m + if rof L m = -nI 5 then 1 else 0
theorem nl_le (L : Nat → List Nat) : ∀ m, nl L m ≤ m := by
  intro m
  induction m with
  | zero => exact Nat.le_refl _
  | succ m ih =>
    show nl L m + (if rof L m = -nI 5 then 1 else 0) ≤ m + 1
    split <;> omega
theorem nl_zero {E : ES} : ∀ (m : Nat), nl (eL E) m = 0 → fs E m = none := by
  intro m
  induction m with
  | zero => intro _; rfl
  | succ m ih =>
    intro h
    change nl (eL E) m + (if rof (eL E) m = -nI 5 then 1 else 0) = 0 at h
    by_cases hr : rof (eL E) m = -nI 5
    · rw [if_pos hr] at h
      omega
    · rw [if_neg hr] at h
      rw [fs_f hr]
      exact ih (by omega)
theorem rof_congr {L M : Nat → List Nat} {p : Nat} (h : ∀ r, r < 4 → (p ∈ L r ↔ p ∈ M r)) : rof L p = rof M p := by
  unfold rof
  simp only [h 0 (by decide), h 1 (by decide), h 2 (by decide), h 3 (by decide)]
theorem nl_ins {E : ES} (hB : GB E) {p r k : Nat} (hp : p < eN E) (hr : r < 4) (hm : ∀ r, r < 4 → p ∉ eL E r) : ∀ m, nl (eL E) m = nl (eL (eIn E r k p)) m + if p < m then 1 else 0 := by
  have hB' : GB (eIn E r k p) := hB.ins hp hr hm
  intro m
  induction m with
  | zero => rfl
  | succ m ih =>
    show nl (eL E) m + (if rof (eL E) m = -nI 5 then 1 else 0) = nl (eL (eIn E r k p)) m + (if rof (eL (eIn E r k p)) m = -nI 5 then 1 else 0) + _
    rw [ih]
    by_cases q : m = p
    · have h1 : rof (eL E) m = -nI 5 := by rw [q]; exact rof_none hm
      have h2 : rof (eL (eIn E r k p)) m = nI r := by
        refine hB'.rof hr ?_
        show m ∈ fup (eL E) r (ins (eL E r) k p) r
        rw [fup_s, q]
        exact mem_ins.mpr (Or.inl rfl)
      rw [if_pos h1, h2, if_neg (nI_ne_m5 (show r < 2 ^ 31 by omega)), if_neg (by omega), if_pos (by omega)]
    · have h1 : rof (eL (eIn E r k p)) m = rof (eL E) m := rof_congr fun r' hr' => by
        show m ∈ fup (eL E) r (ins (eL E r) k p) r' ↔ m ∈ eL E r'
        by_cases h2 : r' = r
        · rw [h2, fup_s, mem_ins]
          exact ⟨fun z => z.resolve_left q, Or.inr⟩
        · rw [fup_n h2]
      rw [h1]
      by_cases h3 : p < m
      · rw [if_pos h3, if_pos (show p < m + 1 by omega)]
        omega
      · rw [if_neg h3, if_neg (show ¬ p < m + 1 by omega)]
        omega
/-- where both stand after so many steps -/
def FlI (E : ES) (i : Nat) (F : ES) : Prop := GI F ∧ eN F = eN E ∧ nl (eL F) (eN F) + i ≤ 16 ∧ fl E 16 = ((fl F (16 - i)).1, i + (fl F (16 - i)).2)
theorem FlI.zero {E : ES} (hI : GI E) : FlI E 0 E := by
  have := nl_le (eL E) (eN E)
  have := hI.1.1
  refine ⟨hI, rfl, by omega, ?_⟩
  show fl E 16 = ((fl E 16).1, 0 + (fl E 16).2)
  rw [Nat.zero_add]
theorem FlI.step {E F : ES} {i : Nat} (h : FlI E i F) {p r k : Nat} {a g : Int32} (hf : fs F (eN F) = some (p, r, k, a, g)) : i < 16 ∧ FlI E (i + 1) (eIn F r k p) := by
  obtain ⟨hp, hm, hr, hk, hG⟩ := fs_ok h.1 hf
  have hn := nl_ins h.1.1 (k := k) hp hr hm (eN F)
  rw [if_pos hp] at hn
  have h3 := h.2.2.1
  refine ⟨by omega, hG, h.2.1, ?_, ?_⟩
  · show nl (eL (eIn F r k p)) (eN F) + (i + 1) ≤ 16
    omega
  · rw [h.2.2.2]
    obtain ⟨d, hd⟩ : ∃ d, 16 - i = d + 1 := ⟨15 - i, by omega⟩
    rw [hd, fl_some hf, show 16 - (i + 1) = d by omega]
    dsimp only
    rw [show i + ((fl (eIn F r k p) d).2 + 1) = i + 1 + (fl (eIn F r k p) d).2 by omega]
theorem FlI.stop {E F : ES} {i : Nat} (h : FlI E i F) (hf : fs F (eN F) = none) : fl E 16 = (F, i) := by
  rw [h.2.2.2, fl_none hf]
  rfl
theorem FlI.last {E F : ES} (h : FlI E 16 F) : fs F (eN F) = none := nl_zero _ (by have := h.2.2.1; omega)
