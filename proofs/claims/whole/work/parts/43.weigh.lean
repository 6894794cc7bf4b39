/-! B16: the cheapest place -/
theorem lp_to {σ ρ : Type} {F : (σ → Option ρ) → σ → Option ρ} (I : Nat → σ → Prop) (Post : Option ρ → Prop) (m : Nat) (hs : ∀ i x, i < m → I i x → (∃ x', I (i + 1) x' ∧ ∀ k, F k x = k x') ∨ (∃ R, Post R ∧ ∀ k, F k x = R)) (he : ∀ x, I m x → ∃ R, Post R ∧ ∀ k, F k x = R) : ∀ (n : Nat) (x : σ), m < n → I 0 x → Post (lp F n x) := by
  have key : ∀ (d i : Nat) (n : Nat) (x : σ), i + d = m → d < n → I i x → Post (lp F n x) := by
    intro d
    induction d with
    | zero =>
      intro i n x hi hn hI
      obtain ⟨n, rfl⟩ : ∃ k, n = k + 1 := ⟨n - 1, by omega⟩
      obtain rfl : i = m := by omega
      obtain ⟨R, h1, h2⟩ := he x hI
      show Post (F (lp F n) x)
      rw [h2]; exact h1
    | succ d ih =>
      intro i n x hi hn hI
      obtain ⟨n, rfl⟩ : ∃ k, n = k + 1 := ⟨n - 1, by omega⟩
      show Post (F (lp F n) x)
      rcases hs i x (by omega) hI with ⟨x', h1, h2⟩ | ⟨R, h1, h2⟩
      · rw [h2]; exact ih (i + 1) n x' (by omega) (by omega) h1
      · rw [h2]; exact h1
  intro n x hn hI
  exact key m 0 n x (by omega) hn hI
theorem lp_toK {κ σ ρ : Type} {F : κ → (σ → Option ρ) → σ → Option ρ} (I : Nat → σ → Prop) (Post : (κ → Option ρ) → Prop) (m : Nat) (hs : ∀ i x, i < m → I i x → (∃ x', I (i + 1) x' ∧ ∀ q k, F q k x = k x') ∨ (∃ R, Post R ∧ ∀ q k, F q k x = R q)) (he : ∀ x, I m x → ∃ R, Post R ∧ ∀ q k, F q k x = R q) : ∀ (n : Nat) (x : σ), m < n → I 0 x → Post (fun q => lp (F q) n x) := by
  have key : ∀ (d i : Nat) (n : Nat) (x : σ), i + d = m → d < n → I i x → Post (fun q => lp (F q) n x) := by
    intro d
    induction d with
    | zero =>
      intro i n x hi hn hI
      obtain ⟨n, rfl⟩ : ∃ k, n = k + 1 := ⟨n - 1, by omega⟩
      obtain rfl : i = m := by omega
      obtain ⟨R, h1, h2⟩ := he x hI
      have : (fun q => lp (F q) (n + 1) x) = R := funext fun q => h2 q _
      rw [this]; exact h1
    | succ d ih =>
      intro i n x hi hn hI
      obtain ⟨n, rfl⟩ : ∃ k, n = k + 1 := ⟨n - 1, by omega⟩
      rcases hs i x (by omega) hI with ⟨x', h1, h2⟩ | ⟨R, h1, h2⟩
      · have : (fun q => lp (F q) (n + 1) x) = fun q => lp (F q) n x' := funext fun q => h2 q _
        rw [this]; exact ih (i + 1) n x' (by omega) (by omega) h1
      · have : (fun q => lp (F q) (n + 1) x) = R := funext fun q => h2 q _
        rw [this]; exact h1
  intro n x hn hI
  exact key m 0 n x (by omega) hn hI
def canB (E : ES) (r k p : Nat) : Bool := @decide (canIn E r k p) (by unfold canIn eH HO onT inT; infer_instance)
theorem dec_t {c : Prop} (d : Decidable c) (h : c) : @decide c d = true := decide_eq_true h
theorem dec_f {c : Prop} (d : Decidable c) (h : ¬ c) : @decide c d = false := decide_eq_false h
theorem canB_t {E : ES} {r k p : Nat} (h : canIn E r k p) : canB E r k p = true := by
  unfold canB
  exact dec_t _ h
theorem canB_f {E : ES} {r k p : Nat} (h : ¬ canIn E r k p) : canB E r k p = false := by
  unfold canB
  exact dec_f _ h
abbrev Ck : Type := Option (Nat × Int32)
/-- the cheapest among the first places of a round -/
def ck (c : Nat → Bool) (a : Nat → Int32) : Nat → Ck
  | 0 => none
  | k + 1 => match ck c a k with
    | none => if c k = true then some (k, a k) else none
    | some (j, b) => if c k = true ∧ a k < b then some (k, a k) else some (j, b)
def ckE (E : ES) (p r : Nat) : Nat → Ck := ck (fun k => canB E r k p) (fun k => adC E p r k)
def cE (E : ES) (p r : Nat) : Ck := ckE E p r ((eL E r).length + 1)
def encC (x : Ck) (u v : Int32) : Prop := match x with
  | none => u = -nI 5
  | some (j, b) => u = nI j ∧ v = b ∧ j ≤ 16
def Rg (a : Int32) : Prop := ∃ z, z ≤ 666 ∧ a = nI z - nI 189
def okC (x : Ck) : Prop := ∀ j b, x = some (j, b) → Rg b
theorem ckE_succ_t {E : ES} {p r k : Nat} (h : canIn E r k p) : ckE E p r (k + 1) = match ckE E p r k with
    | none => some (k, adC E p r k)
    | some (j, b) => if adC E p r k < b then some (k, adC E p r k) else some (j, b) := by
  show (match ckE E p r k with
    | none => if canB E r k p = true then some (k, adC E p r k) else none
    | some (j, b) => if canB E r k p = true ∧ adC E p r k < b then some (k, adC E p r k) else some (j, b)) = _
  rw [canB_t h]
  cases ckE E p r k with
  | none => exact if_pos rfl
  | some x =>
    dsimp only
    by_cases h2 : adC E p r k < x.2
    · rw [if_pos ⟨rfl, h2⟩, if_pos h2]
    · rw [if_neg (fun q => h2 q.2), if_neg h2]
theorem ckE_succ_f {E : ES} {p r k : Nat} (h : ¬ canIn E r k p) : ckE E p r (k + 1) = ckE E p r k := by
  show (match ckE E p r k with
    | none => if canB E r k p = true then some (k, adC E p r k) else none
    | some (j, b) => if canB E r k p = true ∧ adC E p r k < b then some (k, adC E p r k) else some (j, b)) = _
  rw [canB_f h]
  cases ckE E p r k with
  | none => exact if_neg Bool.false_ne_true
  | some x =>
    dsimp only
    rw [if_neg (fun q => Bool.false_ne_true q.1)]
theorem ckE_dear {E : ES} {p r k : Nat} {j : Nat} {b : Int32} (h : ckE E p r k = some (j, b)) (hb : ¬ adC E p r k < b) : ckE E p r (k + 1) = some (j, b) := by
  by_cases hc : canIn E r k p
  · rw [ckE_succ_t hc, h]
    exact if_neg hb
  · rw [ckE_succ_f hc, h]
theorem okE {E : ES} (hB : GB E) {p r : Nat} (hp : p < eN E) (hr : r < 4) (n : Nat) : okC (ckE E p r n) := by
  induction n with
  | zero => intro j b h; cases h
  | succ n ih =>
    intro j b h
    by_cases hc : canIn E r n p
    · rw [ckE_succ_t hc] at h
      cases e : ckE E p r n with
      | none =>
        rw [e] at h
        cases h
        exact adC_rng hB hp hr
      | some x =>
        rw [e] at h
        dsimp only at h
        split at h
        · cases h
          exact adC_rng hB hp hr
        · cases h
          exact ih _ _ e
    · rw [ckE_succ_f hc] at h
      exact ih j b h
abbrev Wg : Type := Option (Nat × Nat × Int32 × Int32)
/-- one round more is weighed -/
def wst (w : Wg) (r : Nat) (c : Ck) : Wg := match c with
  | none => w
  | some (k, a) => match w with
    | none => some (r, k, a, nI 10000)
    | some (r0, k0, a0, g) => if a < a0 then some (r, k, a, a0 - a) else if a - a0 < g then some (r0, k0, a0, a - a0) else some (r0, k0, a0, g)
def wg (E : ES) (p lo : Nat) : Nat → Wg
  | 0 => none
  | n + 1 => wst (wg E p lo n) (lo + n) (cE E p (lo + n))
def encW (w : Wg) (u : Int32 × Int32 × Int32 × Int32) : Prop := match w with
  | none => u.1 = -nI 5 ∧ u.2.2.2 = nI 10000
  | some (r, k, a, g) => u = (nI r, nI k, a, g) ∧ r < 4 ∧ k ≤ 16
theorem cmpR {E : ES} {w : Wg} {u : Int32 × Int32 × Int32 × Int32} (h : encW w u) {r k : Nat} (hr : r < 4) (hk : k ≤ 16) (a : Int32) : ∃ u', encW (wst w r (some (k, a))) u' ∧ f_X1_compareRound u.1 u.2.1 u.2.2.1 u.2.2.2 (nI r) (nI k) a = some u' := by
  unfold f_X1_compareRound f_X1_keepRound
  simp only [lI]
  cases w with
  | none =>
    rw [if_pos h.1]
    exact ⟨(nI r, nI k, a, u.2.2.2), ⟨by rw [h.2], hr, hk⟩, rfl⟩
  | some x =>
    obtain ⟨r0, k0, a0, g⟩ := x
    obtain ⟨rfl, h0, h1⟩ := h
    dsimp only
    rw [if_neg (nI_ne_m5 (by omega))]
    show ∃ u', encW (if a < a0 then some (r, k, a, a0 - a) else if a - a0 < g then some (r0, k0, a0, a - a0) else some (r0, k0, a0, g)) u' ∧ _
    by_cases h2 : a < a0
    · rw [if_pos h2, if_neg (Int32.not_le.mpr h2)]
      exact ⟨_, ⟨rfl, hr, hk⟩, rfl⟩
    · rw [if_neg h2, if_pos (Int32.not_lt.mp h2)]
      by_cases h3 : a - a0 < g
      · rw [if_pos h3, if_neg (Int32.not_le.mpr h3)]
        exact ⟨_, ⟨rfl, h0, h1⟩, rfl⟩
      · rw [if_neg h3, if_pos (Int32.not_lt.mp h3)]
        exact ⟨_, ⟨rfl, h0, h1⟩, rfl⟩
section WC
variable {E : ES} {facts ro locked rules sizes rows : Nat → Int32} {sc metric fixed : Int32}
abbrev TD : Type := (Nat → Int32) × (Nat → Int32) × (Nat → Int32) × Int32 × Int32 × Int32 × Int32 × Int32 × Int32 × Int32
abbrev TW : Type := (Nat → Int32) × (Nat → Int32) × (Nat → Int32) × Int32 × Int32 × Int32 × Int32 × Int32 × Int32 × Int32 × Int32 × Int32 × Int32 × Int32
abbrev TK : Type := Int32 × (Nat → Int32) × (Nat → Int32) × (Nat → Int32) × Int32 × Int32 × Int32 × Int32 × Int32 × Int32 × Int32 × Int32 × Int32 × Int32 × Int32
/-- the places of one round -/
theorem weigh39 (hB : GB E) (h : CW E facts ro locked rules sizes rows sc metric fixed) {p r : Nat} (hp : p < eN E) (hr : r < 4) (hm : p ∉ eL E r) (x4 : Int32) {w : Wg} {u : Int32 × Int32 × Int32 × Int32} (hw : encW w u) (row cs bs : Nat → Int32) (rd sz bk lo mi wa la : Int32) : ∃ (row' cs' bs' : Nat → Int32) (rd' sz' bk' lo' mi' wa' la' : Int32) (u' : Int32 × Int32 × Int32 × Int32), encW (wst w r (cE E p r)) u' ∧ ∀ k16, l_X1_weigh_39 k16 (nI p) x4 (nI r) u.1 u.2.1 u.2.2.1 u.2.2.2 facts rules sizes rows metric fixed (-nI 5, nI 0, nI 0, row, cs, bs, rd, sz, bk, lo, mi, wa, la) = k16 (nI (r + 1), row', cs', bs', rd', sz', bk', lo', mi', wa', la', u'.1, u'.2.1, u'.2.2.1, u'.2.2.2) := by
  have hS := (h.2.2.2.2.2.2.2 r hr).1
  have hl := hB.len hr
  have hll := len_lt hB hp hr hm
  unfold l_X1_weigh_39
  refine lp_toK (F := fun (k16 : TK → Option TW) k (x : Int32 × Int32 × Int32 × (Nat → Int32) × (Nat → Int32) × (Nat → Int32) × Int32 × Int32 × Int32 × Int32 × Int32 × Int32 × Int32) => b_X1_weigh_39 k16 (nI p) x4 (nI r) u.1 u.2.1 u.2.2.1 u.2.2.2 facts rules sizes rows metric fixed k x.1 x.2.1 x.2.2.1 x.2.2.2.1 x.2.2.2.2.1 x.2.2.2.2.2.1 x.2.2.2.2.2.2.1 x.2.2.2.2.2.2.2.1 x.2.2.2.2.2.2.2.2.1 x.2.2.2.2.2.2.2.2.2.1 x.2.2.2.2.2.2.2.2.2.2.1 x.2.2.2.2.2.2.2.2.2.2.2.1 x.2.2.2.2.2.2.2.2.2.2.2.2) (fun t x => encC (ckE E p r t) x.1 x.2.1 ∧ x.2.2.1 = nI t) (fun R => ∃ (row' cs' bs' : Nat → Int32) (rd' sz' bk' lo' mi' wa' la' : Int32) (u' : Int32 × Int32 × Int32 × Int32), encW (wst w r (cE E p r)) u' ∧ ∀ k16 : TK → Option TW, R k16 = k16 (nI (r + 1), row', cs', bs', rd', sz', bk', lo', mi', wa', la', u'.1, u'.2.1, u'.2.2.1, u'.2.2.2)) ((eL E r).length + 1) ?_ ?_ fu _ (by unfold fu; omega) ⟨rfl, rfl⟩
  · rintro t ⟨x6, x7, x8, y1, y2, y3, y4, y5, y6, y7, y8, y9, y10⟩ ht ⟨e1, e2⟩
    dsimp only at e1 e2
    subst e2
    refine Or.inl ?_
    obtain ⟨row1, row2, ⟨qv, q2, q3, q4, q5, q6, q7, q8⟩, t1, t2, t3, t4, t5⟩ := tryIn hB h hp hr hm (show t ≤ (eL E r).length by omega) y1 y2 y3
    have b78 : ∀ (k16 : TK → Option TW) k39 a, b_X1_weigh_78 k16 k39 (nI p) x4 (nI r) x6 x7 (nI t) a y1 y2 y3 u.1 u.2.1 u.2.2.1 u.2.2.2 facts rules sizes rows metric fixed = k39 (if qv = nI 0 then x6 else nI t, if qv = nI 0 then x7 else a, nI (t + 1), row2, q2, q3, nI r, nI (ins (eL E r) t p).length, q4, q5, q6, q7, q8) := by
      intro k16 k39 a
      unfold b_X1_weigh_78
      simp only [lI, nI_add]
      rw [t2, Option.bind_some]
      dsimp only
      rw [t3, Option.bind_some]
      dsimp only
      rw [t4, Option.bind_some]
      dsimp only
      by_cases hq : qv = nI 0
      · rw [if_pos hq, if_pos hq, if_pos hq]
      · rw [if_neg hq, if_neg hq, if_neg hq]
    have step : ∀ (k16 : TK → Option TW) k, b_X1_weigh_39 k16 (nI p) x4 (nI r) u.1 u.2.1 u.2.2.1 u.2.2.2 facts rules sizes rows metric fixed k x6 x7 (nI t) y1 y2 y3 y4 y5 y6 y7 y8 y9 y10 = if x6 = -nI 5 ∨ adC E p r t < x7 then k (if qv = nI 0 then x6 else nI t, if qv = nI 0 then x7 else adC E p r t, nI (t + 1), row2, q2, q3, nI r, nI (ins (eL E r) t p).length, q4, q5, q6, q7, q8) else k (x6, x7, nI (t + 1), y1, y2, y3, y4, y5, y6, y7, y8, y9, y10) := by
      intro k16 k
      unfold b_X1_weigh_39
      simp only [lI, nI_add]
      rw [sizeOf_eq sizes hr, Option.bind_some, hS, if_neg (nI_nlt (by omega) (by omega)), addsC hB h hp hr (by omega), Option.bind_some, b78]
      by_cases h5 : x6 = -nI 5
      · rw [if_pos h5, if_pos (Or.inl h5)]
      · rw [if_neg h5]
        by_cases h6 : adC E p r t < x7
        · rw [if_pos h6, if_pos (Or.inr h6)]
        · rw [if_neg h6, if_neg (fun q => q.elim h5 h6)]
    dsimp only at t5
    by_cases hc : x6 = -nI 5 ∨ adC E p r t < x7
    · refine ⟨(if qv = nI 0 then x6 else nI t, if qv = nI 0 then x7 else adC E p r t, nI (t + 1), row2, q2, q3, nI r, nI (ins (eL E r) t p).length, q4, q5, q6, q7, q8), ⟨?_, rfl⟩, fun k16 k => (step k16 k).trans (if_pos hc)⟩
      show encC (ckE E p r (t + 1)) (if qv = nI 0 then x6 else nI t) (if qv = nI 0 then x7 else adC E p r t)
      rcases t5 with ⟨c1, c2⟩ | ⟨c1, c2⟩
      · rw [if_neg (by rw [c2]; decide), if_neg (by rw [c2]; decide), ckE_succ_t c1]
        cases e : ckE E p r t with
        | none => exact ⟨rfl, rfl, by omega⟩
        | some x =>
          rw [e] at e1
          obtain ⟨j, b⟩ := x
          obtain ⟨rfl, rfl, hj⟩ := e1
          dsimp only
          rw [if_pos (hc.resolve_left (nI_ne_m5 (by omega)))]
          exact ⟨rfl, rfl, by omega⟩
      · rw [if_pos c2, if_pos c2, ckE_succ_f c1]
        exact e1
    · refine ⟨(x6, x7, nI (t + 1), y1, y2, y3, y4, y5, y6, y7, y8, y9, y10), ⟨?_, rfl⟩, fun k16 k => (step k16 k).trans (if_neg hc)⟩
      show encC (ckE E p r (t + 1)) x6 x7
      cases e : ckE E p r t with
      | none =>
        rw [e] at e1
        exact absurd (Or.inl e1) hc
      | some x =>
        rw [e] at e1
        obtain ⟨j, b⟩ := x
        have e1' := e1
        obtain ⟨rfl, rfl, hj⟩ := e1
        rw [ckE_dear e (fun q => hc (Or.inr q))]
        exact e1'
  · rintro ⟨x6, x7, x8, y1, y2, y3, y4, y5, y6, y7, y8, y9, y10⟩ ⟨e1, e2⟩
    dsimp only at e1 e2
    subst e2
    have step : ∀ (k16 : TK → Option TW) k, b_X1_weigh_39 k16 (nI p) x4 (nI r) u.1 u.2.1 u.2.2.1 u.2.2.2 facts rules sizes rows metric fixed k x6 x7 (nI ((eL E r).length + 1)) y1 y2 y3 y4 y5 y6 y7 y8 y9 y10 = if x6 = -nI 5 then k16 (nI (r + 1), y1, y2, y3, y4, y5, y6, y7, y8, y9, y10, u.1, u.2.1, u.2.2.1, u.2.2.2) else (f_X1_compareRound u.1 u.2.1 u.2.2.1 u.2.2.2 (nI r) x6 x7).bind fun o => k16 (nI (r + 1), y1, y2, y3, y4, y5, y6, y7, y8, y9, y10, o.1, o.2.1, o.2.2.1, o.2.2.2) := by
      intro k16 k
      unfold b_X1_weigh_39
      simp only [lI, nI_add]
      rw [sizeOf_eq sizes hr, Option.bind_some, hS, if_pos (nI_lt (by omega) (by omega))]
    have hcE : ckE E p r ((eL E r).length + 1) = cE E p r := rfl
    rw [hcE] at e1
    cases e : cE E p r with
    | none =>
      rw [e] at e1
      exact ⟨fun k16 => k16 (nI (r + 1), y1, y2, y3, y4, y5, y6, y7, y8, y9, y10, u.1, u.2.1, u.2.2.1, u.2.2.2), ⟨y1, y2, y3, y4, y5, y6, y7, y8, y9, y10, u, hw, fun _ => rfl⟩, fun k16 k => (step k16 k).trans (if_pos e1)⟩
    | some x =>
      rw [e] at e1
      obtain ⟨j, b⟩ := x
      obtain ⟨rfl, rfl, hj⟩ := e1
      obtain ⟨u', hu, hf⟩ := cmpR (E := E) hw hr hj x7
      refine ⟨fun k16 => k16 (nI (r + 1), y1, y2, y3, y4, y5, y6, y7, y8, y9, y10, u'.1, u'.2.1, u'.2.2.1, u'.2.2.2), ⟨y1, y2, y3, y4, y5, y6, y7, y8, y9, y10, u', hu, fun _ => rfl⟩, fun k16 k => (step k16 k).trans ?_⟩
      rw [if_neg (nI_ne_m5 (by omega)), hf, Option.bind_some]
/-- the rounds from one on -/
theorem weighC (hB : GB E) (h : CW E facts ro locked rules sizes rows sc metric fixed) {p : Nat} (hp : p < eN E) (hm : ∀ r, r < 4 → p ∉ eL E r) {lo n : Nat} (hn : 0 < n) (hlo : lo + n ≤ 4) (row cs bs : Nat → Int32) (rd sz bk ld mi wa la pl ad : Int32) : ∃ (row' cs' bs' : Nat → Int32) (rd' sz' bk' ld' mi' wa' la' : Int32) (u' : Int32 × Int32 × Int32 × Int32), encW (wg E p lo n) u' ∧ f_X1_weigh row cs bs rd sz bk ld mi wa la pl ad facts rules sizes rows metric fixed (nI p) (nI lo) (nI (lo + n - 1)) = some (row', cs', bs', rd', sz', bk', ld', mi', wa', la', u'.1, u'.2.1, u'.2.2.1, u'.2.2.2) := by
  unfold f_X1_weigh l_X1_weigh_16
  simp only [lI]
  refine lp_to (F := fun k (x : TK) => b_X1_weigh_16 (nI p) (nI (lo + n - 1)) facts rules sizes rows metric fixed k x.1 x.2.1 x.2.2.1 x.2.2.2.1 x.2.2.2.2.1 x.2.2.2.2.2.1 x.2.2.2.2.2.2.1 x.2.2.2.2.2.2.2.1 x.2.2.2.2.2.2.2.2.1 x.2.2.2.2.2.2.2.2.2.1 x.2.2.2.2.2.2.2.2.2.2.1 x.2.2.2.2.2.2.2.2.2.2.2.1 x.2.2.2.2.2.2.2.2.2.2.2.2.1 x.2.2.2.2.2.2.2.2.2.2.2.2.2.1 x.2.2.2.2.2.2.2.2.2.2.2.2.2.2) (fun t x => x.1 = nI (lo + t) ∧ encW (wg E p lo t) x.2.2.2.2.2.2.2.2.2.2.2) (fun R => ∃ (row' cs' bs' : Nat → Int32) (rd' sz' bk' ld' mi' wa' la' : Int32) (u' : Int32 × Int32 × Int32 × Int32), encW (wg E p lo n) u' ∧ R = some (row', cs', bs', rd', sz', bk', ld', mi', wa', la', u'.1, u'.2.1, u'.2.2.1, u'.2.2.2)) n ?_ ?_ fu _ (by unfold fu; omega) ⟨rfl, rfl, rfl⟩
  · rintro t ⟨x5, y1, y2, y3, y4, y5, y6, y7, y8, y9, y10, u⟩ ht ⟨e1, e2⟩
    dsimp only at e1 e2
    subst e1
    refine Or.inl ?_
    have step : ∀ k, b_X1_weigh_16 (nI p) (nI (lo + n - 1)) facts rules sizes rows metric fixed k (nI (lo + t)) y1 y2 y3 y4 y5 y6 y7 y8 y9 y10 u.1 u.2.1 u.2.2.1 u.2.2.2 = l_X1_weigh_39 k (nI p) (nI (lo + n - 1)) (nI (lo + t)) u.1 u.2.1 u.2.2.1 u.2.2.2 facts rules sizes rows metric fixed (-nI 5, nI 0, nI 0, y1, y2, y3, y4, y5, y6, y7, y8, y9, y10) := by
      intro k
      unfold b_X1_weigh_16
      simp only [lI]
      rw [if_neg (nI_nlt (by omega) (by omega)), if_neg (nI_ge (by omega) (by omega))]
    obtain ⟨z1, z2, z3, z4, z5, z6, z7, z8, z9, z10, u', g1, g2⟩ := weigh39 hB h hp (show lo + t < 4 by omega) (hm _ (by omega)) (nI (lo + n - 1)) e2 y1 y2 y3 y4 y5 y6 y7 y8 y9 y10
    exact ⟨(nI (lo + t + 1), z1, z2, z3, z4, z5, z6, z7, z8, z9, z10, u'), ⟨rfl, g1⟩, fun k => (step k).trans (g2 k)⟩
  · rintro ⟨x5, y1, y2, y3, y4, y5, y6, y7, y8, y9, y10, u⟩ ⟨e1, e2⟩
    dsimp only at e1 e2
    subst e1
    refine ⟨_, ⟨y1, y2, y3, y4, y5, y6, y7, y8, y9, y10, u, e2, rfl⟩, fun k => ?_⟩
    show b_X1_weigh_16 _ _ _ _ _ _ _ _ k (nI (lo + n)) _ _ _ _ _ _ _ _ _ _ _ _ _ _ = _
    unfold b_X1_weigh_16
    simp only [lI]
    rw [if_pos (nI_lt (by omega) (by omega))]
end WC
