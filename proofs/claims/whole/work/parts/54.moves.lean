/-! B27: the best of the moves, told for both -/
def Mv : Type := (Nat × Nat × Nat) ⊕ (Nat × Nat × Nat × Nat × Nat) ⊕ (Nat × Nat × Nat × Nat × Nat × Nat)
def Mv.turn (r i j : Nat) : Mv := Sum.inl (r, i, j)
def Mv.shift (p f i r k : Nat) : Mv := Sum.inr (Sum.inl (p, f, i, r, k))
def Mv.swap (p q a i b j : Nat) : Mv := Sum.inr (Sum.inr (p, q, a, i, b, j))
def Mv.ok (E : ES) : Mv → Prop
  | Sum.inl (r, i, j) => r < 4 ∧ i < j ∧ j < (eL E r).length ∧ turnOK E r i j
  | Sum.inr (Sum.inl (p, f, i, r, k)) => shArg E p f i r k ∧ shOK E p f i r k
  | Sum.inr (Sum.inr (p, q, a, i, b, j)) => swArg E p q a i b j ∧ swOK E p q a i b j
def Mv.gain (E : ES) : Mv → Int32
  | Sum.inl (r, i, j) => trn (eD E) (eL E r) i j
  | Sum.inr (Sum.inl (p, f, i, r, k)) => shGain E p f i r k
  | Sum.inr (Sum.inr (p, q, a, i, b, j)) => swGain E p q a i b j
def Mv.kd : Mv → Int32
  | Sum.inl (_, _, _) => nI 1
  | Sum.inr (Sum.inl (_, _, _, _, _)) => nI 2
  | Sum.inr (Sum.inr (_, _, _, _, _, _)) => nI 3
def Mv.a1 : Mv → Int32
  | Sum.inl (r, _, _) => nI r
  | Sum.inr (Sum.inl (p, _, _, _, _)) => nI p
  | Sum.inr (Sum.inr (p, _, _, _, _, _)) => nI p
def Mv.a2 : Mv → Int32
  | Sum.inl (_, i, _) => nI i
  | Sum.inr (Sum.inl (_, _, _, r, _)) => nI r
  | Sum.inr (Sum.inr (_, q, _, _, _, _)) => nI q
def Mv.a3 : Mv → Int32
  | Sum.inl (_, _, j) => nI j
  | Sum.inr (Sum.inl (_, _, _, _, k)) => nI k
  | Sum.inr (Sum.inr (_, _, _, _, _, _)) => -nI 5
/-- the world when it is done -/
def Mv.res (E : ES) : Mv → ES
  | Sum.inl (r, i, j) => eRev E r i j
  | Sum.inr (Sum.inl (p, f, i, r, k)) => eShift E p f i r k
  | Sum.inr (Sum.inr (p, q, a, i, b, j)) => eSwap E p q a i b j
noncomputable def mokB (E : ES) (m : Mv) : Bool := @decide (m.ok E) (Classical.propDecidable _)
theorem mokB_t {E : ES} {m : Mv} (h : m.ok E) : mokB E m = true := by
  unfold mokB
  exact dec_t _ h
theorem mokB_f {E : ES} {m : Mv} (h : ¬ m.ok E) : mokB E m = false := by
  unfold mokB
  exact dec_f _ h
abbrev Fnd : Type := Option Mv
def gainM (E : ES) (x : Fnd) : Int32 := match x with
  | none => nI 0
  | some m => m.gain E
noncomputable def bstM (E : ES) (m : Mv) (x : Fnd) : Fnd := if mokB E m = true ∧ gainM E x < m.gain E then some m else x
/-- what was found is a move that may be done, and gains -/
def FndI (E : ES) (x : Fnd) : Prop := nI 0 ≤ gainM E x ∧ ∀ m, x = some m → m.ok E ∧ nI 0 < m.gain E
theorem FndI_none (E : ES) : FndI E none := ⟨Int32.le_refl _, fun m h => by cases h⟩
theorem FndI_bstM {E : ES} {x : Fnd} (h : FndI E x) (m : Mv) : FndI E (bstM E m x) := by
  unfold bstM
  by_cases q : mokB E m = true ∧ gainM E x < m.gain E
  · rw [if_pos q]
    have hg : nI 0 < m.gain E := Int32.lt_of_le_of_lt h.1 q.2
    refine ⟨Int32.le_of_lt hg, fun m' e => ?_⟩
    cases e
    refine ⟨?_, hg⟩
    by_cases z : m.ok E
    · exact z
    · rw [mokB_f z] at q
      exact absurd q.1 Bool.false_ne_true
  · rw [if_neg q]
    exact h
/-- the class's and the reference's words for it -/
def encV (E : ES) (x : Fnd) (c : T5) : Prop := match x with
  | none => c.1 = -nI 5 ∧ c.2.1 = nI 0
  | some m => c = (m.kd, m.gain E, m.a1, m.a2, m.a3)
theorem encV_gain {E : ES} {x : Fnd} {c : T5} (h : encV E x c) : c.2.1 = gainM E x := by
  cases x with
  | none => exact h.2
  | some m =>
    have h' : c = (m.kd, m.gain E, m.a1, m.a2, m.a3) := h
    rw [h']
    rfl
theorem bstM_ok {E : ES} {x : Fnd} {m : Mv} (h : m.ok E) : bstM E m x = if gainM E x < m.gain E then some m else x := by
  unfold bstM
  rw [mokB_t h]
  by_cases q : gainM E x < m.gain E
  · rw [if_pos ⟨rfl, q⟩, if_pos q]
  · rw [if_neg (fun z => q z.2), if_neg q]
theorem bstM_no {E : ES} {x : Fnd} {m : Mv} (h : ¬ m.ok E) : bstM E m x = x := by
  unfold bstM
  rw [mokB_f h, if_neg (fun z => Bool.false_ne_true z.1)]
theorem bstM_dear {E : ES} {x : Fnd} {m : Mv} (h : ¬ gainM E x < m.gain E) : bstM E m x = x := by
  unfold bstM
  rw [if_neg (fun z => h z.2)]
theorem bstM_yes {E : ES} {x : Fnd} {m : Mv} (h : m.ok E) (q : gainM E x < m.gain E) : bstM E m x = some m := by
  rw [bstM_ok h, if_pos q]
abbrev mvT (mv : Nat → Int32) : T5 := (mv 0, mv 1, mv 2, mv 3, mv 4)
/-- the reference's look at a move: what can't be counts as far below -/
theorem findsM {E : ES} {x : Fnd} {m : Mv} {mv : Nat → Int32} (hI : FndI E x) (h : encV E x (mvT mv)) {v : Int32} (hv : m.ok E ∧ v = m.gain E ∨ ¬ m.ok E ∧ v = -nI 100000) : ∃ mv', f_X8_finds mv m.kd v m.a1 m.a2 m.a3 = some mv' ∧ encV E (bstM E m x) (mvT mv') := by
  have h1 : mv 1 = gainM E x := encV_gain h
  unfold f_X8_finds
  simp only [lI]
  rw [nI_clamp (show 0 < 2 ^ 31 by decide), nI_clamp (show 1 < 2 ^ 31 by decide), nI_clamp (show 2 < 2 ^ 31 by decide), nI_clamp (show 3 < 2 ^ 31 by decide), nI_clamp (show 4 < 2 ^ 31 by decide), h1]
  rcases hv with ⟨ho, rfl⟩ | ⟨ho, rfl⟩
  · rw [bstM_ok ho]
    by_cases q : gainM E x < m.gain E
    · rw [if_pos q, if_pos q]
      refine ⟨_, rfl, ?_⟩
      show mvT _ = (m.kd, m.gain E, m.a1, m.a2, m.a3)
      unfold mvT
      rw [pk_us, pk_un (show 3 ≠ 4 by decide), pk_us, pk_un (show 2 ≠ 4 by decide), pk_un (show 2 ≠ 3 by decide), pk_us, pk_un (show 1 ≠ 4 by decide), pk_un (show 1 ≠ 3 by decide), pk_un (show 1 ≠ 2 by decide), pk_us, pk_un (show 0 ≠ 4 by decide), pk_un (show 0 ≠ 3 by decide), pk_un (show 0 ≠ 2 by decide), pk_un (show 0 ≠ 1 by decide), pk_us]
    · rw [if_neg q, if_neg q]
      exact ⟨mv, rfl, h⟩
  · have q : ¬ gainM E x < -nI 100000 := fun z => absurd (Int32.lt_of_le_of_lt hI.1 z) (by decide)
    rw [bstM_no ho, if_neg q]
    exact ⟨mv, rfl, h⟩
/-- loops over a range -/
def fo {α : Type} (f : Nat → α → α) : Nat → α → α
  | 0, x => x
  | n + 1, x => f n (fo f n x)
theorem fo_succ {α : Type} (f : Nat → α → α) (n : Nat) (x : α) : fo f (n + 1) x = f n (fo f n x) := rfl
theorem FndI_fo {E : ES} {f : Nat → Fnd → Fnd} (h : ∀ n x, FndI E x → FndI E (f n x)) : ∀ n x, FndI E x → FndI E (fo f n x) := by
  intro n
  induction n with
  | zero => intro x hx; exact hx
  | succ n ih => intro x hx; exact h _ _ (ih x hx)
/-- a loop over a range follows its picture; what comes behind it is any -/
theorem lp_fo {κ σ ρ β : Type} {F : κ → (Int32 × σ → Option ρ) → Int32 × σ → Option ρ} {G : κ → σ → Option ρ} (Inv : β → σ → Prop) (f : Nat → β → β) (c0 n : Nat) (hs : ∀ t x S, t < n → Inv x S → ∃ S', Inv (f t x) S' ∧ ∀ q k, F q k (nI (c0 + t), S) = k (nI (c0 + t + 1), S')) (he : ∀ x S, Inv x S → ∀ q k, F q k (nI (c0 + n), S) = G q S) (N : Nat) (hn : n < N) (x : β) (S : σ) (h : Inv x S) : ∃ S', Inv (fo f n x) S' ∧ ∀ q, lp (F q) N (nI c0, S) = G q S' := by
  have key : ∀ (d t : Nat) (N : Nat) (S : σ), t + d = n → d < N → Inv (fo f t x) S → ∃ S', Inv (fo f n x) S' ∧ ∀ q, lp (F q) N (nI (c0 + t), S) = G q S' := by
    intro d
    induction d with
    | zero =>
      intro t N S ht hN hI
      obtain ⟨N, rfl⟩ : ∃ k, N = k + 1 := ⟨N - 1, by omega⟩
      obtain rfl : t = n := by omega
      exact ⟨S, hI, fun q => he _ S hI q _⟩
    | succ d ih =>
      intro t N S ht hN hI
      obtain ⟨N, rfl⟩ : ∃ k, N = k + 1 := ⟨N - 1, by omega⟩
      obtain ⟨S1, h1, h2⟩ := hs t _ S (by omega) hI
      obtain ⟨S', h3, h4⟩ := ih (t + 1) N S1 (by omega) (by omega) h1
      exact ⟨S', h3, fun q => (h2 q _).trans (h4 q)⟩
  exact key n 0 N S (by omega) hn h
theorem lp_f0 {κ σ ρ β : Type} {F : κ → (Int32 × σ → Option ρ) → Int32 × σ → Option ρ} {G : κ → σ → Option ρ} (Inv : β → σ → Prop) (f : Nat → β → β) (n : Nat) (hs : ∀ t x S, t < n → Inv x S → ∃ S', Inv (f t x) S' ∧ ∀ q k, F q k (nI t, S) = k (nI (t + 1), S')) (he : ∀ x S, Inv x S → ∀ q k, F q k (nI n, S) = G q S) (N : Nat) (hn : n < N) (x : β) (S : σ) (h : Inv x S) : ∃ S', Inv (fo f n x) S' ∧ ∀ q, lp (F q) N (nI 0, S) = G q S' :=
  lp_fo Inv f 0 n (fun t x S ht hI => by rw [Nat.zero_add]; exact hs t x S ht hI) (fun x S hI => by rw [Nat.zero_add]; exact he x S hI) N hn x S h
/-- which round, which place -/
def wr (E : ES) (p : Nat) : Nat := (rof (eL E) p).toNatClampNeg
def wk (E : ES) (p : Nat) : Nat := (eL E (wr E p)).idxOf p
noncomputable def turnsFi (E : ES) (r i : Nat) : Fnd → Fnd := fo (fun d => bstM E (Mv.turn r i (i + 1 + d))) ((eL E r).length - (i + 1))
noncomputable def turnsFr (E : ES) (r : Nat) : Fnd → Fnd := fo (turnsFi E r) (eL E r).length
noncomputable def turnsF (E : ES) : Fnd → Fnd := fo (turnsFr E) 4
noncomputable def shiftsFk (E : ES) (p r : Nat) : Fnd → Fnd := fo (fun k x => if r = wr E p ∧ k = wk E p then x else bstM E (Mv.shift p (wr E p) (wk E p) r k) x) ((eL (eOut E (wr E p) (wk E p)) r).length + 1)
noncomputable def shiftsFp (E : ES) (p : Nat) (x : Fnd) : Fnd := if rof (eL E) p = -nI 5 ∨ eK E p = nI 1 then x else fo (shiftsFk E p) 4 x
noncomputable def shiftsF (E : ES) : Fnd → Fnd := fo (shiftsFp E) (eN E)
noncomputable def swapsFq (E : ES) (p q : Nat) (x : Fnd) : Fnd := if rof (eL E) p = -nI 5 ∨ rof (eL E) q = -nI 5 then x else bstM E (Mv.swap p q (wr E p) (wk E p) (wr E q) (wk E q)) x
noncomputable def swapsFp (E : ES) (p : Nat) : Fnd → Fnd := fo (fun d => swapsFq E p (p + 1 + d)) (eN E - (p + 1))
noncomputable def swapsF (E : ES) : Fnd → Fnd := fo (swapsFp E) (eN E)
noncomputable def bestF (E : ES) : Fnd := swapsF E (shiftsF E (turnsF E none))
theorem wrk {E : ES} {p : Nat} (h : rof (eL E) p ≠ -nI 5) : wr E p < 4 ∧ p ∈ eL E (wr E p) ∧ rof (eL E) p = nI (wr E p) ∧ wk E p < (eL E (wr E p)).length ∧ at_ (eL E (wr E p)) (wk E p) = p := by
  rcases rof_or (eL E) p with ⟨r, hr, hm, -, e⟩ | ⟨-, e⟩
  · have hw : wr E p = r := by
      unfold wr
      rw [e, nI_clamp (by omega)]
    unfold wk
    rw [hw]
    exact ⟨hr, hm, e, List.idxOf_lt_length_iff.mpr hm, at_idx hm⟩
  · exact absurd e h
theorem FndI_turns {E : ES} {x : Fnd} (h : FndI E x) : FndI E (turnsF E x) :=
  FndI_fo (fun _ _ h => FndI_fo (fun _ _ h => FndI_fo (fun _ _ h => FndI_bstM h _) _ _ h) _ _ h) _ _ h
theorem FndI_shifts {E : ES} {x : Fnd} (h : FndI E x) : FndI E (shiftsF E x) := by
  refine FndI_fo (fun p x h => ?_) _ _ h
  show FndI E (shiftsFp E p x)
  unfold shiftsFp
  split
  · exact h
  · refine FndI_fo (fun r x h => ?_) _ _ h
    refine FndI_fo (fun k x h => ?_) _ _ h
    split
    · exact h
    · exact FndI_bstM h _
theorem FndI_swaps {E : ES} {x : Fnd} (h : FndI E x) : FndI E (swapsF E x) := by
  refine FndI_fo (fun p x h => ?_) _ _ h
  refine FndI_fo (fun d x h => ?_) _ _ h
  show FndI E (swapsFq E p (p + 1 + d) x)
  unfold swapsFq
  split
  · exact h
  · exact FndI_bstM h _
theorem FndI_best (E : ES) : FndI E (bestF E) := FndI_swaps (FndI_shifts (FndI_turns (FndI_none E)))
