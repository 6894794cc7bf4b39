/-! B27: the best of the moves, told for both -/
def Mv : Type := (Nat × Nat × Nat) ⊕ (Nat × Nat × Nat × Nat × Nat) ⊕ (Nat × Nat × Nat × Nat × Nat × Nat)
def Mv.turn (r i j : Nat) : Mv := Sum.inl (r, i, j)
def Mv.shift (p f i r k : Nat) : Mv := Sum.inr (Sum.inl (p, f, i, r, k))
def Mv.swap (p q a i b j : Nat) : Mv := Sum.inr (Sum.inr (p, q, a, i, b, j))
def Mv.ok (E : ES) : Mv → Prop
  | Sum.inl (r, i, j) => r < 4 ∧ i < j ∧ j < (eL E r).length ∧ turnOK E r i j
  | Sum.inr (Sum.inl (p, f, i, r, k)) => shArg E p f i r k ∧ shOK E p f i r k
  | Sum.inr (Sum.inr (p, q, a, i, b, j)) => swArg E p q a i b j ∧ swOK E p q a i b j
def Mv.gain (E : ES) : Mv → Int32
  | Sum.inl (r, i, j) => trn (eD E) (eL E r) i j
  | Sum.inr (Sum.inl (p, f, i, r, k)) => shGain E p f i r k
  | Sum.inr (Sum.inr (p, q, a, i, b, j)) => swGain E p q a i b j
def Mv.kd : Mv → Int32
  | Sum.inl (_, _, _) => nI 1
  | Sum.inr (Sum.inl (_, _, _, _, _)) => nI 2
  | Sum.inr (Sum.inr (_, _, _, _, _, _)) => nI 3
def Mv.a : Mv → Int32
  | Sum.inl (r, _, _) => nI r
  | Sum.inr (Sum.inl (p, _, _, _, _)) => nI p
  | Sum.inr (Sum.inr (p, _, _, _, _, _)) => nI p
def Mv.b : Mv → Int32
  | Sum.inl (_, i, _) => nI i
  | Sum.inr (Sum.inl (_, _, _, r, _)) => nI r
  | Sum.inr (Sum.inr (_, q, _, _, _, _)) => nI q
def Mv.c : Mv → Int32
  | Sum.inl (_, _, j) => nI j
  | Sum.inr (Sum.inl (_, _, _, _, k)) => nI k
  | Sum.inr (Sum.inr (_, _, _, _, _, _)) => -nI 5
/-- the world when it is done -/
def Mv.eD (E : ES) : Mv → ES
  | Sum.inl (r, i, j) => eRev E r i j
  | Sum.inr (Sum.inl (p, f, i, r, k)) => eShift E p f i r k
  | Sum.inr (Sum.inr (p, q, a, i, b, j)) => eSwap E p q a i b j
noncomputable def okB (E : ES) (m : Mv) : Bool := @decide (m.ok E) (Classical.propDecidable _)
theorem okB_t {E : ES} {m : Mv} (h : m.ok E) : okB E m = true := by
  unfold okB
  exact dec_t _ h
theorem okB_f {E : ES} {m : Mv} (h : ¬ m.ok E) : okB E m = false := by
  unfold okB
  exact dec_f _ h
abbrev Fnd : Type := Option Mv
def gainM (E : ES) (x : Fnd) : Int32 := match x with
  | none => nI 0
  | some m => m.gain E
noncomputable def bstM (E : ES) (m : Mv) (x : Fnd) : Fnd := if okB E m = true ∧ gainM E x < m.gain E then some m else x
/-- what was found is a move that may be done, and gains -/
def FndI (E : ES) (x : Fnd) : Prop := nI 0 ≤ gainM E x ∧ ∀ m, x = some m → m.ok E ∧ nI 0 < m.gain E
theorem FndI_none (E : ES) : FndI E none := ⟨Int32.le_refl _, fun m h => by cases h⟩
theorem FndI_bstM {E : ES} {x : Fnd} (h : FndI E x) (m : Mv) : FndI E (bstM E m x) := by
  unfold bstM
  by_cases q : okB E m = true ∧ gainM E x < m.gain E
  · rw [if_pos q]
    have hg : nI 0 < m.gain E := Int32.lt_of_le_of_lt h.1 q.2
    refine ⟨Int32.le_of_lt hg, fun m' e => ?_⟩
    cases e
    refine ⟨?_, hg⟩
    by_cases z : m.ok E
    · exact z
    · rw [okB_f z] at q
      exact absurd q.1 Bool.false_ne_true
  · rw [if_neg q]
    exact h
/-- the class's and the reference's words for it -/
def encV (E : ES) (x : Fnd) (kd g a b c : Int32) : Prop := g = gainM E x ∧ match x with
  | none => kd = -nI 5
  | some m => kd = m.kd ∧ a = m.a ∧ b = m.b ∧ c = m.c
theorem bstM_ok {E : ES} {x : Fnd} {m : Mv} (h : m.ok E) : bstM E m x = if gainM E x < m.gain E then some m else x := by
  unfold bstM
  rw [okB_t h]
  by_cases q : gainM E x < m.gain E
  · rw [if_pos ⟨rfl, q⟩, if_pos q]
  · rw [if_neg (fun z => q z.2), if_neg q]
theorem bstM_no {E : ES} {x : Fnd} {m : Mv} (h : ¬ m.ok E) : bstM E m x = x := by
  unfold bstM
  rw [okB_f h, if_neg (fun z => Bool.false_ne_true z.1)]
theorem bstM_dear {E : ES} {x : Fnd} {m : Mv} (h : ¬ gainM E x < m.gain E) : bstM E m x = x := by
  unfold bstM
  rw [if_neg (fun z => h z.2)]
/-- the reference's look at a move: what can't be counts as far below -/
theorem findsM {E : ES} {x : Fnd} {m : Mv} {mv : Nat → Int32} (hI : FndI E x) (h : encV E x (mv 0) (mv 1) (mv 2) (mv 3) (mv 4)) {v : Int32} (hv : m.ok E ∧ v = m.gain E ∨ ¬ m.ok E ∧ v = -nI 100000) : ∃ mv', f_X8_finds mv m.kd v m.a m.b m.c = some mv' ∧ encV E (bstM E m x) (mv' 0) (mv' 1) (mv' 2) (mv' 3) (mv' 4) := by
  unfold f_X8_finds
  simp only [lI]
  rw [nI_clamp (show 0 < 2 ^ 31 by decide), nI_clamp (show 1 < 2 ^ 31 by decide), nI_clamp (show 2 < 2 ^ 31 by decide), nI_clamp (show 3 < 2 ^ 31 by decide), nI_clamp (show 4 < 2 ^ 31 by decide), h.1]
  rcases hv with ⟨ho, rfl⟩ | ⟨ho, rfl⟩
  · rw [bstM_ok ho]
    by_cases q : gainM E x < m.gain E
    · rw [if_pos q, if_pos q]
      refine ⟨_, rfl, ?_⟩
      sorry
    · rw [if_neg q, if_neg q]
      exact ⟨mv, rfl, h⟩
  · have q : ¬ gainM E x < -nI 100000 := fun z => absurd (Int32.lt_of_le_of_lt hI.1 z) (by decide)
    rw [bstM_no ho, if_neg q]
    exact ⟨mv, rfl, h⟩
/-- loops over a range -/
def fo {α : Type} (f : Nat → α → α) : Nat → α → α
  | 0, x => x
  | n + 1, x => f n (fo f n x)
theorem fo_succ {α : Type} (f : Nat → α → α) (n : Nat) (x : α) : fo f (n + 1) x = f n (fo f n x) := rfl
theorem FndI_fo {E : ES} {f : Nat → Fnd → Fnd} (h : ∀ n x, FndI E x → FndI E (f n x)) : ∀ n x, FndI E x → FndI E (fo f n x) := by
  intro n
  induction n with
  | zero => intro x hx; exact hx
  | succ n ih => intro x hx; exact h _ _ (ih x hx)
/-- which round, which place -/
def wr (E : ES) (p : Nat) : Nat := (rof (eL E) p).toNatClampNeg
def wk (E : ES) (p : Nat) : Nat := (eL E (wr E p)).idxOf p
noncomputable def turnsF (E : ES) : Fnd → Fnd := fo (fun r => fo (fun i => fo (fun d => bstM E (Mv.turn r i (i + 1 + d))) ((eL E r).length - (i + 1))) (eL E r).length) 4
noncomputable def shiftsF (E : ES) : Fnd → Fnd := fo (fun p x => if rof (eL E) p = -nI 5 ∨ eK E p = nI 1 then x else fo (fun r => fo (fun k x => if r = wr E p ∧ k = wk E p then x else bstM E (Mv.shift p (wr E p) (wk E p) r k) x) ((eL (eOut E (wr E p) (wk E p)) r).length + 1)) 4 x) (eN E)
noncomputable def swapsF (E : ES) : Fnd → Fnd := fo (fun p => fo (fun d x => if rof (eL E) p = -nI 5 ∨ rof (eL E) (p + 1 + d) = -nI 5 then x else bstM E (Mv.swap p (p + 1 + d) (wr E p) (wk E p) (wr E (p + 1 + d)) (wk E (p + 1 + d))) x) (eN E - (p + 1))) (eN E)
noncomputable def bestF (E : ES) : Fnd := swapsF E (shiftsF E (turnsF E none))
theorem wrk {E : ES} {p : Nat} (h : rof (eL E) p ≠ -nI 5) : wr E p < 4 ∧ p ∈ eL E (wr E p) ∧ rof (eL E) p = nI (wr E p) ∧ wk E p < (eL E (wr E p)).length ∧ at_ (eL E (wr E p)) (wk E p) = p := by
  rcases rof_or (eL E) p with ⟨r, hr, hm, -, e⟩ | ⟨-, e⟩
  · have hw : wr E p = r := by
      unfold wr
      rw [e, nI_clamp (by omega)]
    unfold wk
    rw [hw]
    exact ⟨hr, hm, e, List.idxOf_lt_length_iff.mpr hm, at_idx hm⟩
  · exact absurd e h
