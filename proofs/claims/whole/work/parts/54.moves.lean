/-! B27: the best of the moves, told for both -/
def Mv : Type := (Nat × Nat × Nat) ⊕ (Nat × Nat × Nat × Nat × Nat) ⊕ (Nat × Nat × Nat × Nat × Nat × Nat)
def Mv.turn (r i j : Nat) : Mv := Sum.inl (r, i, j)
def Mv.shift (p f i r k : Nat) : Mv := Sum.inr (Sum.inl (p, f, i, r, k))
def Mv.swap (p q a i b j : Nat) : Mv := Sum.inr (Sum.inr (p, q, a, i, b, j))
