/-! the start: what the two constructors leave, and that it is related -/
def i07 : Nat → Int32 := fun k => ([0, (-5 : Int32), 0, 0, 0, 0, 0, 0, 0, 0, 0, 0, 0, 0, 0, 0, 0, 0, 0, 0, 0, 0, 0, 0, 0, 0, 0, 0, 0, 0, 0, 0, 0, 0, 0, 0, 0, 0, 0, 0, 0, 0, 0, 0, 0, 0, 0, 0, 0, 0, 0, 0, 0, 0, 0, 0, 0, 0, 0, 0, 0, 0, 0, 0, 0, 0, 0, 0, 0, 0, 0, 0] : List Int32).getD k 0
def f07 : Nat → Nat → Int32 := fun k => ([(upd (upd (fun _ => 0) 96 (32 : Int32)) 97 (32 : Int32)), (fun _ => 0), (fun _ => 0), (upd (upd (upd (upd (upd (upd (upd (upd (fun _ => 0) 0 (20 : Int32)) 2 (1999 : Int32)) 3 (20 : Int32)) 5 (1999 : Int32)) 6 (20 : Int32)) 8 (1999 : Int32)) 9 (20 : Int32)) 11 (1999 : Int32)), (fun _ => 0), (fun _ => 0), (fun _ => 0), (fun _ => 0), (fun _ => 0), (fun _ => 0), (fun _ => 0), (fun _ => 0), (upd (upd (fun _ => 0) 96 (32 : Int32)) 97 (32 : Int32)), (fun _ => 0), (fun _ => 0), (upd (upd (upd (upd (upd (upd (upd (upd (fun _ => 0) 0 (20 : Int32)) 2 (1999 : Int32)) 3 (20 : Int32)) 5 (1999 : Int32)) 6 (20 : Int32)) 8 (1999 : Int32)) 9 (20 : Int32)) 11 (1999 : Int32)), (fun _ => 0), (fun _ => 0), (fun _ => 0), (fun _ => 0), (fun _ => 0), (fun _ => 0), (fun _ => 0), (fun _ => 0), (upd (upd (fun _ => 0) 96 (32 : Int32)) 97 (32 : Int32)), (fun _ => 0), (fun _ => 0), (upd (upd (upd (upd (upd (upd (upd (upd (fun _ => 0) 0 (20 : Int32)) 2 (1999 : Int32)) 3 (20 : Int32)) 5 (1999 : Int32)) 6 (20 : Int32)) 8 (1999 : Int32)) 9 (20 : Int32)) 11 (1999 : Int32)), (fun _ => 0), (fun _ => 0), (fun _ => 0), (fun _ => 0), (fun _ => 0), (fun _ => 0), (fun _ => 0), (fun _ => 0), (fun _ => 0), (fun _ => 0), (fun _ => 0), (fun _ => 0), (fun _ => 0), (fun _ => 0), (fun _ => 0), (fun _ => 0), (fun _ => 0), (fun _ => 0), (fun _ => 0), (fun _ => 0), (fun _ => 0), (fun _ => 0), (fun _ => 0), (fun _ => 0), (fun _ => 0), (fun _ => 0), (upd (upd (upd (upd (upd (upd (fun _ => 0) (0 : Int32).toNatClampNeg (-1 : Int32)) (1 : Int32).toNatClampNeg (-1 : Int32)) (2 : Int32).toNatClampNeg (-1 : Int32)) (3 : Int32).toNatClampNeg (-1 : Int32)) (4 : Int32).toNatClampNeg (-1 : Int32)) (5 : Int32).toNatClampNeg (-1 : Int32)), (fun _ => 0)] : List (Nat → Int32)).getD k (fun _ => 0)
def j07 : Nat → Nat → Int64 := fun k => ([(fun _ => 0)] : List (Nat → Int64)).getD k (fun _ => 0)
def i08 : Nat → Int32 := fun k => ([0, 0, 0, 0, 0, 0, 0, 0, 0, 0, 0, 0, 0, 0, 0] : List Int32).getD k 0
def f08 : Nat → Nat → Int32 := fun k => ([(upd (upd (upd (upd (upd (upd (upd (upd (upd (upd (fun _ => 0) (0 : Int32).toNatClampNeg (32 : Int32)) (1 : Int32).toNatClampNeg (32 : Int32)) (((178 : Int32) + ((20 : Int32) * (0 : Int32))) + (0 : Int32)).toNatClampNeg (20 : Int32)) (((178 : Int32) + ((20 : Int32) * (0 : Int32))) + (2 : Int32)).toNatClampNeg (1999 : Int32)) (((178 : Int32) + ((20 : Int32) * (1 : Int32))) + (0 : Int32)).toNatClampNeg (20 : Int32)) (((178 : Int32) + ((20 : Int32) * (1 : Int32))) + (2 : Int32)).toNatClampNeg (1999 : Int32)) (((178 : Int32) + ((20 : Int32) * (2 : Int32))) + (0 : Int32)).toNatClampNeg (20 : Int32)) (((178 : Int32) + ((20 : Int32) * (2 : Int32))) + (2 : Int32)).toNatClampNeg (1999 : Int32)) (((178 : Int32) + ((20 : Int32) * (3 : Int32))) + (0 : Int32)).toNatClampNeg (20 : Int32)) (((178 : Int32) + ((20 : Int32) * (3 : Int32))) + (2 : Int32)).toNatClampNeg (1999 : Int32)), (fun _ => 0), (fun _ => 0), (fun _ => 0), (fun _ => 0), (fun _ => 0), (fun _ => 0), (fun _ => 0), (fun _ => 0), (fun _ => 0), (upd (upd (upd (upd (upd (upd (fun _ => 0) (0 : Int32).toNatClampNeg (-1 : Int32)) (1 : Int32).toNatClampNeg (-1 : Int32)) (2 : Int32).toNatClampNeg (-1 : Int32)) (3 : Int32).toNatClampNeg (-1 : Int32)) (4 : Int32).toNatClampNeg (-1 : Int32)) (5 : Int32).toNatClampNeg (-1 : Int32)), (fun _ => 0)] : List (Nat → Int32)).getD k (fun _ => 0)
def j08 : Nat → Nat → Int64 := fun k => ([(fun _ => 0), (fun _ => 0)] : List (Nat → Int64)).getD k (fun _ => 0)
def u0A (q : Nat) (u : Nat → Nat) : Nat → Nat := fun k => match k with | 0 => q | k + 1 => u k
def E00 : ES := (0, fun _ => [], fun _ _ => nI 32, fun _ => nI 0, fun _ w => if w = 0 then nI 20 else if w = 1 then nI 0 else nI 1999, nI 0, nI 0)
theorem GI_E00 : GI E00 := by
  refine ⟨⟨Nat.zero_le _, Or.inl rfl, ⟨0, by decide, rfl⟩, fun q _ u _ => ⟨32, by decide, rfl⟩, fun p hp => absurd hp (Nat.not_lt_zero _), fun p hp => absurd hp (Nat.not_lt_zero _), fun r _ w _ => ?_, fun r _ => ⟨List.nodup_nil, fun p hp => absurd hp List.not_mem_nil⟩, fun r r' _ _ _ p hp => absurd hp List.not_mem_nil⟩, fun r _ => ⟨fun k hk => absurd hk (Nat.not_lt_zero _), Or.inl rfl, ?_⟩⟩
  · show nB 1999 (if w = 0 then nI 20 else if w = 1 then nI 0 else nI 1999)
    by_cases z : w = 0
    · rw [if_pos z]
      exact ⟨20, by decide, rfl⟩
    · rw [if_neg z]
      by_cases z1 : w = 1
      · rw [if_pos z1]
        exact ⟨0, by decide, rfl⟩
      · rw [if_neg z1]
        exact ⟨1999, by decide, rfl⟩
  · show (0 : Int32) ≤ nI 20
    decide
theorem CW_E00 : CW E00 (f07 0) (f07 1) (f07 2) (f07 3) (f07 4) (f07 5) (i07 3) (i07 4) (i07 5) := by
  have h1 : ∀ r, r < 4 → ∀ w, w < 3 → f07 3 (3 * r + w) = (if w = 0 then nI 20 else if w = 1 then nI 0 else nI 1999) := by decide +kernel
  have h2 : ∀ r, r < 4 → f07 4 r = nI 0 := by decide +kernel
  have h3 : f07 0 96 = nI 32 := by decide +kernel
  have h4 : f07 0 97 = nI 32 := by decide +kernel
  exact ⟨rfl, rfl, rfl, ⟨fun q hq => absurd hq (Nat.not_lt_zero _), h3, h4⟩, fun p hp => absurd hp (Nat.not_lt_zero _), fun p hp => absurd hp (Nat.not_lt_zero _), h1, fun r hr => ⟨h2 r hr, fun k hk => absurd hk (Nat.not_lt_zero _)⟩⟩
theorem MW_E00 : MW E00 (f08 0) := by
  have h1 : ∀ r, r < 4 → ∀ w, w < 3 → f08 0 (178 + 20 * r + w) = (if w = 0 then nI 20 else if w = 1 then nI 0 else nI 1999) := by decide +kernel
  have h2 : ∀ r, r < 4 → f08 0 (178 + 20 * r + 3) = nI 0 := by decide +kernel
  have h3 : f08 0 0 = nI 32 := by decide +kernel
  have h4 : f08 0 1 = nI 32 := by decide +kernel
  have h5 : f08 0 4 = nI 0 := by decide +kernel
  have h6 : f08 0 2 = nI 0 := by decide +kernel
  have h7 : f08 0 3 = nI 0 := by decide +kernel
  exact ⟨h5, h6, h7, ⟨fun q hq => absurd hq (Nat.not_lt_zero _), h3, h4⟩, fun p hp => absurd hp (Nat.not_lt_zero _), h1, fun r hr => ⟨h2 r hr, fun k hk => absurd hk (Nat.not_lt_zero _)⟩⟩
theorem PS_E00 (sl sr pl pr bl br : Nat → Int32) : PS 0 sl sr (nI 0) pl pr (nI 0) bl br (nI 0) (f08 0) := by
  have h5 : f08 0 5 = nI 0 := by decide +kernel
  have h6 : f08 0 6 = nI 0 := by decide +kernel
  have h7 : f08 0 7 = nI 0 := by decide +kernel
  exact ⟨⟨0, Nat.zero_le _, rfl, h5, fun i hi => absurd hi (Nat.not_lt_zero _)⟩, ⟨0, Nat.zero_le _, rfl, h6, fun i hi => absurd hi (Nat.not_lt_zero _)⟩, ⟨0, Nat.zero_le _, rfl, h7, fun i hi => absurd hi (Nat.not_lt_zero _)⟩, fun i hi h => absurd h (nI_lt0 (by omega)), fun i hi h => absurd h (nI_lt0 (by omega)), fun i hi h => absurd h (nI_lt0 (by omega))⟩
theorem Tp_E00 : TpR (f07 54) (fun _ => 0) (fun _ => 0) (f08 10) (fun _ => 0) (fun _ => 0) := by
  have h1 : ∀ t, t < 6 → (f07 54) t = -nI 1 := by decide +kernel
  have h2 : ∀ t, t < 6 → (f08 10) t = -nI 1 := by decide +kernel
  intro t ht
  exact ⟨(h2 t ht).trans (h1 t ht).symm, rfl, 0, Nat.zero_le _, rfl, Or.inl ⟨h1 t ht, rfl⟩, fun i hi => absurd hi (Nat.not_lt_zero _)⟩
theorem RlR_E00 : RlR i07 f07 j07 i08 f08 j08 :=
  ⟨E00, 0, 0, GI_E00, CW_E00, MW_E00, PS_E00 _ _ _ _ _ _, Nat.zero_le _, rfl, rfl, Or.inl ⟨rfl, rfl⟩, Or.inl ⟨rfl, rfl⟩, Tp_E00, Nat.zero_le _, rfl, rfl, fun i hi => absurd hi (Nat.not_lt_zero _)⟩
theorem start_ws (G : GE) (q q2 : Nat) (u u2 : Nat → Nat) : wn_X7_init G q u ++ wn_X8_init G q2 u2 = wL G (u0A q u) (u0A q2 u2) i07 f07 j07 i08 f08 j08 := rfl
