/-! the law's steps, in both -/
set_option maxRecDepth 100000 in
set_option maxHeartbeats 4000000 in
theorem p_stop {i7 : Nat → Int32} {f7 : Nat → Nat → Int32} {j7 : Nat → Nat → Int64} {i8 : Nat → Int32} {f8 : Nat → Nat → Int32} {j8 : Nat → Nat → Int64} (hR : RlR i7 f7 j7 i8 f8 j8) (x1 : Int32) (x2 : Int32) (x3 : Int32) (x4 : Int32) (x5 : Int32) (x6 : Int32) : ∃ (q7 : (Int32 × (Nat → Int32) × (Nat → Int32) × (Nat → Int32) × Int32)) (q8 : (Int32 × (Nat → Int32))), f_X7_stop (f7 0) (f7 1) (f7 2) (i7 3) x1 x2 x3 x4 x5 x6 = some q7 ∧ f_X8_stop (f8 0) x1 x2 x3 x4 x5 x6 = some q8 ∧ q7.1 = q8.1 ∧ RlR (st i7 3 q7.2.2.2.2) (st (st (st f7 0 q7.2.1) 1 q7.2.2.1) 2 q7.2.2.2.1) j7 i8 (st f8 0 q8.2) j8 := by
  obtain ⟨E, W, n, hI, hC, hM, hP, hW, hw7, hw8, hTK, hKp, hTp, hn, hs7, hs8, hTx⟩ := hR
  have hB := hI.1
  have hN := hB.1
  obtain ⟨E', v, facts', ro', locked', sc', s', r0, r1, r2, r3, r4, r5, r6⟩ := stop_both hI hC hM x1 x2 x3 x4 x5 x6
  exact ⟨_, _, r0, r1, rfl, E', W, n, r2, r3, r4, (hP.low r5 r6), hW, hw7, hw8, hTK, hKp, hTp, hn, hs7, hs8, hTx⟩
set_option maxRecDepth 100000 in
set_option maxHeartbeats 4000000 in
theorem p_feed {i7 : Nat → Int32} {f7 : Nat → Nat → Int32} {j7 : Nat → Nat → Int64} {i8 : Nat → Int32} {f8 : Nat → Nat → Int32} {j8 : Nat → Nat → Int64} (hR : RlR i7 f7 j7 i8 f8 j8) (x1 : Int32) : ∃ (q7 : (Int32 × (Nat → Int32) × Int32)) (q8 : (Int32 × (Nat → Int32) × Int32)), f_X7_feed (f7 52) (i7 68) x1 = some q7 ∧ f_X8_feed (f8 4) (i8 3) x1 = some q8 ∧ q7.1 = q8.1 ∧ RlR (st i7 68 q7.2.2) (st f7 52 q7.2.1) j7 (st i8 3 q8.2.2) (st f8 4 q8.2.1) j8 := by
  obtain ⟨E, W, n, hI, hC, hM, hP, hW, hw7, hw8, hTK, hKp, hTp, hn, hs7, hs8, hTx⟩ := hR
  have hB := hI.1
  have hN := hB.1
  obtain ⟨r, n', sg', tx', r0, r1, r2, r3⟩ := feed_both hn hTx x1
  rw [← hs7] at r2
  rw [← hs8] at r3
  exact ⟨_, _, r2, r3, rfl, E, W, n', hI, hC, hM, hP, hW, hw7, hw8, hTK, hKp, hTp, r0, rfl, rfl, r1⟩
set_option maxRecDepth 100000 in
set_option maxHeartbeats 4000000 in
theorem p_read {i7 : Nat → Int32} {f7 : Nat → Nat → Int32} {j7 : Nat → Nat → Int64} {i8 : Nat → Int32} {f8 : Nat → Nat → Int32} {j8 : Nat → Nat → Int64} (hR : RlR i7 f7 j7 i8 f8 j8) : ∃ (q7 : (Int32 × (Nat → Int32) × (Nat → Int32) × (Nat → Int32) × Int32 × (Nat → Int32) × Int32 × Int32 × Int32 × Int32)) (q8 : (Int32 × (Nat → Int32) × (Nat → Int32) × Int32 × Int32 × Int32)), f_X7_read (f7 0) (f7 1) (f7 2) (i7 3) (f7 52) (f7 53) (i7 68) = some q7 ∧ f_X8_read (f8 0) (f8 4) (f8 5) (i8 3) = some q8 ∧ q7.1 = q8.1 ∧ RlR (st (st (st (st (st i7 3 q7.2.2.2.2.1) 68 q7.2.2.2.2.2.2.1) 69 q7.2.2.2.2.2.2.2.1) 70 q7.2.2.2.2.2.2.2.2.1) 71 q7.2.2.2.2.2.2.2.2.2) (st (st (st (st f7 0 q7.2.1) 1 q7.2.2.1) 2 q7.2.2.2.1) 53 q7.2.2.2.2.2.1) j7 (st (st (st i8 3 q8.2.2.2.1) 4 q8.2.2.2.2.1) 5 q8.2.2.2.2.2) (st (st f8 0 q8.2.1) 5 q8.2.2.1) j8 := by
  obtain ⟨E, W, n, hI, hC, hM, hP, hW, hw7, hw8, hTK, hKp, hTp, hn, hs7, hs8, hTx⟩ := hR
  have hB := hI.1
  have hN := hB.1
  obtain ⟨E', v, facts', ro', locked', sc', F', c', nx', fl', s', R', at', ft', r0, r1, r2, r3, r4, r5, r6⟩ := read_both hI hC hM hn hTx (f7 53) (f8 5)
  rw [← hs7] at r0
  rw [← hs8] at r1
  exact ⟨_, _, r0, r1, rfl, E', W, 0, r2, r3, r4, (hP.low r5 r6), hW, hw7, hw8, hTK, hKp, hTp, Nat.zero_le _, rfl, rfl, fun i hi => absurd hi (Nat.not_lt_zero _)⟩
set_option maxRecDepth 100000 in
set_option maxHeartbeats 4000000 in
theorem p_set {i7 : Nat → Int32} {f7 : Nat → Nat → Int32} {j7 : Nat → Nat → Int64} {i8 : Nat → Int32} {f8 : Nat → Nat → Int32} {j8 : Nat → Nat → Int64} (hR : RlR i7 f7 j7 i8 f8 j8) (x1 : Int32) (x2 : Int32) (x3 : Int32) : ∃ (q7 : (Int32 × (Nat → Int32) × (Nat → Int32) × (Nat → Int32) × (Nat → Int32) × Int32 × Int32 × Int32 × Int32 × Int32 × Int32 × Int32)) (q8 : (Int32 × (Nat → Int32) × (Nat → Int32) × (Nat → Int32) × Int32 × Int32 × Int32)), f_X7_set (f7 0) (f7 1) (f7 3) (f7 4) (f7 5) (i7 3) (i7 4) (f7 36) (f7 37) (f7 38) (i7 21) (i7 22) (i7 23) (i7 24) (i7 25) (i7 26) (i7 27) x1 x2 x3 = some q7 ∧ f_X8_set (f8 0) (f8 6) (f8 7) (i8 6) (i8 7) (i8 9) x1 x2 x3 = some q8 ∧ q7.1 = q8.1 ∧ RlR (st (st (st (st (st (st (st i7 21 q7.2.2.2.2.2.1) 22 q7.2.2.2.2.2.2.1) 23 q7.2.2.2.2.2.2.2.1) 24 q7.2.2.2.2.2.2.2.2.1) 25 q7.2.2.2.2.2.2.2.2.2.1) 26 q7.2.2.2.2.2.2.2.2.2.2.1) 27 q7.2.2.2.2.2.2.2.2.2.2.2) (st (st (st (st f7 0 q7.2.1) 36 q7.2.2.1) 37 q7.2.2.2.1) 38 q7.2.2.2.2.1) j7 (st (st (st i8 6 q8.2.2.2.2.1) 7 q8.2.2.2.2.2.1) 9 q8.2.2.2.2.2.2) (st (st (st f8 0 q8.2.1) 6 q8.2.2.1) 7 q8.2.2.2.1) j8 := by
  obtain ⟨E, W, n, hI, hC, hM, hP, hW, hw7, hw8, hTK, hKp, hTp, hn, hs7, hs8, hTx⟩ := hR
  have hB := hI.1
  have hN := hB.1
  obtain ⟨E', v, facts', z, s', z', r0, r1, r2, r3, r4, r5, r6⟩ := set_both hI hC hM (f7 36) (f7 37) (f7 38) (i7 21) (i7 22) (i7 23) (i7 24) (i7 25) (i7 26) (i7 27) (f8 6) (f8 7) (i8 6) (i8 7) (i8 9) x1 x2 x3
  exact ⟨_, _, r0, r1, rfl, E', W, n, r2, r3, r4, (hP.low r5 (Nat.le_of_eq r6.symm)), hW, hw7, hw8, hTK, hKp, hTp, hn, hs7, hs8, hTx⟩
set_option maxRecDepth 100000 in
set_option maxHeartbeats 4000000 in
theorem p_of {i7 : Nat → Int32} {f7 : Nat → Nat → Int32} {j7 : Nat → Nat → Int64} {i8 : Nat → Int32} {f8 : Nat → Nat → Int32} {j8 : Nat → Nat → Int64} (hR : RlR i7 f7 j7 i8 f8 j8) (x1 : Int32) (x2 : Int32) : ∃ (q7 : (Int32 × (Nat → Int32) × (Nat → Int32) × (Nat → Int32) × (Nat → Int32) × Int32 × Int32 × Int32 × Int32 × Int32 × Int32 × Int32 × Int32)) (q8 : (Int32 × (Nat → Int32) × (Nat → Int32) × (Nat → Int32) × Int32 × Int32 × Int32)), f_X7_of (f7 0) (f7 1) (f7 2) (f7 3) (f7 4) (f7 5) (i7 3) (i7 4) (f7 36) (f7 37) (f7 38) (f7 39) (i7 21) (i7 22) (i7 23) (i7 24) (i7 25) (i7 26) (i7 27) (i7 28) x1 x2 = some q7 ∧ f_X8_of (f8 0) (f8 6) (f8 7) (f8 8) (i8 6) (i8 7) (i8 9) x1 x2 = some q8 ∧ q7.1 = q8.1 ∧ RlR (st (st (st (st (st (st (st (st i7 21 q7.2.2.2.2.2.1) 22 q7.2.2.2.2.2.2.1) 23 q7.2.2.2.2.2.2.2.1) 24 q7.2.2.2.2.2.2.2.2.1) 25 q7.2.2.2.2.2.2.2.2.2.1) 26 q7.2.2.2.2.2.2.2.2.2.2.1) 27 q7.2.2.2.2.2.2.2.2.2.2.2.1) 28 q7.2.2.2.2.2.2.2.2.2.2.2.2) (st (st (st (st f7 36 q7.2.1) 37 q7.2.2.1) 38 q7.2.2.2.1) 39 q7.2.2.2.2.1) j7 (st (st (st i8 6 q8.2.2.2.2.1) 7 q8.2.2.2.2.2.1) 9 q8.2.2.2.2.2.2) (st (st (st f8 6 q8.2.1) 7 q8.2.2.1) 8 q8.2.2.2.1) j8 := by
  obtain ⟨E, W, n, hI, hC, hM, hP, hW, hw7, hw8, hTK, hKp, hTp, hn, hs7, hs8, hTx⟩ := hR
  have hB := hI.1
  have hN := hB.1
  obtain ⟨v, z, z', r0, r1⟩ := of_both hI hC hM (f7 36) (f7 37) (f7 38) (f7 39) (i7 21) (i7 22) (i7 23) (i7 24) (i7 25) (i7 26) (i7 27) (i7 28) (f8 6) (f8 7) (f8 8) (i8 6) (i8 7) (i8 9) x1 x2
  exact ⟨_, _, r0, r1, rfl, E, W, n, hI, hC, hM, hP, hW, hw7, hw8, hTK, hKp, hTp, hn, hs7, hs8, hTx⟩
set_option maxRecDepth 100000 in
set_option maxHeartbeats 4000000 in
theorem p_lock {i7 : Nat → Int32} {f7 : Nat → Nat → Int32} {j7 : Nat → Nat → Int64} {i8 : Nat → Int32} {f8 : Nat → Nat → Int32} {j8 : Nat → Nat → Int64} (hR : RlR i7 f7 j7 i8 f8 j8) (x1 : Int32) (x2 : Int32) (hx : x2 = nI 0 ∨ x2 = nI 1) : ∃ (q7 : (Int32 × (Nat → Int32))) (q8 : (Int32 × (Nat → Int32))), f_X7_lock (f7 1) (f7 2) (i7 3) x1 x2 = some q7 ∧ f_X8_lock (f8 0) x1 x2 = some q8 ∧ q7.1 = q8.1 ∧ RlR i7 (st f7 2 q7.2) j7 i8 (st f8 0 q8.2) j8 := by
  obtain ⟨E, W, n, hI, hC, hM, hP, hW, hw7, hw8, hTK, hKp, hTp, hn, hs7, hs8, hTx⟩ := hR
  have hB := hI.1
  have hN := hB.1
  obtain ⟨E', v, locked', s', r0, r1, r2, r3, r4, r5, r6⟩ := lock_both hI hC hM x1 x2 hx
  exact ⟨_, _, r0, r1, rfl, E', W, n, r2, r3, r4, (hP.low r5 (Nat.le_of_eq r6.symm)), hW, hw7, hw8, hTK, hKp, hTp, hn, hs7, hs8, hTx⟩
set_option maxRecDepth 100000 in
set_option maxHeartbeats 4000000 in
theorem p_depot {i7 : Nat → Int32} {f7 : Nat → Nat → Int32} {j7 : Nat → Nat → Int64} {i8 : Nat → Int32} {f8 : Nat → Nat → Int32} {j8 : Nat → Nat → Int64} (hR : RlR i7 f7 j7 i8 f8 j8) (x1 : Int32) (x2 : Int32) : ∃ (q7 : (Int32 × (Nat → Int32) × (Nat → Int32) × (Nat → Int32) × (Nat → Int32) × Int32 × Int32 × Int32 × Int32 × Int32 × Int32 × Int32)) (q8 : (Int32 × (Nat → Int32) × (Nat → Int32) × (Nat → Int32) × Int32 × Int32 × Int32)), f_X7_depot (f7 0) (f7 3) (f7 4) (f7 5) (i7 4) (f7 36) (f7 37) (f7 38) (i7 21) (i7 22) (i7 23) (i7 24) (i7 25) (i7 26) (i7 27) x1 x2 = some q7 ∧ f_X8_depot (f8 0) (f8 6) (f8 7) (i8 6) (i8 7) (i8 9) x1 x2 = some q8 ∧ q7.1 = q8.1 ∧ RlR (st (st (st (st (st (st (st i7 21 q7.2.2.2.2.2.1) 22 q7.2.2.2.2.2.2.1) 23 q7.2.2.2.2.2.2.2.1) 24 q7.2.2.2.2.2.2.2.2.1) 25 q7.2.2.2.2.2.2.2.2.2.1) 26 q7.2.2.2.2.2.2.2.2.2.2.1) 27 q7.2.2.2.2.2.2.2.2.2.2.2) (st (st (st (st f7 0 q7.2.1) 36 q7.2.2.1) 37 q7.2.2.2.1) 38 q7.2.2.2.2.1) j7 (st (st (st i8 6 q8.2.2.2.2.1) 7 q8.2.2.2.2.2.1) 9 q8.2.2.2.2.2.2) (st (st (st f8 0 q8.2.1) 6 q8.2.2.1) 7 q8.2.2.2.1) j8 := by
  obtain ⟨E, W, n, hI, hC, hM, hP, hW, hw7, hw8, hTK, hKp, hTp, hn, hs7, hs8, hTx⟩ := hR
  have hB := hI.1
  have hN := hB.1
  obtain ⟨E', v, facts', z, s', z', r0, r1, r2, r3, r4, r5, r6⟩ := depot_both hI hC hM (f7 36) (f7 37) (f7 38) (i7 21) (i7 22) (i7 23) (i7 24) (i7 25) (i7 26) (i7 27) (f8 6) (f8 7) (i8 6) (i8 7) (i8 9) x1 x2
  exact ⟨_, _, r0, r1, rfl, E', W, n, r2, r3, r4, (hP.low r5 (Nat.le_of_eq r6.symm)), hW, hw7, hw8, hTK, hKp, hTp, hn, hs7, hs8, hTx⟩
set_option maxRecDepth 100000 in
set_option maxHeartbeats 4000000 in
theorem p_rule {i7 : Nat → Int32} {f7 : Nat → Nat → Int32} {j7 : Nat → Nat → Int64} {i8 : Nat → Int32} {f8 : Nat → Nat → Int32} {j8 : Nat → Nat → Int64} (hR : RlR i7 f7 j7 i8 f8 j8) (x1 : Int32) (x2 : Int32) (x3 : Int32) : ∃ (q7 : (Int32 × (Nat → Int32) × (Nat → Int32) × (Nat → Int32) × (Nat → Int32) × Int32 × Int32 × Int32 × Int32 × Int32 × Int32 × Int32)) (q8 : (Int32 × (Nat → Int32) × (Nat → Int32) × (Nat → Int32) × Int32 × Int32 × Int32)), f_X7_rule (f7 0) (f7 3) (f7 4) (f7 5) (i7 4) (f7 36) (f7 37) (f7 38) (i7 21) (i7 22) (i7 23) (i7 24) (i7 25) (i7 26) (i7 27) x1 x2 x3 = some q7 ∧ f_X8_rule (f8 0) (f8 6) (f8 7) (i8 6) (i8 7) (i8 9) x1 x2 x3 = some q8 ∧ q7.1 = q8.1 ∧ RlR (st (st (st (st (st (st (st i7 21 q7.2.2.2.2.2.1) 22 q7.2.2.2.2.2.2.1) 23 q7.2.2.2.2.2.2.2.1) 24 q7.2.2.2.2.2.2.2.2.1) 25 q7.2.2.2.2.2.2.2.2.2.1) 26 q7.2.2.2.2.2.2.2.2.2.2.1) 27 q7.2.2.2.2.2.2.2.2.2.2.2) (st (st (st (st f7 3 q7.2.1) 36 q7.2.2.1) 37 q7.2.2.2.1) 38 q7.2.2.2.2.1) j7 (st (st (st i8 6 q8.2.2.2.2.1) 7 q8.2.2.2.2.2.1) 9 q8.2.2.2.2.2.2) (st (st (st f8 0 q8.2.1) 6 q8.2.2.1) 7 q8.2.2.2.1) j8 := by
  obtain ⟨E, W, n, hI, hC, hM, hP, hW, hw7, hw8, hTK, hKp, hTp, hn, hs7, hs8, hTx⟩ := hR
  have hB := hI.1
  have hN := hB.1
  obtain ⟨E', v, rules', z, s', z', r0, r1, r2, r3, r4, r5, r6⟩ := rule_both hI hC hM (f7 36) (f7 37) (f7 38) (i7 21) (i7 22) (i7 23) (i7 24) (i7 25) (i7 26) (i7 27) (f8 6) (f8 7) (i8 6) (i8 7) (i8 9) x1 x2 x3
  exact ⟨_, _, r0, r1, rfl, E', W, n, r2, r3, r4, (hP.low r5 (Nat.le_of_eq r6.symm)), hW, hw7, hw8, hTK, hKp, hTp, hn, hs7, hs8, hTx⟩
set_option maxRecDepth 100000 in
set_option maxHeartbeats 4000000 in
theorem p_price {i7 : Nat → Int32} {f7 : Nat → Nat → Int32} {j7 : Nat → Nat → Int64} {i8 : Nat → Int32} {f8 : Nat → Nat → Int32} {j8 : Nat → Nat → Int64} (hR : RlR i7 f7 j7 i8 f8 j8) (x1 : Int32) (x2 : Int32) : ∃ (q7 : (Int32 × Int32 × Int32 × (Nat → Int32) × (Nat → Int32) × (Nat → Int32) × Int32 × Int32 × Int32 × Int32 × Int32 × Int32 × Int32)) (q8 : (Int32 × (Nat → Int32) × (Nat → Int32) × (Nat → Int32) × Int32 × Int32 × Int32)), f_X7_price (f7 0) (f7 3) (f7 4) (f7 5) (i7 4) (i7 5) (f7 36) (f7 37) (f7 38) (i7 21) (i7 22) (i7 23) (i7 24) (i7 25) (i7 26) (i7 27) x1 x2 = some q7 ∧ f_X8_price (f8 0) (f8 6) (f8 7) (i8 6) (i8 7) (i8 9) x1 x2 = some q8 ∧ q7.1 = q8.1 ∧ RlR (st (st (st (st (st (st (st (st (st i7 4 q7.2.1) 5 q7.2.2.1) 21 q7.2.2.2.2.2.2.1) 22 q7.2.2.2.2.2.2.2.1) 23 q7.2.2.2.2.2.2.2.2.1) 24 q7.2.2.2.2.2.2.2.2.2.1) 25 q7.2.2.2.2.2.2.2.2.2.2.1) 26 q7.2.2.2.2.2.2.2.2.2.2.2.1) 27 q7.2.2.2.2.2.2.2.2.2.2.2.2) (st (st (st f7 36 q7.2.2.2.1) 37 q7.2.2.2.2.1) 38 q7.2.2.2.2.2.1) j7 (st (st (st i8 6 q8.2.2.2.2.1) 7 q8.2.2.2.2.2.1) 9 q8.2.2.2.2.2.2) (st (st (st f8 0 q8.2.1) 6 q8.2.2.1) 7 q8.2.2.2.1) j8 := by
  obtain ⟨E, W, n, hI, hC, hM, hP, hW, hw7, hw8, hTK, hKp, hTp, hn, hs7, hs8, hTx⟩ := hR
  have hB := hI.1
  have hN := hB.1
  obtain ⟨E', v, metric', fixed', z, s', z', r0, r1, r2, r3, r4, r5, r6⟩ := price_both hI hC hM (f7 36) (f7 37) (f7 38) (i7 21) (i7 22) (i7 23) (i7 24) (i7 25) (i7 26) (i7 27) (f8 6) (f8 7) (i8 6) (i8 7) (i8 9) x1 x2
  exact ⟨_, _, r0, r1, rfl, E', W, n, r2, r3, r4, (hP.low r5 (Nat.le_of_eq r6.symm)), hW, hw7, hw8, hTK, hKp, hTp, hn, hs7, hs8, hTx⟩
set_option maxRecDepth 100000 in
set_option maxHeartbeats 4000000 in
theorem p_put {i7 : Nat → Int32} {f7 : Nat → Nat → Int32} {j7 : Nat → Nat → Int64} {i8 : Nat → Int32} {f8 : Nat → Nat → Int32} {j8 : Nat → Nat → Int64} (hR : RlR i7 f7 j7 i8 f8 j8) (x1 : Int32) (x2 : Int32) (x3 : Int32) : ∃ (q7 : (Int32 × (Nat → Int32) × (Nat → Int32) × (Nat → Int32) × (Nat → Int32) × (Nat → Int32) × (Nat → Int32) × Int32 × Int32 × Int32 × Int32 × Int32 × Int32 × Int32)) (q8 : (Int32 × (Nat → Int32) × (Nat → Int32) × (Nat → Int32) × Int32 × Int32 × Int32)), f_X7_put (f7 0) (f7 1) (f7 3) (f7 4) (f7 5) (i7 3) (i7 4) (i7 5) (f7 36) (f7 37) (f7 38) (i7 21) (i7 22) (i7 23) (i7 24) (i7 25) (i7 26) (i7 27) x1 x2 x3 = some q7 ∧ f_X8_put (f8 0) (f8 6) (f8 7) (i8 6) (i8 7) (i8 9) x1 x2 x3 = some q8 ∧ q7.1 = q8.1 ∧ RlR (st (st (st (st (st (st (st i7 21 q7.2.2.2.2.2.2.2.1) 22 q7.2.2.2.2.2.2.2.2.1) 23 q7.2.2.2.2.2.2.2.2.2.1) 24 q7.2.2.2.2.2.2.2.2.2.2.1) 25 q7.2.2.2.2.2.2.2.2.2.2.2.1) 26 q7.2.2.2.2.2.2.2.2.2.2.2.2.1) 27 q7.2.2.2.2.2.2.2.2.2.2.2.2.2) (st (st (st (st (st (st f7 1 q7.2.1) 4 q7.2.2.1) 5 q7.2.2.2.1) 36 q7.2.2.2.2.1) 37 q7.2.2.2.2.2.1) 38 q7.2.2.2.2.2.2.1) j7 (st (st (st i8 6 q8.2.2.2.2.1) 7 q8.2.2.2.2.2.1) 9 q8.2.2.2.2.2.2) (st (st (st f8 0 q8.2.1) 6 q8.2.2.1) 7 q8.2.2.2.1) j8 := by
  obtain ⟨E, W, n, hI, hC, hM, hP, hW, hw7, hw8, hTK, hKp, hTp, hn, hs7, hs8, hTx⟩ := hR
  have hB := hI.1
  have hN := hB.1
  obtain ⟨E', v, ro', sizes', rows', z, s', z', r0, r1, r2, r3, r4, r5⟩ := put_both hI hC hM (f7 36) (f7 37) (f7 38) (i7 21) (i7 22) (i7 23) (i7 24) (i7 25) (i7 26) (i7 27) (f8 6) (f8 7) (i8 6) (i8 7) (i8 9) x1 x2 x3
  exact ⟨_, _, r0, r1, rfl, E', W, n, r2, r3, r4, (hP.low r5 (eN_same hI r2 hC r3)), hW, hw7, hw8, hTK, hKp, hTp, hn, hs7, hs8, hTx⟩
set_option maxRecDepth 100000 in
set_option maxHeartbeats 4000000 in
theorem p_take {i7 : Nat → Int32} {f7 : Nat → Nat → Int32} {j7 : Nat → Nat → Int64} {i8 : Nat → Int32} {f8 : Nat → Nat → Int32} {j8 : Nat → Nat → Int64} (hR : RlR i7 f7 j7 i8 f8 j8) (x1 : Int32) : ∃ (q7 : (Int32 × (Nat → Int32) × (Nat → Int32) × (Nat → Int32) × (Nat → Int32) × (Nat → Int32) × (Nat → Int32) × Int32 × Int32 × Int32 × Int32 × Int32 × Int32 × Int32)) (q8 : (Int32 × (Nat → Int32) × (Nat → Int32) × (Nat → Int32) × Int32 × Int32 × Int32)), f_X7_take (f7 0) (f7 1) (f7 2) (f7 3) (f7 4) (f7 5) (i7 3) (i7 4) (i7 5) (f7 36) (f7 37) (f7 38) (i7 21) (i7 22) (i7 23) (i7 24) (i7 25) (i7 26) (i7 27) x1 = some q7 ∧ f_X8_take (f8 0) (f8 6) (f8 7) (i8 6) (i8 7) (i8 9) x1 = some q8 ∧ q7.1 = q8.1 ∧ RlR (st (st (st (st (st (st (st i7 21 q7.2.2.2.2.2.2.2.1) 22 q7.2.2.2.2.2.2.2.2.1) 23 q7.2.2.2.2.2.2.2.2.2.1) 24 q7.2.2.2.2.2.2.2.2.2.2.1) 25 q7.2.2.2.2.2.2.2.2.2.2.2.1) 26 q7.2.2.2.2.2.2.2.2.2.2.2.2.1) 27 q7.2.2.2.2.2.2.2.2.2.2.2.2.2) (st (st (st (st (st (st f7 1 q7.2.1) 4 q7.2.2.1) 5 q7.2.2.2.1) 36 q7.2.2.2.2.1) 37 q7.2.2.2.2.2.1) 38 q7.2.2.2.2.2.2.1) j7 (st (st (st i8 6 q8.2.2.2.2.1) 7 q8.2.2.2.2.2.1) 9 q8.2.2.2.2.2.2) (st (st (st f8 0 q8.2.1) 6 q8.2.2.1) 7 q8.2.2.2.1) j8 := by
  obtain ⟨E, W, n, hI, hC, hM, hP, hW, hw7, hw8, hTK, hKp, hTp, hn, hs7, hs8, hTx⟩ := hR
  have hB := hI.1
  have hN := hB.1
  obtain ⟨E', v, ro', sizes', rows', z, s', z', r0, r1, r2, r3, r4, r5⟩ := take_both hI hC hM (f7 36) (f7 37) (f7 38) (i7 21) (i7 22) (i7 23) (i7 24) (i7 25) (i7 26) (i7 27) (f8 6) (f8 7) (i8 6) (i8 7) (i8 9) x1
  exact ⟨_, _, r0, r1, rfl, E', W, n, r2, r3, r4, (hP.low r5 (eN_same hI r2 hC r3)), hW, hw7, hw8, hTK, hKp, hTp, hn, hs7, hs8, hTx⟩
set_option maxRecDepth 100000 in
set_option maxHeartbeats 4000000 in
theorem p_clear {i7 : Nat → Int32} {f7 : Nat → Nat → Int32} {j7 : Nat → Nat → Int64} {i8 : Nat → Int32} {f8 : Nat → Nat → Int32} {j8 : Nat → Nat → Int64} (hR : RlR i7 f7 j7 i8 f8 j8) (x1 : Int32) : ∃ (q7 : (Int32 × (Nat → Int32) × (Nat → Int32) × (Nat → Int32) × (Nat → Int32) × (Nat → Int32) × (Nat → Int32) × Int32 × Int32 × Int32 × Int32 × Int32 × Int32 × Int32)) (q8 : (Int32 × (Nat → Int32) × (Nat → Int32) × (Nat → Int32) × (Nat → Int32) × Int32 × Int32 × Int32)), f_X7_clear (f7 0) (f7 1) (f7 2) (f7 3) (f7 4) (f7 5) (i7 4) (f7 36) (f7 37) (f7 38) (i7 21) (i7 22) (i7 23) (i7 24) (i7 25) (i7 26) (i7 27) x1 = some q7 ∧ f_X8_clear (f8 0) (f8 3) (f8 6) (f8 7) (i8 6) (i8 7) (i8 9) x1 = some q8 ∧ q7.1 = q8.1 ∧ RlR (st (st (st (st (st (st (st i7 21 q7.2.2.2.2.2.2.2.1) 22 q7.2.2.2.2.2.2.2.2.1) 23 q7.2.2.2.2.2.2.2.2.2.1) 24 q7.2.2.2.2.2.2.2.2.2.2.1) 25 q7.2.2.2.2.2.2.2.2.2.2.2.1) 26 q7.2.2.2.2.2.2.2.2.2.2.2.2.1) 27 q7.2.2.2.2.2.2.2.2.2.2.2.2.2) (st (st (st (st (st (st f7 1 q7.2.1) 4 q7.2.2.1) 5 q7.2.2.2.1) 36 q7.2.2.2.2.1) 37 q7.2.2.2.2.2.1) 38 q7.2.2.2.2.2.2.1) j7 (st (st (st i8 6 q8.2.2.2.2.2.1) 7 q8.2.2.2.2.2.2.1) 9 q8.2.2.2.2.2.2.2) (st (st (st (st f8 0 q8.2.1) 3 q8.2.2.1) 6 q8.2.2.2.1) 7 q8.2.2.2.2.1) j8 := by
  obtain ⟨E, W, n, hI, hC, hM, hP, hW, hw7, hw8, hTK, hKp, hTp, hn, hs7, hs8, hTx⟩ := hR
  have hB := hI.1
  have hN := hB.1
  obtain ⟨E', v, ro', sizes', rows', z, s', z', r0, r1, r2, r3, r4, r5⟩ := clear_both hI hC hM (f7 36) (f7 37) (f7 38) (i7 21) (i7 22) (i7 23) (i7 24) (i7 25) (i7 26) (i7 27) (f8 3) (f8 6) (f8 7) (i8 6) (i8 7) (i8 9) x1
  exact ⟨_, _, r0, r1, rfl, E', W, n, r2, r3, r4, (hP.low r5 (eN_same hI r2 hC r3)), hW, hw7, hw8, hTK, hKp, hTp, hn, hs7, hs8, hTx⟩
