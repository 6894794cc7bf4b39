/-! the law's steps, in both -/
set_option maxRecDepth 100000 in
set_option maxHeartbeats 4000000 in
theorem p_book {i7 : Nat → Int32} {f7 : Nat → Nat → Int32} {j7 : Nat → Nat → Int64} {i8 : Nat → Int32} {f8 : Nat → Nat → Int32} {j8 : Nat → Nat → Int64} (hR : RlR i7 f7 j7 i8 f8 j8) (x1 : Int32) (x2 : Int32) : ∃ (q7 : (Int32 × (Nat → Int32) × (Nat → Int32) × Int32)) (q8 : (Int32 × (Nat → Int32))), f_X7_book (f7 10) (f7 11) (i7 8) x1 x2 = some q7 ∧ f_X8_book (f8 0) x1 x2 = some q8 ∧ q7.1 = q8.1 ∧ RlR (st i7 8 q7.2.2.2) (st (st f7 10 q7.2.1) 11 q7.2.2.1) j7 i8 (st f8 0 q8.2) j8 := by
  obtain ⟨E, W, n, hI, hC, hM, hP, hW, hw7, hw8, hTK, hKp, hTp, hn, hs7, hs8, hTx⟩ := hR
  have hB := hI.1
  have hN := hB.1
  obtain ⟨v, bl', br', bs', s', r0, r1, r2, r3⟩ := book_both hN hM hP x1 x2
  exact ⟨_, _, r0, r1, rfl, E, W, n, hI, hC, r2, r3, hW, hw7, hw8, hTK, hKp, hTp, hn, hs7, hs8, hTx⟩
set_option maxRecDepth 100000 in
set_option maxHeartbeats 4000000 in
theorem p_looked {i7 : Nat → Int32} {f7 : Nat → Nat → Int32} {j7 : Nat → Nat → Int64} {i8 : Nat → Int32} {f8 : Nat → Nat → Int32} {j8 : Nat → Nat → Int64} (hR : RlR i7 f7 j7 i8 f8 j8) : ∃ (q7 : (Int32)) (q8 : (Int32)), f_X7_looked (f7 4) (f7 10) (f7 11) (i7 8) = some q7 ∧ f_X8_looked (f8 0) = some q8 ∧ q7 = q8 ∧ RlR i7 f7 j7 i8 f8 j8 := by
  obtain ⟨E, W, n, hI, hC, hM, hP, hW, hw7, hw8, hTK, hKp, hTp, hn, hs7, hs8, hTx⟩ := hR
  have hB := hI.1
  have hN := hB.1
  obtain ⟨v, r0, r1⟩ := looked_both hC hM hP
  exact ⟨_, _, r0, r1, rfl, E, W, n, hI, hC, hM, hP, hW, hw7, hw8, hTK, hKp, hTp, hn, hs7, hs8, hTx⟩
set_option maxRecDepth 100000 in
set_option maxHeartbeats 4000000 in
theorem p_judge {i7 : Nat → Int32} {f7 : Nat → Nat → Int32} {j7 : Nat → Nat → Int64} {i8 : Nat → Int32} {f8 : Nat → Nat → Int32} {j8 : Nat → Nat → Int64} (hR : RlR i7 f7 j7 i8 f8 j8) (x1 : Int32) (x2 : Int32) (x3 : Int32) : ∃ (q7 : (Int32)) (q8 : (Int32)), f_X7_judge (f7 4) (f7 5) (f7 54) (f7 55) (j7 0) x1 x2 x3 = some q7 ∧ f_X8_judge (f8 0) (f8 10) (f8 11) (j8 0) x1 x2 x3 = some q8 ∧ q7 = q8 ∧ RlR i7 f7 j7 i8 f8 j8 := by
  obtain ⟨E, W, n, hI, hC, hM, hP, hW, hw7, hw8, hTK, hKp, hTp, hn, hs7, hs8, hTx⟩ := hR
  have hB := hI.1
  have hN := hB.1
  obtain ⟨v, r0, r1⟩ := judge_both hB hC hM hTp x1 x2 x3
  exact ⟨_, _, r0, r1, rfl, E, W, n, hI, hC, hM, hP, hW, hw7, hw8, hTK, hKp, hTp, hn, hs7, hs8, hTx⟩
set_option maxRecDepth 100000 in
set_option maxHeartbeats 4000000 in
theorem p_taken {i7 : Nat → Int32} {f7 : Nat → Nat → Int32} {j7 : Nat → Nat → Int64} {i8 : Nat → Int32} {f8 : Nat → Nat → Int32} {j8 : Nat → Nat → Int64} (hR : RlR i7 f7 j7 i8 f8 j8) (x1 : Int32) : ∃ (q7 : (Int32)) (q8 : (Int32)), f_X7_taken (i7 1) x1 = some q7 ∧ f_X8_taken (i8 2) x1 = some q8 ∧ q7 = q8 ∧ RlR i7 f7 j7 i8 f8 j8 := by
  obtain ⟨E, W, n, hI, hC, hM, hP, hW, hw7, hw8, hTK, hKp, hTp, hn, hs7, hs8, hTx⟩ := hR
  have hB := hI.1
  have hN := hB.1
  obtain ⟨v, r0, r1⟩ := taken_both hTK x1
  exact ⟨_, _, r0, r1, rfl, E, W, n, hI, hC, hM, hP, hW, hw7, hw8, hTK, hKp, hTp, hn, hs7, hs8, hTx⟩
set_option maxRecDepth 100000 in
set_option maxHeartbeats 4000000 in
theorem p_image {i7 : Nat → Int32} {f7 : Nat → Nat → Int32} {j7 : Nat → Nat → Int64} {i8 : Nat → Int32} {f8 : Nat → Nat → Int32} {j8 : Nat → Nat → Int64} (hR : RlR i7 f7 j7 i8 f8 j8) : ∃ (q7 : (Int32 × (Nat → Int32) × (Nat → Int32) × (Nat → Int32) × (Nat → Int32) × (Nat → Int32) × (Nat → Int32) × (Nat → Int32) × (Nat → Int32) × Int32 × (Nat → Int32) × (Nat → Int32) × Int32 × (Nat → Int32) × (Nat → Int32) × Int32 × Int32 × Int32 × Int32 × Int32)) (q8 : (Int32 × (Nat → Int32) × Int32)), f_X7_image (f7 0) (f7 1) (f7 2) (f7 3) (f7 4) (f7 5) (f7 6) (f7 7) (i7 6) (f7 8) (f7 9) (i7 7) (f7 10) (f7 11) (i7 8) (i7 3) (i7 4) (i7 5) (f7 12) (f7 13) (f7 14) (f7 15) (f7 16) (f7 17) (f7 18) (f7 19) (f7 20) (f7 21) (f7 22) (f7 23) = some q7 ∧ f_X8_image (f8 0) (f8 1) = some q8 ∧ q7.1 = q8.1 ∧ RlR (st (st (st (st (st (st (st i7 12 q7.2.2.2.2.2.2.2.2.2.1) 13 q7.2.2.2.2.2.2.2.2.2.2.2.2.1) 14 q7.2.2.2.2.2.2.2.2.2.2.2.2.2.2.2.1) 9 q7.2.2.2.2.2.2.2.2.2.2.2.2.2.2.2.2.1) 10 q7.2.2.2.2.2.2.2.2.2.2.2.2.2.2.2.2.2.1) 11 q7.2.2.2.2.2.2.2.2.2.2.2.2.2.2.2.2.2.2.1) 0 q7.2.2.2.2.2.2.2.2.2.2.2.2.2.2.2.2.2.2.2) (st (st (st (st (st (st (st (st (st (st (st (st f7 12 q7.2.1) 13 q7.2.2.1) 14 q7.2.2.2.1) 15 q7.2.2.2.2.1) 16 q7.2.2.2.2.2.1) 17 q7.2.2.2.2.2.2.1) 18 q7.2.2.2.2.2.2.2.1) 19 q7.2.2.2.2.2.2.2.2.1) 20 q7.2.2.2.2.2.2.2.2.2.2.1) 21 q7.2.2.2.2.2.2.2.2.2.2.2.1) 22 q7.2.2.2.2.2.2.2.2.2.2.2.2.2.1) 23 q7.2.2.2.2.2.2.2.2.2.2.2.2.2.2.1) j7 (st i8 0 q8.2.2) (st f8 1 q8.2.1) j8 := by
  obtain ⟨E, W, n, hI, hC, hM, hP, hW, hw7, hw8, hTK, hKp, hTp, hn, hs7, hs8, hTx⟩ := hR
  have hB := hI.1
  have hN := hB.1
  obtain ⟨v, facts', ro', locked', rules', sizes', rows', sl', sr', ss', pl', pr', ps', bl', br', bs', sc', metric', fixed', hk, im', ik, r0, r1, r2⟩ := image_both hI hC hM hP (f7 12) (f7 13) (f7 14) (f7 15) (f7 16) (f7 17) (f7 18) (f7 19) (f7 20) (f7 21) (f7 22) (f7 23) (f8 1)
  exact ⟨_, _, r0, r1, rfl, E, W, n, hI, hC, hM, hP, hW, hw7, hw8, hTK, r2, hTp, hn, hs7, hs8, hTx⟩
set_option maxRecDepth 100000 in
set_option maxHeartbeats 4000000 in
theorem p_undo {i7 : Nat → Int32} {f7 : Nat → Nat → Int32} {j7 : Nat → Nat → Int64} {i8 : Nat → Int32} {f8 : Nat → Nat → Int32} {j8 : Nat → Nat → Int64} (hR : RlR i7 f7 j7 i8 f8 j8) : ∃ (q7 : (Int32 × (Nat → Int32) × (Nat → Int32) × (Nat → Int32) × (Nat → Int32) × (Nat → Int32) × (Nat → Int32) × (Nat → Int32) × (Nat → Int32) × Int32 × (Nat → Int32) × (Nat → Int32) × Int32 × (Nat → Int32) × (Nat → Int32) × Int32 × Int32 × Int32 × Int32)) (q8 : (Int32 × (Nat → Int32))), f_X7_undo (f7 0) (f7 1) (f7 2) (f7 3) (f7 4) (f7 5) (f7 6) (f7 7) (i7 6) (f7 8) (f7 9) (i7 7) (f7 10) (f7 11) (i7 8) (i7 3) (i7 4) (i7 5) (f7 12) (f7 13) (f7 14) (f7 15) (f7 16) (f7 17) (f7 18) (f7 19) (i7 12) (f7 20) (f7 21) (i7 13) (f7 22) (f7 23) (i7 14) (i7 9) (i7 10) (i7 11) (i7 0) = some q7 ∧ f_X8_undo (f8 0) (f8 1) (i8 0) = some q8 ∧ q7.1 = q8.1 ∧ RlR (st (st (st (st (st (st i7 6 q7.2.2.2.2.2.2.2.2.2.1) 7 q7.2.2.2.2.2.2.2.2.2.2.2.2.1) 8 q7.2.2.2.2.2.2.2.2.2.2.2.2.2.2.2.1) 3 q7.2.2.2.2.2.2.2.2.2.2.2.2.2.2.2.2.1) 4 q7.2.2.2.2.2.2.2.2.2.2.2.2.2.2.2.2.2.1) 5 q7.2.2.2.2.2.2.2.2.2.2.2.2.2.2.2.2.2.2) (st (st (st (st (st (st (st (st (st (st (st (st f7 0 q7.2.1) 1 q7.2.2.1) 2 q7.2.2.2.1) 3 q7.2.2.2.2.1) 4 q7.2.2.2.2.2.1) 5 q7.2.2.2.2.2.2.1) 6 q7.2.2.2.2.2.2.2.1) 7 q7.2.2.2.2.2.2.2.2.1) 8 q7.2.2.2.2.2.2.2.2.2.2.1) 9 q7.2.2.2.2.2.2.2.2.2.2.2.1) 10 q7.2.2.2.2.2.2.2.2.2.2.2.2.2.1) 11 q7.2.2.2.2.2.2.2.2.2.2.2.2.2.2.1) j7 i8 (st f8 0 q8.2) j8 := by
  obtain ⟨E, W, n, hI, hC, hM, hP, hW, hw7, hw8, hTK, hKp, hTp, hn, hs7, hs8, hTx⟩ := hR
  have hB := hI.1
  have hN := hB.1
  obtain ⟨E', v, facts', ro', locked', rules', sizes', rows', sl', sr', ss', pl', pr', ps', bl', br', bs', sc', metric', fixed', s', r0, r1, r2, r3, r4, r5⟩ := undo_both hI hC hM hP hKp
  exact ⟨_, _, r0, r1, rfl, E', W, n, r2, r3, r4, r5, hW, hw7, hw8, hTK, hKp, hTp, hn, hs7, hs8, hTx⟩
set_option maxRecDepth 100000 in
set_option maxHeartbeats 4000000 in
theorem p_count {i7 : Nat → Int32} {f7 : Nat → Nat → Int32} {j7 : Nat → Nat → Int64} {i8 : Nat → Int32} {f8 : Nat → Nat → Int32} {j8 : Nat → Nat → Int64} (hR : RlR i7 f7 j7 i8 f8 j8) (x1 : Int32) : ∃ (q7 : (Int32)) (q8 : (Int32)), f_X7_count (i7 6) (i7 7) (i7 8) (i7 3) (i7 68) (i7 2) x1 = some q7 ∧ f_X8_count (f8 0) (i8 1) (i8 3) x1 = some q8 ∧ q7 = q8 ∧ RlR i7 f7 j7 i8 f8 j8 := by
  obtain ⟨E, W, n, hI, hC, hM, hP, hW, hw7, hw8, hTK, hKp, hTp, hn, hs7, hs8, hTx⟩ := hR
  have hB := hI.1
  have hN := hB.1
  obtain ⟨v, r0, r1⟩ := count_both hC.1 hM hP (i7 68) (i7 2) x1
  rw [hw7, hs7, ← hw8, ← hs8] at r1
  exact ⟨_, _, r0, r1, rfl, E, W, n, hI, hC, hM, hP, hW, hw7, hw8, hTK, hKp, hTp, hn, hs7, hs8, hTx⟩
set_option maxRecDepth 100000 in
set_option maxHeartbeats 4000000 in
theorem p_tape {i7 : Nat → Int32} {f7 : Nat → Nat → Int32} {j7 : Nat → Nat → Int64} {i8 : Nat → Int32} {f8 : Nat → Nat → Int32} {j8 : Nat → Nat → Int64} (hR : RlR i7 f7 j7 i8 f8 j8) (x1 : Int32) (x2 : Int32) (x3 : Int32) : ∃ (q7 : (Int32 × (Nat → Int32) × (Nat → Int32) × (Nat → Int64))) (q8 : (Int32 × (Nat → Int32) × (Nat → Int32) × (Nat → Int64))), f_X7_tape (f7 54) (f7 55) (j7 0) x1 x2 x3 = some q7 ∧ f_X8_tape (f8 10) (f8 11) (j8 0) x1 x2 x3 = some q8 ∧ q7.1 = q8.1 ∧ RlR i7 (st (st f7 54 q7.2.1) 55 q7.2.2.1) (st j7 0 q7.2.2.2) i8 (st (st f8 10 q8.2.1) 11 q8.2.2.1) (st j8 0 q8.2.2.2) := by
  obtain ⟨E, W, n, hI, hC, hM, hP, hW, hw7, hw8, hTK, hKp, hTp, hn, hs7, hs8, hTx⟩ := hR
  have hB := hI.1
  have hN := hB.1
  obtain ⟨v, so2, sz2, it2, so3, sz3, ce3, r0, r1, r2⟩ := tape_both hTp x1 x2 x3
  exact ⟨_, _, r0, r1, rfl, E, W, n, hI, hC, hM, hP, hW, hw7, hw8, hTK, hKp, r2, hn, hs7, hs8, hTx⟩
set_option maxRecDepth 100000 in
set_option maxHeartbeats 4000000 in
theorem p_item {i7 : Nat → Int32} {f7 : Nat → Nat → Int32} {j7 : Nat → Nat → Int64} {i8 : Nat → Int32} {f8 : Nat → Nat → Int32} {j8 : Nat → Nat → Int64} (hR : RlR i7 f7 j7 i8 f8 j8) (x1 : Int32) (x2 : Int32) (x3 : Int64) : ∃ (q7 : (Int32 × (Nat → Int64))) (q8 : (Int32 × (Nat → Int64))), f_X7_item (f7 54) (f7 55) (j7 0) x1 x2 x3 = some q7 ∧ f_X8_item (f8 10) (f8 11) (j8 0) x1 x2 x3 = some q8 ∧ q7.1 = q8.1 ∧ RlR i7 f7 (st j7 0 q7.2) i8 f8 (st j8 0 q8.2) := by
  obtain ⟨E, W, n, hI, hC, hM, hP, hW, hw7, hw8, hTK, hKp, hTp, hn, hs7, hs8, hTx⟩ := hR
  have hB := hI.1
  have hN := hB.1
  obtain ⟨v, it2, ce2, r0, r1, r2⟩ := item_both hTp x1 x2 x3
  exact ⟨_, _, r0, r1, rfl, E, W, n, hI, hC, hM, hP, hW, hw7, hw8, hTK, hKp, r2, hn, hs7, hs8, hTx⟩
set_option maxRecDepth 100000 in
set_option maxHeartbeats 4000000 in
theorem p_peek {i7 : Nat → Int32} {f7 : Nat → Nat → Int32} {j7 : Nat → Nat → Int64} {i8 : Nat → Int32} {f8 : Nat → Nat → Int32} {j8 : Nat → Nat → Int64} (hR : RlR i7 f7 j7 i8 f8 j8) (x1 : Int32) (x2 : Int32) : ∃ (q7 : (Int64)) (q8 : (Int64)), f_X7_peek (f7 55) (j7 0) x1 x2 = some q7 ∧ f_X8_peek (f8 10) (f8 11) (j8 0) x1 x2 = some q8 ∧ q7 = q8 ∧ RlR i7 f7 j7 i8 f8 j8 := by
  obtain ⟨E, W, n, hI, hC, hM, hP, hW, hw7, hw8, hTK, hKp, hTp, hn, hs7, hs8, hTx⟩ := hR
  have hB := hI.1
  have hN := hB.1
  obtain ⟨v, r0, r1⟩ := peek_both hTp x1 x2
  exact ⟨_, _, r0, r1, rfl, E, W, n, hI, hC, hM, hP, hW, hw7, hw8, hTK, hKp, hTp, hn, hs7, hs8, hTx⟩
set_option maxRecDepth 100000 in
set_option maxHeartbeats 4000000 in
theorem p_slide {i7 : Nat → Int32} {f7 : Nat → Nat → Int32} {j7 : Nat → Nat → Int64} {i8 : Nat → Int32} {f8 : Nat → Nat → Int32} {j8 : Nat → Nat → Int64} (hR : RlR i7 f7 j7 i8 f8 j8) (x1 : Int32) (x2 : Int32) (x3 : Int32) (x4 : Int32) (x5 : Int32) : ∃ (q7 : (Int32 × (Nat → Int64))) (q8 : (Int32 × (Nat → Int64) × (Nat → Int64))), f_X7_slide (f7 54) (f7 55) (j7 0) x1 x2 x3 x4 x5 = some q7 ∧ f_X8_slide (f8 10) (f8 11) (j8 0) (j8 1) x1 x2 x3 x4 x5 = some q8 ∧ q7.1 = q8.1 ∧ RlR i7 f7 (st j7 0 q7.2) i8 f8 (st (st j8 0 q8.2.1) 1 q8.2.2) := by
  obtain ⟨E, W, n, hI, hC, hM, hP, hW, hw7, hw8, hTK, hKp, hTp, hn, hs7, hs8, hTx⟩ := hR
  have hB := hI.1
  have hN := hB.1
  obtain ⟨v, it2, ce2, ca2, r0, r1, r2⟩ := slide_both hTp (j8 1) x1 x2 x3 x4 x5
  exact ⟨_, _, r0, r1, rfl, E, W, n, hI, hC, hM, hP, hW, hw7, hw8, hTK, hKp, r2, hn, hs7, hs8, hTx⟩
