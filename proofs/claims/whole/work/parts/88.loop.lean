/-! the law's loop -/
theorem law_gt {L i : Nat} (hL : L ≤ 3584) (hi : i ≤ 4000) : (nI i > nI L - nI 7) ↔ L < i + 7 := by
  show (nI L - nI 7 < nI i) ↔ _
  rw [Int32.lt_iff_toInt_lt]
  have e1 : (nI L).toInt = L := nI_toInt (by omega)
  have e2 : (nI i).toInt = i := nI_toInt (by omega)
  have e3 : (nI 7).toInt = 7 := nI_toInt (by omega)
  have e4 : (nI L - nI 7).toInt = L - 7 := by
    rw [Int32.toInt_sub, e1, e3, Int.bmod_eq_of_le (by omega) (by omega)]
  rw [e4, e2]
  omega
set_option maxRecDepth 100000 in
set_option maxHeartbeats 4000000 in
theorem law_body {p : Program} {l : Launch} {e : Env} {s : State} {m : MethodId} {below : List Frame} {meth : Method} {c : Code} {H : Heap} {locs : List Loc} {cells slots : Nat} {Q : State → Prop} {ls : Array Slot} {b L : Nat} {xs : Nat → Int32} {G : GE} {A7 A8 : Nat → Nat} {i7 : Nat → Int32} {f7 : Nat → Nat → Int32} {j7 : Nat → Nat → Int64} {i8 : Nat → Int32} {f8 : Nat → Nat → Int32} {j8 : Nat → Nat → Int64} {i : Nat} (C : Cx p s m #[.ref b] meth c cL_law ret 4 RL G (fun q : Nat => s.heap.size ≤ q)) (hX : va_X b L xs s s.heap) (hbl : b < s.heap.size) (hcl : cells ≤ room_1.cells) (hsl : slots ≤ room_1.slots) (S : St G (fun q : Nat => s.heap.size ≤ q) s.heap H locs (wL G A7 A8 i7 f7 j7 i8 f8 j8)) (hR : RlR i7 f7 j7 i8 f8 j8) (hi : i + 7 ≤ L) (hL : L ≤ 3584) (hl : lv_has ls 4 [(0, .ref b), (1, .ref (A7 0)), (2, .ref (A8 0)), (3, .int (nI i))]) (kk : ∀ (H : Heap) (locs : List Loc) (i7 : Nat → Int32) (f7 : Nat → Nat → Int32) (j7 : Nat → Nat → Int64) (i8 : Nat → Int32) (f8 : Nat → Nat → Int32) (j8 : Nat → Nat → Int64), St G (fun q : Nat => s.heap.size ≤ q) s.heap H locs (wL G A7 A8 i7 f7 j7 i8 f8 j8) → RlR i7 f7 j7 i8 f8 j8 → W p l e room_1 s m #[.ref b] below meth c H locs cells slots Q (F0 m 1754 ls [])) (y : Int32) : W p l e room_1 s m #[.ref b] below meth c H locs cells slots Q (F0 m 33 ls [.int y]) := by
  have hx := C.1
  have hb := C.2.1
  by_cases q : y.toInt < 0 ∨ 44 < y.toInt
  · exact lv_tableOut (pc := 33) (tgt := 1754) hx hb dL_law_33 q (by decide) (kk H locs _ _ _ _ _ _ S hR)
  have q1 : ¬ y.toInt < 0 := fun z => q (Or.inl z)
  have q2 : ¬ 44 < y.toInt := fun z => q (Or.inr z)
  obtain ⟨k, hk, ek⟩ : ∃ k : Nat, k < 45 ∧ y.toInt = (k : Int) := ⟨y.toInt.toNat, by omega, by omega⟩
  rcases (show k = 0 ∨ k = 1 ∨ k = 2 ∨ k = 3 ∨ k = 4 ∨ k = 5 ∨ k = 6 ∨ k = 7 ∨ k = 8 ∨ k = 9 ∨ k = 10 ∨ k = 11 ∨ k = 12 ∨ k = 13 ∨ k = 14 ∨ k = 15 ∨ k = 16 ∨ k = 17 ∨ k = 18 ∨ k = 19 ∨ k = 20 ∨ k = 21 ∨ k = 22 ∨ k = 23 ∨ k = 24 ∨ k = 25 ∨ k = 26 ∨ k = 27 ∨ k = 28 ∨ k = 29 ∨ k = 30 ∨ k = 31 ∨ k = 32 ∨ k = 33 ∨ k = 34 ∨ k = 35 ∨ k = 36 ∨ k = 37 ∨ k = 38 ∨ k = 39 ∨ k = 40 ∨ k = 41 ∨ k = 42 ∨ k = 43 ∨ k = 44 by omega) with rfl | rfl | rfl | rfl | rfl | rfl | rfl | rfl | rfl | rfl | rfl | rfl | rfl | rfl | rfl | rfl | rfl | rfl | rfl | rfl | rfl | rfl | rfl | rfl | rfl | rfl | rfl | rfl | rfl | rfl | rfl | rfl | rfl | rfl | rfl | rfl | rfl | rfl | rfl | rfl | rfl | rfl | rfl | rfl | rfl
  · exact lv_tableIn (pc := 33) (off := 195) (tgt := 228) hx hb dL_law_33 q1 q2 (by rw [ek]; rfl) (by decide) (k_stop C hX hbl hcl hsl S hR hi hL hl kk)
  · exact lv_tableIn (pc := 33) (off := 270) (tgt := 303) hx hb dL_law_33 q1 q2 (by rw [ek]; rfl) (by decide) (k_feed C hX hbl hcl hsl S hR hi hL hl kk)
  · exact lv_tableIn (pc := 33) (off := 293) (tgt := 326) hx hb dL_law_33 q1 q2 (by rw [ek]; rfl) (by decide) (k_read C hX hbl hcl hsl S hR hi hL hl kk)
  · exact lv_tableIn (pc := 33) (off := 306) (tgt := 339) hx hb dL_law_33 q1 q2 (by rw [ek]; rfl) (by decide) (k_set C hX hbl hcl hsl S hR hi hL hl kk)
  · exact lv_tableIn (pc := 33) (off := 349) (tgt := 382) hx hb dL_law_33 q1 q2 (by rw [ek]; rfl) (by decide) (k_of C hX hbl hcl hsl S hR hi hL hl kk)
  · exact lv_tableIn (pc := 33) (off := 382) (tgt := 415) hx hb dL_law_33 q1 q2 (by rw [ek]; rfl) (by decide) (k_lock C hX hbl hcl hsl S hR hi hL hl kk)
  · exact lv_tableIn (pc := 33) (off := 431) (tgt := 464) hx hb dL_law_33 q1 q2 (by rw [ek]; rfl) (by decide) (k_depot C hX hbl hcl hsl S hR hi hL hl kk)
  · exact lv_tableIn (pc := 33) (off := 464) (tgt := 497) hx hb dL_law_33 q1 q2 (by rw [ek]; rfl) (by decide) (k_rule C hX hbl hcl hsl S hR hi hL hl kk)
  · exact lv_tableIn (pc := 33) (off := 507) (tgt := 540) hx hb dL_law_33 q1 q2 (by rw [ek]; rfl) (by decide) (k_price C hX hbl hcl hsl S hR hi hL hl kk)
  · exact lv_tableIn (pc := 33) (off := 540) (tgt := 573) hx hb dL_law_33 q1 q2 (by rw [ek]; rfl) (by decide) (k_put C hX hbl hcl hsl S hR hi hL hl kk)
  · exact lv_tableIn (pc := 33) (off := 583) (tgt := 616) hx hb dL_law_33 q1 q2 (by rw [ek]; rfl) (by decide) (k_take C hX hbl hcl hsl S hR hi hL hl kk)
  · exact lv_tableIn (pc := 33) (off := 606) (tgt := 639) hx hb dL_law_33 q1 q2 (by rw [ek]; rfl) (by decide) (k_clear C hX hbl hcl hsl S hR hi hL hl kk)
  · exact lv_tableIn (pc := 33) (off := 629) (tgt := 662) hx hb dL_law_33 q1 q2 (by rw [ek]; rfl) (by decide) (k_fill C hX hbl hcl hsl S hR hi hL hl kk)
  · exact lv_tableIn (pc := 33) (off := 642) (tgt := 675) hx hb dL_law_33 q1 q2 (by rw [ek]; rfl) (by decide) (k_improve C hX hbl hcl hsl S hR hi hL hl kk)
  · exact lv_tableIn (pc := 33) (off := 665) (tgt := 698) hx hb dL_law_33 q1 q2 (by rw [ek]; rfl) (by decide) (k_round C hX hbl hcl hsl S hR hi hL hl kk)
  · exact lv_tableIn (pc := 33) (off := 698) (tgt := 731) hx hb dL_law_33 q1 q2 (by rw [ek]; rfl) (by decide) (k_at C hX hbl hcl hsl S hR hi hL hl kk)
  · exact lv_tableIn (pc := 33) (off := 731) (tgt := 764) hx hb dL_law_33 q1 q2 (by rw [ek]; rfl) (by decide) (k_told C hX hbl hcl hsl S hR hi hL hl kk)
  · exact lv_tableIn (pc := 33) (off := 754) (tgt := 787) hx hb dL_law_33 q1 q2 (by rw [ek]; rfl) (by decide) (k_far C hX hbl hcl hsl S hR hi hL hl kk)
  · exact lv_tableIn (pc := 33) (off := 807) (tgt := 840) hx hb dL_law_33 q1 q2 (by rw [ek]; rfl) (by decide) (k_adds C hX hbl hcl hsl S hR hi hL hl kk)
  · exact lv_tableIn (pc := 33) (off := 850) (tgt := 883) hx hb dL_law_33 q1 q2 (by rw [ek]; rfl) (by decide) (k_cheapest C hX hbl hcl hsl S hR hi hL hl kk)
  · exact lv_tableIn (pc := 33) (off := 893) (tgt := 926) hx hb dL_law_33 q1 q2 (by rw [ek]; rfl) (by decide) (k_best C hX hbl hcl hsl S hR hi hL hl kk)
  · exact lv_tableIn (pc := 33) (off := 916) (tgt := 949) hx hb dL_law_33 q1 q2 (by rw [ek]; rfl) (by decide) (k_turn C hX hbl hcl hsl S hR hi hL hl kk)
  · exact lv_tableIn (pc := 33) (off := 959) (tgt := 992) hx hb dL_law_33 q1 q2 (by rw [ek]; rfl) (by decide) (k_shift C hX hbl hcl hsl S hR hi hL hl kk)
  · exact lv_tableIn (pc := 33) (off := 1002) (tgt := 1035) hx hb dL_law_33 q1 q2 (by rw [ek]; rfl) (by decide) (k_swap C hX hbl hcl hsl S hR hi hL hl kk)
  · exact lv_tableIn (pc := 33) (off := 1035) (tgt := 1068) hx hb dL_law_33 q1 q2 (by rw [ek]; rfl) (by decide) (k_late C hX hbl hcl hsl S hR hi hL hl kk)
  · exact lv_tableIn (pc := 33) (off := 1068) (tgt := 1101) hx hb dL_law_33 q1 q2 (by rw [ek]; rfl) (by decide) (k_due C hX hbl hcl hsl S hR hi hL hl kk)
  · exact lv_tableIn (pc := 33) (off := 1091) (tgt := 1124) hx hb dL_law_33 q1 q2 (by rw [ek]; rfl) (by decide) (k_see C hX hbl hcl hsl S hR hi hL hl kk)
  · exact lv_tableIn (pc := 33) (off := 1124) (tgt := 1157) hx hb dL_law_33 q1 q2 (by rw [ek]; rfl) (by decide) (k_fits C hX hbl hcl hsl S hR hi hL hl kk)
  · exact lv_tableIn (pc := 33) (off := 1157) (tgt := 1190) hx hb dL_law_33 q1 q2 (by rw [ek]; rfl) (by decide) (k_odds C hX hbl hcl hsl S hR hi hL hl kk)
  · exact lv_tableIn (pc := 33) (off := 1181) (tgt := 1214) hx hb dL_law_33 q1 q2 (by rw [ek]; rfl) (by decide) (k_mean C hX hbl hcl hsl S hR hi hL hl kk)
  · exact lv_tableIn (pc := 33) (off := 1205) (tgt := 1238) hx hb dL_law_33 q1 q2 (by rw [ek]; rfl) (by decide) (k_drawn C hX hbl hcl hsl S hR hi hL hl kk)
  · exact lv_tableIn (pc := 33) (off := 1238) (tgt := 1271) hx hb dL_law_33 q1 q2 (by rw [ek]; rfl) (by decide) (k_chance C hX hbl hcl hsl S hR hi hL hl kk)
  · exact lv_tableIn (pc := 33) (off := 1291) (tgt := 1324) hx hb dL_law_33 q1 q2 (by rw [ek]; rfl) (by decide) (k_plan C hX hbl hcl hsl S hR hi hL hl kk)
  · exact lv_tableIn (pc := 33) (off := 1324) (tgt := 1357) hx hb dL_law_33 q1 q2 (by rw [ek]; rfl) (by decide) (k_ends C hX hbl hcl hsl S hR hi hL hl kk)
  · exact lv_tableIn (pc := 33) (off := 1347) (tgt := 1380) hx hb dL_law_33 q1 q2 (by rw [ek]; rfl) (by decide) (k_book C hX hbl hcl hsl S hR hi hL hl kk)
  · exact lv_tableIn (pc := 33) (off := 1380) (tgt := 1413) hx hb dL_law_33 q1 q2 (by rw [ek]; rfl) (by decide) (k_looked C hX hbl hcl hsl S hR hi hL hl kk)
  · exact lv_tableIn (pc := 33) (off := 1393) (tgt := 1426) hx hb dL_law_33 q1 q2 (by rw [ek]; rfl) (by decide) (k_judge C hX hbl hcl hsl S hR hi hL hl kk)
  · exact lv_tableIn (pc := 33) (off := 1436) (tgt := 1469) hx hb dL_law_33 q1 q2 (by rw [ek]; rfl) (by decide) (k_taken C hX hbl hcl hsl S hR hi hL hl kk)
  · exact lv_tableIn (pc := 33) (off := 1459) (tgt := 1492) hx hb dL_law_33 q1 q2 (by rw [ek]; rfl) (by decide) (k_image C hX hbl hcl hsl S hR hi hL hl kk)
  · exact lv_tableIn (pc := 33) (off := 1472) (tgt := 1505) hx hb dL_law_33 q1 q2 (by rw [ek]; rfl) (by decide) (k_undo C hX hbl hcl hsl S hR hi hL hl kk)
  · exact lv_tableIn (pc := 33) (off := 1485) (tgt := 1518) hx hb dL_law_33 q1 q2 (by rw [ek]; rfl) (by decide) (k_count C hX hbl hcl hsl S hR hi hL hl kk)
  · exact lv_tableIn (pc := 33) (off := 1508) (tgt := 1541) hx hb dL_law_33 q1 q2 (by rw [ek]; rfl) (by decide) (k_tape C hX hbl hcl hsl S hR hi hL hl kk)
  · exact lv_tableIn (pc := 33) (off := 1551) (tgt := 1584) hx hb dL_law_33 q1 q2 (by rw [ek]; rfl) (by decide) (k_item C hX hbl hcl hsl S hR hi hL hl kk)
  · exact lv_tableIn (pc := 33) (off := 1624) (tgt := 1657) hx hb dL_law_33 q1 q2 (by rw [ek]; rfl) (by decide) (k_peek C hX hbl hcl hsl S hR hi hL hl kk)
  · exact lv_tableIn (pc := 33) (off := 1658) (tgt := 1691) hx hb dL_law_33 q1 q2 (by rw [ek]; rfl) (by decide) (k_slide C hX hbl hcl hsl S hR hi hL hl kk)
set_option maxRecDepth 100000 in
set_option maxHeartbeats 4000000 in
theorem law_loop {p : Program} {e : Env} {s : State} {m : MethodId} {below : List Frame} {meth : Method} {c : Code} (l : Launch) {b L : Nat} {xs : Nat → Int32} {G : GE} {A7 A8 : Nat → Nat} (C : Cx p s m #[.ref b] meth c cL_law ret 4 RL G (fun q : Nat => s.heap.size ≤ q)) (hX : va_X b L xs s s.heap) (hbl : b < s.heap.size) (hL : L ≤ 3584) : ∀ (n i : Nat) (i7 : Nat → Int32) (f7 : Nat → Nat → Int32) (j7 : Nat → Nat → Int64) (i8 : Nat → Int32) (f8 : Nat → Nat → Int32) (j8 : Nat → Nat → Int64) (H : Heap) (locs : List Loc) (ls : Array Slot), L < i + n → i ≤ L → St G (fun q : Nat => s.heap.size ≤ q) s.heap H locs (wL G A7 A8 i7 f7 j7 i8 f8 j8) → RlR i7 f7 j7 i8 f8 j8 → lv_has ls 4 [(0, .ref b), (1, .ref (A7 0)), (2, .ref (A8 0)), (3, .int (nI i))] → W p l e room_1 s m #[.ref b] below meth c H locs 93 3203 (lw_Z below #[.ref b] s) (F0 m 18 ls []) := by
  have hx := C.1
  have hb := C.2.1
  have hr := C.2.2.1
  have hlk := C.2.2.2.2.2.2.1
  have hbA : ¬ (fun q : Nat => s.heap.size ≤ q) b := Nat.not_le.mpr hbl
  intro n
  induction n with
  | zero =>
    intro i i7 f7 j7 i8 f8 j8 H locs ls h1 h2
    exact absurd h1 (by omega)
  | succ n ih =>
    intro i i7 f7 j7 i8 f8 j8 H locs ls h1 h2 S hR hl
    refine lv_iload_n (pc := 18) hx hb dL_law_18 rfl (lv_at hl 3 rfl) ?_
    refine lv_aload_n (pc := 19) hx hb dL_law_19 rfl (lv_at hl 0 rfl) ?_
    refine va_slen (pc := 20) hx hb hX hbl hbA S.2.2 dL_law_20 ?_
    refine lv_bipush (pc := 21) (v := nI 7) hx hb dL_law_21 (by decide) ?_
    refine lv_isub (pc := 23) hx hb dL_law_23 ?_
    refine lv_icmp_gt (tgt := 1760) (pc := 24) hx hb dL_law_24 (by decide) (fun z => ?_) (fun z => ?_)
    · refine lv_iconst (pc := 1760) (v := 1) hx hb dL_law_1760 (by decide) ?_
      refine va_forget (fun q hq => S.2.2.2.2 q hq) ?_
      refine W.widen (k := 600000) (n := 7302249) (Nat.le_of_ble_eq_true rfl) (Nat.le_of_ble_eq_true rfl) ?_
      exact lw_ret hx hb hr hlk dL_law_1761
    · have hi : i + 7 ≤ L := Nat.not_lt.mp (fun q => z ((law_gt hL (by omega)).mpr q))
      refine lv_aload_n (pc := 27) hx hb dL_law_27 rfl (lv_at hl 0 rfl) ?_
      refine lv_iload_n (pc := 28) hx hb dL_law_28 rfl (lv_at hl 3 rfl) ?_
      refine va_sld (pc := 29) hx hb hX hbl hbA S.2.2 (vp_in_nI (by omega) (by omega)) dL_law_29 ?_
      refine lv_bipush (pc := 30) (v := nI 63) hx hb dL_law_30 (by decide) ?_
      refine lv_iand (pc := 32) hx hb dL_law_32 ?_
      refine lv_topi (fun y _ => ?_)
      refine law_body C hX hbl (Nat.le_of_ble_eq_true rfl) (Nat.le_of_ble_eq_true rfl) S hR hi hL hl (fun H locs i7 f7 j7 i8 f8 j8 S hR => ?_) y
      refine lv_iinc (pc := 1754) (k := 3) (v := nI (i + 7)) (lv' := [(3, .int (nI (i + 7))), (0, .ref b), (1, .ref (A7 0)), (2, .ref (A8 0))]) hx hb dL_law_1754 hl rfl (nI_add i 7) (by decide) rfl (fun ls hl => ?_)
      refine lv_goto (pc := 1757) (tgt := 18) hx hb dL_law_1757 (by decide) ?_
      exact ih (i + 7) i7 f7 j7 i8 f8 j8 H locs ls (by omega) hi S hR (lv_sub hl [1, 2, 3, 0] rfl)
