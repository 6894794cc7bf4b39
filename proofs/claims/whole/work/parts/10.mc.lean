abbrev rm_X7_topOf : Room := { frames := 0, cells := 0, slots := 0, locals := 0 }
abbrev kw_X7_topOf : Cond := .code yX7_topOf cX7_topOf 2 (some .int)
set_option maxRecDepth 100000 in
theorem c_X7_topOf (l : Launch) (G : GE) (k : Nat) (hk : k < 3) (x1 r : Int32) (hf : f_X7_topOf k x1 = some r) : CI l G yX7_topOf kw_X7_topOf rm_X7_topOf [.ref (tabA G k), .int x1] [] r [] := by
  refine en_I (cc := cX7_topOf) (maxL := 2) (ret := (some .int)) (by decide +kernel) (Nat.le_of_ble_eq_true rfl) ?_
  intro p e s m args below meth c A ls C S hl
  have hl : lv_has ls 2 [(0, .ref (tabA G k)), (1, .int x1)] := hl
  have C : Cx p s m args meth c cX7_topOf (some .int) 2 RX7 G A := C
  unfold f_X7_topOf at hf
  have hx := C.1
  have hb := C.2.1
  have hT := (C.2.2.2.2.2.2.2.2.1 k hk).2
  have hlen : (tabL k).length < 2 ^ 31 := by unfold tabL; split <;> decide
  refine lv_iload_n (pc := 0) hx hb dX7_topOf_0 rfl (lv_at hl 1 rfl) ?_
  refine lv_if_lt (tgt := 16) (pc := 1) hx hb dX7_topOf_1 (by decide) (fun c1 => ?_) (fun c1 => ?_)
  · have hf := ifp c1 hf
    refine lv_iconst (pc := 16) hx hb dX7_topOf_16 ic_m1 ?_
    cases hf
    exact x_iret (pc := 17) C S dX7_topOf_17
  · have hf := ifn c1 hf
    refine lv_iload_n (pc := 4) hx hb dX7_topOf_4 rfl (lv_at hl 1 rfl) ?_
    refine lv_aload_n (pc := 5) hx hb dX7_topOf_5 rfl (lv_at hl 0 rfl) ?_
    refine va_tlen (pc := 6) hx hb hT S.2.2 rfl dX7_topOf_6 ?_
    refine lv_icmp_ge (tgt := 16) (pc := 7) hx hb dX7_topOf_7 (by decide) (fun c2 => ?_) (fun c2 => ?_)
    · have hf := ifp c2 hf
      refine lv_iconst (pc := 16) hx hb dX7_topOf_16 ic_m1 ?_
      cases hf
      exact x_iret (pc := 17) C S dX7_topOf_17
    · have hf := ifn c2 hf
      have hin : vp_in x1 (tabL k).length := by
        rcases pk_ix x1 hlen with h | h | ⟨j, hj, h⟩
        · exact absurd h c1
        · exact absurd h c2
        · rw [h]; exact vp_in_nI hj hlen
      refine lv_aload_n (pc := 10) hx hb dX7_topOf_10 rfl (lv_at hl 0 rfl) ?_
      refine lv_iload_n (pc := 11) hx hb dX7_topOf_11 rfl (lv_at hl 1 rfl) ?_
      refine va_ti (pc := 12) hx hb hT S.2.2 hin rfl dX7_topOf_12 ?_
      refine lv_goto (tgt := 17) (pc := 13) hx hb dX7_topOf_13 (by decide) ?_
      cases hf
      exact x_iret (pc := 17) C S dX7_topOf_17
abbrev rmc (n : Nat) : Room := { frames := n, cells := 0, slots := 0, locals := 21 * n }
abbrev rm_X8_common : Room := rmc 40
abbrev kw_X8_common : Cond := .code yX8_common cX8_common 2 (some .int)
theorem u_common (n : Nat) {s : State} {args : Array Value} (hts : ∀ w ∈ WU, w.before args s = true) : CallB (rmc (n + 1)) s args RX8 257 yX8_common cX8_common 2 (some .int) (kw_X8_common :: WU) (rmc n) 0 0 2 ∧ (Cond.static yX8_common).before args s = true := va_cwS 2 hts (gS qm_8_257 qs_X8_common qn_8 qc_X8_common) rfl rfl rfl (by decide +kernel) ⟨Nat.le_refl _, by show 8 + (2 + 11) + 21 * n ≤ 21 * (n + 1); omega⟩
set_option maxRecDepth 100000 in
theorem c_X8_common (l : Launch) (G : GE) : ∀ (n : Nat) (a b r : Int32) (hf : f_X8_common n a b = some r), CI l G yX8_common kw_X8_common (rmc n) [.int a, .int b] [] r [] := by
  intro n
  induction n with
  | zero => intro a b r hf; cases hf
  | succ n ih =>
    intro a b r hf
    refine en_I (cc := cX8_common) (maxL := 2) (ret := (some .int)) (by decide +kernel) (Nat.le_of_ble_eq_true rfl) ?_
    intro p e s m args below meth c A ls C S hl
    have hl : lv_has ls 2 [(0, .int a), (1, .int b)] := hl
    have C : Cx p s m args meth c cX8_common (some .int) 2 RX8 G A := C
    rw [f_X8_common] at hf
    have hx := C.1
    have hb := C.2.1
    have hts := C.2.2.2.2.2.1
    refine lv_iload_n (pc := 0) hx hb dX8_common_0 rfl (lv_at hl 1 rfl) ?_
    refine lv_if_ne (tgt := 8) (pc := 1) hx hb dX8_common_1 (by decide) (fun c1 => ?_) (fun c1 => ?_)
    · have hf := ifn c1 hf
      refine lv_iload_n (pc := 8) hx hb dX8_common_8 rfl (lv_at hl 1 rfl) ?_
      refine lv_iload_n (pc := 9) hx hb dX8_common_9 rfl (lv_at hl 0 rfl) ?_
      refine lv_iload_n (pc := 10) hx hb dX8_common_10 rfl (lv_at hl 1 rfl) ?_
      refine lv_irem (pc := 11) hx hb dX8_common_11 c1 ?_
      refine x_sI (pc := 12) (As := [.int b, .int (a - a / b * b)]) (rest := []) (isC := []) (ws' := []) C S (ih _ _ _ hf) (u_common n hts) rfl (by decide +kernel) [] (by decide +kernel) rfl rfl rfl hl.1 rfl (Nat.le_of_ble_eq_true rfl) dX8_common_12 (fun H locs S => ?_)
      exact x_iret (pc := 15) C S dX8_common_15
    · have hf := ifp c1 hf
      refine lv_iload_n (pc := 4) hx hb dX8_common_4 rfl (lv_at hl 0 rfl) ?_
      refine lv_goto (tgt := 15) (pc := 5) hx hb dX8_common_5 (by decide) ?_
      cases hf
      exact x_iret (pc := 15) C S dX8_common_15
abbrev rm_X0_beginsAt : Room := { frames := 0, cells := 0, slots := 0, locals := 0 }
abbrev kw_X0_beginsAt : Cond := .code yX0_beginsAt cX0_beginsAt 2 (some .int)
abbrev w_X0_beginsAt (G : GE) (a_t a_t_row a_t_comes a_t_begins a_t_slacks : Nat) (t_round : Int32) (t_size : Int32) (t_back : Int32) (t_loads : Int32) (t_miles : Int32) (t_waits : Int32) (t_lateAt : Int32) (t_later : Int32) (t_begins : Nat → Int32) : va_W := [(a_t, ob 0 [.ref a_t_row, .ref a_t_comes, .ref a_t_begins, .ref a_t_slacks, .int t_round, .int t_size, .int t_back, .int t_loads, .int t_miles, .int t_waits, .int t_lateAt, .int t_later]), (a_t_begins, aI G 16 t_begins)]
section
variable {p : Program} {l : Launch} {e : Env} {s : State} {m : MethodId} {args : Array Value} {below : List Frame} {meth : Method} {c : Code} {A : Nat → Prop} {G : GE} {a_t a_t_row a_t_comes a_t_begins a_t_slacks : Nat} {r : Int32}
set_option maxRecDepth 100000 in
set_option maxHeartbeats 4000000 in
theorem c_X0_beginsAt (l : Launch) (G : GE) (a_t a_t_row a_t_comes a_t_begins a_t_slacks : Nat) (t_round : Int32) (t_size : Int32) (t_back : Int32) (t_loads : Int32) (t_miles : Int32) (t_waits : Int32) (t_lateAt : Int32) (t_later : Int32) (t_begins : Nat → Int32) (x1 : Int32) (r : Int32) (hf : f_X0_beginsAt t_begins x1 = some r) : CI l G yX0_beginsAt kw_X0_beginsAt rm_X0_beginsAt [.ref a_t, .int x1] (w_X0_beginsAt G a_t a_t_row a_t_comes a_t_begins a_t_slacks t_round t_size t_back t_loads t_miles t_waits t_lateAt t_later t_begins) r (w_X0_beginsAt G a_t a_t_row a_t_comes a_t_begins a_t_slacks t_round t_size t_back t_loads t_miles t_waits t_lateAt t_later t_begins) := by
  refine en_I (cc := cX0_beginsAt) (maxL := 2) (ret := (some .int)) (by decide +kernel) (Nat.le_of_ble_eq_true rfl) ?_
  intro p e s m args below meth c A ls C S hl
  have hl : lv_has ls 2 [(0, .ref a_t), (1, .int x1)] := hl
  have C : Cx p s m args meth c cX0_beginsAt (some .int) 2 RX0 G A := C
  unfold f_X0_beginsAt at hf
  have hx := C.1
  have hb := C.2.1
  have hown := C.2.2.2.2.1
  have hts := C.2.2.2.2.2.1
  have hN := C.2.2.2.2.2.2.2.2.2.2
  refine lv_iload_n (pc := 0) hx hb dX0_beginsAt_0 rfl (lv_at hl 1 rfl) ?_
  refine lv_if_lt (tgt := 22) (pc := 1) hx hb dX0_beginsAt_1 (by decide) (fun c1 => ?_) (fun c1 => ?_)
  · have hf := ifp c1 hf
    refine lv_bipush (pc := 22) hx hb dX0_beginsAt_22 bc_m5 ?_
    cases hf
    exact x_iret (pc := 24) C S dX0_beginsAt_24
  · have hf := ifn c1 hf
    refine lv_iload_n (pc := 4) hx hb dX0_beginsAt_4 rfl (lv_at hl 1 rfl) ?_
    refine lv_aload_n (pc := 5) hx hb dX0_beginsAt_5 rfl (lv_at hl 0 rfl) ?_
    refine x_get (pc := 6) (ci := 0) (T := TX0) (v := .ref a_t_begins) C S 0 rfl rfl inlX0 2 (by decide) rfl qf_0_18 rfl dX0_beginsAt_6 ?_
    refine x_lenI (pc := 9) C S 1 rfl nc_16 dX0_beginsAt_9 ?_
    refine lv_icmp_ge (tgt := 22) (pc := 10) hx hb dX0_beginsAt_10 (by decide) (fun c2 => ?_) (fun c2 => ?_)
    · have hf := ifp c2 hf
      refine lv_bipush (pc := 22) hx hb dX0_beginsAt_22 bc_m5 ?_
      cases hf
      exact x_iret (pc := 24) C S dX0_beginsAt_24
    · have hf := ifn c2 hf
      refine lv_aload_n (pc := 13) hx hb dX0_beginsAt_13 rfl (lv_at hl 0 rfl) ?_
      refine x_get (pc := 14) (ci := 0) (T := TX0) (v := .ref a_t_begins) C S 0 rfl rfl inlX0 2 (by decide) rfl qf_0_18 rfl dX0_beginsAt_14 ?_
      refine lv_iload_n (pc := 17) hx hb dX0_beginsAt_17 rfl (lv_at hl 1 rfl) ?_
      obtain ⟨hv3, hf⟩ := gI_e hf
      refine x_iald (pc := 18) C S 1 rfl hv3 dX0_beginsAt_18 ?_
      refine lv_goto (tgt := 24) (pc := 19) hx hb dX0_beginsAt_19 (by decide) ?_
      cases hf
      exact x_iret (pc := 24) C S dX0_beginsAt_24
end

abbrev rm_X0_canLeaveLater : Room := { frames := 0, cells := 0, slots := 0, locals := 0 }
abbrev kw_X0_canLeaveLater : Cond := .code yX0_canLeaveLater cX0_canLeaveLater 1 (some .int)
abbrev w_X0_canLeaveLater (G : GE) (a_t a_t_row a_t_comes a_t_begins a_t_slacks : Nat) (t_round : Int32) (t_size : Int32) (t_back : Int32) (t_loads : Int32) (t_miles : Int32) (t_waits : Int32) (t_lateAt : Int32) (t_later : Int32) : va_W := [(a_t, ob 0 [.ref a_t_row, .ref a_t_comes, .ref a_t_begins, .ref a_t_slacks, .int t_round, .int t_size, .int t_back, .int t_loads, .int t_miles, .int t_waits, .int t_lateAt, .int t_later])]
section
variable {p : Program} {l : Launch} {e : Env} {s : State} {m : MethodId} {args : Array Value} {below : List Frame} {meth : Method} {c : Code} {A : Nat → Prop} {G : GE} {a_t a_t_row a_t_comes a_t_begins a_t_slacks : Nat} {r : Int32}
set_option maxRecDepth 100000 in
set_option maxHeartbeats 4000000 in
theorem c_X0_canLeaveLater (l : Launch) (G : GE) (a_t a_t_row a_t_comes a_t_begins a_t_slacks : Nat) (t_round : Int32) (t_size : Int32) (t_back : Int32) (t_loads : Int32) (t_miles : Int32) (t_waits : Int32) (t_lateAt : Int32) (t_later : Int32) (r : Int32) (hf : f_X0_canLeaveLater t_size t_later = some r) : CI l G yX0_canLeaveLater kw_X0_canLeaveLater rm_X0_canLeaveLater [.ref a_t] (w_X0_canLeaveLater G a_t a_t_row a_t_comes a_t_begins a_t_slacks t_round t_size t_back t_loads t_miles t_waits t_lateAt t_later) r (w_X0_canLeaveLater G a_t a_t_row a_t_comes a_t_begins a_t_slacks t_round t_size t_back t_loads t_miles t_waits t_lateAt t_later) := by
  refine en_I (cc := cX0_canLeaveLater) (maxL := 1) (ret := (some .int)) (by decide +kernel) (Nat.le_of_ble_eq_true rfl) ?_
  intro p e s m args below meth c A ls C S hl
  have hl : lv_has ls 1 [(0, .ref a_t)] := hl
  have C : Cx p s m args meth c cX0_canLeaveLater (some .int) 1 RX0 G A := C
  unfold f_X0_canLeaveLater at hf
  have hx := C.1
  have hb := C.2.1
  have hown := C.2.2.2.2.1
  have hts := C.2.2.2.2.2.1
  have hN := C.2.2.2.2.2.2.2.2.2.2
  refine lv_aload_n (pc := 0) hx hb dX0_canLeaveLater_0 rfl (lv_at hl 0 rfl) ?_
  refine x_get (pc := 1) (ci := 0) (T := TX0) (v := .int t_size) C S 0 rfl rfl inlX0 5 (by decide) rfl qf_0_34 rfl dX0_canLeaveLater_1 ?_
  refine lv_if_le (tgt := 14) (pc := 4) hx hb dX0_canLeaveLater_4 (by decide) (fun c1 => ?_) (fun c1 => ?_)
  · have hf := ifp c1 hf
    refine lv_bipush (pc := 14) hx hb dX0_canLeaveLater_14 bc_m5 ?_
    cases hf
    exact x_iret (pc := 16) C S dX0_canLeaveLater_16
  · have hf := ifn c1 hf
    refine lv_aload_n (pc := 7) hx hb dX0_canLeaveLater_7 rfl (lv_at hl 0 rfl) ?_
    refine x_get (pc := 8) (ci := 0) (T := TX0) (v := .int t_later) C S 0 rfl rfl inlX0 11 (by decide) rfl qf_0_83 rfl dX0_canLeaveLater_8 ?_
    refine lv_goto (tgt := 16) (pc := 11) hx hb dX0_canLeaveLater_11 (by decide) ?_
    cases hf
    exact x_iret (pc := 16) C S dX0_canLeaveLater_16
end

abbrev rm_X0_comesAt : Room := { frames := 0, cells := 0, slots := 0, locals := 0 }
abbrev kw_X0_comesAt : Cond := .code yX0_comesAt cX0_comesAt 2 (some .int)
abbrev w_X0_comesAt (G : GE) (a_t a_t_row a_t_comes a_t_begins a_t_slacks : Nat) (t_round : Int32) (t_size : Int32) (t_back : Int32) (t_loads : Int32) (t_miles : Int32) (t_waits : Int32) (t_lateAt : Int32) (t_later : Int32) (t_comes : Nat → Int32) : va_W := [(a_t, ob 0 [.ref a_t_row, .ref a_t_comes, .ref a_t_begins, .ref a_t_slacks, .int t_round, .int t_size, .int t_back, .int t_loads, .int t_miles, .int t_waits, .int t_lateAt, .int t_later]), (a_t_comes, aI G 16 t_comes)]
section
variable {p : Program} {l : Launch} {e : Env} {s : State} {m : MethodId} {args : Array Value} {below : List Frame} {meth : Method} {c : Code} {A : Nat → Prop} {G : GE} {a_t a_t_row a_t_comes a_t_begins a_t_slacks : Nat} {r : Int32}
set_option maxRecDepth 100000 in
set_option maxHeartbeats 4000000 in
theorem c_X0_comesAt (l : Launch) (G : GE) (a_t a_t_row a_t_comes a_t_begins a_t_slacks : Nat) (t_round : Int32) (t_size : Int32) (t_back : Int32) (t_loads : Int32) (t_miles : Int32) (t_waits : Int32) (t_lateAt : Int32) (t_later : Int32) (t_comes : Nat → Int32) (x1 : Int32) (r : Int32) (hf : f_X0_comesAt t_comes x1 = some r) : CI l G yX0_comesAt kw_X0_comesAt rm_X0_comesAt [.ref a_t, .int x1] (w_X0_comesAt G a_t a_t_row a_t_comes a_t_begins a_t_slacks t_round t_size t_back t_loads t_miles t_waits t_lateAt t_later t_comes) r (w_X0_comesAt G a_t a_t_row a_t_comes a_t_begins a_t_slacks t_round t_size t_back t_loads t_miles t_waits t_lateAt t_later t_comes) := by
  refine en_I (cc := cX0_comesAt) (maxL := 2) (ret := (some .int)) (by decide +kernel) (Nat.le_of_ble_eq_true rfl) ?_
  intro p e s m args below meth c A ls C S hl
  have hl : lv_has ls 2 [(0, .ref a_t), (1, .int x1)] := hl
  have C : Cx p s m args meth c cX0_comesAt (some .int) 2 RX0 G A := C
  unfold f_X0_comesAt at hf
  have hx := C.1
  have hb := C.2.1
  have hown := C.2.2.2.2.1
  have hts := C.2.2.2.2.2.1
  have hN := C.2.2.2.2.2.2.2.2.2.2
  refine lv_iload_n (pc := 0) hx hb dX0_comesAt_0 rfl (lv_at hl 1 rfl) ?_
  refine lv_if_lt (tgt := 22) (pc := 1) hx hb dX0_comesAt_1 (by decide) (fun c1 => ?_) (fun c1 => ?_)
  · have hf := ifp c1 hf
    refine lv_bipush (pc := 22) hx hb dX0_comesAt_22 bc_m5 ?_
    cases hf
    exact x_iret (pc := 24) C S dX0_comesAt_24
  · have hf := ifn c1 hf
    refine lv_iload_n (pc := 4) hx hb dX0_comesAt_4 rfl (lv_at hl 1 rfl) ?_
    refine lv_aload_n (pc := 5) hx hb dX0_comesAt_5 rfl (lv_at hl 0 rfl) ?_
    refine x_get (pc := 6) (ci := 0) (T := TX0) (v := .ref a_t_comes) C S 0 rfl rfl inlX0 1 (by decide) rfl qf_0_15 rfl dX0_comesAt_6 ?_
    refine x_lenI (pc := 9) C S 1 rfl nc_16 dX0_comesAt_9 ?_
    refine lv_icmp_ge (tgt := 22) (pc := 10) hx hb dX0_comesAt_10 (by decide) (fun c2 => ?_) (fun c2 => ?_)
    · have hf := ifp c2 hf
      refine lv_bipush (pc := 22) hx hb dX0_comesAt_22 bc_m5 ?_
      cases hf
      exact x_iret (pc := 24) C S dX0_comesAt_24
    · have hf := ifn c2 hf
      refine lv_aload_n (pc := 13) hx hb dX0_comesAt_13 rfl (lv_at hl 0 rfl) ?_
      refine x_get (pc := 14) (ci := 0) (T := TX0) (v := .ref a_t_comes) C S 0 rfl rfl inlX0 1 (by decide) rfl qf_0_15 rfl dX0_comesAt_14 ?_
      refine lv_iload_n (pc := 17) hx hb dX0_comesAt_17 rfl (lv_at hl 1 rfl) ?_
      obtain ⟨hv3, hf⟩ := gI_e hf
      refine x_iald (pc := 18) C S 1 rfl hv3 dX0_comesAt_18 ?_
      refine lv_goto (tgt := 24) (pc := 19) hx hb dX0_comesAt_19 (by decide) ?_
      cases hf
      exact x_iret (pc := 24) C S dX0_comesAt_24
end

abbrev rm_X0_drop : Room := { frames := 0, cells := 0, slots := 0, locals := 0 }
abbrev kw_X0_drop : Cond := .code yX0_drop cX0_drop 3 none
abbrev w_X0_drop (G : GE) (a_t a_t_row a_t_comes a_t_begins a_t_slacks : Nat) (t_round : Int32) (t_size : Int32) (t_back : Int32) (t_loads : Int32) (t_miles : Int32) (t_waits : Int32) (t_lateAt : Int32) (t_later : Int32) (t_row : Nat → Int32) : va_W := [(a_t, ob 0 [.ref a_t_row, .ref a_t_comes, .ref a_t_begins, .ref a_t_slacks, .int t_round, .int t_size, .int t_back, .int t_loads, .int t_miles, .int t_waits, .int t_lateAt, .int t_later]), (a_t_row, aI G 16 t_row)]
section
variable {p : Program} {l : Launch} {e : Env} {s : State} {m : MethodId} {args : Array Value} {below : List Frame} {meth : Method} {c : Code} {A : Nat → Prop} {G : GE} {a_t a_t_row a_t_comes a_t_begins a_t_slacks : Nat} {z_t_row : Nat → Int32} {z_t_size : Int32}
set_option maxRecDepth 100000 in
set_option maxHeartbeats 4000000 in
theorem k_X0_drop_24 (C : Cx p s m args meth c cX0_drop none 3 RX0 G A) (t_round : Int32) (t_size : Int32) (t_back : Int32) (t_loads : Int32) (t_miles : Int32) (t_waits : Int32) (t_lateAt : Int32) (t_later : Int32) (t_row : Nat → Int32) (x2 : Int32) (k24 : Int32 × (Nat → Int32) → Option ((Nat → Int32) × Int32)) (hk24 : ∀ {H : Heap} {locs : List Loc} {ls : Array Slot} (x2' : Int32) (t_row' : Nat → Int32), k24 (x2', t_row') = some (z_t_row, z_t_size) → St G A s.heap H locs (w_X0_drop G a_t a_t_row a_t_comes a_t_begins a_t_slacks t_round t_size t_back t_loads t_miles t_waits t_lateAt t_later t_row') → lv_has ls 3 [(0, .ref a_t), (2, .int x2')] → W p l e rm_X0_drop s m args below meth c H locs 0 0 (QV G below args s A (w_X0_drop G a_t a_t_row a_t_comes a_t_begins a_t_slacks t_round z_t_size t_back t_loads t_miles t_waits t_lateAt t_later z_t_row)) (F0 m 24 ls [])) {H : Heap} {locs : List Loc} {ls : Array Slot} (hf : b_X0_drop_24 t_size k24 x2 t_row = some (z_t_row, z_t_size)) (S : St G A s.heap H locs (w_X0_drop G a_t a_t_row a_t_comes a_t_begins a_t_slacks t_round t_size t_back t_loads t_miles t_waits t_lateAt t_later t_row)) (hl : lv_has ls 3 [(0, .ref a_t), (2, .int x2)]) : W p l e rm_X0_drop s m args below meth c H locs 0 0 (QV G below args s A (w_X0_drop G a_t a_t_row a_t_comes a_t_begins a_t_slacks t_round z_t_size t_back t_loads t_miles t_waits t_lateAt t_later z_t_row)) (F0 m 24 ls []) := by
  unfold b_X0_drop_24 at hf
  have hx := C.1
  have hb := C.2.1
  have hown := C.2.2.2.2.1
  have hts := C.2.2.2.2.2.1
  have hN := C.2.2.2.2.2.2.2.2.2.2
  refine lv_iload_n (pc := 24) hx hb dX0_drop_24 rfl (lv_at hl 1 rfl) ?_
  refine lv_aload_n (pc := 25) hx hb dX0_drop_25 rfl (lv_at hl 0 rfl) ?_
  refine x_get (pc := 26) (ci := 0) (T := TX0) (v := .int t_size) C S 0 rfl rfl inlX0 5 (by decide) rfl qf_0_34 rfl dX0_drop_26 ?_
  refine lv_iconst (pc := 29) hx hb dX0_drop_29 ic_1 ?_
  refine lv_isub (pc := 30) hx hb dX0_drop_30 ?_
  refine lv_icmp_ge (tgt := 54) (pc := 31) hx hb dX0_drop_31 (by decide) (fun c1 => ?_) (fun c1 => ?_)
  · have hf := ifp c1 hf
    refine lv_aload_n (pc := 54) hx hb dX0_drop_54 rfl (lv_at hl 0 rfl) ?_
    refine lv_dup (pc := 55) hx hb dX0_drop_55 rfl ?_
    refine x_get (pc := 56) (ci := 0) (T := TX0) (v := .int t_size) C S 0 rfl rfl inlX0 5 (by decide) rfl qf_0_34 rfl dX0_drop_56 ?_
    refine lv_iconst (pc := 59) hx hb dX0_drop_59 ic_1 ?_
    refine lv_isub (pc := 60) hx hb dX0_drop_60 ?_
    refine x_put (pc := 61) (ci := 0) (T := TX0) (ws' := (w_X0_drop G a_t a_t_row a_t_comes a_t_begins a_t_slacks t_round (t_size - (1 : Int32)) t_back t_loads t_miles t_waits t_lateAt t_later t_row)) C S tyX0 tyX0_ok nmX0 0 rfl rfl inlX0 5 (by decide) rfl qf_0_34 rfl rfl rfl rfl (Nat.le_of_ble_eq_true rfl) rfl dX0_drop_61 (fun H locs S => ?_)
    cases hf
    exact x_vret (pc := 64) C S dX0_drop_64
  · have hf := ifn c1 hf
    refine lv_aload_n (pc := 34) hx hb dX0_drop_34 rfl (lv_at hl 0 rfl) ?_
    refine x_get (pc := 35) (ci := 0) (T := TX0) (v := .ref a_t_row) C S 0 rfl rfl inlX0 0 (by decide) rfl qf_0_9 rfl dX0_drop_35 ?_
    refine lv_iload_n (pc := 38) hx hb dX0_drop_38 rfl (lv_at hl 1 rfl) ?_
    refine lv_aload_n (pc := 39) hx hb dX0_drop_39 rfl (lv_at hl 0 rfl) ?_
    refine x_get (pc := 40) (ci := 0) (T := TX0) (v := .ref a_t_row) C S 0 rfl rfl inlX0 0 (by decide) rfl qf_0_9 rfl dX0_drop_40 ?_
    refine lv_iload_n (pc := 43) hx hb dX0_drop_43 rfl (lv_at hl 1 rfl) ?_
    refine lv_iconst (pc := 44) hx hb dX0_drop_44 ic_1 ?_
    refine lv_iadd (pc := 45) hx hb dX0_drop_45 ?_
    obtain ⟨hv2, hf⟩ := gI_e hf
    refine x_iald (pc := 46) C S 1 rfl hv2 dX0_drop_46 ?_
    obtain ⟨hv3, hf⟩ := gI_e hf
    refine x_iast (pc := 47) (ws' := (w_X0_drop G a_t a_t_row a_t_comes a_t_begins a_t_slacks t_round t_size t_back t_loads t_miles t_waits t_lateAt t_later (upd t_row x2.toNatClampNeg (t_row (x2 + (1 : Int32)).toNatClampNeg)))) C S 1 rfl hv3 rfl dX0_drop_47 (fun H locs S => ?_)
    refine lv_iinc (pc := 48) (v := (x2 + (1 : Int32))) (lv' := [(2, .int (x2 + (1 : Int32))), (0, .ref a_t)]) hx hb dX0_drop_48 hl (k := 1) rfl (congrArg (fun z => x2 + z) ic_1) (by decide) rfl (fun ls hl => ?_)
    refine lv_goto (tgt := 24) (pc := 51) hx hb dX0_drop_51 (by decide) ?_
    exact hk24 ((x2 + (1 : Int32))) ((upd t_row x2.toNatClampNeg (t_row (x2 + (1 : Int32)).toNatClampNeg)))  hf S (lv_sub hl [1, 0] rfl)
set_option maxRecDepth 100000 in
set_option maxHeartbeats 4000000 in
theorem h_X0_drop_24 (C : Cx p s m args meth c cX0_drop none 3 RX0 G A) (t_round : Int32) (t_size : Int32) (t_back : Int32) (t_loads : Int32) (t_miles : Int32) (t_waits : Int32) (t_lateAt : Int32) (t_later : Int32) : ∀ (n : Nat) (x2 : Int32) (t_row : Nat → Int32) {H : Heap} {locs : List Loc} {ls : Array Slot} (hf : lp (fun k x => b_X0_drop_24 t_size k x.1 x.2) n (x2, t_row) = some (z_t_row, z_t_size)) (S : St G A s.heap H locs (w_X0_drop G a_t a_t_row a_t_comes a_t_begins a_t_slacks t_round t_size t_back t_loads t_miles t_waits t_lateAt t_later t_row)) (hl : lv_has ls 3 [(0, .ref a_t), (2, .int x2)]), W p l e rm_X0_drop s m args below meth c H locs 0 0 (QV G below args s A (w_X0_drop G a_t a_t_row a_t_comes a_t_begins a_t_slacks t_round z_t_size t_back t_loads t_miles t_waits t_lateAt t_later z_t_row)) (F0 m 24 ls []) := by
  intro n
  induction n with
  | zero =>
    intro x2 t_row  H locs ls hf
    cases hf
  | succ n ih =>
    intro x2 t_row  H locs ls hf S hl
    have hf : b_X0_drop_24 t_size (lp (fun k x => b_X0_drop_24 t_size k x.1 x.2) n) x2 t_row = some (z_t_row, z_t_size) := hf
    exact k_X0_drop_24 C t_round t_size t_back t_loads t_miles t_waits t_lateAt t_later t_row x2  (lp (fun k x => b_X0_drop_24 t_size k x.1 x.2) n) (fun x2' t_row'  h S hl => ih x2' t_row'  h S hl) hf S hl
set_option maxRecDepth 100000 in
set_option maxHeartbeats 4000000 in
theorem c_X0_drop (l : Launch) (G : GE) (a_t a_t_row a_t_comes a_t_begins a_t_slacks : Nat) (t_round : Int32) (t_size : Int32) (t_back : Int32) (t_loads : Int32) (t_miles : Int32) (t_waits : Int32) (t_lateAt : Int32) (t_later : Int32) (t_row : Nat → Int32) (x1 : Int32) (z_t_row : Nat → Int32) (z_t_size : Int32) (hf : f_X0_drop t_row t_size x1 = some (z_t_row, z_t_size)) : CV l G yX0_drop kw_X0_drop rm_X0_drop [.ref a_t, .int x1] (w_X0_drop G a_t a_t_row a_t_comes a_t_begins a_t_slacks t_round t_size t_back t_loads t_miles t_waits t_lateAt t_later t_row) (w_X0_drop G a_t a_t_row a_t_comes a_t_begins a_t_slacks t_round z_t_size t_back t_loads t_miles t_waits t_lateAt t_later z_t_row) := by
  refine en_V (cc := cX0_drop) (maxL := 3) (ret := none) (by decide +kernel) (Nat.le_of_ble_eq_true rfl) ?_
  intro p e s m args below meth c A ls C S hl
  have hl : lv_has ls 3 [(0, .ref a_t), (1, .int x1)] := hl
  have C : Cx p s m args meth c cX0_drop none 3 RX0 G A := C
  unfold f_X0_drop at hf
  have hx := C.1
  have hb := C.2.1
  have hown := C.2.2.2.2.1
  have hts := C.2.2.2.2.2.1
  have hN := C.2.2.2.2.2.2.2.2.2.2
  refine lv_iload_n (pc := 0) hx hb dX0_drop_0 rfl (lv_at hl 1 rfl) ?_
  refine lv_if_lt (tgt := 21) (pc := 1) hx hb dX0_drop_1 (by decide) (fun c1 => ?_) (fun c1 => ?_)
  · have hf := ifp c1 hf
    cases hf
    exact x_vret (pc := 21) C S dX0_drop_21
  · have hf := ifn c1 hf
    refine lv_iload_n (pc := 4) hx hb dX0_drop_4 rfl (lv_at hl 1 rfl) ?_
    refine lv_aload_n (pc := 5) hx hb dX0_drop_5 rfl (lv_at hl 0 rfl) ?_
    refine x_get (pc := 6) (ci := 0) (T := TX0) (v := .int t_size) C S 0 rfl rfl inlX0 5 (by decide) rfl qf_0_34 rfl dX0_drop_6 ?_
    refine lv_icmp_ge (tgt := 21) (pc := 9) hx hb dX0_drop_9 (by decide) (fun c2 => ?_) (fun c2 => ?_)
    · have hf := ifp c2 hf
      cases hf
      exact x_vret (pc := 21) C S dX0_drop_21
    · have hf := ifn c2 hf
      refine lv_aload_n (pc := 12) hx hb dX0_drop_12 rfl (lv_at hl 0 rfl) ?_
      refine x_get (pc := 13) (ci := 0) (T := TX0) (v := .int t_size) C S 0 rfl rfl inlX0 5 (by decide) rfl qf_0_34 rfl dX0_drop_13 ?_
      refine lv_bipush (pc := 16) hx hb dX0_drop_16 bc_16 ?_
      refine lv_icmp_le (tgt := 22) (pc := 18) hx hb dX0_drop_18 (by decide) (fun c3 => ?_) (fun c3 => ?_)
      · have hf := ifp c3 hf
        refine lv_iload_n (pc := 22) hx hb dX0_drop_22 rfl (lv_at hl 1 rfl) ?_
        refine lv_istore_n (pc := 23) (lv' := [(2, .int x1), (0, .ref a_t), (1, .int x1)]) hx hb dX0_drop_23 rfl hl (by decide) rfl (fun ls hl => ?_)
        exact h_X0_drop_24 C (t_round) (t_size) (t_back) (t_loads) (t_miles) (t_waits) (t_lateAt) (t_later) fu (x1) (t_row) hf S (lv_sub hl [1, 0] rfl)
      · have hf := ifn c3 hf
        cases hf
        exact x_vret (pc := 21) C S dX0_drop_21
end

abbrev rm_X0_stopAt : Room := { frames := 0, cells := 0, slots := 0, locals := 0 }
abbrev kw_X0_stopAt : Cond := .code yX0_stopAt cX0_stopAt 2 (some .int)
abbrev w_X0_stopAt (G : GE) (a_t a_t_row a_t_comes a_t_begins a_t_slacks : Nat) (t_round : Int32) (t_size : Int32) (t_back : Int32) (t_loads : Int32) (t_miles : Int32) (t_waits : Int32) (t_lateAt : Int32) (t_later : Int32) (t_row : Nat → Int32) : va_W := [(a_t, ob 0 [.ref a_t_row, .ref a_t_comes, .ref a_t_begins, .ref a_t_slacks, .int t_round, .int t_size, .int t_back, .int t_loads, .int t_miles, .int t_waits, .int t_lateAt, .int t_later]), (a_t_row, aI G 16 t_row)]
section
variable {p : Program} {l : Launch} {e : Env} {s : State} {m : MethodId} {args : Array Value} {below : List Frame} {meth : Method} {c : Code} {A : Nat → Prop} {G : GE} {a_t a_t_row a_t_comes a_t_begins a_t_slacks : Nat} {r : Int32}
set_option maxRecDepth 100000 in
set_option maxHeartbeats 4000000 in
theorem c_X0_stopAt (l : Launch) (G : GE) (a_t a_t_row a_t_comes a_t_begins a_t_slacks : Nat) (t_round : Int32) (t_size : Int32) (t_back : Int32) (t_loads : Int32) (t_miles : Int32) (t_waits : Int32) (t_lateAt : Int32) (t_later : Int32) (t_row : Nat → Int32) (x1 : Int32) (r : Int32) (hf : f_X0_stopAt t_row x1 = some r) : CI l G yX0_stopAt kw_X0_stopAt rm_X0_stopAt [.ref a_t, .int x1] (w_X0_stopAt G a_t a_t_row a_t_comes a_t_begins a_t_slacks t_round t_size t_back t_loads t_miles t_waits t_lateAt t_later t_row) r (w_X0_stopAt G a_t a_t_row a_t_comes a_t_begins a_t_slacks t_round t_size t_back t_loads t_miles t_waits t_lateAt t_later t_row) := by
  refine en_I (cc := cX0_stopAt) (maxL := 2) (ret := (some .int)) (by decide +kernel) (Nat.le_of_ble_eq_true rfl) ?_
  intro p e s m args below meth c A ls C S hl
  have hl : lv_has ls 2 [(0, .ref a_t), (1, .int x1)] := hl
  have C : Cx p s m args meth c cX0_stopAt (some .int) 2 RX0 G A := C
  unfold f_X0_stopAt at hf
  have hx := C.1
  have hb := C.2.1
  have hown := C.2.2.2.2.1
  have hts := C.2.2.2.2.2.1
  have hN := C.2.2.2.2.2.2.2.2.2.2
  refine lv_iload_n (pc := 0) hx hb dX0_stopAt_0 rfl (lv_at hl 1 rfl) ?_
  refine lv_if_lt (tgt := 22) (pc := 1) hx hb dX0_stopAt_1 (by decide) (fun c1 => ?_) (fun c1 => ?_)
  · have hf := ifp c1 hf
    refine lv_bipush (pc := 22) hx hb dX0_stopAt_22 bc_16 ?_
    cases hf
    exact x_iret (pc := 24) C S dX0_stopAt_24
  · have hf := ifn c1 hf
    refine lv_iload_n (pc := 4) hx hb dX0_stopAt_4 rfl (lv_at hl 1 rfl) ?_
    refine lv_aload_n (pc := 5) hx hb dX0_stopAt_5 rfl (lv_at hl 0 rfl) ?_
    refine x_get (pc := 6) (ci := 0) (T := TX0) (v := .ref a_t_row) C S 0 rfl rfl inlX0 0 (by decide) rfl qf_0_9 rfl dX0_stopAt_6 ?_
    refine x_lenI (pc := 9) C S 1 rfl nc_16 dX0_stopAt_9 ?_
    refine lv_icmp_ge (tgt := 22) (pc := 10) hx hb dX0_stopAt_10 (by decide) (fun c2 => ?_) (fun c2 => ?_)
    · have hf := ifp c2 hf
      refine lv_bipush (pc := 22) hx hb dX0_stopAt_22 bc_16 ?_
      cases hf
      exact x_iret (pc := 24) C S dX0_stopAt_24
    · have hf := ifn c2 hf
      refine lv_aload_n (pc := 13) hx hb dX0_stopAt_13 rfl (lv_at hl 0 rfl) ?_
      refine x_get (pc := 14) (ci := 0) (T := TX0) (v := .ref a_t_row) C S 0 rfl rfl inlX0 0 (by decide) rfl qf_0_9 rfl dX0_stopAt_14 ?_
      refine lv_iload_n (pc := 17) hx hb dX0_stopAt_17 rfl (lv_at hl 1 rfl) ?_
      obtain ⟨hv3, hf⟩ := gI_e hf
      refine x_iald (pc := 18) C S 1 rfl hv3 dX0_stopAt_18 ?_
      refine lv_goto (tgt := 24) (pc := 19) hx hb dX0_stopAt_19 (by decide) ?_
      cases hf
      exact x_iret (pc := 24) C S dX0_stopAt_24
end

abbrev rm_X6_isLocked : Room := { frames := 0, cells := 0, slots := 0, locals := 0 }
abbrev kw_X6_isLocked : Cond := .code yX6_isLocked cX6_isLocked 2 (some .boolean)
abbrev w_X6_isLocked (G : GE) (a_t a_t_facts a_t_roundsOf a_t_locked a_t_rules a_t_sizes a_t_rows a_t_seen a_t_plan a_t_book : Nat) (t_stopCount : Int32) (t_metric : Int32) (t_fixed : Int32) (t_locked : Nat → Int32) : va_W := [(a_t, ob 6 [.ref a_t_facts, .ref a_t_roundsOf, .ref a_t_locked, .ref a_t_rules, .ref a_t_sizes, .ref a_t_rows, .ref a_t_seen, .ref a_t_plan, .ref a_t_book, .int t_stopCount, .int t_metric, .int t_fixed]), (a_t_locked, aZ G 16 t_locked)]
section
variable {p : Program} {l : Launch} {e : Env} {s : State} {m : MethodId} {args : Array Value} {below : List Frame} {meth : Method} {c : Code} {A : Nat → Prop} {G : GE} {a_t a_t_facts a_t_roundsOf a_t_locked a_t_rules a_t_sizes a_t_rows a_t_seen a_t_plan a_t_book : Nat} {r : Int32}
set_option maxRecDepth 100000 in
set_option maxHeartbeats 4000000 in
theorem c_X6_isLocked (l : Launch) (G : GE) (a_t a_t_facts a_t_roundsOf a_t_locked a_t_rules a_t_sizes a_t_rows a_t_seen a_t_plan a_t_book : Nat) (t_stopCount : Int32) (t_metric : Int32) (t_fixed : Int32) (t_locked : Nat → Int32) (x1 : Int32) (r : Int32) (hf : f_X6_isLocked t_locked x1 = some r) : CI l G yX6_isLocked kw_X6_isLocked rm_X6_isLocked [.ref a_t, .int x1] (w_X6_isLocked G a_t a_t_facts a_t_roundsOf a_t_locked a_t_rules a_t_sizes a_t_rows a_t_seen a_t_plan a_t_book t_stopCount t_metric t_fixed t_locked) r (w_X6_isLocked G a_t a_t_facts a_t_roundsOf a_t_locked a_t_rules a_t_sizes a_t_rows a_t_seen a_t_plan a_t_book t_stopCount t_metric t_fixed t_locked) := by
  refine en_I (cc := cX6_isLocked) (maxL := 2) (ret := (some .boolean)) (by decide +kernel) (Nat.le_of_ble_eq_true rfl) ?_
  intro p e s m args below meth c A ls C S hl
  have hl : lv_has ls 2 [(0, .ref a_t), (1, .int x1)] := hl
  have C : Cx p s m args meth c cX6_isLocked (some .boolean) 2 RX6 G A := C
  unfold f_X6_isLocked at hf
  have hx := C.1
  have hb := C.2.1
  have hown := C.2.2.2.2.1
  have hts := C.2.2.2.2.2.1
  have hN := C.2.2.2.2.2.2.2.2.2.2
  refine lv_iload_n (pc := 0) hx hb dX6_isLocked_0 rfl (lv_at hl 1 rfl) ?_
  refine lv_if_lt (tgt := 26) (pc := 1) hx hb dX6_isLocked_1 (by decide) (fun c1 => ?_) (fun c1 => ?_)
  · have hf := ifp c1 hf
    refine lv_iconst (pc := 26) hx hb dX6_isLocked_26 ic_0 ?_
    cases hf
    exact x_zret (pc := 27) (by decide) C S dX6_isLocked_27
  · have hf := ifn c1 hf
    refine lv_iload_n (pc := 4) hx hb dX6_isLocked_4 rfl (lv_at hl 1 rfl) ?_
    refine lv_aload_n (pc := 5) hx hb dX6_isLocked_5 rfl (lv_at hl 0 rfl) ?_
    refine x_get (pc := 6) (ci := 6) (T := TX6) (v := .ref a_t_locked) C S 0 rfl rfl inlX6 2 (by decide) rfl qf_6_18 rfl dX6_isLocked_6 ?_
    refine x_lenZ (pc := 9) C S 1 rfl nc_16 dX6_isLocked_9 ?_
    refine lv_icmp_ge (tgt := 26) (pc := 10) hx hb dX6_isLocked_10 (by decide) (fun c2 => ?_) (fun c2 => ?_)
    · have hf := ifp c2 hf
      refine lv_iconst (pc := 26) hx hb dX6_isLocked_26 ic_0 ?_
      cases hf
      exact x_zret (pc := 27) (by decide) C S dX6_isLocked_27
    · have hf := ifn c2 hf
      refine lv_aload_n (pc := 13) hx hb dX6_isLocked_13 rfl (lv_at hl 0 rfl) ?_
      refine x_get (pc := 14) (ci := 6) (T := TX6) (v := .ref a_t_locked) C S 0 rfl rfl inlX6 2 (by decide) rfl qf_6_18 rfl dX6_isLocked_14 ?_
      refine lv_iload_n (pc := 17) hx hb dX6_isLocked_17 rfl (lv_at hl 1 rfl) ?_
      obtain ⟨hv3, hf⟩ := gI_e hf
      refine x_zald (pc := 18) C S 1 rfl hv3 dX6_isLocked_18 ?_
      refine lv_if_eq (tgt := 26) (pc := 19) hx hb dX6_isLocked_19 (by decide) (fun c4 => ?_) (fun c4 => ?_)
      · have hf := ifp c4 hf
        refine lv_iconst (pc := 26) hx hb dX6_isLocked_26 ic_0 ?_
        cases hf
        exact x_zret (pc := 27) (by decide) C S dX6_isLocked_27
      · have hf := ifn c4 hf
        refine lv_iconst (pc := 22) hx hb dX6_isLocked_22 ic_1 ?_
        refine lv_goto (tgt := 27) (pc := 23) hx hb dX6_isLocked_23 (by decide) ?_
        cases hf
        exact x_zret (pc := 27) (by decide) C S dX6_isLocked_27
end

abbrev rm_X0_dropUnlocked : Room := { frames := 1, cells := 0, slots := 0, locals := 22 }
abbrev kw_X0_dropUnlocked : Cond := .code yX0_dropUnlocked cX0_dropUnlocked 3 none
abbrev w_X0_dropUnlocked (G : GE) (a_t a_t_row a_t_comes a_t_begins a_t_slacks a_p1 a_p1_facts a_p1_roundsOf a_p1_locked a_p1_rules a_p1_sizes a_p1_rows a_p1_seen a_p1_plan a_p1_book : Nat) (t_round : Int32) (t_size : Int32) (t_back : Int32) (t_loads : Int32) (t_miles : Int32) (t_waits : Int32) (t_lateAt : Int32) (t_later : Int32) (t_row : Nat → Int32) (p1_stopCount : Int32) (p1_metric : Int32) (p1_fixed : Int32) (p1_locked : Nat → Int32) : va_W := [(a_t, ob 0 [.ref a_t_row, .ref a_t_comes, .ref a_t_begins, .ref a_t_slacks, .int t_round, .int t_size, .int t_back, .int t_loads, .int t_miles, .int t_waits, .int t_lateAt, .int t_later]), (a_t_row, aI G 16 t_row), (a_p1, ob 6 [.ref a_p1_facts, .ref a_p1_roundsOf, .ref a_p1_locked, .ref a_p1_rules, .ref a_p1_sizes, .ref a_p1_rows, .ref a_p1_seen, .ref a_p1_plan, .ref a_p1_book, .int p1_stopCount, .int p1_metric, .int p1_fixed]), (a_p1_locked, aZ G 16 p1_locked)]
theorem u_X0_dropUnlocked_X0_stopAt_49 {s : State} {args : Array Value} (hts : ∀ w ∈ WU, w.before args s = true) : CallW rm_X0_dropUnlocked s args RX0 RX0 49 yX0_stopAt cX0_stopAt 2 (some .int) (kw_X0_stopAt :: WU) rm_X0_stopAt 0 0 1 := cwV 1 hts (gV qm_0_49 qi_X0_stopAt ql_X0_stopAt qn_0 qc_X0_stopAt) rfl rfl rfl (by decide +kernel) ⟨Nat.le_of_ble_eq_true rfl, Nat.le_of_ble_eq_true rfl⟩
theorem u_X0_dropUnlocked_X6_isLocked_52 {s : State} {args : Array Value} (hts : ∀ w ∈ WU, w.before args s = true) : CallW rm_X0_dropUnlocked s args RX0 RX6 52 yX6_isLocked cX6_isLocked 2 (some .boolean) (kw_X6_isLocked :: WU) rm_X6_isLocked 0 0 1 := cwV 1 hts (gV qm_0_52 qi_X6_isLocked ql_X6_isLocked qn_6 qc_X6_isLocked) rfl rfl rfl (by decide +kernel) ⟨Nat.le_of_ble_eq_true rfl, Nat.le_of_ble_eq_true rfl⟩
theorem u_X0_dropUnlocked_X0_drop_56 {s : State} {args : Array Value} (hts : ∀ w ∈ WU, w.before args s = true) : CallW rm_X0_dropUnlocked s args RX0 RX0 56 yX0_drop cX0_drop 3 none (kw_X0_drop :: WU) rm_X0_drop 0 0 1 := cwV 1 hts (gV qm_0_56 qi_X0_drop ql_X0_drop qn_0 qc_X0_drop) rfl rfl rfl (by decide +kernel) ⟨Nat.le_of_ble_eq_true rfl, Nat.le_of_ble_eq_true rfl⟩
section
variable {p : Program} {l : Launch} {e : Env} {s : State} {m : MethodId} {args : Array Value} {below : List Frame} {meth : Method} {c : Code} {A : Nat → Prop} {G : GE} {a_t a_t_row a_t_comes a_t_begins a_t_slacks a_p1 a_p1_facts a_p1_roundsOf a_p1_locked a_p1_rules a_p1_sizes a_p1_rows a_p1_seen a_p1_plan a_p1_book : Nat} {z_t_row : Nat → Int32} {z_t_size : Int32}
set_option maxRecDepth 100000 in
set_option maxHeartbeats 4000000 in
theorem k_X0_dropUnlocked_7 (C : Cx p s m args meth c cX0_dropUnlocked none 3 RX0 G A) (t_round : Int32) (t_size : Int32) (t_back : Int32) (t_loads : Int32) (t_miles : Int32) (t_waits : Int32) (t_lateAt : Int32) (t_later : Int32) (t_row : Nat → Int32) (p1_stopCount : Int32) (p1_metric : Int32) (p1_fixed : Int32) (p1_locked : Nat → Int32) (x2 : Int32) (k7 : Int32 × (Nat → Int32) × Int32 → Option ((Nat → Int32) × Int32)) (hk7 : ∀ {H : Heap} {locs : List Loc} {ls : Array Slot} (x2' : Int32) (t_row' : Nat → Int32) (t_size' : Int32), k7 (x2', t_row', t_size') = some (z_t_row, z_t_size) → St G A s.heap H locs (w_X0_dropUnlocked G a_t a_t_row a_t_comes a_t_begins a_t_slacks a_p1 a_p1_facts a_p1_roundsOf a_p1_locked a_p1_rules a_p1_sizes a_p1_rows a_p1_seen a_p1_plan a_p1_book t_round t_size' t_back t_loads t_miles t_waits t_lateAt t_later t_row' p1_stopCount p1_metric p1_fixed p1_locked) → lv_has ls 3 [(0, .ref a_t), (1, .ref a_p1), (2, .int x2')] → W p l e rm_X0_dropUnlocked s m args below meth c H locs 0 0 (QV G below args s A (w_X0_dropUnlocked G a_t a_t_row a_t_comes a_t_begins a_t_slacks a_p1 a_p1_facts a_p1_roundsOf a_p1_locked a_p1_rules a_p1_sizes a_p1_rows a_p1_seen a_p1_plan a_p1_book t_round z_t_size t_back t_loads t_miles t_waits t_lateAt t_later z_t_row p1_stopCount p1_metric p1_fixed p1_locked)) (F0 m 7 ls [])) {H : Heap} {locs : List Loc} {ls : Array Slot} (hf : b_X0_dropUnlocked_7 p1_locked k7 x2 t_row t_size = some (z_t_row, z_t_size)) (S : St G A s.heap H locs (w_X0_dropUnlocked G a_t a_t_row a_t_comes a_t_begins a_t_slacks a_p1 a_p1_facts a_p1_roundsOf a_p1_locked a_p1_rules a_p1_sizes a_p1_rows a_p1_seen a_p1_plan a_p1_book t_round t_size t_back t_loads t_miles t_waits t_lateAt t_later t_row p1_stopCount p1_metric p1_fixed p1_locked)) (hl : lv_has ls 3 [(0, .ref a_t), (1, .ref a_p1), (2, .int x2)]) : W p l e rm_X0_dropUnlocked s m args below meth c H locs 0 0 (QV G below args s A (w_X0_dropUnlocked G a_t a_t_row a_t_comes a_t_begins a_t_slacks a_p1 a_p1_facts a_p1_roundsOf a_p1_locked a_p1_rules a_p1_sizes a_p1_rows a_p1_seen a_p1_plan a_p1_book t_round z_t_size t_back t_loads t_miles t_waits t_lateAt t_later z_t_row p1_stopCount p1_metric p1_fixed p1_locked)) (F0 m 7 ls []) := by
  unfold b_X0_dropUnlocked_7 at hf
  have hx := C.1
  have hb := C.2.1
  have hown := C.2.2.2.2.1
  have hts := C.2.2.2.2.2.1
  have hN := C.2.2.2.2.2.2.2.2.2.2
  refine lv_iload_n (pc := 7) hx hb dX0_dropUnlocked_7 rfl (lv_at hl 2 rfl) ?_
  refine lv_if_lt (tgt := 34) (pc := 8) hx hb dX0_dropUnlocked_8 (by decide) (fun c1 => ?_) (fun c1 => ?_)
  · have hf := ifp c1 hf
    cases hf
    exact x_vret (pc := 34) C S dX0_dropUnlocked_34
  · have hf := ifn c1 hf
    refine lv_aload_n (pc := 11) hx hb dX0_dropUnlocked_11 rfl (lv_at hl 1 rfl) ?_
    refine lv_aload_n (pc := 12) hx hb dX0_dropUnlocked_12 rfl (lv_at hl 0 rfl) ?_
    refine lv_iload_n (pc := 13) hx hb dX0_dropUnlocked_13 rfl (lv_at hl 2 rfl) ?_
    obtain ⟨r2, hq2, hf⟩ := bd_e hf
    refine x_vI (pc := 14) (As := [.int x2]) (rest := [.ref a_p1]) (isC := [0, 1]) (ws' := (w_X0_dropUnlocked G a_t a_t_row a_t_comes a_t_begins a_t_slacks a_p1 a_p1_facts a_p1_roundsOf a_p1_locked a_p1_rules a_p1_sizes a_p1_rows a_p1_seen a_p1_plan a_p1_book t_round t_size t_back t_loads t_miles t_waits t_lateAt t_later t_row p1_stopCount p1_metric p1_fixed p1_locked)) C S (c_X0_stopAt l G a_t a_t_row a_t_comes a_t_begins a_t_slacks t_round t_size t_back t_loads t_miles t_waits t_lateAt t_later t_row x2 r2 hq2) (u_X0_dropUnlocked_X0_stopAt_49 hts) (ci := 0) rfl 0 rfl rfl (by decide +kernel) [some 0, some 1, none, none] (by decide +kernel) rfl rfl rfl hl.1 rfl (Nat.le_of_ble_eq_true rfl) dX0_dropUnlocked_14 (fun H locs S => ?_)
    obtain ⟨r3, hq3, hf⟩ := bd_e hf
    refine x_vI (pc := 17) (As := [.int r2]) (rest := []) (isC := [2, 3]) (ws' := (w_X0_dropUnlocked G a_t a_t_row a_t_comes a_t_begins a_t_slacks a_p1 a_p1_facts a_p1_roundsOf a_p1_locked a_p1_rules a_p1_sizes a_p1_rows a_p1_seen a_p1_plan a_p1_book t_round t_size t_back t_loads t_miles t_waits t_lateAt t_later t_row p1_stopCount p1_metric p1_fixed p1_locked)) C S (c_X6_isLocked l G a_p1 a_p1_facts a_p1_roundsOf a_p1_locked a_p1_rules a_p1_sizes a_p1_rows a_p1_seen a_p1_plan a_p1_book p1_stopCount p1_metric p1_fixed p1_locked r2 r3 hq3) (u_X0_dropUnlocked_X6_isLocked_52 hts) (ci := 6) rfl 2 rfl rfl (by decide +kernel) [none, none, some 0, some 1] (by decide +kernel) rfl rfl rfl hl.1 rfl (Nat.le_of_ble_eq_true rfl) dX0_dropUnlocked_17 (fun H locs S => ?_)
    refine lv_if_ne (tgt := 28) (pc := 20) hx hb dX0_dropUnlocked_20 (by decide) (fun c4 => ?_) (fun c4 => ?_)
    · have hf := ifn c4 hf
      refine lv_iinc (pc := 28) (v := (x2 + (-1 : Int32))) (lv' := [(2, .int (x2 + (-1 : Int32))), (0, .ref a_t), (1, .ref a_p1)]) hx hb dX0_dropUnlocked_28 hl (k := 2) rfl (congrArg (fun z => x2 + z) ic_m1) (by decide) rfl (fun ls hl => ?_)
      refine lv_goto (tgt := 7) (pc := 31) hx hb dX0_dropUnlocked_31 (by decide) ?_
      exact hk7 ((x2 + (-1 : Int32))) (t_row) (t_size)  hf S (lv_sub hl [1, 2, 0] rfl)
    · have hf := ifp c4 hf
      refine lv_aload_n (pc := 23) hx hb dX0_dropUnlocked_23 rfl (lv_at hl 0 rfl) ?_
      refine lv_iload_n (pc := 24) hx hb dX0_dropUnlocked_24 rfl (lv_at hl 2 rfl) ?_
      obtain ⟨⟨o5_t_row, o5_t_size⟩, hq5, hf⟩ := bd_e hf
      refine x_vV (pc := 25) (As := [.int x2]) (rest := []) (isC := [0, 1]) (ws' := (w_X0_dropUnlocked G a_t a_t_row a_t_comes a_t_begins a_t_slacks a_p1 a_p1_facts a_p1_roundsOf a_p1_locked a_p1_rules a_p1_sizes a_p1_rows a_p1_seen a_p1_plan a_p1_book t_round o5_t_size t_back t_loads t_miles t_waits t_lateAt t_later o5_t_row p1_stopCount p1_metric p1_fixed p1_locked)) C S (c_X0_drop l G a_t a_t_row a_t_comes a_t_begins a_t_slacks t_round t_size t_back t_loads t_miles t_waits t_lateAt t_later t_row x2 o5_t_row o5_t_size hq5) (u_X0_dropUnlocked_X0_drop_56 hts) (ci := 0) rfl 0 rfl rfl (by decide +kernel) [some 0, some 1, none, none] (by decide +kernel) rfl rfl rfl hl.1 rfl (Nat.le_of_ble_eq_true rfl) dX0_dropUnlocked_25 (fun H locs S => ?_)
      refine lv_iinc (pc := 28) (v := (x2 + (-1 : Int32))) (lv' := [(2, .int (x2 + (-1 : Int32))), (0, .ref a_t), (1, .ref a_p1)]) hx hb dX0_dropUnlocked_28 hl (k := 2) rfl (congrArg (fun z => x2 + z) ic_m1) (by decide) rfl (fun ls hl => ?_)
      refine lv_goto (tgt := 7) (pc := 31) hx hb dX0_dropUnlocked_31 (by decide) ?_
      exact hk7 ((x2 + (-1 : Int32))) (o5_t_row) (o5_t_size)  hf S (lv_sub hl [1, 2, 0] rfl)
set_option maxRecDepth 100000 in
set_option maxHeartbeats 4000000 in
theorem h_X0_dropUnlocked_7 (C : Cx p s m args meth c cX0_dropUnlocked none 3 RX0 G A) (t_round : Int32) (t_back : Int32) (t_loads : Int32) (t_miles : Int32) (t_waits : Int32) (t_lateAt : Int32) (t_later : Int32) (p1_stopCount : Int32) (p1_metric : Int32) (p1_fixed : Int32) (p1_locked : Nat → Int32) : ∀ (n : Nat) (x2 : Int32) (t_row : Nat → Int32) (t_size : Int32) {H : Heap} {locs : List Loc} {ls : Array Slot} (hf : lp (fun k x => b_X0_dropUnlocked_7 p1_locked k x.1 x.2.1 x.2.2) n (x2, t_row, t_size) = some (z_t_row, z_t_size)) (S : St G A s.heap H locs (w_X0_dropUnlocked G a_t a_t_row a_t_comes a_t_begins a_t_slacks a_p1 a_p1_facts a_p1_roundsOf a_p1_locked a_p1_rules a_p1_sizes a_p1_rows a_p1_seen a_p1_plan a_p1_book t_round t_size t_back t_loads t_miles t_waits t_lateAt t_later t_row p1_stopCount p1_metric p1_fixed p1_locked)) (hl : lv_has ls 3 [(0, .ref a_t), (1, .ref a_p1), (2, .int x2)]), W p l e rm_X0_dropUnlocked s m args below meth c H locs 0 0 (QV G below args s A (w_X0_dropUnlocked G a_t a_t_row a_t_comes a_t_begins a_t_slacks a_p1 a_p1_facts a_p1_roundsOf a_p1_locked a_p1_rules a_p1_sizes a_p1_rows a_p1_seen a_p1_plan a_p1_book t_round z_t_size t_back t_loads t_miles t_waits t_lateAt t_later z_t_row p1_stopCount p1_metric p1_fixed p1_locked)) (F0 m 7 ls []) := by
  intro n
  induction n with
  | zero =>
    intro x2 t_row t_size  H locs ls hf
    cases hf
  | succ n ih =>
    intro x2 t_row t_size  H locs ls hf S hl
    have hf : b_X0_dropUnlocked_7 p1_locked (lp (fun k x => b_X0_dropUnlocked_7 p1_locked k x.1 x.2.1 x.2.2) n) x2 t_row t_size = some (z_t_row, z_t_size) := hf
    exact k_X0_dropUnlocked_7 C t_round t_size t_back t_loads t_miles t_waits t_lateAt t_later t_row p1_stopCount p1_metric p1_fixed p1_locked x2  (lp (fun k x => b_X0_dropUnlocked_7 p1_locked k x.1 x.2.1 x.2.2) n) (fun x2' t_row' t_size'  h S hl => ih x2' t_row' t_size'  h S hl) hf S hl
set_option maxRecDepth 100000 in
set_option maxHeartbeats 4000000 in
theorem c_X0_dropUnlocked (l : Launch) (G : GE) (a_t a_t_row a_t_comes a_t_begins a_t_slacks a_p1 a_p1_facts a_p1_roundsOf a_p1_locked a_p1_rules a_p1_sizes a_p1_rows a_p1_seen a_p1_plan a_p1_book : Nat) (t_round : Int32) (t_size : Int32) (t_back : Int32) (t_loads : Int32) (t_miles : Int32) (t_waits : Int32) (t_lateAt : Int32) (t_later : Int32) (t_row : Nat → Int32) (p1_stopCount : Int32) (p1_metric : Int32) (p1_fixed : Int32) (p1_locked : Nat → Int32) (z_t_row : Nat → Int32) (z_t_size : Int32) (hf : f_X0_dropUnlocked t_row t_size p1_locked = some (z_t_row, z_t_size)) : CV l G yX0_dropUnlocked kw_X0_dropUnlocked rm_X0_dropUnlocked [.ref a_t, .ref a_p1] (w_X0_dropUnlocked G a_t a_t_row a_t_comes a_t_begins a_t_slacks a_p1 a_p1_facts a_p1_roundsOf a_p1_locked a_p1_rules a_p1_sizes a_p1_rows a_p1_seen a_p1_plan a_p1_book t_round t_size t_back t_loads t_miles t_waits t_lateAt t_later t_row p1_stopCount p1_metric p1_fixed p1_locked) (w_X0_dropUnlocked G a_t a_t_row a_t_comes a_t_begins a_t_slacks a_p1 a_p1_facts a_p1_roundsOf a_p1_locked a_p1_rules a_p1_sizes a_p1_rows a_p1_seen a_p1_plan a_p1_book t_round z_t_size t_back t_loads t_miles t_waits t_lateAt t_later z_t_row p1_stopCount p1_metric p1_fixed p1_locked) := by
  refine en_V (cc := cX0_dropUnlocked) (maxL := 3) (ret := none) (by decide +kernel) (Nat.le_of_ble_eq_true rfl) ?_
  intro p e s m args below meth c A ls C S hl
  have hl : lv_has ls 3 [(0, .ref a_t), (1, .ref a_p1)] := hl
  have C : Cx p s m args meth c cX0_dropUnlocked none 3 RX0 G A := C
  unfold f_X0_dropUnlocked at hf
  have hx := C.1
  have hb := C.2.1
  have hown := C.2.2.2.2.1
  have hts := C.2.2.2.2.2.1
  have hN := C.2.2.2.2.2.2.2.2.2.2
  refine lv_aload_n (pc := 0) hx hb dX0_dropUnlocked_0 rfl (lv_at hl 0 rfl) ?_
  refine x_get (pc := 1) (ci := 0) (T := TX0) (v := .int t_size) C S 0 rfl rfl inlX0 5 (by decide) rfl qf_0_34 rfl dX0_dropUnlocked_1 ?_
  refine lv_iconst (pc := 4) hx hb dX0_dropUnlocked_4 ic_1 ?_
  refine lv_isub (pc := 5) hx hb dX0_dropUnlocked_5 ?_
  refine lv_istore_n (pc := 6) (lv' := [(2, .int (t_size - (1 : Int32))), (0, .ref a_t), (1, .ref a_p1)]) hx hb dX0_dropUnlocked_6 rfl hl (by decide) rfl (fun ls hl => ?_)
  exact h_X0_dropUnlocked_7 C (t_round) (t_back) (t_loads) (t_miles) (t_waits) (t_lateAt) (t_later) (p1_stopCount) (p1_metric) (p1_fixed) (p1_locked) fu ((t_size - (1 : Int32))) (t_row) (t_size) hf S (lv_sub hl [1, 2, 0] rfl)
end

abbrev rm_X6_ruleOf : Room := { frames := 0, cells := 0, slots := 0, locals := 0 }
abbrev kw_X6_ruleOf : Cond := .code yX6_ruleOf cX6_ruleOf 4 (some .int)
abbrev w_X6_ruleOf (G : GE) (a_t a_t_facts a_t_roundsOf a_t_locked a_t_rules a_t_sizes a_t_rows a_t_seen a_t_plan a_t_book : Nat) (t_stopCount : Int32) (t_metric : Int32) (t_fixed : Int32) (t_rules : Nat → Int32) : va_W := [(a_t, ob 6 [.ref a_t_facts, .ref a_t_roundsOf, .ref a_t_locked, .ref a_t_rules, .ref a_t_sizes, .ref a_t_rows, .ref a_t_seen, .ref a_t_plan, .ref a_t_book, .int t_stopCount, .int t_metric, .int t_fixed]), (a_t_rules, aI G 12 t_rules)]
section
variable {p : Program} {l : Launch} {e : Env} {s : State} {m : MethodId} {args : Array Value} {below : List Frame} {meth : Method} {c : Code} {A : Nat → Prop} {G : GE} {a_t a_t_facts a_t_roundsOf a_t_locked a_t_rules a_t_sizes a_t_rows a_t_seen a_t_plan a_t_book : Nat} {r : Int32}
set_option maxRecDepth 100000 in
set_option maxHeartbeats 4000000 in
theorem c_X6_ruleOf (l : Launch) (G : GE) (a_t a_t_facts a_t_roundsOf a_t_locked a_t_rules a_t_sizes a_t_rows a_t_seen a_t_plan a_t_book : Nat) (t_stopCount : Int32) (t_metric : Int32) (t_fixed : Int32) (t_rules : Nat → Int32) (x1 : Int32) (x2 : Int32) (r : Int32) (hf : f_X6_ruleOf t_rules x1 x2 = some r) : CI l G yX6_ruleOf kw_X6_ruleOf rm_X6_ruleOf [.ref a_t, .int x1, .int x2] (w_X6_ruleOf G a_t a_t_facts a_t_roundsOf a_t_locked a_t_rules a_t_sizes a_t_rows a_t_seen a_t_plan a_t_book t_stopCount t_metric t_fixed t_rules) r (w_X6_ruleOf G a_t a_t_facts a_t_roundsOf a_t_locked a_t_rules a_t_sizes a_t_rows a_t_seen a_t_plan a_t_book t_stopCount t_metric t_fixed t_rules) := by
  refine en_I (cc := cX6_ruleOf) (maxL := 4) (ret := (some .int)) (by decide +kernel) (Nat.le_of_ble_eq_true rfl) ?_
  intro p e s m args below meth c A ls C S hl
  have hl : lv_has ls 4 [(0, .ref a_t), (1, .int x1), (2, .int x2)] := hl
  have C : Cx p s m args meth c cX6_ruleOf (some .int) 4 RX6 G A := C
  unfold f_X6_ruleOf at hf
  have hx := C.1
  have hb := C.2.1
  have hown := C.2.2.2.2.1
  have hts := C.2.2.2.2.2.1
  have hN := C.2.2.2.2.2.2.2.2.2.2
  refine lv_iload_n (pc := 0) hx hb dX6_ruleOf_0 rfl (lv_at hl 1 rfl) ?_
  refine lv_iconst (pc := 1) hx hb dX6_ruleOf_1 ic_3 ?_
  refine lv_imul (pc := 2) hx hb dX6_ruleOf_2 ?_
  refine lv_iload_n (pc := 3) hx hb dX6_ruleOf_3 rfl (lv_at hl 2 rfl) ?_
  refine lv_iadd (pc := 4) hx hb dX6_ruleOf_4 ?_
  refine lv_istore_n (pc := 5) (lv' := [(3, .int ((x1 * (3 : Int32)) + x2)), (0, .ref a_t), (1, .int x1), (2, .int x2)]) hx hb dX6_ruleOf_5 rfl hl (by decide) rfl (fun ls hl => ?_)
  refine lv_iload_n (pc := 6) hx hb dX6_ruleOf_6 rfl (lv_at hl 0 rfl) ?_
  refine lv_if_lt (tgt := 28) (pc := 7) hx hb dX6_ruleOf_7 (by decide) (fun c1 => ?_) (fun c1 => ?_)
  · have hf := ifp c1 hf
    refine lv_iconst (pc := 28) hx hb dX6_ruleOf_28 ic_0 ?_
    cases hf
    exact x_iret (pc := 29) C S dX6_ruleOf_29
  · have hf := ifn c1 hf
    refine lv_iload_n (pc := 10) hx hb dX6_ruleOf_10 rfl (lv_at hl 0 rfl) ?_
    refine lv_aload_n (pc := 11) hx hb dX6_ruleOf_11 rfl (lv_at hl 1 rfl) ?_
    refine x_get (pc := 12) (ci := 6) (T := TX6) (v := .ref a_t_rules) C S 0 rfl rfl inlX6 3 (by decide) rfl qf_6_22 rfl dX6_ruleOf_12 ?_
    refine x_lenI (pc := 15) C S 1 rfl nc_12 dX6_ruleOf_15 ?_
    refine lv_icmp_ge (tgt := 28) (pc := 16) hx hb dX6_ruleOf_16 (by decide) (fun c2 => ?_) (fun c2 => ?_)
    · have hf := ifp c2 hf
      refine lv_iconst (pc := 28) hx hb dX6_ruleOf_28 ic_0 ?_
      cases hf
      exact x_iret (pc := 29) C S dX6_ruleOf_29
    · have hf := ifn c2 hf
      refine lv_aload_n (pc := 19) hx hb dX6_ruleOf_19 rfl (lv_at hl 1 rfl) ?_
      refine x_get (pc := 20) (ci := 6) (T := TX6) (v := .ref a_t_rules) C S 0 rfl rfl inlX6 3 (by decide) rfl qf_6_22 rfl dX6_ruleOf_20 ?_
      refine lv_iload_n (pc := 23) hx hb dX6_ruleOf_23 rfl (lv_at hl 0 rfl) ?_
      obtain ⟨hv3, hf⟩ := gI_e hf
      refine x_iald (pc := 24) C S 1 rfl hv3 dX6_ruleOf_24 ?_
      refine lv_goto (tgt := 29) (pc := 25) hx hb dX6_ruleOf_25 (by decide) ?_
      cases hf
      exact x_iret (pc := 29) C S dX6_ruleOf_29
end

abbrev rm_X6_fact : Room := { frames := 0, cells := 0, slots := 0, locals := 0 }
abbrev kw_X6_fact : Cond := .code yX6_fact cX6_fact 4 (some .int)
abbrev w_X6_fact (G : GE) (a_t a_t_facts a_t_roundsOf a_t_locked a_t_rules a_t_sizes a_t_rows a_t_seen a_t_plan a_t_book : Nat) (t_stopCount : Int32) (t_metric : Int32) (t_fixed : Int32) (t_facts : Nat → Int32) : va_W := [(a_t, ob 6 [.ref a_t_facts, .ref a_t_roundsOf, .ref a_t_locked, .ref a_t_rules, .ref a_t_sizes, .ref a_t_rows, .ref a_t_seen, .ref a_t_plan, .ref a_t_book, .int t_stopCount, .int t_metric, .int t_fixed]), (a_t_facts, aI G 102 t_facts)]
section
variable {p : Program} {l : Launch} {e : Env} {s : State} {m : MethodId} {args : Array Value} {below : List Frame} {meth : Method} {c : Code} {A : Nat → Prop} {G : GE} {a_t a_t_facts a_t_roundsOf a_t_locked a_t_rules a_t_sizes a_t_rows a_t_seen a_t_plan a_t_book : Nat} {r : Int32}
set_option maxRecDepth 100000 in
set_option maxHeartbeats 4000000 in
theorem c_X6_fact (l : Launch) (G : GE) (a_t a_t_facts a_t_roundsOf a_t_locked a_t_rules a_t_sizes a_t_rows a_t_seen a_t_plan a_t_book : Nat) (t_stopCount : Int32) (t_metric : Int32) (t_fixed : Int32) (t_facts : Nat → Int32) (x1 : Int32) (x2 : Int32) (r : Int32) (hf : f_X6_fact t_facts x1 x2 = some r) : CI l G yX6_fact kw_X6_fact rm_X6_fact [.ref a_t, .int x1, .int x2] (w_X6_fact G a_t a_t_facts a_t_roundsOf a_t_locked a_t_rules a_t_sizes a_t_rows a_t_seen a_t_plan a_t_book t_stopCount t_metric t_fixed t_facts) r (w_X6_fact G a_t a_t_facts a_t_roundsOf a_t_locked a_t_rules a_t_sizes a_t_rows a_t_seen a_t_plan a_t_book t_stopCount t_metric t_fixed t_facts) := by
  refine en_I (cc := cX6_fact) (maxL := 4) (ret := (some .int)) (by decide +kernel) (Nat.le_of_ble_eq_true rfl) ?_
  intro p e s m args below meth c A ls C S hl
  have hl : lv_has ls 4 [(0, .ref a_t), (1, .int x1), (2, .int x2)] := hl
  have C : Cx p s m args meth c cX6_fact (some .int) 4 RX6 G A := C
  unfold f_X6_fact at hf
  have hx := C.1
  have hb := C.2.1
  have hown := C.2.2.2.2.1
  have hts := C.2.2.2.2.2.1
  have hN := C.2.2.2.2.2.2.2.2.2.2
  refine lv_iload_n (pc := 0) hx hb dX6_fact_0 rfl (lv_at hl 1 rfl) ?_
  refine lv_bipush (pc := 1) hx hb dX6_fact_1 bc_6 ?_
  refine lv_imul (pc := 3) hx hb dX6_fact_3 ?_
  refine lv_iload_n (pc := 4) hx hb dX6_fact_4 rfl (lv_at hl 2 rfl) ?_
  refine lv_iadd (pc := 5) hx hb dX6_fact_5 ?_
  refine lv_istore_n (pc := 6) (lv' := [(3, .int ((x1 * (6 : Int32)) + x2)), (0, .ref a_t), (1, .int x1), (2, .int x2)]) hx hb dX6_fact_6 rfl hl (by decide) rfl (fun ls hl => ?_)
  refine lv_iload_n (pc := 7) hx hb dX6_fact_7 rfl (lv_at hl 0 rfl) ?_
  refine lv_if_lt (tgt := 29) (pc := 8) hx hb dX6_fact_8 (by decide) (fun c1 => ?_) (fun c1 => ?_)
  · have hf := ifp c1 hf
    refine lv_iconst (pc := 29) hx hb dX6_fact_29 ic_0 ?_
    cases hf
    exact x_iret (pc := 30) C S dX6_fact_30
  · have hf := ifn c1 hf
    refine lv_iload_n (pc := 11) hx hb dX6_fact_11 rfl (lv_at hl 0 rfl) ?_
    refine lv_aload_n (pc := 12) hx hb dX6_fact_12 rfl (lv_at hl 1 rfl) ?_
    refine x_get (pc := 13) (ci := 6) (T := TX6) (v := .ref a_t_facts) C S 0 rfl rfl inlX6 0 (by decide) rfl qf_6_9 rfl dX6_fact_13 ?_
    refine x_lenI (pc := 16) C S 1 rfl nc_102 dX6_fact_16 ?_
    refine lv_icmp_ge (tgt := 29) (pc := 17) hx hb dX6_fact_17 (by decide) (fun c2 => ?_) (fun c2 => ?_)
    · have hf := ifp c2 hf
      refine lv_iconst (pc := 29) hx hb dX6_fact_29 ic_0 ?_
      cases hf
      exact x_iret (pc := 30) C S dX6_fact_30
    · have hf := ifn c2 hf
      refine lv_aload_n (pc := 20) hx hb dX6_fact_20 rfl (lv_at hl 1 rfl) ?_
      refine x_get (pc := 21) (ci := 6) (T := TX6) (v := .ref a_t_facts) C S 0 rfl rfl inlX6 0 (by decide) rfl qf_6_9 rfl dX6_fact_21 ?_
      refine lv_iload_n (pc := 24) hx hb dX6_fact_24 rfl (lv_at hl 0 rfl) ?_
      obtain ⟨hv3, hf⟩ := gI_e hf
      refine x_iald (pc := 25) C S 1 rfl hv3 dX6_fact_25 ?_
      refine lv_goto (tgt := 30) (pc := 26) hx hb dX6_fact_26 (by decide) ?_
      cases hf
      exact x_iret (pc := 30) C S dX6_fact_30
end

abbrev rm_X6_apart : Room := { frames := 0, cells := 0, slots := 0, locals := 0 }
abbrev kw_X6_apart : Cond := .code yX6_apart cX6_apart 9 (some .int)
abbrev w_X6_apart (G : GE) (a_t a_t_facts a_t_roundsOf a_t_locked a_t_rules a_t_sizes a_t_rows a_t_seen a_t_plan a_t_book : Nat) (t_stopCount : Int32) (t_metric : Int32) (t_fixed : Int32) : va_W := [(a_t, ob 6 [.ref a_t_facts, .ref a_t_roundsOf, .ref a_t_locked, .ref a_t_rules, .ref a_t_sizes, .ref a_t_rows, .ref a_t_seen, .ref a_t_plan, .ref a_t_book, .int t_stopCount, .int t_metric, .int t_fixed])]
section
variable {p : Program} {l : Launch} {e : Env} {s : State} {m : MethodId} {args : Array Value} {below : List Frame} {meth : Method} {c : Code} {A : Nat → Prop} {G : GE} {a_t a_t_facts a_t_roundsOf a_t_locked a_t_rules a_t_sizes a_t_rows a_t_seen a_t_plan a_t_book : Nat} {r : Int32}
set_option maxRecDepth 100000 in
set_option maxHeartbeats 4000000 in
theorem k_X6_apart_56 (C : Cx p s m args meth c cX6_apart (some .int) 9 RX6 G A) (t_stopCount : Int32) (t_metric : Int32) (t_fixed : Int32) (x7 : Int32) (y0 : Int32) {H : Heap} {locs : List Loc} {ls : Array Slot} (hf : b_X6_apart_56 x7 y0 t_metric = some r) (S : St G A s.heap H locs (w_X6_apart G a_t a_t_facts a_t_roundsOf a_t_locked a_t_rules a_t_sizes a_t_rows a_t_seen a_t_plan a_t_book t_stopCount t_metric t_fixed)) (hl : lv_has ls 9 [(0, .ref a_t), (7, .int x7)]) : W p l e rm_X6_apart s m args below meth c H locs 0 0 (QI G below args s A r (w_X6_apart G a_t a_t_facts a_t_roundsOf a_t_locked a_t_rules a_t_sizes a_t_rows a_t_seen a_t_plan a_t_book t_stopCount t_metric t_fixed)) (F0 m 56 ls [.int y0]) := by
  unfold b_X6_apart_56 at hf
  have hx := C.1
  have hb := C.2.1
  have hown := C.2.2.2.2.1
  have hts := C.2.2.2.2.2.1
  have hN := C.2.2.2.2.2.2.2.2.2.2
  refine lv_istore (pc := 56) (lv' := [(8, .int y0), (0, .ref a_t), (7, .int x7)]) hx hb dX6_apart_56 hl (by decide) rfl (fun ls hl => ?_)
  refine lv_aload_n (pc := 58) hx hb dX6_apart_58 rfl (lv_at hl 1 rfl) ?_
  refine x_get (pc := 59) (ci := 6) (T := TX6) (v := .int t_metric) C S 0 rfl rfl inlX6 10 (by decide) rfl qf_6_64 rfl dX6_apart_59 ?_
  refine lv_if_ne (tgt := 68) (pc := 62) hx hb dX6_apart_62 (by decide) (fun c1 => ?_) (fun c1 => ?_)
  · have hf := ifn c1 hf
    refine lv_aload_n (pc := 68) hx hb dX6_apart_68 rfl (lv_at hl 1 rfl) ?_
    refine x_get (pc := 69) (ci := 6) (T := TX6) (v := .int t_metric) C S 0 rfl rfl inlX6 10 (by decide) rfl qf_6_64 rfl dX6_apart_69 ?_
    refine lv_iconst (pc := 72) hx hb dX6_apart_72 ic_1 ?_
    refine lv_icmp_ne (tgt := 81) (pc := 73) hx hb dX6_apart_73 (by decide) (fun c2 => ?_) (fun c2 => ?_)
    · have hf := ifn c2 hf
      refine lv_iload (pc := 81) hx hb dX6_apart_81 (lv_at hl 2 rfl) ?_
      refine lv_iload (pc := 83) hx hb dX6_apart_83 (lv_at hl 0 rfl) ?_
      refine lv_iadd (pc := 85) hx hb dX6_apart_85 ?_
      cases hf
      exact x_iret (pc := 86) C S dX6_apart_86
    · have hf := ifp c2 hf
      refine lv_iload (pc := 76) hx hb dX6_apart_76 (lv_at hl 0 rfl) ?_
      refine lv_goto (tgt := 86) (pc := 78) hx hb dX6_apart_78 (by decide) ?_
      cases hf
      exact x_iret (pc := 86) C S dX6_apart_86
  · have hf := ifp c1 hf
    refine lv_iload (pc := 65) hx hb dX6_apart_65 (lv_at hl 2 rfl) ?_
    cases hf
    exact x_iret (pc := 67) C S dX6_apart_67
set_option maxRecDepth 100000 in
set_option maxHeartbeats 4000000 in
theorem k_X6_apart_33 (C : Cx p s m args meth c cX6_apart (some .int) 9 RX6 G A) (t_stopCount : Int32) (t_metric : Int32) (t_fixed : Int32) (x5 : Int32) (y0 : Int32) {H : Heap} {locs : List Loc} {ls : Array Slot} (hf : b_X6_apart_33 x5 y0 t_metric = some r) (S : St G A s.heap H locs (w_X6_apart G a_t a_t_facts a_t_roundsOf a_t_locked a_t_rules a_t_sizes a_t_rows a_t_seen a_t_plan a_t_book t_stopCount t_metric t_fixed)) (hl : lv_has ls 9 [(0, .ref a_t), (5, .int x5)]) : W p l e rm_X6_apart s m args below meth c H locs 0 0 (QI G below args s A r (w_X6_apart G a_t a_t_facts a_t_roundsOf a_t_locked a_t_rules a_t_sizes a_t_rows a_t_seen a_t_plan a_t_book t_stopCount t_metric t_fixed)) (F0 m 33 ls [.int y0]) := by
  unfold b_X6_apart_33 at hf
  have hx := C.1
  have hb := C.2.1
  have hown := C.2.2.2.2.1
  have hts := C.2.2.2.2.2.1
  have hN := C.2.2.2.2.2.2.2.2.2.2
  refine lv_istore (pc := 33) (lv' := [(6, .int y0), (0, .ref a_t), (5, .int x5)]) hx hb dX6_apart_33 hl (by decide) rfl (fun ls hl => ?_)
  refine lv_iload (pc := 35) hx hb dX6_apart_35 (lv_at hl 2 rfl) ?_
  refine lv_iload (pc := 37) hx hb dX6_apart_37 (lv_at hl 0 rfl) ?_
  refine lv_iadd (pc := 39) hx hb dX6_apart_39 ?_
  refine lv_istore (pc := 40) (lv' := [(7, .int (x5 + y0)), (6, .int y0), (0, .ref a_t), (5, .int x5)]) hx hb dX6_apart_40 hl (by decide) rfl (fun ls hl => ?_)
  refine lv_iload (pc := 42) hx hb dX6_apart_42 (lv_at hl 3 rfl) ?_
  refine lv_iload (pc := 44) hx hb dX6_apart_44 (lv_at hl 1 rfl) ?_
  refine lv_icmp_le (tgt := 54) (pc := 46) hx hb dX6_apart_46 (by decide) (fun c1 => ?_) (fun c1 => ?_)
  · have hf := ifp c1 hf
    refine lv_iload (pc := 54) hx hb dX6_apart_54 (lv_at hl 1 rfl) ?_
    exact k_X6_apart_56 C (t_stopCount) (t_metric) (t_fixed) ((x5 + y0)) (y0) hf S (lv_sub hl [2, 0] rfl)
  · have hf := ifn c1 hf
    refine lv_iload (pc := 49) hx hb dX6_apart_49 (lv_at hl 3 rfl) ?_
    refine lv_goto (tgt := 56) (pc := 51) hx hb dX6_apart_51 (by decide) ?_
    exact k_X6_apart_56 C (t_stopCount) (t_metric) (t_fixed) ((x5 + y0)) (x5) hf S (lv_sub hl [2, 0] rfl)
set_option maxRecDepth 100000 in
set_option maxHeartbeats 4000000 in
theorem k_X6_apart_14 (C : Cx p s m args meth c cX6_apart (some .int) 9 RX6 G A) (t_stopCount : Int32) (t_metric : Int32) (t_fixed : Int32) (x2 : Int32) (x4 : Int32) (y0 : Int32) {H : Heap} {locs : List Loc} {ls : Array Slot} (hf : b_X6_apart_14 x2 x4 y0 t_metric = some r) (S : St G A s.heap H locs (w_X6_apart G a_t a_t_facts a_t_roundsOf a_t_locked a_t_rules a_t_sizes a_t_rows a_t_seen a_t_plan a_t_book t_stopCount t_metric t_fixed)) (hl : lv_has ls 9 [(0, .ref a_t), (2, .int x2), (4, .int x4)]) : W p l e rm_X6_apart s m args below meth c H locs 0 0 (QI G below args s A r (w_X6_apart G a_t a_t_facts a_t_roundsOf a_t_locked a_t_rules a_t_sizes a_t_rows a_t_seen a_t_plan a_t_book t_stopCount t_metric t_fixed)) (F0 m 14 ls [.int y0]) := by
  unfold b_X6_apart_14 at hf
  have hx := C.1
  have hb := C.2.1
  have hown := C.2.2.2.2.1
  have hts := C.2.2.2.2.2.1
  have hN := C.2.2.2.2.2.2.2.2.2.2
  refine lv_istore (pc := 14) (lv' := [(5, .int y0), (0, .ref a_t), (2, .int x2), (4, .int x4)]) hx hb dX6_apart_14 hl (by decide) rfl (fun ls hl => ?_)
  refine lv_iload_n (pc := 16) hx hb dX6_apart_16 rfl (lv_at hl 2 rfl) ?_
  refine lv_iload (pc := 17) hx hb dX6_apart_17 (lv_at hl 3 rfl) ?_
  refine lv_icmp_le (tgt := 29) (pc := 19) hx hb dX6_apart_19 (by decide) (fun c1 => ?_) (fun c1 => ?_)
  · have hf := ifp c1 hf
    refine lv_iload (pc := 29) hx hb dX6_apart_29 (lv_at hl 3 rfl) ?_
    refine lv_iload_n (pc := 31) hx hb dX6_apart_31 rfl (lv_at hl 2 rfl) ?_
    refine lv_isub (pc := 32) hx hb dX6_apart_32 ?_
    exact k_X6_apart_33 C (t_stopCount) (t_metric) (t_fixed) (y0) ((x4 - x2)) hf S (lv_sub hl [1, 0] rfl)
  · have hf := ifn c1 hf
    refine lv_iload_n (pc := 22) hx hb dX6_apart_22 rfl (lv_at hl 2 rfl) ?_
    refine lv_iload (pc := 23) hx hb dX6_apart_23 (lv_at hl 3 rfl) ?_
    refine lv_isub (pc := 25) hx hb dX6_apart_25 ?_
    refine lv_goto (tgt := 33) (pc := 26) hx hb dX6_apart_26 (by decide) ?_
    exact k_X6_apart_33 C (t_stopCount) (t_metric) (t_fixed) (y0) ((x2 - x4)) hf S (lv_sub hl [1, 0] rfl)
set_option maxRecDepth 100000 in
set_option maxHeartbeats 4000000 in
theorem c_X6_apart (l : Launch) (G : GE) (a_t a_t_facts a_t_roundsOf a_t_locked a_t_rules a_t_sizes a_t_rows a_t_seen a_t_plan a_t_book : Nat) (t_stopCount : Int32) (t_metric : Int32) (t_fixed : Int32) (x1 : Int32) (x2 : Int32) (x3 : Int32) (x4 : Int32) (r : Int32) (hf : f_X6_apart t_metric x1 x2 x3 x4 = some r) : CI l G yX6_apart kw_X6_apart rm_X6_apart [.ref a_t, .int x1, .int x2, .int x3, .int x4] (w_X6_apart G a_t a_t_facts a_t_roundsOf a_t_locked a_t_rules a_t_sizes a_t_rows a_t_seen a_t_plan a_t_book t_stopCount t_metric t_fixed) r (w_X6_apart G a_t a_t_facts a_t_roundsOf a_t_locked a_t_rules a_t_sizes a_t_rows a_t_seen a_t_plan a_t_book t_stopCount t_metric t_fixed) := by
  refine en_I (cc := cX6_apart) (maxL := 9) (ret := (some .int)) (by decide +kernel) (Nat.le_of_ble_eq_true rfl) ?_
  intro p e s m args below meth c A ls C S hl
  have hl : lv_has ls 9 [(0, .ref a_t), (1, .int x1), (2, .int x2), (3, .int x3), (4, .int x4)] := hl
  have C : Cx p s m args meth c cX6_apart (some .int) 9 RX6 G A := C
  unfold f_X6_apart at hf
  have hx := C.1
  have hb := C.2.1
  have hown := C.2.2.2.2.1
  have hts := C.2.2.2.2.2.1
  have hN := C.2.2.2.2.2.2.2.2.2.2
  refine lv_iload_n (pc := 0) hx hb dX6_apart_0 rfl (lv_at hl 1 rfl) ?_
  refine lv_iload_n (pc := 1) hx hb dX6_apart_1 rfl (lv_at hl 3 rfl) ?_
  refine lv_icmp_le (tgt := 11) (pc := 2) hx hb dX6_apart_2 (by decide) (fun c1 => ?_) (fun c1 => ?_)
  · have hf := ifp c1 hf
    refine lv_iload_n (pc := 11) hx hb dX6_apart_11 rfl (lv_at hl 3 rfl) ?_
    refine lv_iload_n (pc := 12) hx hb dX6_apart_12 rfl (lv_at hl 1 rfl) ?_
    refine lv_isub (pc := 13) hx hb dX6_apart_13 ?_
    exact k_X6_apart_14 C (t_stopCount) (t_metric) (t_fixed) (x2) (x4) ((x3 - x1)) hf S (lv_sub hl [0, 2, 4] rfl)
  · have hf := ifn c1 hf
    refine lv_iload_n (pc := 5) hx hb dX6_apart_5 rfl (lv_at hl 1 rfl) ?_
    refine lv_iload_n (pc := 6) hx hb dX6_apart_6 rfl (lv_at hl 3 rfl) ?_
    refine lv_isub (pc := 7) hx hb dX6_apart_7 ?_
    refine lv_goto (tgt := 14) (pc := 8) hx hb dX6_apart_8 (by decide) ?_
    exact k_X6_apart_14 C (t_stopCount) (t_metric) (t_fixed) (x2) (x4) ((x1 - x3)) hf S (lv_sub hl [0, 2, 4] rfl)
end

abbrev rm_X6_way : Room := { frames := 1, cells := 0, slots := 0, locals := 28 }
abbrev kw_X6_way : Cond := .code yX6_way cX6_way 3 (some .int)
abbrev w_X6_way (G : GE) (a_t a_t_facts a_t_roundsOf a_t_locked a_t_rules a_t_sizes a_t_rows a_t_seen a_t_plan a_t_book : Nat) (t_stopCount : Int32) (t_metric : Int32) (t_fixed : Int32) (t_facts : Nat → Int32) : va_W := [(a_t, ob 6 [.ref a_t_facts, .ref a_t_roundsOf, .ref a_t_locked, .ref a_t_rules, .ref a_t_sizes, .ref a_t_rows, .ref a_t_seen, .ref a_t_plan, .ref a_t_book, .int t_stopCount, .int t_metric, .int t_fixed]), (a_t_facts, aI G 102 t_facts)]
theorem u_X6_way_X6_fact_85 {s : State} {args : Array Value} (hts : ∀ w ∈ WU, w.before args s = true) : CallW rm_X6_way s args RX6 RX6 85 yX6_fact cX6_fact 4 (some .int) (kw_X6_fact :: WU) rm_X6_fact 0 0 2 := cwV 2 hts (gV qm_6_85 qi_X6_fact ql_X6_fact qn_6 qc_X6_fact) rfl rfl rfl (by decide +kernel) ⟨Nat.le_of_ble_eq_true rfl, Nat.le_of_ble_eq_true rfl⟩
theorem u_X6_way_X6_apart_110 {s : State} {args : Array Value} (hts : ∀ w ∈ WU, w.before args s = true) : CallW rm_X6_way s args RX6 RX6 110 yX6_apart cX6_apart 9 (some .int) (kw_X6_apart :: WU) rm_X6_apart 0 0 4 := cwV 4 hts (gV qm_6_110 qi_X6_apart ql_X6_apart qn_6 qc_X6_apart) rfl rfl rfl (by decide +kernel) ⟨Nat.le_of_ble_eq_true rfl, Nat.le_of_ble_eq_true rfl⟩
section
variable {p : Program} {l : Launch} {e : Env} {s : State} {m : MethodId} {args : Array Value} {below : List Frame} {meth : Method} {c : Code} {A : Nat → Prop} {G : GE} {a_t a_t_facts a_t_roundsOf a_t_locked a_t_rules a_t_sizes a_t_rows a_t_seen a_t_plan a_t_book : Nat} {r : Int32}
set_option maxRecDepth 100000 in
set_option maxHeartbeats 4000000 in
theorem c_X6_way (l : Launch) (G : GE) (a_t a_t_facts a_t_roundsOf a_t_locked a_t_rules a_t_sizes a_t_rows a_t_seen a_t_plan a_t_book : Nat) (t_stopCount : Int32) (t_metric : Int32) (t_fixed : Int32) (t_facts : Nat → Int32) (x1 : Int32) (x2 : Int32) (r : Int32) (hf : f_X6_way t_facts t_metric x1 x2 = some r) : CI l G yX6_way kw_X6_way rm_X6_way [.ref a_t, .int x1, .int x2] (w_X6_way G a_t a_t_facts a_t_roundsOf a_t_locked a_t_rules a_t_sizes a_t_rows a_t_seen a_t_plan a_t_book t_stopCount t_metric t_fixed t_facts) r (w_X6_way G a_t a_t_facts a_t_roundsOf a_t_locked a_t_rules a_t_sizes a_t_rows a_t_seen a_t_plan a_t_book t_stopCount t_metric t_fixed t_facts) := by
  refine en_I (cc := cX6_way) (maxL := 3) (ret := (some .int)) (by decide +kernel) (Nat.le_of_ble_eq_true rfl) ?_
  intro p e s m args below meth c A ls C S hl
  have hl : lv_has ls 3 [(0, .ref a_t), (1, .int x1), (2, .int x2)] := hl
  have C : Cx p s m args meth c cX6_way (some .int) 3 RX6 G A := C
  unfold f_X6_way at hf
  have hx := C.1
  have hb := C.2.1
  have hown := C.2.2.2.2.1
  have hts := C.2.2.2.2.2.1
  have hN := C.2.2.2.2.2.2.2.2.2.2
  refine lv_aload_n (pc := 0) hx hb dX6_way_0 rfl (lv_at hl 0 rfl) ?_
  refine lv_aload_n (pc := 1) hx hb dX6_way_1 rfl (lv_at hl 0 rfl) ?_
  refine lv_iload_n (pc := 2) hx hb dX6_way_2 rfl (lv_at hl 1 rfl) ?_
  refine lv_iconst (pc := 3) hx hb dX6_way_3 ic_0 ?_
  obtain ⟨r1, hq1, hf⟩ := bd_e hf
  refine x_vI (pc := 4) (As := [.int x1, .int (0 : Int32)]) (rest := [.ref a_t]) (isC := [0, 1]) (ws' := (w_X6_way G a_t a_t_facts a_t_roundsOf a_t_locked a_t_rules a_t_sizes a_t_rows a_t_seen a_t_plan a_t_book t_stopCount t_metric t_fixed t_facts)) C S (c_X6_fact l G a_t a_t_facts a_t_roundsOf a_t_locked a_t_rules a_t_sizes a_t_rows a_t_seen a_t_plan a_t_book t_stopCount t_metric t_fixed t_facts x1 (0 : Int32) r1 hq1) (u_X6_way_X6_fact_85 hts) (ci := 6) rfl 0 rfl rfl (by decide +kernel) [some 0, some 1] (by decide +kernel) rfl rfl rfl hl.1 rfl (Nat.le_of_ble_eq_true rfl) dX6_way_4 (fun H locs S => ?_)
  refine lv_aload_n (pc := 7) hx hb dX6_way_7 rfl (lv_at hl 0 rfl) ?_
  refine lv_iload_n (pc := 8) hx hb dX6_way_8 rfl (lv_at hl 1 rfl) ?_
  refine lv_iconst (pc := 9) hx hb dX6_way_9 ic_1 ?_
  obtain ⟨r2, hq2, hf⟩ := bd_e hf
  refine x_vI (pc := 10) (As := [.int x1, .int (1 : Int32)]) (rest := [.int r1, .ref a_t]) (isC := [0, 1]) (ws' := (w_X6_way G a_t a_t_facts a_t_roundsOf a_t_locked a_t_rules a_t_sizes a_t_rows a_t_seen a_t_plan a_t_book t_stopCount t_metric t_fixed t_facts)) C S (c_X6_fact l G a_t a_t_facts a_t_roundsOf a_t_locked a_t_rules a_t_sizes a_t_rows a_t_seen a_t_plan a_t_book t_stopCount t_metric t_fixed t_facts x1 (1 : Int32) r2 hq2) (u_X6_way_X6_fact_85 hts) (ci := 6) rfl 0 rfl rfl (by decide +kernel) [some 0, some 1] (by decide +kernel) rfl rfl rfl hl.1 rfl (Nat.le_of_ble_eq_true rfl) dX6_way_10 (fun H locs S => ?_)
  refine lv_aload_n (pc := 13) hx hb dX6_way_13 rfl (lv_at hl 0 rfl) ?_
  refine lv_iload_n (pc := 14) hx hb dX6_way_14 rfl (lv_at hl 2 rfl) ?_
  refine lv_iconst (pc := 15) hx hb dX6_way_15 ic_0 ?_
  obtain ⟨r3, hq3, hf⟩ := bd_e hf
  refine x_vI (pc := 16) (As := [.int x2, .int (0 : Int32)]) (rest := [.int r2, .int r1, .ref a_t]) (isC := [0, 1]) (ws' := (w_X6_way G a_t a_t_facts a_t_roundsOf a_t_locked a_t_rules a_t_sizes a_t_rows a_t_seen a_t_plan a_t_book t_stopCount t_metric t_fixed t_facts)) C S (c_X6_fact l G a_t a_t_facts a_t_roundsOf a_t_locked a_t_rules a_t_sizes a_t_rows a_t_seen a_t_plan a_t_book t_stopCount t_metric t_fixed t_facts x2 (0 : Int32) r3 hq3) (u_X6_way_X6_fact_85 hts) (ci := 6) rfl 0 rfl rfl (by decide +kernel) [some 0, some 1] (by decide +kernel) rfl rfl rfl hl.1 rfl (Nat.le_of_ble_eq_true rfl) dX6_way_16 (fun H locs S => ?_)
  refine lv_aload_n (pc := 19) hx hb dX6_way_19 rfl (lv_at hl 0 rfl) ?_
  refine lv_iload_n (pc := 20) hx hb dX6_way_20 rfl (lv_at hl 2 rfl) ?_
  refine lv_iconst (pc := 21) hx hb dX6_way_21 ic_1 ?_
  obtain ⟨r4, hq4, hf⟩ := bd_e hf
  refine x_vI (pc := 22) (As := [.int x2, .int (1 : Int32)]) (rest := [.int r3, .int r2, .int r1, .ref a_t]) (isC := [0, 1]) (ws' := (w_X6_way G a_t a_t_facts a_t_roundsOf a_t_locked a_t_rules a_t_sizes a_t_rows a_t_seen a_t_plan a_t_book t_stopCount t_metric t_fixed t_facts)) C S (c_X6_fact l G a_t a_t_facts a_t_roundsOf a_t_locked a_t_rules a_t_sizes a_t_rows a_t_seen a_t_plan a_t_book t_stopCount t_metric t_fixed t_facts x2 (1 : Int32) r4 hq4) (u_X6_way_X6_fact_85 hts) (ci := 6) rfl 0 rfl rfl (by decide +kernel) [some 0, some 1] (by decide +kernel) rfl rfl rfl hl.1 rfl (Nat.le_of_ble_eq_true rfl) dX6_way_22 (fun H locs S => ?_)
  obtain ⟨r5, hq5, hf⟩ := bd_e hf
  refine x_vI (pc := 25) (As := [.int r1, .int r2, .int r3, .int r4]) (rest := []) (isC := [0]) (ws' := (w_X6_way G a_t a_t_facts a_t_roundsOf a_t_locked a_t_rules a_t_sizes a_t_rows a_t_seen a_t_plan a_t_book t_stopCount t_metric t_fixed t_facts)) C S (c_X6_apart l G a_t a_t_facts a_t_roundsOf a_t_locked a_t_rules a_t_sizes a_t_rows a_t_seen a_t_plan a_t_book t_stopCount t_metric t_fixed r1 r2 r3 r4 r5 hq5) (u_X6_way_X6_apart_110 hts) (ci := 6) rfl 0 rfl rfl (by decide +kernel) [some 0, none] (by decide +kernel) rfl rfl rfl hl.1 rfl (Nat.le_of_ble_eq_true rfl) dX6_way_25 (fun H locs S => ?_)
  cases hf
  exact x_iret (pc := 28) C S dX6_way_28
end

abbrev rm_X0_follow : Room := { frames := 2, cells := 0, slots := 0, locals := 50 }
abbrev kw_X0_follow : Cond := .code yX0_follow cX0_follow 9 (some .boolean)
abbrev w_X0_follow (G : GE) (a_t a_t_row a_t_comes a_t_begins a_t_slacks a_p1 a_p1_facts a_p1_roundsOf a_p1_locked a_p1_rules a_p1_sizes a_p1_rows a_p1_seen a_p1_plan a_p1_book : Nat) (t_round : Int32) (t_size : Int32) (t_back : Int32) (t_loads : Int32) (t_miles : Int32) (t_waits : Int32) (t_lateAt : Int32) (t_later : Int32) (t_row : Nat → Int32) (t_comes : Nat → Int32) (t_begins : Nat → Int32) (p1_stopCount : Int32) (p1_metric : Int32) (p1_fixed : Int32) (p1_facts : Nat → Int32) (p1_rules : Nat → Int32) : va_W := [(a_t, ob 0 [.ref a_t_row, .ref a_t_comes, .ref a_t_begins, .ref a_t_slacks, .int t_round, .int t_size, .int t_back, .int t_loads, .int t_miles, .int t_waits, .int t_lateAt, .int t_later]), (a_t_row, aI G 16 t_row), (a_t_comes, aI G 16 t_comes), (a_t_begins, aI G 16 t_begins), (a_p1, ob 6 [.ref a_p1_facts, .ref a_p1_roundsOf, .ref a_p1_locked, .ref a_p1_rules, .ref a_p1_sizes, .ref a_p1_rows, .ref a_p1_seen, .ref a_p1_plan, .ref a_p1_book, .int p1_stopCount, .int p1_metric, .int p1_fixed]), (a_p1_facts, aI G 102 p1_facts), (a_p1_rules, aI G 12 p1_rules)]
theorem u_X0_follow_X6_ruleOf_59 {s : State} {args : Array Value} (hts : ∀ w ∈ WU, w.before args s = true) : CallW rm_X0_follow s args RX0 RX6 59 yX6_ruleOf cX6_ruleOf 4 (some .int) (kw_X6_ruleOf :: WU) rm_X6_ruleOf 0 0 2 := cwV 2 hts (gV qm_0_59 qi_X6_ruleOf ql_X6_ruleOf qn_6 qc_X6_ruleOf) rfl rfl rfl (by decide +kernel) ⟨Nat.le_of_ble_eq_true rfl, Nat.le_of_ble_eq_true rfl⟩
theorem u_X0_follow_X6_way_74 {s : State} {args : Array Value} (hts : ∀ w ∈ WU, w.before args s = true) : CallW rm_X0_follow s args RX0 RX6 74 yX6_way cX6_way 3 (some .int) (kw_X6_way :: WU) rm_X6_way 0 0 2 := cwV 2 hts (gV qm_0_74 qi_X6_way ql_X6_way qn_6 qc_X6_way) rfl rfl rfl (by decide +kernel) ⟨Nat.le_of_ble_eq_true rfl, Nat.le_of_ble_eq_true rfl⟩
theorem u_X0_follow_X6_fact_77 {s : State} {args : Array Value} (hts : ∀ w ∈ WU, w.before args s = true) : CallW rm_X0_follow s args RX0 RX6 77 yX6_fact cX6_fact 4 (some .int) (kw_X6_fact :: WU) rm_X6_fact 0 0 2 := cwV 2 hts (gV qm_0_77 qi_X6_fact ql_X6_fact qn_6 qc_X6_fact) rfl rfl rfl (by decide +kernel) ⟨Nat.le_of_ble_eq_true rfl, Nat.le_of_ble_eq_true rfl⟩
section
variable {p : Program} {l : Launch} {e : Env} {s : State} {m : MethodId} {args : Array Value} {below : List Frame} {meth : Method} {c : Code} {A : Nat → Prop} {G : GE} {a_t a_t_row a_t_comes a_t_begins a_t_slacks a_p1 a_p1_facts a_p1_roundsOf a_p1_locked a_p1_rules a_p1_sizes a_p1_rows a_p1_seen a_p1_plan a_p1_book : Nat} {r : Int32} {z_t_comes : Nat → Int32} {z_t_begins : Nat → Int32} {z_t_back : Int32} {z_t_loads : Int32} {z_t_miles : Int32} {z_t_waits : Int32} {z_t_lateAt : Int32}
set_option maxRecDepth 100000 in
set_option maxHeartbeats 4000000 in
theorem k_X0_follow_309 (C : Cx p s m args meth c cX0_follow (some .boolean) 9 RX0 G A) (t_round : Int32) (t_size : Int32) (t_back : Int32) (t_loads : Int32) (t_miles : Int32) (t_waits : Int32) (t_lateAt : Int32) (t_later : Int32) (t_row : Nat → Int32) (t_comes : Nat → Int32) (t_begins : Nat → Int32) (p1_stopCount : Int32) (p1_metric : Int32) (p1_fixed : Int32) (p1_facts : Nat → Int32) (p1_rules : Nat → Int32) {H : Heap} {locs : List Loc} {ls : Array Slot} (hf : b_X0_follow_309 t_comes t_begins t_round t_back t_loads t_miles t_waits t_lateAt p1_rules = some (r, z_t_comes, z_t_begins, z_t_back, z_t_loads, z_t_miles, z_t_waits, z_t_lateAt)) (S : St G A s.heap H locs (w_X0_follow G a_t a_t_row a_t_comes a_t_begins a_t_slacks a_p1 a_p1_facts a_p1_roundsOf a_p1_locked a_p1_rules a_p1_sizes a_p1_rows a_p1_seen a_p1_plan a_p1_book t_round t_size t_back t_loads t_miles t_waits t_lateAt t_later t_row t_comes t_begins p1_stopCount p1_metric p1_fixed p1_facts p1_rules)) (hl : lv_has ls 9 [(0, .ref a_t), (1, .ref a_p1)]) : W p l e rm_X0_follow s m args below meth c H locs 0 0 (QI G below args s A r (w_X0_follow G a_t a_t_row a_t_comes a_t_begins a_t_slacks a_p1 a_p1_facts a_p1_roundsOf a_p1_locked a_p1_rules a_p1_sizes a_p1_rows a_p1_seen a_p1_plan a_p1_book t_round t_size z_t_back z_t_loads z_t_miles z_t_waits z_t_lateAt t_later t_row z_t_comes z_t_begins p1_stopCount p1_metric p1_fixed p1_facts p1_rules)) (F0 m 309 ls []) := by
  unfold b_X0_follow_309 at hf
  have hx := C.1
  have hb := C.2.1
  have hown := C.2.2.2.2.1
  have hts := C.2.2.2.2.2.1
  have hN := C.2.2.2.2.2.2.2.2.2.2
  refine lv_aload_n (pc := 309) hx hb dX0_follow_309 rfl (lv_at hl 0 rfl) ?_
  refine x_get (pc := 310) (ci := 0) (T := TX0) (v := .int t_lateAt) C S 0 rfl rfl inlX0 10 (by decide) rfl qf_0_71 rfl dX0_follow_310 ?_
  refine lv_bipush (pc := 313) hx hb dX0_follow_313 bc_m5 ?_
  refine lv_icmp_ne (tgt := 338) (pc := 315) hx hb dX0_follow_315 (by decide) (fun c1 => ?_) (fun c1 => ?_)
  · have hf := ifn c1 hf
    refine lv_iconst (pc := 338) hx hb dX0_follow_338 ic_0 ?_
    cases hf
    exact x_zret (pc := 339) (by decide) C S dX0_follow_339
  · have hf := ifp c1 hf
    refine lv_aload_n (pc := 318) hx hb dX0_follow_318 rfl (lv_at hl 0 rfl) ?_
    refine x_get (pc := 319) (ci := 0) (T := TX0) (v := .int t_loads) C S 0 rfl rfl inlX0 7 (by decide) rfl qf_0_62 rfl dX0_follow_319 ?_
    refine lv_aload_n (pc := 322) hx hb dX0_follow_322 rfl (lv_at hl 1 rfl) ?_
    refine lv_aload_n (pc := 323) hx hb dX0_follow_323 rfl (lv_at hl 0 rfl) ?_
    refine x_get (pc := 324) (ci := 0) (T := TX0) (v := .int t_round) C S 0 rfl rfl inlX0 4 (by decide) rfl qf_0_24 rfl dX0_follow_324 ?_
    refine lv_iconst (pc := 327) hx hb dX0_follow_327 ic_0 ?_
    obtain ⟨r2, hq2, hf⟩ := bd_e hf
    refine x_vI (pc := 328) (As := [.int t_round, .int (0 : Int32)]) (rest := [.int t_loads]) (isC := [4, 6]) (ws' := (w_X0_follow G a_t a_t_row a_t_comes a_t_begins a_t_slacks a_p1 a_p1_facts a_p1_roundsOf a_p1_locked a_p1_rules a_p1_sizes a_p1_rows a_p1_seen a_p1_plan a_p1_book t_round t_size t_back t_loads t_miles t_waits t_lateAt t_later t_row t_comes t_begins p1_stopCount p1_metric p1_fixed p1_facts p1_rules)) C S (c_X6_ruleOf l G a_p1 a_p1_facts a_p1_roundsOf a_p1_locked a_p1_rules a_p1_sizes a_p1_rows a_p1_seen a_p1_plan a_p1_book p1_stopCount p1_metric p1_fixed p1_rules t_round (0 : Int32) r2 hq2) (u_X0_follow_X6_ruleOf_59 hts) (ci := 6) rfl 4 rfl rfl (by decide +kernel) [none, none, none, none, some 0, none, some 1] (by decide +kernel) rfl rfl rfl hl.1 rfl (Nat.le_of_ble_eq_true rfl) dX0_follow_328 (fun H locs S => ?_)
    refine lv_icmp_gt (tgt := 338) (pc := 331) hx hb dX0_follow_331 (by decide) (fun c3 => ?_) (fun c3 => ?_)
    · have hf := ifp c3 hf
      refine lv_iconst (pc := 338) hx hb dX0_follow_338 ic_0 ?_
      cases hf
      exact x_zret (pc := 339) (by decide) C S dX0_follow_339
    · have hf := ifn c3 hf
      refine lv_iconst (pc := 334) hx hb dX0_follow_334 ic_1 ?_
      refine lv_goto (tgt := 339) (pc := 335) hx hb dX0_follow_335 (by decide) ?_
      cases hf
      exact x_zret (pc := 339) (by decide) C S dX0_follow_339
set_option maxRecDepth 100000 in
set_option maxHeartbeats 4000000 in
theorem k_X0_follow_240 (C : Cx p s m args meth c cX0_follow (some .boolean) 9 RX0 G A) (t_round : Int32) (t_size : Int32) (t_back : Int32) (t_loads : Int32) (t_miles : Int32) (t_waits : Int32) (t_lateAt : Int32) (t_later : Int32) (t_row : Nat → Int32) (t_comes : Nat → Int32) (t_begins : Nat → Int32) (p1_stopCount : Int32) (p1_metric : Int32) (p1_fixed : Int32) (p1_facts : Nat → Int32) (p1_rules : Nat → Int32) (x3 : Int32) (x4 : Int32) {H : Heap} {locs : List Loc} {ls : Array Slot} (hf : b_X0_follow_240 x3 x4 t_comes t_begins t_round t_size t_loads t_miles t_waits t_lateAt p1_facts p1_rules p1_metric = some (r, z_t_comes, z_t_begins, z_t_back, z_t_loads, z_t_miles, z_t_waits, z_t_lateAt)) (S : St G A s.heap H locs (w_X0_follow G a_t a_t_row a_t_comes a_t_begins a_t_slacks a_p1 a_p1_facts a_p1_roundsOf a_p1_locked a_p1_rules a_p1_sizes a_p1_rows a_p1_seen a_p1_plan a_p1_book t_round t_size t_back t_loads t_miles t_waits t_lateAt t_later t_row t_comes t_begins p1_stopCount p1_metric p1_fixed p1_facts p1_rules)) (hl : lv_has ls 9 [(0, .ref a_t), (1, .ref a_p1), (3, .int x3), (4, .int x4)]) : W p l e rm_X0_follow s m args below meth c H locs 0 0 (QI G below args s A r (w_X0_follow G a_t a_t_row a_t_comes a_t_begins a_t_slacks a_p1 a_p1_facts a_p1_roundsOf a_p1_locked a_p1_rules a_p1_sizes a_p1_rows a_p1_seen a_p1_plan a_p1_book t_round t_size z_t_back z_t_loads z_t_miles z_t_waits z_t_lateAt t_later t_row z_t_comes z_t_begins p1_stopCount p1_metric p1_fixed p1_facts p1_rules)) (F0 m 240 ls []) := by
  unfold b_X0_follow_240 at hf
  have hx := C.1
  have hb := C.2.1
  have hown := C.2.2.2.2.1
  have hts := C.2.2.2.2.2.1
  have hN := C.2.2.2.2.2.2.2.2.2.2
  refine lv_aload_n (pc := 240) hx hb dX0_follow_240 rfl (lv_at hl 1 rfl) ?_
  refine lv_iload (pc := 241) hx hb dX0_follow_241 (lv_at hl 3 rfl) ?_
  refine lv_bipush (pc := 243) hx hb dX0_follow_243 bc_16 ?_
  obtain ⟨r1, hq1, hf⟩ := bd_e hf
  refine x_vI (pc := 245) (As := [.int x4, .int (16 : Int32)]) (rest := []) (isC := [4, 5]) (ws' := (w_X0_follow G a_t a_t_row a_t_comes a_t_begins a_t_slacks a_p1 a_p1_facts a_p1_roundsOf a_p1_locked a_p1_rules a_p1_sizes a_p1_rows a_p1_seen a_p1_plan a_p1_book t_round t_size t_back t_loads t_miles t_waits t_lateAt t_later t_row t_comes t_begins p1_stopCount p1_metric p1_fixed p1_facts p1_rules)) C S (c_X6_way l G a_p1 a_p1_facts a_p1_roundsOf a_p1_locked a_p1_rules a_p1_sizes a_p1_rows a_p1_seen a_p1_plan a_p1_book p1_stopCount p1_metric p1_fixed p1_facts x4 (16 : Int32) r1 hq1) (u_X0_follow_X6_way_74 hts) (ci := 6) rfl 4 rfl rfl (by decide +kernel) [none, none, none, none, some 0, some 1, none] (by decide +kernel) rfl rfl rfl hl.1 rfl (Nat.le_of_ble_eq_true rfl) dX0_follow_245 (fun H locs S => ?_)
  refine lv_istore (pc := 248) (lv' := [(5, .int r1), (0, .ref a_t), (1, .ref a_p1), (3, .int x3), (4, .int x4)]) hx hb dX0_follow_248 hl (by decide) rfl (fun ls hl => ?_)
  refine lv_aload_n (pc := 250) hx hb dX0_follow_250 rfl (lv_at hl 1 rfl) ?_
  refine lv_dup (pc := 251) hx hb dX0_follow_251 rfl ?_
  refine x_get (pc := 252) (ci := 0) (T := TX0) (v := .int t_miles) C S 0 rfl rfl inlX0 8 (by decide) rfl qf_0_65 rfl dX0_follow_252 ?_
  refine lv_iload (pc := 255) hx hb dX0_follow_255 (lv_at hl 0 rfl) ?_
  refine lv_iadd (pc := 257) hx hb dX0_follow_257 ?_
  refine x_put (pc := 258) (ci := 0) (T := TX0) (ws' := (w_X0_follow G a_t a_t_row a_t_comes a_t_begins a_t_slacks a_p1 a_p1_facts a_p1_roundsOf a_p1_locked a_p1_rules a_p1_sizes a_p1_rows a_p1_seen a_p1_plan a_p1_book t_round t_size t_back t_loads (t_miles + r1) t_waits t_lateAt t_later t_row t_comes t_begins p1_stopCount p1_metric p1_fixed p1_facts p1_rules)) C S tyX0 tyX0_ok nmX0 0 rfl rfl inlX0 8 (by decide) rfl qf_0_65 rfl rfl rfl rfl (Nat.le_of_ble_eq_true rfl) rfl dX0_follow_258 (fun H locs S => ?_)
  refine lv_aload_n (pc := 261) hx hb dX0_follow_261 rfl (lv_at hl 1 rfl) ?_
  refine lv_iload_n (pc := 262) hx hb dX0_follow_262 rfl (lv_at hl 3 rfl) ?_
  refine lv_iload (pc := 263) hx hb dX0_follow_263 (lv_at hl 0 rfl) ?_
  refine lv_iadd (pc := 265) hx hb dX0_follow_265 ?_
  refine x_put (pc := 266) (ci := 0) (T := TX0) (ws' := (w_X0_follow G a_t a_t_row a_t_comes a_t_begins a_t_slacks a_p1 a_p1_facts a_p1_roundsOf a_p1_locked a_p1_rules a_p1_sizes a_p1_rows a_p1_seen a_p1_plan a_p1_book t_round t_size (x3 + r1) t_loads (t_miles + r1) t_waits t_lateAt t_later t_row t_comes t_begins p1_stopCount p1_metric p1_fixed p1_facts p1_rules)) C S tyX0 tyX0_ok nmX0 0 rfl rfl inlX0 6 (by decide) rfl qf_0_80 rfl rfl rfl rfl (Nat.le_of_ble_eq_true rfl) rfl dX0_follow_266 (fun H locs S => ?_)
  refine lv_aload_n (pc := 269) hx hb dX0_follow_269 rfl (lv_at hl 1 rfl) ?_
  refine x_get (pc := 270) (ci := 0) (T := TX0) (v := .int t_size) C S 0 rfl rfl inlX0 5 (by decide) rfl qf_0_34 rfl dX0_follow_270 ?_
  refine lv_if_le (tgt := 309) (pc := 273) hx hb dX0_follow_273 (by decide) (fun c2 => ?_) (fun c2 => ?_)
  · have hf := ifp c2 hf
    exact k_X0_follow_309 C (t_round) (t_size) ((x3 + r1)) (t_loads) ((t_miles + r1)) (t_waits) (t_lateAt) (t_later) (t_row) (t_comes) (t_begins) (p1_stopCount) (p1_metric) (p1_fixed) (p1_facts) (p1_rules) hf S (lv_sub hl [1, 2] rfl)
  · have hf := ifn c2 hf
    refine lv_aload_n (pc := 276) hx hb dX0_follow_276 rfl (lv_at hl 1 rfl) ?_
    refine x_get (pc := 277) (ci := 0) (T := TX0) (v := .int t_lateAt) C S 0 rfl rfl inlX0 10 (by decide) rfl qf_0_71 rfl dX0_follow_277 ?_
    refine lv_bipush (pc := 280) hx hb dX0_follow_280 bc_m5 ?_
    refine lv_icmp_ne (tgt := 309) (pc := 282) hx hb dX0_follow_282 (by decide) (fun c3 => ?_) (fun c3 => ?_)
    · have hf := ifn c3 hf
      exact k_X0_follow_309 C (t_round) (t_size) ((x3 + r1)) (t_loads) ((t_miles + r1)) (t_waits) (t_lateAt) (t_later) (t_row) (t_comes) (t_begins) (p1_stopCount) (p1_metric) (p1_fixed) (p1_facts) (p1_rules) hf S (lv_sub hl [1, 2] rfl)
    · have hf := ifp c3 hf
      refine lv_aload_n (pc := 285) hx hb dX0_follow_285 rfl (lv_at hl 1 rfl) ?_
      refine x_get (pc := 286) (ci := 0) (T := TX0) (v := .int (x3 + r1)) C S 0 rfl rfl inlX0 6 (by decide) rfl qf_0_80 rfl dX0_follow_286 ?_
      refine lv_aload_n (pc := 289) hx hb dX0_follow_289 rfl (lv_at hl 2 rfl) ?_
      refine lv_aload_n (pc := 290) hx hb dX0_follow_290 rfl (lv_at hl 1 rfl) ?_
      refine x_get (pc := 291) (ci := 0) (T := TX0) (v := .int t_round) C S 0 rfl rfl inlX0 4 (by decide) rfl qf_0_24 rfl dX0_follow_291 ?_
      refine lv_iconst (pc := 294) hx hb dX0_follow_294 ic_2 ?_
      obtain ⟨r4, hq4, hf⟩ := bd_e hf
      refine x_vI (pc := 295) (As := [.int t_round, .int (2 : Int32)]) (rest := [.int (x3 + r1)]) (isC := [4, 6]) (ws' := (w_X0_follow G a_t a_t_row a_t_comes a_t_begins a_t_slacks a_p1 a_p1_facts a_p1_roundsOf a_p1_locked a_p1_rules a_p1_sizes a_p1_rows a_p1_seen a_p1_plan a_p1_book t_round t_size (x3 + r1) t_loads (t_miles + r1) t_waits t_lateAt t_later t_row t_comes t_begins p1_stopCount p1_metric p1_fixed p1_facts p1_rules)) C S (c_X6_ruleOf l G a_p1 a_p1_facts a_p1_roundsOf a_p1_locked a_p1_rules a_p1_sizes a_p1_rows a_p1_seen a_p1_plan a_p1_book p1_stopCount p1_metric p1_fixed p1_rules t_round (2 : Int32) r4 hq4) (u_X0_follow_X6_ruleOf_59 hts) (ci := 6) rfl 4 rfl rfl (by decide +kernel) [none, none, none, none, some 0, none, some 1] (by decide +kernel) rfl rfl rfl hl.1 rfl (Nat.le_of_ble_eq_true rfl) dX0_follow_295 (fun H locs S => ?_)
      refine lv_icmp_le (tgt := 309) (pc := 298) hx hb dX0_follow_298 (by decide) (fun c5 => ?_) (fun c5 => ?_)
      · have hf := ifp c5 hf
        exact k_X0_follow_309 C (t_round) (t_size) ((x3 + r1)) (t_loads) ((t_miles + r1)) (t_waits) (t_lateAt) (t_later) (t_row) (t_comes) (t_begins) (p1_stopCount) (p1_metric) (p1_fixed) (p1_facts) (p1_rules) hf S (lv_sub hl [1, 2] rfl)
      · have hf := ifn c5 hf
        refine lv_aload_n (pc := 301) hx hb dX0_follow_301 rfl (lv_at hl 1 rfl) ?_
        refine lv_aload_n (pc := 302) hx hb dX0_follow_302 rfl (lv_at hl 1 rfl) ?_
        refine x_get (pc := 303) (ci := 0) (T := TX0) (v := .int t_size) C S 0 rfl rfl inlX0 5 (by decide) rfl qf_0_34 rfl dX0_follow_303 ?_
        refine x_put (pc := 306) (ci := 0) (T := TX0) (ws' := (w_X0_follow G a_t a_t_row a_t_comes a_t_begins a_t_slacks a_p1 a_p1_facts a_p1_roundsOf a_p1_locked a_p1_rules a_p1_sizes a_p1_rows a_p1_seen a_p1_plan a_p1_book t_round t_size (x3 + r1) t_loads (t_miles + r1) t_waits t_size t_later t_row t_comes t_begins p1_stopCount p1_metric p1_fixed p1_facts p1_rules)) C S tyX0 tyX0_ok nmX0 0 rfl rfl inlX0 10 (by decide) rfl qf_0_71 rfl rfl rfl rfl (Nat.le_of_ble_eq_true rfl) rfl dX0_follow_306 (fun H locs S => ?_)
        exact k_X0_follow_309 C (t_round) (t_size) ((x3 + r1)) (t_loads) ((t_miles + r1)) (t_waits) (t_size) (t_later) (t_row) (t_comes) (t_begins) (p1_stopCount) (p1_metric) (p1_fixed) (p1_facts) (p1_rules) hf S (lv_sub hl [1, 2] rfl)
set_option maxRecDepth 100000 in
set_option maxHeartbeats 4000000 in
theorem k_X0_follow_160 (C : Cx p s m args meth c cX0_follow (some .boolean) 9 RX0 G A) (t_round : Int32) (t_size : Int32) (t_back : Int32) (t_loads : Int32) (t_miles : Int32) (t_waits : Int32) (t_lateAt : Int32) (t_later : Int32) (t_row : Nat → Int32) (t_comes : Nat → Int32) (t_begins : Nat → Int32) (p1_stopCount : Int32) (p1_metric : Int32) (p1_fixed : Int32) (p1_facts : Nat → Int32) (p1_rules : Nat → Int32) (x5 : Int32) (x6 : Int32) (x7 : Int32) (y1 : Int32) (k40 : Int32 × Int32 × Int32 × (Nat → Int32) × (Nat → Int32) × Int32 × Int32 × Int32 × Int32 → Option (Int32 × (Nat → Int32) × (Nat → Int32) × Int32 × Int32 × Int32 × Int32 × Int32)) (hk40 : ∀ {H : Heap} {locs : List Loc} {ls : Array Slot} (x3' : Int32) (x4' : Int32) (x5' : Int32) (t_comes' : Nat → Int32) (t_begins' : Nat → Int32) (t_loads' : Int32) (t_miles' : Int32) (t_waits' : Int32) (t_lateAt' : Int32), k40 (x3', x4', x5', t_comes', t_begins', t_loads', t_miles', t_waits', t_lateAt') = some (r, z_t_comes, z_t_begins, z_t_back, z_t_loads, z_t_miles, z_t_waits, z_t_lateAt) → St G A s.heap H locs (w_X0_follow G a_t a_t_row a_t_comes a_t_begins a_t_slacks a_p1 a_p1_facts a_p1_roundsOf a_p1_locked a_p1_rules a_p1_sizes a_p1_rows a_p1_seen a_p1_plan a_p1_book t_round t_size t_back t_loads' t_miles' t_waits' t_lateAt' t_later t_row t_comes' t_begins' p1_stopCount p1_metric p1_fixed p1_facts p1_rules) → lv_has ls 9 [(0, .ref a_t), (1, .ref a_p1), (3, .int x3'), (4, .int x4'), (5, .int x5')] → W p l e rm_X0_follow s m args below meth c H locs 0 0 (QI G below args s A r (w_X0_follow G a_t a_t_row a_t_comes a_t_begins a_t_slacks a_p1 a_p1_facts a_p1_roundsOf a_p1_locked a_p1_rules a_p1_sizes a_p1_rows a_p1_seen a_p1_plan a_p1_book t_round t_size z_t_back z_t_loads z_t_miles z_t_waits z_t_lateAt t_later t_row z_t_comes z_t_begins p1_stopCount p1_metric p1_fixed p1_facts p1_rules)) (F0 m 40 ls [])) {H : Heap} {locs : List Loc} {ls : Array Slot} (hf : b_X0_follow_160 k40 x5 x6 x7 y1 t_row t_comes t_begins t_round t_size t_loads t_miles t_waits p1_facts p1_rules p1_metric = some (r, z_t_comes, z_t_begins, z_t_back, z_t_loads, z_t_miles, z_t_waits, z_t_lateAt)) (S : St G A s.heap H locs (w_X0_follow G a_t a_t_row a_t_comes a_t_begins a_t_slacks a_p1 a_p1_facts a_p1_roundsOf a_p1_locked a_p1_rules a_p1_sizes a_p1_rows a_p1_seen a_p1_plan a_p1_book t_round t_size t_back t_loads t_miles t_waits t_lateAt t_later t_row t_comes t_begins p1_stopCount p1_metric p1_fixed p1_facts p1_rules)) (hl : lv_has ls 9 [(0, .ref a_t), (1, .ref a_p1), (5, .int x5), (6, .int x6), (7, .int x7)]) : W p l e rm_X0_follow s m args below meth c H locs 0 0 (QI G below args s A r (w_X0_follow G a_t a_t_row a_t_comes a_t_begins a_t_slacks a_p1 a_p1_facts a_p1_roundsOf a_p1_locked a_p1_rules a_p1_sizes a_p1_rows a_p1_seen a_p1_plan a_p1_book t_round t_size z_t_back z_t_loads z_t_miles z_t_waits z_t_lateAt t_later t_row z_t_comes z_t_begins p1_stopCount p1_metric p1_fixed p1_facts p1_rules)) (F0 m 160 ls [.int y1, .ref a_t]) := by
  unfold b_X0_follow_160 at hf
  have hx := C.1
  have hb := C.2.1
  have hown := C.2.2.2.2.1
  have hts := C.2.2.2.2.2.1
  have hN := C.2.2.2.2.2.2.2.2.2.2
  refine x_put (pc := 160) (ci := 0) (T := TX0) (ws' := (w_X0_follow G a_t a_t_row a_t_comes a_t_begins a_t_slacks a_p1 a_p1_facts a_p1_roundsOf a_p1_locked a_p1_rules a_p1_sizes a_p1_rows a_p1_seen a_p1_plan a_p1_book t_round t_size t_back t_loads t_miles t_waits y1 t_later t_row t_comes t_begins p1_stopCount p1_metric p1_fixed p1_facts p1_rules)) C S tyX0 tyX0_ok nmX0 0 rfl rfl inlX0 10 (by decide) rfl qf_0_71 rfl rfl rfl rfl (Nat.le_of_ble_eq_true rfl) rfl dX0_follow_160 (fun H locs S => ?_)
  refine lv_aload_n (pc := 163) hx hb dX0_follow_163 rfl (lv_at hl 0 rfl) ?_
  refine lv_dup (pc := 164) hx hb dX0_follow_164 rfl ?_
  refine x_get (pc := 165) (ci := 0) (T := TX0) (v := .int t_miles) C S 0 rfl rfl inlX0 8 (by decide) rfl qf_0_65 rfl dX0_follow_165 ?_
  refine lv_iload (pc := 168) hx hb dX0_follow_168 (lv_at hl 4 rfl) ?_
  refine lv_iadd (pc := 170) hx hb dX0_follow_170 ?_
  refine x_put (pc := 171) (ci := 0) (T := TX0) (ws' := (w_X0_follow G a_t a_t_row a_t_comes a_t_begins a_t_slacks a_p1 a_p1_facts a_p1_roundsOf a_p1_locked a_p1_rules a_p1_sizes a_p1_rows a_p1_seen a_p1_plan a_p1_book t_round t_size t_back t_loads (t_miles + x7) t_waits y1 t_later t_row t_comes t_begins p1_stopCount p1_metric p1_fixed p1_facts p1_rules)) C S tyX0 tyX0_ok nmX0 0 rfl rfl inlX0 8 (by decide) rfl qf_0_65 rfl rfl rfl rfl (Nat.le_of_ble_eq_true rfl) rfl dX0_follow_171 (fun H locs S => ?_)
  refine lv_aload_n (pc := 174) hx hb dX0_follow_174 rfl (lv_at hl 0 rfl) ?_
  refine lv_dup (pc := 175) hx hb dX0_follow_175 rfl ?_
  refine x_get (pc := 176) (ci := 0) (T := TX0) (v := .int t_waits) C S 0 rfl rfl inlX0 9 (by decide) rfl qf_0_68 rfl dX0_follow_176 ?_
  refine lv_aload_n (pc := 179) hx hb dX0_follow_179 rfl (lv_at hl 0 rfl) ?_
  refine x_get (pc := 180) (ci := 0) (T := TX0) (v := .ref a_t_begins) C S 0 rfl rfl inlX0 2 (by decide) rfl qf_0_18 rfl dX0_follow_180 ?_
  refine lv_iload (pc := 183) hx hb dX0_follow_183 (lv_at hl 2 rfl) ?_
  obtain ⟨hv1, hf⟩ := gI_e hf
  refine x_iald (pc := 185) C S 3 rfl hv1 dX0_follow_185 ?_
  refine lv_aload_n (pc := 186) hx hb dX0_follow_186 rfl (lv_at hl 0 rfl) ?_
  refine x_get (pc := 187) (ci := 0) (T := TX0) (v := .ref a_t_comes) C S 0 rfl rfl inlX0 1 (by decide) rfl qf_0_15 rfl dX0_follow_187 ?_
  refine lv_iload (pc := 190) hx hb dX0_follow_190 (lv_at hl 2 rfl) ?_
  refine x_iald (pc := 192) C S 2 rfl hv1 dX0_follow_192 ?_
  refine lv_isub (pc := 193) hx hb dX0_follow_193 ?_
  refine lv_iadd (pc := 194) hx hb dX0_follow_194 ?_
  refine x_put (pc := 195) (ci := 0) (T := TX0) (ws' := (w_X0_follow G a_t a_t_row a_t_comes a_t_begins a_t_slacks a_p1 a_p1_facts a_p1_roundsOf a_p1_locked a_p1_rules a_p1_sizes a_p1_rows a_p1_seen a_p1_plan a_p1_book t_round t_size t_back t_loads (t_miles + x7) (t_waits + ((t_begins x5.toNatClampNeg) - (t_comes x5.toNatClampNeg))) y1 t_later t_row t_comes t_begins p1_stopCount p1_metric p1_fixed p1_facts p1_rules)) C S tyX0 tyX0_ok nmX0 0 rfl rfl inlX0 9 (by decide) rfl qf_0_68 rfl rfl rfl rfl (Nat.le_of_ble_eq_true rfl) rfl dX0_follow_195 (fun H locs S => ?_)
  refine lv_aload_n (pc := 198) hx hb dX0_follow_198 rfl (lv_at hl 0 rfl) ?_
  refine lv_dup (pc := 199) hx hb dX0_follow_199 rfl ?_
  refine x_get (pc := 200) (ci := 0) (T := TX0) (v := .int t_loads) C S 0 rfl rfl inlX0 7 (by decide) rfl qf_0_62 rfl dX0_follow_200 ?_
  refine lv_aload_n (pc := 203) hx hb dX0_follow_203 rfl (lv_at hl 1 rfl) ?_
  refine lv_iload (pc := 204) hx hb dX0_follow_204 (lv_at hl 3 rfl) ?_
  refine lv_iconst (pc := 206) hx hb dX0_follow_206 ic_2 ?_
  obtain ⟨r2, hq2, hf⟩ := bd_e hf
  refine x_vI (pc := 207) (As := [.int x6, .int (2 : Int32)]) (rest := [.int t_loads, .ref a_t]) (isC := [4, 5]) (ws' := (w_X0_follow G a_t a_t_row a_t_comes a_t_begins a_t_slacks a_p1 a_p1_facts a_p1_roundsOf a_p1_locked a_p1_rules a_p1_sizes a_p1_rows a_p1_seen a_p1_plan a_p1_book t_round t_size t_back t_loads (t_miles + x7) (t_waits + ((t_begins x5.toNatClampNeg) - (t_comes x5.toNatClampNeg))) y1 t_later t_row t_comes t_begins p1_stopCount p1_metric p1_fixed p1_facts p1_rules)) C S (c_X6_fact l G a_p1 a_p1_facts a_p1_roundsOf a_p1_locked a_p1_rules a_p1_sizes a_p1_rows a_p1_seen a_p1_plan a_p1_book p1_stopCount p1_metric p1_fixed p1_facts x6 (2 : Int32) r2 hq2) (u_X0_follow_X6_fact_77 hts) (ci := 6) rfl 4 rfl rfl (by decide +kernel) [none, none, none, none, some 0, some 1, none] (by decide +kernel) rfl rfl rfl hl.1 rfl (Nat.le_of_ble_eq_true rfl) dX0_follow_207 (fun H locs S => ?_)
  refine lv_iadd (pc := 210) hx hb dX0_follow_210 ?_
  refine x_put (pc := 211) (ci := 0) (T := TX0) (ws' := (w_X0_follow G a_t a_t_row a_t_comes a_t_begins a_t_slacks a_p1 a_p1_facts a_p1_roundsOf a_p1_locked a_p1_rules a_p1_sizes a_p1_rows a_p1_seen a_p1_plan a_p1_book t_round t_size t_back (t_loads + r2) (t_miles + x7) (t_waits + ((t_begins x5.toNatClampNeg) - (t_comes x5.toNatClampNeg))) y1 t_later t_row t_comes t_begins p1_stopCount p1_metric p1_fixed p1_facts p1_rules)) C S tyX0 tyX0_ok nmX0 0 rfl rfl inlX0 7 (by decide) rfl qf_0_62 rfl rfl rfl rfl (Nat.le_of_ble_eq_true rfl) rfl dX0_follow_211 (fun H locs S => ?_)
  refine lv_aload_n (pc := 214) hx hb dX0_follow_214 rfl (lv_at hl 0 rfl) ?_
  refine x_get (pc := 215) (ci := 0) (T := TX0) (v := .ref a_t_begins) C S 0 rfl rfl inlX0 2 (by decide) rfl qf_0_18 rfl dX0_follow_215 ?_
  refine lv_iload (pc := 218) hx hb dX0_follow_218 (lv_at hl 2 rfl) ?_
  refine x_iald (pc := 220) C S 3 rfl hv1 dX0_follow_220 ?_
  refine lv_aload_n (pc := 221) hx hb dX0_follow_221 rfl (lv_at hl 1 rfl) ?_
  refine lv_iload (pc := 222) hx hb dX0_follow_222 (lv_at hl 3 rfl) ?_
  refine lv_iconst (pc := 224) hx hb dX0_follow_224 ic_5 ?_
  obtain ⟨r3, hq3, hf⟩ := bd_e hf
  refine x_vI (pc := 225) (As := [.int x6, .int (5 : Int32)]) (rest := [.int (t_begins x5.toNatClampNeg)]) (isC := [4, 5]) (ws' := (w_X0_follow G a_t a_t_row a_t_comes a_t_begins a_t_slacks a_p1 a_p1_facts a_p1_roundsOf a_p1_locked a_p1_rules a_p1_sizes a_p1_rows a_p1_seen a_p1_plan a_p1_book t_round t_size t_back (t_loads + r2) (t_miles + x7) (t_waits + ((t_begins x5.toNatClampNeg) - (t_comes x5.toNatClampNeg))) y1 t_later t_row t_comes t_begins p1_stopCount p1_metric p1_fixed p1_facts p1_rules)) C S (c_X6_fact l G a_p1 a_p1_facts a_p1_roundsOf a_p1_locked a_p1_rules a_p1_sizes a_p1_rows a_p1_seen a_p1_plan a_p1_book p1_stopCount p1_metric p1_fixed p1_facts x6 (5 : Int32) r3 hq3) (u_X0_follow_X6_fact_77 hts) (ci := 6) rfl 4 rfl rfl (by decide +kernel) [none, none, none, none, some 0, some 1, none] (by decide +kernel) rfl rfl rfl hl.1 rfl (Nat.le_of_ble_eq_true rfl) dX0_follow_225 (fun H locs S => ?_)
  refine lv_iadd (pc := 228) hx hb dX0_follow_228 ?_
  refine lv_istore_n (pc := 229) (lv' := [(3, .int ((t_begins x5.toNatClampNeg) + r3)), (0, .ref a_t), (1, .ref a_p1), (5, .int x5), (6, .int x6), (7, .int x7)]) hx hb dX0_follow_229 rfl hl (by decide) rfl (fun ls hl => ?_)
  refine lv_iload (pc := 230) hx hb dX0_follow_230 (lv_at hl 4 rfl) ?_
  refine lv_istore (pc := 232) (lv' := [(4, .int x6), (3, .int ((t_begins x5.toNatClampNeg) + r3)), (0, .ref a_t), (1, .ref a_p1), (5, .int x5), (6, .int x6), (7, .int x7)]) hx hb dX0_follow_232 hl (by decide) rfl (fun ls hl => ?_)
  refine lv_iinc (pc := 234) (v := (x5 + (1 : Int32))) (lv' := [(5, .int (x5 + (1 : Int32))), (4, .int x6), (3, .int ((t_begins x5.toNatClampNeg) + r3)), (0, .ref a_t), (1, .ref a_p1), (6, .int x6), (7, .int x7)]) hx hb dX0_follow_234 hl (k := 4) rfl (congrArg (fun z => x5 + z) ic_1) (by decide) rfl (fun ls hl => ?_)
  refine lv_goto (tgt := 40) (pc := 237) hx hb dX0_follow_237 (by decide) ?_
  exact hk40 (((t_begins x5.toNatClampNeg) + r3)) (x6) ((x5 + (1 : Int32))) (t_comes) (t_begins) ((t_loads + r2)) ((t_miles + x7)) ((t_waits + ((t_begins x5.toNatClampNeg) - (t_comes x5.toNatClampNeg)))) (y1)  hf S (lv_sub hl [3, 4, 2, 1, 0] rfl)
set_option maxRecDepth 100000 in
set_option maxHeartbeats 4000000 in
theorem k_X0_follow_134 (C : Cx p s m args meth c cX0_follow (some .boolean) 9 RX0 G A) (t_round : Int32) (t_size : Int32) (t_back : Int32) (t_loads : Int32) (t_miles : Int32) (t_waits : Int32) (t_lateAt : Int32) (t_later : Int32) (t_row : Nat → Int32) (t_comes : Nat → Int32) (t_begins : Nat → Int32) (p1_stopCount : Int32) (p1_metric : Int32) (p1_fixed : Int32) (p1_facts : Nat → Int32) (p1_rules : Nat → Int32) (x5 : Int32) (x6 : Int32) (x7 : Int32) (y1 : Int32) (y2 : Int32) (k40 : Int32 × Int32 × Int32 × (Nat → Int32) × (Nat → Int32) × Int32 × Int32 × Int32 × Int32 → Option (Int32 × (Nat → Int32) × (Nat → Int32) × Int32 × Int32 × Int32 × Int32 × Int32)) (hk40 : ∀ {H : Heap} {locs : List Loc} {ls : Array Slot} (x3' : Int32) (x4' : Int32) (x5' : Int32) (t_comes' : Nat → Int32) (t_begins' : Nat → Int32) (t_loads' : Int32) (t_miles' : Int32) (t_waits' : Int32) (t_lateAt' : Int32), k40 (x3', x4', x5', t_comes', t_begins', t_loads', t_miles', t_waits', t_lateAt') = some (r, z_t_comes, z_t_begins, z_t_back, z_t_loads, z_t_miles, z_t_waits, z_t_lateAt) → St G A s.heap H locs (w_X0_follow G a_t a_t_row a_t_comes a_t_begins a_t_slacks a_p1 a_p1_facts a_p1_roundsOf a_p1_locked a_p1_rules a_p1_sizes a_p1_rows a_p1_seen a_p1_plan a_p1_book t_round t_size t_back t_loads' t_miles' t_waits' t_lateAt' t_later t_row t_comes' t_begins' p1_stopCount p1_metric p1_fixed p1_facts p1_rules) → lv_has ls 9 [(0, .ref a_t), (1, .ref a_p1), (3, .int x3'), (4, .int x4'), (5, .int x5')] → W p l e rm_X0_follow s m args below meth c H locs 0 0 (QI G below args s A r (w_X0_follow G a_t a_t_row a_t_comes a_t_begins a_t_slacks a_p1 a_p1_facts a_p1_roundsOf a_p1_locked a_p1_rules a_p1_sizes a_p1_rows a_p1_seen a_p1_plan a_p1_book t_round t_size z_t_back z_t_loads z_t_miles z_t_waits z_t_lateAt t_later t_row z_t_comes z_t_begins p1_stopCount p1_metric p1_fixed p1_facts p1_rules)) (F0 m 40 ls [])) {H : Heap} {locs : List Loc} {ls : Array Slot} (hf : b_X0_follow_134 k40 x5 x6 x7 y1 y2 t_row t_comes t_begins t_round t_size t_loads t_miles t_waits p1_facts p1_rules p1_metric = some (r, z_t_comes, z_t_begins, z_t_back, z_t_loads, z_t_miles, z_t_waits, z_t_lateAt)) (S : St G A s.heap H locs (w_X0_follow G a_t a_t_row a_t_comes a_t_begins a_t_slacks a_p1 a_p1_facts a_p1_roundsOf a_p1_locked a_p1_rules a_p1_sizes a_p1_rows a_p1_seen a_p1_plan a_p1_book t_round t_size t_back t_loads t_miles t_waits t_lateAt t_later t_row t_comes t_begins p1_stopCount p1_metric p1_fixed p1_facts p1_rules)) (hl : lv_has ls 9 [(0, .ref a_t), (1, .ref a_p1), (5, .int x5), (6, .int x6), (7, .int x7)]) : W p l e rm_X0_follow s m args below meth c H locs 0 0 (QI G below args s A r (w_X0_follow G a_t a_t_row a_t_comes a_t_begins a_t_slacks a_p1 a_p1_facts a_p1_roundsOf a_p1_locked a_p1_rules a_p1_sizes a_p1_rows a_p1_seen a_p1_plan a_p1_book t_round t_size z_t_back z_t_loads z_t_miles z_t_waits z_t_lateAt t_later t_row z_t_comes z_t_begins p1_stopCount p1_metric p1_fixed p1_facts p1_rules)) (F0 m 134 ls [.int y2, .int y1, .ref a_t_begins]) := by
  unfold b_X0_follow_134 at hf
  have hx := C.1
  have hb := C.2.1
  have hown := C.2.2.2.2.1
  have hts := C.2.2.2.2.2.1
  have hN := C.2.2.2.2.2.2.2.2.2.2
  obtain ⟨hv1, hf⟩ := gI_e hf
  refine x_iast (pc := 134) (ws' := (w_X0_follow G a_t a_t_row a_t_comes a_t_begins a_t_slacks a_p1 a_p1_facts a_p1_roundsOf a_p1_locked a_p1_rules a_p1_sizes a_p1_rows a_p1_seen a_p1_plan a_p1_book t_round t_size t_back t_loads t_miles t_waits t_lateAt t_later t_row t_comes (upd t_begins y1.toNatClampNeg y2) p1_stopCount p1_metric p1_fixed p1_facts p1_rules)) C S 3 rfl hv1 rfl dX0_follow_134 (fun H locs S => ?_)
  refine lv_aload_n (pc := 135) hx hb dX0_follow_135 rfl (lv_at hl 0 rfl) ?_
  refine lv_aload_n (pc := 136) hx hb dX0_follow_136 rfl (lv_at hl 0 rfl) ?_
  refine x_get (pc := 137) (ci := 0) (T := TX0) (v := .ref a_t_begins) C S 0 rfl rfl inlX0 2 (by decide) rfl qf_0_18 rfl dX0_follow_137 ?_
  refine lv_iload (pc := 140) hx hb dX0_follow_140 (lv_at hl 2 rfl) ?_
  obtain ⟨hv2, hf⟩ := gI_e hf
  refine x_iald (pc := 142) C S 3 rfl hv2 dX0_follow_142 ?_
  refine lv_aload_n (pc := 143) hx hb dX0_follow_143 rfl (lv_at hl 1 rfl) ?_
  refine lv_iload (pc := 144) hx hb dX0_follow_144 (lv_at hl 3 rfl) ?_
  refine lv_iconst (pc := 146) hx hb dX0_follow_146 ic_4 ?_
  obtain ⟨r3, hq3, hf⟩ := bd_e hf
  refine x_vI (pc := 147) (As := [.int x6, .int (4 : Int32)]) (rest := [.int ((upd t_begins y1.toNatClampNeg y2) x5.toNatClampNeg), .ref a_t]) (isC := [4, 5]) (ws' := (w_X0_follow G a_t a_t_row a_t_comes a_t_begins a_t_slacks a_p1 a_p1_facts a_p1_roundsOf a_p1_locked a_p1_rules a_p1_sizes a_p1_rows a_p1_seen a_p1_plan a_p1_book t_round t_size t_back t_loads t_miles t_waits t_lateAt t_later t_row t_comes (upd t_begins y1.toNatClampNeg y2) p1_stopCount p1_metric p1_fixed p1_facts p1_rules)) C S (c_X6_fact l G a_p1 a_p1_facts a_p1_roundsOf a_p1_locked a_p1_rules a_p1_sizes a_p1_rows a_p1_seen a_p1_plan a_p1_book p1_stopCount p1_metric p1_fixed p1_facts x6 (4 : Int32) r3 hq3) (u_X0_follow_X6_fact_77 hts) (ci := 6) rfl 4 rfl rfl (by decide +kernel) [none, none, none, none, some 0, some 1, none] (by decide +kernel) rfl rfl rfl hl.1 rfl (Nat.le_of_ble_eq_true rfl) dX0_follow_147 (fun H locs S => ?_)
  refine lv_icmp_le (tgt := 158) (pc := 150) hx hb dX0_follow_150 (by decide) (fun c4 => ?_) (fun c4 => ?_)
  · have hf := ifp c4 hf
    refine lv_bipush (pc := 158) hx hb dX0_follow_158 bc_m5 ?_
    exact k_X0_follow_160 C (t_round) (t_size) (t_back) (t_loads) (t_miles) (t_waits) (t_lateAt) (t_later) (t_row) (t_comes) ((upd t_begins y1.toNatClampNeg y2)) (p1_stopCount) (p1_metric) (p1_fixed) (p1_facts) (p1_rules) (x5) (x6) (x7) ((-5 : Int32)) k40 hk40 hf S (lv_sub hl [0, 1, 2, 3, 4] rfl)
  · have hf := ifn c4 hf
    refine lv_iload (pc := 153) hx hb dX0_follow_153 (lv_at hl 2 rfl) ?_
    refine lv_goto (tgt := 160) (pc := 155) hx hb dX0_follow_155 (by decide) ?_
    exact k_X0_follow_160 C (t_round) (t_size) (t_back) (t_loads) (t_miles) (t_waits) (t_lateAt) (t_later) (t_row) (t_comes) ((upd t_begins y1.toNatClampNeg y2)) (p1_stopCount) (p1_metric) (p1_fixed) (p1_facts) (p1_rules) (x5) (x6) (x7) (x5) k40 hk40 hf S (lv_sub hl [0, 1, 2, 3, 4] rfl)
set_option maxRecDepth 100000 in
set_option maxHeartbeats 4000000 in
theorem k_X0_follow_40 (C : Cx p s m args meth c cX0_follow (some .boolean) 9 RX0 G A) (t_round : Int32) (t_size : Int32) (t_back : Int32) (t_loads : Int32) (t_miles : Int32) (t_waits : Int32) (t_lateAt : Int32) (t_later : Int32) (t_row : Nat → Int32) (t_comes : Nat → Int32) (t_begins : Nat → Int32) (p1_stopCount : Int32) (p1_metric : Int32) (p1_fixed : Int32) (p1_facts : Nat → Int32) (p1_rules : Nat → Int32) (x3 : Int32) (x4 : Int32) (x5 : Int32) (k40 : Int32 × Int32 × Int32 × (Nat → Int32) × (Nat → Int32) × Int32 × Int32 × Int32 × Int32 → Option (Int32 × (Nat → Int32) × (Nat → Int32) × Int32 × Int32 × Int32 × Int32 × Int32)) (hk40 : ∀ {H : Heap} {locs : List Loc} {ls : Array Slot} (x3' : Int32) (x4' : Int32) (x5' : Int32) (t_comes' : Nat → Int32) (t_begins' : Nat → Int32) (t_loads' : Int32) (t_miles' : Int32) (t_waits' : Int32) (t_lateAt' : Int32), k40 (x3', x4', x5', t_comes', t_begins', t_loads', t_miles', t_waits', t_lateAt') = some (r, z_t_comes, z_t_begins, z_t_back, z_t_loads, z_t_miles, z_t_waits, z_t_lateAt) → St G A s.heap H locs (w_X0_follow G a_t a_t_row a_t_comes a_t_begins a_t_slacks a_p1 a_p1_facts a_p1_roundsOf a_p1_locked a_p1_rules a_p1_sizes a_p1_rows a_p1_seen a_p1_plan a_p1_book t_round t_size t_back t_loads' t_miles' t_waits' t_lateAt' t_later t_row t_comes' t_begins' p1_stopCount p1_metric p1_fixed p1_facts p1_rules) → lv_has ls 9 [(0, .ref a_t), (1, .ref a_p1), (3, .int x3'), (4, .int x4'), (5, .int x5')] → W p l e rm_X0_follow s m args below meth c H locs 0 0 (QI G below args s A r (w_X0_follow G a_t a_t_row a_t_comes a_t_begins a_t_slacks a_p1 a_p1_facts a_p1_roundsOf a_p1_locked a_p1_rules a_p1_sizes a_p1_rows a_p1_seen a_p1_plan a_p1_book t_round t_size z_t_back z_t_loads z_t_miles z_t_waits z_t_lateAt t_later t_row z_t_comes z_t_begins p1_stopCount p1_metric p1_fixed p1_facts p1_rules)) (F0 m 40 ls [])) {H : Heap} {locs : List Loc} {ls : Array Slot} (hf : b_X0_follow_40 t_row t_round t_size p1_facts p1_rules p1_metric k40 x3 x4 x5 t_comes t_begins t_loads t_miles t_waits t_lateAt = some (r, z_t_comes, z_t_begins, z_t_back, z_t_loads, z_t_miles, z_t_waits, z_t_lateAt)) (S : St G A s.heap H locs (w_X0_follow G a_t a_t_row a_t_comes a_t_begins a_t_slacks a_p1 a_p1_facts a_p1_roundsOf a_p1_locked a_p1_rules a_p1_sizes a_p1_rows a_p1_seen a_p1_plan a_p1_book t_round t_size t_back t_loads t_miles t_waits t_lateAt t_later t_row t_comes t_begins p1_stopCount p1_metric p1_fixed p1_facts p1_rules)) (hl : lv_has ls 9 [(0, .ref a_t), (1, .ref a_p1), (3, .int x3), (4, .int x4), (5, .int x5)]) : W p l e rm_X0_follow s m args below meth c H locs 0 0 (QI G below args s A r (w_X0_follow G a_t a_t_row a_t_comes a_t_begins a_t_slacks a_p1 a_p1_facts a_p1_roundsOf a_p1_locked a_p1_rules a_p1_sizes a_p1_rows a_p1_seen a_p1_plan a_p1_book t_round t_size z_t_back z_t_loads z_t_miles z_t_waits z_t_lateAt t_later t_row z_t_comes z_t_begins p1_stopCount p1_metric p1_fixed p1_facts p1_rules)) (F0 m 40 ls []) := by
  unfold b_X0_follow_40 at hf
  have hx := C.1
  have hb := C.2.1
  have hown := C.2.2.2.2.1
  have hts := C.2.2.2.2.2.1
  have hN := C.2.2.2.2.2.2.2.2.2.2
  refine lv_iload (pc := 40) hx hb dX0_follow_40 (lv_at hl 4 rfl) ?_
  refine lv_aload_n (pc := 42) hx hb dX0_follow_42 rfl (lv_at hl 0 rfl) ?_
  refine x_get (pc := 43) (ci := 0) (T := TX0) (v := .int t_size) C S 0 rfl rfl inlX0 5 (by decide) rfl qf_0_34 rfl dX0_follow_43 ?_
  refine lv_icmp_ge (tgt := 240) (pc := 46) hx hb dX0_follow_46 (by decide) (fun c1 => ?_) (fun c1 => ?_)
  · have hf := ifp c1 hf
    exact k_X0_follow_240 C (t_round) (t_size) (t_back) (t_loads) (t_miles) (t_waits) (t_lateAt) (t_later) (t_row) (t_comes) (t_begins) (p1_stopCount) (p1_metric) (p1_fixed) (p1_facts) (p1_rules) (x3) (x4) hf S (lv_sub hl [0, 1, 2, 3] rfl)
  · have hf := ifn c1 hf
    refine lv_iload (pc := 49) hx hb dX0_follow_49 (lv_at hl 4 rfl) ?_
    refine lv_bipush (pc := 51) hx hb dX0_follow_51 bc_16 ?_
    refine lv_icmp_ge (tgt := 240) (pc := 53) hx hb dX0_follow_53 (by decide) (fun c2 => ?_) (fun c2 => ?_)
    · have hf := ifp c2 hf
      exact k_X0_follow_240 C (t_round) (t_size) (t_back) (t_loads) (t_miles) (t_waits) (t_lateAt) (t_later) (t_row) (t_comes) (t_begins) (p1_stopCount) (p1_metric) (p1_fixed) (p1_facts) (p1_rules) (x3) (x4) hf S (lv_sub hl [0, 1, 2, 3] rfl)
    · have hf := ifn c2 hf
      refine lv_aload_n (pc := 56) hx hb dX0_follow_56 rfl (lv_at hl 0 rfl) ?_
      refine x_get (pc := 57) (ci := 0) (T := TX0) (v := .int t_lateAt) C S 0 rfl rfl inlX0 10 (by decide) rfl qf_0_71 rfl dX0_follow_57 ?_
      refine lv_bipush (pc := 60) hx hb dX0_follow_60 bc_m5 ?_
      refine lv_icmp_ne (tgt := 240) (pc := 62) hx hb dX0_follow_62 (by decide) (fun c3 => ?_) (fun c3 => ?_)
      · have hf := ifn c3 hf
        exact k_X0_follow_240 C (t_round) (t_size) (t_back) (t_loads) (t_miles) (t_waits) (t_lateAt) (t_later) (t_row) (t_comes) (t_begins) (p1_stopCount) (p1_metric) (p1_fixed) (p1_facts) (p1_rules) (x3) (x4) hf S (lv_sub hl [0, 1, 2, 3] rfl)
      · have hf := ifp c3 hf
        refine lv_aload_n (pc := 65) hx hb dX0_follow_65 rfl (lv_at hl 0 rfl) ?_
        refine x_get (pc := 66) (ci := 0) (T := TX0) (v := .ref a_t_row) C S 0 rfl rfl inlX0 0 (by decide) rfl qf_0_9 rfl dX0_follow_66 ?_
        refine lv_iload (pc := 69) hx hb dX0_follow_69 (lv_at hl 4 rfl) ?_
        obtain ⟨hv4, hf⟩ := gI_e hf
        refine x_iald (pc := 71) C S 1 rfl hv4 dX0_follow_71 ?_
        refine lv_istore (pc := 72) (lv' := [(6, .int (t_row x5.toNatClampNeg)), (0, .ref a_t), (1, .ref a_p1), (3, .int x3), (4, .int x4), (5, .int x5)]) hx hb dX0_follow_72 hl (by decide) rfl (fun ls hl => ?_)
        refine lv_aload_n (pc := 74) hx hb dX0_follow_74 rfl (lv_at hl 2 rfl) ?_
        refine lv_iload (pc := 75) hx hb dX0_follow_75 (lv_at hl 4 rfl) ?_
        refine lv_iload (pc := 77) hx hb dX0_follow_77 (lv_at hl 0 rfl) ?_
        obtain ⟨r5, hq5, hf⟩ := bd_e hf
        refine x_vI (pc := 79) (As := [.int x4, .int (t_row x5.toNatClampNeg)]) (rest := []) (isC := [4, 5]) (ws' := (w_X0_follow G a_t a_t_row a_t_comes a_t_begins a_t_slacks a_p1 a_p1_facts a_p1_roundsOf a_p1_locked a_p1_rules a_p1_sizes a_p1_rows a_p1_seen a_p1_plan a_p1_book t_round t_size t_back t_loads t_miles t_waits t_lateAt t_later t_row t_comes t_begins p1_stopCount p1_metric p1_fixed p1_facts p1_rules)) C S (c_X6_way l G a_p1 a_p1_facts a_p1_roundsOf a_p1_locked a_p1_rules a_p1_sizes a_p1_rows a_p1_seen a_p1_plan a_p1_book p1_stopCount p1_metric p1_fixed p1_facts x4 (t_row x5.toNatClampNeg) r5 hq5) (u_X0_follow_X6_way_74 hts) (ci := 6) rfl 4 rfl rfl (by decide +kernel) [none, none, none, none, some 0, some 1, none] (by decide +kernel) rfl rfl rfl hl.1 rfl (Nat.le_of_ble_eq_true rfl) dX0_follow_79 (fun H locs S => ?_)
        refine lv_istore (pc := 82) (lv' := [(7, .int r5), (6, .int (t_row x5.toNatClampNeg)), (0, .ref a_t), (1, .ref a_p1), (3, .int x3), (4, .int x4), (5, .int x5)]) hx hb dX0_follow_82 hl (by decide) rfl (fun ls hl => ?_)
        refine lv_aload_n (pc := 84) hx hb dX0_follow_84 rfl (lv_at hl 3 rfl) ?_
        refine lv_iload (pc := 85) hx hb dX0_follow_85 (lv_at hl 1 rfl) ?_
        refine lv_iconst (pc := 87) hx hb dX0_follow_87 ic_3 ?_
        obtain ⟨r6, hq6, hf⟩ := bd_e hf
        refine x_vI (pc := 88) (As := [.int (t_row x5.toNatClampNeg), .int (3 : Int32)]) (rest := []) (isC := [4, 5]) (ws' := (w_X0_follow G a_t a_t_row a_t_comes a_t_begins a_t_slacks a_p1 a_p1_facts a_p1_roundsOf a_p1_locked a_p1_rules a_p1_sizes a_p1_rows a_p1_seen a_p1_plan a_p1_book t_round t_size t_back t_loads t_miles t_waits t_lateAt t_later t_row t_comes t_begins p1_stopCount p1_metric p1_fixed p1_facts p1_rules)) C S (c_X6_fact l G a_p1 a_p1_facts a_p1_roundsOf a_p1_locked a_p1_rules a_p1_sizes a_p1_rows a_p1_seen a_p1_plan a_p1_book p1_stopCount p1_metric p1_fixed p1_facts (t_row x5.toNatClampNeg) (3 : Int32) r6 hq6) (u_X0_follow_X6_fact_77 hts) (ci := 6) rfl 4 rfl rfl (by decide +kernel) [none, none, none, none, some 0, some 1, none] (by decide +kernel) rfl rfl rfl hl.1 rfl (Nat.le_of_ble_eq_true rfl) dX0_follow_88 (fun H locs S => ?_)
        refine lv_istore (pc := 91) (lv' := [(8, .int r6), (7, .int r5), (6, .int (t_row x5.toNatClampNeg)), (0, .ref a_t), (1, .ref a_p1), (3, .int x3), (4, .int x4), (5, .int x5)]) hx hb dX0_follow_91 hl (by decide) rfl (fun ls hl => ?_)
        refine lv_aload_n (pc := 93) hx hb dX0_follow_93 rfl (lv_at hl 3 rfl) ?_
        refine x_get (pc := 94) (ci := 0) (T := TX0) (v := .ref a_t_comes) C S 0 rfl rfl inlX0 1 (by decide) rfl qf_0_15 rfl dX0_follow_94 ?_
        refine lv_iload (pc := 97) hx hb dX0_follow_97 (lv_at hl 7 rfl) ?_
        refine lv_iload_n (pc := 99) hx hb dX0_follow_99 rfl (lv_at hl 5 rfl) ?_
        refine lv_iload (pc := 100) hx hb dX0_follow_100 (lv_at hl 1 rfl) ?_
        refine lv_iadd (pc := 102) hx hb dX0_follow_102 ?_
        refine x_iast (pc := 103) (ws' := (w_X0_follow G a_t a_t_row a_t_comes a_t_begins a_t_slacks a_p1 a_p1_facts a_p1_roundsOf a_p1_locked a_p1_rules a_p1_sizes a_p1_rows a_p1_seen a_p1_plan a_p1_book t_round t_size t_back t_loads t_miles t_waits t_lateAt t_later t_row (upd t_comes x5.toNatClampNeg (x3 + r5)) t_begins p1_stopCount p1_metric p1_fixed p1_facts p1_rules)) C S 2 rfl hv4 rfl dX0_follow_103 (fun H locs S => ?_)
        refine lv_aload_n (pc := 104) hx hb dX0_follow_104 rfl (lv_at hl 3 rfl) ?_
        refine x_get (pc := 105) (ci := 0) (T := TX0) (v := .ref a_t_begins) C S 0 rfl rfl inlX0 2 (by decide) rfl qf_0_18 rfl dX0_follow_105 ?_
        refine lv_iload (pc := 108) hx hb dX0_follow_108 (lv_at hl 7 rfl) ?_
        refine lv_aload_n (pc := 110) hx hb dX0_follow_110 rfl (lv_at hl 3 rfl) ?_
        refine x_get (pc := 111) (ci := 0) (T := TX0) (v := .ref a_t_comes) C S 0 rfl rfl inlX0 1 (by decide) rfl qf_0_15 rfl dX0_follow_111 ?_
        refine lv_iload (pc := 114) hx hb dX0_follow_114 (lv_at hl 7 rfl) ?_
        refine x_iald (pc := 116) C S 2 rfl hv4 dX0_follow_116 ?_
        refine lv_iload (pc := 117) hx hb dX0_follow_117 (lv_at hl 0 rfl) ?_
        refine lv_icmp_ge (tgt := 127) (pc := 119) hx hb dX0_follow_119 (by decide) (fun c7 => ?_) (fun c7 => ?_)
        · have hf := ifp c7 hf
          refine lv_aload_n (pc := 127) hx hb dX0_follow_127 rfl (lv_at hl 3 rfl) ?_
          refine x_get (pc := 128) (ci := 0) (T := TX0) (v := .ref a_t_comes) C S 0 rfl rfl inlX0 1 (by decide) rfl qf_0_15 rfl dX0_follow_128 ?_
          refine lv_iload (pc := 131) hx hb dX0_follow_131 (lv_at hl 7 rfl) ?_
          refine x_iald (pc := 133) C S 2 rfl hv4 dX0_follow_133 ?_
          exact k_X0_follow_134 C (t_round) (t_size) (t_back) (t_loads) (t_miles) (t_waits) (t_lateAt) (t_later) (t_row) ((upd t_comes x5.toNatClampNeg (x3 + r5))) (t_begins) (p1_stopCount) (p1_metric) (p1_fixed) (p1_facts) (p1_rules) (x5) ((t_row x5.toNatClampNeg)) (r5) (x5) (((upd t_comes x5.toNatClampNeg (x3 + r5)) x5.toNatClampNeg)) k40 hk40 hf S (lv_sub hl [3, 4, 7, 2, 1] rfl)
        · have hf := ifn c7 hf
          refine lv_iload (pc := 122) hx hb dX0_follow_122 (lv_at hl 0 rfl) ?_
          refine lv_goto (tgt := 134) (pc := 124) hx hb dX0_follow_124 (by decide) ?_
          exact k_X0_follow_134 C (t_round) (t_size) (t_back) (t_loads) (t_miles) (t_waits) (t_lateAt) (t_later) (t_row) ((upd t_comes x5.toNatClampNeg (x3 + r5))) (t_begins) (p1_stopCount) (p1_metric) (p1_fixed) (p1_facts) (p1_rules) (x5) ((t_row x5.toNatClampNeg)) (r5) (x5) (r6) k40 hk40 hf S (lv_sub hl [3, 4, 7, 2, 1] rfl)
set_option maxRecDepth 100000 in
set_option maxHeartbeats 4000000 in
theorem h_X0_follow_40 (C : Cx p s m args meth c cX0_follow (some .boolean) 9 RX0 G A) (t_round : Int32) (t_size : Int32) (t_back : Int32) (t_later : Int32) (t_row : Nat → Int32) (p1_stopCount : Int32) (p1_metric : Int32) (p1_fixed : Int32) (p1_facts : Nat → Int32) (p1_rules : Nat → Int32) : ∀ (n : Nat) (x3 : Int32) (x4 : Int32) (x5 : Int32) (t_comes : Nat → Int32) (t_begins : Nat → Int32) (t_loads : Int32) (t_miles : Int32) (t_waits : Int32) (t_lateAt : Int32) {H : Heap} {locs : List Loc} {ls : Array Slot} (hf : lp (fun k x => b_X0_follow_40 t_row t_round t_size p1_facts p1_rules p1_metric k x.1 x.2.1 x.2.2.1 x.2.2.2.1 x.2.2.2.2.1 x.2.2.2.2.2.1 x.2.2.2.2.2.2.1 x.2.2.2.2.2.2.2.1 x.2.2.2.2.2.2.2.2) n (x3, x4, x5, t_comes, t_begins, t_loads, t_miles, t_waits, t_lateAt) = some (r, z_t_comes, z_t_begins, z_t_back, z_t_loads, z_t_miles, z_t_waits, z_t_lateAt)) (S : St G A s.heap H locs (w_X0_follow G a_t a_t_row a_t_comes a_t_begins a_t_slacks a_p1 a_p1_facts a_p1_roundsOf a_p1_locked a_p1_rules a_p1_sizes a_p1_rows a_p1_seen a_p1_plan a_p1_book t_round t_size t_back t_loads t_miles t_waits t_lateAt t_later t_row t_comes t_begins p1_stopCount p1_metric p1_fixed p1_facts p1_rules)) (hl : lv_has ls 9 [(0, .ref a_t), (1, .ref a_p1), (3, .int x3), (4, .int x4), (5, .int x5)]), W p l e rm_X0_follow s m args below meth c H locs 0 0 (QI G below args s A r (w_X0_follow G a_t a_t_row a_t_comes a_t_begins a_t_slacks a_p1 a_p1_facts a_p1_roundsOf a_p1_locked a_p1_rules a_p1_sizes a_p1_rows a_p1_seen a_p1_plan a_p1_book t_round t_size z_t_back z_t_loads z_t_miles z_t_waits z_t_lateAt t_later t_row z_t_comes z_t_begins p1_stopCount p1_metric p1_fixed p1_facts p1_rules)) (F0 m 40 ls []) := by
  intro n
  induction n with
  | zero =>
    intro x3 x4 x5 t_comes t_begins t_loads t_miles t_waits t_lateAt  H locs ls hf
    cases hf
  | succ n ih =>
    intro x3 x4 x5 t_comes t_begins t_loads t_miles t_waits t_lateAt  H locs ls hf S hl
    have hf : b_X0_follow_40 t_row t_round t_size p1_facts p1_rules p1_metric (lp (fun k x => b_X0_follow_40 t_row t_round t_size p1_facts p1_rules p1_metric k x.1 x.2.1 x.2.2.1 x.2.2.2.1 x.2.2.2.2.1 x.2.2.2.2.2.1 x.2.2.2.2.2.2.1 x.2.2.2.2.2.2.2.1 x.2.2.2.2.2.2.2.2) n) x3 x4 x5 t_comes t_begins t_loads t_miles t_waits t_lateAt = some (r, z_t_comes, z_t_begins, z_t_back, z_t_loads, z_t_miles, z_t_waits, z_t_lateAt) := hf
    exact k_X0_follow_40 C t_round t_size t_back t_loads t_miles t_waits t_lateAt t_later t_row t_comes t_begins p1_stopCount p1_metric p1_fixed p1_facts p1_rules x3 x4 x5  (lp (fun k x => b_X0_follow_40 t_row t_round t_size p1_facts p1_rules p1_metric k x.1 x.2.1 x.2.2.1 x.2.2.2.1 x.2.2.2.2.1 x.2.2.2.2.2.1 x.2.2.2.2.2.2.1 x.2.2.2.2.2.2.2.1 x.2.2.2.2.2.2.2.2) n) (fun x3' x4' x5' t_comes' t_begins' t_loads' t_miles' t_waits' t_lateAt'  h S hl => ih x3' x4' x5' t_comes' t_begins' t_loads' t_miles' t_waits' t_lateAt'  h S hl) hf S hl
set_option maxRecDepth 100000 in
set_option maxHeartbeats 4000000 in
theorem c_X0_follow (l : Launch) (G : GE) (a_t a_t_row a_t_comes a_t_begins a_t_slacks a_p1 a_p1_facts a_p1_roundsOf a_p1_locked a_p1_rules a_p1_sizes a_p1_rows a_p1_seen a_p1_plan a_p1_book : Nat) (t_round : Int32) (t_size : Int32) (t_back : Int32) (t_loads : Int32) (t_miles : Int32) (t_waits : Int32) (t_lateAt : Int32) (t_later : Int32) (t_row : Nat → Int32) (t_comes : Nat → Int32) (t_begins : Nat → Int32) (p1_stopCount : Int32) (p1_metric : Int32) (p1_fixed : Int32) (p1_facts : Nat → Int32) (p1_rules : Nat → Int32) (x2 : Int32) (r : Int32) (z_t_comes : Nat → Int32) (z_t_begins : Nat → Int32) (z_t_back : Int32) (z_t_loads : Int32) (z_t_miles : Int32) (z_t_waits : Int32) (z_t_lateAt : Int32) (hf : f_X0_follow t_row t_comes t_begins t_round t_size p1_facts p1_rules p1_metric x2 = some (r, z_t_comes, z_t_begins, z_t_back, z_t_loads, z_t_miles, z_t_waits, z_t_lateAt)) : CI l G yX0_follow kw_X0_follow rm_X0_follow [.ref a_t, .ref a_p1, .int x2] (w_X0_follow G a_t a_t_row a_t_comes a_t_begins a_t_slacks a_p1 a_p1_facts a_p1_roundsOf a_p1_locked a_p1_rules a_p1_sizes a_p1_rows a_p1_seen a_p1_plan a_p1_book t_round t_size t_back t_loads t_miles t_waits t_lateAt t_later t_row t_comes t_begins p1_stopCount p1_metric p1_fixed p1_facts p1_rules) r (w_X0_follow G a_t a_t_row a_t_comes a_t_begins a_t_slacks a_p1 a_p1_facts a_p1_roundsOf a_p1_locked a_p1_rules a_p1_sizes a_p1_rows a_p1_seen a_p1_plan a_p1_book t_round t_size z_t_back z_t_loads z_t_miles z_t_waits z_t_lateAt t_later t_row z_t_comes z_t_begins p1_stopCount p1_metric p1_fixed p1_facts p1_rules) := by
  refine en_I (cc := cX0_follow) (maxL := 9) (ret := (some .boolean)) (by decide +kernel) (Nat.le_of_ble_eq_true rfl) ?_
  intro p e s m args below meth c A ls C S hl
  have hl : lv_has ls 9 [(0, .ref a_t), (1, .ref a_p1), (2, .int x2)] := hl
  have C : Cx p s m args meth c cX0_follow (some .boolean) 9 RX0 G A := C
  unfold f_X0_follow at hf
  have hx := C.1
  have hb := C.2.1
  have hown := C.2.2.2.2.1
  have hts := C.2.2.2.2.2.1
  have hN := C.2.2.2.2.2.2.2.2.2.2
  refine lv_aload_n (pc := 0) hx hb dX0_follow_0 rfl (lv_at hl 1 rfl) ?_
  refine lv_aload_n (pc := 1) hx hb dX0_follow_1 rfl (lv_at hl 0 rfl) ?_
  refine x_get (pc := 2) (ci := 0) (T := TX0) (v := .int t_round) C S 0 rfl rfl inlX0 4 (by decide) rfl qf_0_24 rfl dX0_follow_2 ?_
  refine lv_iconst (pc := 5) hx hb dX0_follow_5 ic_1 ?_
  obtain ⟨r1, hq1, hf⟩ := bd_e hf
  refine x_vI (pc := 6) (As := [.int t_round, .int (1 : Int32)]) (rest := []) (isC := [4, 6]) (ws' := (w_X0_follow G a_t a_t_row a_t_comes a_t_begins a_t_slacks a_p1 a_p1_facts a_p1_roundsOf a_p1_locked a_p1_rules a_p1_sizes a_p1_rows a_p1_seen a_p1_plan a_p1_book t_round t_size t_back t_loads t_miles t_waits t_lateAt t_later t_row t_comes t_begins p1_stopCount p1_metric p1_fixed p1_facts p1_rules)) C S (c_X6_ruleOf l G a_p1 a_p1_facts a_p1_roundsOf a_p1_locked a_p1_rules a_p1_sizes a_p1_rows a_p1_seen a_p1_plan a_p1_book p1_stopCount p1_metric p1_fixed p1_rules t_round (1 : Int32) r1 hq1) (u_X0_follow_X6_ruleOf_59 hts) (ci := 6) rfl 4 rfl rfl (by decide +kernel) [none, none, none, none, some 0, none, some 1] (by decide +kernel) rfl rfl rfl hl.1 rfl (Nat.le_of_ble_eq_true rfl) dX0_follow_6 (fun H locs S => ?_)
  refine lv_iload_n (pc := 9) hx hb dX0_follow_9 rfl (lv_at hl 2 rfl) ?_
  refine lv_iadd (pc := 10) hx hb dX0_follow_10 ?_
  refine lv_istore_n (pc := 11) (lv' := [(3, .int (r1 + x2)), (0, .ref a_t), (1, .ref a_p1), (2, .int x2)]) hx hb dX0_follow_11 rfl hl (by decide) rfl (fun ls hl => ?_)
  refine lv_bipush (pc := 12) hx hb dX0_follow_12 bc_16 ?_
  refine lv_istore (pc := 14) (lv' := [(4, .int (16 : Int32)), (3, .int (r1 + x2)), (0, .ref a_t), (1, .ref a_p1), (2, .int x2)]) hx hb dX0_follow_14 hl (by decide) rfl (fun ls hl => ?_)
  refine lv_aload_n (pc := 16) hx hb dX0_follow_16 rfl (lv_at hl 2 rfl) ?_
  refine lv_iconst (pc := 17) hx hb dX0_follow_17 ic_0 ?_
  refine x_put (pc := 18) (ci := 0) (T := TX0) (ws' := (w_X0_follow G a_t a_t_row a_t_comes a_t_begins a_t_slacks a_p1 a_p1_facts a_p1_roundsOf a_p1_locked a_p1_rules a_p1_sizes a_p1_rows a_p1_seen a_p1_plan a_p1_book t_round t_size t_back (0 : Int32) t_miles t_waits t_lateAt t_later t_row t_comes t_begins p1_stopCount p1_metric p1_fixed p1_facts p1_rules)) C S tyX0 tyX0_ok nmX0 0 rfl rfl inlX0 7 (by decide) rfl qf_0_62 rfl rfl rfl rfl (Nat.le_of_ble_eq_true rfl) rfl dX0_follow_18 (fun H locs S => ?_)
  refine lv_aload_n (pc := 21) hx hb dX0_follow_21 rfl (lv_at hl 2 rfl) ?_
  refine lv_iconst (pc := 22) hx hb dX0_follow_22 ic_0 ?_
  refine x_put (pc := 23) (ci := 0) (T := TX0) (ws' := (w_X0_follow G a_t a_t_row a_t_comes a_t_begins a_t_slacks a_p1 a_p1_facts a_p1_roundsOf a_p1_locked a_p1_rules a_p1_sizes a_p1_rows a_p1_seen a_p1_plan a_p1_book t_round t_size t_back (0 : Int32) (0 : Int32) t_waits t_lateAt t_later t_row t_comes t_begins p1_stopCount p1_metric p1_fixed p1_facts p1_rules)) C S tyX0 tyX0_ok nmX0 0 rfl rfl inlX0 8 (by decide) rfl qf_0_65 rfl rfl rfl rfl (Nat.le_of_ble_eq_true rfl) rfl dX0_follow_23 (fun H locs S => ?_)
  refine lv_aload_n (pc := 26) hx hb dX0_follow_26 rfl (lv_at hl 2 rfl) ?_
  refine lv_iconst (pc := 27) hx hb dX0_follow_27 ic_0 ?_
  refine x_put (pc := 28) (ci := 0) (T := TX0) (ws' := (w_X0_follow G a_t a_t_row a_t_comes a_t_begins a_t_slacks a_p1 a_p1_facts a_p1_roundsOf a_p1_locked a_p1_rules a_p1_sizes a_p1_rows a_p1_seen a_p1_plan a_p1_book t_round t_size t_back (0 : Int32) (0 : Int32) (0 : Int32) t_lateAt t_later t_row t_comes t_begins p1_stopCount p1_metric p1_fixed p1_facts p1_rules)) C S tyX0 tyX0_ok nmX0 0 rfl rfl inlX0 9 (by decide) rfl qf_0_68 rfl rfl rfl rfl (Nat.le_of_ble_eq_true rfl) rfl dX0_follow_28 (fun H locs S => ?_)
  refine lv_aload_n (pc := 31) hx hb dX0_follow_31 rfl (lv_at hl 2 rfl) ?_
  refine lv_bipush (pc := 32) hx hb dX0_follow_32 bc_m5 ?_
  refine x_put (pc := 34) (ci := 0) (T := TX0) (ws' := (w_X0_follow G a_t a_t_row a_t_comes a_t_begins a_t_slacks a_p1 a_p1_facts a_p1_roundsOf a_p1_locked a_p1_rules a_p1_sizes a_p1_rows a_p1_seen a_p1_plan a_p1_book t_round t_size t_back (0 : Int32) (0 : Int32) (0 : Int32) (-5 : Int32) t_later t_row t_comes t_begins p1_stopCount p1_metric p1_fixed p1_facts p1_rules)) C S tyX0 tyX0_ok nmX0 0 rfl rfl inlX0 10 (by decide) rfl qf_0_71 rfl rfl rfl rfl (Nat.le_of_ble_eq_true rfl) rfl dX0_follow_34 (fun H locs S => ?_)
  refine lv_iconst (pc := 37) hx hb dX0_follow_37 ic_0 ?_
  refine lv_istore (pc := 38) (lv' := [(5, .int (0 : Int32)), (4, .int (16 : Int32)), (3, .int (r1 + x2)), (0, .ref a_t), (1, .ref a_p1), (2, .int x2)]) hx hb dX0_follow_38 hl (by decide) rfl (fun ls hl => ?_)
  exact h_X0_follow_40 C (t_round) (t_size) (t_back) (t_later) (t_row) (p1_stopCount) (p1_metric) (p1_fixed) (p1_facts) (p1_rules) fu ((r1 + x2)) ((16 : Int32)) ((0 : Int32)) (t_comes) (t_begins) ((0 : Int32)) ((0 : Int32)) ((0 : Int32)) ((-5 : Int32)) hf S (lv_sub hl [3, 4, 2, 1, 0] rfl)
end

abbrev rm_X0_insert : Room := { frames := 0, cells := 0, slots := 0, locals := 0 }
abbrev kw_X0_insert : Cond := .code yX0_insert cX0_insert 4 none
abbrev w_X0_insert (G : GE) (a_t a_t_row a_t_comes a_t_begins a_t_slacks : Nat) (t_round : Int32) (t_size : Int32) (t_back : Int32) (t_loads : Int32) (t_miles : Int32) (t_waits : Int32) (t_lateAt : Int32) (t_later : Int32) (t_row : Nat → Int32) : va_W := [(a_t, ob 0 [.ref a_t_row, .ref a_t_comes, .ref a_t_begins, .ref a_t_slacks, .int t_round, .int t_size, .int t_back, .int t_loads, .int t_miles, .int t_waits, .int t_lateAt, .int t_later]), (a_t_row, aI G 16 t_row)]
section
variable {p : Program} {l : Launch} {e : Env} {s : State} {m : MethodId} {args : Array Value} {below : List Frame} {meth : Method} {c : Code} {A : Nat → Prop} {G : GE} {a_t a_t_row a_t_comes a_t_begins a_t_slacks : Nat} {z_t_row : Nat → Int32} {z_t_size : Int32}
set_option maxRecDepth 100000 in
set_option maxHeartbeats 4000000 in
theorem k_X0_insert_27 (C : Cx p s m args meth c cX0_insert none 4 RX0 G A) (t_round : Int32) (t_size : Int32) (t_back : Int32) (t_loads : Int32) (t_miles : Int32) (t_waits : Int32) (t_lateAt : Int32) (t_later : Int32) (t_row : Nat → Int32) (x1 : Int32) (x2 : Int32) (x3 : Int32) (k27 : Int32 × (Nat → Int32) → Option ((Nat → Int32) × Int32)) (hk27 : ∀ {H : Heap} {locs : List Loc} {ls : Array Slot} (x3' : Int32) (t_row' : Nat → Int32), k27 (x3', t_row') = some (z_t_row, z_t_size) → St G A s.heap H locs (w_X0_insert G a_t a_t_row a_t_comes a_t_begins a_t_slacks t_round t_size t_back t_loads t_miles t_waits t_lateAt t_later t_row') → lv_has ls 4 [(0, .ref a_t), (1, .int x1), (2, .int x2), (3, .int x3')] → W p l e rm_X0_insert s m args below meth c H locs 0 0 (QV G below args s A (w_X0_insert G a_t a_t_row a_t_comes a_t_begins a_t_slacks t_round z_t_size t_back t_loads t_miles t_waits t_lateAt t_later z_t_row)) (F0 m 27 ls [])) {H : Heap} {locs : List Loc} {ls : Array Slot} (hf : b_X0_insert_27 x1 x2 t_size k27 x3 t_row = some (z_t_row, z_t_size)) (S : St G A s.heap H locs (w_X0_insert G a_t a_t_row a_t_comes a_t_begins a_t_slacks t_round t_size t_back t_loads t_miles t_waits t_lateAt t_later t_row)) (hl : lv_has ls 4 [(0, .ref a_t), (1, .int x1), (2, .int x2), (3, .int x3)]) : W p l e rm_X0_insert s m args below meth c H locs 0 0 (QV G below args s A (w_X0_insert G a_t a_t_row a_t_comes a_t_begins a_t_slacks t_round z_t_size t_back t_loads t_miles t_waits t_lateAt t_later z_t_row)) (F0 m 27 ls []) := by
  unfold b_X0_insert_27 at hf
  have hx := C.1
  have hb := C.2.1
  have hown := C.2.2.2.2.1
  have hts := C.2.2.2.2.2.1
  have hN := C.2.2.2.2.2.2.2.2.2.2
  refine lv_iload_n (pc := 27) hx hb dX0_insert_27 rfl (lv_at hl 3 rfl) ?_
  refine lv_iload_n (pc := 28) hx hb dX0_insert_28 rfl (lv_at hl 1 rfl) ?_
  refine lv_icmp_le (tgt := 52) (pc := 29) hx hb dX0_insert_29 (by decide) (fun c1 => ?_) (fun c1 => ?_)
  · have hf := ifp c1 hf
    refine lv_aload_n (pc := 52) hx hb dX0_insert_52 rfl (lv_at hl 0 rfl) ?_
    refine x_get (pc := 53) (ci := 0) (T := TX0) (v := .ref a_t_row) C S 0 rfl rfl inlX0 0 (by decide) rfl qf_0_9 rfl dX0_insert_53 ?_
    refine lv_iload_n (pc := 56) hx hb dX0_insert_56 rfl (lv_at hl 1 rfl) ?_
    refine lv_iload_n (pc := 57) hx hb dX0_insert_57 rfl (lv_at hl 2 rfl) ?_
    obtain ⟨hv2, hf⟩ := gI_e hf
    refine x_iast (pc := 58) (ws' := (w_X0_insert G a_t a_t_row a_t_comes a_t_begins a_t_slacks t_round t_size t_back t_loads t_miles t_waits t_lateAt t_later (upd t_row x1.toNatClampNeg x2))) C S 1 rfl hv2 rfl dX0_insert_58 (fun H locs S => ?_)
    refine lv_aload_n (pc := 59) hx hb dX0_insert_59 rfl (lv_at hl 0 rfl) ?_
    refine lv_dup (pc := 60) hx hb dX0_insert_60 rfl ?_
    refine x_get (pc := 61) (ci := 0) (T := TX0) (v := .int t_size) C S 0 rfl rfl inlX0 5 (by decide) rfl qf_0_34 rfl dX0_insert_61 ?_
    refine lv_iconst (pc := 64) hx hb dX0_insert_64 ic_1 ?_
    refine lv_iadd (pc := 65) hx hb dX0_insert_65 ?_
    refine x_put (pc := 66) (ci := 0) (T := TX0) (ws' := (w_X0_insert G a_t a_t_row a_t_comes a_t_begins a_t_slacks t_round (t_size + (1 : Int32)) t_back t_loads t_miles t_waits t_lateAt t_later (upd t_row x1.toNatClampNeg x2))) C S tyX0 tyX0_ok nmX0 0 rfl rfl inlX0 5 (by decide) rfl qf_0_34 rfl rfl rfl rfl (Nat.le_of_ble_eq_true rfl) rfl dX0_insert_66 (fun H locs S => ?_)
    cases hf
    exact x_vret (pc := 69) C S dX0_insert_69
  · have hf := ifn c1 hf
    refine lv_aload_n (pc := 32) hx hb dX0_insert_32 rfl (lv_at hl 0 rfl) ?_
    refine x_get (pc := 33) (ci := 0) (T := TX0) (v := .ref a_t_row) C S 0 rfl rfl inlX0 0 (by decide) rfl qf_0_9 rfl dX0_insert_33 ?_
    refine lv_iload_n (pc := 36) hx hb dX0_insert_36 rfl (lv_at hl 3 rfl) ?_
    refine lv_aload_n (pc := 37) hx hb dX0_insert_37 rfl (lv_at hl 0 rfl) ?_
    refine x_get (pc := 38) (ci := 0) (T := TX0) (v := .ref a_t_row) C S 0 rfl rfl inlX0 0 (by decide) rfl qf_0_9 rfl dX0_insert_38 ?_
    refine lv_iload_n (pc := 41) hx hb dX0_insert_41 rfl (lv_at hl 3 rfl) ?_
    refine lv_iconst (pc := 42) hx hb dX0_insert_42 ic_1 ?_
    refine lv_isub (pc := 43) hx hb dX0_insert_43 ?_
    obtain ⟨hv3, hf⟩ := gI_e hf
    refine x_iald (pc := 44) C S 1 rfl hv3 dX0_insert_44 ?_
    obtain ⟨hv4, hf⟩ := gI_e hf
    refine x_iast (pc := 45) (ws' := (w_X0_insert G a_t a_t_row a_t_comes a_t_begins a_t_slacks t_round t_size t_back t_loads t_miles t_waits t_lateAt t_later (upd t_row x3.toNatClampNeg (t_row (x3 - (1 : Int32)).toNatClampNeg)))) C S 1 rfl hv4 rfl dX0_insert_45 (fun H locs S => ?_)
    refine lv_iinc (pc := 46) (v := (x3 + (-1 : Int32))) (lv' := [(3, .int (x3 + (-1 : Int32))), (0, .ref a_t), (1, .int x1), (2, .int x2)]) hx hb dX0_insert_46 hl (k := 3) rfl (congrArg (fun z => x3 + z) ic_m1) (by decide) rfl (fun ls hl => ?_)
    refine lv_goto (tgt := 27) (pc := 49) hx hb dX0_insert_49 (by decide) ?_
    exact hk27 ((x3 + (-1 : Int32))) ((upd t_row x3.toNatClampNeg (t_row (x3 - (1 : Int32)).toNatClampNeg)))  hf S (lv_sub hl [1, 2, 3, 0] rfl)
set_option maxRecDepth 100000 in
set_option maxHeartbeats 4000000 in
theorem h_X0_insert_27 (C : Cx p s m args meth c cX0_insert none 4 RX0 G A) (t_round : Int32) (t_size : Int32) (t_back : Int32) (t_loads : Int32) (t_miles : Int32) (t_waits : Int32) (t_lateAt : Int32) (t_later : Int32) (x1 : Int32) (x2 : Int32) : ∀ (n : Nat) (x3 : Int32) (t_row : Nat → Int32) {H : Heap} {locs : List Loc} {ls : Array Slot} (hf : lp (fun k x => b_X0_insert_27 x1 x2 t_size k x.1 x.2) n (x3, t_row) = some (z_t_row, z_t_size)) (S : St G A s.heap H locs (w_X0_insert G a_t a_t_row a_t_comes a_t_begins a_t_slacks t_round t_size t_back t_loads t_miles t_waits t_lateAt t_later t_row)) (hl : lv_has ls 4 [(0, .ref a_t), (1, .int x1), (2, .int x2), (3, .int x3)]), W p l e rm_X0_insert s m args below meth c H locs 0 0 (QV G below args s A (w_X0_insert G a_t a_t_row a_t_comes a_t_begins a_t_slacks t_round z_t_size t_back t_loads t_miles t_waits t_lateAt t_later z_t_row)) (F0 m 27 ls []) := by
  intro n
  induction n with
  | zero =>
    intro x3 t_row  H locs ls hf
    cases hf
  | succ n ih =>
    intro x3 t_row  H locs ls hf S hl
    have hf : b_X0_insert_27 x1 x2 t_size (lp (fun k x => b_X0_insert_27 x1 x2 t_size k x.1 x.2) n) x3 t_row = some (z_t_row, z_t_size) := hf
    exact k_X0_insert_27 C t_round t_size t_back t_loads t_miles t_waits t_lateAt t_later t_row x1 x2 x3  (lp (fun k x => b_X0_insert_27 x1 x2 t_size k x.1 x.2) n) (fun x3' t_row'  h S hl => ih x3' t_row'  h S hl) hf S hl
set_option maxRecDepth 100000 in
set_option maxHeartbeats 4000000 in
theorem c_X0_insert (l : Launch) (G : GE) (a_t a_t_row a_t_comes a_t_begins a_t_slacks : Nat) (t_round : Int32) (t_size : Int32) (t_back : Int32) (t_loads : Int32) (t_miles : Int32) (t_waits : Int32) (t_lateAt : Int32) (t_later : Int32) (t_row : Nat → Int32) (x1 : Int32) (x2 : Int32) (z_t_row : Nat → Int32) (z_t_size : Int32) (hf : f_X0_insert t_row t_size x1 x2 = some (z_t_row, z_t_size)) : CV l G yX0_insert kw_X0_insert rm_X0_insert [.ref a_t, .int x1, .int x2] (w_X0_insert G a_t a_t_row a_t_comes a_t_begins a_t_slacks t_round t_size t_back t_loads t_miles t_waits t_lateAt t_later t_row) (w_X0_insert G a_t a_t_row a_t_comes a_t_begins a_t_slacks t_round z_t_size t_back t_loads t_miles t_waits t_lateAt t_later z_t_row) := by
  refine en_V (cc := cX0_insert) (maxL := 4) (ret := none) (by decide +kernel) (Nat.le_of_ble_eq_true rfl) ?_
  intro p e s m args below meth c A ls C S hl
  have hl : lv_has ls 4 [(0, .ref a_t), (1, .int x1), (2, .int x2)] := hl
  have C : Cx p s m args meth c cX0_insert none 4 RX0 G A := C
  unfold f_X0_insert at hf
  have hx := C.1
  have hb := C.2.1
  have hown := C.2.2.2.2.1
  have hts := C.2.2.2.2.2.1
  have hN := C.2.2.2.2.2.2.2.2.2.2
  refine lv_iload_n (pc := 0) hx hb dX0_insert_0 rfl (lv_at hl 1 rfl) ?_
  refine lv_if_lt (tgt := 21) (pc := 1) hx hb dX0_insert_1 (by decide) (fun c1 => ?_) (fun c1 => ?_)
  · have hf := ifp c1 hf
    cases hf
    exact x_vret (pc := 21) C S dX0_insert_21
  · have hf := ifn c1 hf
    refine lv_iload_n (pc := 4) hx hb dX0_insert_4 rfl (lv_at hl 1 rfl) ?_
    refine lv_aload_n (pc := 5) hx hb dX0_insert_5 rfl (lv_at hl 0 rfl) ?_
    refine x_get (pc := 6) (ci := 0) (T := TX0) (v := .int t_size) C S 0 rfl rfl inlX0 5 (by decide) rfl qf_0_34 rfl dX0_insert_6 ?_
    refine lv_icmp_gt (tgt := 21) (pc := 9) hx hb dX0_insert_9 (by decide) (fun c2 => ?_) (fun c2 => ?_)
    · have hf := ifp c2 hf
      cases hf
      exact x_vret (pc := 21) C S dX0_insert_21
    · have hf := ifn c2 hf
      refine lv_aload_n (pc := 12) hx hb dX0_insert_12 rfl (lv_at hl 0 rfl) ?_
      refine x_get (pc := 13) (ci := 0) (T := TX0) (v := .int t_size) C S 0 rfl rfl inlX0 5 (by decide) rfl qf_0_34 rfl dX0_insert_13 ?_
      refine lv_bipush (pc := 16) hx hb dX0_insert_16 bc_16 ?_
      refine lv_icmp_lt (tgt := 22) (pc := 18) hx hb dX0_insert_18 (by decide) (fun c3 => ?_) (fun c3 => ?_)
      · have hf := ifp c3 hf
        refine lv_aload_n (pc := 22) hx hb dX0_insert_22 rfl (lv_at hl 0 rfl) ?_
        refine x_get (pc := 23) (ci := 0) (T := TX0) (v := .int t_size) C S 0 rfl rfl inlX0 5 (by decide) rfl qf_0_34 rfl dX0_insert_23 ?_
        refine lv_istore_n (pc := 26) (lv' := [(3, .int t_size), (0, .ref a_t), (1, .int x1), (2, .int x2)]) hx hb dX0_insert_26 rfl hl (by decide) rfl (fun ls hl => ?_)
        exact h_X0_insert_27 C (t_round) (t_size) (t_back) (t_loads) (t_miles) (t_waits) (t_lateAt) (t_later) (x1) (x2) fu (t_size) (t_row) hf S (lv_sub hl [1, 2, 3, 0] rfl)
      · have hf := ifn c3 hf
        cases hf
        exact x_vret (pc := 21) C S dX0_insert_21
end

abbrev rm_X3_leftAt : Room := { frames := 0, cells := 0, slots := 0, locals := 0 }
abbrev kw_X3_leftAt : Cond := .code yX3_leftAt cX3_leftAt 2 (some .int)
abbrev w_X3_leftAt (G : GE) (a_t a_t_left a_t_right : Nat) (t_size : Int32) (t_left : Nat → Int32) : va_W := [(a_t, ob 3 [.ref a_t_left, .ref a_t_right, .int t_size]), (a_t_left, aI G 8 t_left)]
section
variable {p : Program} {l : Launch} {e : Env} {s : State} {m : MethodId} {args : Array Value} {below : List Frame} {meth : Method} {c : Code} {A : Nat → Prop} {G : GE} {a_t a_t_left a_t_right : Nat} {r : Int32}
set_option maxRecDepth 100000 in
set_option maxHeartbeats 4000000 in
theorem c_X3_leftAt (l : Launch) (G : GE) (a_t a_t_left a_t_right : Nat) (t_size : Int32) (t_left : Nat → Int32) (x1 : Int32) (r : Int32) (hf : f_X3_leftAt t_left x1 = some r) : CI l G yX3_leftAt kw_X3_leftAt rm_X3_leftAt [.ref a_t, .int x1] (w_X3_leftAt G a_t a_t_left a_t_right t_size t_left) r (w_X3_leftAt G a_t a_t_left a_t_right t_size t_left) := by
  refine en_I (cc := cX3_leftAt) (maxL := 2) (ret := (some .int)) (by decide +kernel) (Nat.le_of_ble_eq_true rfl) ?_
  intro p e s m args below meth c A ls C S hl
  have hl : lv_has ls 2 [(0, .ref a_t), (1, .int x1)] := hl
  have C : Cx p s m args meth c cX3_leftAt (some .int) 2 RX3 G A := C
  unfold f_X3_leftAt at hf
  have hx := C.1
  have hb := C.2.1
  have hown := C.2.2.2.2.1
  have hts := C.2.2.2.2.2.1
  have hN := C.2.2.2.2.2.2.2.2.2.2
  refine lv_iload_n (pc := 0) hx hb dX3_leftAt_0 rfl (lv_at hl 1 rfl) ?_
  refine lv_if_lt (tgt := 22) (pc := 1) hx hb dX3_leftAt_1 (by decide) (fun c1 => ?_) (fun c1 => ?_)
  · have hf := ifp c1 hf
    refine lv_bipush (pc := 22) hx hb dX3_leftAt_22 bc_m5 ?_
    cases hf
    exact x_iret (pc := 24) C S dX3_leftAt_24
  · have hf := ifn c1 hf
    refine lv_iload_n (pc := 4) hx hb dX3_leftAt_4 rfl (lv_at hl 1 rfl) ?_
    refine lv_aload_n (pc := 5) hx hb dX3_leftAt_5 rfl (lv_at hl 0 rfl) ?_
    refine x_get (pc := 6) (ci := 3) (T := TX3) (v := .ref a_t_left) C S 0 rfl rfl inlX3 0 (by decide) rfl qf_3_9 rfl dX3_leftAt_6 ?_
    refine x_lenI (pc := 9) C S 1 rfl nc_8 dX3_leftAt_9 ?_
    refine lv_icmp_ge (tgt := 22) (pc := 10) hx hb dX3_leftAt_10 (by decide) (fun c2 => ?_) (fun c2 => ?_)
    · have hf := ifp c2 hf
      refine lv_bipush (pc := 22) hx hb dX3_leftAt_22 bc_m5 ?_
      cases hf
      exact x_iret (pc := 24) C S dX3_leftAt_24
    · have hf := ifn c2 hf
      refine lv_aload_n (pc := 13) hx hb dX3_leftAt_13 rfl (lv_at hl 0 rfl) ?_
      refine x_get (pc := 14) (ci := 3) (T := TX3) (v := .ref a_t_left) C S 0 rfl rfl inlX3 0 (by decide) rfl qf_3_9 rfl dX3_leftAt_14 ?_
      refine lv_iload_n (pc := 17) hx hb dX3_leftAt_17 rfl (lv_at hl 1 rfl) ?_
      obtain ⟨hv3, hf⟩ := gI_e hf
      refine x_iald (pc := 18) C S 1 rfl hv3 dX3_leftAt_18 ?_
      refine lv_goto (tgt := 24) (pc := 19) hx hb dX3_leftAt_19 (by decide) ?_
      cases hf
      exact x_iret (pc := 24) C S dX3_leftAt_24
end

abbrev rm_X3_rightAt : Room := { frames := 0, cells := 0, slots := 0, locals := 0 }
abbrev kw_X3_rightAt : Cond := .code yX3_rightAt cX3_rightAt 2 (some .int)
abbrev w_X3_rightAt (G : GE) (a_t a_t_left a_t_right : Nat) (t_size : Int32) (t_right : Nat → Int32) : va_W := [(a_t, ob 3 [.ref a_t_left, .ref a_t_right, .int t_size]), (a_t_right, aI G 8 t_right)]
section
variable {p : Program} {l : Launch} {e : Env} {s : State} {m : MethodId} {args : Array Value} {below : List Frame} {meth : Method} {c : Code} {A : Nat → Prop} {G : GE} {a_t a_t_left a_t_right : Nat} {r : Int32}
set_option maxRecDepth 100000 in
set_option maxHeartbeats 4000000 in
theorem c_X3_rightAt (l : Launch) (G : GE) (a_t a_t_left a_t_right : Nat) (t_size : Int32) (t_right : Nat → Int32) (x1 : Int32) (r : Int32) (hf : f_X3_rightAt t_right x1 = some r) : CI l G yX3_rightAt kw_X3_rightAt rm_X3_rightAt [.ref a_t, .int x1] (w_X3_rightAt G a_t a_t_left a_t_right t_size t_right) r (w_X3_rightAt G a_t a_t_left a_t_right t_size t_right) := by
  refine en_I (cc := cX3_rightAt) (maxL := 2) (ret := (some .int)) (by decide +kernel) (Nat.le_of_ble_eq_true rfl) ?_
  intro p e s m args below meth c A ls C S hl
  have hl : lv_has ls 2 [(0, .ref a_t), (1, .int x1)] := hl
  have C : Cx p s m args meth c cX3_rightAt (some .int) 2 RX3 G A := C
  unfold f_X3_rightAt at hf
  have hx := C.1
  have hb := C.2.1
  have hown := C.2.2.2.2.1
  have hts := C.2.2.2.2.2.1
  have hN := C.2.2.2.2.2.2.2.2.2.2
  refine lv_iload_n (pc := 0) hx hb dX3_rightAt_0 rfl (lv_at hl 1 rfl) ?_
  refine lv_if_lt (tgt := 22) (pc := 1) hx hb dX3_rightAt_1 (by decide) (fun c1 => ?_) (fun c1 => ?_)
  · have hf := ifp c1 hf
    refine lv_bipush (pc := 22) hx hb dX3_rightAt_22 bc_m5 ?_
    cases hf
    exact x_iret (pc := 24) C S dX3_rightAt_24
  · have hf := ifn c1 hf
    refine lv_iload_n (pc := 4) hx hb dX3_rightAt_4 rfl (lv_at hl 1 rfl) ?_
    refine lv_aload_n (pc := 5) hx hb dX3_rightAt_5 rfl (lv_at hl 0 rfl) ?_
    refine x_get (pc := 6) (ci := 3) (T := TX3) (v := .ref a_t_right) C S 0 rfl rfl inlX3 1 (by decide) rfl qf_3_15 rfl dX3_rightAt_6 ?_
    refine x_lenI (pc := 9) C S 1 rfl nc_8 dX3_rightAt_9 ?_
    refine lv_icmp_ge (tgt := 22) (pc := 10) hx hb dX3_rightAt_10 (by decide) (fun c2 => ?_) (fun c2 => ?_)
    · have hf := ifp c2 hf
      refine lv_bipush (pc := 22) hx hb dX3_rightAt_22 bc_m5 ?_
      cases hf
      exact x_iret (pc := 24) C S dX3_rightAt_24
    · have hf := ifn c2 hf
      refine lv_aload_n (pc := 13) hx hb dX3_rightAt_13 rfl (lv_at hl 0 rfl) ?_
      refine x_get (pc := 14) (ci := 3) (T := TX3) (v := .ref a_t_right) C S 0 rfl rfl inlX3 1 (by decide) rfl qf_3_15 rfl dX3_rightAt_14 ?_
      refine lv_iload_n (pc := 17) hx hb dX3_rightAt_17 rfl (lv_at hl 1 rfl) ?_
      obtain ⟨hv3, hf⟩ := gI_e hf
      refine x_iald (pc := 18) C S 1 rfl hv3 dX3_rightAt_18 ?_
      refine lv_goto (tgt := 24) (pc := 19) hx hb dX3_rightAt_19 (by decide) ?_
      cases hf
      exact x_iret (pc := 24) C S dX3_rightAt_24
end

abbrev rm_X0_isAsSeen : Room := { frames := 1, cells := 0, slots := 0, locals := 21 }
abbrev kw_X0_isAsSeen : Cond := .code yX0_isAsSeen cX0_isAsSeen 4 (some .boolean)
abbrev w_X0_isAsSeen (G : GE) (a_t a_t_row a_t_comes a_t_begins a_t_slacks a_p1 a_p1_left a_p1_right : Nat) (t_round : Int32) (t_size : Int32) (t_back : Int32) (t_loads : Int32) (t_miles : Int32) (t_waits : Int32) (t_lateAt : Int32) (t_later : Int32) (t_row : Nat → Int32) (t_begins : Nat → Int32) (p1_size : Int32) (p1_left : Nat → Int32) (p1_right : Nat → Int32) : va_W := [(a_t, ob 0 [.ref a_t_row, .ref a_t_comes, .ref a_t_begins, .ref a_t_slacks, .int t_round, .int t_size, .int t_back, .int t_loads, .int t_miles, .int t_waits, .int t_lateAt, .int t_later]), (a_t_row, aI G 16 t_row), (a_t_begins, aI G 16 t_begins), (a_p1, ob 3 [.ref a_p1_left, .ref a_p1_right, .int p1_size]), (a_p1_left, aI G 8 p1_left), (a_p1_right, aI G 8 p1_right)]
theorem u_X0_isAsSeen_X3_leftAt_89 {s : State} {args : Array Value} (hts : ∀ w ∈ WU, w.before args s = true) : CallW rm_X0_isAsSeen s args RX0 RX3 89 yX3_leftAt cX3_leftAt 2 (some .int) (kw_X3_leftAt :: WU) rm_X3_leftAt 0 0 1 := cwV 1 hts (gV qm_0_89 qi_X3_leftAt ql_X3_leftAt qn_3 qc_X3_leftAt) rfl rfl rfl (by decide +kernel) ⟨Nat.le_of_ble_eq_true rfl, Nat.le_of_ble_eq_true rfl⟩
theorem u_X0_isAsSeen_X3_rightAt_92 {s : State} {args : Array Value} (hts : ∀ w ∈ WU, w.before args s = true) : CallW rm_X0_isAsSeen s args RX0 RX3 92 yX3_rightAt cX3_rightAt 2 (some .int) (kw_X3_rightAt :: WU) rm_X3_rightAt 0 0 1 := cwV 1 hts (gV qm_0_92 qi_X3_rightAt ql_X3_rightAt qn_3 qc_X3_rightAt) rfl rfl rfl (by decide +kernel) ⟨Nat.le_of_ble_eq_true rfl, Nat.le_of_ble_eq_true rfl⟩
section
variable {p : Program} {l : Launch} {e : Env} {s : State} {m : MethodId} {args : Array Value} {below : List Frame} {meth : Method} {c : Code} {A : Nat → Prop} {G : GE} {a_t a_t_row a_t_comes a_t_begins a_t_slacks a_p1 a_p1_left a_p1_right : Nat} {r : Int32}
set_option maxRecDepth 100000 in
set_option maxHeartbeats 4000000 in
theorem k_X0_isAsSeen_12 (C : Cx p s m args meth c cX0_isAsSeen (some .boolean) 4 RX0 G A) (t_round : Int32) (t_size : Int32) (t_back : Int32) (t_loads : Int32) (t_miles : Int32) (t_waits : Int32) (t_lateAt : Int32) (t_later : Int32) (t_row : Nat → Int32) (t_begins : Nat → Int32) (p1_size : Int32) (p1_left : Nat → Int32) (p1_right : Nat → Int32) (x2 : Int32) (x3 : Int32) (k2 : Int32 → Option (Int32)) (hk2 : ∀ {H : Heap} {locs : List Loc} {ls : Array Slot} (x2' : Int32), k2 x2' = some r → St G A s.heap H locs (w_X0_isAsSeen G a_t a_t_row a_t_comes a_t_begins a_t_slacks a_p1 a_p1_left a_p1_right t_round t_size t_back t_loads t_miles t_waits t_lateAt t_later t_row t_begins p1_size p1_left p1_right) → lv_has ls 4 [(0, .ref a_t), (1, .ref a_p1), (2, .int x2')] → W p l e rm_X0_isAsSeen s m args below meth c H locs 0 0 (QI G below args s A r (w_X0_isAsSeen G a_t a_t_row a_t_comes a_t_begins a_t_slacks a_p1 a_p1_left a_p1_right t_round t_size t_back t_loads t_miles t_waits t_lateAt t_later t_row t_begins p1_size p1_left p1_right)) (F0 m 2 ls [])) (k12 : Int32 → Option (Int32)) (hk12 : ∀ {H : Heap} {locs : List Loc} {ls : Array Slot} (x3' : Int32), k12 x3' = some r → St G A s.heap H locs (w_X0_isAsSeen G a_t a_t_row a_t_comes a_t_begins a_t_slacks a_p1 a_p1_left a_p1_right t_round t_size t_back t_loads t_miles t_waits t_lateAt t_later t_row t_begins p1_size p1_left p1_right) → lv_has ls 4 [(0, .ref a_t), (1, .ref a_p1), (2, .int x2), (3, .int x3')] → W p l e rm_X0_isAsSeen s m args below meth c H locs 0 0 (QI G below args s A r (w_X0_isAsSeen G a_t a_t_row a_t_comes a_t_begins a_t_slacks a_p1 a_p1_left a_p1_right t_round t_size t_back t_loads t_miles t_waits t_lateAt t_later t_row t_begins p1_size p1_left p1_right)) (F0 m 12 ls [])) {H : Heap} {locs : List Loc} {ls : Array Slot} (hf : b_X0_isAsSeen_12 k2 x2 t_row t_begins t_size p1_left p1_right p1_size k12 x3 = some r) (S : St G A s.heap H locs (w_X0_isAsSeen G a_t a_t_row a_t_comes a_t_begins a_t_slacks a_p1 a_p1_left a_p1_right t_round t_size t_back t_loads t_miles t_waits t_lateAt t_later t_row t_begins p1_size p1_left p1_right)) (hl : lv_has ls 4 [(0, .ref a_t), (1, .ref a_p1), (2, .int x2), (3, .int x3)]) : W p l e rm_X0_isAsSeen s m args below meth c H locs 0 0 (QI G below args s A r (w_X0_isAsSeen G a_t a_t_row a_t_comes a_t_begins a_t_slacks a_p1 a_p1_left a_p1_right t_round t_size t_back t_loads t_miles t_waits t_lateAt t_later t_row t_begins p1_size p1_left p1_right)) (F0 m 12 ls []) := by
  unfold b_X0_isAsSeen_12 at hf
  have hx := C.1
  have hb := C.2.1
  have hown := C.2.2.2.2.1
  have hts := C.2.2.2.2.2.1
  have hN := C.2.2.2.2.2.2.2.2.2.2
  refine lv_iload_n (pc := 12) hx hb dX0_isAsSeen_12 rfl (lv_at hl 3 rfl) ?_
  refine lv_aload_n (pc := 13) hx hb dX0_isAsSeen_13 rfl (lv_at hl 0 rfl) ?_
  refine x_get (pc := 14) (ci := 0) (T := TX0) (v := .int t_size) C S 0 rfl rfl inlX0 5 (by decide) rfl qf_0_34 rfl dX0_isAsSeen_14 ?_
  refine lv_icmp_ge (tgt := 62) (pc := 17) hx hb dX0_isAsSeen_17 (by decide) (fun c1 => ?_) (fun c1 => ?_)
  · have hf := ifp c1 hf
    refine lv_iinc (pc := 62) (v := (x2 + (1 : Int32))) (lv' := [(2, .int (x2 + (1 : Int32))), (0, .ref a_t), (1, .ref a_p1), (3, .int x3)]) hx hb dX0_isAsSeen_62 hl (k := 2) rfl (congrArg (fun z => x2 + z) ic_1) (by decide) rfl (fun ls hl => ?_)
    refine lv_goto (tgt := 2) (pc := 65) hx hb dX0_isAsSeen_65 (by decide) ?_
    exact hk2 ((x2 + (1 : Int32)))  hf S (lv_sub hl [1, 2, 0] rfl)
  · have hf := ifn c1 hf
    refine lv_iload_n (pc := 20) hx hb dX0_isAsSeen_20 rfl (lv_at hl 3 rfl) ?_
    refine lv_bipush (pc := 21) hx hb dX0_isAsSeen_21 bc_16 ?_
    refine lv_icmp_ge (tgt := 62) (pc := 23) hx hb dX0_isAsSeen_23 (by decide) (fun c2 => ?_) (fun c2 => ?_)
    · have hf := ifp c2 hf
      refine lv_iinc (pc := 62) (v := (x2 + (1 : Int32))) (lv' := [(2, .int (x2 + (1 : Int32))), (0, .ref a_t), (1, .ref a_p1), (3, .int x3)]) hx hb dX0_isAsSeen_62 hl (k := 2) rfl (congrArg (fun z => x2 + z) ic_1) (by decide) rfl (fun ls hl => ?_)
      refine lv_goto (tgt := 2) (pc := 65) hx hb dX0_isAsSeen_65 (by decide) ?_
      exact hk2 ((x2 + (1 : Int32)))  hf S (lv_sub hl [1, 2, 0] rfl)
    · have hf := ifn c2 hf
      refine lv_aload_n (pc := 26) hx hb dX0_isAsSeen_26 rfl (lv_at hl 0 rfl) ?_
      refine x_get (pc := 27) (ci := 0) (T := TX0) (v := .ref a_t_row) C S 0 rfl rfl inlX0 0 (by decide) rfl qf_0_9 rfl dX0_isAsSeen_27 ?_
      refine lv_iload_n (pc := 30) hx hb dX0_isAsSeen_30 rfl (lv_at hl 3 rfl) ?_
      obtain ⟨hv3, hf⟩ := gI_e hf
      refine x_iald (pc := 31) C S 1 rfl hv3 dX0_isAsSeen_31 ?_
      refine lv_aload_n (pc := 32) hx hb dX0_isAsSeen_32 rfl (lv_at hl 1 rfl) ?_
      refine lv_iload_n (pc := 33) hx hb dX0_isAsSeen_33 rfl (lv_at hl 2 rfl) ?_
      obtain ⟨r4, hq4, hf⟩ := bd_e hf
      refine x_vI (pc := 34) (As := [.int x2]) (rest := [.int (t_row x3.toNatClampNeg)]) (isC := [3, 4]) (ws' := (w_X0_isAsSeen G a_t a_t_row a_t_comes a_t_begins a_t_slacks a_p1 a_p1_left a_p1_right t_round t_size t_back t_loads t_miles t_waits t_lateAt t_later t_row t_begins p1_size p1_left p1_right)) C S (c_X3_leftAt l G a_p1 a_p1_left a_p1_right p1_size p1_left x2 r4 hq4) (u_X0_isAsSeen_X3_leftAt_89 hts) (ci := 3) rfl 3 rfl rfl (by decide +kernel) [none, none, none, some 0, some 1, none] (by decide +kernel) rfl rfl rfl hl.1 rfl (Nat.le_of_ble_eq_true rfl) dX0_isAsSeen_34 (fun H locs S => ?_)
      refine lv_icmp_ne (tgt := 56) (pc := 37) hx hb dX0_isAsSeen_37 (by decide) (fun c5 => ?_) (fun c5 => ?_)
      · have hf := ifn c5 hf
        refine lv_iinc (pc := 56) (v := (x3 + (1 : Int32))) (lv' := [(3, .int (x3 + (1 : Int32))), (0, .ref a_t), (1, .ref a_p1), (2, .int x2)]) hx hb dX0_isAsSeen_56 hl (k := 3) rfl (congrArg (fun z => x3 + z) ic_1) (by decide) rfl (fun ls hl => ?_)
        refine lv_goto (tgt := 12) (pc := 59) hx hb dX0_isAsSeen_59 (by decide) ?_
        exact hk12 ((x3 + (1 : Int32)))  hf S (lv_sub hl [1, 2, 3, 0] rfl)
      · have hf := ifp c5 hf
        refine lv_aload_n (pc := 40) hx hb dX0_isAsSeen_40 rfl (lv_at hl 0 rfl) ?_
        refine x_get (pc := 41) (ci := 0) (T := TX0) (v := .ref a_t_begins) C S 0 rfl rfl inlX0 2 (by decide) rfl qf_0_18 rfl dX0_isAsSeen_41 ?_
        refine lv_iload_n (pc := 44) hx hb dX0_isAsSeen_44 rfl (lv_at hl 3 rfl) ?_
        refine x_iald (pc := 45) C S 2 rfl hv3 dX0_isAsSeen_45 ?_
        refine lv_aload_n (pc := 46) hx hb dX0_isAsSeen_46 rfl (lv_at hl 1 rfl) ?_
        refine lv_iload_n (pc := 47) hx hb dX0_isAsSeen_47 rfl (lv_at hl 2 rfl) ?_
        obtain ⟨r6, hq6, hf⟩ := bd_e hf
        refine x_vI (pc := 48) (As := [.int x2]) (rest := [.int (t_begins x3.toNatClampNeg)]) (isC := [3, 5]) (ws' := (w_X0_isAsSeen G a_t a_t_row a_t_comes a_t_begins a_t_slacks a_p1 a_p1_left a_p1_right t_round t_size t_back t_loads t_miles t_waits t_lateAt t_later t_row t_begins p1_size p1_left p1_right)) C S (c_X3_rightAt l G a_p1 a_p1_left a_p1_right p1_size p1_right x2 r6 hq6) (u_X0_isAsSeen_X3_rightAt_92 hts) (ci := 3) rfl 3 rfl rfl (by decide +kernel) [none, none, none, some 0, none, some 1] (by decide +kernel) rfl rfl rfl hl.1 rfl (Nat.le_of_ble_eq_true rfl) dX0_isAsSeen_48 (fun H locs S => ?_)
        refine lv_icmp_eq (tgt := 56) (pc := 51) hx hb dX0_isAsSeen_51 (by decide) (fun c7 => ?_) (fun c7 => ?_)
        · have hf := ifp c7 hf
          refine lv_iinc (pc := 56) (v := (x3 + (1 : Int32))) (lv' := [(3, .int (x3 + (1 : Int32))), (0, .ref a_t), (1, .ref a_p1), (2, .int x2)]) hx hb dX0_isAsSeen_56 hl (k := 3) rfl (congrArg (fun z => x3 + z) ic_1) (by decide) rfl (fun ls hl => ?_)
          refine lv_goto (tgt := 12) (pc := 59) hx hb dX0_isAsSeen_59 (by decide) ?_
          exact hk12 ((x3 + (1 : Int32)))  hf S (lv_sub hl [1, 2, 3, 0] rfl)
        · have hf := ifn c7 hf
          refine lv_iconst (pc := 54) hx hb dX0_isAsSeen_54 ic_0 ?_
          cases hf
          exact x_zret (pc := 55) (by decide) C S dX0_isAsSeen_55
set_option maxRecDepth 100000 in
set_option maxHeartbeats 4000000 in
theorem h_X0_isAsSeen_12 (C : Cx p s m args meth c cX0_isAsSeen (some .boolean) 4 RX0 G A) (t_round : Int32) (t_size : Int32) (t_back : Int32) (t_loads : Int32) (t_miles : Int32) (t_waits : Int32) (t_lateAt : Int32) (t_later : Int32) (t_row : Nat → Int32) (t_begins : Nat → Int32) (p1_size : Int32) (p1_left : Nat → Int32) (p1_right : Nat → Int32) (x2 : Int32) (k2 : Int32 → Option (Int32)) (hk2 : ∀ {H : Heap} {locs : List Loc} {ls : Array Slot} (x2' : Int32), k2 x2' = some r → St G A s.heap H locs (w_X0_isAsSeen G a_t a_t_row a_t_comes a_t_begins a_t_slacks a_p1 a_p1_left a_p1_right t_round t_size t_back t_loads t_miles t_waits t_lateAt t_later t_row t_begins p1_size p1_left p1_right) → lv_has ls 4 [(0, .ref a_t), (1, .ref a_p1), (2, .int x2')] → W p l e rm_X0_isAsSeen s m args below meth c H locs 0 0 (QI G below args s A r (w_X0_isAsSeen G a_t a_t_row a_t_comes a_t_begins a_t_slacks a_p1 a_p1_left a_p1_right t_round t_size t_back t_loads t_miles t_waits t_lateAt t_later t_row t_begins p1_size p1_left p1_right)) (F0 m 2 ls [])) : ∀ (n : Nat) (x3 : Int32) {H : Heap} {locs : List Loc} {ls : Array Slot} (hf : lp (fun k x => b_X0_isAsSeen_12 k2 x2 t_row t_begins t_size p1_left p1_right p1_size k x) n x3 = some r) (S : St G A s.heap H locs (w_X0_isAsSeen G a_t a_t_row a_t_comes a_t_begins a_t_slacks a_p1 a_p1_left a_p1_right t_round t_size t_back t_loads t_miles t_waits t_lateAt t_later t_row t_begins p1_size p1_left p1_right)) (hl : lv_has ls 4 [(0, .ref a_t), (1, .ref a_p1), (2, .int x2), (3, .int x3)]), W p l e rm_X0_isAsSeen s m args below meth c H locs 0 0 (QI G below args s A r (w_X0_isAsSeen G a_t a_t_row a_t_comes a_t_begins a_t_slacks a_p1 a_p1_left a_p1_right t_round t_size t_back t_loads t_miles t_waits t_lateAt t_later t_row t_begins p1_size p1_left p1_right)) (F0 m 12 ls []) := by
  intro n
  induction n with
  | zero =>
    intro x3  H locs ls hf
    cases hf
  | succ n ih =>
    intro x3  H locs ls hf S hl
    have hf : b_X0_isAsSeen_12 k2 x2 t_row t_begins t_size p1_left p1_right p1_size (lp (fun k x => b_X0_isAsSeen_12 k2 x2 t_row t_begins t_size p1_left p1_right p1_size k x) n) x3 = some r := hf
    exact k_X0_isAsSeen_12 C t_round t_size t_back t_loads t_miles t_waits t_lateAt t_later t_row t_begins p1_size p1_left p1_right x2 x3  k2 hk2 (lp (fun k x => b_X0_isAsSeen_12 k2 x2 t_row t_begins t_size p1_left p1_right p1_size k x) n) (fun x3'  h S hl => ih x3'  h S hl) hf S hl
set_option maxRecDepth 100000 in
set_option maxHeartbeats 4000000 in
theorem k_X0_isAsSeen_2 (C : Cx p s m args meth c cX0_isAsSeen (some .boolean) 4 RX0 G A) (t_round : Int32) (t_size : Int32) (t_back : Int32) (t_loads : Int32) (t_miles : Int32) (t_waits : Int32) (t_lateAt : Int32) (t_later : Int32) (t_row : Nat → Int32) (t_begins : Nat → Int32) (p1_size : Int32) (p1_left : Nat → Int32) (p1_right : Nat → Int32) (x2 : Int32) (k2 : Int32 → Option (Int32)) (hk2 : ∀ {H : Heap} {locs : List Loc} {ls : Array Slot} (x2' : Int32), k2 x2' = some r → St G A s.heap H locs (w_X0_isAsSeen G a_t a_t_row a_t_comes a_t_begins a_t_slacks a_p1 a_p1_left a_p1_right t_round t_size t_back t_loads t_miles t_waits t_lateAt t_later t_row t_begins p1_size p1_left p1_right) → lv_has ls 4 [(0, .ref a_t), (1, .ref a_p1), (2, .int x2')] → W p l e rm_X0_isAsSeen s m args below meth c H locs 0 0 (QI G below args s A r (w_X0_isAsSeen G a_t a_t_row a_t_comes a_t_begins a_t_slacks a_p1 a_p1_left a_p1_right t_round t_size t_back t_loads t_miles t_waits t_lateAt t_later t_row t_begins p1_size p1_left p1_right)) (F0 m 2 ls [])) {H : Heap} {locs : List Loc} {ls : Array Slot} (hf : b_X0_isAsSeen_2 t_row t_begins t_size p1_left p1_right p1_size k2 x2 = some r) (S : St G A s.heap H locs (w_X0_isAsSeen G a_t a_t_row a_t_comes a_t_begins a_t_slacks a_p1 a_p1_left a_p1_right t_round t_size t_back t_loads t_miles t_waits t_lateAt t_later t_row t_begins p1_size p1_left p1_right)) (hl : lv_has ls 4 [(0, .ref a_t), (1, .ref a_p1), (2, .int x2)]) : W p l e rm_X0_isAsSeen s m args below meth c H locs 0 0 (QI G below args s A r (w_X0_isAsSeen G a_t a_t_row a_t_comes a_t_begins a_t_slacks a_p1 a_p1_left a_p1_right t_round t_size t_back t_loads t_miles t_waits t_lateAt t_later t_row t_begins p1_size p1_left p1_right)) (F0 m 2 ls []) := by
  unfold b_X0_isAsSeen_2 at hf
  have hx := C.1
  have hb := C.2.1
  have hown := C.2.2.2.2.1
  have hts := C.2.2.2.2.2.1
  have hN := C.2.2.2.2.2.2.2.2.2.2
  refine lv_iload_n (pc := 2) hx hb dX0_isAsSeen_2 rfl (lv_at hl 2 rfl) ?_
  refine lv_aload_n (pc := 3) hx hb dX0_isAsSeen_3 rfl (lv_at hl 1 rfl) ?_
  refine x_get (pc := 4) (ci := 3) (T := TX3) (v := .int p1_size) C S 3 rfl rfl inlX3 2 (by decide) rfl qf_0_86 rfl dX0_isAsSeen_4 ?_
  refine lv_icmp_ge (tgt := 68) (pc := 7) hx hb dX0_isAsSeen_7 (by decide) (fun c1 => ?_) (fun c1 => ?_)
  · have hf := ifp c1 hf
    refine lv_iconst (pc := 68) hx hb dX0_isAsSeen_68 ic_1 ?_
    cases hf
    exact x_zret (pc := 69) (by decide) C S dX0_isAsSeen_69
  · have hf := ifn c1 hf
    refine lv_iconst (pc := 10) hx hb dX0_isAsSeen_10 ic_0 ?_
    refine lv_istore_n (pc := 11) (lv' := [(3, .int (0 : Int32)), (0, .ref a_t), (1, .ref a_p1), (2, .int x2)]) hx hb dX0_isAsSeen_11 rfl hl (by decide) rfl (fun ls hl => ?_)
    exact h_X0_isAsSeen_12 C (t_round) (t_size) (t_back) (t_loads) (t_miles) (t_waits) (t_lateAt) (t_later) (t_row) (t_begins) (p1_size) (p1_left) (p1_right) (x2) k2 hk2 fu ((0 : Int32)) hf S (lv_sub hl [1, 2, 3, 0] rfl)
set_option maxRecDepth 100000 in
set_option maxHeartbeats 4000000 in
theorem h_X0_isAsSeen_2 (C : Cx p s m args meth c cX0_isAsSeen (some .boolean) 4 RX0 G A) (t_round : Int32) (t_size : Int32) (t_back : Int32) (t_loads : Int32) (t_miles : Int32) (t_waits : Int32) (t_lateAt : Int32) (t_later : Int32) (t_row : Nat → Int32) (t_begins : Nat → Int32) (p1_size : Int32) (p1_left : Nat → Int32) (p1_right : Nat → Int32) : ∀ (n : Nat) (x2 : Int32) {H : Heap} {locs : List Loc} {ls : Array Slot} (hf : lp (fun k x => b_X0_isAsSeen_2 t_row t_begins t_size p1_left p1_right p1_size k x) n x2 = some r) (S : St G A s.heap H locs (w_X0_isAsSeen G a_t a_t_row a_t_comes a_t_begins a_t_slacks a_p1 a_p1_left a_p1_right t_round t_size t_back t_loads t_miles t_waits t_lateAt t_later t_row t_begins p1_size p1_left p1_right)) (hl : lv_has ls 4 [(0, .ref a_t), (1, .ref a_p1), (2, .int x2)]), W p l e rm_X0_isAsSeen s m args below meth c H locs 0 0 (QI G below args s A r (w_X0_isAsSeen G a_t a_t_row a_t_comes a_t_begins a_t_slacks a_p1 a_p1_left a_p1_right t_round t_size t_back t_loads t_miles t_waits t_lateAt t_later t_row t_begins p1_size p1_left p1_right)) (F0 m 2 ls []) := by
  intro n
  induction n with
  | zero =>
    intro x2  H locs ls hf
    cases hf
  | succ n ih =>
    intro x2  H locs ls hf S hl
    have hf : b_X0_isAsSeen_2 t_row t_begins t_size p1_left p1_right p1_size (lp (fun k x => b_X0_isAsSeen_2 t_row t_begins t_size p1_left p1_right p1_size k x) n) x2 = some r := hf
    exact k_X0_isAsSeen_2 C t_round t_size t_back t_loads t_miles t_waits t_lateAt t_later t_row t_begins p1_size p1_left p1_right x2  (lp (fun k x => b_X0_isAsSeen_2 t_row t_begins t_size p1_left p1_right p1_size k x) n) (fun x2'  h S hl => ih x2'  h S hl) hf S hl
set_option maxRecDepth 100000 in
set_option maxHeartbeats 4000000 in
theorem c_X0_isAsSeen (l : Launch) (G : GE) (a_t a_t_row a_t_comes a_t_begins a_t_slacks a_p1 a_p1_left a_p1_right : Nat) (t_round : Int32) (t_size : Int32) (t_back : Int32) (t_loads : Int32) (t_miles : Int32) (t_waits : Int32) (t_lateAt : Int32) (t_later : Int32) (t_row : Nat → Int32) (t_begins : Nat → Int32) (p1_size : Int32) (p1_left : Nat → Int32) (p1_right : Nat → Int32) (r : Int32) (hf : f_X0_isAsSeen t_row t_begins t_size p1_left p1_right p1_size = some r) : CI l G yX0_isAsSeen kw_X0_isAsSeen rm_X0_isAsSeen [.ref a_t, .ref a_p1] (w_X0_isAsSeen G a_t a_t_row a_t_comes a_t_begins a_t_slacks a_p1 a_p1_left a_p1_right t_round t_size t_back t_loads t_miles t_waits t_lateAt t_later t_row t_begins p1_size p1_left p1_right) r (w_X0_isAsSeen G a_t a_t_row a_t_comes a_t_begins a_t_slacks a_p1 a_p1_left a_p1_right t_round t_size t_back t_loads t_miles t_waits t_lateAt t_later t_row t_begins p1_size p1_left p1_right) := by
  refine en_I (cc := cX0_isAsSeen) (maxL := 4) (ret := (some .boolean)) (by decide +kernel) (Nat.le_of_ble_eq_true rfl) ?_
  intro p e s m args below meth c A ls C S hl
  have hl : lv_has ls 4 [(0, .ref a_t), (1, .ref a_p1)] := hl
  have C : Cx p s m args meth c cX0_isAsSeen (some .boolean) 4 RX0 G A := C
  unfold f_X0_isAsSeen at hf
  have hx := C.1
  have hb := C.2.1
  have hown := C.2.2.2.2.1
  have hts := C.2.2.2.2.2.1
  have hN := C.2.2.2.2.2.2.2.2.2.2
  refine lv_iconst (pc := 0) hx hb dX0_isAsSeen_0 ic_0 ?_
  refine lv_istore_n (pc := 1) (lv' := [(2, .int (0 : Int32)), (0, .ref a_t), (1, .ref a_p1)]) hx hb dX0_isAsSeen_1 rfl hl (by decide) rfl (fun ls hl => ?_)
  exact h_X0_isAsSeen_2 C (t_round) (t_size) (t_back) (t_loads) (t_miles) (t_waits) (t_lateAt) (t_later) (t_row) (t_begins) (p1_size) (p1_left) (p1_right) fu ((0 : Int32)) hf S (lv_sub hl [1, 2, 0] rfl)
end

abbrev rm_X6_sizeOf : Room := { frames := 0, cells := 0, slots := 0, locals := 0 }
abbrev kw_X6_sizeOf : Cond := .code yX6_sizeOf cX6_sizeOf 2 (some .int)
abbrev w_X6_sizeOf (G : GE) (a_t a_t_facts a_t_roundsOf a_t_locked a_t_rules a_t_sizes a_t_rows a_t_seen a_t_plan a_t_book : Nat) (t_stopCount : Int32) (t_metric : Int32) (t_fixed : Int32) (t_sizes : Nat → Int32) : va_W := [(a_t, ob 6 [.ref a_t_facts, .ref a_t_roundsOf, .ref a_t_locked, .ref a_t_rules, .ref a_t_sizes, .ref a_t_rows, .ref a_t_seen, .ref a_t_plan, .ref a_t_book, .int t_stopCount, .int t_metric, .int t_fixed]), (a_t_sizes, aI G 4 t_sizes)]
section
variable {p : Program} {l : Launch} {e : Env} {s : State} {m : MethodId} {args : Array Value} {below : List Frame} {meth : Method} {c : Code} {A : Nat → Prop} {G : GE} {a_t a_t_facts a_t_roundsOf a_t_locked a_t_rules a_t_sizes a_t_rows a_t_seen a_t_plan a_t_book : Nat} {r : Int32}
set_option maxRecDepth 100000 in
set_option maxHeartbeats 4000000 in
theorem c_X6_sizeOf (l : Launch) (G : GE) (a_t a_t_facts a_t_roundsOf a_t_locked a_t_rules a_t_sizes a_t_rows a_t_seen a_t_plan a_t_book : Nat) (t_stopCount : Int32) (t_metric : Int32) (t_fixed : Int32) (t_sizes : Nat → Int32) (x1 : Int32) (r : Int32) (hf : f_X6_sizeOf t_sizes x1 = some r) : CI l G yX6_sizeOf kw_X6_sizeOf rm_X6_sizeOf [.ref a_t, .int x1] (w_X6_sizeOf G a_t a_t_facts a_t_roundsOf a_t_locked a_t_rules a_t_sizes a_t_rows a_t_seen a_t_plan a_t_book t_stopCount t_metric t_fixed t_sizes) r (w_X6_sizeOf G a_t a_t_facts a_t_roundsOf a_t_locked a_t_rules a_t_sizes a_t_rows a_t_seen a_t_plan a_t_book t_stopCount t_metric t_fixed t_sizes) := by
  refine en_I (cc := cX6_sizeOf) (maxL := 2) (ret := (some .int)) (by decide +kernel) (Nat.le_of_ble_eq_true rfl) ?_
  intro p e s m args below meth c A ls C S hl
  have hl : lv_has ls 2 [(0, .ref a_t), (1, .int x1)] := hl
  have C : Cx p s m args meth c cX6_sizeOf (some .int) 2 RX6 G A := C
  unfold f_X6_sizeOf at hf
  have hx := C.1
  have hb := C.2.1
  have hown := C.2.2.2.2.1
  have hts := C.2.2.2.2.2.1
  have hN := C.2.2.2.2.2.2.2.2.2.2
  refine lv_iload_n (pc := 0) hx hb dX6_sizeOf_0 rfl (lv_at hl 1 rfl) ?_
  refine lv_if_lt (tgt := 22) (pc := 1) hx hb dX6_sizeOf_1 (by decide) (fun c1 => ?_) (fun c1 => ?_)
  · have hf := ifp c1 hf
    refine lv_iconst (pc := 22) hx hb dX6_sizeOf_22 ic_0 ?_
    cases hf
    exact x_iret (pc := 23) C S dX6_sizeOf_23
  · have hf := ifn c1 hf
    refine lv_iload_n (pc := 4) hx hb dX6_sizeOf_4 rfl (lv_at hl 1 rfl) ?_
    refine lv_aload_n (pc := 5) hx hb dX6_sizeOf_5 rfl (lv_at hl 0 rfl) ?_
    refine x_get (pc := 6) (ci := 6) (T := TX6) (v := .ref a_t_sizes) C S 0 rfl rfl inlX6 4 (by decide) rfl qf_6_25 rfl dX6_sizeOf_6 ?_
    refine x_lenI (pc := 9) C S 1 rfl nc_4 dX6_sizeOf_9 ?_
    refine lv_icmp_ge (tgt := 22) (pc := 10) hx hb dX6_sizeOf_10 (by decide) (fun c2 => ?_) (fun c2 => ?_)
    · have hf := ifp c2 hf
      refine lv_iconst (pc := 22) hx hb dX6_sizeOf_22 ic_0 ?_
      cases hf
      exact x_iret (pc := 23) C S dX6_sizeOf_23
    · have hf := ifn c2 hf
      refine lv_aload_n (pc := 13) hx hb dX6_sizeOf_13 rfl (lv_at hl 0 rfl) ?_
      refine x_get (pc := 14) (ci := 6) (T := TX6) (v := .ref a_t_sizes) C S 0 rfl rfl inlX6 4 (by decide) rfl qf_6_25 rfl dX6_sizeOf_14 ?_
      refine lv_iload_n (pc := 17) hx hb dX6_sizeOf_17 rfl (lv_at hl 1 rfl) ?_
      obtain ⟨hv3, hf⟩ := gI_e hf
      refine x_iald (pc := 18) C S 1 rfl hv3 dX6_sizeOf_18 ?_
      refine lv_goto (tgt := 23) (pc := 19) hx hb dX6_sizeOf_19 (by decide) ?_
      cases hf
      exact x_iret (pc := 23) C S dX6_sizeOf_23
end

abbrev rm_X6_rowAt : Room := { frames := 1, cells := 0, slots := 0, locals := 21 }
abbrev kw_X6_rowAt : Cond := .code yX6_rowAt cX6_rowAt 4 (some .int)
abbrev w_X6_rowAt (G : GE) (a_t a_t_facts a_t_roundsOf a_t_locked a_t_rules a_t_sizes a_t_rows a_t_seen a_t_plan a_t_book : Nat) (t_stopCount : Int32) (t_metric : Int32) (t_fixed : Int32) (t_sizes : Nat → Int32) (t_rows : Nat → Int32) : va_W := [(a_t, ob 6 [.ref a_t_facts, .ref a_t_roundsOf, .ref a_t_locked, .ref a_t_rules, .ref a_t_sizes, .ref a_t_rows, .ref a_t_seen, .ref a_t_plan, .ref a_t_book, .int t_stopCount, .int t_metric, .int t_fixed]), (a_t_sizes, aI G 4 t_sizes), (a_t_rows, aI G 64 t_rows)]
theorem u_X6_rowAt_X6_sizeOf_96 {s : State} {args : Array Value} (hts : ∀ w ∈ WU, w.before args s = true) : CallW rm_X6_rowAt s args RX6 RX6 96 yX6_sizeOf cX6_sizeOf 2 (some .int) (kw_X6_sizeOf :: WU) rm_X6_sizeOf 0 0 1 := cwV 1 hts (gV qm_6_96 qi_X6_sizeOf ql_X6_sizeOf qn_6 qc_X6_sizeOf) rfl rfl rfl (by decide +kernel) ⟨Nat.le_of_ble_eq_true rfl, Nat.le_of_ble_eq_true rfl⟩
section
variable {p : Program} {l : Launch} {e : Env} {s : State} {m : MethodId} {args : Array Value} {below : List Frame} {meth : Method} {c : Code} {A : Nat → Prop} {G : GE} {a_t a_t_facts a_t_roundsOf a_t_locked a_t_rules a_t_sizes a_t_rows a_t_seen a_t_plan a_t_book : Nat} {r : Int32}
set_option maxRecDepth 100000 in
set_option maxHeartbeats 4000000 in
theorem c_X6_rowAt (l : Launch) (G : GE) (a_t a_t_facts a_t_roundsOf a_t_locked a_t_rules a_t_sizes a_t_rows a_t_seen a_t_plan a_t_book : Nat) (t_stopCount : Int32) (t_metric : Int32) (t_fixed : Int32) (t_sizes : Nat → Int32) (t_rows : Nat → Int32) (x1 : Int32) (x2 : Int32) (r : Int32) (hf : f_X6_rowAt t_sizes t_rows x1 x2 = some r) : CI l G yX6_rowAt kw_X6_rowAt rm_X6_rowAt [.ref a_t, .int x1, .int x2] (w_X6_rowAt G a_t a_t_facts a_t_roundsOf a_t_locked a_t_rules a_t_sizes a_t_rows a_t_seen a_t_plan a_t_book t_stopCount t_metric t_fixed t_sizes t_rows) r (w_X6_rowAt G a_t a_t_facts a_t_roundsOf a_t_locked a_t_rules a_t_sizes a_t_rows a_t_seen a_t_plan a_t_book t_stopCount t_metric t_fixed t_sizes t_rows) := by
  refine en_I (cc := cX6_rowAt) (maxL := 4) (ret := (some .int)) (by decide +kernel) (Nat.le_of_ble_eq_true rfl) ?_
  intro p e s m args below meth c A ls C S hl
  have hl : lv_has ls 4 [(0, .ref a_t), (1, .int x1), (2, .int x2)] := hl
  have C : Cx p s m args meth c cX6_rowAt (some .int) 4 RX6 G A := C
  unfold f_X6_rowAt at hf
  have hx := C.1
  have hb := C.2.1
  have hown := C.2.2.2.2.1
  have hts := C.2.2.2.2.2.1
  have hN := C.2.2.2.2.2.2.2.2.2.2
  refine lv_iload_n (pc := 0) hx hb dX6_rowAt_0 rfl (lv_at hl 1 rfl) ?_
  refine lv_bipush (pc := 1) hx hb dX6_rowAt_1 bc_16 ?_
  refine lv_imul (pc := 3) hx hb dX6_rowAt_3 ?_
  refine lv_iload_n (pc := 4) hx hb dX6_rowAt_4 rfl (lv_at hl 2 rfl) ?_
  refine lv_iadd (pc := 5) hx hb dX6_rowAt_5 ?_
  refine lv_istore_n (pc := 6) (lv' := [(3, .int ((x1 * (16 : Int32)) + x2)), (0, .ref a_t), (1, .int x1), (2, .int x2)]) hx hb dX6_rowAt_6 rfl hl (by decide) rfl (fun ls hl => ?_)
  refine lv_iload_n (pc := 7) hx hb dX6_rowAt_7 rfl (lv_at hl 3 rfl) ?_
  refine lv_if_lt (tgt := 42) (pc := 8) hx hb dX6_rowAt_8 (by decide) (fun c1 => ?_) (fun c1 => ?_)
  · have hf := ifp c1 hf
    refine lv_bipush (pc := 42) hx hb dX6_rowAt_42 bc_16 ?_
    cases hf
    exact x_iret (pc := 44) C S dX6_rowAt_44
  · have hf := ifn c1 hf
    refine lv_iload_n (pc := 11) hx hb dX6_rowAt_11 rfl (lv_at hl 3 rfl) ?_
    refine lv_aload_n (pc := 12) hx hb dX6_rowAt_12 rfl (lv_at hl 1 rfl) ?_
    refine lv_iload_n (pc := 13) hx hb dX6_rowAt_13 rfl (lv_at hl 2 rfl) ?_
    obtain ⟨r2, hq2, hf⟩ := bd_e hf
    refine x_vI (pc := 14) (As := [.int x1]) (rest := [.int x2]) (isC := [0, 1]) (ws' := (w_X6_rowAt G a_t a_t_facts a_t_roundsOf a_t_locked a_t_rules a_t_sizes a_t_rows a_t_seen a_t_plan a_t_book t_stopCount t_metric t_fixed t_sizes t_rows)) C S (c_X6_sizeOf l G a_t a_t_facts a_t_roundsOf a_t_locked a_t_rules a_t_sizes a_t_rows a_t_seen a_t_plan a_t_book t_stopCount t_metric t_fixed t_sizes x1 r2 hq2) (u_X6_rowAt_X6_sizeOf_96 hts) (ci := 6) rfl 0 rfl rfl (by decide +kernel) [some 0, some 1, none] (by decide +kernel) rfl rfl rfl hl.1 rfl (Nat.le_of_ble_eq_true rfl) dX6_rowAt_14 (fun H locs S => ?_)
    refine lv_icmp_ge (tgt := 42) (pc := 17) hx hb dX6_rowAt_17 (by decide) (fun c3 => ?_) (fun c3 => ?_)
    · have hf := ifp c3 hf
      refine lv_bipush (pc := 42) hx hb dX6_rowAt_42 bc_16 ?_
      cases hf
      exact x_iret (pc := 44) C S dX6_rowAt_44
    · have hf := ifn c3 hf
      refine lv_iload_n (pc := 20) hx hb dX6_rowAt_20 rfl (lv_at hl 0 rfl) ?_
      refine lv_if_lt (tgt := 42) (pc := 21) hx hb dX6_rowAt_21 (by decide) (fun c4 => ?_) (fun c4 => ?_)
      · have hf := ifp c4 hf
        refine lv_bipush (pc := 42) hx hb dX6_rowAt_42 bc_16 ?_
        cases hf
        exact x_iret (pc := 44) C S dX6_rowAt_44
      · have hf := ifn c4 hf
        refine lv_iload_n (pc := 24) hx hb dX6_rowAt_24 rfl (lv_at hl 0 rfl) ?_
        refine lv_aload_n (pc := 25) hx hb dX6_rowAt_25 rfl (lv_at hl 1 rfl) ?_
        refine x_get (pc := 26) (ci := 6) (T := TX6) (v := .ref a_t_rows) C S 0 rfl rfl inlX6 5 (by decide) rfl qf_6_28 rfl dX6_rowAt_26 ?_
        refine x_lenI (pc := 29) C S 2 rfl nc_64 dX6_rowAt_29 ?_
        refine lv_icmp_ge (tgt := 42) (pc := 30) hx hb dX6_rowAt_30 (by decide) (fun c5 => ?_) (fun c5 => ?_)
        · have hf := ifp c5 hf
          refine lv_bipush (pc := 42) hx hb dX6_rowAt_42 bc_16 ?_
          cases hf
          exact x_iret (pc := 44) C S dX6_rowAt_44
        · have hf := ifn c5 hf
          refine lv_aload_n (pc := 33) hx hb dX6_rowAt_33 rfl (lv_at hl 1 rfl) ?_
          refine x_get (pc := 34) (ci := 6) (T := TX6) (v := .ref a_t_rows) C S 0 rfl rfl inlX6 5 (by decide) rfl qf_6_28 rfl dX6_rowAt_34 ?_
          refine lv_iload_n (pc := 37) hx hb dX6_rowAt_37 rfl (lv_at hl 0 rfl) ?_
          obtain ⟨hv6, hf⟩ := gI_e hf
          refine x_iald (pc := 38) C S 2 rfl hv6 dX6_rowAt_38 ?_
          refine lv_goto (tgt := 44) (pc := 39) hx hb dX6_rowAt_39 (by decide) ?_
          cases hf
          exact x_iret (pc := 44) C S dX6_rowAt_44
end

abbrev rm_X6_emptyRow : Room := { frames := 2, cells := 0, slots := 0, locals := 44 }
abbrev kw_X6_emptyRow : Cond := .code yX6_emptyRow cX6_emptyRow 4 none
abbrev w_X6_emptyRow (G : GE) (a_t a_t_facts a_t_roundsOf a_t_locked a_t_rules a_t_sizes a_t_rows a_t_seen a_t_plan a_t_book : Nat) (t_stopCount : Int32) (t_metric : Int32) (t_fixed : Int32) (t_roundsOf : Nat → Int32) (t_sizes : Nat → Int32) (t_rows : Nat → Int32) : va_W := [(a_t, ob 6 [.ref a_t_facts, .ref a_t_roundsOf, .ref a_t_locked, .ref a_t_rules, .ref a_t_sizes, .ref a_t_rows, .ref a_t_seen, .ref a_t_plan, .ref a_t_book, .int t_stopCount, .int t_metric, .int t_fixed]), (a_t_roundsOf, aI G 16 t_roundsOf), (a_t_sizes, aI G 4 t_sizes), (a_t_rows, aI G 64 t_rows)]
theorem u_X6_emptyRow_X6_sizeOf_96 {s : State} {args : Array Value} (hts : ∀ w ∈ WU, w.before args s = true) : CallW rm_X6_emptyRow s args RX6 RX6 96 yX6_sizeOf cX6_sizeOf 2 (some .int) (kw_X6_sizeOf :: WU) rm_X6_sizeOf 0 0 1 := cwV 1 hts (gV qm_6_96 qi_X6_sizeOf ql_X6_sizeOf qn_6 qc_X6_sizeOf) rfl rfl rfl (by decide +kernel) ⟨Nat.le_of_ble_eq_true rfl, Nat.le_of_ble_eq_true rfl⟩
theorem u_X6_emptyRow_X6_rowAt_103 {s : State} {args : Array Value} (hts : ∀ w ∈ WU, w.before args s = true) : CallW rm_X6_emptyRow s args RX6 RX6 103 yX6_rowAt cX6_rowAt 4 (some .int) (kw_X6_rowAt :: WU) rm_X6_rowAt 0 0 2 := cwV 2 hts (gV qm_6_103 qi_X6_rowAt ql_X6_rowAt qn_6 qc_X6_rowAt) rfl rfl rfl (by decide +kernel) ⟨Nat.le_of_ble_eq_true rfl, Nat.le_of_ble_eq_true rfl⟩
section
variable {p : Program} {l : Launch} {e : Env} {s : State} {m : MethodId} {args : Array Value} {below : List Frame} {meth : Method} {c : Code} {A : Nat → Prop} {G : GE} {a_t a_t_facts a_t_roundsOf a_t_locked a_t_rules a_t_sizes a_t_rows a_t_seen a_t_plan a_t_book : Nat} {z_t_roundsOf : Nat → Int32} {z_t_sizes : Nat → Int32}
set_option maxRecDepth 100000 in
set_option maxHeartbeats 4000000 in
theorem k_X6_emptyRow_2 (C : Cx p s m args meth c cX6_emptyRow none 4 RX6 G A) (t_stopCount : Int32) (t_metric : Int32) (t_fixed : Int32) (t_roundsOf : Nat → Int32) (t_sizes : Nat → Int32) (t_rows : Nat → Int32) (x1 : Int32) (x2 : Int32) (k2 : Int32 × (Nat → Int32) → Option ((Nat → Int32) × (Nat → Int32))) (hk2 : ∀ {H : Heap} {locs : List Loc} {ls : Array Slot} (x2' : Int32) (t_roundsOf' : Nat → Int32), k2 (x2', t_roundsOf') = some (z_t_roundsOf, z_t_sizes) → St G A s.heap H locs (w_X6_emptyRow G a_t a_t_facts a_t_roundsOf a_t_locked a_t_rules a_t_sizes a_t_rows a_t_seen a_t_plan a_t_book t_stopCount t_metric t_fixed t_roundsOf' t_sizes t_rows) → lv_has ls 4 [(0, .ref a_t), (1, .int x1), (2, .int x2')] → W p l e rm_X6_emptyRow s m args below meth c H locs 0 0 (QV G below args s A (w_X6_emptyRow G a_t a_t_facts a_t_roundsOf a_t_locked a_t_rules a_t_sizes a_t_rows a_t_seen a_t_plan a_t_book t_stopCount t_metric t_fixed z_t_roundsOf z_t_sizes t_rows)) (F0 m 2 ls [])) {H : Heap} {locs : List Loc} {ls : Array Slot} (hf : b_X6_emptyRow_2 x1 t_sizes t_rows k2 x2 t_roundsOf = some (z_t_roundsOf, z_t_sizes)) (S : St G A s.heap H locs (w_X6_emptyRow G a_t a_t_facts a_t_roundsOf a_t_locked a_t_rules a_t_sizes a_t_rows a_t_seen a_t_plan a_t_book t_stopCount t_metric t_fixed t_roundsOf t_sizes t_rows)) (hl : lv_has ls 4 [(0, .ref a_t), (1, .int x1), (2, .int x2)]) : W p l e rm_X6_emptyRow s m args below meth c H locs 0 0 (QV G below args s A (w_X6_emptyRow G a_t a_t_facts a_t_roundsOf a_t_locked a_t_rules a_t_sizes a_t_rows a_t_seen a_t_plan a_t_book t_stopCount t_metric t_fixed z_t_roundsOf z_t_sizes t_rows)) (F0 m 2 ls []) := by
  unfold b_X6_emptyRow_2 at hf
  have hx := C.1
  have hb := C.2.1
  have hown := C.2.2.2.2.1
  have hts := C.2.2.2.2.2.1
  have hN := C.2.2.2.2.2.2.2.2.2.2
  refine lv_iload_n (pc := 2) hx hb dX6_emptyRow_2 rfl (lv_at hl 2 rfl) ?_
  refine lv_aload_n (pc := 3) hx hb dX6_emptyRow_3 rfl (lv_at hl 0 rfl) ?_
  refine lv_iload_n (pc := 4) hx hb dX6_emptyRow_4 rfl (lv_at hl 1 rfl) ?_
  obtain ⟨r1, hq1, hf⟩ := bd_e hf
  refine x_vI (pc := 5) (As := [.int x1]) (rest := [.int x2]) (isC := [0, 2]) (ws' := (w_X6_emptyRow G a_t a_t_facts a_t_roundsOf a_t_locked a_t_rules a_t_sizes a_t_rows a_t_seen a_t_plan a_t_book t_stopCount t_metric t_fixed t_roundsOf t_sizes t_rows)) C S (c_X6_sizeOf l G a_t a_t_facts a_t_roundsOf a_t_locked a_t_rules a_t_sizes a_t_rows a_t_seen a_t_plan a_t_book t_stopCount t_metric t_fixed t_sizes x1 r1 hq1) (u_X6_emptyRow_X6_sizeOf_96 hts) (ci := 6) rfl 0 rfl rfl (by decide +kernel) [some 0, none, some 1, none] (by decide +kernel) rfl rfl rfl hl.1 rfl (Nat.le_of_ble_eq_true rfl) dX6_emptyRow_5 (fun H locs S => ?_)
  refine lv_icmp_ge (tgt := 55) (pc := 8) hx hb dX6_emptyRow_8 (by decide) (fun c2 => ?_) (fun c2 => ?_)
  · have hf := ifp c2 hf
    refine lv_iload_n (pc := 55) hx hb dX6_emptyRow_55 rfl (lv_at hl 1 rfl) ?_
    refine lv_if_lt (tgt := 75) (pc := 56) hx hb dX6_emptyRow_56 (by decide) (fun c3 => ?_) (fun c3 => ?_)
    · have hf := ifp c3 hf
      cases hf
      exact x_vret (pc := 75) C S dX6_emptyRow_75
    · have hf := ifn c3 hf
      refine lv_iload_n (pc := 59) hx hb dX6_emptyRow_59 rfl (lv_at hl 1 rfl) ?_
      refine lv_aload_n (pc := 60) hx hb dX6_emptyRow_60 rfl (lv_at hl 0 rfl) ?_
      refine x_get (pc := 61) (ci := 6) (T := TX6) (v := .ref a_t_sizes) C S 0 rfl rfl inlX6 4 (by decide) rfl qf_6_25 rfl dX6_emptyRow_61 ?_
      refine x_lenI (pc := 64) C S 2 rfl nc_4 dX6_emptyRow_64 ?_
      refine lv_icmp_ge (tgt := 75) (pc := 65) hx hb dX6_emptyRow_65 (by decide) (fun c4 => ?_) (fun c4 => ?_)
      · have hf := ifp c4 hf
        cases hf
        exact x_vret (pc := 75) C S dX6_emptyRow_75
      · have hf := ifn c4 hf
        refine lv_aload_n (pc := 68) hx hb dX6_emptyRow_68 rfl (lv_at hl 0 rfl) ?_
        refine x_get (pc := 69) (ci := 6) (T := TX6) (v := .ref a_t_sizes) C S 0 rfl rfl inlX6 4 (by decide) rfl qf_6_25 rfl dX6_emptyRow_69 ?_
        refine lv_iload_n (pc := 72) hx hb dX6_emptyRow_72 rfl (lv_at hl 1 rfl) ?_
        refine lv_iconst (pc := 73) hx hb dX6_emptyRow_73 ic_0 ?_
        obtain ⟨hv5, hf⟩ := gI_e hf
        refine x_iast (pc := 74) (ws' := (w_X6_emptyRow G a_t a_t_facts a_t_roundsOf a_t_locked a_t_rules a_t_sizes a_t_rows a_t_seen a_t_plan a_t_book t_stopCount t_metric t_fixed t_roundsOf (upd t_sizes x1.toNatClampNeg (0 : Int32)) t_rows)) C S 2 rfl hv5 rfl dX6_emptyRow_74 (fun H locs S => ?_)
        cases hf
        exact x_vret (pc := 75) C S dX6_emptyRow_75
  · have hf := ifn c2 hf
    refine lv_aload_n (pc := 11) hx hb dX6_emptyRow_11 rfl (lv_at hl 0 rfl) ?_
    refine lv_iload_n (pc := 12) hx hb dX6_emptyRow_12 rfl (lv_at hl 1 rfl) ?_
    refine lv_iload_n (pc := 13) hx hb dX6_emptyRow_13 rfl (lv_at hl 2 rfl) ?_
    obtain ⟨r6, hq6, hf⟩ := bd_e hf
    refine x_vI (pc := 14) (As := [.int x1, .int x2]) (rest := []) (isC := [0, 2, 3]) (ws' := (w_X6_emptyRow G a_t a_t_facts a_t_roundsOf a_t_locked a_t_rules a_t_sizes a_t_rows a_t_seen a_t_plan a_t_book t_stopCount t_metric t_fixed t_roundsOf t_sizes t_rows)) C S (c_X6_rowAt l G a_t a_t_facts a_t_roundsOf a_t_locked a_t_rules a_t_sizes a_t_rows a_t_seen a_t_plan a_t_book t_stopCount t_metric t_fixed t_sizes t_rows x1 x2 r6 hq6) (u_X6_emptyRow_X6_rowAt_103 hts) (ci := 6) rfl 0 rfl rfl (by decide +kernel) [some 0, none, some 1, some 2] (by decide +kernel) rfl rfl rfl hl.1 rfl (Nat.le_of_ble_eq_true rfl) dX6_emptyRow_14 (fun H locs S => ?_)
    refine lv_istore_n (pc := 17) (lv' := [(3, .int r6), (0, .ref a_t), (1, .int x1), (2, .int x2)]) hx hb dX6_emptyRow_17 rfl hl (by decide) rfl (fun ls hl => ?_)
    refine lv_iload_n (pc := 18) hx hb dX6_emptyRow_18 rfl (lv_at hl 0 rfl) ?_
    refine lv_if_lt (tgt := 49) (pc := 19) hx hb dX6_emptyRow_19 (by decide) (fun c7 => ?_) (fun c7 => ?_)
    · have hf := ifp c7 hf
      refine lv_iinc (pc := 49) (v := (x2 + (1 : Int32))) (lv' := [(2, .int (x2 + (1 : Int32))), (3, .int r6), (0, .ref a_t), (1, .int x1)]) hx hb dX6_emptyRow_49 hl (k := 3) rfl (congrArg (fun z => x2 + z) ic_1) (by decide) rfl (fun ls hl => ?_)
      refine lv_goto (tgt := 2) (pc := 52) hx hb dX6_emptyRow_52 (by decide) ?_
      exact hk2 ((x2 + (1 : Int32))) (t_roundsOf)  hf S (lv_sub hl [2, 3, 0] rfl)
    · have hf := ifn c7 hf
      refine lv_iload_n (pc := 22) hx hb dX6_emptyRow_22 rfl (lv_at hl 0 rfl) ?_
      refine lv_aload_n (pc := 23) hx hb dX6_emptyRow_23 rfl (lv_at hl 1 rfl) ?_
      refine x_get (pc := 24) (ci := 6) (T := TX6) (v := .ref a_t_roundsOf) C S 0 rfl rfl inlX6 1 (by decide) rfl qf_6_15 rfl dX6_emptyRow_24 ?_
      refine x_lenI (pc := 27) C S 1 rfl nc_16 dX6_emptyRow_27 ?_
      refine lv_icmp_ge (tgt := 49) (pc := 28) hx hb dX6_emptyRow_28 (by decide) (fun c8 => ?_) (fun c8 => ?_)
      · have hf := ifp c8 hf
        refine lv_iinc (pc := 49) (v := (x2 + (1 : Int32))) (lv' := [(2, .int (x2 + (1 : Int32))), (3, .int r6), (0, .ref a_t), (1, .int x1)]) hx hb dX6_emptyRow_49 hl (k := 3) rfl (congrArg (fun z => x2 + z) ic_1) (by decide) rfl (fun ls hl => ?_)
        refine lv_goto (tgt := 2) (pc := 52) hx hb dX6_emptyRow_52 (by decide) ?_
        exact hk2 ((x2 + (1 : Int32))) (t_roundsOf)  hf S (lv_sub hl [2, 3, 0] rfl)
      · have hf := ifn c8 hf
        refine lv_aload_n (pc := 31) hx hb dX6_emptyRow_31 rfl (lv_at hl 1 rfl) ?_
        refine x_get (pc := 32) (ci := 6) (T := TX6) (v := .ref a_t_roundsOf) C S 0 rfl rfl inlX6 1 (by decide) rfl qf_6_15 rfl dX6_emptyRow_32 ?_
        refine lv_iload_n (pc := 35) hx hb dX6_emptyRow_35 rfl (lv_at hl 0 rfl) ?_
        obtain ⟨hv9, hf⟩ := gI_e hf
        refine x_iald (pc := 36) C S 1 rfl hv9 dX6_emptyRow_36 ?_
        refine lv_iload_n (pc := 37) hx hb dX6_emptyRow_37 rfl (lv_at hl 2 rfl) ?_
        refine lv_icmp_ne (tgt := 49) (pc := 38) hx hb dX6_emptyRow_38 (by decide) (fun c10 => ?_) (fun c10 => ?_)
        · have hf := ifn c10 hf
          refine lv_iinc (pc := 49) (v := (x2 + (1 : Int32))) (lv' := [(2, .int (x2 + (1 : Int32))), (3, .int r6), (0, .ref a_t), (1, .int x1)]) hx hb dX6_emptyRow_49 hl (k := 3) rfl (congrArg (fun z => x2 + z) ic_1) (by decide) rfl (fun ls hl => ?_)
          refine lv_goto (tgt := 2) (pc := 52) hx hb dX6_emptyRow_52 (by decide) ?_
          exact hk2 ((x2 + (1 : Int32))) (t_roundsOf)  hf S (lv_sub hl [2, 3, 0] rfl)
        · have hf := ifp c10 hf
          refine lv_aload_n (pc := 41) hx hb dX6_emptyRow_41 rfl (lv_at hl 1 rfl) ?_
          refine x_get (pc := 42) (ci := 6) (T := TX6) (v := .ref a_t_roundsOf) C S 0 rfl rfl inlX6 1 (by decide) rfl qf_6_15 rfl dX6_emptyRow_42 ?_
          refine lv_iload_n (pc := 45) hx hb dX6_emptyRow_45 rfl (lv_at hl 0 rfl) ?_
          refine lv_bipush (pc := 46) hx hb dX6_emptyRow_46 bc_m5 ?_
          refine x_iast (pc := 48) (ws' := (w_X6_emptyRow G a_t a_t_facts a_t_roundsOf a_t_locked a_t_rules a_t_sizes a_t_rows a_t_seen a_t_plan a_t_book t_stopCount t_metric t_fixed (upd t_roundsOf r6.toNatClampNeg (-5 : Int32)) t_sizes t_rows)) C S 1 rfl hv9 rfl dX6_emptyRow_48 (fun H locs S => ?_)
          refine lv_iinc (pc := 49) (v := (x2 + (1 : Int32))) (lv' := [(2, .int (x2 + (1 : Int32))), (3, .int r6), (0, .ref a_t), (1, .int x1)]) hx hb dX6_emptyRow_49 hl (k := 3) rfl (congrArg (fun z => x2 + z) ic_1) (by decide) rfl (fun ls hl => ?_)
          refine lv_goto (tgt := 2) (pc := 52) hx hb dX6_emptyRow_52 (by decide) ?_
          exact hk2 ((x2 + (1 : Int32))) ((upd t_roundsOf r6.toNatClampNeg (-5 : Int32)))  hf S (lv_sub hl [2, 3, 0] rfl)
set_option maxRecDepth 100000 in
set_option maxHeartbeats 4000000 in
theorem h_X6_emptyRow_2 (C : Cx p s m args meth c cX6_emptyRow none 4 RX6 G A) (t_stopCount : Int32) (t_metric : Int32) (t_fixed : Int32) (t_sizes : Nat → Int32) (t_rows : Nat → Int32) (x1 : Int32) : ∀ (n : Nat) (x2 : Int32) (t_roundsOf : Nat → Int32) {H : Heap} {locs : List Loc} {ls : Array Slot} (hf : lp (fun k x => b_X6_emptyRow_2 x1 t_sizes t_rows k x.1 x.2) n (x2, t_roundsOf) = some (z_t_roundsOf, z_t_sizes)) (S : St G A s.heap H locs (w_X6_emptyRow G a_t a_t_facts a_t_roundsOf a_t_locked a_t_rules a_t_sizes a_t_rows a_t_seen a_t_plan a_t_book t_stopCount t_metric t_fixed t_roundsOf t_sizes t_rows)) (hl : lv_has ls 4 [(0, .ref a_t), (1, .int x1), (2, .int x2)]), W p l e rm_X6_emptyRow s m args below meth c H locs 0 0 (QV G below args s A (w_X6_emptyRow G a_t a_t_facts a_t_roundsOf a_t_locked a_t_rules a_t_sizes a_t_rows a_t_seen a_t_plan a_t_book t_stopCount t_metric t_fixed z_t_roundsOf z_t_sizes t_rows)) (F0 m 2 ls []) := by
  intro n
  induction n with
  | zero =>
    intro x2 t_roundsOf  H locs ls hf
    cases hf
  | succ n ih =>
    intro x2 t_roundsOf  H locs ls hf S hl
    have hf : b_X6_emptyRow_2 x1 t_sizes t_rows (lp (fun k x => b_X6_emptyRow_2 x1 t_sizes t_rows k x.1 x.2) n) x2 t_roundsOf = some (z_t_roundsOf, z_t_sizes) := hf
    exact k_X6_emptyRow_2 C t_stopCount t_metric t_fixed t_roundsOf t_sizes t_rows x1 x2  (lp (fun k x => b_X6_emptyRow_2 x1 t_sizes t_rows k x.1 x.2) n) (fun x2' t_roundsOf'  h S hl => ih x2' t_roundsOf'  h S hl) hf S hl
set_option maxRecDepth 100000 in
set_option maxHeartbeats 4000000 in
theorem c_X6_emptyRow (l : Launch) (G : GE) (a_t a_t_facts a_t_roundsOf a_t_locked a_t_rules a_t_sizes a_t_rows a_t_seen a_t_plan a_t_book : Nat) (t_stopCount : Int32) (t_metric : Int32) (t_fixed : Int32) (t_roundsOf : Nat → Int32) (t_sizes : Nat → Int32) (t_rows : Nat → Int32) (x1 : Int32) (z_t_roundsOf : Nat → Int32) (z_t_sizes : Nat → Int32) (hf : f_X6_emptyRow t_roundsOf t_sizes t_rows x1 = some (z_t_roundsOf, z_t_sizes)) : CV l G yX6_emptyRow kw_X6_emptyRow rm_X6_emptyRow [.ref a_t, .int x1] (w_X6_emptyRow G a_t a_t_facts a_t_roundsOf a_t_locked a_t_rules a_t_sizes a_t_rows a_t_seen a_t_plan a_t_book t_stopCount t_metric t_fixed t_roundsOf t_sizes t_rows) (w_X6_emptyRow G a_t a_t_facts a_t_roundsOf a_t_locked a_t_rules a_t_sizes a_t_rows a_t_seen a_t_plan a_t_book t_stopCount t_metric t_fixed z_t_roundsOf z_t_sizes t_rows) := by
  refine en_V (cc := cX6_emptyRow) (maxL := 4) (ret := none) (by decide +kernel) (Nat.le_of_ble_eq_true rfl) ?_
  intro p e s m args below meth c A ls C S hl
  have hl : lv_has ls 4 [(0, .ref a_t), (1, .int x1)] := hl
  have C : Cx p s m args meth c cX6_emptyRow none 4 RX6 G A := C
  unfold f_X6_emptyRow at hf
  have hx := C.1
  have hb := C.2.1
  have hown := C.2.2.2.2.1
  have hts := C.2.2.2.2.2.1
  have hN := C.2.2.2.2.2.2.2.2.2.2
  refine lv_iconst (pc := 0) hx hb dX6_emptyRow_0 ic_0 ?_
  refine lv_istore_n (pc := 1) (lv' := [(2, .int (0 : Int32)), (0, .ref a_t), (1, .int x1)]) hx hb dX6_emptyRow_1 rfl hl (by decide) rfl (fun ls hl => ?_)
  exact h_X6_emptyRow_2 C (t_stopCount) (t_metric) (t_fixed) (t_sizes) (t_rows) (x1) fu ((0 : Int32)) (t_roundsOf) hf S (lv_sub hl [1, 2, 0] rfl)
end

abbrev rm_X7_isUpTo : Room := { frames := 0, cells := 0, slots := 0, locals := 0 }
abbrev kw_X7_isUpTo : Cond := .code yX7_isUpTo cX7_isUpTo 2 (some .boolean)
abbrev w_X7_isUpTo (G : GE) : va_W := []
section
variable {p : Program} {l : Launch} {e : Env} {s : State} {m : MethodId} {args : Array Value} {below : List Frame} {meth : Method} {c : Code} {A : Nat → Prop} {G : GE} {r : Int32}
set_option maxRecDepth 100000 in
set_option maxHeartbeats 4000000 in
theorem c_X7_isUpTo (l : Launch) (G : GE) (x0 : Int32) (x1 : Int32) (r : Int32) (hf : f_X7_isUpTo x0 x1 = some r) : CI l G yX7_isUpTo kw_X7_isUpTo rm_X7_isUpTo [.int x0, .int x1] (w_X7_isUpTo G ) r (w_X7_isUpTo G ) := by
  refine en_I (cc := cX7_isUpTo) (maxL := 2) (ret := (some .boolean)) (by decide +kernel) (Nat.le_of_ble_eq_true rfl) ?_
  intro p e s m args below meth c A ls C S hl
  have hl : lv_has ls 2 [(0, .int x0), (1, .int x1)] := hl
  have C : Cx p s m args meth c cX7_isUpTo (some .boolean) 2 RX7 G A := C
  unfold f_X7_isUpTo at hf
  have hx := C.1
  have hb := C.2.1
  have hown := C.2.2.2.2.1
  have hts := C.2.2.2.2.2.1
  have hN := C.2.2.2.2.2.2.2.2.2.2
  refine lv_iload_n (pc := 0) hx hb dX7_isUpTo_0 rfl (lv_at hl 0 rfl) ?_
  refine lv_if_lt (tgt := 13) (pc := 1) hx hb dX7_isUpTo_1 (by decide) (fun c1 => ?_) (fun c1 => ?_)
  · have hf := ifp c1 hf
    refine lv_iconst (pc := 13) hx hb dX7_isUpTo_13 ic_0 ?_
    cases hf
    exact x_zret (pc := 14) (by decide) C S dX7_isUpTo_14
  · have hf := ifn c1 hf
    refine lv_iload_n (pc := 4) hx hb dX7_isUpTo_4 rfl (lv_at hl 0 rfl) ?_
    refine lv_iload_n (pc := 5) hx hb dX7_isUpTo_5 rfl (lv_at hl 1 rfl) ?_
    refine lv_icmp_gt (tgt := 13) (pc := 6) hx hb dX7_isUpTo_6 (by decide) (fun c2 => ?_) (fun c2 => ?_)
    · have hf := ifp c2 hf
      refine lv_iconst (pc := 13) hx hb dX7_isUpTo_13 ic_0 ?_
      cases hf
      exact x_zret (pc := 14) (by decide) C S dX7_isUpTo_14
    · have hf := ifn c2 hf
      refine lv_iconst (pc := 9) hx hb dX7_isUpTo_9 ic_1 ?_
      refine lv_goto (tgt := 14) (pc := 10) hx hb dX7_isUpTo_10 (by decide) ?_
      cases hf
      exact x_zret (pc := 14) (by decide) C S dX7_isUpTo_14
end

abbrev rm_X7_isRound : Room := { frames := 1, cells := 0, slots := 0, locals := 21 }
abbrev kw_X7_isRound : Cond := .code yX7_isRound cX7_isRound 1 (some .boolean)
abbrev w_X7_isRound (G : GE) : va_W := []
theorem u_X7_isRound_X7_isUpTo_63 {s : State} {args : Array Value} (hts : ∀ w ∈ WU, w.before args s = true) : CallB rm_X7_isRound s args RX7 63 yX7_isUpTo cX7_isUpTo 2 (some .boolean) (kw_X7_isUpTo :: WU) rm_X7_isUpTo 0 0 2 ∧ (Cond.static yX7_isUpTo).before args s = true := va_cwS 2 hts (gS qm_7_63 qs_X7_isUpTo qn_7 qc_X7_isUpTo) rfl rfl rfl (by decide +kernel) ⟨Nat.le_of_ble_eq_true rfl, Nat.le_of_ble_eq_true rfl⟩
section
variable {p : Program} {l : Launch} {e : Env} {s : State} {m : MethodId} {args : Array Value} {below : List Frame} {meth : Method} {c : Code} {A : Nat → Prop} {G : GE} {r : Int32}
set_option maxRecDepth 100000 in
set_option maxHeartbeats 4000000 in
theorem c_X7_isRound (l : Launch) (G : GE) (x0 : Int32) (r : Int32) (hf : f_X7_isRound x0 = some r) : CI l G yX7_isRound kw_X7_isRound rm_X7_isRound [.int x0] (w_X7_isRound G ) r (w_X7_isRound G ) := by
  refine en_I (cc := cX7_isRound) (maxL := 1) (ret := (some .boolean)) (by decide +kernel) (Nat.le_of_ble_eq_true rfl) ?_
  intro p e s m args below meth c A ls C S hl
  have hl : lv_has ls 1 [(0, .int x0)] := hl
  have C : Cx p s m args meth c cX7_isRound (some .boolean) 1 RX7 G A := C
  unfold f_X7_isRound at hf
  have hx := C.1
  have hb := C.2.1
  have hown := C.2.2.2.2.1
  have hts := C.2.2.2.2.2.1
  have hN := C.2.2.2.2.2.2.2.2.2.2
  refine lv_iload_n (pc := 0) hx hb dX7_isRound_0 rfl (lv_at hl 0 rfl) ?_
  refine lv_iconst (pc := 1) hx hb dX7_isRound_1 ic_3 ?_
  obtain ⟨r1, hq1, hf⟩ := bd_e hf
  refine x_sI (pc := 2) (As := [.int x0, .int (3 : Int32)]) (rest := []) (isC := []) (ws' := (w_X7_isRound G )) C S (c_X7_isUpTo l G x0 (3 : Int32) r1 hq1) (u_X7_isRound_X7_isUpTo_63 hts) rfl (by decide +kernel) [] (by decide +kernel) rfl rfl rfl hl.1 rfl (Nat.le_of_ble_eq_true rfl) dX7_isRound_2 (fun H locs S => ?_)
  obtain ⟨hz2, hf⟩ := gd_e hf
  cases hf
  exact x_zret (pc := 5) hz2 C S dX7_isRound_5
end

abbrev rm_X6_appendToRow : Room := { frames := 2, cells := 0, slots := 0, locals := 41 }
abbrev kw_X6_appendToRow : Cond := .code yX6_appendToRow cX6_appendToRow 5 none
abbrev w_X6_appendToRow (G : GE) (a_t a_t_facts a_t_roundsOf a_t_locked a_t_rules a_t_sizes a_t_rows a_t_seen a_t_plan a_t_book : Nat) (t_stopCount : Int32) (t_metric : Int32) (t_fixed : Int32) (t_roundsOf : Nat → Int32) (t_sizes : Nat → Int32) (t_rows : Nat → Int32) : va_W := [(a_t, ob 6 [.ref a_t_facts, .ref a_t_roundsOf, .ref a_t_locked, .ref a_t_rules, .ref a_t_sizes, .ref a_t_rows, .ref a_t_seen, .ref a_t_plan, .ref a_t_book, .int t_stopCount, .int t_metric, .int t_fixed]), (a_t_roundsOf, aI G 16 t_roundsOf), (a_t_sizes, aI G 4 t_sizes), (a_t_rows, aI G 64 t_rows)]
theorem u_X6_appendToRow_X6_sizeOf_96 {s : State} {args : Array Value} (hts : ∀ w ∈ WU, w.before args s = true) : CallW rm_X6_appendToRow s args RX6 RX6 96 yX6_sizeOf cX6_sizeOf 2 (some .int) (kw_X6_sizeOf :: WU) rm_X6_sizeOf 0 0 1 := cwV 1 hts (gV qm_6_96 qi_X6_sizeOf ql_X6_sizeOf qn_6 qc_X6_sizeOf) rfl rfl rfl (by decide +kernel) ⟨Nat.le_of_ble_eq_true rfl, Nat.le_of_ble_eq_true rfl⟩
theorem u_X6_appendToRow_X7_isRound_106 {s : State} {args : Array Value} (hts : ∀ w ∈ WU, w.before args s = true) (hN : Nx s) : va_CN rm_X6_appendToRow s args RX6 106 yX7_isRound RX7 cX7_isRound 1 (some .boolean) (kw_X7_isRound :: WU) rm_X7_isRound 0 0 1 ∧ (Cond.static yX7_isRound).before args s = true ∧ True := ⟨va_cnB 1 hts (gW qc_X7_isRound) rfl rfl rfl (hN.1 _ (by decide +kernel : (RX6, 106, yX7_isRound) ∈ nstM)) (hts _ qn_7) (by decide +kernel) ⟨Nat.le_of_ble_eq_true rfl, Nat.le_of_ble_eq_true rfl⟩, hts _ qs_X7_isRound, trivial⟩
section
variable {p : Program} {l : Launch} {e : Env} {s : State} {m : MethodId} {args : Array Value} {below : List Frame} {meth : Method} {c : Code} {A : Nat → Prop} {G : GE} {a_t a_t_facts a_t_roundsOf a_t_locked a_t_rules a_t_sizes a_t_rows a_t_seen a_t_plan a_t_book : Nat} {z_t_roundsOf : Nat → Int32} {z_t_sizes : Nat → Int32} {z_t_rows : Nat → Int32}
set_option maxRecDepth 100000 in
set_option maxHeartbeats 4000000 in
theorem c_X6_appendToRow (l : Launch) (G : GE) (a_t a_t_facts a_t_roundsOf a_t_locked a_t_rules a_t_sizes a_t_rows a_t_seen a_t_plan a_t_book : Nat) (t_stopCount : Int32) (t_metric : Int32) (t_fixed : Int32) (t_roundsOf : Nat → Int32) (t_sizes : Nat → Int32) (t_rows : Nat → Int32) (x1 : Int32) (x2 : Int32) (z_t_roundsOf : Nat → Int32) (z_t_sizes : Nat → Int32) (z_t_rows : Nat → Int32) (hf : f_X6_appendToRow t_roundsOf t_sizes t_rows x1 x2 = some (z_t_roundsOf, z_t_sizes, z_t_rows)) : CV l G yX6_appendToRow kw_X6_appendToRow rm_X6_appendToRow [.ref a_t, .int x1, .int x2] (w_X6_appendToRow G a_t a_t_facts a_t_roundsOf a_t_locked a_t_rules a_t_sizes a_t_rows a_t_seen a_t_plan a_t_book t_stopCount t_metric t_fixed t_roundsOf t_sizes t_rows) (w_X6_appendToRow G a_t a_t_facts a_t_roundsOf a_t_locked a_t_rules a_t_sizes a_t_rows a_t_seen a_t_plan a_t_book t_stopCount t_metric t_fixed z_t_roundsOf z_t_sizes z_t_rows) := by
  refine en_V (cc := cX6_appendToRow) (maxL := 5) (ret := none) (by decide +kernel) (Nat.le_of_ble_eq_true rfl) ?_
  intro p e s m args below meth c A ls C S hl
  have hl : lv_has ls 5 [(0, .ref a_t), (1, .int x1), (2, .int x2)] := hl
  have C : Cx p s m args meth c cX6_appendToRow none 5 RX6 G A := C
  unfold f_X6_appendToRow at hf
  have hx := C.1
  have hb := C.2.1
  have hown := C.2.2.2.2.1
  have hts := C.2.2.2.2.2.1
  have hN := C.2.2.2.2.2.2.2.2.2.2
  refine lv_aload_n (pc := 0) hx hb dX6_appendToRow_0 rfl (lv_at hl 0 rfl) ?_
  refine lv_iload_n (pc := 1) hx hb dX6_appendToRow_1 rfl (lv_at hl 1 rfl) ?_
  obtain ⟨r1, hq1, hf⟩ := bd_e hf
  refine x_vI (pc := 2) (As := [.int x1]) (rest := []) (isC := [0, 2]) (ws' := (w_X6_appendToRow G a_t a_t_facts a_t_roundsOf a_t_locked a_t_rules a_t_sizes a_t_rows a_t_seen a_t_plan a_t_book t_stopCount t_metric t_fixed t_roundsOf t_sizes t_rows)) C S (c_X6_sizeOf l G a_t a_t_facts a_t_roundsOf a_t_locked a_t_rules a_t_sizes a_t_rows a_t_seen a_t_plan a_t_book t_stopCount t_metric t_fixed t_sizes x1 r1 hq1) (u_X6_appendToRow_X6_sizeOf_96 hts) (ci := 6) rfl 0 rfl rfl (by decide +kernel) [some 0, none, some 1, none] (by decide +kernel) rfl rfl rfl hl.1 rfl (Nat.le_of_ble_eq_true rfl) dX6_appendToRow_2 (fun H locs S => ?_)
  refine lv_istore_n (pc := 5) (lv' := [(3, .int r1), (0, .ref a_t), (1, .int x1), (2, .int x2)]) hx hb dX6_appendToRow_5 rfl hl (by decide) rfl (fun ls hl => ?_)
  refine lv_iload_n (pc := 6) hx hb dX6_appendToRow_6 rfl (lv_at hl 2 rfl) ?_
  refine lv_bipush (pc := 7) hx hb dX6_appendToRow_7 bc_16 ?_
  refine lv_imul (pc := 9) hx hb dX6_appendToRow_9 ?_
  refine lv_iload_n (pc := 10) hx hb dX6_appendToRow_10 rfl (lv_at hl 0 rfl) ?_
  refine lv_iadd (pc := 11) hx hb dX6_appendToRow_11 ?_
  refine lv_istore (pc := 12) (lv' := [(4, .int ((x1 * (16 : Int32)) + r1)), (3, .int r1), (0, .ref a_t), (1, .int x1), (2, .int x2)]) hx hb dX6_appendToRow_12 hl (by decide) rfl (fun ls hl => ?_)
  refine lv_iload_n (pc := 14) hx hb dX6_appendToRow_14 rfl (lv_at hl 3 rfl) ?_
  obtain ⟨r2, hq2, hf⟩ := bd_e hf
  refine x_nI (pc := 15) (As := [.int x1]) (rest := []) (isC := []) (ws' := (w_X6_appendToRow G a_t a_t_facts a_t_roundsOf a_t_locked a_t_rules a_t_sizes a_t_rows a_t_seen a_t_plan a_t_book t_stopCount t_metric t_fixed t_roundsOf t_sizes t_rows)) C S (c_X7_isRound l G x1 r2 hq2) (u_X6_appendToRow_X7_isRound_106 hts hN) rfl (by decide +kernel) [none, none, none, none] (by decide +kernel) rfl rfl rfl hl.1 rfl (Nat.le_of_ble_eq_true rfl) dX6_appendToRow_15 (fun H locs S => ?_)
  refine lv_if_eq (tgt := 55) (pc := 18) hx hb dX6_appendToRow_18 (by decide) (fun c3 => ?_) (fun c3 => ?_)
  · have hf := ifp c3 hf
    cases hf
    exact x_vret (pc := 55) C S dX6_appendToRow_55
  · have hf := ifn c3 hf
    refine lv_iload_n (pc := 21) hx hb dX6_appendToRow_21 rfl (lv_at hl 4 rfl) ?_
    refine lv_if_lt (tgt := 55) (pc := 22) hx hb dX6_appendToRow_22 (by decide) (fun c4 => ?_) (fun c4 => ?_)
    · have hf := ifp c4 hf
      cases hf
      exact x_vret (pc := 55) C S dX6_appendToRow_55
    · have hf := ifn c4 hf
      refine lv_iload_n (pc := 25) hx hb dX6_appendToRow_25 rfl (lv_at hl 4 rfl) ?_
      refine lv_aload_n (pc := 26) hx hb dX6_appendToRow_26 rfl (lv_at hl 2 rfl) ?_
      refine x_get (pc := 27) (ci := 6) (T := TX6) (v := .ref a_t_roundsOf) C S 0 rfl rfl inlX6 1 (by decide) rfl qf_6_15 rfl dX6_appendToRow_27 ?_
      refine x_lenI (pc := 30) C S 1 rfl nc_16 dX6_appendToRow_30 ?_
      refine lv_icmp_ge (tgt := 55) (pc := 31) hx hb dX6_appendToRow_31 (by decide) (fun c5 => ?_) (fun c5 => ?_)
      · have hf := ifp c5 hf
        cases hf
        exact x_vret (pc := 55) C S dX6_appendToRow_55
      · have hf := ifn c5 hf
        refine lv_iload_n (pc := 34) hx hb dX6_appendToRow_34 rfl (lv_at hl 1 rfl) ?_
        refine lv_bipush (pc := 35) hx hb dX6_appendToRow_35 bc_16 ?_
        refine lv_icmp_ge (tgt := 55) (pc := 37) hx hb dX6_appendToRow_37 (by decide) (fun c6 => ?_) (fun c6 => ?_)
        · have hf := ifp c6 hf
          cases hf
          exact x_vret (pc := 55) C S dX6_appendToRow_55
        · have hf := ifn c6 hf
          refine lv_iload (pc := 40) hx hb dX6_appendToRow_40 (lv_at hl 0 rfl) ?_
          refine lv_if_lt (tgt := 55) (pc := 42) hx hb dX6_appendToRow_42 (by decide) (fun c7 => ?_) (fun c7 => ?_)
          · have hf := ifp c7 hf
            cases hf
            exact x_vret (pc := 55) C S dX6_appendToRow_55
          · have hf := ifn c7 hf
            refine lv_iload (pc := 45) hx hb dX6_appendToRow_45 (lv_at hl 0 rfl) ?_
            refine lv_aload_n (pc := 47) hx hb dX6_appendToRow_47 rfl (lv_at hl 2 rfl) ?_
            refine x_get (pc := 48) (ci := 6) (T := TX6) (v := .ref a_t_rows) C S 0 rfl rfl inlX6 5 (by decide) rfl qf_6_28 rfl dX6_appendToRow_48 ?_
            refine x_lenI (pc := 51) C S 3 rfl nc_64 dX6_appendToRow_51 ?_
            refine lv_icmp_lt (tgt := 56) (pc := 52) hx hb dX6_appendToRow_52 (by decide) (fun c8 => ?_) (fun c8 => ?_)
            · have hf := ifp c8 hf
              refine lv_aload_n (pc := 56) hx hb dX6_appendToRow_56 rfl (lv_at hl 2 rfl) ?_
              refine x_get (pc := 57) (ci := 6) (T := TX6) (v := .ref a_t_rows) C S 0 rfl rfl inlX6 5 (by decide) rfl qf_6_28 rfl dX6_appendToRow_57 ?_
              refine lv_iload (pc := 60) hx hb dX6_appendToRow_60 (lv_at hl 0 rfl) ?_
              refine lv_iload_n (pc := 62) hx hb dX6_appendToRow_62 rfl (lv_at hl 4 rfl) ?_
              obtain ⟨hv9, hf⟩ := gI_e hf
              refine x_iast (pc := 63) (ws' := (w_X6_appendToRow G a_t a_t_facts a_t_roundsOf a_t_locked a_t_rules a_t_sizes a_t_rows a_t_seen a_t_plan a_t_book t_stopCount t_metric t_fixed t_roundsOf t_sizes (upd t_rows ((x1 * (16 : Int32)) + r1).toNatClampNeg x2))) C S 3 rfl hv9 rfl dX6_appendToRow_63 (fun H locs S => ?_)
              refine lv_aload_n (pc := 64) hx hb dX6_appendToRow_64 rfl (lv_at hl 2 rfl) ?_
              refine x_get (pc := 65) (ci := 6) (T := TX6) (v := .ref a_t_sizes) C S 0 rfl rfl inlX6 4 (by decide) rfl qf_6_25 rfl dX6_appendToRow_65 ?_
              refine lv_iload_n (pc := 68) hx hb dX6_appendToRow_68 rfl (lv_at hl 3 rfl) ?_
              refine lv_iload_n (pc := 69) hx hb dX6_appendToRow_69 rfl (lv_at hl 1 rfl) ?_
              refine lv_iconst (pc := 70) hx hb dX6_appendToRow_70 ic_1 ?_
              refine lv_iadd (pc := 71) hx hb dX6_appendToRow_71 ?_
              obtain ⟨hv10, hf⟩ := gI_e hf
              refine x_iast (pc := 72) (ws' := (w_X6_appendToRow G a_t a_t_facts a_t_roundsOf a_t_locked a_t_rules a_t_sizes a_t_rows a_t_seen a_t_plan a_t_book t_stopCount t_metric t_fixed t_roundsOf (upd t_sizes x1.toNatClampNeg (r1 + (1 : Int32))) (upd t_rows ((x1 * (16 : Int32)) + r1).toNatClampNeg x2))) C S 2 rfl hv10 rfl dX6_appendToRow_72 (fun H locs S => ?_)
              refine lv_aload_n (pc := 73) hx hb dX6_appendToRow_73 rfl (lv_at hl 2 rfl) ?_
              refine x_get (pc := 74) (ci := 6) (T := TX6) (v := .ref a_t_roundsOf) C S 0 rfl rfl inlX6 1 (by decide) rfl qf_6_15 rfl dX6_appendToRow_74 ?_
              refine lv_iload_n (pc := 77) hx hb dX6_appendToRow_77 rfl (lv_at hl 4 rfl) ?_
              refine lv_iload_n (pc := 78) hx hb dX6_appendToRow_78 rfl (lv_at hl 3 rfl) ?_
              obtain ⟨hv11, hf⟩ := gI_e hf
              refine x_iast (pc := 79) (ws' := (w_X6_appendToRow G a_t a_t_facts a_t_roundsOf a_t_locked a_t_rules a_t_sizes a_t_rows a_t_seen a_t_plan a_t_book t_stopCount t_metric t_fixed (upd t_roundsOf x2.toNatClampNeg x1) (upd t_sizes x1.toNatClampNeg (r1 + (1 : Int32))) (upd t_rows ((x1 * (16 : Int32)) + r1).toNatClampNeg x2))) C S 1 rfl hv11 rfl dX6_appendToRow_79 (fun H locs S => ?_)
              cases hf
              exact x_vret (pc := 80) C S dX6_appendToRow_80
            · have hf := ifn c8 hf
              cases hf
              exact x_vret (pc := 55) C S dX6_appendToRow_55
end

abbrev rm_X0_keep : Room := { frames := 3, cells := 0, slots := 0, locals := 67 }
abbrev kw_X0_keep : Cond := .code yX0_keep cX0_keep 3 none
abbrev w_X0_keep (G : GE) (a_t a_t_row a_t_comes a_t_begins a_t_slacks a_p1 a_p1_facts a_p1_roundsOf a_p1_locked a_p1_rules a_p1_sizes a_p1_rows a_p1_seen a_p1_plan a_p1_book : Nat) (t_round : Int32) (t_size : Int32) (t_back : Int32) (t_loads : Int32) (t_miles : Int32) (t_waits : Int32) (t_lateAt : Int32) (t_later : Int32) (t_row : Nat → Int32) (p1_stopCount : Int32) (p1_metric : Int32) (p1_fixed : Int32) (p1_roundsOf : Nat → Int32) (p1_sizes : Nat → Int32) (p1_rows : Nat → Int32) : va_W := [(a_t, ob 0 [.ref a_t_row, .ref a_t_comes, .ref a_t_begins, .ref a_t_slacks, .int t_round, .int t_size, .int t_back, .int t_loads, .int t_miles, .int t_waits, .int t_lateAt, .int t_later]), (a_t_row, aI G 16 t_row), (a_p1, ob 6 [.ref a_p1_facts, .ref a_p1_roundsOf, .ref a_p1_locked, .ref a_p1_rules, .ref a_p1_sizes, .ref a_p1_rows, .ref a_p1_seen, .ref a_p1_plan, .ref a_p1_book, .int p1_stopCount, .int p1_metric, .int p1_fixed]), (a_p1_roundsOf, aI G 16 p1_roundsOf), (a_p1_sizes, aI G 4 p1_sizes), (a_p1_rows, aI G 64 p1_rows)]
theorem u_X0_keep_X6_emptyRow_41 {s : State} {args : Array Value} (hts : ∀ w ∈ WU, w.before args s = true) : CallW rm_X0_keep s args RX0 RX6 41 yX6_emptyRow cX6_emptyRow 4 none (kw_X6_emptyRow :: WU) rm_X6_emptyRow 0 0 1 := cwV 1 hts (gV qm_0_41 qi_X6_emptyRow ql_X6_emptyRow qn_6 qc_X6_emptyRow) rfl rfl rfl (by decide +kernel) ⟨Nat.le_of_ble_eq_true rfl, Nat.le_of_ble_eq_true rfl⟩
theorem u_X0_keep_X6_appendToRow_45 {s : State} {args : Array Value} (hts : ∀ w ∈ WU, w.before args s = true) : CallW rm_X0_keep s args RX0 RX6 45 yX6_appendToRow cX6_appendToRow 5 none (kw_X6_appendToRow :: WU) rm_X6_appendToRow 0 0 2 := cwV 2 hts (gV qm_0_45 qi_X6_appendToRow ql_X6_appendToRow qn_6 qc_X6_appendToRow) rfl rfl rfl (by decide +kernel) ⟨Nat.le_of_ble_eq_true rfl, Nat.le_of_ble_eq_true rfl⟩
section
variable {p : Program} {l : Launch} {e : Env} {s : State} {m : MethodId} {args : Array Value} {below : List Frame} {meth : Method} {c : Code} {A : Nat → Prop} {G : GE} {a_t a_t_row a_t_comes a_t_begins a_t_slacks a_p1 a_p1_facts a_p1_roundsOf a_p1_locked a_p1_rules a_p1_sizes a_p1_rows a_p1_seen a_p1_plan a_p1_book : Nat} {z_p1_roundsOf : Nat → Int32} {z_p1_sizes : Nat → Int32} {z_p1_rows : Nat → Int32}
set_option maxRecDepth 100000 in
set_option maxHeartbeats 4000000 in
theorem k_X0_keep_10 (C : Cx p s m args meth c cX0_keep none 3 RX0 G A) (t_round : Int32) (t_size : Int32) (t_back : Int32) (t_loads : Int32) (t_miles : Int32) (t_waits : Int32) (t_lateAt : Int32) (t_later : Int32) (t_row : Nat → Int32) (p1_stopCount : Int32) (p1_metric : Int32) (p1_fixed : Int32) (p1_roundsOf : Nat → Int32) (p1_sizes : Nat → Int32) (p1_rows : Nat → Int32) (x2 : Int32) (k10 : Int32 × (Nat → Int32) × (Nat → Int32) × (Nat → Int32) → Option ((Nat → Int32) × (Nat → Int32) × (Nat → Int32))) (hk10 : ∀ {H : Heap} {locs : List Loc} {ls : Array Slot} (x2' : Int32) (p1_roundsOf' : Nat → Int32) (p1_sizes' : Nat → Int32) (p1_rows' : Nat → Int32), k10 (x2', p1_roundsOf', p1_sizes', p1_rows') = some (z_p1_roundsOf, z_p1_sizes, z_p1_rows) → St G A s.heap H locs (w_X0_keep G a_t a_t_row a_t_comes a_t_begins a_t_slacks a_p1 a_p1_facts a_p1_roundsOf a_p1_locked a_p1_rules a_p1_sizes a_p1_rows a_p1_seen a_p1_plan a_p1_book t_round t_size t_back t_loads t_miles t_waits t_lateAt t_later t_row p1_stopCount p1_metric p1_fixed p1_roundsOf' p1_sizes' p1_rows') → lv_has ls 3 [(0, .ref a_t), (1, .ref a_p1), (2, .int x2')] → W p l e rm_X0_keep s m args below meth c H locs 0 0 (QV G below args s A (w_X0_keep G a_t a_t_row a_t_comes a_t_begins a_t_slacks a_p1 a_p1_facts a_p1_roundsOf a_p1_locked a_p1_rules a_p1_sizes a_p1_rows a_p1_seen a_p1_plan a_p1_book t_round t_size t_back t_loads t_miles t_waits t_lateAt t_later t_row p1_stopCount p1_metric p1_fixed z_p1_roundsOf z_p1_sizes z_p1_rows)) (F0 m 10 ls [])) {H : Heap} {locs : List Loc} {ls : Array Slot} (hf : b_X0_keep_10 t_row t_round t_size k10 x2 p1_roundsOf p1_sizes p1_rows = some (z_p1_roundsOf, z_p1_sizes, z_p1_rows)) (S : St G A s.heap H locs (w_X0_keep G a_t a_t_row a_t_comes a_t_begins a_t_slacks a_p1 a_p1_facts a_p1_roundsOf a_p1_locked a_p1_rules a_p1_sizes a_p1_rows a_p1_seen a_p1_plan a_p1_book t_round t_size t_back t_loads t_miles t_waits t_lateAt t_later t_row p1_stopCount p1_metric p1_fixed p1_roundsOf p1_sizes p1_rows)) (hl : lv_has ls 3 [(0, .ref a_t), (1, .ref a_p1), (2, .int x2)]) : W p l e rm_X0_keep s m args below meth c H locs 0 0 (QV G below args s A (w_X0_keep G a_t a_t_row a_t_comes a_t_begins a_t_slacks a_p1 a_p1_facts a_p1_roundsOf a_p1_locked a_p1_rules a_p1_sizes a_p1_rows a_p1_seen a_p1_plan a_p1_book t_round t_size t_back t_loads t_miles t_waits t_lateAt t_later t_row p1_stopCount p1_metric p1_fixed z_p1_roundsOf z_p1_sizes z_p1_rows)) (F0 m 10 ls []) := by
  unfold b_X0_keep_10 at hf
  have hx := C.1
  have hb := C.2.1
  have hown := C.2.2.2.2.1
  have hts := C.2.2.2.2.2.1
  have hN := C.2.2.2.2.2.2.2.2.2.2
  refine lv_iload_n (pc := 10) hx hb dX0_keep_10 rfl (lv_at hl 2 rfl) ?_
  refine lv_aload_n (pc := 11) hx hb dX0_keep_11 rfl (lv_at hl 0 rfl) ?_
  refine x_get (pc := 12) (ci := 0) (T := TX0) (v := .int t_size) C S 0 rfl rfl inlX0 5 (by decide) rfl qf_0_34 rfl dX0_keep_12 ?_
  refine lv_icmp_ge (tgt := 44) (pc := 15) hx hb dX0_keep_15 (by decide) (fun c1 => ?_) (fun c1 => ?_)
  · have hf := ifp c1 hf
    cases hf
    exact x_vret (pc := 44) C S dX0_keep_44
  · have hf := ifn c1 hf
    refine lv_iload_n (pc := 18) hx hb dX0_keep_18 rfl (lv_at hl 2 rfl) ?_
    refine lv_bipush (pc := 19) hx hb dX0_keep_19 bc_16 ?_
    refine lv_icmp_ge (tgt := 44) (pc := 21) hx hb dX0_keep_21 (by decide) (fun c2 => ?_) (fun c2 => ?_)
    · have hf := ifp c2 hf
      cases hf
      exact x_vret (pc := 44) C S dX0_keep_44
    · have hf := ifn c2 hf
      refine lv_aload_n (pc := 24) hx hb dX0_keep_24 rfl (lv_at hl 1 rfl) ?_
      refine lv_aload_n (pc := 25) hx hb dX0_keep_25 rfl (lv_at hl 0 rfl) ?_
      refine x_get (pc := 26) (ci := 0) (T := TX0) (v := .int t_round) C S 0 rfl rfl inlX0 4 (by decide) rfl qf_0_24 rfl dX0_keep_26 ?_
      refine lv_aload_n (pc := 29) hx hb dX0_keep_29 rfl (lv_at hl 0 rfl) ?_
      refine x_get (pc := 30) (ci := 0) (T := TX0) (v := .ref a_t_row) C S 0 rfl rfl inlX0 0 (by decide) rfl qf_0_9 rfl dX0_keep_30 ?_
      refine lv_iload_n (pc := 33) hx hb dX0_keep_33 rfl (lv_at hl 2 rfl) ?_
      obtain ⟨hv3, hf⟩ := gI_e hf
      refine x_iald (pc := 34) C S 1 rfl hv3 dX0_keep_34 ?_
      obtain ⟨⟨o4_p1_roundsOf, o4_p1_sizes, o4_p1_rows⟩, hq4, hf⟩ := bd_e hf
      refine x_vV (pc := 35) (As := [.int t_round, .int (t_row x2.toNatClampNeg)]) (rest := []) (isC := [2, 3, 4, 5]) (ws' := (w_X0_keep G a_t a_t_row a_t_comes a_t_begins a_t_slacks a_p1 a_p1_facts a_p1_roundsOf a_p1_locked a_p1_rules a_p1_sizes a_p1_rows a_p1_seen a_p1_plan a_p1_book t_round t_size t_back t_loads t_miles t_waits t_lateAt t_later t_row p1_stopCount p1_metric p1_fixed o4_p1_roundsOf o4_p1_sizes o4_p1_rows)) C S (c_X6_appendToRow l G a_p1 a_p1_facts a_p1_roundsOf a_p1_locked a_p1_rules a_p1_sizes a_p1_rows a_p1_seen a_p1_plan a_p1_book p1_stopCount p1_metric p1_fixed p1_roundsOf p1_sizes p1_rows t_round (t_row x2.toNatClampNeg) o4_p1_roundsOf o4_p1_sizes o4_p1_rows hq4) (u_X0_keep_X6_appendToRow_45 hts) (ci := 6) rfl 2 rfl rfl (by decide +kernel) [none, none, some 0, some 1, some 2, some 3] (by decide +kernel) rfl rfl rfl hl.1 rfl (Nat.le_of_ble_eq_true rfl) dX0_keep_35 (fun H locs S => ?_)
      refine lv_iinc (pc := 38) (v := (x2 + (1 : Int32))) (lv' := [(2, .int (x2 + (1 : Int32))), (0, .ref a_t), (1, .ref a_p1)]) hx hb dX0_keep_38 hl (k := 2) rfl (congrArg (fun z => x2 + z) ic_1) (by decide) rfl (fun ls hl => ?_)
      refine lv_goto (tgt := 10) (pc := 41) hx hb dX0_keep_41 (by decide) ?_
      exact hk10 ((x2 + (1 : Int32))) (o4_p1_roundsOf) (o4_p1_sizes) (o4_p1_rows)  hf S (lv_sub hl [1, 2, 0] rfl)
set_option maxRecDepth 100000 in
set_option maxHeartbeats 4000000 in
theorem h_X0_keep_10 (C : Cx p s m args meth c cX0_keep none 3 RX0 G A) (t_round : Int32) (t_size : Int32) (t_back : Int32) (t_loads : Int32) (t_miles : Int32) (t_waits : Int32) (t_lateAt : Int32) (t_later : Int32) (t_row : Nat → Int32) (p1_stopCount : Int32) (p1_metric : Int32) (p1_fixed : Int32) : ∀ (n : Nat) (x2 : Int32) (p1_roundsOf : Nat → Int32) (p1_sizes : Nat → Int32) (p1_rows : Nat → Int32) {H : Heap} {locs : List Loc} {ls : Array Slot} (hf : lp (fun k x => b_X0_keep_10 t_row t_round t_size k x.1 x.2.1 x.2.2.1 x.2.2.2) n (x2, p1_roundsOf, p1_sizes, p1_rows) = some (z_p1_roundsOf, z_p1_sizes, z_p1_rows)) (S : St G A s.heap H locs (w_X0_keep G a_t a_t_row a_t_comes a_t_begins a_t_slacks a_p1 a_p1_facts a_p1_roundsOf a_p1_locked a_p1_rules a_p1_sizes a_p1_rows a_p1_seen a_p1_plan a_p1_book t_round t_size t_back t_loads t_miles t_waits t_lateAt t_later t_row p1_stopCount p1_metric p1_fixed p1_roundsOf p1_sizes p1_rows)) (hl : lv_has ls 3 [(0, .ref a_t), (1, .ref a_p1), (2, .int x2)]), W p l e rm_X0_keep s m args below meth c H locs 0 0 (QV G below args s A (w_X0_keep G a_t a_t_row a_t_comes a_t_begins a_t_slacks a_p1 a_p1_facts a_p1_roundsOf a_p1_locked a_p1_rules a_p1_sizes a_p1_rows a_p1_seen a_p1_plan a_p1_book t_round t_size t_back t_loads t_miles t_waits t_lateAt t_later t_row p1_stopCount p1_metric p1_fixed z_p1_roundsOf z_p1_sizes z_p1_rows)) (F0 m 10 ls []) := by
  intro n
  induction n with
  | zero =>
    intro x2 p1_roundsOf p1_sizes p1_rows  H locs ls hf
    cases hf
  | succ n ih =>
    intro x2 p1_roundsOf p1_sizes p1_rows  H locs ls hf S hl
    have hf : b_X0_keep_10 t_row t_round t_size (lp (fun k x => b_X0_keep_10 t_row t_round t_size k x.1 x.2.1 x.2.2.1 x.2.2.2) n) x2 p1_roundsOf p1_sizes p1_rows = some (z_p1_roundsOf, z_p1_sizes, z_p1_rows) := hf
    exact k_X0_keep_10 C t_round t_size t_back t_loads t_miles t_waits t_lateAt t_later t_row p1_stopCount p1_metric p1_fixed p1_roundsOf p1_sizes p1_rows x2  (lp (fun k x => b_X0_keep_10 t_row t_round t_size k x.1 x.2.1 x.2.2.1 x.2.2.2) n) (fun x2' p1_roundsOf' p1_sizes' p1_rows'  h S hl => ih x2' p1_roundsOf' p1_sizes' p1_rows'  h S hl) hf S hl
set_option maxRecDepth 100000 in
set_option maxHeartbeats 4000000 in
theorem c_X0_keep (l : Launch) (G : GE) (a_t a_t_row a_t_comes a_t_begins a_t_slacks a_p1 a_p1_facts a_p1_roundsOf a_p1_locked a_p1_rules a_p1_sizes a_p1_rows a_p1_seen a_p1_plan a_p1_book : Nat) (t_round : Int32) (t_size : Int32) (t_back : Int32) (t_loads : Int32) (t_miles : Int32) (t_waits : Int32) (t_lateAt : Int32) (t_later : Int32) (t_row : Nat → Int32) (p1_stopCount : Int32) (p1_metric : Int32) (p1_fixed : Int32) (p1_roundsOf : Nat → Int32) (p1_sizes : Nat → Int32) (p1_rows : Nat → Int32) (z_p1_roundsOf : Nat → Int32) (z_p1_sizes : Nat → Int32) (z_p1_rows : Nat → Int32) (hf : f_X0_keep t_row t_round t_size p1_roundsOf p1_sizes p1_rows = some (z_p1_roundsOf, z_p1_sizes, z_p1_rows)) : CV l G yX0_keep kw_X0_keep rm_X0_keep [.ref a_t, .ref a_p1] (w_X0_keep G a_t a_t_row a_t_comes a_t_begins a_t_slacks a_p1 a_p1_facts a_p1_roundsOf a_p1_locked a_p1_rules a_p1_sizes a_p1_rows a_p1_seen a_p1_plan a_p1_book t_round t_size t_back t_loads t_miles t_waits t_lateAt t_later t_row p1_stopCount p1_metric p1_fixed p1_roundsOf p1_sizes p1_rows) (w_X0_keep G a_t a_t_row a_t_comes a_t_begins a_t_slacks a_p1 a_p1_facts a_p1_roundsOf a_p1_locked a_p1_rules a_p1_sizes a_p1_rows a_p1_seen a_p1_plan a_p1_book t_round t_size t_back t_loads t_miles t_waits t_lateAt t_later t_row p1_stopCount p1_metric p1_fixed z_p1_roundsOf z_p1_sizes z_p1_rows) := by
  refine en_V (cc := cX0_keep) (maxL := 3) (ret := none) (by decide +kernel) (Nat.le_of_ble_eq_true rfl) ?_
  intro p e s m args below meth c A ls C S hl
  have hl : lv_has ls 3 [(0, .ref a_t), (1, .ref a_p1)] := hl
  have C : Cx p s m args meth c cX0_keep none 3 RX0 G A := C
  unfold f_X0_keep at hf
  have hx := C.1
  have hb := C.2.1
  have hown := C.2.2.2.2.1
  have hts := C.2.2.2.2.2.1
  have hN := C.2.2.2.2.2.2.2.2.2.2
  refine lv_aload_n (pc := 0) hx hb dX0_keep_0 rfl (lv_at hl 1 rfl) ?_
  refine lv_aload_n (pc := 1) hx hb dX0_keep_1 rfl (lv_at hl 0 rfl) ?_
  refine x_get (pc := 2) (ci := 0) (T := TX0) (v := .int t_round) C S 0 rfl rfl inlX0 4 (by decide) rfl qf_0_24 rfl dX0_keep_2 ?_
  obtain ⟨⟨o1_p1_roundsOf, o1_p1_sizes⟩, hq1, hf⟩ := bd_e hf
  refine x_vV (pc := 5) (As := [.int t_round]) (rest := []) (isC := [2, 3, 4, 5]) (ws' := (w_X0_keep G a_t a_t_row a_t_comes a_t_begins a_t_slacks a_p1 a_p1_facts a_p1_roundsOf a_p1_locked a_p1_rules a_p1_sizes a_p1_rows a_p1_seen a_p1_plan a_p1_book t_round t_size t_back t_loads t_miles t_waits t_lateAt t_later t_row p1_stopCount p1_metric p1_fixed o1_p1_roundsOf o1_p1_sizes p1_rows)) C S (c_X6_emptyRow l G a_p1 a_p1_facts a_p1_roundsOf a_p1_locked a_p1_rules a_p1_sizes a_p1_rows a_p1_seen a_p1_plan a_p1_book p1_stopCount p1_metric p1_fixed p1_roundsOf p1_sizes p1_rows t_round o1_p1_roundsOf o1_p1_sizes hq1) (u_X0_keep_X6_emptyRow_41 hts) (ci := 6) rfl 2 rfl rfl (by decide +kernel) [none, none, some 0, some 1, some 2, some 3] (by decide +kernel) rfl rfl rfl hl.1 rfl (Nat.le_of_ble_eq_true rfl) dX0_keep_5 (fun H locs S => ?_)
  refine lv_iconst (pc := 8) hx hb dX0_keep_8 ic_0 ?_
  refine lv_istore_n (pc := 9) (lv' := [(2, .int (0 : Int32)), (0, .ref a_t), (1, .ref a_p1)]) hx hb dX0_keep_9 rfl hl (by decide) rfl (fun ls hl => ?_)
  exact h_X0_keep_10 C (t_round) (t_size) (t_back) (t_loads) (t_miles) (t_waits) (t_lateAt) (t_later) (t_row) (p1_stopCount) (p1_metric) (p1_fixed) fu ((0 : Int32)) (o1_p1_roundsOf) (o1_p1_sizes) (p1_rows) hf S (lv_sub hl [1, 2, 0] rfl)
end

abbrev rm_X0_load : Room := { frames := 2, cells := 0, slots := 0, locals := 44 }
abbrev kw_X0_load : Cond := .code yX0_load cX0_load 4 none
abbrev w_X0_load (G : GE) (a_t a_t_row a_t_comes a_t_begins a_t_slacks a_p1 a_p1_facts a_p1_roundsOf a_p1_locked a_p1_rules a_p1_sizes a_p1_rows a_p1_seen a_p1_plan a_p1_book : Nat) (t_round : Int32) (t_size : Int32) (t_back : Int32) (t_loads : Int32) (t_miles : Int32) (t_waits : Int32) (t_lateAt : Int32) (t_later : Int32) (t_row : Nat → Int32) (p1_stopCount : Int32) (p1_metric : Int32) (p1_fixed : Int32) (p1_sizes : Nat → Int32) (p1_rows : Nat → Int32) : va_W := [(a_t, ob 0 [.ref a_t_row, .ref a_t_comes, .ref a_t_begins, .ref a_t_slacks, .int t_round, .int t_size, .int t_back, .int t_loads, .int t_miles, .int t_waits, .int t_lateAt, .int t_later]), (a_t_row, aI G 16 t_row), (a_p1, ob 6 [.ref a_p1_facts, .ref a_p1_roundsOf, .ref a_p1_locked, .ref a_p1_rules, .ref a_p1_sizes, .ref a_p1_rows, .ref a_p1_seen, .ref a_p1_plan, .ref a_p1_book, .int p1_stopCount, .int p1_metric, .int p1_fixed]), (a_p1_sizes, aI G 4 p1_sizes), (a_p1_rows, aI G 64 p1_rows)]
theorem u_X0_load_X6_sizeOf_28 {s : State} {args : Array Value} (hts : ∀ w ∈ WU, w.before args s = true) : CallW rm_X0_load s args RX0 RX6 28 yX6_sizeOf cX6_sizeOf 2 (some .int) (kw_X6_sizeOf :: WU) rm_X6_sizeOf 0 0 1 := cwV 1 hts (gV qm_0_28 qi_X6_sizeOf ql_X6_sizeOf qn_6 qc_X6_sizeOf) rfl rfl rfl (by decide +kernel) ⟨Nat.le_of_ble_eq_true rfl, Nat.le_of_ble_eq_true rfl⟩
theorem u_X0_load_X6_rowAt_37 {s : State} {args : Array Value} (hts : ∀ w ∈ WU, w.before args s = true) : CallW rm_X0_load s args RX0 RX6 37 yX6_rowAt cX6_rowAt 4 (some .int) (kw_X6_rowAt :: WU) rm_X6_rowAt 0 0 2 := cwV 2 hts (gV qm_0_37 qi_X6_rowAt ql_X6_rowAt qn_6 qc_X6_rowAt) rfl rfl rfl (by decide +kernel) ⟨Nat.le_of_ble_eq_true rfl, Nat.le_of_ble_eq_true rfl⟩
section
variable {p : Program} {l : Launch} {e : Env} {s : State} {m : MethodId} {args : Array Value} {below : List Frame} {meth : Method} {c : Code} {A : Nat → Prop} {G : GE} {a_t a_t_row a_t_comes a_t_begins a_t_slacks a_p1 a_p1_facts a_p1_roundsOf a_p1_locked a_p1_rules a_p1_sizes a_p1_rows a_p1_seen a_p1_plan a_p1_book : Nat} {z_t_row : Nat → Int32} {z_t_round : Int32} {z_t_size : Int32}
set_option maxRecDepth 100000 in
set_option maxHeartbeats 4000000 in
theorem k_X0_load_16 (C : Cx p s m args meth c cX0_load none 4 RX0 G A) (t_round : Int32) (t_size : Int32) (t_back : Int32) (t_loads : Int32) (t_miles : Int32) (t_waits : Int32) (t_lateAt : Int32) (t_later : Int32) (t_row : Nat → Int32) (p1_stopCount : Int32) (p1_metric : Int32) (p1_fixed : Int32) (p1_sizes : Nat → Int32) (p1_rows : Nat → Int32) (x2 : Int32) (x3 : Int32) (k16 : Int32 × (Nat → Int32) → Option ((Nat → Int32) × Int32 × Int32)) (hk16 : ∀ {H : Heap} {locs : List Loc} {ls : Array Slot} (x3' : Int32) (t_row' : Nat → Int32), k16 (x3', t_row') = some (z_t_row, z_t_round, z_t_size) → St G A s.heap H locs (w_X0_load G a_t a_t_row a_t_comes a_t_begins a_t_slacks a_p1 a_p1_facts a_p1_roundsOf a_p1_locked a_p1_rules a_p1_sizes a_p1_rows a_p1_seen a_p1_plan a_p1_book t_round t_size t_back t_loads t_miles t_waits t_lateAt t_later t_row' p1_stopCount p1_metric p1_fixed p1_sizes p1_rows) → lv_has ls 4 [(0, .ref a_t), (1, .ref a_p1), (2, .int x2), (3, .int x3')] → W p l e rm_X0_load s m args below meth c H locs 0 0 (QV G below args s A (w_X0_load G a_t a_t_row a_t_comes a_t_begins a_t_slacks a_p1 a_p1_facts a_p1_roundsOf a_p1_locked a_p1_rules a_p1_sizes a_p1_rows a_p1_seen a_p1_plan a_p1_book z_t_round z_t_size t_back t_loads t_miles t_waits t_lateAt t_later z_t_row p1_stopCount p1_metric p1_fixed p1_sizes p1_rows)) (F0 m 16 ls [])) {H : Heap} {locs : List Loc} {ls : Array Slot} (hf : b_X0_load_16 x2 t_round t_size p1_sizes p1_rows k16 x3 t_row = some (z_t_row, z_t_round, z_t_size)) (S : St G A s.heap H locs (w_X0_load G a_t a_t_row a_t_comes a_t_begins a_t_slacks a_p1 a_p1_facts a_p1_roundsOf a_p1_locked a_p1_rules a_p1_sizes a_p1_rows a_p1_seen a_p1_plan a_p1_book t_round t_size t_back t_loads t_miles t_waits t_lateAt t_later t_row p1_stopCount p1_metric p1_fixed p1_sizes p1_rows)) (hl : lv_has ls 4 [(0, .ref a_t), (1, .ref a_p1), (2, .int x2), (3, .int x3)]) : W p l e rm_X0_load s m args below meth c H locs 0 0 (QV G below args s A (w_X0_load G a_t a_t_row a_t_comes a_t_begins a_t_slacks a_p1 a_p1_facts a_p1_roundsOf a_p1_locked a_p1_rules a_p1_sizes a_p1_rows a_p1_seen a_p1_plan a_p1_book z_t_round z_t_size t_back t_loads t_miles t_waits t_lateAt t_later z_t_row p1_stopCount p1_metric p1_fixed p1_sizes p1_rows)) (F0 m 16 ls []) := by
  unfold b_X0_load_16 at hf
  have hx := C.1
  have hb := C.2.1
  have hown := C.2.2.2.2.1
  have hts := C.2.2.2.2.2.1
  have hN := C.2.2.2.2.2.2.2.2.2.2
  refine lv_iload_n (pc := 16) hx hb dX0_load_16 rfl (lv_at hl 3 rfl) ?_
  refine lv_aload_n (pc := 17) hx hb dX0_load_17 rfl (lv_at hl 0 rfl) ?_
  refine x_get (pc := 18) (ci := 0) (T := TX0) (v := .int t_size) C S 0 rfl rfl inlX0 5 (by decide) rfl qf_0_34 rfl dX0_load_18 ?_
  refine lv_icmp_ge (tgt := 48) (pc := 21) hx hb dX0_load_21 (by decide) (fun c1 => ?_) (fun c1 => ?_)
  · have hf := ifp c1 hf
    cases hf
    exact x_vret (pc := 48) C S dX0_load_48
  · have hf := ifn c1 hf
    refine lv_iload_n (pc := 24) hx hb dX0_load_24 rfl (lv_at hl 3 rfl) ?_
    refine lv_bipush (pc := 25) hx hb dX0_load_25 bc_16 ?_
    refine lv_icmp_ge (tgt := 48) (pc := 27) hx hb dX0_load_27 (by decide) (fun c2 => ?_) (fun c2 => ?_)
    · have hf := ifp c2 hf
      cases hf
      exact x_vret (pc := 48) C S dX0_load_48
    · have hf := ifn c2 hf
      refine lv_aload_n (pc := 30) hx hb dX0_load_30 rfl (lv_at hl 0 rfl) ?_
      refine x_get (pc := 31) (ci := 0) (T := TX0) (v := .ref a_t_row) C S 0 rfl rfl inlX0 0 (by decide) rfl qf_0_9 rfl dX0_load_31 ?_
      refine lv_iload_n (pc := 34) hx hb dX0_load_34 rfl (lv_at hl 3 rfl) ?_
      refine lv_aload_n (pc := 35) hx hb dX0_load_35 rfl (lv_at hl 1 rfl) ?_
      refine lv_iload_n (pc := 36) hx hb dX0_load_36 rfl (lv_at hl 2 rfl) ?_
      refine lv_iload_n (pc := 37) hx hb dX0_load_37 rfl (lv_at hl 3 rfl) ?_
      obtain ⟨r3, hq3, hf⟩ := bd_e hf
      refine x_vI (pc := 38) (As := [.int x2, .int x3]) (rest := [.int x3, .ref a_t_row]) (isC := [2, 3, 4]) (ws' := (w_X0_load G a_t a_t_row a_t_comes a_t_begins a_t_slacks a_p1 a_p1_facts a_p1_roundsOf a_p1_locked a_p1_rules a_p1_sizes a_p1_rows a_p1_seen a_p1_plan a_p1_book t_round t_size t_back t_loads t_miles t_waits t_lateAt t_later t_row p1_stopCount p1_metric p1_fixed p1_sizes p1_rows)) C S (c_X6_rowAt l G a_p1 a_p1_facts a_p1_roundsOf a_p1_locked a_p1_rules a_p1_sizes a_p1_rows a_p1_seen a_p1_plan a_p1_book p1_stopCount p1_metric p1_fixed p1_sizes p1_rows x2 x3 r3 hq3) (u_X0_load_X6_rowAt_37 hts) (ci := 6) rfl 2 rfl rfl (by decide +kernel) [none, none, some 0, some 1, some 2] (by decide +kernel) rfl rfl rfl hl.1 rfl (Nat.le_of_ble_eq_true rfl) dX0_load_38 (fun H locs S => ?_)
      obtain ⟨hv4, hf⟩ := gI_e hf
      refine x_iast (pc := 41) (ws' := (w_X0_load G a_t a_t_row a_t_comes a_t_begins a_t_slacks a_p1 a_p1_facts a_p1_roundsOf a_p1_locked a_p1_rules a_p1_sizes a_p1_rows a_p1_seen a_p1_plan a_p1_book t_round t_size t_back t_loads t_miles t_waits t_lateAt t_later (upd t_row x3.toNatClampNeg r3) p1_stopCount p1_metric p1_fixed p1_sizes p1_rows)) C S 1 rfl hv4 rfl dX0_load_41 (fun H locs S => ?_)
      refine lv_iinc (pc := 42) (v := (x3 + (1 : Int32))) (lv' := [(3, .int (x3 + (1 : Int32))), (0, .ref a_t), (1, .ref a_p1), (2, .int x2)]) hx hb dX0_load_42 hl (k := 3) rfl (congrArg (fun z => x3 + z) ic_1) (by decide) rfl (fun ls hl => ?_)
      refine lv_goto (tgt := 16) (pc := 45) hx hb dX0_load_45 (by decide) ?_
      exact hk16 ((x3 + (1 : Int32))) ((upd t_row x3.toNatClampNeg r3))  hf S (lv_sub hl [1, 2, 3, 0] rfl)
set_option maxRecDepth 100000 in
set_option maxHeartbeats 4000000 in
theorem h_X0_load_16 (C : Cx p s m args meth c cX0_load none 4 RX0 G A) (t_round : Int32) (t_size : Int32) (t_back : Int32) (t_loads : Int32) (t_miles : Int32) (t_waits : Int32) (t_lateAt : Int32) (t_later : Int32) (p1_stopCount : Int32) (p1_metric : Int32) (p1_fixed : Int32) (p1_sizes : Nat → Int32) (p1_rows : Nat → Int32) (x2 : Int32) : ∀ (n : Nat) (x3 : Int32) (t_row : Nat → Int32) {H : Heap} {locs : List Loc} {ls : Array Slot} (hf : lp (fun k x => b_X0_load_16 x2 t_round t_size p1_sizes p1_rows k x.1 x.2) n (x3, t_row) = some (z_t_row, z_t_round, z_t_size)) (S : St G A s.heap H locs (w_X0_load G a_t a_t_row a_t_comes a_t_begins a_t_slacks a_p1 a_p1_facts a_p1_roundsOf a_p1_locked a_p1_rules a_p1_sizes a_p1_rows a_p1_seen a_p1_plan a_p1_book t_round t_size t_back t_loads t_miles t_waits t_lateAt t_later t_row p1_stopCount p1_metric p1_fixed p1_sizes p1_rows)) (hl : lv_has ls 4 [(0, .ref a_t), (1, .ref a_p1), (2, .int x2), (3, .int x3)]), W p l e rm_X0_load s m args below meth c H locs 0 0 (QV G below args s A (w_X0_load G a_t a_t_row a_t_comes a_t_begins a_t_slacks a_p1 a_p1_facts a_p1_roundsOf a_p1_locked a_p1_rules a_p1_sizes a_p1_rows a_p1_seen a_p1_plan a_p1_book z_t_round z_t_size t_back t_loads t_miles t_waits t_lateAt t_later z_t_row p1_stopCount p1_metric p1_fixed p1_sizes p1_rows)) (F0 m 16 ls []) := by
  intro n
  induction n with
  | zero =>
    intro x3 t_row  H locs ls hf
    cases hf
  | succ n ih =>
    intro x3 t_row  H locs ls hf S hl
    have hf : b_X0_load_16 x2 t_round t_size p1_sizes p1_rows (lp (fun k x => b_X0_load_16 x2 t_round t_size p1_sizes p1_rows k x.1 x.2) n) x3 t_row = some (z_t_row, z_t_round, z_t_size) := hf
    exact k_X0_load_16 C t_round t_size t_back t_loads t_miles t_waits t_lateAt t_later t_row p1_stopCount p1_metric p1_fixed p1_sizes p1_rows x2 x3  (lp (fun k x => b_X0_load_16 x2 t_round t_size p1_sizes p1_rows k x.1 x.2) n) (fun x3' t_row'  h S hl => ih x3' t_row'  h S hl) hf S hl
set_option maxRecDepth 100000 in
set_option maxHeartbeats 4000000 in
theorem c_X0_load (l : Launch) (G : GE) (a_t a_t_row a_t_comes a_t_begins a_t_slacks a_p1 a_p1_facts a_p1_roundsOf a_p1_locked a_p1_rules a_p1_sizes a_p1_rows a_p1_seen a_p1_plan a_p1_book : Nat) (t_round : Int32) (t_size : Int32) (t_back : Int32) (t_loads : Int32) (t_miles : Int32) (t_waits : Int32) (t_lateAt : Int32) (t_later : Int32) (t_row : Nat → Int32) (p1_stopCount : Int32) (p1_metric : Int32) (p1_fixed : Int32) (p1_sizes : Nat → Int32) (p1_rows : Nat → Int32) (x2 : Int32) (z_t_row : Nat → Int32) (z_t_round : Int32) (z_t_size : Int32) (hf : f_X0_load t_row p1_sizes p1_rows x2 = some (z_t_row, z_t_round, z_t_size)) : CV l G yX0_load kw_X0_load rm_X0_load [.ref a_t, .ref a_p1, .int x2] (w_X0_load G a_t a_t_row a_t_comes a_t_begins a_t_slacks a_p1 a_p1_facts a_p1_roundsOf a_p1_locked a_p1_rules a_p1_sizes a_p1_rows a_p1_seen a_p1_plan a_p1_book t_round t_size t_back t_loads t_miles t_waits t_lateAt t_later t_row p1_stopCount p1_metric p1_fixed p1_sizes p1_rows) (w_X0_load G a_t a_t_row a_t_comes a_t_begins a_t_slacks a_p1 a_p1_facts a_p1_roundsOf a_p1_locked a_p1_rules a_p1_sizes a_p1_rows a_p1_seen a_p1_plan a_p1_book z_t_round z_t_size t_back t_loads t_miles t_waits t_lateAt t_later z_t_row p1_stopCount p1_metric p1_fixed p1_sizes p1_rows) := by
  refine en_V (cc := cX0_load) (maxL := 4) (ret := none) (by decide +kernel) (Nat.le_of_ble_eq_true rfl) ?_
  intro p e s m args below meth c A ls C S hl
  have hl : lv_has ls 4 [(0, .ref a_t), (1, .ref a_p1), (2, .int x2)] := hl
  have C : Cx p s m args meth c cX0_load none 4 RX0 G A := C
  unfold f_X0_load at hf
  have hx := C.1
  have hb := C.2.1
  have hown := C.2.2.2.2.1
  have hts := C.2.2.2.2.2.1
  have hN := C.2.2.2.2.2.2.2.2.2.2
  refine lv_aload_n (pc := 0) hx hb dX0_load_0 rfl (lv_at hl 0 rfl) ?_
  refine lv_iload_n (pc := 1) hx hb dX0_load_1 rfl (lv_at hl 2 rfl) ?_
  refine x_put (pc := 2) (ci := 0) (T := TX0) (ws' := (w_X0_load G a_t a_t_row a_t_comes a_t_begins a_t_slacks a_p1 a_p1_facts a_p1_roundsOf a_p1_locked a_p1_rules a_p1_sizes a_p1_rows a_p1_seen a_p1_plan a_p1_book x2 t_size t_back t_loads t_miles t_waits t_lateAt t_later t_row p1_stopCount p1_metric p1_fixed p1_sizes p1_rows)) C S tyX0 tyX0_ok nmX0 0 rfl rfl inlX0 4 (by decide) rfl qf_0_24 rfl rfl rfl rfl (Nat.le_of_ble_eq_true rfl) rfl dX0_load_2 (fun H locs S => ?_)
  refine lv_aload_n (pc := 5) hx hb dX0_load_5 rfl (lv_at hl 0 rfl) ?_
  refine lv_aload_n (pc := 6) hx hb dX0_load_6 rfl (lv_at hl 1 rfl) ?_
  refine lv_iload_n (pc := 7) hx hb dX0_load_7 rfl (lv_at hl 2 rfl) ?_
  obtain ⟨r1, hq1, hf⟩ := bd_e hf
  refine x_vI (pc := 8) (As := [.int x2]) (rest := [.ref a_t]) (isC := [2, 3]) (ws' := (w_X0_load G a_t a_t_row a_t_comes a_t_begins a_t_slacks a_p1 a_p1_facts a_p1_roundsOf a_p1_locked a_p1_rules a_p1_sizes a_p1_rows a_p1_seen a_p1_plan a_p1_book x2 t_size t_back t_loads t_miles t_waits t_lateAt t_later t_row p1_stopCount p1_metric p1_fixed p1_sizes p1_rows)) C S (c_X6_sizeOf l G a_p1 a_p1_facts a_p1_roundsOf a_p1_locked a_p1_rules a_p1_sizes a_p1_rows a_p1_seen a_p1_plan a_p1_book p1_stopCount p1_metric p1_fixed p1_sizes x2 r1 hq1) (u_X0_load_X6_sizeOf_28 hts) (ci := 6) rfl 2 rfl rfl (by decide +kernel) [none, none, some 0, some 1, none] (by decide +kernel) rfl rfl rfl hl.1 rfl (Nat.le_of_ble_eq_true rfl) dX0_load_8 (fun H locs S => ?_)
  refine x_put (pc := 11) (ci := 0) (T := TX0) (ws' := (w_X0_load G a_t a_t_row a_t_comes a_t_begins a_t_slacks a_p1 a_p1_facts a_p1_roundsOf a_p1_locked a_p1_rules a_p1_sizes a_p1_rows a_p1_seen a_p1_plan a_p1_book x2 r1 t_back t_loads t_miles t_waits t_lateAt t_later t_row p1_stopCount p1_metric p1_fixed p1_sizes p1_rows)) C S tyX0 tyX0_ok nmX0 0 rfl rfl inlX0 5 (by decide) rfl qf_0_34 rfl rfl rfl rfl (Nat.le_of_ble_eq_true rfl) rfl dX0_load_11 (fun H locs S => ?_)
  refine lv_iconst (pc := 14) hx hb dX0_load_14 ic_0 ?_
  refine lv_istore_n (pc := 15) (lv' := [(3, .int (0 : Int32)), (0, .ref a_t), (1, .ref a_p1), (2, .int x2)]) hx hb dX0_load_15 rfl hl (by decide) rfl (fun ls hl => ?_)
  exact h_X0_load_16 C (x2) (r1) (t_back) (t_loads) (t_miles) (t_waits) (t_lateAt) (t_later) (p1_stopCount) (p1_metric) (p1_fixed) (p1_sizes) (p1_rows) (x2) fu ((0 : Int32)) (t_row) hf S (lv_sub hl [1, 2, 3, 0] rfl)
end

abbrev rm_X0_lookBack : Room := { frames := 2, cells := 0, slots := 0, locals := 50 }
abbrev kw_X0_lookBack : Cond := .code yX0_lookBack cX0_lookBack 8 none
abbrev w_X0_lookBack (G : GE) (a_t a_t_row a_t_comes a_t_begins a_t_slacks a_p1 a_p1_facts a_p1_roundsOf a_p1_locked a_p1_rules a_p1_sizes a_p1_rows a_p1_seen a_p1_plan a_p1_book : Nat) (t_round : Int32) (t_size : Int32) (t_back : Int32) (t_loads : Int32) (t_miles : Int32) (t_waits : Int32) (t_lateAt : Int32) (t_later : Int32) (t_row : Nat → Int32) (t_comes : Nat → Int32) (t_begins : Nat → Int32) (t_slacks : Nat → Int32) (p1_stopCount : Int32) (p1_metric : Int32) (p1_fixed : Int32) (p1_facts : Nat → Int32) (p1_rules : Nat → Int32) : va_W := [(a_t, ob 0 [.ref a_t_row, .ref a_t_comes, .ref a_t_begins, .ref a_t_slacks, .int t_round, .int t_size, .int t_back, .int t_loads, .int t_miles, .int t_waits, .int t_lateAt, .int t_later]), (a_t_row, aI G 16 t_row), (a_t_comes, aI G 16 t_comes), (a_t_begins, aI G 16 t_begins), (a_t_slacks, aI G 16 t_slacks), (a_p1, ob 6 [.ref a_p1_facts, .ref a_p1_roundsOf, .ref a_p1_locked, .ref a_p1_rules, .ref a_p1_sizes, .ref a_p1_rows, .ref a_p1_seen, .ref a_p1_plan, .ref a_p1_book, .int p1_stopCount, .int p1_metric, .int p1_fixed]), (a_p1_facts, aI G 102 p1_facts), (a_p1_rules, aI G 12 p1_rules)]
theorem u_X0_lookBack_X6_ruleOf_59 {s : State} {args : Array Value} (hts : ∀ w ∈ WU, w.before args s = true) : CallW rm_X0_lookBack s args RX0 RX6 59 yX6_ruleOf cX6_ruleOf 4 (some .int) (kw_X6_ruleOf :: WU) rm_X6_ruleOf 0 0 2 := cwV 2 hts (gV qm_0_59 qi_X6_ruleOf ql_X6_ruleOf qn_6 qc_X6_ruleOf) rfl rfl rfl (by decide +kernel) ⟨Nat.le_of_ble_eq_true rfl, Nat.le_of_ble_eq_true rfl⟩
theorem u_X0_lookBack_X6_way_74 {s : State} {args : Array Value} (hts : ∀ w ∈ WU, w.before args s = true) : CallW rm_X0_lookBack s args RX0 RX6 74 yX6_way cX6_way 3 (some .int) (kw_X6_way :: WU) rm_X6_way 0 0 2 := cwV 2 hts (gV qm_0_74 qi_X6_way ql_X6_way qn_6 qc_X6_way) rfl rfl rfl (by decide +kernel) ⟨Nat.le_of_ble_eq_true rfl, Nat.le_of_ble_eq_true rfl⟩
theorem u_X0_lookBack_X6_fact_77 {s : State} {args : Array Value} (hts : ∀ w ∈ WU, w.before args s = true) : CallW rm_X0_lookBack s args RX0 RX6 77 yX6_fact cX6_fact 4 (some .int) (kw_X6_fact :: WU) rm_X6_fact 0 0 2 := cwV 2 hts (gV qm_0_77 qi_X6_fact ql_X6_fact qn_6 qc_X6_fact) rfl rfl rfl (by decide +kernel) ⟨Nat.le_of_ble_eq_true rfl, Nat.le_of_ble_eq_true rfl⟩
section
variable {p : Program} {l : Launch} {e : Env} {s : State} {m : MethodId} {args : Array Value} {below : List Frame} {meth : Method} {c : Code} {A : Nat → Prop} {G : GE} {a_t a_t_row a_t_comes a_t_begins a_t_slacks a_p1 a_p1_facts a_p1_roundsOf a_p1_locked a_p1_rules a_p1_sizes a_p1_rows a_p1_seen a_p1_plan a_p1_book : Nat} {z_t_slacks : Nat → Int32} {z_t_later : Int32}
set_option maxRecDepth 100000 in
set_option maxHeartbeats 4000000 in
theorem k_X0_lookBack_84 (C : Cx p s m args meth c cX0_lookBack none 8 RX0 G A) (t_round : Int32) (t_size : Int32) (t_back : Int32) (t_loads : Int32) (t_miles : Int32) (t_waits : Int32) (t_lateAt : Int32) (t_later : Int32) (t_row : Nat → Int32) (t_comes : Nat → Int32) (t_begins : Nat → Int32) (t_slacks : Nat → Int32) (p1_stopCount : Int32) (p1_metric : Int32) (p1_fixed : Int32) (p1_facts : Nat → Int32) (p1_rules : Nat → Int32) (x4 : Int32) (x5 : Int32) (y0 : Int32) (k21 : Int32 × Int32 × Int32 × (Nat → Int32) × Int32 → Option ((Nat → Int32) × Int32)) (hk21 : ∀ {H : Heap} {locs : List Loc} {ls : Array Slot} (x2' : Int32) (x3' : Int32) (x4' : Int32) (t_slacks' : Nat → Int32) (t_later' : Int32), k21 (x2', x3', x4', t_slacks', t_later') = some (z_t_slacks, z_t_later) → St G A s.heap H locs (w_X0_lookBack G a_t a_t_row a_t_comes a_t_begins a_t_slacks a_p1 a_p1_facts a_p1_roundsOf a_p1_locked a_p1_rules a_p1_sizes a_p1_rows a_p1_seen a_p1_plan a_p1_book t_round t_size t_back t_loads t_miles t_waits t_lateAt t_later' t_row t_comes t_begins t_slacks' p1_stopCount p1_metric p1_fixed p1_facts p1_rules) → lv_has ls 8 [(0, .ref a_t), (1, .ref a_p1), (2, .int x2'), (3, .int x3'), (4, .int x4')] → W p l e rm_X0_lookBack s m args below meth c H locs 0 0 (QV G below args s A (w_X0_lookBack G a_t a_t_row a_t_comes a_t_begins a_t_slacks a_p1 a_p1_facts a_p1_roundsOf a_p1_locked a_p1_rules a_p1_sizes a_p1_rows a_p1_seen a_p1_plan a_p1_book t_round t_size t_back t_loads t_miles t_waits t_lateAt z_t_later t_row t_comes t_begins z_t_slacks p1_stopCount p1_metric p1_fixed p1_facts p1_rules)) (F0 m 21 ls [])) {H : Heap} {locs : List Loc} {ls : Array Slot} (hf : b_X0_lookBack_84 k21 x4 x5 y0 t_row t_comes t_begins t_slacks p1_facts p1_metric = some (z_t_slacks, z_t_later)) (S : St G A s.heap H locs (w_X0_lookBack G a_t a_t_row a_t_comes a_t_begins a_t_slacks a_p1 a_p1_facts a_p1_roundsOf a_p1_locked a_p1_rules a_p1_sizes a_p1_rows a_p1_seen a_p1_plan a_p1_book t_round t_size t_back t_loads t_miles t_waits t_lateAt t_later t_row t_comes t_begins t_slacks p1_stopCount p1_metric p1_fixed p1_facts p1_rules)) (hl : lv_has ls 8 [(0, .ref a_t), (1, .ref a_p1), (4, .int x4), (5, .int x5)]) : W p l e rm_X0_lookBack s m args below meth c H locs 0 0 (QV G below args s A (w_X0_lookBack G a_t a_t_row a_t_comes a_t_begins a_t_slacks a_p1 a_p1_facts a_p1_roundsOf a_p1_locked a_p1_rules a_p1_sizes a_p1_rows a_p1_seen a_p1_plan a_p1_book t_round t_size t_back t_loads t_miles t_waits t_lateAt z_t_later t_row t_comes t_begins z_t_slacks p1_stopCount p1_metric p1_fixed p1_facts p1_rules)) (F0 m 84 ls [.int y0]) := by
  unfold b_X0_lookBack_84 at hf
  have hx := C.1
  have hb := C.2.1
  have hown := C.2.2.2.2.1
  have hts := C.2.2.2.2.2.1
  have hN := C.2.2.2.2.2.2.2.2.2.2
  refine lv_istore_n (pc := 84) (lv' := [(2, .int y0), (0, .ref a_t), (1, .ref a_p1), (4, .int x4), (5, .int x5)]) hx hb dX0_lookBack_84 rfl hl (by decide) rfl (fun ls hl => ?_)
  refine lv_aload_n (pc := 85) hx hb dX0_lookBack_85 rfl (lv_at hl 1 rfl) ?_
  refine x_get (pc := 86) (ci := 0) (T := TX0) (v := .ref a_t_slacks) C S 0 rfl rfl inlX0 3 (by decide) rfl qf_0_21 rfl dX0_lookBack_86 ?_
  refine lv_iload (pc := 89) hx hb dX0_lookBack_89 (lv_at hl 3 rfl) ?_
  refine lv_iload_n (pc := 91) hx hb dX0_lookBack_91 rfl (lv_at hl 0 rfl) ?_
  refine lv_aload_n (pc := 92) hx hb dX0_lookBack_92 rfl (lv_at hl 1 rfl) ?_
  refine x_get (pc := 93) (ci := 0) (T := TX0) (v := .ref a_t_begins) C S 0 rfl rfl inlX0 2 (by decide) rfl qf_0_18 rfl dX0_lookBack_93 ?_
  refine lv_iload (pc := 96) hx hb dX0_lookBack_96 (lv_at hl 3 rfl) ?_
  obtain ⟨hv1, hf⟩ := gI_e hf
  refine x_iald (pc := 98) C S 3 rfl hv1 dX0_lookBack_98 ?_
  refine lv_isub (pc := 99) hx hb dX0_lookBack_99 ?_
  refine x_iast (pc := 100) (ws' := (w_X0_lookBack G a_t a_t_row a_t_comes a_t_begins a_t_slacks a_p1 a_p1_facts a_p1_roundsOf a_p1_locked a_p1_rules a_p1_sizes a_p1_rows a_p1_seen a_p1_plan a_p1_book t_round t_size t_back t_loads t_miles t_waits t_lateAt t_later t_row t_comes t_begins (upd t_slacks x4.toNatClampNeg (y0 - (t_begins x4.toNatClampNeg))) p1_stopCount p1_metric p1_fixed p1_facts p1_rules)) C S 4 rfl hv1 rfl dX0_lookBack_100 (fun H locs S => ?_)
  refine lv_aload_n (pc := 101) hx hb dX0_lookBack_101 rfl (lv_at hl 1 rfl) ?_
  refine lv_iload_n (pc := 102) hx hb dX0_lookBack_102 rfl (lv_at hl 0 rfl) ?_
  refine lv_aload_n (pc := 103) hx hb dX0_lookBack_103 rfl (lv_at hl 1 rfl) ?_
  refine x_get (pc := 104) (ci := 0) (T := TX0) (v := .ref a_t_comes) C S 0 rfl rfl inlX0 1 (by decide) rfl qf_0_15 rfl dX0_lookBack_104 ?_
  refine lv_iload (pc := 107) hx hb dX0_lookBack_107 (lv_at hl 3 rfl) ?_
  refine x_iald (pc := 109) C S 2 rfl hv1 dX0_lookBack_109 ?_
  refine lv_isub (pc := 110) hx hb dX0_lookBack_110 ?_
  refine x_put (pc := 111) (ci := 0) (T := TX0) (ws' := (w_X0_lookBack G a_t a_t_row a_t_comes a_t_begins a_t_slacks a_p1 a_p1_facts a_p1_roundsOf a_p1_locked a_p1_rules a_p1_sizes a_p1_rows a_p1_seen a_p1_plan a_p1_book t_round t_size t_back t_loads t_miles t_waits t_lateAt (y0 - (t_comes x4.toNatClampNeg)) t_row t_comes t_begins (upd t_slacks x4.toNatClampNeg (y0 - (t_begins x4.toNatClampNeg))) p1_stopCount p1_metric p1_fixed p1_facts p1_rules)) C S tyX0 tyX0_ok nmX0 0 rfl rfl inlX0 11 (by decide) rfl qf_0_83 rfl rfl rfl rfl (Nat.le_of_ble_eq_true rfl) rfl dX0_lookBack_111 (fun H locs S => ?_)
  refine lv_iload (pc := 114) hx hb dX0_lookBack_114 (lv_at hl 4 rfl) ?_
  refine lv_istore_n (pc := 116) (lv' := [(3, .int x5), (2, .int y0), (0, .ref a_t), (1, .ref a_p1), (4, .int x4), (5, .int x5)]) hx hb dX0_lookBack_116 rfl hl (by decide) rfl (fun ls hl => ?_)
  refine lv_iinc (pc := 117) (v := (x4 + (-1 : Int32))) (lv' := [(4, .int (x4 + (-1 : Int32))), (3, .int x5), (2, .int y0), (0, .ref a_t), (1, .ref a_p1), (5, .int x5)]) hx hb dX0_lookBack_117 hl (k := 4) rfl (congrArg (fun z => x4 + z) ic_m1) (by decide) rfl (fun ls hl => ?_)
  refine lv_goto (tgt := 21) (pc := 120) hx hb dX0_lookBack_120 (by decide) ?_
  exact hk21 (y0) (x5) ((x4 + (-1 : Int32))) ((upd t_slacks x4.toNatClampNeg (y0 - (t_begins x4.toNatClampNeg)))) ((y0 - (t_comes x4.toNatClampNeg)))  hf S (lv_sub hl [3, 4, 2, 1, 0] rfl)
set_option maxRecDepth 100000 in
set_option maxHeartbeats 4000000 in
theorem k_X0_lookBack_21 (C : Cx p s m args meth c cX0_lookBack none 8 RX0 G A) (t_round : Int32) (t_size : Int32) (t_back : Int32) (t_loads : Int32) (t_miles : Int32) (t_waits : Int32) (t_lateAt : Int32) (t_later : Int32) (t_row : Nat → Int32) (t_comes : Nat → Int32) (t_begins : Nat → Int32) (t_slacks : Nat → Int32) (p1_stopCount : Int32) (p1_metric : Int32) (p1_fixed : Int32) (p1_facts : Nat → Int32) (p1_rules : Nat → Int32) (x2 : Int32) (x3 : Int32) (x4 : Int32) (k21 : Int32 × Int32 × Int32 × (Nat → Int32) × Int32 → Option ((Nat → Int32) × Int32)) (hk21 : ∀ {H : Heap} {locs : List Loc} {ls : Array Slot} (x2' : Int32) (x3' : Int32) (x4' : Int32) (t_slacks' : Nat → Int32) (t_later' : Int32), k21 (x2', x3', x4', t_slacks', t_later') = some (z_t_slacks, z_t_later) → St G A s.heap H locs (w_X0_lookBack G a_t a_t_row a_t_comes a_t_begins a_t_slacks a_p1 a_p1_facts a_p1_roundsOf a_p1_locked a_p1_rules a_p1_sizes a_p1_rows a_p1_seen a_p1_plan a_p1_book t_round t_size t_back t_loads t_miles t_waits t_lateAt t_later' t_row t_comes t_begins t_slacks' p1_stopCount p1_metric p1_fixed p1_facts p1_rules) → lv_has ls 8 [(0, .ref a_t), (1, .ref a_p1), (2, .int x2'), (3, .int x3'), (4, .int x4')] → W p l e rm_X0_lookBack s m args below meth c H locs 0 0 (QV G below args s A (w_X0_lookBack G a_t a_t_row a_t_comes a_t_begins a_t_slacks a_p1 a_p1_facts a_p1_roundsOf a_p1_locked a_p1_rules a_p1_sizes a_p1_rows a_p1_seen a_p1_plan a_p1_book t_round t_size t_back t_loads t_miles t_waits t_lateAt z_t_later t_row t_comes t_begins z_t_slacks p1_stopCount p1_metric p1_fixed p1_facts p1_rules)) (F0 m 21 ls [])) {H : Heap} {locs : List Loc} {ls : Array Slot} (hf : b_X0_lookBack_21 t_row t_comes t_begins p1_facts p1_metric k21 x2 x3 x4 t_slacks t_later = some (z_t_slacks, z_t_later)) (S : St G A s.heap H locs (w_X0_lookBack G a_t a_t_row a_t_comes a_t_begins a_t_slacks a_p1 a_p1_facts a_p1_roundsOf a_p1_locked a_p1_rules a_p1_sizes a_p1_rows a_p1_seen a_p1_plan a_p1_book t_round t_size t_back t_loads t_miles t_waits t_lateAt t_later t_row t_comes t_begins t_slacks p1_stopCount p1_metric p1_fixed p1_facts p1_rules)) (hl : lv_has ls 8 [(0, .ref a_t), (1, .ref a_p1), (2, .int x2), (3, .int x3), (4, .int x4)]) : W p l e rm_X0_lookBack s m args below meth c H locs 0 0 (QV G below args s A (w_X0_lookBack G a_t a_t_row a_t_comes a_t_begins a_t_slacks a_p1 a_p1_facts a_p1_roundsOf a_p1_locked a_p1_rules a_p1_sizes a_p1_rows a_p1_seen a_p1_plan a_p1_book t_round t_size t_back t_loads t_miles t_waits t_lateAt z_t_later t_row t_comes t_begins z_t_slacks p1_stopCount p1_metric p1_fixed p1_facts p1_rules)) (F0 m 21 ls []) := by
  unfold b_X0_lookBack_21 at hf
  have hx := C.1
  have hb := C.2.1
  have hown := C.2.2.2.2.1
  have hts := C.2.2.2.2.2.1
  have hN := C.2.2.2.2.2.2.2.2.2.2
  refine lv_iload (pc := 21) hx hb dX0_lookBack_21 (lv_at hl 4 rfl) ?_
  refine lv_if_lt (tgt := 123) (pc := 23) hx hb dX0_lookBack_23 (by decide) (fun c1 => ?_) (fun c1 => ?_)
  · have hf := ifp c1 hf
    cases hf
    exact x_vret (pc := 123) C S dX0_lookBack_123
  · have hf := ifn c1 hf
    refine lv_iload (pc := 26) hx hb dX0_lookBack_26 (lv_at hl 4 rfl) ?_
    refine lv_bipush (pc := 28) hx hb dX0_lookBack_28 bc_16 ?_
    refine lv_icmp_ge (tgt := 123) (pc := 30) hx hb dX0_lookBack_30 (by decide) (fun c2 => ?_) (fun c2 => ?_)
    · have hf := ifp c2 hf
      cases hf
      exact x_vret (pc := 123) C S dX0_lookBack_123
    · have hf := ifn c2 hf
      refine lv_aload_n (pc := 33) hx hb dX0_lookBack_33 rfl (lv_at hl 0 rfl) ?_
      refine x_get (pc := 34) (ci := 0) (T := TX0) (v := .ref a_t_row) C S 0 rfl rfl inlX0 0 (by decide) rfl qf_0_9 rfl dX0_lookBack_34 ?_
      refine lv_iload (pc := 37) hx hb dX0_lookBack_37 (lv_at hl 4 rfl) ?_
      obtain ⟨hv3, hf⟩ := gI_e hf
      refine x_iald (pc := 39) C S 1 rfl hv3 dX0_lookBack_39 ?_
      refine lv_istore (pc := 40) (lv' := [(5, .int (t_row x4.toNatClampNeg)), (0, .ref a_t), (1, .ref a_p1), (2, .int x2), (3, .int x3), (4, .int x4)]) hx hb dX0_lookBack_40 hl (by decide) rfl (fun ls hl => ?_)
      refine lv_iload_n (pc := 42) hx hb dX0_lookBack_42 rfl (lv_at hl 3 rfl) ?_
      refine lv_aload_n (pc := 43) hx hb dX0_lookBack_43 rfl (lv_at hl 2 rfl) ?_
      refine lv_iload (pc := 44) hx hb dX0_lookBack_44 (lv_at hl 0 rfl) ?_
      refine lv_iload_n (pc := 46) hx hb dX0_lookBack_46 rfl (lv_at hl 4 rfl) ?_
      obtain ⟨r4, hq4, hf⟩ := bd_e hf
      refine x_vI (pc := 47) (As := [.int (t_row x4.toNatClampNeg), .int x3]) (rest := [.int x2]) (isC := [5, 6]) (ws' := (w_X0_lookBack G a_t a_t_row a_t_comes a_t_begins a_t_slacks a_p1 a_p1_facts a_p1_roundsOf a_p1_locked a_p1_rules a_p1_sizes a_p1_rows a_p1_seen a_p1_plan a_p1_book t_round t_size t_back t_loads t_miles t_waits t_lateAt t_later t_row t_comes t_begins t_slacks p1_stopCount p1_metric p1_fixed p1_facts p1_rules)) C S (c_X6_way l G a_p1 a_p1_facts a_p1_roundsOf a_p1_locked a_p1_rules a_p1_sizes a_p1_rows a_p1_seen a_p1_plan a_p1_book p1_stopCount p1_metric p1_fixed p1_facts (t_row x4.toNatClampNeg) x3 r4 hq4) (u_X0_lookBack_X6_way_74 hts) (ci := 6) rfl 5 rfl rfl (by decide +kernel) [none, none, none, none, none, some 0, some 1, none] (by decide +kernel) rfl rfl rfl hl.1 rfl (Nat.le_of_ble_eq_true rfl) dX0_lookBack_47 (fun H locs S => ?_)
      refine lv_isub (pc := 50) hx hb dX0_lookBack_50 ?_
      refine lv_aload_n (pc := 51) hx hb dX0_lookBack_51 rfl (lv_at hl 2 rfl) ?_
      refine lv_iload (pc := 52) hx hb dX0_lookBack_52 (lv_at hl 0 rfl) ?_
      refine lv_iconst (pc := 54) hx hb dX0_lookBack_54 ic_5 ?_
      obtain ⟨r5, hq5, hf⟩ := bd_e hf
      refine x_vI (pc := 55) (As := [.int (t_row x4.toNatClampNeg), .int (5 : Int32)]) (rest := [.int (x2 - r4)]) (isC := [5, 6]) (ws' := (w_X0_lookBack G a_t a_t_row a_t_comes a_t_begins a_t_slacks a_p1 a_p1_facts a_p1_roundsOf a_p1_locked a_p1_rules a_p1_sizes a_p1_rows a_p1_seen a_p1_plan a_p1_book t_round t_size t_back t_loads t_miles t_waits t_lateAt t_later t_row t_comes t_begins t_slacks p1_stopCount p1_metric p1_fixed p1_facts p1_rules)) C S (c_X6_fact l G a_p1 a_p1_facts a_p1_roundsOf a_p1_locked a_p1_rules a_p1_sizes a_p1_rows a_p1_seen a_p1_plan a_p1_book p1_stopCount p1_metric p1_fixed p1_facts (t_row x4.toNatClampNeg) (5 : Int32) r5 hq5) (u_X0_lookBack_X6_fact_77 hts) (ci := 6) rfl 5 rfl rfl (by decide +kernel) [none, none, none, none, none, some 0, some 1, none] (by decide +kernel) rfl rfl rfl hl.1 rfl (Nat.le_of_ble_eq_true rfl) dX0_lookBack_55 (fun H locs S => ?_)
      refine lv_isub (pc := 58) hx hb dX0_lookBack_58 ?_
      refine lv_istore (pc := 59) (lv' := [(6, .int ((x2 - r4) - r5)), (5, .int (t_row x4.toNatClampNeg)), (0, .ref a_t), (1, .ref a_p1), (2, .int x2), (3, .int x3), (4, .int x4)]) hx hb dX0_lookBack_59 hl (by decide) rfl (fun ls hl => ?_)
      refine lv_aload_n (pc := 61) hx hb dX0_lookBack_61 rfl (lv_at hl 3 rfl) ?_
      refine lv_iload (pc := 62) hx hb dX0_lookBack_62 (lv_at hl 1 rfl) ?_
      refine lv_iconst (pc := 64) hx hb dX0_lookBack_64 ic_4 ?_
      obtain ⟨r6, hq6, hf⟩ := bd_e hf
      refine x_vI (pc := 65) (As := [.int (t_row x4.toNatClampNeg), .int (4 : Int32)]) (rest := []) (isC := [5, 6]) (ws' := (w_X0_lookBack G a_t a_t_row a_t_comes a_t_begins a_t_slacks a_p1 a_p1_facts a_p1_roundsOf a_p1_locked a_p1_rules a_p1_sizes a_p1_rows a_p1_seen a_p1_plan a_p1_book t_round t_size t_back t_loads t_miles t_waits t_lateAt t_later t_row t_comes t_begins t_slacks p1_stopCount p1_metric p1_fixed p1_facts p1_rules)) C S (c_X6_fact l G a_p1 a_p1_facts a_p1_roundsOf a_p1_locked a_p1_rules a_p1_sizes a_p1_rows a_p1_seen a_p1_plan a_p1_book p1_stopCount p1_metric p1_fixed p1_facts (t_row x4.toNatClampNeg) (4 : Int32) r6 hq6) (u_X0_lookBack_X6_fact_77 hts) (ci := 6) rfl 5 rfl rfl (by decide +kernel) [none, none, none, none, none, some 0, some 1, none] (by decide +kernel) rfl rfl rfl hl.1 rfl (Nat.le_of_ble_eq_true rfl) dX0_lookBack_65 (fun H locs S => ?_)
      refine lv_istore (pc := 68) (lv' := [(7, .int r6), (6, .int ((x2 - r4) - r5)), (5, .int (t_row x4.toNatClampNeg)), (0, .ref a_t), (1, .ref a_p1), (2, .int x2), (3, .int x3), (4, .int x4)]) hx hb dX0_lookBack_68 hl (by decide) rfl (fun ls hl => ?_)
      refine lv_iload (pc := 70) hx hb dX0_lookBack_70 (lv_at hl 0 rfl) ?_
      refine lv_iload (pc := 72) hx hb dX0_lookBack_72 (lv_at hl 1 rfl) ?_
      refine lv_icmp_ge (tgt := 82) (pc := 74) hx hb dX0_lookBack_74 (by decide) (fun c7 => ?_) (fun c7 => ?_)
      · have hf := ifp c7 hf
        refine lv_iload (pc := 82) hx hb dX0_lookBack_82 (lv_at hl 1 rfl) ?_
        exact k_X0_lookBack_84 C (t_round) (t_size) (t_back) (t_loads) (t_miles) (t_waits) (t_lateAt) (t_later) (t_row) (t_comes) (t_begins) (t_slacks) (p1_stopCount) (p1_metric) (p1_fixed) (p1_facts) (p1_rules) (x4) ((t_row x4.toNatClampNeg)) (((x2 - r4) - r5)) k21 hk21 hf S (lv_sub hl [3, 4, 7, 2] rfl)
      · have hf := ifn c7 hf
        refine lv_iload (pc := 77) hx hb dX0_lookBack_77 (lv_at hl 0 rfl) ?_
        refine lv_goto (tgt := 84) (pc := 79) hx hb dX0_lookBack_79 (by decide) ?_
        exact k_X0_lookBack_84 C (t_round) (t_size) (t_back) (t_loads) (t_miles) (t_waits) (t_lateAt) (t_later) (t_row) (t_comes) (t_begins) (t_slacks) (p1_stopCount) (p1_metric) (p1_fixed) (p1_facts) (p1_rules) (x4) ((t_row x4.toNatClampNeg)) (r6) k21 hk21 hf S (lv_sub hl [3, 4, 7, 2] rfl)
set_option maxRecDepth 100000 in
set_option maxHeartbeats 4000000 in
theorem h_X0_lookBack_21 (C : Cx p s m args meth c cX0_lookBack none 8 RX0 G A) (t_round : Int32) (t_size : Int32) (t_back : Int32) (t_loads : Int32) (t_miles : Int32) (t_waits : Int32) (t_lateAt : Int32) (t_row : Nat → Int32) (t_comes : Nat → Int32) (t_begins : Nat → Int32) (p1_stopCount : Int32) (p1_metric : Int32) (p1_fixed : Int32) (p1_facts : Nat → Int32) (p1_rules : Nat → Int32) : ∀ (n : Nat) (x2 : Int32) (x3 : Int32) (x4 : Int32) (t_slacks : Nat → Int32) (t_later : Int32) {H : Heap} {locs : List Loc} {ls : Array Slot} (hf : lp (fun k x => b_X0_lookBack_21 t_row t_comes t_begins p1_facts p1_metric k x.1 x.2.1 x.2.2.1 x.2.2.2.1 x.2.2.2.2) n (x2, x3, x4, t_slacks, t_later) = some (z_t_slacks, z_t_later)) (S : St G A s.heap H locs (w_X0_lookBack G a_t a_t_row a_t_comes a_t_begins a_t_slacks a_p1 a_p1_facts a_p1_roundsOf a_p1_locked a_p1_rules a_p1_sizes a_p1_rows a_p1_seen a_p1_plan a_p1_book t_round t_size t_back t_loads t_miles t_waits t_lateAt t_later t_row t_comes t_begins t_slacks p1_stopCount p1_metric p1_fixed p1_facts p1_rules)) (hl : lv_has ls 8 [(0, .ref a_t), (1, .ref a_p1), (2, .int x2), (3, .int x3), (4, .int x4)]), W p l e rm_X0_lookBack s m args below meth c H locs 0 0 (QV G below args s A (w_X0_lookBack G a_t a_t_row a_t_comes a_t_begins a_t_slacks a_p1 a_p1_facts a_p1_roundsOf a_p1_locked a_p1_rules a_p1_sizes a_p1_rows a_p1_seen a_p1_plan a_p1_book t_round t_size t_back t_loads t_miles t_waits t_lateAt z_t_later t_row t_comes t_begins z_t_slacks p1_stopCount p1_metric p1_fixed p1_facts p1_rules)) (F0 m 21 ls []) := by
  intro n
  induction n with
  | zero =>
    intro x2 x3 x4 t_slacks t_later  H locs ls hf
    cases hf
  | succ n ih =>
    intro x2 x3 x4 t_slacks t_later  H locs ls hf S hl
    have hf : b_X0_lookBack_21 t_row t_comes t_begins p1_facts p1_metric (lp (fun k x => b_X0_lookBack_21 t_row t_comes t_begins p1_facts p1_metric k x.1 x.2.1 x.2.2.1 x.2.2.2.1 x.2.2.2.2) n) x2 x3 x4 t_slacks t_later = some (z_t_slacks, z_t_later) := hf
    exact k_X0_lookBack_21 C t_round t_size t_back t_loads t_miles t_waits t_lateAt t_later t_row t_comes t_begins t_slacks p1_stopCount p1_metric p1_fixed p1_facts p1_rules x2 x3 x4  (lp (fun k x => b_X0_lookBack_21 t_row t_comes t_begins p1_facts p1_metric k x.1 x.2.1 x.2.2.1 x.2.2.2.1 x.2.2.2.2) n) (fun x2' x3' x4' t_slacks' t_later'  h S hl => ih x2' x3' x4' t_slacks' t_later'  h S hl) hf S hl
set_option maxRecDepth 100000 in
set_option maxHeartbeats 4000000 in
theorem c_X0_lookBack (l : Launch) (G : GE) (a_t a_t_row a_t_comes a_t_begins a_t_slacks a_p1 a_p1_facts a_p1_roundsOf a_p1_locked a_p1_rules a_p1_sizes a_p1_rows a_p1_seen a_p1_plan a_p1_book : Nat) (t_round : Int32) (t_size : Int32) (t_back : Int32) (t_loads : Int32) (t_miles : Int32) (t_waits : Int32) (t_lateAt : Int32) (t_later : Int32) (t_row : Nat → Int32) (t_comes : Nat → Int32) (t_begins : Nat → Int32) (t_slacks : Nat → Int32) (p1_stopCount : Int32) (p1_metric : Int32) (p1_fixed : Int32) (p1_facts : Nat → Int32) (p1_rules : Nat → Int32) (z_t_slacks : Nat → Int32) (z_t_later : Int32) (hf : f_X0_lookBack t_row t_comes t_begins t_slacks t_round t_size t_later p1_facts p1_rules p1_metric = some (z_t_slacks, z_t_later)) : CV l G yX0_lookBack kw_X0_lookBack rm_X0_lookBack [.ref a_t, .ref a_p1] (w_X0_lookBack G a_t a_t_row a_t_comes a_t_begins a_t_slacks a_p1 a_p1_facts a_p1_roundsOf a_p1_locked a_p1_rules a_p1_sizes a_p1_rows a_p1_seen a_p1_plan a_p1_book t_round t_size t_back t_loads t_miles t_waits t_lateAt t_later t_row t_comes t_begins t_slacks p1_stopCount p1_metric p1_fixed p1_facts p1_rules) (w_X0_lookBack G a_t a_t_row a_t_comes a_t_begins a_t_slacks a_p1 a_p1_facts a_p1_roundsOf a_p1_locked a_p1_rules a_p1_sizes a_p1_rows a_p1_seen a_p1_plan a_p1_book t_round t_size t_back t_loads t_miles t_waits t_lateAt z_t_later t_row t_comes t_begins z_t_slacks p1_stopCount p1_metric p1_fixed p1_facts p1_rules) := by
  refine en_V (cc := cX0_lookBack) (maxL := 8) (ret := none) (by decide +kernel) (Nat.le_of_ble_eq_true rfl) ?_
  intro p e s m args below meth c A ls C S hl
  have hl : lv_has ls 8 [(0, .ref a_t), (1, .ref a_p1)] := hl
  have C : Cx p s m args meth c cX0_lookBack none 8 RX0 G A := C
  unfold f_X0_lookBack at hf
  have hx := C.1
  have hb := C.2.1
  have hown := C.2.2.2.2.1
  have hts := C.2.2.2.2.2.1
  have hN := C.2.2.2.2.2.2.2.2.2.2
  refine lv_aload_n (pc := 0) hx hb dX0_lookBack_0 rfl (lv_at hl 1 rfl) ?_
  refine lv_aload_n (pc := 1) hx hb dX0_lookBack_1 rfl (lv_at hl 0 rfl) ?_
  refine x_get (pc := 2) (ci := 0) (T := TX0) (v := .int t_round) C S 0 rfl rfl inlX0 4 (by decide) rfl qf_0_24 rfl dX0_lookBack_2 ?_
  refine lv_iconst (pc := 5) hx hb dX0_lookBack_5 ic_2 ?_
  obtain ⟨r1, hq1, hf⟩ := bd_e hf
  refine x_vI (pc := 6) (As := [.int t_round, .int (2 : Int32)]) (rest := []) (isC := [5, 7]) (ws' := (w_X0_lookBack G a_t a_t_row a_t_comes a_t_begins a_t_slacks a_p1 a_p1_facts a_p1_roundsOf a_p1_locked a_p1_rules a_p1_sizes a_p1_rows a_p1_seen a_p1_plan a_p1_book t_round t_size t_back t_loads t_miles t_waits t_lateAt t_later t_row t_comes t_begins t_slacks p1_stopCount p1_metric p1_fixed p1_facts p1_rules)) C S (c_X6_ruleOf l G a_p1 a_p1_facts a_p1_roundsOf a_p1_locked a_p1_rules a_p1_sizes a_p1_rows a_p1_seen a_p1_plan a_p1_book p1_stopCount p1_metric p1_fixed p1_rules t_round (2 : Int32) r1 hq1) (u_X0_lookBack_X6_ruleOf_59 hts) (ci := 6) rfl 5 rfl rfl (by decide +kernel) [none, none, none, none, none, some 0, none, some 1] (by decide +kernel) rfl rfl rfl hl.1 rfl (Nat.le_of_ble_eq_true rfl) dX0_lookBack_6 (fun H locs S => ?_)
  refine lv_istore_n (pc := 9) (lv' := [(2, .int r1), (0, .ref a_t), (1, .ref a_p1)]) hx hb dX0_lookBack_9 rfl hl (by decide) rfl (fun ls hl => ?_)
  refine lv_bipush (pc := 10) hx hb dX0_lookBack_10 bc_16 ?_
  refine lv_istore_n (pc := 12) (lv' := [(3, .int (16 : Int32)), (2, .int r1), (0, .ref a_t), (1, .ref a_p1)]) hx hb dX0_lookBack_12 rfl hl (by decide) rfl (fun ls hl => ?_)
  refine lv_aload_n (pc := 13) hx hb dX0_lookBack_13 rfl (lv_at hl 2 rfl) ?_
  refine x_get (pc := 14) (ci := 0) (T := TX0) (v := .int t_size) C S 0 rfl rfl inlX0 5 (by decide) rfl qf_0_34 rfl dX0_lookBack_14 ?_
  refine lv_iconst (pc := 17) hx hb dX0_lookBack_17 ic_1 ?_
  refine lv_isub (pc := 18) hx hb dX0_lookBack_18 ?_
  refine lv_istore (pc := 19) (lv' := [(4, .int (t_size - (1 : Int32))), (3, .int (16 : Int32)), (2, .int r1), (0, .ref a_t), (1, .ref a_p1)]) hx hb dX0_lookBack_19 hl (by decide) rfl (fun ls hl => ?_)
  exact h_X0_lookBack_21 C (t_round) (t_size) (t_back) (t_loads) (t_miles) (t_waits) (t_lateAt) (t_row) (t_comes) (t_begins) (p1_stopCount) (p1_metric) (p1_fixed) (p1_facts) (p1_rules) fu (r1) ((16 : Int32)) ((t_size - (1 : Int32))) (t_slacks) (t_later) hf S (lv_sub hl [3, 4, 2, 1, 0] rfl)
end

abbrev rm_X0_replace : Room := { frames := 0, cells := 0, slots := 0, locals := 0 }
abbrev kw_X0_replace : Cond := .code yX0_replace cX0_replace 3 none
abbrev w_X0_replace (G : GE) (a_t a_t_row a_t_comes a_t_begins a_t_slacks : Nat) (t_round : Int32) (t_size : Int32) (t_back : Int32) (t_loads : Int32) (t_miles : Int32) (t_waits : Int32) (t_lateAt : Int32) (t_later : Int32) (t_row : Nat → Int32) : va_W := [(a_t, ob 0 [.ref a_t_row, .ref a_t_comes, .ref a_t_begins, .ref a_t_slacks, .int t_round, .int t_size, .int t_back, .int t_loads, .int t_miles, .int t_waits, .int t_lateAt, .int t_later]), (a_t_row, aI G 16 t_row)]
section
variable {p : Program} {l : Launch} {e : Env} {s : State} {m : MethodId} {args : Array Value} {below : List Frame} {meth : Method} {c : Code} {A : Nat → Prop} {G : GE} {a_t a_t_row a_t_comes a_t_begins a_t_slacks : Nat} {z_t_row : Nat → Int32}
set_option maxRecDepth 100000 in
set_option maxHeartbeats 4000000 in
theorem c_X0_replace (l : Launch) (G : GE) (a_t a_t_row a_t_comes a_t_begins a_t_slacks : Nat) (t_round : Int32) (t_size : Int32) (t_back : Int32) (t_loads : Int32) (t_miles : Int32) (t_waits : Int32) (t_lateAt : Int32) (t_later : Int32) (t_row : Nat → Int32) (x1 : Int32) (x2 : Int32) (z_t_row : Nat → Int32) (hf : f_X0_replace t_row x1 x2 = some z_t_row) : CV l G yX0_replace kw_X0_replace rm_X0_replace [.ref a_t, .int x1, .int x2] (w_X0_replace G a_t a_t_row a_t_comes a_t_begins a_t_slacks t_round t_size t_back t_loads t_miles t_waits t_lateAt t_later t_row) (w_X0_replace G a_t a_t_row a_t_comes a_t_begins a_t_slacks t_round t_size t_back t_loads t_miles t_waits t_lateAt t_later z_t_row) := by
  refine en_V (cc := cX0_replace) (maxL := 3) (ret := none) (by decide +kernel) (Nat.le_of_ble_eq_true rfl) ?_
  intro p e s m args below meth c A ls C S hl
  have hl : lv_has ls 3 [(0, .ref a_t), (1, .int x1), (2, .int x2)] := hl
  have C : Cx p s m args meth c cX0_replace none 3 RX0 G A := C
  unfold f_X0_replace at hf
  have hx := C.1
  have hb := C.2.1
  have hown := C.2.2.2.2.1
  have hts := C.2.2.2.2.2.1
  have hN := C.2.2.2.2.2.2.2.2.2.2
  refine lv_iload_n (pc := 0) hx hb dX0_replace_0 rfl (lv_at hl 1 rfl) ?_
  refine lv_if_lt (tgt := 20) (pc := 1) hx hb dX0_replace_1 (by decide) (fun c1 => ?_) (fun c1 => ?_)
  · have hf := ifp c1 hf
    cases hf
    exact x_vret (pc := 20) C S dX0_replace_20
  · have hf := ifn c1 hf
    refine lv_iload_n (pc := 4) hx hb dX0_replace_4 rfl (lv_at hl 1 rfl) ?_
    refine lv_aload_n (pc := 5) hx hb dX0_replace_5 rfl (lv_at hl 0 rfl) ?_
    refine x_get (pc := 6) (ci := 0) (T := TX0) (v := .ref a_t_row) C S 0 rfl rfl inlX0 0 (by decide) rfl qf_0_9 rfl dX0_replace_6 ?_
    refine x_lenI (pc := 9) C S 1 rfl nc_16 dX0_replace_9 ?_
    refine lv_icmp_ge (tgt := 20) (pc := 10) hx hb dX0_replace_10 (by decide) (fun c2 => ?_) (fun c2 => ?_)
    · have hf := ifp c2 hf
      cases hf
      exact x_vret (pc := 20) C S dX0_replace_20
    · have hf := ifn c2 hf
      refine lv_aload_n (pc := 13) hx hb dX0_replace_13 rfl (lv_at hl 0 rfl) ?_
      refine x_get (pc := 14) (ci := 0) (T := TX0) (v := .ref a_t_row) C S 0 rfl rfl inlX0 0 (by decide) rfl qf_0_9 rfl dX0_replace_14 ?_
      refine lv_iload_n (pc := 17) hx hb dX0_replace_17 rfl (lv_at hl 1 rfl) ?_
      refine lv_iload_n (pc := 18) hx hb dX0_replace_18 rfl (lv_at hl 2 rfl) ?_
      obtain ⟨hv3, hf⟩ := gI_e hf
      refine x_iast (pc := 19) (ws' := (w_X0_replace G a_t a_t_row a_t_comes a_t_begins a_t_slacks t_round t_size t_back t_loads t_miles t_waits t_lateAt t_later (upd t_row x1.toNatClampNeg x2))) C S 1 rfl hv3 rfl dX0_replace_19 (fun H locs S => ?_)
      cases hf
      exact x_vret (pc := 20) C S dX0_replace_20
end

abbrev rm_X0_reverse : Room := { frames := 0, cells := 0, slots := 0, locals := 0 }
abbrev kw_X0_reverse : Cond := .code yX0_reverse cX0_reverse 6 none
abbrev w_X0_reverse (G : GE) (a_t a_t_row a_t_comes a_t_begins a_t_slacks : Nat) (t_round : Int32) (t_size : Int32) (t_back : Int32) (t_loads : Int32) (t_miles : Int32) (t_waits : Int32) (t_lateAt : Int32) (t_later : Int32) (t_row : Nat → Int32) : va_W := [(a_t, ob 0 [.ref a_t_row, .ref a_t_comes, .ref a_t_begins, .ref a_t_slacks, .int t_round, .int t_size, .int t_back, .int t_loads, .int t_miles, .int t_waits, .int t_lateAt, .int t_later]), (a_t_row, aI G 16 t_row)]
section
variable {p : Program} {l : Launch} {e : Env} {s : State} {m : MethodId} {args : Array Value} {below : List Frame} {meth : Method} {c : Code} {A : Nat → Prop} {G : GE} {a_t a_t_row a_t_comes a_t_begins a_t_slacks : Nat} {z_t_row : Nat → Int32}
set_option maxRecDepth 100000 in
set_option maxHeartbeats 4000000 in
theorem k_X0_reverse_19 (C : Cx p s m args meth c cX0_reverse none 6 RX0 G A) (t_round : Int32) (t_size : Int32) (t_back : Int32) (t_loads : Int32) (t_miles : Int32) (t_waits : Int32) (t_lateAt : Int32) (t_later : Int32) (t_row : Nat → Int32) (x3 : Int32) (x4 : Int32) (k19 : Int32 × Int32 × (Nat → Int32) → Option ((Nat → Int32))) (hk19 : ∀ {H : Heap} {locs : List Loc} {ls : Array Slot} (x3' : Int32) (x4' : Int32) (t_row' : Nat → Int32), k19 (x3', x4', t_row') = some z_t_row → St G A s.heap H locs (w_X0_reverse G a_t a_t_row a_t_comes a_t_begins a_t_slacks t_round t_size t_back t_loads t_miles t_waits t_lateAt t_later t_row') → lv_has ls 6 [(0, .ref a_t), (3, .int x3'), (4, .int x4')] → W p l e rm_X0_reverse s m args below meth c H locs 0 0 (QV G below args s A (w_X0_reverse G a_t a_t_row a_t_comes a_t_begins a_t_slacks t_round t_size t_back t_loads t_miles t_waits t_lateAt t_later z_t_row)) (F0 m 19 ls [])) {H : Heap} {locs : List Loc} {ls : Array Slot} (hf : b_X0_reverse_19 k19 x3 x4 t_row = some z_t_row) (S : St G A s.heap H locs (w_X0_reverse G a_t a_t_row a_t_comes a_t_begins a_t_slacks t_round t_size t_back t_loads t_miles t_waits t_lateAt t_later t_row)) (hl : lv_has ls 6 [(0, .ref a_t), (3, .int x3), (4, .int x4)]) : W p l e rm_X0_reverse s m args below meth c H locs 0 0 (QV G below args s A (w_X0_reverse G a_t a_t_row a_t_comes a_t_begins a_t_slacks t_round t_size t_back t_loads t_miles t_waits t_lateAt t_later z_t_row)) (F0 m 19 ls []) := by
  unfold b_X0_reverse_19 at hf
  have hx := C.1
  have hb := C.2.1
  have hown := C.2.2.2.2.1
  have hts := C.2.2.2.2.2.1
  have hN := C.2.2.2.2.2.2.2.2.2.2
  refine lv_iload_n (pc := 19) hx hb dX0_reverse_19 rfl (lv_at hl 1 rfl) ?_
  refine lv_iload (pc := 20) hx hb dX0_reverse_20 (lv_at hl 2 rfl) ?_
  refine lv_icmp_ge (tgt := 64) (pc := 22) hx hb dX0_reverse_22 (by decide) (fun c1 => ?_) (fun c1 => ?_)
  · have hf := ifp c1 hf
    cases hf
    exact x_vret (pc := 64) C S dX0_reverse_64
  · have hf := ifn c1 hf
    refine lv_aload_n (pc := 25) hx hb dX0_reverse_25 rfl (lv_at hl 0 rfl) ?_
    refine x_get (pc := 26) (ci := 0) (T := TX0) (v := .ref a_t_row) C S 0 rfl rfl inlX0 0 (by decide) rfl qf_0_9 rfl dX0_reverse_26 ?_
    refine lv_iload_n (pc := 29) hx hb dX0_reverse_29 rfl (lv_at hl 1 rfl) ?_
    obtain ⟨hv2, hf⟩ := gI_e hf
    refine x_iald (pc := 30) C S 1 rfl hv2 dX0_reverse_30 ?_
    refine lv_istore (pc := 31) (lv' := [(5, .int (t_row x3.toNatClampNeg)), (0, .ref a_t), (3, .int x3), (4, .int x4)]) hx hb dX0_reverse_31 hl (by decide) rfl (fun ls hl => ?_)
    refine lv_aload_n (pc := 33) hx hb dX0_reverse_33 rfl (lv_at hl 1 rfl) ?_
    refine x_get (pc := 34) (ci := 0) (T := TX0) (v := .ref a_t_row) C S 0 rfl rfl inlX0 0 (by decide) rfl qf_0_9 rfl dX0_reverse_34 ?_
    refine lv_iload_n (pc := 37) hx hb dX0_reverse_37 rfl (lv_at hl 2 rfl) ?_
    refine lv_aload_n (pc := 38) hx hb dX0_reverse_38 rfl (lv_at hl 1 rfl) ?_
    refine x_get (pc := 39) (ci := 0) (T := TX0) (v := .ref a_t_row) C S 0 rfl rfl inlX0 0 (by decide) rfl qf_0_9 rfl dX0_reverse_39 ?_
    refine lv_iload (pc := 42) hx hb dX0_reverse_42 (lv_at hl 3 rfl) ?_
    obtain ⟨hv3, hf⟩ := gI_e hf
    refine x_iald (pc := 44) C S 1 rfl hv3 dX0_reverse_44 ?_
    refine x_iast (pc := 45) (ws' := (w_X0_reverse G a_t a_t_row a_t_comes a_t_begins a_t_slacks t_round t_size t_back t_loads t_miles t_waits t_lateAt t_later (upd t_row x3.toNatClampNeg (t_row x4.toNatClampNeg)))) C S 1 rfl hv2 rfl dX0_reverse_45 (fun H locs S => ?_)
    refine lv_aload_n (pc := 46) hx hb dX0_reverse_46 rfl (lv_at hl 1 rfl) ?_
    refine x_get (pc := 47) (ci := 0) (T := TX0) (v := .ref a_t_row) C S 0 rfl rfl inlX0 0 (by decide) rfl qf_0_9 rfl dX0_reverse_47 ?_
    refine lv_iload (pc := 50) hx hb dX0_reverse_50 (lv_at hl 3 rfl) ?_
    refine lv_iload (pc := 52) hx hb dX0_reverse_52 (lv_at hl 0 rfl) ?_
    refine x_iast (pc := 54) (ws' := (w_X0_reverse G a_t a_t_row a_t_comes a_t_begins a_t_slacks t_round t_size t_back t_loads t_miles t_waits t_lateAt t_later (upd (upd t_row x3.toNatClampNeg (t_row x4.toNatClampNeg)) x4.toNatClampNeg (t_row x3.toNatClampNeg)))) C S 1 rfl hv3 rfl dX0_reverse_54 (fun H locs S => ?_)
    refine lv_iinc (pc := 55) (v := (x3 + (1 : Int32))) (lv' := [(3, .int (x3 + (1 : Int32))), (5, .int (t_row x3.toNatClampNeg)), (0, .ref a_t), (4, .int x4)]) hx hb dX0_reverse_55 hl (k := 2) rfl (congrArg (fun z => x3 + z) ic_1) (by decide) rfl (fun ls hl => ?_)
    refine lv_iinc (pc := 58) (v := (x4 + (-1 : Int32))) (lv' := [(4, .int (x4 + (-1 : Int32))), (3, .int (x3 + (1 : Int32))), (5, .int (t_row x3.toNatClampNeg)), (0, .ref a_t)]) hx hb dX0_reverse_58 hl (k := 3) rfl (congrArg (fun z => x4 + z) ic_m1) (by decide) rfl (fun ls hl => ?_)
    refine lv_goto (tgt := 19) (pc := 61) hx hb dX0_reverse_61 (by decide) ?_
    exact hk19 ((x3 + (1 : Int32))) ((x4 + (-1 : Int32))) ((upd (upd t_row x3.toNatClampNeg (t_row x4.toNatClampNeg)) x4.toNatClampNeg (t_row x3.toNatClampNeg)))  hf S (lv_sub hl [3, 1, 0] rfl)
set_option maxRecDepth 100000 in
set_option maxHeartbeats 4000000 in
theorem h_X0_reverse_19 (C : Cx p s m args meth c cX0_reverse none 6 RX0 G A) (t_round : Int32) (t_size : Int32) (t_back : Int32) (t_loads : Int32) (t_miles : Int32) (t_waits : Int32) (t_lateAt : Int32) (t_later : Int32) : ∀ (n : Nat) (x3 : Int32) (x4 : Int32) (t_row : Nat → Int32) {H : Heap} {locs : List Loc} {ls : Array Slot} (hf : lp (fun k x => b_X0_reverse_19 k x.1 x.2.1 x.2.2) n (x3, x4, t_row) = some z_t_row) (S : St G A s.heap H locs (w_X0_reverse G a_t a_t_row a_t_comes a_t_begins a_t_slacks t_round t_size t_back t_loads t_miles t_waits t_lateAt t_later t_row)) (hl : lv_has ls 6 [(0, .ref a_t), (3, .int x3), (4, .int x4)]), W p l e rm_X0_reverse s m args below meth c H locs 0 0 (QV G below args s A (w_X0_reverse G a_t a_t_row a_t_comes a_t_begins a_t_slacks t_round t_size t_back t_loads t_miles t_waits t_lateAt t_later z_t_row)) (F0 m 19 ls []) := by
  intro n
  induction n with
  | zero =>
    intro x3 x4 t_row  H locs ls hf
    cases hf
  | succ n ih =>
    intro x3 x4 t_row  H locs ls hf S hl
    have hf : b_X0_reverse_19 (lp (fun k x => b_X0_reverse_19 k x.1 x.2.1 x.2.2) n) x3 x4 t_row = some z_t_row := hf
    exact k_X0_reverse_19 C t_round t_size t_back t_loads t_miles t_waits t_lateAt t_later t_row x3 x4  (lp (fun k x => b_X0_reverse_19 k x.1 x.2.1 x.2.2) n) (fun x3' x4' t_row'  h S hl => ih x3' x4' t_row'  h S hl) hf S hl
set_option maxRecDepth 100000 in
set_option maxHeartbeats 4000000 in
theorem c_X0_reverse (l : Launch) (G : GE) (a_t a_t_row a_t_comes a_t_begins a_t_slacks : Nat) (t_round : Int32) (t_size : Int32) (t_back : Int32) (t_loads : Int32) (t_miles : Int32) (t_waits : Int32) (t_lateAt : Int32) (t_later : Int32) (t_row : Nat → Int32) (x1 : Int32) (x2 : Int32) (z_t_row : Nat → Int32) (hf : f_X0_reverse t_row x1 x2 = some z_t_row) : CV l G yX0_reverse kw_X0_reverse rm_X0_reverse [.ref a_t, .int x1, .int x2] (w_X0_reverse G a_t a_t_row a_t_comes a_t_begins a_t_slacks t_round t_size t_back t_loads t_miles t_waits t_lateAt t_later t_row) (w_X0_reverse G a_t a_t_row a_t_comes a_t_begins a_t_slacks t_round t_size t_back t_loads t_miles t_waits t_lateAt t_later z_t_row) := by
  refine en_V (cc := cX0_reverse) (maxL := 6) (ret := none) (by decide +kernel) (Nat.le_of_ble_eq_true rfl) ?_
  intro p e s m args below meth c A ls C S hl
  have hl : lv_has ls 6 [(0, .ref a_t), (1, .int x1), (2, .int x2)] := hl
  have C : Cx p s m args meth c cX0_reverse none 6 RX0 G A := C
  unfold f_X0_reverse at hf
  have hx := C.1
  have hb := C.2.1
  have hown := C.2.2.2.2.1
  have hts := C.2.2.2.2.2.1
  have hN := C.2.2.2.2.2.2.2.2.2.2
  refine lv_iload_n (pc := 0) hx hb dX0_reverse_0 rfl (lv_at hl 1 rfl) ?_
  refine lv_if_lt (tgt := 13) (pc := 1) hx hb dX0_reverse_1 (by decide) (fun c1 => ?_) (fun c1 => ?_)
  · have hf := ifp c1 hf
    cases hf
    exact x_vret (pc := 13) C S dX0_reverse_13
  · have hf := ifn c1 hf
    refine lv_iload_n (pc := 4) hx hb dX0_reverse_4 rfl (lv_at hl 2 rfl) ?_
    refine lv_aload_n (pc := 5) hx hb dX0_reverse_5 rfl (lv_at hl 0 rfl) ?_
    refine x_get (pc := 6) (ci := 0) (T := TX0) (v := .ref a_t_row) C S 0 rfl rfl inlX0 0 (by decide) rfl qf_0_9 rfl dX0_reverse_6 ?_
    refine x_lenI (pc := 9) C S 1 rfl nc_16 dX0_reverse_9 ?_
    refine lv_icmp_lt (tgt := 14) (pc := 10) hx hb dX0_reverse_10 (by decide) (fun c2 => ?_) (fun c2 => ?_)
    · have hf := ifp c2 hf
      refine lv_iload_n (pc := 14) hx hb dX0_reverse_14 rfl (lv_at hl 1 rfl) ?_
      refine lv_istore_n (pc := 15) (lv' := [(3, .int x1), (0, .ref a_t), (1, .int x1), (2, .int x2)]) hx hb dX0_reverse_15 rfl hl (by decide) rfl (fun ls hl => ?_)
      refine lv_iload_n (pc := 16) hx hb dX0_reverse_16 rfl (lv_at hl 3 rfl) ?_
      refine lv_istore (pc := 17) (lv' := [(4, .int x2), (3, .int x1), (0, .ref a_t), (1, .int x1), (2, .int x2)]) hx hb dX0_reverse_17 hl (by decide) rfl (fun ls hl => ?_)
      exact h_X0_reverse_19 C (t_round) (t_size) (t_back) (t_loads) (t_miles) (t_waits) (t_lateAt) (t_later) fu (x1) (x2) (t_row) hf S (lv_sub hl [2, 1, 0] rfl)
    · have hf := ifn c2 hf
      cases hf
      exact x_vret (pc := 13) C S dX0_reverse_13
end

abbrev rm_X0_slackAt : Room := { frames := 0, cells := 0, slots := 0, locals := 0 }
abbrev kw_X0_slackAt : Cond := .code yX0_slackAt cX0_slackAt 2 (some .int)
abbrev w_X0_slackAt (G : GE) (a_t a_t_row a_t_comes a_t_begins a_t_slacks : Nat) (t_round : Int32) (t_size : Int32) (t_back : Int32) (t_loads : Int32) (t_miles : Int32) (t_waits : Int32) (t_lateAt : Int32) (t_later : Int32) (t_slacks : Nat → Int32) : va_W := [(a_t, ob 0 [.ref a_t_row, .ref a_t_comes, .ref a_t_begins, .ref a_t_slacks, .int t_round, .int t_size, .int t_back, .int t_loads, .int t_miles, .int t_waits, .int t_lateAt, .int t_later]), (a_t_slacks, aI G 16 t_slacks)]
section
variable {p : Program} {l : Launch} {e : Env} {s : State} {m : MethodId} {args : Array Value} {below : List Frame} {meth : Method} {c : Code} {A : Nat → Prop} {G : GE} {a_t a_t_row a_t_comes a_t_begins a_t_slacks : Nat} {r : Int32}
set_option maxRecDepth 100000 in
set_option maxHeartbeats 4000000 in
theorem c_X0_slackAt (l : Launch) (G : GE) (a_t a_t_row a_t_comes a_t_begins a_t_slacks : Nat) (t_round : Int32) (t_size : Int32) (t_back : Int32) (t_loads : Int32) (t_miles : Int32) (t_waits : Int32) (t_lateAt : Int32) (t_later : Int32) (t_slacks : Nat → Int32) (x1 : Int32) (r : Int32) (hf : f_X0_slackAt t_slacks x1 = some r) : CI l G yX0_slackAt kw_X0_slackAt rm_X0_slackAt [.ref a_t, .int x1] (w_X0_slackAt G a_t a_t_row a_t_comes a_t_begins a_t_slacks t_round t_size t_back t_loads t_miles t_waits t_lateAt t_later t_slacks) r (w_X0_slackAt G a_t a_t_row a_t_comes a_t_begins a_t_slacks t_round t_size t_back t_loads t_miles t_waits t_lateAt t_later t_slacks) := by
  refine en_I (cc := cX0_slackAt) (maxL := 2) (ret := (some .int)) (by decide +kernel) (Nat.le_of_ble_eq_true rfl) ?_
  intro p e s m args below meth c A ls C S hl
  have hl : lv_has ls 2 [(0, .ref a_t), (1, .int x1)] := hl
  have C : Cx p s m args meth c cX0_slackAt (some .int) 2 RX0 G A := C
  unfold f_X0_slackAt at hf
  have hx := C.1
  have hb := C.2.1
  have hown := C.2.2.2.2.1
  have hts := C.2.2.2.2.2.1
  have hN := C.2.2.2.2.2.2.2.2.2.2
  refine lv_iload_n (pc := 0) hx hb dX0_slackAt_0 rfl (lv_at hl 1 rfl) ?_
  refine lv_if_lt (tgt := 22) (pc := 1) hx hb dX0_slackAt_1 (by decide) (fun c1 => ?_) (fun c1 => ?_)
  · have hf := ifp c1 hf
    refine lv_bipush (pc := 22) hx hb dX0_slackAt_22 bc_m5 ?_
    cases hf
    exact x_iret (pc := 24) C S dX0_slackAt_24
  · have hf := ifn c1 hf
    refine lv_iload_n (pc := 4) hx hb dX0_slackAt_4 rfl (lv_at hl 1 rfl) ?_
    refine lv_aload_n (pc := 5) hx hb dX0_slackAt_5 rfl (lv_at hl 0 rfl) ?_
    refine x_get (pc := 6) (ci := 0) (T := TX0) (v := .ref a_t_slacks) C S 0 rfl rfl inlX0 3 (by decide) rfl qf_0_21 rfl dX0_slackAt_6 ?_
    refine x_lenI (pc := 9) C S 1 rfl nc_16 dX0_slackAt_9 ?_
    refine lv_icmp_ge (tgt := 22) (pc := 10) hx hb dX0_slackAt_10 (by decide) (fun c2 => ?_) (fun c2 => ?_)
    · have hf := ifp c2 hf
      refine lv_bipush (pc := 22) hx hb dX0_slackAt_22 bc_m5 ?_
      cases hf
      exact x_iret (pc := 24) C S dX0_slackAt_24
    · have hf := ifn c2 hf
      refine lv_aload_n (pc := 13) hx hb dX0_slackAt_13 rfl (lv_at hl 0 rfl) ?_
      refine x_get (pc := 14) (ci := 0) (T := TX0) (v := .ref a_t_slacks) C S 0 rfl rfl inlX0 3 (by decide) rfl qf_0_21 rfl dX0_slackAt_14 ?_
      refine lv_iload_n (pc := 17) hx hb dX0_slackAt_17 rfl (lv_at hl 1 rfl) ?_
      obtain ⟨hv3, hf⟩ := gI_e hf
      refine x_iald (pc := 18) C S 1 rfl hv3 dX0_slackAt_18 ?_
      refine lv_goto (tgt := 24) (pc := 19) hx hb dX0_slackAt_19 (by decide) ?_
      cases hf
      exact x_iret (pc := 24) C S dX0_slackAt_24
end

abbrev rm_X0_tightest : Room := { frames := 0, cells := 0, slots := 0, locals := 0 }
abbrev kw_X0_tightest : Cond := .code yX0_tightest cX0_tightest 4 (some .int)
abbrev w_X0_tightest (G : GE) (a_t a_t_row a_t_comes a_t_begins a_t_slacks : Nat) (t_round : Int32) (t_size : Int32) (t_back : Int32) (t_loads : Int32) (t_miles : Int32) (t_waits : Int32) (t_lateAt : Int32) (t_later : Int32) (t_row : Nat → Int32) (t_slacks : Nat → Int32) : va_W := [(a_t, ob 0 [.ref a_t_row, .ref a_t_comes, .ref a_t_begins, .ref a_t_slacks, .int t_round, .int t_size, .int t_back, .int t_loads, .int t_miles, .int t_waits, .int t_lateAt, .int t_later]), (a_t_row, aI G 16 t_row), (a_t_slacks, aI G 16 t_slacks)]
section
variable {p : Program} {l : Launch} {e : Env} {s : State} {m : MethodId} {args : Array Value} {below : List Frame} {meth : Method} {c : Code} {A : Nat → Prop} {G : GE} {a_t a_t_row a_t_comes a_t_begins a_t_slacks : Nat} {r : Int32}
set_option maxRecDepth 100000 in
set_option maxHeartbeats 4000000 in
theorem k_X0_tightest_37 (C : Cx p s m args meth c cX0_tightest (some .int) 4 RX0 G A) (t_round : Int32) (t_size : Int32) (t_back : Int32) (t_loads : Int32) (t_miles : Int32) (t_waits : Int32) (t_lateAt : Int32) (t_later : Int32) (t_row : Nat → Int32) (t_slacks : Nat → Int32) (x3 : Int32) (k7 : Int32 × Int32 × Int32 → Option (Int32)) (hk7 : ∀ {H : Heap} {locs : List Loc} {ls : Array Slot} (x1' : Int32) (x2' : Int32) (x3' : Int32), k7 (x1', x2', x3') = some r → St G A s.heap H locs (w_X0_tightest G a_t a_t_row a_t_comes a_t_begins a_t_slacks t_round t_size t_back t_loads t_miles t_waits t_lateAt t_later t_row t_slacks) → lv_has ls 4 [(0, .ref a_t), (1, .int x1'), (2, .int x2'), (3, .int x3')] → W p l e rm_X0_tightest s m args below meth c H locs 0 0 (QI G below args s A r (w_X0_tightest G a_t a_t_row a_t_comes a_t_begins a_t_slacks t_round t_size t_back t_loads t_miles t_waits t_lateAt t_later t_row t_slacks)) (F0 m 7 ls [])) {H : Heap} {locs : List Loc} {ls : Array Slot} (hf : b_X0_tightest_37 k7 x3 t_row t_slacks t_size = some r) (S : St G A s.heap H locs (w_X0_tightest G a_t a_t_row a_t_comes a_t_begins a_t_slacks t_round t_size t_back t_loads t_miles t_waits t_lateAt t_later t_row t_slacks)) (hl : lv_has ls 4 [(0, .ref a_t), (3, .int x3)]) : W p l e rm_X0_tightest s m args below meth c H locs 0 0 (QI G below args s A r (w_X0_tightest G a_t a_t_row a_t_comes a_t_begins a_t_slacks t_round t_size t_back t_loads t_miles t_waits t_lateAt t_later t_row t_slacks)) (F0 m 37 ls []) := by
  unfold b_X0_tightest_37 at hf
  have hx := C.1
  have hb := C.2.1
  have hown := C.2.2.2.2.1
  have hts := C.2.2.2.2.2.1
  have hN := C.2.2.2.2.2.2.2.2.2.2
  refine lv_aload_n (pc := 37) hx hb dX0_tightest_37 rfl (lv_at hl 0 rfl) ?_
  refine x_get (pc := 38) (ci := 0) (T := TX0) (v := .ref a_t_row) C S 0 rfl rfl inlX0 0 (by decide) rfl qf_0_9 rfl dX0_tightest_38 ?_
  refine lv_iload_n (pc := 41) hx hb dX0_tightest_41 rfl (lv_at hl 1 rfl) ?_
  obtain ⟨hv1, hf⟩ := gI_e hf
  refine x_iald (pc := 42) C S 1 rfl hv1 dX0_tightest_42 ?_
  refine lv_istore_n (pc := 43) (lv' := [(1, .int (t_row x3.toNatClampNeg)), (0, .ref a_t), (3, .int x3)]) hx hb dX0_tightest_43 rfl hl (by decide) rfl (fun ls hl => ?_)
  refine lv_aload_n (pc := 44) hx hb dX0_tightest_44 rfl (lv_at hl 1 rfl) ?_
  refine x_get (pc := 45) (ci := 0) (T := TX0) (v := .ref a_t_slacks) C S 0 rfl rfl inlX0 3 (by decide) rfl qf_0_21 rfl dX0_tightest_45 ?_
  refine lv_iload_n (pc := 48) hx hb dX0_tightest_48 rfl (lv_at hl 2 rfl) ?_
  refine x_iald (pc := 49) C S 2 rfl hv1 dX0_tightest_49 ?_
  refine lv_istore_n (pc := 50) (lv' := [(2, .int (t_slacks x3.toNatClampNeg)), (1, .int (t_row x3.toNatClampNeg)), (0, .ref a_t), (3, .int x3)]) hx hb dX0_tightest_50 rfl hl (by decide) rfl (fun ls hl => ?_)
  refine lv_iinc (pc := 51) (v := (x3 + (1 : Int32))) (lv' := [(3, .int (x3 + (1 : Int32))), (2, .int (t_slacks x3.toNatClampNeg)), (1, .int (t_row x3.toNatClampNeg)), (0, .ref a_t)]) hx hb dX0_tightest_51 hl (k := 3) rfl (congrArg (fun z => x3 + z) ic_1) (by decide) rfl (fun ls hl => ?_)
  refine lv_goto (tgt := 7) (pc := 54) hx hb dX0_tightest_54 (by decide) ?_
  exact hk7 ((t_row x3.toNatClampNeg)) ((t_slacks x3.toNatClampNeg)) ((x3 + (1 : Int32)))  hf S (lv_sub hl [3, 2, 1, 0] rfl)
set_option maxRecDepth 100000 in
set_option maxHeartbeats 4000000 in
theorem k_X0_tightest_7 (C : Cx p s m args meth c cX0_tightest (some .int) 4 RX0 G A) (t_round : Int32) (t_size : Int32) (t_back : Int32) (t_loads : Int32) (t_miles : Int32) (t_waits : Int32) (t_lateAt : Int32) (t_later : Int32) (t_row : Nat → Int32) (t_slacks : Nat → Int32) (x1 : Int32) (x2 : Int32) (x3 : Int32) (k7 : Int32 × Int32 × Int32 → Option (Int32)) (hk7 : ∀ {H : Heap} {locs : List Loc} {ls : Array Slot} (x1' : Int32) (x2' : Int32) (x3' : Int32), k7 (x1', x2', x3') = some r → St G A s.heap H locs (w_X0_tightest G a_t a_t_row a_t_comes a_t_begins a_t_slacks t_round t_size t_back t_loads t_miles t_waits t_lateAt t_later t_row t_slacks) → lv_has ls 4 [(0, .ref a_t), (1, .int x1'), (2, .int x2'), (3, .int x3')] → W p l e rm_X0_tightest s m args below meth c H locs 0 0 (QI G below args s A r (w_X0_tightest G a_t a_t_row a_t_comes a_t_begins a_t_slacks t_round t_size t_back t_loads t_miles t_waits t_lateAt t_later t_row t_slacks)) (F0 m 7 ls [])) {H : Heap} {locs : List Loc} {ls : Array Slot} (hf : b_X0_tightest_7 t_row t_slacks t_size k7 x1 x2 x3 = some r) (S : St G A s.heap H locs (w_X0_tightest G a_t a_t_row a_t_comes a_t_begins a_t_slacks t_round t_size t_back t_loads t_miles t_waits t_lateAt t_later t_row t_slacks)) (hl : lv_has ls 4 [(0, .ref a_t), (1, .int x1), (2, .int x2), (3, .int x3)]) : W p l e rm_X0_tightest s m args below meth c H locs 0 0 (QI G below args s A r (w_X0_tightest G a_t a_t_row a_t_comes a_t_begins a_t_slacks t_round t_size t_back t_loads t_miles t_waits t_lateAt t_later t_row t_slacks)) (F0 m 7 ls []) := by
  unfold b_X0_tightest_7 at hf
  have hx := C.1
  have hb := C.2.1
  have hown := C.2.2.2.2.1
  have hts := C.2.2.2.2.2.1
  have hN := C.2.2.2.2.2.2.2.2.2.2
  refine lv_iload_n (pc := 7) hx hb dX0_tightest_7 rfl (lv_at hl 3 rfl) ?_
  refine lv_aload_n (pc := 8) hx hb dX0_tightest_8 rfl (lv_at hl 0 rfl) ?_
  refine x_get (pc := 9) (ci := 0) (T := TX0) (v := .int t_size) C S 0 rfl rfl inlX0 5 (by decide) rfl qf_0_34 rfl dX0_tightest_9 ?_
  refine lv_icmp_ge (tgt := 57) (pc := 12) hx hb dX0_tightest_12 (by decide) (fun c1 => ?_) (fun c1 => ?_)
  · have hf := ifp c1 hf
    refine lv_iload_n (pc := 57) hx hb dX0_tightest_57 rfl (lv_at hl 1 rfl) ?_
    cases hf
    exact x_iret (pc := 58) C S dX0_tightest_58
  · have hf := ifn c1 hf
    refine lv_iload_n (pc := 15) hx hb dX0_tightest_15 rfl (lv_at hl 3 rfl) ?_
    refine lv_bipush (pc := 16) hx hb dX0_tightest_16 bc_16 ?_
    refine lv_icmp_ge (tgt := 57) (pc := 18) hx hb dX0_tightest_18 (by decide) (fun c2 => ?_) (fun c2 => ?_)
    · have hf := ifp c2 hf
      refine lv_iload_n (pc := 57) hx hb dX0_tightest_57 rfl (lv_at hl 1 rfl) ?_
      cases hf
      exact x_iret (pc := 58) C S dX0_tightest_58
    · have hf := ifn c2 hf
      refine lv_iload_n (pc := 21) hx hb dX0_tightest_21 rfl (lv_at hl 1 rfl) ?_
      refine lv_bipush (pc := 22) hx hb dX0_tightest_22 bc_m5 ?_
      refine lv_icmp_eq (tgt := 37) (pc := 24) hx hb dX0_tightest_24 (by decide) (fun c3 => ?_) (fun c3 => ?_)
      · have hf := ifp c3 hf
        exact k_X0_tightest_37 C (t_round) (t_size) (t_back) (t_loads) (t_miles) (t_waits) (t_lateAt) (t_later) (t_row) (t_slacks) (x3) k7 hk7 hf S (lv_sub hl [0, 3] rfl)
      · have hf := ifn c3 hf
        refine lv_aload_n (pc := 27) hx hb dX0_tightest_27 rfl (lv_at hl 0 rfl) ?_
        refine x_get (pc := 28) (ci := 0) (T := TX0) (v := .ref a_t_slacks) C S 0 rfl rfl inlX0 3 (by decide) rfl qf_0_21 rfl dX0_tightest_28 ?_
        refine lv_iload_n (pc := 31) hx hb dX0_tightest_31 rfl (lv_at hl 3 rfl) ?_
        obtain ⟨hv4, hf⟩ := gI_e hf
        refine x_iald (pc := 32) C S 2 rfl hv4 dX0_tightest_32 ?_
        refine lv_iload_n (pc := 33) hx hb dX0_tightest_33 rfl (lv_at hl 2 rfl) ?_
        refine lv_icmp_ge (tgt := 51) (pc := 34) hx hb dX0_tightest_34 (by decide) (fun c5 => ?_) (fun c5 => ?_)
        · have hf := ifp c5 hf
          refine lv_iinc (pc := 51) (v := (x3 + (1 : Int32))) (lv' := [(3, .int (x3 + (1 : Int32))), (0, .ref a_t), (1, .int x1), (2, .int x2)]) hx hb dX0_tightest_51 hl (k := 3) rfl (congrArg (fun z => x3 + z) ic_1) (by decide) rfl (fun ls hl => ?_)
          refine lv_goto (tgt := 7) (pc := 54) hx hb dX0_tightest_54 (by decide) ?_
          exact hk7 (x1) (x2) ((x3 + (1 : Int32)))  hf S (lv_sub hl [1, 2, 3, 0] rfl)
        · have hf := ifn c5 hf
          exact k_X0_tightest_37 C (t_round) (t_size) (t_back) (t_loads) (t_miles) (t_waits) (t_lateAt) (t_later) (t_row) (t_slacks) (x3) k7 hk7 hf S (lv_sub hl [0, 3] rfl)
set_option maxRecDepth 100000 in
set_option maxHeartbeats 4000000 in
theorem h_X0_tightest_7 (C : Cx p s m args meth c cX0_tightest (some .int) 4 RX0 G A) (t_round : Int32) (t_size : Int32) (t_back : Int32) (t_loads : Int32) (t_miles : Int32) (t_waits : Int32) (t_lateAt : Int32) (t_later : Int32) (t_row : Nat → Int32) (t_slacks : Nat → Int32) : ∀ (n : Nat) (x1 : Int32) (x2 : Int32) (x3 : Int32) {H : Heap} {locs : List Loc} {ls : Array Slot} (hf : lp (fun k x => b_X0_tightest_7 t_row t_slacks t_size k x.1 x.2.1 x.2.2) n (x1, x2, x3) = some r) (S : St G A s.heap H locs (w_X0_tightest G a_t a_t_row a_t_comes a_t_begins a_t_slacks t_round t_size t_back t_loads t_miles t_waits t_lateAt t_later t_row t_slacks)) (hl : lv_has ls 4 [(0, .ref a_t), (1, .int x1), (2, .int x2), (3, .int x3)]), W p l e rm_X0_tightest s m args below meth c H locs 0 0 (QI G below args s A r (w_X0_tightest G a_t a_t_row a_t_comes a_t_begins a_t_slacks t_round t_size t_back t_loads t_miles t_waits t_lateAt t_later t_row t_slacks)) (F0 m 7 ls []) := by
  intro n
  induction n with
  | zero =>
    intro x1 x2 x3  H locs ls hf
    cases hf
  | succ n ih =>
    intro x1 x2 x3  H locs ls hf S hl
    have hf : b_X0_tightest_7 t_row t_slacks t_size (lp (fun k x => b_X0_tightest_7 t_row t_slacks t_size k x.1 x.2.1 x.2.2) n) x1 x2 x3 = some r := hf
    exact k_X0_tightest_7 C t_round t_size t_back t_loads t_miles t_waits t_lateAt t_later t_row t_slacks x1 x2 x3  (lp (fun k x => b_X0_tightest_7 t_row t_slacks t_size k x.1 x.2.1 x.2.2) n) (fun x1' x2' x3'  h S hl => ih x1' x2' x3'  h S hl) hf S hl
set_option maxRecDepth 100000 in
set_option maxHeartbeats 4000000 in
theorem c_X0_tightest (l : Launch) (G : GE) (a_t a_t_row a_t_comes a_t_begins a_t_slacks : Nat) (t_round : Int32) (t_size : Int32) (t_back : Int32) (t_loads : Int32) (t_miles : Int32) (t_waits : Int32) (t_lateAt : Int32) (t_later : Int32) (t_row : Nat → Int32) (t_slacks : Nat → Int32) (r : Int32) (hf : f_X0_tightest t_row t_slacks t_size = some r) : CI l G yX0_tightest kw_X0_tightest rm_X0_tightest [.ref a_t] (w_X0_tightest G a_t a_t_row a_t_comes a_t_begins a_t_slacks t_round t_size t_back t_loads t_miles t_waits t_lateAt t_later t_row t_slacks) r (w_X0_tightest G a_t a_t_row a_t_comes a_t_begins a_t_slacks t_round t_size t_back t_loads t_miles t_waits t_lateAt t_later t_row t_slacks) := by
  refine en_I (cc := cX0_tightest) (maxL := 4) (ret := (some .int)) (by decide +kernel) (Nat.le_of_ble_eq_true rfl) ?_
  intro p e s m args below meth c A ls C S hl
  have hl : lv_has ls 4 [(0, .ref a_t)] := hl
  have C : Cx p s m args meth c cX0_tightest (some .int) 4 RX0 G A := C
  unfold f_X0_tightest at hf
  have hx := C.1
  have hb := C.2.1
  have hown := C.2.2.2.2.1
  have hts := C.2.2.2.2.2.1
  have hN := C.2.2.2.2.2.2.2.2.2.2
  refine lv_bipush (pc := 0) hx hb dX0_tightest_0 bc_m5 ?_
  refine lv_istore_n (pc := 2) (lv' := [(1, .int (-5 : Int32)), (0, .ref a_t)]) hx hb dX0_tightest_2 rfl hl (by decide) rfl (fun ls hl => ?_)
  refine lv_iconst (pc := 3) hx hb dX0_tightest_3 ic_0 ?_
  refine lv_istore_n (pc := 4) (lv' := [(2, .int (0 : Int32)), (1, .int (-5 : Int32)), (0, .ref a_t)]) hx hb dX0_tightest_4 rfl hl (by decide) rfl (fun ls hl => ?_)
  refine lv_iconst (pc := 5) hx hb dX0_tightest_5 ic_0 ?_
  refine lv_istore_n (pc := 6) (lv' := [(3, .int (0 : Int32)), (2, .int (0 : Int32)), (1, .int (-5 : Int32)), (0, .ref a_t)]) hx hb dX0_tightest_6 rfl hl (by decide) rfl (fun ls hl => ?_)
  exact h_X0_tightest_7 C (t_round) (t_size) (t_back) (t_loads) (t_miles) (t_waits) (t_lateAt) (t_later) (t_row) (t_slacks) fu ((-5 : Int32)) ((0 : Int32)) ((0 : Int32)) hf S (lv_sub hl [3, 2, 1, 0] rfl)
end

abbrev rm_X1_keepRound : Room := { frames := 0, cells := 0, slots := 0, locals := 0 }
abbrev kw_X1_keepRound : Cond := .code yX1_keepRound cX1_keepRound 4 none
abbrev w_X1_keepRound (G : GE) (a_t a_t_draft : Nat) (t_round : Int32) (t_place : Int32) (t_adds : Int32) (t_regret : Int32) (t_chosen : Int32) (t_chosenRound : Int32) (t_chosenPlace : Int32) (t_chosenAdds : Int32) (t_chosenRegret : Int32) : va_W := [(a_t, ob 1 [.ref a_t_draft, .int t_round, .int t_place, .int t_adds, .int t_regret, .int t_chosen, .int t_chosenRound, .int t_chosenPlace, .int t_chosenAdds, .int t_chosenRegret])]
section
variable {p : Program} {l : Launch} {e : Env} {s : State} {m : MethodId} {args : Array Value} {below : List Frame} {meth : Method} {c : Code} {A : Nat → Prop} {G : GE} {a_t a_t_draft : Nat} {z_t_round : Int32} {z_t_place : Int32} {z_t_adds : Int32}
set_option maxRecDepth 100000 in
set_option maxHeartbeats 4000000 in
theorem c_X1_keepRound (l : Launch) (G : GE) (a_t a_t_draft : Nat) (t_round : Int32) (t_place : Int32) (t_adds : Int32) (t_regret : Int32) (t_chosen : Int32) (t_chosenRound : Int32) (t_chosenPlace : Int32) (t_chosenAdds : Int32) (t_chosenRegret : Int32) (x1 : Int32) (x2 : Int32) (x3 : Int32) (z_t_round : Int32) (z_t_place : Int32) (z_t_adds : Int32) (hf : f_X1_keepRound x1 x2 x3 = some (z_t_round, z_t_place, z_t_adds)) : CV l G yX1_keepRound kw_X1_keepRound rm_X1_keepRound [.ref a_t, .int x1, .int x2, .int x3] (w_X1_keepRound G a_t a_t_draft t_round t_place t_adds t_regret t_chosen t_chosenRound t_chosenPlace t_chosenAdds t_chosenRegret) (w_X1_keepRound G a_t a_t_draft z_t_round z_t_place z_t_adds t_regret t_chosen t_chosenRound t_chosenPlace t_chosenAdds t_chosenRegret) := by
  refine en_V (cc := cX1_keepRound) (maxL := 4) (ret := none) (by decide +kernel) (Nat.le_of_ble_eq_true rfl) ?_
  intro p e s m args below meth c A ls C S hl
  have hl : lv_has ls 4 [(0, .ref a_t), (1, .int x1), (2, .int x2), (3, .int x3)] := hl
  have C : Cx p s m args meth c cX1_keepRound none 4 RX1 G A := C
  unfold f_X1_keepRound at hf
  have hx := C.1
  have hb := C.2.1
  have hown := C.2.2.2.2.1
  have hts := C.2.2.2.2.2.1
  have hN := C.2.2.2.2.2.2.2.2.2.2
  refine lv_aload_n (pc := 0) hx hb dX1_keepRound_0 rfl (lv_at hl 0 rfl) ?_
  refine lv_iload_n (pc := 1) hx hb dX1_keepRound_1 rfl (lv_at hl 1 rfl) ?_
  refine x_put (pc := 2) (ci := 1) (T := TX1) (ws' := (w_X1_keepRound G a_t a_t_draft x1 t_place t_adds t_regret t_chosen t_chosenRound t_chosenPlace t_chosenAdds t_chosenRegret)) C S tyX1 tyX1_ok nmX1 0 rfl rfl inlX1 1 (by decide) rfl qf_1_18 rfl rfl rfl rfl (Nat.le_of_ble_eq_true rfl) rfl dX1_keepRound_2 (fun H locs S => ?_)
  refine lv_aload_n (pc := 5) hx hb dX1_keepRound_5 rfl (lv_at hl 0 rfl) ?_
  refine lv_iload_n (pc := 6) hx hb dX1_keepRound_6 rfl (lv_at hl 2 rfl) ?_
  refine x_put (pc := 7) (ci := 1) (T := TX1) (ws' := (w_X1_keepRound G a_t a_t_draft x1 x2 t_adds t_regret t_chosen t_chosenRound t_chosenPlace t_chosenAdds t_chosenRegret)) C S tyX1 tyX1_ok nmX1 0 rfl rfl inlX1 2 (by decide) rfl qf_1_57 rfl rfl rfl rfl (Nat.le_of_ble_eq_true rfl) rfl dX1_keepRound_7 (fun H locs S => ?_)
  refine lv_aload_n (pc := 10) hx hb dX1_keepRound_10 rfl (lv_at hl 0 rfl) ?_
  refine lv_iload_n (pc := 11) hx hb dX1_keepRound_11 rfl (lv_at hl 3 rfl) ?_
  refine x_put (pc := 12) (ci := 1) (T := TX1) (ws' := (w_X1_keepRound G a_t a_t_draft x1 x2 x3 t_regret t_chosen t_chosenRound t_chosenPlace t_chosenAdds t_chosenRegret)) C S tyX1 tyX1_ok nmX1 0 rfl rfl inlX1 3 (by decide) rfl qf_1_54 rfl rfl rfl rfl (Nat.le_of_ble_eq_true rfl) rfl dX1_keepRound_12 (fun H locs S => ?_)
  cases hf
  exact x_vret (pc := 15) C S dX1_keepRound_15
end

abbrev rm_X1_compareRound : Room := { frames := 1, cells := 0, slots := 0, locals := 23 }
abbrev kw_X1_compareRound : Cond := .code yX1_compareRound cX1_compareRound 4 none
abbrev w_X1_compareRound (G : GE) (a_t a_t_draft : Nat) (t_round : Int32) (t_place : Int32) (t_adds : Int32) (t_regret : Int32) (t_chosen : Int32) (t_chosenRound : Int32) (t_chosenPlace : Int32) (t_chosenAdds : Int32) (t_chosenRegret : Int32) : va_W := [(a_t, ob 1 [.ref a_t_draft, .int t_round, .int t_place, .int t_adds, .int t_regret, .int t_chosen, .int t_chosenRound, .int t_chosenPlace, .int t_chosenAdds, .int t_chosenRegret])]
theorem u_X1_compareRound_X1_keepRound_51 {s : State} {args : Array Value} (hts : ∀ w ∈ WU, w.before args s = true) : CallW rm_X1_compareRound s args RX1 RX1 51 yX1_keepRound cX1_keepRound 4 none (kw_X1_keepRound :: WU) rm_X1_keepRound 0 0 3 := cwV 3 hts (gV qm_1_51 qi_X1_keepRound ql_X1_keepRound qn_1 qc_X1_keepRound) rfl rfl rfl (by decide +kernel) ⟨Nat.le_of_ble_eq_true rfl, Nat.le_of_ble_eq_true rfl⟩
section
variable {p : Program} {l : Launch} {e : Env} {s : State} {m : MethodId} {args : Array Value} {below : List Frame} {meth : Method} {c : Code} {A : Nat → Prop} {G : GE} {a_t a_t_draft : Nat} {z_t_round : Int32} {z_t_place : Int32} {z_t_adds : Int32} {z_t_regret : Int32}
set_option maxRecDepth 100000 in
set_option maxHeartbeats 4000000 in
theorem c_X1_compareRound (l : Launch) (G : GE) (a_t a_t_draft : Nat) (t_round : Int32) (t_place : Int32) (t_adds : Int32) (t_regret : Int32) (t_chosen : Int32) (t_chosenRound : Int32) (t_chosenPlace : Int32) (t_chosenAdds : Int32) (t_chosenRegret : Int32) (x1 : Int32) (x2 : Int32) (x3 : Int32) (z_t_round : Int32) (z_t_place : Int32) (z_t_adds : Int32) (z_t_regret : Int32) (hf : f_X1_compareRound t_round t_place t_adds t_regret x1 x2 x3 = some (z_t_round, z_t_place, z_t_adds, z_t_regret)) : CV l G yX1_compareRound kw_X1_compareRound rm_X1_compareRound [.ref a_t, .int x1, .int x2, .int x3] (w_X1_compareRound G a_t a_t_draft t_round t_place t_adds t_regret t_chosen t_chosenRound t_chosenPlace t_chosenAdds t_chosenRegret) (w_X1_compareRound G a_t a_t_draft z_t_round z_t_place z_t_adds z_t_regret t_chosen t_chosenRound t_chosenPlace t_chosenAdds t_chosenRegret) := by
  refine en_V (cc := cX1_compareRound) (maxL := 4) (ret := none) (by decide +kernel) (Nat.le_of_ble_eq_true rfl) ?_
  intro p e s m args below meth c A ls C S hl
  have hl : lv_has ls 4 [(0, .ref a_t), (1, .int x1), (2, .int x2), (3, .int x3)] := hl
  have C : Cx p s m args meth c cX1_compareRound none 4 RX1 G A := C
  unfold f_X1_compareRound at hf
  have hx := C.1
  have hb := C.2.1
  have hown := C.2.2.2.2.1
  have hts := C.2.2.2.2.2.1
  have hN := C.2.2.2.2.2.2.2.2.2.2
  refine lv_aload_n (pc := 0) hx hb dX1_compareRound_0 rfl (lv_at hl 0 rfl) ?_
  refine x_get (pc := 1) (ci := 1) (T := TX1) (v := .int t_round) C S 0 rfl rfl inlX1 1 (by decide) rfl qf_1_18 rfl dX1_compareRound_1 ?_
  refine lv_bipush (pc := 4) hx hb dX1_compareRound_4 bc_m5 ?_
  refine lv_icmp_ne (tgt := 19) (pc := 6) hx hb dX1_compareRound_6 (by decide) (fun c1 => ?_) (fun c1 => ?_)
  · have hf := ifn c1 hf
    refine lv_iload_n (pc := 19) hx hb dX1_compareRound_19 rfl (lv_at hl 3 rfl) ?_
    refine lv_aload_n (pc := 20) hx hb dX1_compareRound_20 rfl (lv_at hl 0 rfl) ?_
    refine x_get (pc := 21) (ci := 1) (T := TX1) (v := .int t_adds) C S 0 rfl rfl inlX1 3 (by decide) rfl qf_1_54 rfl dX1_compareRound_21 ?_
    refine lv_icmp_ge (tgt := 47) (pc := 24) hx hb dX1_compareRound_24 (by decide) (fun c2 => ?_) (fun c2 => ?_)
    · have hf := ifp c2 hf
      refine lv_iload_n (pc := 47) hx hb dX1_compareRound_47 rfl (lv_at hl 3 rfl) ?_
      refine lv_aload_n (pc := 48) hx hb dX1_compareRound_48 rfl (lv_at hl 0 rfl) ?_
      refine x_get (pc := 49) (ci := 1) (T := TX1) (v := .int t_adds) C S 0 rfl rfl inlX1 3 (by decide) rfl qf_1_54 rfl dX1_compareRound_49 ?_
      refine lv_isub (pc := 52) hx hb dX1_compareRound_52 ?_
      refine lv_aload_n (pc := 53) hx hb dX1_compareRound_53 rfl (lv_at hl 0 rfl) ?_
      refine x_get (pc := 54) (ci := 1) (T := TX1) (v := .int t_regret) C S 0 rfl rfl inlX1 4 (by decide) rfl qf_1_22 rfl dX1_compareRound_54 ?_
      refine lv_icmp_ge (tgt := 70) (pc := 57) hx hb dX1_compareRound_57 (by decide) (fun c3 => ?_) (fun c3 => ?_)
      · have hf := ifp c3 hf
        cases hf
        exact x_vret (pc := 70) C S dX1_compareRound_70
      · have hf := ifn c3 hf
        refine lv_aload_n (pc := 60) hx hb dX1_compareRound_60 rfl (lv_at hl 0 rfl) ?_
        refine lv_iload_n (pc := 61) hx hb dX1_compareRound_61 rfl (lv_at hl 3 rfl) ?_
        refine lv_aload_n (pc := 62) hx hb dX1_compareRound_62 rfl (lv_at hl 0 rfl) ?_
        refine x_get (pc := 63) (ci := 1) (T := TX1) (v := .int t_adds) C S 0 rfl rfl inlX1 3 (by decide) rfl qf_1_54 rfl dX1_compareRound_63 ?_
        refine lv_isub (pc := 66) hx hb dX1_compareRound_66 ?_
        refine x_put (pc := 67) (ci := 1) (T := TX1) (ws' := (w_X1_compareRound G a_t a_t_draft t_round t_place t_adds (x3 - t_adds) t_chosen t_chosenRound t_chosenPlace t_chosenAdds t_chosenRegret)) C S tyX1 tyX1_ok nmX1 0 rfl rfl inlX1 4 (by decide) rfl qf_1_22 rfl rfl rfl rfl (Nat.le_of_ble_eq_true rfl) rfl dX1_compareRound_67 (fun H locs S => ?_)
        cases hf
        exact x_vret (pc := 70) C S dX1_compareRound_70
    · have hf := ifn c2 hf
      refine lv_aload_n (pc := 27) hx hb dX1_compareRound_27 rfl (lv_at hl 0 rfl) ?_
      refine lv_aload_n (pc := 28) hx hb dX1_compareRound_28 rfl (lv_at hl 0 rfl) ?_
      refine x_get (pc := 29) (ci := 1) (T := TX1) (v := .int t_adds) C S 0 rfl rfl inlX1 3 (by decide) rfl qf_1_54 rfl dX1_compareRound_29 ?_
      refine lv_iload_n (pc := 32) hx hb dX1_compareRound_32 rfl (lv_at hl 3 rfl) ?_
      refine lv_isub (pc := 33) hx hb dX1_compareRound_33 ?_
      refine x_put (pc := 34) (ci := 1) (T := TX1) (ws' := (w_X1_compareRound G a_t a_t_draft t_round t_place t_adds (t_adds - x3) t_chosen t_chosenRound t_chosenPlace t_chosenAdds t_chosenRegret)) C S tyX1 tyX1_ok nmX1 0 rfl rfl inlX1 4 (by decide) rfl qf_1_22 rfl rfl rfl rfl (Nat.le_of_ble_eq_true rfl) rfl dX1_compareRound_34 (fun H locs S => ?_)
      refine lv_aload_n (pc := 37) hx hb dX1_compareRound_37 rfl (lv_at hl 0 rfl) ?_
      refine lv_iload_n (pc := 38) hx hb dX1_compareRound_38 rfl (lv_at hl 1 rfl) ?_
      refine lv_iload_n (pc := 39) hx hb dX1_compareRound_39 rfl (lv_at hl 2 rfl) ?_
      refine lv_iload_n (pc := 40) hx hb dX1_compareRound_40 rfl (lv_at hl 3 rfl) ?_
      obtain ⟨⟨o4_t_round, o4_t_place, o4_t_adds⟩, hq4, hf⟩ := bd_e hf
      refine x_vV (pc := 41) (As := [.int x1, .int x2, .int x3]) (rest := []) (isC := [0]) (ws' := (w_X1_compareRound G a_t a_t_draft o4_t_round o4_t_place o4_t_adds (t_adds - x3) t_chosen t_chosenRound t_chosenPlace t_chosenAdds t_chosenRegret)) C S (c_X1_keepRound l G a_t a_t_draft t_round t_place t_adds (t_adds - x3) t_chosen t_chosenRound t_chosenPlace t_chosenAdds t_chosenRegret x1 x2 x3 o4_t_round o4_t_place o4_t_adds hq4) (u_X1_compareRound_X1_keepRound_51 hts) (ci := 1) rfl 0 rfl rfl (by decide +kernel) [some 0] (by decide +kernel) rfl rfl rfl hl.1 rfl (Nat.le_of_ble_eq_true rfl) dX1_compareRound_41 (fun H locs S => ?_)
      refine lv_goto (tgt := 70) (pc := 44) hx hb dX1_compareRound_44 (by decide) ?_
      cases hf
      exact x_vret (pc := 70) C S dX1_compareRound_70
  · have hf := ifp c1 hf
    refine lv_aload_n (pc := 9) hx hb dX1_compareRound_9 rfl (lv_at hl 0 rfl) ?_
    refine lv_iload_n (pc := 10) hx hb dX1_compareRound_10 rfl (lv_at hl 1 rfl) ?_
    refine lv_iload_n (pc := 11) hx hb dX1_compareRound_11 rfl (lv_at hl 2 rfl) ?_
    refine lv_iload_n (pc := 12) hx hb dX1_compareRound_12 rfl (lv_at hl 3 rfl) ?_
    obtain ⟨⟨o5_t_round, o5_t_place, o5_t_adds⟩, hq5, hf⟩ := bd_e hf
    refine x_vV (pc := 13) (As := [.int x1, .int x2, .int x3]) (rest := []) (isC := [0]) (ws' := (w_X1_compareRound G a_t a_t_draft o5_t_round o5_t_place o5_t_adds t_regret t_chosen t_chosenRound t_chosenPlace t_chosenAdds t_chosenRegret)) C S (c_X1_keepRound l G a_t a_t_draft t_round t_place t_adds t_regret t_chosen t_chosenRound t_chosenPlace t_chosenAdds t_chosenRegret x1 x2 x3 o5_t_round o5_t_place o5_t_adds hq5) (u_X1_compareRound_X1_keepRound_51 hts) (ci := 1) rfl 0 rfl rfl (by decide +kernel) [some 0] (by decide +kernel) rfl rfl rfl hl.1 rfl (Nat.le_of_ble_eq_true rfl) dX1_compareRound_13 (fun H locs S => ?_)
    refine lv_goto (tgt := 70) (pc := 16) hx hb dX1_compareRound_16 (by decide) ?_
    cases hf
    exact x_vret (pc := 70) C S dX1_compareRound_70
end

abbrev rm_X1_compareStop : Room := { frames := 0, cells := 0, slots := 0, locals := 0 }
abbrev kw_X1_compareStop : Cond := .code yX1_compareStop cX1_compareStop 3 none
abbrev w_X1_compareStop (G : GE) (a_t a_t_draft : Nat) (t_round : Int32) (t_place : Int32) (t_adds : Int32) (t_regret : Int32) (t_chosen : Int32) (t_chosenRound : Int32) (t_chosenPlace : Int32) (t_chosenAdds : Int32) (t_chosenRegret : Int32) : va_W := [(a_t, ob 1 [.ref a_t_draft, .int t_round, .int t_place, .int t_adds, .int t_regret, .int t_chosen, .int t_chosenRound, .int t_chosenPlace, .int t_chosenAdds, .int t_chosenRegret])]
section
variable {p : Program} {l : Launch} {e : Env} {s : State} {m : MethodId} {args : Array Value} {below : List Frame} {meth : Method} {c : Code} {A : Nat → Prop} {G : GE} {a_t a_t_draft : Nat} {z_t_chosen : Int32} {z_t_chosenRound : Int32} {z_t_chosenPlace : Int32} {z_t_chosenAdds : Int32} {z_t_chosenRegret : Int32}
set_option maxRecDepth 100000 in
set_option maxHeartbeats 4000000 in
theorem k_X1_compareStop_62 (C : Cx p s m args meth c cX1_compareStop none 3 RX1 G A) (t_round : Int32) (t_place : Int32) (t_adds : Int32) (t_regret : Int32) (t_chosen : Int32) (t_chosenRound : Int32) (t_chosenPlace : Int32) (t_chosenAdds : Int32) (t_chosenRegret : Int32) (x1 : Int32) {H : Heap} {locs : List Loc} {ls : Array Slot} (hf : b_X1_compareStop_62 x1 t_round t_place t_adds t_regret = some (z_t_chosen, z_t_chosenRound, z_t_chosenPlace, z_t_chosenAdds, z_t_chosenRegret)) (S : St G A s.heap H locs (w_X1_compareStop G a_t a_t_draft t_round t_place t_adds t_regret t_chosen t_chosenRound t_chosenPlace t_chosenAdds t_chosenRegret)) (hl : lv_has ls 3 [(0, .ref a_t), (1, .int x1)]) : W p l e rm_X1_compareStop s m args below meth c H locs 0 0 (QV G below args s A (w_X1_compareStop G a_t a_t_draft t_round t_place t_adds t_regret z_t_chosen z_t_chosenRound z_t_chosenPlace z_t_chosenAdds z_t_chosenRegret)) (F0 m 62 ls []) := by
  unfold b_X1_compareStop_62 at hf
  have hx := C.1
  have hb := C.2.1
  have hown := C.2.2.2.2.1
  have hts := C.2.2.2.2.2.1
  have hN := C.2.2.2.2.2.2.2.2.2.2
  refine lv_aload_n (pc := 62) hx hb dX1_compareStop_62 rfl (lv_at hl 0 rfl) ?_
  refine lv_iload_n (pc := 63) hx hb dX1_compareStop_63 rfl (lv_at hl 1 rfl) ?_
  refine x_put (pc := 64) (ci := 1) (T := TX1) (ws' := (w_X1_compareStop G a_t a_t_draft t_round t_place t_adds t_regret x1 t_chosenRound t_chosenPlace t_chosenAdds t_chosenRegret)) C S tyX1 tyX1_ok nmX1 0 rfl rfl inlX1 5 (by decide) rfl qf_1_60 rfl rfl rfl rfl (Nat.le_of_ble_eq_true rfl) rfl dX1_compareStop_64 (fun H locs S => ?_)
  refine lv_aload_n (pc := 67) hx hb dX1_compareStop_67 rfl (lv_at hl 0 rfl) ?_
  refine lv_aload_n (pc := 68) hx hb dX1_compareStop_68 rfl (lv_at hl 0 rfl) ?_
  refine x_get (pc := 69) (ci := 1) (T := TX1) (v := .int t_round) C S 0 rfl rfl inlX1 1 (by decide) rfl qf_1_18 rfl dX1_compareStop_69 ?_
  refine x_put (pc := 72) (ci := 1) (T := TX1) (ws' := (w_X1_compareStop G a_t a_t_draft t_round t_place t_adds t_regret x1 t_round t_chosenPlace t_chosenAdds t_chosenRegret)) C S tyX1 tyX1_ok nmX1 0 rfl rfl inlX1 6 (by decide) rfl qf_1_77 rfl rfl rfl rfl (Nat.le_of_ble_eq_true rfl) rfl dX1_compareStop_72 (fun H locs S => ?_)
  refine lv_aload_n (pc := 75) hx hb dX1_compareStop_75 rfl (lv_at hl 0 rfl) ?_
  refine lv_aload_n (pc := 76) hx hb dX1_compareStop_76 rfl (lv_at hl 0 rfl) ?_
  refine x_get (pc := 77) (ci := 1) (T := TX1) (v := .int t_place) C S 0 rfl rfl inlX1 2 (by decide) rfl qf_1_57 rfl dX1_compareStop_77 ?_
  refine x_put (pc := 80) (ci := 1) (T := TX1) (ws' := (w_X1_compareStop G a_t a_t_draft t_round t_place t_adds t_regret x1 t_round t_place t_chosenAdds t_chosenRegret)) C S tyX1 tyX1_ok nmX1 0 rfl rfl inlX1 7 (by decide) rfl qf_1_80 rfl rfl rfl rfl (Nat.le_of_ble_eq_true rfl) rfl dX1_compareStop_80 (fun H locs S => ?_)
  refine lv_aload_n (pc := 83) hx hb dX1_compareStop_83 rfl (lv_at hl 0 rfl) ?_
  refine lv_aload_n (pc := 84) hx hb dX1_compareStop_84 rfl (lv_at hl 0 rfl) ?_
  refine x_get (pc := 85) (ci := 1) (T := TX1) (v := .int t_adds) C S 0 rfl rfl inlX1 3 (by decide) rfl qf_1_54 rfl dX1_compareStop_85 ?_
  refine x_put (pc := 88) (ci := 1) (T := TX1) (ws' := (w_X1_compareStop G a_t a_t_draft t_round t_place t_adds t_regret x1 t_round t_place t_adds t_chosenRegret)) C S tyX1 tyX1_ok nmX1 0 rfl rfl inlX1 8 (by decide) rfl qf_1_90 rfl rfl rfl rfl (Nat.le_of_ble_eq_true rfl) rfl dX1_compareStop_88 (fun H locs S => ?_)
  refine lv_aload_n (pc := 91) hx hb dX1_compareStop_91 rfl (lv_at hl 0 rfl) ?_
  refine lv_aload_n (pc := 92) hx hb dX1_compareStop_92 rfl (lv_at hl 0 rfl) ?_
  refine x_get (pc := 93) (ci := 1) (T := TX1) (v := .int t_regret) C S 0 rfl rfl inlX1 4 (by decide) rfl qf_1_22 rfl dX1_compareStop_93 ?_
  refine x_put (pc := 96) (ci := 1) (T := TX1) (ws' := (w_X1_compareStop G a_t a_t_draft t_round t_place t_adds t_regret x1 t_round t_place t_adds t_regret)) C S tyX1 tyX1_ok nmX1 0 rfl rfl inlX1 9 (by decide) rfl qf_1_87 rfl rfl rfl rfl (Nat.le_of_ble_eq_true rfl) rfl dX1_compareStop_96 (fun H locs S => ?_)
  cases hf
  exact x_vret (pc := 99) C S dX1_compareStop_99
set_option maxRecDepth 100000 in
set_option maxHeartbeats 4000000 in
theorem k_X1_compareStop_26 (C : Cx p s m args meth c cX1_compareStop none 3 RX1 G A) (t_round : Int32) (t_place : Int32) (t_adds : Int32) (t_regret : Int32) (t_chosen : Int32) (t_chosenRound : Int32) (t_chosenPlace : Int32) (t_chosenAdds : Int32) (t_chosenRegret : Int32) (x1 : Int32) (y0 : Int32) {H : Heap} {locs : List Loc} {ls : Array Slot} (hf : b_X1_compareStop_26 x1 y0 t_round t_place t_adds t_regret t_chosen t_chosenRound t_chosenPlace t_chosenAdds t_chosenRegret = some (z_t_chosen, z_t_chosenRound, z_t_chosenPlace, z_t_chosenAdds, z_t_chosenRegret)) (S : St G A s.heap H locs (w_X1_compareStop G a_t a_t_draft t_round t_place t_adds t_regret t_chosen t_chosenRound t_chosenPlace t_chosenAdds t_chosenRegret)) (hl : lv_has ls 3 [(0, .ref a_t), (1, .int x1)]) : W p l e rm_X1_compareStop s m args below meth c H locs 0 0 (QV G below args s A (w_X1_compareStop G a_t a_t_draft t_round t_place t_adds t_regret z_t_chosen z_t_chosenRound z_t_chosenPlace z_t_chosenAdds z_t_chosenRegret)) (F0 m 26 ls [.int y0]) := by
  unfold b_X1_compareStop_26 at hf
  have hx := C.1
  have hb := C.2.1
  have hown := C.2.2.2.2.1
  have hts := C.2.2.2.2.2.1
  have hN := C.2.2.2.2.2.2.2.2.2.2
  refine lv_istore_n (pc := 26) (lv' := [(2, .int y0), (0, .ref a_t), (1, .int x1)]) hx hb dX1_compareStop_26 rfl hl (by decide) rfl (fun ls hl => ?_)
  refine lv_aload_n (pc := 27) hx hb dX1_compareStop_27 rfl (lv_at hl 1 rfl) ?_
  refine x_get (pc := 28) (ci := 1) (T := TX1) (v := .int t_chosen) C S 0 rfl rfl inlX1 5 (by decide) rfl qf_1_60 rfl dX1_compareStop_28 ?_
  refine lv_bipush (pc := 31) hx hb dX1_compareStop_31 bc_m5 ?_
  refine lv_icmp_eq (tgt := 62) (pc := 33) hx hb dX1_compareStop_33 (by decide) (fun c1 => ?_) (fun c1 => ?_)
  · have hf := ifp c1 hf
    exact k_X1_compareStop_62 C (t_round) (t_place) (t_adds) (t_regret) (t_chosen) (t_chosenRound) (t_chosenPlace) (t_chosenAdds) (t_chosenRegret) (x1) hf S (lv_sub hl [1, 2] rfl)
  · have hf := ifn c1 hf
    refine lv_aload_n (pc := 36) hx hb dX1_compareStop_36 rfl (lv_at hl 1 rfl) ?_
    refine x_get (pc := 37) (ci := 1) (T := TX1) (v := .int t_regret) C S 0 rfl rfl inlX1 4 (by decide) rfl qf_1_22 rfl dX1_compareStop_37 ?_
    refine lv_aload_n (pc := 40) hx hb dX1_compareStop_40 rfl (lv_at hl 1 rfl) ?_
    refine x_get (pc := 41) (ci := 1) (T := TX1) (v := .int t_chosenRegret) C S 0 rfl rfl inlX1 9 (by decide) rfl qf_1_87 rfl dX1_compareStop_41 ?_
    refine lv_icmp_gt (tgt := 62) (pc := 44) hx hb dX1_compareStop_44 (by decide) (fun c2 => ?_) (fun c2 => ?_)
    · have hf := ifp c2 hf
      exact k_X1_compareStop_62 C (t_round) (t_place) (t_adds) (t_regret) (t_chosen) (t_chosenRound) (t_chosenPlace) (t_chosenAdds) (t_chosenRegret) (x1) hf S (lv_sub hl [1, 2] rfl)
    · have hf := ifn c2 hf
      refine lv_iload_n (pc := 47) hx hb dX1_compareStop_47 rfl (lv_at hl 0 rfl) ?_
      refine lv_if_eq (tgt := 99) (pc := 48) hx hb dX1_compareStop_48 (by decide) (fun c3 => ?_) (fun c3 => ?_)
      · have hf := ifp c3 hf
        cases hf
        exact x_vret (pc := 99) C S dX1_compareStop_99
      · have hf := ifn c3 hf
        refine lv_aload_n (pc := 51) hx hb dX1_compareStop_51 rfl (lv_at hl 1 rfl) ?_
        refine x_get (pc := 52) (ci := 1) (T := TX1) (v := .int t_adds) C S 0 rfl rfl inlX1 3 (by decide) rfl qf_1_54 rfl dX1_compareStop_52 ?_
        refine lv_aload_n (pc := 55) hx hb dX1_compareStop_55 rfl (lv_at hl 1 rfl) ?_
        refine x_get (pc := 56) (ci := 1) (T := TX1) (v := .int t_chosenAdds) C S 0 rfl rfl inlX1 8 (by decide) rfl qf_1_90 rfl dX1_compareStop_56 ?_
        refine lv_icmp_ge (tgt := 99) (pc := 59) hx hb dX1_compareStop_59 (by decide) (fun c4 => ?_) (fun c4 => ?_)
        · have hf := ifp c4 hf
          cases hf
          exact x_vret (pc := 99) C S dX1_compareStop_99
        · have hf := ifn c4 hf
          exact k_X1_compareStop_62 C (t_round) (t_place) (t_adds) (t_regret) (t_chosen) (t_chosenRound) (t_chosenPlace) (t_chosenAdds) (t_chosenRegret) (x1) hf S (lv_sub hl [1, 2] rfl)
set_option maxRecDepth 100000 in
set_option maxHeartbeats 4000000 in
theorem c_X1_compareStop (l : Launch) (G : GE) (a_t a_t_draft : Nat) (t_round : Int32) (t_place : Int32) (t_adds : Int32) (t_regret : Int32) (t_chosen : Int32) (t_chosenRound : Int32) (t_chosenPlace : Int32) (t_chosenAdds : Int32) (t_chosenRegret : Int32) (x1 : Int32) (z_t_chosen : Int32) (z_t_chosenRound : Int32) (z_t_chosenPlace : Int32) (z_t_chosenAdds : Int32) (z_t_chosenRegret : Int32) (hf : f_X1_compareStop t_round t_place t_adds t_regret t_chosen t_chosenRound t_chosenPlace t_chosenAdds t_chosenRegret x1 = some (z_t_chosen, z_t_chosenRound, z_t_chosenPlace, z_t_chosenAdds, z_t_chosenRegret)) : CV l G yX1_compareStop kw_X1_compareStop rm_X1_compareStop [.ref a_t, .int x1] (w_X1_compareStop G a_t a_t_draft t_round t_place t_adds t_regret t_chosen t_chosenRound t_chosenPlace t_chosenAdds t_chosenRegret) (w_X1_compareStop G a_t a_t_draft t_round t_place t_adds t_regret z_t_chosen z_t_chosenRound z_t_chosenPlace z_t_chosenAdds z_t_chosenRegret) := by
  refine en_V (cc := cX1_compareStop) (maxL := 3) (ret := none) (by decide +kernel) (Nat.le_of_ble_eq_true rfl) ?_
  intro p e s m args below meth c A ls C S hl
  have hl : lv_has ls 3 [(0, .ref a_t), (1, .int x1)] := hl
  have C : Cx p s m args meth c cX1_compareStop none 3 RX1 G A := C
  unfold f_X1_compareStop at hf
  have hx := C.1
  have hb := C.2.1
  have hown := C.2.2.2.2.1
  have hts := C.2.2.2.2.2.1
  have hN := C.2.2.2.2.2.2.2.2.2.2
  refine lv_aload_n (pc := 0) hx hb dX1_compareStop_0 rfl (lv_at hl 0 rfl) ?_
  refine x_get (pc := 1) (ci := 1) (T := TX1) (v := .int t_round) C S 0 rfl rfl inlX1 1 (by decide) rfl qf_1_18 rfl dX1_compareStop_1 ?_
  refine lv_bipush (pc := 4) hx hb dX1_compareStop_4 bc_m5 ?_
  refine lv_icmp_ne (tgt := 10) (pc := 6) hx hb dX1_compareStop_6 (by decide) (fun c1 => ?_) (fun c1 => ?_)
  · have hf := ifn c1 hf
    refine lv_aload_n (pc := 10) hx hb dX1_compareStop_10 rfl (lv_at hl 0 rfl) ?_
    refine x_get (pc := 11) (ci := 1) (T := TX1) (v := .int t_regret) C S 0 rfl rfl inlX1 4 (by decide) rfl qf_1_22 rfl dX1_compareStop_11 ?_
    refine lv_aload_n (pc := 14) hx hb dX1_compareStop_14 rfl (lv_at hl 0 rfl) ?_
    refine x_get (pc := 15) (ci := 1) (T := TX1) (v := .int t_chosenRegret) C S 0 rfl rfl inlX1 9 (by decide) rfl qf_1_87 rfl dX1_compareStop_15 ?_
    refine lv_icmp_ne (tgt := 25) (pc := 18) hx hb dX1_compareStop_18 (by decide) (fun c2 => ?_) (fun c2 => ?_)
    · have hf := ifn c2 hf
      refine lv_iconst (pc := 25) hx hb dX1_compareStop_25 ic_0 ?_
      exact k_X1_compareStop_26 C (t_round) (t_place) (t_adds) (t_regret) (t_chosen) (t_chosenRound) (t_chosenPlace) (t_chosenAdds) (t_chosenRegret) (x1) ((0 : Int32)) hf S (lv_sub hl [0, 1] rfl)
    · have hf := ifp c2 hf
      refine lv_iconst (pc := 21) hx hb dX1_compareStop_21 ic_1 ?_
      refine lv_goto (tgt := 26) (pc := 22) hx hb dX1_compareStop_22 (by decide) ?_
      exact k_X1_compareStop_26 C (t_round) (t_place) (t_adds) (t_regret) (t_chosen) (t_chosenRound) (t_chosenPlace) (t_chosenAdds) (t_chosenRegret) (x1) ((1 : Int32)) hf S (lv_sub hl [0, 1] rfl)
  · have hf := ifp c1 hf
    cases hf
    exact x_vret (pc := 9) C S dX1_compareStop_9
end

abbrev rm_X6_roundOf : Room := { frames := 0, cells := 0, slots := 0, locals := 0 }
abbrev kw_X6_roundOf : Cond := .code yX6_roundOf cX6_roundOf 2 (some .int)
abbrev w_X6_roundOf (G : GE) (a_t a_t_facts a_t_roundsOf a_t_locked a_t_rules a_t_sizes a_t_rows a_t_seen a_t_plan a_t_book : Nat) (t_stopCount : Int32) (t_metric : Int32) (t_fixed : Int32) (t_roundsOf : Nat → Int32) : va_W := [(a_t, ob 6 [.ref a_t_facts, .ref a_t_roundsOf, .ref a_t_locked, .ref a_t_rules, .ref a_t_sizes, .ref a_t_rows, .ref a_t_seen, .ref a_t_plan, .ref a_t_book, .int t_stopCount, .int t_metric, .int t_fixed]), (a_t_roundsOf, aI G 16 t_roundsOf)]
section
variable {p : Program} {l : Launch} {e : Env} {s : State} {m : MethodId} {args : Array Value} {below : List Frame} {meth : Method} {c : Code} {A : Nat → Prop} {G : GE} {a_t a_t_facts a_t_roundsOf a_t_locked a_t_rules a_t_sizes a_t_rows a_t_seen a_t_plan a_t_book : Nat} {r : Int32}
set_option maxRecDepth 100000 in
set_option maxHeartbeats 4000000 in
theorem c_X6_roundOf (l : Launch) (G : GE) (a_t a_t_facts a_t_roundsOf a_t_locked a_t_rules a_t_sizes a_t_rows a_t_seen a_t_plan a_t_book : Nat) (t_stopCount : Int32) (t_metric : Int32) (t_fixed : Int32) (t_roundsOf : Nat → Int32) (x1 : Int32) (r : Int32) (hf : f_X6_roundOf t_roundsOf x1 = some r) : CI l G yX6_roundOf kw_X6_roundOf rm_X6_roundOf [.ref a_t, .int x1] (w_X6_roundOf G a_t a_t_facts a_t_roundsOf a_t_locked a_t_rules a_t_sizes a_t_rows a_t_seen a_t_plan a_t_book t_stopCount t_metric t_fixed t_roundsOf) r (w_X6_roundOf G a_t a_t_facts a_t_roundsOf a_t_locked a_t_rules a_t_sizes a_t_rows a_t_seen a_t_plan a_t_book t_stopCount t_metric t_fixed t_roundsOf) := by
  refine en_I (cc := cX6_roundOf) (maxL := 2) (ret := (some .int)) (by decide +kernel) (Nat.le_of_ble_eq_true rfl) ?_
  intro p e s m args below meth c A ls C S hl
  have hl : lv_has ls 2 [(0, .ref a_t), (1, .int x1)] := hl
  have C : Cx p s m args meth c cX6_roundOf (some .int) 2 RX6 G A := C
  unfold f_X6_roundOf at hf
  have hx := C.1
  have hb := C.2.1
  have hown := C.2.2.2.2.1
  have hts := C.2.2.2.2.2.1
  have hN := C.2.2.2.2.2.2.2.2.2.2
  refine lv_iload_n (pc := 0) hx hb dX6_roundOf_0 rfl (lv_at hl 1 rfl) ?_
  refine lv_if_lt (tgt := 22) (pc := 1) hx hb dX6_roundOf_1 (by decide) (fun c1 => ?_) (fun c1 => ?_)
  · have hf := ifp c1 hf
    refine lv_bipush (pc := 22) hx hb dX6_roundOf_22 bc_m5 ?_
    cases hf
    exact x_iret (pc := 24) C S dX6_roundOf_24
  · have hf := ifn c1 hf
    refine lv_iload_n (pc := 4) hx hb dX6_roundOf_4 rfl (lv_at hl 1 rfl) ?_
    refine lv_aload_n (pc := 5) hx hb dX6_roundOf_5 rfl (lv_at hl 0 rfl) ?_
    refine x_get (pc := 6) (ci := 6) (T := TX6) (v := .ref a_t_roundsOf) C S 0 rfl rfl inlX6 1 (by decide) rfl qf_6_15 rfl dX6_roundOf_6 ?_
    refine x_lenI (pc := 9) C S 1 rfl nc_16 dX6_roundOf_9 ?_
    refine lv_icmp_ge (tgt := 22) (pc := 10) hx hb dX6_roundOf_10 (by decide) (fun c2 => ?_) (fun c2 => ?_)
    · have hf := ifp c2 hf
      refine lv_bipush (pc := 22) hx hb dX6_roundOf_22 bc_m5 ?_
      cases hf
      exact x_iret (pc := 24) C S dX6_roundOf_24
    · have hf := ifn c2 hf
      refine lv_aload_n (pc := 13) hx hb dX6_roundOf_13 rfl (lv_at hl 0 rfl) ?_
      refine x_get (pc := 14) (ci := 6) (T := TX6) (v := .ref a_t_roundsOf) C S 0 rfl rfl inlX6 1 (by decide) rfl qf_6_15 rfl dX6_roundOf_14 ?_
      refine lv_iload_n (pc := 17) hx hb dX6_roundOf_17 rfl (lv_at hl 1 rfl) ?_
      obtain ⟨hv3, hf⟩ := gI_e hf
      refine x_iald (pc := 18) C S 1 rfl hv3 dX6_roundOf_18 ?_
      refine lv_goto (tgt := 24) (pc := 19) hx hb dX6_roundOf_19 (by decide) ?_
      cases hf
      exact x_iret (pc := 24) C S dX6_roundOf_24
end

abbrev rm_X6_addsAt : Room := { frames := 2, cells := 0, slots := 0, locals := 50 }
abbrev kw_X6_addsAt : Cond := .code yX6_addsAt cX6_addsAt 7 (some .int)
abbrev w_X6_addsAt (G : GE) (a_t a_t_facts a_t_roundsOf a_t_locked a_t_rules a_t_sizes a_t_rows a_t_seen a_t_plan a_t_book : Nat) (t_stopCount : Int32) (t_metric : Int32) (t_fixed : Int32) (t_facts : Nat → Int32) (t_sizes : Nat → Int32) (t_rows : Nat → Int32) : va_W := [(a_t, ob 6 [.ref a_t_facts, .ref a_t_roundsOf, .ref a_t_locked, .ref a_t_rules, .ref a_t_sizes, .ref a_t_rows, .ref a_t_seen, .ref a_t_plan, .ref a_t_book, .int t_stopCount, .int t_metric, .int t_fixed]), (a_t_facts, aI G 102 t_facts), (a_t_sizes, aI G 4 t_sizes), (a_t_rows, aI G 64 t_rows)]
theorem u_X6_addsAt_X6_rowAt_103 {s : State} {args : Array Value} (hts : ∀ w ∈ WU, w.before args s = true) : CallW rm_X6_addsAt s args RX6 RX6 103 yX6_rowAt cX6_rowAt 4 (some .int) (kw_X6_rowAt :: WU) rm_X6_rowAt 0 0 2 := cwV 2 hts (gV qm_6_103 qi_X6_rowAt ql_X6_rowAt qn_6 qc_X6_rowAt) rfl rfl rfl (by decide +kernel) ⟨Nat.le_of_ble_eq_true rfl, Nat.le_of_ble_eq_true rfl⟩
theorem u_X6_addsAt_X6_way_114 {s : State} {args : Array Value} (hts : ∀ w ∈ WU, w.before args s = true) : CallW rm_X6_addsAt s args RX6 RX6 114 yX6_way cX6_way 3 (some .int) (kw_X6_way :: WU) rm_X6_way 0 0 2 := cwV 2 hts (gV qm_6_114 qi_X6_way ql_X6_way qn_6 qc_X6_way) rfl rfl rfl (by decide +kernel) ⟨Nat.le_of_ble_eq_true rfl, Nat.le_of_ble_eq_true rfl⟩
theorem u_X6_addsAt_X6_sizeOf_96 {s : State} {args : Array Value} (hts : ∀ w ∈ WU, w.before args s = true) : CallW rm_X6_addsAt s args RX6 RX6 96 yX6_sizeOf cX6_sizeOf 2 (some .int) (kw_X6_sizeOf :: WU) rm_X6_sizeOf 0 0 1 := cwV 1 hts (gV qm_6_96 qi_X6_sizeOf ql_X6_sizeOf qn_6 qc_X6_sizeOf) rfl rfl rfl (by decide +kernel) ⟨Nat.le_of_ble_eq_true rfl, Nat.le_of_ble_eq_true rfl⟩
section
variable {p : Program} {l : Launch} {e : Env} {s : State} {m : MethodId} {args : Array Value} {below : List Frame} {meth : Method} {c : Code} {A : Nat → Prop} {G : GE} {a_t a_t_facts a_t_roundsOf a_t_locked a_t_rules a_t_sizes a_t_rows a_t_seen a_t_plan a_t_book : Nat} {r : Int32}
set_option maxRecDepth 100000 in
set_option maxHeartbeats 4000000 in
theorem c_X6_addsAt (l : Launch) (G : GE) (a_t a_t_facts a_t_roundsOf a_t_locked a_t_rules a_t_sizes a_t_rows a_t_seen a_t_plan a_t_book : Nat) (t_stopCount : Int32) (t_metric : Int32) (t_fixed : Int32) (t_facts : Nat → Int32) (t_sizes : Nat → Int32) (t_rows : Nat → Int32) (x1 : Int32) (x2 : Int32) (x3 : Int32) (r : Int32) (hf : f_X6_addsAt t_facts t_sizes t_rows t_metric t_fixed x1 x2 x3 = some r) : CI l G yX6_addsAt kw_X6_addsAt rm_X6_addsAt [.ref a_t, .int x1, .int x2, .int x3] (w_X6_addsAt G a_t a_t_facts a_t_roundsOf a_t_locked a_t_rules a_t_sizes a_t_rows a_t_seen a_t_plan a_t_book t_stopCount t_metric t_fixed t_facts t_sizes t_rows) r (w_X6_addsAt G a_t a_t_facts a_t_roundsOf a_t_locked a_t_rules a_t_sizes a_t_rows a_t_seen a_t_plan a_t_book t_stopCount t_metric t_fixed t_facts t_sizes t_rows) := by
  refine en_I (cc := cX6_addsAt) (maxL := 7) (ret := (some .int)) (by decide +kernel) (Nat.le_of_ble_eq_true rfl) ?_
  intro p e s m args below meth c A ls C S hl
  have hl : lv_has ls 7 [(0, .ref a_t), (1, .int x1), (2, .int x2), (3, .int x3)] := hl
  have C : Cx p s m args meth c cX6_addsAt (some .int) 7 RX6 G A := C
  unfold f_X6_addsAt at hf
  have hx := C.1
  have hb := C.2.1
  have hown := C.2.2.2.2.1
  have hts := C.2.2.2.2.2.1
  have hN := C.2.2.2.2.2.2.2.2.2.2
  refine lv_aload_n (pc := 0) hx hb dX6_addsAt_0 rfl (lv_at hl 0 rfl) ?_
  refine lv_iload_n (pc := 1) hx hb dX6_addsAt_1 rfl (lv_at hl 2 rfl) ?_
  refine lv_iload_n (pc := 2) hx hb dX6_addsAt_2 rfl (lv_at hl 3 rfl) ?_
  refine lv_iconst (pc := 3) hx hb dX6_addsAt_3 ic_1 ?_
  refine lv_isub (pc := 4) hx hb dX6_addsAt_4 ?_
  obtain ⟨r1, hq1, hf⟩ := bd_e hf
  refine x_vI (pc := 5) (As := [.int x2, .int (x3 - (1 : Int32))]) (rest := []) (isC := [0, 2, 3]) (ws' := (w_X6_addsAt G a_t a_t_facts a_t_roundsOf a_t_locked a_t_rules a_t_sizes a_t_rows a_t_seen a_t_plan a_t_book t_stopCount t_metric t_fixed t_facts t_sizes t_rows)) C S (c_X6_rowAt l G a_t a_t_facts a_t_roundsOf a_t_locked a_t_rules a_t_sizes a_t_rows a_t_seen a_t_plan a_t_book t_stopCount t_metric t_fixed t_sizes t_rows x2 (x3 - (1 : Int32)) r1 hq1) (u_X6_addsAt_X6_rowAt_103 hts) (ci := 6) rfl 0 rfl rfl (by decide +kernel) [some 0, none, some 1, some 2] (by decide +kernel) rfl rfl rfl hl.1 rfl (Nat.le_of_ble_eq_true rfl) dX6_addsAt_5 (fun H locs S => ?_)
  refine lv_istore (pc := 8) (lv' := [(4, .int r1), (0, .ref a_t), (1, .int x1), (2, .int x2), (3, .int x3)]) hx hb dX6_addsAt_8 hl (by decide) rfl (fun ls hl => ?_)
  refine lv_aload_n (pc := 10) hx hb dX6_addsAt_10 rfl (lv_at hl 1 rfl) ?_
  refine lv_iload_n (pc := 11) hx hb dX6_addsAt_11 rfl (lv_at hl 3 rfl) ?_
  refine lv_iload_n (pc := 12) hx hb dX6_addsAt_12 rfl (lv_at hl 4 rfl) ?_
  obtain ⟨r2, hq2, hf⟩ := bd_e hf
  refine x_vI (pc := 13) (As := [.int x2, .int x3]) (rest := []) (isC := [0, 2, 3]) (ws' := (w_X6_addsAt G a_t a_t_facts a_t_roundsOf a_t_locked a_t_rules a_t_sizes a_t_rows a_t_seen a_t_plan a_t_book t_stopCount t_metric t_fixed t_facts t_sizes t_rows)) C S (c_X6_rowAt l G a_t a_t_facts a_t_roundsOf a_t_locked a_t_rules a_t_sizes a_t_rows a_t_seen a_t_plan a_t_book t_stopCount t_metric t_fixed t_sizes t_rows x2 x3 r2 hq2) (u_X6_addsAt_X6_rowAt_103 hts) (ci := 6) rfl 0 rfl rfl (by decide +kernel) [some 0, none, some 1, some 2] (by decide +kernel) rfl rfl rfl hl.1 rfl (Nat.le_of_ble_eq_true rfl) dX6_addsAt_13 (fun H locs S => ?_)
  refine lv_istore (pc := 16) (lv' := [(5, .int r2), (4, .int r1), (0, .ref a_t), (1, .int x1), (2, .int x2), (3, .int x3)]) hx hb dX6_addsAt_16 hl (by decide) rfl (fun ls hl => ?_)
  refine lv_aload_n (pc := 18) hx hb dX6_addsAt_18 rfl (lv_at hl 2 rfl) ?_
  refine lv_iload (pc := 19) hx hb dX6_addsAt_19 (lv_at hl 1 rfl) ?_
  refine lv_iload_n (pc := 21) hx hb dX6_addsAt_21 rfl (lv_at hl 3 rfl) ?_
  obtain ⟨r3, hq3, hf⟩ := bd_e hf
  refine x_vI (pc := 22) (As := [.int r1, .int x1]) (rest := []) (isC := [0, 1]) (ws' := (w_X6_addsAt G a_t a_t_facts a_t_roundsOf a_t_locked a_t_rules a_t_sizes a_t_rows a_t_seen a_t_plan a_t_book t_stopCount t_metric t_fixed t_facts t_sizes t_rows)) C S (c_X6_way l G a_t a_t_facts a_t_roundsOf a_t_locked a_t_rules a_t_sizes a_t_rows a_t_seen a_t_plan a_t_book t_stopCount t_metric t_fixed t_facts r1 x1 r3 hq3) (u_X6_addsAt_X6_way_114 hts) (ci := 6) rfl 0 rfl rfl (by decide +kernel) [some 0, some 1, none, none] (by decide +kernel) rfl rfl rfl hl.1 rfl (Nat.le_of_ble_eq_true rfl) dX6_addsAt_22 (fun H locs S => ?_)
  refine lv_aload_n (pc := 25) hx hb dX6_addsAt_25 rfl (lv_at hl 2 rfl) ?_
  refine lv_iload_n (pc := 26) hx hb dX6_addsAt_26 rfl (lv_at hl 3 rfl) ?_
  refine lv_iload (pc := 27) hx hb dX6_addsAt_27 (lv_at hl 0 rfl) ?_
  obtain ⟨r4, hq4, hf⟩ := bd_e hf
  refine x_vI (pc := 29) (As := [.int x1, .int r2]) (rest := [.int r3]) (isC := [0, 1]) (ws' := (w_X6_addsAt G a_t a_t_facts a_t_roundsOf a_t_locked a_t_rules a_t_sizes a_t_rows a_t_seen a_t_plan a_t_book t_stopCount t_metric t_fixed t_facts t_sizes t_rows)) C S (c_X6_way l G a_t a_t_facts a_t_roundsOf a_t_locked a_t_rules a_t_sizes a_t_rows a_t_seen a_t_plan a_t_book t_stopCount t_metric t_fixed t_facts x1 r2 r4 hq4) (u_X6_addsAt_X6_way_114 hts) (ci := 6) rfl 0 rfl rfl (by decide +kernel) [some 0, some 1, none, none] (by decide +kernel) rfl rfl rfl hl.1 rfl (Nat.le_of_ble_eq_true rfl) dX6_addsAt_29 (fun H locs S => ?_)
  refine lv_iadd (pc := 32) hx hb dX6_addsAt_32 ?_
  refine lv_aload_n (pc := 33) hx hb dX6_addsAt_33 rfl (lv_at hl 2 rfl) ?_
  refine lv_iload (pc := 34) hx hb dX6_addsAt_34 (lv_at hl 1 rfl) ?_
  refine lv_iload (pc := 36) hx hb dX6_addsAt_36 (lv_at hl 0 rfl) ?_
  obtain ⟨r5, hq5, hf⟩ := bd_e hf
  refine x_vI (pc := 38) (As := [.int r1, .int r2]) (rest := [.int (r3 + r4)]) (isC := [0, 1]) (ws' := (w_X6_addsAt G a_t a_t_facts a_t_roundsOf a_t_locked a_t_rules a_t_sizes a_t_rows a_t_seen a_t_plan a_t_book t_stopCount t_metric t_fixed t_facts t_sizes t_rows)) C S (c_X6_way l G a_t a_t_facts a_t_roundsOf a_t_locked a_t_rules a_t_sizes a_t_rows a_t_seen a_t_plan a_t_book t_stopCount t_metric t_fixed t_facts r1 r2 r5 hq5) (u_X6_addsAt_X6_way_114 hts) (ci := 6) rfl 0 rfl rfl (by decide +kernel) [some 0, some 1, none, none] (by decide +kernel) rfl rfl rfl hl.1 rfl (Nat.le_of_ble_eq_true rfl) dX6_addsAt_38 (fun H locs S => ?_)
  refine lv_isub (pc := 41) hx hb dX6_addsAt_41 ?_
  refine lv_istore (pc := 42) (lv' := [(6, .int ((r3 + r4) - r5)), (5, .int r2), (4, .int r1), (0, .ref a_t), (1, .int x1), (2, .int x2), (3, .int x3)]) hx hb dX6_addsAt_42 hl (by decide) rfl (fun ls hl => ?_)
  refine lv_iload (pc := 44) hx hb dX6_addsAt_44 (lv_at hl 0 rfl) ?_
  refine lv_aload_n (pc := 46) hx hb dX6_addsAt_46 rfl (lv_at hl 3 rfl) ?_
  refine lv_iload_n (pc := 47) hx hb dX6_addsAt_47 rfl (lv_at hl 5 rfl) ?_
  obtain ⟨r6, hq6, hf⟩ := bd_e hf
  refine x_vI (pc := 48) (As := [.int x2]) (rest := [.int ((r3 + r4) - r5)]) (isC := [0, 2]) (ws' := (w_X6_addsAt G a_t a_t_facts a_t_roundsOf a_t_locked a_t_rules a_t_sizes a_t_rows a_t_seen a_t_plan a_t_book t_stopCount t_metric t_fixed t_facts t_sizes t_rows)) C S (c_X6_sizeOf l G a_t a_t_facts a_t_roundsOf a_t_locked a_t_rules a_t_sizes a_t_rows a_t_seen a_t_plan a_t_book t_stopCount t_metric t_fixed t_sizes x2 r6 hq6) (u_X6_addsAt_X6_sizeOf_96 hts) (ci := 6) rfl 0 rfl rfl (by decide +kernel) [some 0, none, some 1, none] (by decide +kernel) rfl rfl rfl hl.1 rfl (Nat.le_of_ble_eq_true rfl) dX6_addsAt_48 (fun H locs S => ?_)
  refine lv_if_ne (tgt := 61) (pc := 51) hx hb dX6_addsAt_51 (by decide) (fun c7 => ?_) (fun c7 => ?_)
  · have hf := ifn c7 hf
    refine lv_iconst (pc := 61) hx hb dX6_addsAt_61 ic_0 ?_
    refine lv_iadd (pc := 62) hx hb dX6_addsAt_62 ?_
    cases hf
    exact x_iret (pc := 63) C S dX6_addsAt_63
  · have hf := ifp c7 hf
    refine lv_aload_n (pc := 54) hx hb dX6_addsAt_54 rfl (lv_at hl 3 rfl) ?_
    refine x_get (pc := 55) (ci := 6) (T := TX6) (v := .int t_fixed) C S 0 rfl rfl inlX6 11 (by decide) rfl qf_6_67 rfl dX6_addsAt_55 ?_
    refine lv_goto (tgt := 62) (pc := 58) hx hb dX6_addsAt_58 (by decide) ?_
    refine lv_iadd (pc := 62) hx hb dX6_addsAt_62 ?_
    cases hf
    exact x_iret (pc := 63) C S dX6_addsAt_63
end

abbrev rm_X1_weigh : Room := { frames := 3, cells := 0, slots := 0, locals := 78 }
abbrev kw_X1_weigh : Cond := .code yX1_weigh cX1_weigh 10 none
abbrev w_X1_weigh (G : GE) (a_t a_t_draft a_t_draft_row a_t_draft_comes a_t_draft_begins a_t_draft_slacks a_p1 a_p1_facts a_p1_roundsOf a_p1_locked a_p1_rules a_p1_sizes a_p1_rows a_p1_seen a_p1_plan a_p1_book : Nat) (t_round : Int32) (t_place : Int32) (t_adds : Int32) (t_regret : Int32) (t_chosen : Int32) (t_chosenRound : Int32) (t_chosenPlace : Int32) (t_chosenAdds : Int32) (t_chosenRegret : Int32) (t_draft_round : Int32) (t_draft_size : Int32) (t_draft_back : Int32) (t_draft_loads : Int32) (t_draft_miles : Int32) (t_draft_waits : Int32) (t_draft_lateAt : Int32) (t_draft_later : Int32) (t_draft_row : Nat → Int32) (t_draft_comes : Nat → Int32) (t_draft_begins : Nat → Int32) (p1_stopCount : Int32) (p1_metric : Int32) (p1_fixed : Int32) (p1_facts : Nat → Int32) (p1_rules : Nat → Int32) (p1_sizes : Nat → Int32) (p1_rows : Nat → Int32) : va_W := [(a_t, ob 1 [.ref a_t_draft, .int t_round, .int t_place, .int t_adds, .int t_regret, .int t_chosen, .int t_chosenRound, .int t_chosenPlace, .int t_chosenAdds, .int t_chosenRegret]), (a_t_draft, ob 0 [.ref a_t_draft_row, .ref a_t_draft_comes, .ref a_t_draft_begins, .ref a_t_draft_slacks, .int t_draft_round, .int t_draft_size, .int t_draft_back, .int t_draft_loads, .int t_draft_miles, .int t_draft_waits, .int t_draft_lateAt, .int t_draft_later]), (a_t_draft_row, aI G 16 t_draft_row), (a_t_draft_comes, aI G 16 t_draft_comes), (a_t_draft_begins, aI G 16 t_draft_begins), (a_p1, ob 6 [.ref a_p1_facts, .ref a_p1_roundsOf, .ref a_p1_locked, .ref a_p1_rules, .ref a_p1_sizes, .ref a_p1_rows, .ref a_p1_seen, .ref a_p1_plan, .ref a_p1_book, .int p1_stopCount, .int p1_metric, .int p1_fixed]), (a_p1_facts, aI G 102 p1_facts), (a_p1_rules, aI G 12 p1_rules), (a_p1_sizes, aI G 4 p1_sizes), (a_p1_rows, aI G 64 p1_rows)]
theorem u_X1_weigh_X6_sizeOf_25 {s : State} {args : Array Value} (hts : ∀ w ∈ WU, w.before args s = true) : CallW rm_X1_weigh s args RX1 RX6 25 yX6_sizeOf cX6_sizeOf 2 (some .int) (kw_X6_sizeOf :: WU) rm_X6_sizeOf 0 0 1 := cwV 1 hts (gV qm_1_25 qi_X6_sizeOf ql_X6_sizeOf qn_6 qc_X6_sizeOf) rfl rfl rfl (by decide +kernel) ⟨Nat.le_of_ble_eq_true rfl, Nat.le_of_ble_eq_true rfl⟩
theorem u_X1_weigh_X1_compareRound_47 {s : State} {args : Array Value} (hts : ∀ w ∈ WU, w.before args s = true) : CallW rm_X1_weigh s args RX1 RX1 47 yX1_compareRound cX1_compareRound 4 none (kw_X1_compareRound :: WU) rm_X1_compareRound 0 0 3 := cwV 3 hts (gV qm_1_47 qi_X1_compareRound ql_X1_compareRound qn_1 qc_X1_compareRound) rfl rfl rfl (by decide +kernel) ⟨Nat.le_of_ble_eq_true rfl, Nat.le_of_ble_eq_true rfl⟩
theorem u_X1_weigh_X6_addsAt_31 {s : State} {args : Array Value} (hts : ∀ w ∈ WU, w.before args s = true) : CallW rm_X1_weigh s args RX1 RX6 31 yX6_addsAt cX6_addsAt 7 (some .int) (kw_X6_addsAt :: WU) rm_X6_addsAt 0 0 3 := cwV 3 hts (gV qm_1_31 qi_X6_addsAt ql_X6_addsAt qn_6 qc_X6_addsAt) rfl rfl rfl (by decide +kernel) ⟨Nat.le_of_ble_eq_true rfl, Nat.le_of_ble_eq_true rfl⟩
theorem u_X1_weigh_X0_load_35 {s : State} {args : Array Value} (hts : ∀ w ∈ WU, w.before args s = true) : CallW rm_X1_weigh s args RX1 RX0 35 yX0_load cX0_load 4 none (kw_X0_load :: WU) rm_X0_load 0 0 2 := cwV 2 hts (gV qm_1_35 qi_X0_load ql_X0_load qn_0 qc_X0_load) rfl rfl rfl (by decide +kernel) ⟨Nat.le_of_ble_eq_true rfl, Nat.le_of_ble_eq_true rfl⟩
theorem u_X1_weigh_X0_insert_39 {s : State} {args : Array Value} (hts : ∀ w ∈ WU, w.before args s = true) : CallW rm_X1_weigh s args RX1 RX0 39 yX0_insert cX0_insert 4 none (kw_X0_insert :: WU) rm_X0_insert 0 0 2 := cwV 2 hts (gV qm_1_39 qi_X0_insert ql_X0_insert qn_0 qc_X0_insert) rfl rfl rfl (by decide +kernel) ⟨Nat.le_of_ble_eq_true rfl, Nat.le_of_ble_eq_true rfl⟩
theorem u_X1_weigh_X0_follow_43 {s : State} {args : Array Value} (hts : ∀ w ∈ WU, w.before args s = true) : CallW rm_X1_weigh s args RX1 RX0 43 yX0_follow cX0_follow 9 (some .boolean) (kw_X0_follow :: WU) rm_X0_follow 0 0 2 := cwV 2 hts (gV qm_1_43 qi_X0_follow ql_X0_follow qn_0 qc_X0_follow) rfl rfl rfl (by decide +kernel) ⟨Nat.le_of_ble_eq_true rfl, Nat.le_of_ble_eq_true rfl⟩
section
variable {p : Program} {l : Launch} {e : Env} {s : State} {m : MethodId} {args : Array Value} {below : List Frame} {meth : Method} {c : Code} {A : Nat → Prop} {G : GE} {a_t a_t_draft a_t_draft_row a_t_draft_comes a_t_draft_begins a_t_draft_slacks a_p1 a_p1_facts a_p1_roundsOf a_p1_locked a_p1_rules a_p1_sizes a_p1_rows a_p1_seen a_p1_plan a_p1_book : Nat} {z_t_draft_row : Nat → Int32} {z_t_draft_comes : Nat → Int32} {z_t_draft_begins : Nat → Int32} {z_t_draft_round : Int32} {z_t_draft_size : Int32} {z_t_draft_back : Int32} {z_t_draft_loads : Int32} {z_t_draft_miles : Int32} {z_t_draft_waits : Int32} {z_t_draft_lateAt : Int32} {z_t_round : Int32} {z_t_place : Int32} {z_t_adds : Int32} {z_t_regret : Int32}
set_option maxRecDepth 100000 in
set_option maxHeartbeats 4000000 in
theorem k_X1_weigh_78 (C : Cx p s m args meth c cX1_weigh none 10 RX1 G A) (t_round : Int32) (t_place : Int32) (t_adds : Int32) (t_regret : Int32) (t_chosen : Int32) (t_chosenRound : Int32) (t_chosenPlace : Int32) (t_chosenAdds : Int32) (t_chosenRegret : Int32) (t_draft_round : Int32) (t_draft_size : Int32) (t_draft_back : Int32) (t_draft_loads : Int32) (t_draft_miles : Int32) (t_draft_waits : Int32) (t_draft_lateAt : Int32) (t_draft_later : Int32) (t_draft_row : Nat → Int32) (t_draft_comes : Nat → Int32) (t_draft_begins : Nat → Int32) (p1_stopCount : Int32) (p1_metric : Int32) (p1_fixed : Int32) (p1_facts : Nat → Int32) (p1_rules : Nat → Int32) (p1_sizes : Nat → Int32) (p1_rows : Nat → Int32) (x2 : Int32) (x4 : Int32) (x5 : Int32) (x6 : Int32) (x7 : Int32) (x8 : Int32) (x9 : Int32) (k16 : Int32 × (Nat → Int32) × (Nat → Int32) × (Nat → Int32) × Int32 × Int32 × Int32 × Int32 × Int32 × Int32 × Int32 × Int32 × Int32 × Int32 × Int32 → Option ((Nat → Int32) × (Nat → Int32) × (Nat → Int32) × Int32 × Int32 × Int32 × Int32 × Int32 × Int32 × Int32 × Int32 × Int32 × Int32 × Int32)) (hk16 : ∀ {H : Heap} {locs : List Loc} {ls : Array Slot} (x5' : Int32) (t_draft_row' : Nat → Int32) (t_draft_comes' : Nat → Int32) (t_draft_begins' : Nat → Int32) (t_draft_round' : Int32) (t_draft_size' : Int32) (t_draft_back' : Int32) (t_draft_loads' : Int32) (t_draft_miles' : Int32) (t_draft_waits' : Int32) (t_draft_lateAt' : Int32) (t_round' : Int32) (t_place' : Int32) (t_adds' : Int32) (t_regret' : Int32), k16 (x5', t_draft_row', t_draft_comes', t_draft_begins', t_draft_round', t_draft_size', t_draft_back', t_draft_loads', t_draft_miles', t_draft_waits', t_draft_lateAt', t_round', t_place', t_adds', t_regret') = some (z_t_draft_row, z_t_draft_comes, z_t_draft_begins, z_t_draft_round, z_t_draft_size, z_t_draft_back, z_t_draft_loads, z_t_draft_miles, z_t_draft_waits, z_t_draft_lateAt, z_t_round, z_t_place, z_t_adds, z_t_regret) → St G A s.heap H locs (w_X1_weigh G a_t a_t_draft a_t_draft_row a_t_draft_comes a_t_draft_begins a_t_draft_slacks a_p1 a_p1_facts a_p1_roundsOf a_p1_locked a_p1_rules a_p1_sizes a_p1_rows a_p1_seen a_p1_plan a_p1_book t_round' t_place' t_adds' t_regret' t_chosen t_chosenRound t_chosenPlace t_chosenAdds t_chosenRegret t_draft_round' t_draft_size' t_draft_back' t_draft_loads' t_draft_miles' t_draft_waits' t_draft_lateAt' t_draft_later t_draft_row' t_draft_comes' t_draft_begins' p1_stopCount p1_metric p1_fixed p1_facts p1_rules p1_sizes p1_rows) → lv_has ls 10 [(0, .ref a_t), (1, .ref a_p1), (2, .int x2), (4, .int x4), (5, .int x5')] → W p l e rm_X1_weigh s m args below meth c H locs 0 0 (QV G below args s A (w_X1_weigh G a_t a_t_draft a_t_draft_row a_t_draft_comes a_t_draft_begins a_t_draft_slacks a_p1 a_p1_facts a_p1_roundsOf a_p1_locked a_p1_rules a_p1_sizes a_p1_rows a_p1_seen a_p1_plan a_p1_book z_t_round z_t_place z_t_adds z_t_regret t_chosen t_chosenRound t_chosenPlace t_chosenAdds t_chosenRegret z_t_draft_round z_t_draft_size z_t_draft_back z_t_draft_loads z_t_draft_miles z_t_draft_waits z_t_draft_lateAt t_draft_later z_t_draft_row z_t_draft_comes z_t_draft_begins p1_stopCount p1_metric p1_fixed p1_facts p1_rules p1_sizes p1_rows)) (F0 m 16 ls [])) (k39 : Int32 × Int32 × Int32 × (Nat → Int32) × (Nat → Int32) × (Nat → Int32) × Int32 × Int32 × Int32 × Int32 × Int32 × Int32 × Int32 → Option ((Nat → Int32) × (Nat → Int32) × (Nat → Int32) × Int32 × Int32 × Int32 × Int32 × Int32 × Int32 × Int32 × Int32 × Int32 × Int32 × Int32)) (hk39 : ∀ {H : Heap} {locs : List Loc} {ls : Array Slot} (x6' : Int32) (x7' : Int32) (x8' : Int32) (t_draft_row' : Nat → Int32) (t_draft_comes' : Nat → Int32) (t_draft_begins' : Nat → Int32) (t_draft_round' : Int32) (t_draft_size' : Int32) (t_draft_back' : Int32) (t_draft_loads' : Int32) (t_draft_miles' : Int32) (t_draft_waits' : Int32) (t_draft_lateAt' : Int32), k39 (x6', x7', x8', t_draft_row', t_draft_comes', t_draft_begins', t_draft_round', t_draft_size', t_draft_back', t_draft_loads', t_draft_miles', t_draft_waits', t_draft_lateAt') = some (z_t_draft_row, z_t_draft_comes, z_t_draft_begins, z_t_draft_round, z_t_draft_size, z_t_draft_back, z_t_draft_loads, z_t_draft_miles, z_t_draft_waits, z_t_draft_lateAt, z_t_round, z_t_place, z_t_adds, z_t_regret) → St G A s.heap H locs (w_X1_weigh G a_t a_t_draft a_t_draft_row a_t_draft_comes a_t_draft_begins a_t_draft_slacks a_p1 a_p1_facts a_p1_roundsOf a_p1_locked a_p1_rules a_p1_sizes a_p1_rows a_p1_seen a_p1_plan a_p1_book t_round t_place t_adds t_regret t_chosen t_chosenRound t_chosenPlace t_chosenAdds t_chosenRegret t_draft_round' t_draft_size' t_draft_back' t_draft_loads' t_draft_miles' t_draft_waits' t_draft_lateAt' t_draft_later t_draft_row' t_draft_comes' t_draft_begins' p1_stopCount p1_metric p1_fixed p1_facts p1_rules p1_sizes p1_rows) → lv_has ls 10 [(0, .ref a_t), (1, .ref a_p1), (2, .int x2), (4, .int x4), (5, .int x5), (6, .int x6'), (7, .int x7'), (8, .int x8')] → W p l e rm_X1_weigh s m args below meth c H locs 0 0 (QV G below args s A (w_X1_weigh G a_t a_t_draft a_t_draft_row a_t_draft_comes a_t_draft_begins a_t_draft_slacks a_p1 a_p1_facts a_p1_roundsOf a_p1_locked a_p1_rules a_p1_sizes a_p1_rows a_p1_seen a_p1_plan a_p1_book z_t_round z_t_place z_t_adds z_t_regret t_chosen t_chosenRound t_chosenPlace t_chosenAdds t_chosenRegret z_t_draft_round z_t_draft_size z_t_draft_back z_t_draft_loads z_t_draft_miles z_t_draft_waits z_t_draft_lateAt t_draft_later z_t_draft_row z_t_draft_comes z_t_draft_begins p1_stopCount p1_metric p1_fixed p1_facts p1_rules p1_sizes p1_rows)) (F0 m 39 ls [])) {H : Heap} {locs : List Loc} {ls : Array Slot} (hf : b_X1_weigh_78 k16 k39 x2 x4 x5 x6 x7 x8 x9 t_draft_row t_draft_comes t_draft_begins t_round t_place t_adds t_regret p1_facts p1_rules p1_sizes p1_rows p1_metric p1_fixed = some (z_t_draft_row, z_t_draft_comes, z_t_draft_begins, z_t_draft_round, z_t_draft_size, z_t_draft_back, z_t_draft_loads, z_t_draft_miles, z_t_draft_waits, z_t_draft_lateAt, z_t_round, z_t_place, z_t_adds, z_t_regret)) (S : St G A s.heap H locs (w_X1_weigh G a_t a_t_draft a_t_draft_row a_t_draft_comes a_t_draft_begins a_t_draft_slacks a_p1 a_p1_facts a_p1_roundsOf a_p1_locked a_p1_rules a_p1_sizes a_p1_rows a_p1_seen a_p1_plan a_p1_book t_round t_place t_adds t_regret t_chosen t_chosenRound t_chosenPlace t_chosenAdds t_chosenRegret t_draft_round t_draft_size t_draft_back t_draft_loads t_draft_miles t_draft_waits t_draft_lateAt t_draft_later t_draft_row t_draft_comes t_draft_begins p1_stopCount p1_metric p1_fixed p1_facts p1_rules p1_sizes p1_rows)) (hl : lv_has ls 10 [(0, .ref a_t), (1, .ref a_p1), (2, .int x2), (4, .int x4), (5, .int x5), (6, .int x6), (7, .int x7), (8, .int x8), (9, .int x9)]) : W p l e rm_X1_weigh s m args below meth c H locs 0 0 (QV G below args s A (w_X1_weigh G a_t a_t_draft a_t_draft_row a_t_draft_comes a_t_draft_begins a_t_draft_slacks a_p1 a_p1_facts a_p1_roundsOf a_p1_locked a_p1_rules a_p1_sizes a_p1_rows a_p1_seen a_p1_plan a_p1_book z_t_round z_t_place z_t_adds z_t_regret t_chosen t_chosenRound t_chosenPlace t_chosenAdds t_chosenRegret z_t_draft_round z_t_draft_size z_t_draft_back z_t_draft_loads z_t_draft_miles z_t_draft_waits z_t_draft_lateAt t_draft_later z_t_draft_row z_t_draft_comes z_t_draft_begins p1_stopCount p1_metric p1_fixed p1_facts p1_rules p1_sizes p1_rows)) (F0 m 78 ls []) := by
  unfold b_X1_weigh_78 at hf
  have hx := C.1
  have hb := C.2.1
  have hown := C.2.2.2.2.1
  have hts := C.2.2.2.2.2.1
  have hN := C.2.2.2.2.2.2.2.2.2.2
  refine lv_aload_n (pc := 78) hx hb dX1_weigh_78 rfl (lv_at hl 0 rfl) ?_
  refine x_get (pc := 79) (ci := 1) (T := TX1) (v := .ref a_t_draft) C S 0 rfl rfl inlX1 0 (by decide) rfl qf_1_12 rfl dX1_weigh_79 ?_
  refine lv_aload_n (pc := 82) hx hb dX1_weigh_82 rfl (lv_at hl 1 rfl) ?_
  refine lv_iload (pc := 83) hx hb dX1_weigh_83 (lv_at hl 4 rfl) ?_
  obtain ⟨⟨o1_t_draft_row, o1_t_draft_round, o1_t_draft_size⟩, hq1, hf⟩ := bd_e hf
  refine x_vV (pc := 85) (As := [.ref a_p1, .int x5]) (rest := []) (isC := [1, 2, 5, 8, 9]) (ws' := (w_X1_weigh G a_t a_t_draft a_t_draft_row a_t_draft_comes a_t_draft_begins a_t_draft_slacks a_p1 a_p1_facts a_p1_roundsOf a_p1_locked a_p1_rules a_p1_sizes a_p1_rows a_p1_seen a_p1_plan a_p1_book t_round t_place t_adds t_regret t_chosen t_chosenRound t_chosenPlace t_chosenAdds t_chosenRegret o1_t_draft_round o1_t_draft_size t_draft_back t_draft_loads t_draft_miles t_draft_waits t_draft_lateAt t_draft_later o1_t_draft_row t_draft_comes t_draft_begins p1_stopCount p1_metric p1_fixed p1_facts p1_rules p1_sizes p1_rows)) C S (c_X0_load l G a_t_draft a_t_draft_row a_t_draft_comes a_t_draft_begins a_t_draft_slacks a_p1 a_p1_facts a_p1_roundsOf a_p1_locked a_p1_rules a_p1_sizes a_p1_rows a_p1_seen a_p1_plan a_p1_book t_draft_round t_draft_size t_draft_back t_draft_loads t_draft_miles t_draft_waits t_draft_lateAt t_draft_later t_draft_row p1_stopCount p1_metric p1_fixed p1_sizes p1_rows x5 o1_t_draft_row o1_t_draft_round o1_t_draft_size hq1) (u_X1_weigh_X0_load_35 hts) (ci := 0) rfl 1 rfl rfl (by decide +kernel) [none, some 0, some 1, none, none, some 2, none, none, some 3, some 4] (by decide +kernel) rfl rfl rfl hl.1 rfl (Nat.le_of_ble_eq_true rfl) dX1_weigh_85 (fun H locs S => ?_)
  refine lv_aload_n (pc := 88) hx hb dX1_weigh_88 rfl (lv_at hl 0 rfl) ?_
  refine x_get (pc := 89) (ci := 1) (T := TX1) (v := .ref a_t_draft) C S 0 rfl rfl inlX1 0 (by decide) rfl qf_1_12 rfl dX1_weigh_89 ?_
  refine lv_iload (pc := 92) hx hb dX1_weigh_92 (lv_at hl 7 rfl) ?_
  refine lv_iload_n (pc := 94) hx hb dX1_weigh_94 rfl (lv_at hl 2 rfl) ?_
  obtain ⟨⟨o2_t_draft_row, o2_t_draft_size⟩, hq2, hf⟩ := bd_e hf
  refine x_vV (pc := 95) (As := [.int x8, .int x2]) (rest := []) (isC := [1, 2]) (ws' := (w_X1_weigh G a_t a_t_draft a_t_draft_row a_t_draft_comes a_t_draft_begins a_t_draft_slacks a_p1 a_p1_facts a_p1_roundsOf a_p1_locked a_p1_rules a_p1_sizes a_p1_rows a_p1_seen a_p1_plan a_p1_book t_round t_place t_adds t_regret t_chosen t_chosenRound t_chosenPlace t_chosenAdds t_chosenRegret o1_t_draft_round o2_t_draft_size t_draft_back t_draft_loads t_draft_miles t_draft_waits t_draft_lateAt t_draft_later o2_t_draft_row t_draft_comes t_draft_begins p1_stopCount p1_metric p1_fixed p1_facts p1_rules p1_sizes p1_rows)) C S (c_X0_insert l G a_t_draft a_t_draft_row a_t_draft_comes a_t_draft_begins a_t_draft_slacks o1_t_draft_round o1_t_draft_size t_draft_back t_draft_loads t_draft_miles t_draft_waits t_draft_lateAt t_draft_later o1_t_draft_row x8 x2 o2_t_draft_row o2_t_draft_size hq2) (u_X1_weigh_X0_insert_39 hts) (ci := 0) rfl 1 rfl rfl (by decide +kernel) [none, some 0, some 1, none, none, none, none, none, none, none] (by decide +kernel) rfl rfl rfl hl.1 rfl (Nat.le_of_ble_eq_true rfl) dX1_weigh_95 (fun H locs S => ?_)
  refine lv_aload_n (pc := 98) hx hb dX1_weigh_98 rfl (lv_at hl 0 rfl) ?_
  refine x_get (pc := 99) (ci := 1) (T := TX1) (v := .ref a_t_draft) C S 0 rfl rfl inlX1 0 (by decide) rfl qf_1_12 rfl dX1_weigh_99 ?_
  refine lv_aload_n (pc := 102) hx hb dX1_weigh_102 rfl (lv_at hl 1 rfl) ?_
  refine lv_iconst (pc := 103) hx hb dX1_weigh_103 ic_0 ?_
  obtain ⟨⟨r3, o3_t_draft_comes, o3_t_draft_begins, o3_t_draft_back, o3_t_draft_loads, o3_t_draft_miles, o3_t_draft_waits, o3_t_draft_lateAt⟩, hq3, hf⟩ := bd_e hf
  refine x_vI (pc := 104) (As := [.ref a_p1, .int (0 : Int32)]) (rest := []) (isC := [1, 2, 3, 4, 5, 6, 7]) (ws' := (w_X1_weigh G a_t a_t_draft a_t_draft_row a_t_draft_comes a_t_draft_begins a_t_draft_slacks a_p1 a_p1_facts a_p1_roundsOf a_p1_locked a_p1_rules a_p1_sizes a_p1_rows a_p1_seen a_p1_plan a_p1_book t_round t_place t_adds t_regret t_chosen t_chosenRound t_chosenPlace t_chosenAdds t_chosenRegret o1_t_draft_round o2_t_draft_size o3_t_draft_back o3_t_draft_loads o3_t_draft_miles o3_t_draft_waits o3_t_draft_lateAt t_draft_later o2_t_draft_row o3_t_draft_comes o3_t_draft_begins p1_stopCount p1_metric p1_fixed p1_facts p1_rules p1_sizes p1_rows)) C S (c_X0_follow l G a_t_draft a_t_draft_row a_t_draft_comes a_t_draft_begins a_t_draft_slacks a_p1 a_p1_facts a_p1_roundsOf a_p1_locked a_p1_rules a_p1_sizes a_p1_rows a_p1_seen a_p1_plan a_p1_book o1_t_draft_round o2_t_draft_size t_draft_back t_draft_loads t_draft_miles t_draft_waits t_draft_lateAt t_draft_later o2_t_draft_row t_draft_comes t_draft_begins p1_stopCount p1_metric p1_fixed p1_facts p1_rules (0 : Int32) r3 o3_t_draft_comes o3_t_draft_begins o3_t_draft_back o3_t_draft_loads o3_t_draft_miles o3_t_draft_waits o3_t_draft_lateAt hq3) (u_X1_weigh_X0_follow_43 hts) (ci := 0) rfl 1 rfl rfl (by decide +kernel) [none, some 0, some 1, some 2, some 3, some 4, some 5, some 6, none, none] (by decide +kernel) rfl rfl rfl hl.1 rfl (Nat.le_of_ble_eq_true rfl) dX1_weigh_104 (fun H locs S => ?_)
  refine lv_if_eq (tgt := 118) (pc := 107) hx hb dX1_weigh_107 (by decide) (fun c4 => ?_) (fun c4 => ?_)
  · have hf := ifp c4 hf
    refine lv_iinc (pc := 118) (v := (x8 + (1 : Int32))) (lv' := [(8, .int (x8 + (1 : Int32))), (0, .ref a_t), (1, .ref a_p1), (2, .int x2), (4, .int x4), (5, .int x5), (6, .int x6), (7, .int x7), (9, .int x9)]) hx hb dX1_weigh_118 hl (k := 7) rfl (congrArg (fun z => x8 + z) ic_1) (by decide) rfl (fun ls hl => ?_)
    refine lv_goto (tgt := 39) (pc := 121) hx hb dX1_weigh_121 (by decide) ?_
    exact hk39 (x6) (x7) ((x8 + (1 : Int32))) (o2_t_draft_row) (o3_t_draft_comes) (o3_t_draft_begins) (o1_t_draft_round) (o2_t_draft_size) (o3_t_draft_back) (o3_t_draft_loads) (o3_t_draft_miles) (o3_t_draft_waits) (o3_t_draft_lateAt)  hf S (lv_sub hl [1, 2, 3, 4, 5, 6, 7, 0] rfl)
  · have hf := ifn c4 hf
    refine lv_iload (pc := 110) hx hb dX1_weigh_110 (lv_at hl 7 rfl) ?_
    refine lv_istore (pc := 112) (lv' := [(6, .int x8), (0, .ref a_t), (1, .ref a_p1), (2, .int x2), (4, .int x4), (5, .int x5), (7, .int x7), (8, .int x8), (9, .int x9)]) hx hb dX1_weigh_112 hl (by decide) rfl (fun ls hl => ?_)
    refine lv_iload (pc := 114) hx hb dX1_weigh_114 (lv_at hl 8 rfl) ?_
    refine lv_istore (pc := 116) (lv' := [(7, .int x9), (6, .int x8), (0, .ref a_t), (1, .ref a_p1), (2, .int x2), (4, .int x4), (5, .int x5), (8, .int x8), (9, .int x9)]) hx hb dX1_weigh_116 hl (by decide) rfl (fun ls hl => ?_)
    refine lv_iinc (pc := 118) (v := (x8 + (1 : Int32))) (lv' := [(8, .int (x8 + (1 : Int32))), (7, .int x9), (6, .int x8), (0, .ref a_t), (1, .ref a_p1), (2, .int x2), (4, .int x4), (5, .int x5), (9, .int x9)]) hx hb dX1_weigh_118 hl (k := 7) rfl (congrArg (fun z => x8 + z) ic_1) (by decide) rfl (fun ls hl => ?_)
    refine lv_goto (tgt := 39) (pc := 121) hx hb dX1_weigh_121 (by decide) ?_
    exact hk39 (x8) (x9) ((x8 + (1 : Int32))) (o2_t_draft_row) (o3_t_draft_comes) (o3_t_draft_begins) (o1_t_draft_round) (o2_t_draft_size) (o3_t_draft_back) (o3_t_draft_loads) (o3_t_draft_miles) (o3_t_draft_waits) (o3_t_draft_lateAt)  hf S (lv_sub hl [3, 4, 5, 6, 7, 2, 1, 0] rfl)
set_option maxRecDepth 100000 in
set_option maxHeartbeats 4000000 in
theorem k_X1_weigh_39 (C : Cx p s m args meth c cX1_weigh none 10 RX1 G A) (t_round : Int32) (t_place : Int32) (t_adds : Int32) (t_regret : Int32) (t_chosen : Int32) (t_chosenRound : Int32) (t_chosenPlace : Int32) (t_chosenAdds : Int32) (t_chosenRegret : Int32) (t_draft_round : Int32) (t_draft_size : Int32) (t_draft_back : Int32) (t_draft_loads : Int32) (t_draft_miles : Int32) (t_draft_waits : Int32) (t_draft_lateAt : Int32) (t_draft_later : Int32) (t_draft_row : Nat → Int32) (t_draft_comes : Nat → Int32) (t_draft_begins : Nat → Int32) (p1_stopCount : Int32) (p1_metric : Int32) (p1_fixed : Int32) (p1_facts : Nat → Int32) (p1_rules : Nat → Int32) (p1_sizes : Nat → Int32) (p1_rows : Nat → Int32) (x2 : Int32) (x4 : Int32) (x5 : Int32) (x6 : Int32) (x7 : Int32) (x8 : Int32) (k16 : Int32 × (Nat → Int32) × (Nat → Int32) × (Nat → Int32) × Int32 × Int32 × Int32 × Int32 × Int32 × Int32 × Int32 × Int32 × Int32 × Int32 × Int32 → Option ((Nat → Int32) × (Nat → Int32) × (Nat → Int32) × Int32 × Int32 × Int32 × Int32 × Int32 × Int32 × Int32 × Int32 × Int32 × Int32 × Int32)) (hk16 : ∀ {H : Heap} {locs : List Loc} {ls : Array Slot} (x5' : Int32) (t_draft_row' : Nat → Int32) (t_draft_comes' : Nat → Int32) (t_draft_begins' : Nat → Int32) (t_draft_round' : Int32) (t_draft_size' : Int32) (t_draft_back' : Int32) (t_draft_loads' : Int32) (t_draft_miles' : Int32) (t_draft_waits' : Int32) (t_draft_lateAt' : Int32) (t_round' : Int32) (t_place' : Int32) (t_adds' : Int32) (t_regret' : Int32), k16 (x5', t_draft_row', t_draft_comes', t_draft_begins', t_draft_round', t_draft_size', t_draft_back', t_draft_loads', t_draft_miles', t_draft_waits', t_draft_lateAt', t_round', t_place', t_adds', t_regret') = some (z_t_draft_row, z_t_draft_comes, z_t_draft_begins, z_t_draft_round, z_t_draft_size, z_t_draft_back, z_t_draft_loads, z_t_draft_miles, z_t_draft_waits, z_t_draft_lateAt, z_t_round, z_t_place, z_t_adds, z_t_regret) → St G A s.heap H locs (w_X1_weigh G a_t a_t_draft a_t_draft_row a_t_draft_comes a_t_draft_begins a_t_draft_slacks a_p1 a_p1_facts a_p1_roundsOf a_p1_locked a_p1_rules a_p1_sizes a_p1_rows a_p1_seen a_p1_plan a_p1_book t_round' t_place' t_adds' t_regret' t_chosen t_chosenRound t_chosenPlace t_chosenAdds t_chosenRegret t_draft_round' t_draft_size' t_draft_back' t_draft_loads' t_draft_miles' t_draft_waits' t_draft_lateAt' t_draft_later t_draft_row' t_draft_comes' t_draft_begins' p1_stopCount p1_metric p1_fixed p1_facts p1_rules p1_sizes p1_rows) → lv_has ls 10 [(0, .ref a_t), (1, .ref a_p1), (2, .int x2), (4, .int x4), (5, .int x5')] → W p l e rm_X1_weigh s m args below meth c H locs 0 0 (QV G below args s A (w_X1_weigh G a_t a_t_draft a_t_draft_row a_t_draft_comes a_t_draft_begins a_t_draft_slacks a_p1 a_p1_facts a_p1_roundsOf a_p1_locked a_p1_rules a_p1_sizes a_p1_rows a_p1_seen a_p1_plan a_p1_book z_t_round z_t_place z_t_adds z_t_regret t_chosen t_chosenRound t_chosenPlace t_chosenAdds t_chosenRegret z_t_draft_round z_t_draft_size z_t_draft_back z_t_draft_loads z_t_draft_miles z_t_draft_waits z_t_draft_lateAt t_draft_later z_t_draft_row z_t_draft_comes z_t_draft_begins p1_stopCount p1_metric p1_fixed p1_facts p1_rules p1_sizes p1_rows)) (F0 m 16 ls [])) (k39 : Int32 × Int32 × Int32 × (Nat → Int32) × (Nat → Int32) × (Nat → Int32) × Int32 × Int32 × Int32 × Int32 × Int32 × Int32 × Int32 → Option ((Nat → Int32) × (Nat → Int32) × (Nat → Int32) × Int32 × Int32 × Int32 × Int32 × Int32 × Int32 × Int32 × Int32 × Int32 × Int32 × Int32)) (hk39 : ∀ {H : Heap} {locs : List Loc} {ls : Array Slot} (x6' : Int32) (x7' : Int32) (x8' : Int32) (t_draft_row' : Nat → Int32) (t_draft_comes' : Nat → Int32) (t_draft_begins' : Nat → Int32) (t_draft_round' : Int32) (t_draft_size' : Int32) (t_draft_back' : Int32) (t_draft_loads' : Int32) (t_draft_miles' : Int32) (t_draft_waits' : Int32) (t_draft_lateAt' : Int32), k39 (x6', x7', x8', t_draft_row', t_draft_comes', t_draft_begins', t_draft_round', t_draft_size', t_draft_back', t_draft_loads', t_draft_miles', t_draft_waits', t_draft_lateAt') = some (z_t_draft_row, z_t_draft_comes, z_t_draft_begins, z_t_draft_round, z_t_draft_size, z_t_draft_back, z_t_draft_loads, z_t_draft_miles, z_t_draft_waits, z_t_draft_lateAt, z_t_round, z_t_place, z_t_adds, z_t_regret) → St G A s.heap H locs (w_X1_weigh G a_t a_t_draft a_t_draft_row a_t_draft_comes a_t_draft_begins a_t_draft_slacks a_p1 a_p1_facts a_p1_roundsOf a_p1_locked a_p1_rules a_p1_sizes a_p1_rows a_p1_seen a_p1_plan a_p1_book t_round t_place t_adds t_regret t_chosen t_chosenRound t_chosenPlace t_chosenAdds t_chosenRegret t_draft_round' t_draft_size' t_draft_back' t_draft_loads' t_draft_miles' t_draft_waits' t_draft_lateAt' t_draft_later t_draft_row' t_draft_comes' t_draft_begins' p1_stopCount p1_metric p1_fixed p1_facts p1_rules p1_sizes p1_rows) → lv_has ls 10 [(0, .ref a_t), (1, .ref a_p1), (2, .int x2), (4, .int x4), (5, .int x5), (6, .int x6'), (7, .int x7'), (8, .int x8')] → W p l e rm_X1_weigh s m args below meth c H locs 0 0 (QV G below args s A (w_X1_weigh G a_t a_t_draft a_t_draft_row a_t_draft_comes a_t_draft_begins a_t_draft_slacks a_p1 a_p1_facts a_p1_roundsOf a_p1_locked a_p1_rules a_p1_sizes a_p1_rows a_p1_seen a_p1_plan a_p1_book z_t_round z_t_place z_t_adds z_t_regret t_chosen t_chosenRound t_chosenPlace t_chosenAdds t_chosenRegret z_t_draft_round z_t_draft_size z_t_draft_back z_t_draft_loads z_t_draft_miles z_t_draft_waits z_t_draft_lateAt t_draft_later z_t_draft_row z_t_draft_comes z_t_draft_begins p1_stopCount p1_metric p1_fixed p1_facts p1_rules p1_sizes p1_rows)) (F0 m 39 ls [])) {H : Heap} {locs : List Loc} {ls : Array Slot} (hf : b_X1_weigh_39 k16 x2 x4 x5 t_round t_place t_adds t_regret p1_facts p1_rules p1_sizes p1_rows p1_metric p1_fixed k39 x6 x7 x8 t_draft_row t_draft_comes t_draft_begins t_draft_round t_draft_size t_draft_back t_draft_loads t_draft_miles t_draft_waits t_draft_lateAt = some (z_t_draft_row, z_t_draft_comes, z_t_draft_begins, z_t_draft_round, z_t_draft_size, z_t_draft_back, z_t_draft_loads, z_t_draft_miles, z_t_draft_waits, z_t_draft_lateAt, z_t_round, z_t_place, z_t_adds, z_t_regret)) (S : St G A s.heap H locs (w_X1_weigh G a_t a_t_draft a_t_draft_row a_t_draft_comes a_t_draft_begins a_t_draft_slacks a_p1 a_p1_facts a_p1_roundsOf a_p1_locked a_p1_rules a_p1_sizes a_p1_rows a_p1_seen a_p1_plan a_p1_book t_round t_place t_adds t_regret t_chosen t_chosenRound t_chosenPlace t_chosenAdds t_chosenRegret t_draft_round t_draft_size t_draft_back t_draft_loads t_draft_miles t_draft_waits t_draft_lateAt t_draft_later t_draft_row t_draft_comes t_draft_begins p1_stopCount p1_metric p1_fixed p1_facts p1_rules p1_sizes p1_rows)) (hl : lv_has ls 10 [(0, .ref a_t), (1, .ref a_p1), (2, .int x2), (4, .int x4), (5, .int x5), (6, .int x6), (7, .int x7), (8, .int x8)]) : W p l e rm_X1_weigh s m args below meth c H locs 0 0 (QV G below args s A (w_X1_weigh G a_t a_t_draft a_t_draft_row a_t_draft_comes a_t_draft_begins a_t_draft_slacks a_p1 a_p1_facts a_p1_roundsOf a_p1_locked a_p1_rules a_p1_sizes a_p1_rows a_p1_seen a_p1_plan a_p1_book z_t_round z_t_place z_t_adds z_t_regret t_chosen t_chosenRound t_chosenPlace t_chosenAdds t_chosenRegret z_t_draft_round z_t_draft_size z_t_draft_back z_t_draft_loads z_t_draft_miles z_t_draft_waits z_t_draft_lateAt t_draft_later z_t_draft_row z_t_draft_comes z_t_draft_begins p1_stopCount p1_metric p1_fixed p1_facts p1_rules p1_sizes p1_rows)) (F0 m 39 ls []) := by
  unfold b_X1_weigh_39 at hf
  have hx := C.1
  have hb := C.2.1
  have hown := C.2.2.2.2.1
  have hts := C.2.2.2.2.2.1
  have hN := C.2.2.2.2.2.2.2.2.2.2
  refine lv_iload (pc := 39) hx hb dX1_weigh_39 (lv_at hl 7 rfl) ?_
  refine lv_aload_n (pc := 41) hx hb dX1_weigh_41 rfl (lv_at hl 1 rfl) ?_
  refine lv_iload (pc := 42) hx hb dX1_weigh_42 (lv_at hl 4 rfl) ?_
  obtain ⟨r1, hq1, hf⟩ := bd_e hf
  refine x_vI (pc := 44) (As := [.int x5]) (rest := [.int x8]) (isC := [5, 8]) (ws' := (w_X1_weigh G a_t a_t_draft a_t_draft_row a_t_draft_comes a_t_draft_begins a_t_draft_slacks a_p1 a_p1_facts a_p1_roundsOf a_p1_locked a_p1_rules a_p1_sizes a_p1_rows a_p1_seen a_p1_plan a_p1_book t_round t_place t_adds t_regret t_chosen t_chosenRound t_chosenPlace t_chosenAdds t_chosenRegret t_draft_round t_draft_size t_draft_back t_draft_loads t_draft_miles t_draft_waits t_draft_lateAt t_draft_later t_draft_row t_draft_comes t_draft_begins p1_stopCount p1_metric p1_fixed p1_facts p1_rules p1_sizes p1_rows)) C S (c_X6_sizeOf l G a_p1 a_p1_facts a_p1_roundsOf a_p1_locked a_p1_rules a_p1_sizes a_p1_rows a_p1_seen a_p1_plan a_p1_book p1_stopCount p1_metric p1_fixed p1_sizes x5 r1 hq1) (u_X1_weigh_X6_sizeOf_25 hts) (ci := 6) rfl 5 rfl rfl (by decide +kernel) [none, none, none, none, none, some 0, none, none, some 1, none] (by decide +kernel) rfl rfl rfl hl.1 rfl (Nat.le_of_ble_eq_true rfl) dX1_weigh_44 (fun H locs S => ?_)
  refine lv_icmp_gt (tgt := 124) (pc := 47) hx hb dX1_weigh_47 (by decide) (fun c2 => ?_) (fun c2 => ?_)
  · have hf := ifp c2 hf
    refine lv_iload (pc := 124) hx hb dX1_weigh_124 (lv_at hl 5 rfl) ?_
    refine lv_bipush (pc := 126) hx hb dX1_weigh_126 bc_m5 ?_
    refine lv_icmp_eq (tgt := 141) (pc := 128) hx hb dX1_weigh_128 (by decide) (fun c3 => ?_) (fun c3 => ?_)
    · have hf := ifp c3 hf
      refine lv_iinc (pc := 141) (v := (x5 + (1 : Int32))) (lv' := [(5, .int (x5 + (1 : Int32))), (0, .ref a_t), (1, .ref a_p1), (2, .int x2), (4, .int x4), (6, .int x6), (7, .int x7), (8, .int x8)]) hx hb dX1_weigh_141 hl (k := 4) rfl (congrArg (fun z => x5 + z) ic_1) (by decide) rfl (fun ls hl => ?_)
      refine lv_goto (tgt := 16) (pc := 144) hx hb dX1_weigh_144 (by decide) ?_
      exact hk16 ((x5 + (1 : Int32))) (t_draft_row) (t_draft_comes) (t_draft_begins) (t_draft_round) (t_draft_size) (t_draft_back) (t_draft_loads) (t_draft_miles) (t_draft_waits) (t_draft_lateAt) (t_round) (t_place) (t_adds) (t_regret)  hf S (lv_sub hl [1, 2, 3, 4, 0] rfl)
    · have hf := ifn c3 hf
      refine lv_aload_n (pc := 131) hx hb dX1_weigh_131 rfl (lv_at hl 0 rfl) ?_
      refine lv_iload (pc := 132) hx hb dX1_weigh_132 (lv_at hl 4 rfl) ?_
      refine lv_iload (pc := 134) hx hb dX1_weigh_134 (lv_at hl 5 rfl) ?_
      refine lv_iload (pc := 136) hx hb dX1_weigh_136 (lv_at hl 6 rfl) ?_
      obtain ⟨⟨o4_t_round, o4_t_place, o4_t_adds, o4_t_regret⟩, hq4, hf⟩ := bd_e hf
      refine x_vV (pc := 138) (As := [.int x5, .int x6, .int x7]) (rest := []) (isC := [0]) (ws' := (w_X1_weigh G a_t a_t_draft a_t_draft_row a_t_draft_comes a_t_draft_begins a_t_draft_slacks a_p1 a_p1_facts a_p1_roundsOf a_p1_locked a_p1_rules a_p1_sizes a_p1_rows a_p1_seen a_p1_plan a_p1_book o4_t_round o4_t_place o4_t_adds o4_t_regret t_chosen t_chosenRound t_chosenPlace t_chosenAdds t_chosenRegret t_draft_round t_draft_size t_draft_back t_draft_loads t_draft_miles t_draft_waits t_draft_lateAt t_draft_later t_draft_row t_draft_comes t_draft_begins p1_stopCount p1_metric p1_fixed p1_facts p1_rules p1_sizes p1_rows)) C S (c_X1_compareRound l G a_t a_t_draft t_round t_place t_adds t_regret t_chosen t_chosenRound t_chosenPlace t_chosenAdds t_chosenRegret x5 x6 x7 o4_t_round o4_t_place o4_t_adds o4_t_regret hq4) (u_X1_weigh_X1_compareRound_47 hts) (ci := 1) rfl 0 rfl rfl (by decide +kernel) [some 0, none, none, none, none, none, none, none, none, none] (by decide +kernel) rfl rfl rfl hl.1 rfl (Nat.le_of_ble_eq_true rfl) dX1_weigh_138 (fun H locs S => ?_)
      refine lv_iinc (pc := 141) (v := (x5 + (1 : Int32))) (lv' := [(5, .int (x5 + (1 : Int32))), (0, .ref a_t), (1, .ref a_p1), (2, .int x2), (4, .int x4), (6, .int x6), (7, .int x7), (8, .int x8)]) hx hb dX1_weigh_141 hl (k := 4) rfl (congrArg (fun z => x5 + z) ic_1) (by decide) rfl (fun ls hl => ?_)
      refine lv_goto (tgt := 16) (pc := 144) hx hb dX1_weigh_144 (by decide) ?_
      exact hk16 ((x5 + (1 : Int32))) (t_draft_row) (t_draft_comes) (t_draft_begins) (t_draft_round) (t_draft_size) (t_draft_back) (t_draft_loads) (t_draft_miles) (t_draft_waits) (t_draft_lateAt) (o4_t_round) (o4_t_place) (o4_t_adds) (o4_t_regret)  hf S (lv_sub hl [1, 2, 3, 4, 0] rfl)
  · have hf := ifn c2 hf
    refine lv_aload_n (pc := 50) hx hb dX1_weigh_50 rfl (lv_at hl 1 rfl) ?_
    refine lv_iload_n (pc := 51) hx hb dX1_weigh_51 rfl (lv_at hl 2 rfl) ?_
    refine lv_iload (pc := 52) hx hb dX1_weigh_52 (lv_at hl 4 rfl) ?_
    refine lv_iload (pc := 54) hx hb dX1_weigh_54 (lv_at hl 7 rfl) ?_
    obtain ⟨r5, hq5, hf⟩ := bd_e hf
    refine x_vI (pc := 56) (As := [.int x2, .int x5, .int x8]) (rest := []) (isC := [5, 6, 8, 9]) (ws' := (w_X1_weigh G a_t a_t_draft a_t_draft_row a_t_draft_comes a_t_draft_begins a_t_draft_slacks a_p1 a_p1_facts a_p1_roundsOf a_p1_locked a_p1_rules a_p1_sizes a_p1_rows a_p1_seen a_p1_plan a_p1_book t_round t_place t_adds t_regret t_chosen t_chosenRound t_chosenPlace t_chosenAdds t_chosenRegret t_draft_round t_draft_size t_draft_back t_draft_loads t_draft_miles t_draft_waits t_draft_lateAt t_draft_later t_draft_row t_draft_comes t_draft_begins p1_stopCount p1_metric p1_fixed p1_facts p1_rules p1_sizes p1_rows)) C S (c_X6_addsAt l G a_p1 a_p1_facts a_p1_roundsOf a_p1_locked a_p1_rules a_p1_sizes a_p1_rows a_p1_seen a_p1_plan a_p1_book p1_stopCount p1_metric p1_fixed p1_facts p1_sizes p1_rows x2 x5 x8 r5 hq5) (u_X1_weigh_X6_addsAt_31 hts) (ci := 6) rfl 5 rfl rfl (by decide +kernel) [none, none, none, none, none, some 0, some 1, none, some 2, some 3] (by decide +kernel) rfl rfl rfl hl.1 rfl (Nat.le_of_ble_eq_true rfl) dX1_weigh_56 (fun H locs S => ?_)
    refine lv_istore (pc := 59) (lv' := [(9, .int r5), (0, .ref a_t), (1, .ref a_p1), (2, .int x2), (4, .int x4), (5, .int x5), (6, .int x6), (7, .int x7), (8, .int x8)]) hx hb dX1_weigh_59 hl (by decide) rfl (fun ls hl => ?_)
    refine lv_iload (pc := 61) hx hb dX1_weigh_61 (lv_at hl 6 rfl) ?_
    refine lv_bipush (pc := 63) hx hb dX1_weigh_63 bc_m5 ?_
    refine lv_icmp_eq (tgt := 78) (pc := 65) hx hb dX1_weigh_65 (by decide) (fun c6 => ?_) (fun c6 => ?_)
    · have hf := ifp c6 hf
      exact k_X1_weigh_78 C (t_round) (t_place) (t_adds) (t_regret) (t_chosen) (t_chosenRound) (t_chosenPlace) (t_chosenAdds) (t_chosenRegret) (t_draft_round) (t_draft_size) (t_draft_back) (t_draft_loads) (t_draft_miles) (t_draft_waits) (t_draft_lateAt) (t_draft_later) (t_draft_row) (t_draft_comes) (t_draft_begins) (p1_stopCount) (p1_metric) (p1_fixed) (p1_facts) (p1_rules) (p1_sizes) (p1_rows) (x2) (x4) (x5) (x6) (x7) (x8) (r5) k16 hk16 k39 hk39 hf S (lv_sub hl [1, 2, 3, 4, 5, 6, 7, 8, 0] rfl)
    · have hf := ifn c6 hf
      refine lv_iload (pc := 68) hx hb dX1_weigh_68 (lv_at hl 0 rfl) ?_
      refine lv_iload (pc := 70) hx hb dX1_weigh_70 (lv_at hl 7 rfl) ?_
      refine lv_icmp_lt (tgt := 78) (pc := 72) hx hb dX1_weigh_72 (by decide) (fun c7 => ?_) (fun c7 => ?_)
      · have hf := ifp c7 hf
        exact k_X1_weigh_78 C (t_round) (t_place) (t_adds) (t_regret) (t_chosen) (t_chosenRound) (t_chosenPlace) (t_chosenAdds) (t_chosenRegret) (t_draft_round) (t_draft_size) (t_draft_back) (t_draft_loads) (t_draft_miles) (t_draft_waits) (t_draft_lateAt) (t_draft_later) (t_draft_row) (t_draft_comes) (t_draft_begins) (p1_stopCount) (p1_metric) (p1_fixed) (p1_facts) (p1_rules) (p1_sizes) (p1_rows) (x2) (x4) (x5) (x6) (x7) (x8) (r5) k16 hk16 k39 hk39 hf S (lv_sub hl [1, 2, 3, 4, 5, 6, 7, 8, 0] rfl)
      · have hf := ifn c7 hf
        refine lv_goto (tgt := 118) (pc := 75) hx hb dX1_weigh_75 (by decide) ?_
        refine lv_iinc (pc := 118) (v := (x8 + (1 : Int32))) (lv' := [(8, .int (x8 + (1 : Int32))), (9, .int r5), (0, .ref a_t), (1, .ref a_p1), (2, .int x2), (4, .int x4), (5, .int x5), (6, .int x6), (7, .int x7)]) hx hb dX1_weigh_118 hl (k := 8) rfl (congrArg (fun z => x8 + z) ic_1) (by decide) rfl (fun ls hl => ?_)
        refine lv_goto (tgt := 39) (pc := 121) hx hb dX1_weigh_121 (by decide) ?_
        exact hk39 (x6) (x7) ((x8 + (1 : Int32))) (t_draft_row) (t_draft_comes) (t_draft_begins) (t_draft_round) (t_draft_size) (t_draft_back) (t_draft_loads) (t_draft_miles) (t_draft_waits) (t_draft_lateAt)  hf S (lv_sub hl [2, 3, 4, 5, 6, 7, 8, 0] rfl)
set_option maxRecDepth 100000 in
set_option maxHeartbeats 4000000 in
theorem h_X1_weigh_39 (C : Cx p s m args meth c cX1_weigh none 10 RX1 G A) (t_round : Int32) (t_place : Int32) (t_adds : Int32) (t_regret : Int32) (t_chosen : Int32) (t_chosenRound : Int32) (t_chosenPlace : Int32) (t_chosenAdds : Int32) (t_chosenRegret : Int32) (t_draft_later : Int32) (p1_stopCount : Int32) (p1_metric : Int32) (p1_fixed : Int32) (p1_facts : Nat → Int32) (p1_rules : Nat → Int32) (p1_sizes : Nat → Int32) (p1_rows : Nat → Int32) (x2 : Int32) (x4 : Int32) (x5 : Int32) (k16 : Int32 × (Nat → Int32) × (Nat → Int32) × (Nat → Int32) × Int32 × Int32 × Int32 × Int32 × Int32 × Int32 × Int32 × Int32 × Int32 × Int32 × Int32 → Option ((Nat → Int32) × (Nat → Int32) × (Nat → Int32) × Int32 × Int32 × Int32 × Int32 × Int32 × Int32 × Int32 × Int32 × Int32 × Int32 × Int32)) (hk16 : ∀ {H : Heap} {locs : List Loc} {ls : Array Slot} (x5' : Int32) (t_draft_row' : Nat → Int32) (t_draft_comes' : Nat → Int32) (t_draft_begins' : Nat → Int32) (t_draft_round' : Int32) (t_draft_size' : Int32) (t_draft_back' : Int32) (t_draft_loads' : Int32) (t_draft_miles' : Int32) (t_draft_waits' : Int32) (t_draft_lateAt' : Int32) (t_round' : Int32) (t_place' : Int32) (t_adds' : Int32) (t_regret' : Int32), k16 (x5', t_draft_row', t_draft_comes', t_draft_begins', t_draft_round', t_draft_size', t_draft_back', t_draft_loads', t_draft_miles', t_draft_waits', t_draft_lateAt', t_round', t_place', t_adds', t_regret') = some (z_t_draft_row, z_t_draft_comes, z_t_draft_begins, z_t_draft_round, z_t_draft_size, z_t_draft_back, z_t_draft_loads, z_t_draft_miles, z_t_draft_waits, z_t_draft_lateAt, z_t_round, z_t_place, z_t_adds, z_t_regret) → St G A s.heap H locs (w_X1_weigh G a_t a_t_draft a_t_draft_row a_t_draft_comes a_t_draft_begins a_t_draft_slacks a_p1 a_p1_facts a_p1_roundsOf a_p1_locked a_p1_rules a_p1_sizes a_p1_rows a_p1_seen a_p1_plan a_p1_book t_round' t_place' t_adds' t_regret' t_chosen t_chosenRound t_chosenPlace t_chosenAdds t_chosenRegret t_draft_round' t_draft_size' t_draft_back' t_draft_loads' t_draft_miles' t_draft_waits' t_draft_lateAt' t_draft_later t_draft_row' t_draft_comes' t_draft_begins' p1_stopCount p1_metric p1_fixed p1_facts p1_rules p1_sizes p1_rows) → lv_has ls 10 [(0, .ref a_t), (1, .ref a_p1), (2, .int x2), (4, .int x4), (5, .int x5')] → W p l e rm_X1_weigh s m args below meth c H locs 0 0 (QV G below args s A (w_X1_weigh G a_t a_t_draft a_t_draft_row a_t_draft_comes a_t_draft_begins a_t_draft_slacks a_p1 a_p1_facts a_p1_roundsOf a_p1_locked a_p1_rules a_p1_sizes a_p1_rows a_p1_seen a_p1_plan a_p1_book z_t_round z_t_place z_t_adds z_t_regret t_chosen t_chosenRound t_chosenPlace t_chosenAdds t_chosenRegret z_t_draft_round z_t_draft_size z_t_draft_back z_t_draft_loads z_t_draft_miles z_t_draft_waits z_t_draft_lateAt t_draft_later z_t_draft_row z_t_draft_comes z_t_draft_begins p1_stopCount p1_metric p1_fixed p1_facts p1_rules p1_sizes p1_rows)) (F0 m 16 ls [])) : ∀ (n : Nat) (x6 : Int32) (x7 : Int32) (x8 : Int32) (t_draft_row : Nat → Int32) (t_draft_comes : Nat → Int32) (t_draft_begins : Nat → Int32) (t_draft_round : Int32) (t_draft_size : Int32) (t_draft_back : Int32) (t_draft_loads : Int32) (t_draft_miles : Int32) (t_draft_waits : Int32) (t_draft_lateAt : Int32) {H : Heap} {locs : List Loc} {ls : Array Slot} (hf : lp (fun k x => b_X1_weigh_39 k16 x2 x4 x5 t_round t_place t_adds t_regret p1_facts p1_rules p1_sizes p1_rows p1_metric p1_fixed k x.1 x.2.1 x.2.2.1 x.2.2.2.1 x.2.2.2.2.1 x.2.2.2.2.2.1 x.2.2.2.2.2.2.1 x.2.2.2.2.2.2.2.1 x.2.2.2.2.2.2.2.2.1 x.2.2.2.2.2.2.2.2.2.1 x.2.2.2.2.2.2.2.2.2.2.1 x.2.2.2.2.2.2.2.2.2.2.2.1 x.2.2.2.2.2.2.2.2.2.2.2.2) n (x6, x7, x8, t_draft_row, t_draft_comes, t_draft_begins, t_draft_round, t_draft_size, t_draft_back, t_draft_loads, t_draft_miles, t_draft_waits, t_draft_lateAt) = some (z_t_draft_row, z_t_draft_comes, z_t_draft_begins, z_t_draft_round, z_t_draft_size, z_t_draft_back, z_t_draft_loads, z_t_draft_miles, z_t_draft_waits, z_t_draft_lateAt, z_t_round, z_t_place, z_t_adds, z_t_regret)) (S : St G A s.heap H locs (w_X1_weigh G a_t a_t_draft a_t_draft_row a_t_draft_comes a_t_draft_begins a_t_draft_slacks a_p1 a_p1_facts a_p1_roundsOf a_p1_locked a_p1_rules a_p1_sizes a_p1_rows a_p1_seen a_p1_plan a_p1_book t_round t_place t_adds t_regret t_chosen t_chosenRound t_chosenPlace t_chosenAdds t_chosenRegret t_draft_round t_draft_size t_draft_back t_draft_loads t_draft_miles t_draft_waits t_draft_lateAt t_draft_later t_draft_row t_draft_comes t_draft_begins p1_stopCount p1_metric p1_fixed p1_facts p1_rules p1_sizes p1_rows)) (hl : lv_has ls 10 [(0, .ref a_t), (1, .ref a_p1), (2, .int x2), (4, .int x4), (5, .int x5), (6, .int x6), (7, .int x7), (8, .int x8)]), W p l e rm_X1_weigh s m args below meth c H locs 0 0 (QV G below args s A (w_X1_weigh G a_t a_t_draft a_t_draft_row a_t_draft_comes a_t_draft_begins a_t_draft_slacks a_p1 a_p1_facts a_p1_roundsOf a_p1_locked a_p1_rules a_p1_sizes a_p1_rows a_p1_seen a_p1_plan a_p1_book z_t_round z_t_place z_t_adds z_t_regret t_chosen t_chosenRound t_chosenPlace t_chosenAdds t_chosenRegret z_t_draft_round z_t_draft_size z_t_draft_back z_t_draft_loads z_t_draft_miles z_t_draft_waits z_t_draft_lateAt t_draft_later z_t_draft_row z_t_draft_comes z_t_draft_begins p1_stopCount p1_metric p1_fixed p1_facts p1_rules p1_sizes p1_rows)) (F0 m 39 ls []) := by
  intro n
  induction n with
  | zero =>
    intro x6 x7 x8 t_draft_row t_draft_comes t_draft_begins t_draft_round t_draft_size t_draft_back t_draft_loads t_draft_miles t_draft_waits t_draft_lateAt  H locs ls hf
    cases hf
  | succ n ih =>
    intro x6 x7 x8 t_draft_row t_draft_comes t_draft_begins t_draft_round t_draft_size t_draft_back t_draft_loads t_draft_miles t_draft_waits t_draft_lateAt  H locs ls hf S hl
    have hf : b_X1_weigh_39 k16 x2 x4 x5 t_round t_place t_adds t_regret p1_facts p1_rules p1_sizes p1_rows p1_metric p1_fixed (lp (fun k x => b_X1_weigh_39 k16 x2 x4 x5 t_round t_place t_adds t_regret p1_facts p1_rules p1_sizes p1_rows p1_metric p1_fixed k x.1 x.2.1 x.2.2.1 x.2.2.2.1 x.2.2.2.2.1 x.2.2.2.2.2.1 x.2.2.2.2.2.2.1 x.2.2.2.2.2.2.2.1 x.2.2.2.2.2.2.2.2.1 x.2.2.2.2.2.2.2.2.2.1 x.2.2.2.2.2.2.2.2.2.2.1 x.2.2.2.2.2.2.2.2.2.2.2.1 x.2.2.2.2.2.2.2.2.2.2.2.2) n) x6 x7 x8 t_draft_row t_draft_comes t_draft_begins t_draft_round t_draft_size t_draft_back t_draft_loads t_draft_miles t_draft_waits t_draft_lateAt = some (z_t_draft_row, z_t_draft_comes, z_t_draft_begins, z_t_draft_round, z_t_draft_size, z_t_draft_back, z_t_draft_loads, z_t_draft_miles, z_t_draft_waits, z_t_draft_lateAt, z_t_round, z_t_place, z_t_adds, z_t_regret) := hf
    exact k_X1_weigh_39 C t_round t_place t_adds t_regret t_chosen t_chosenRound t_chosenPlace t_chosenAdds t_chosenRegret t_draft_round t_draft_size t_draft_back t_draft_loads t_draft_miles t_draft_waits t_draft_lateAt t_draft_later t_draft_row t_draft_comes t_draft_begins p1_stopCount p1_metric p1_fixed p1_facts p1_rules p1_sizes p1_rows x2 x4 x5 x6 x7 x8  k16 hk16 (lp (fun k x => b_X1_weigh_39 k16 x2 x4 x5 t_round t_place t_adds t_regret p1_facts p1_rules p1_sizes p1_rows p1_metric p1_fixed k x.1 x.2.1 x.2.2.1 x.2.2.2.1 x.2.2.2.2.1 x.2.2.2.2.2.1 x.2.2.2.2.2.2.1 x.2.2.2.2.2.2.2.1 x.2.2.2.2.2.2.2.2.1 x.2.2.2.2.2.2.2.2.2.1 x.2.2.2.2.2.2.2.2.2.2.1 x.2.2.2.2.2.2.2.2.2.2.2.1 x.2.2.2.2.2.2.2.2.2.2.2.2) n) (fun x6' x7' x8' t_draft_row' t_draft_comes' t_draft_begins' t_draft_round' t_draft_size' t_draft_back' t_draft_loads' t_draft_miles' t_draft_waits' t_draft_lateAt'  h S hl => ih x6' x7' x8' t_draft_row' t_draft_comes' t_draft_begins' t_draft_round' t_draft_size' t_draft_back' t_draft_loads' t_draft_miles' t_draft_waits' t_draft_lateAt'  h S hl) hf S hl
set_option maxRecDepth 100000 in
set_option maxHeartbeats 4000000 in
theorem k_X1_weigh_16 (C : Cx p s m args meth c cX1_weigh none 10 RX1 G A) (t_round : Int32) (t_place : Int32) (t_adds : Int32) (t_regret : Int32) (t_chosen : Int32) (t_chosenRound : Int32) (t_chosenPlace : Int32) (t_chosenAdds : Int32) (t_chosenRegret : Int32) (t_draft_round : Int32) (t_draft_size : Int32) (t_draft_back : Int32) (t_draft_loads : Int32) (t_draft_miles : Int32) (t_draft_waits : Int32) (t_draft_lateAt : Int32) (t_draft_later : Int32) (t_draft_row : Nat → Int32) (t_draft_comes : Nat → Int32) (t_draft_begins : Nat → Int32) (p1_stopCount : Int32) (p1_metric : Int32) (p1_fixed : Int32) (p1_facts : Nat → Int32) (p1_rules : Nat → Int32) (p1_sizes : Nat → Int32) (p1_rows : Nat → Int32) (x2 : Int32) (x4 : Int32) (x5 : Int32) (k16 : Int32 × (Nat → Int32) × (Nat → Int32) × (Nat → Int32) × Int32 × Int32 × Int32 × Int32 × Int32 × Int32 × Int32 × Int32 × Int32 × Int32 × Int32 → Option ((Nat → Int32) × (Nat → Int32) × (Nat → Int32) × Int32 × Int32 × Int32 × Int32 × Int32 × Int32 × Int32 × Int32 × Int32 × Int32 × Int32)) (hk16 : ∀ {H : Heap} {locs : List Loc} {ls : Array Slot} (x5' : Int32) (t_draft_row' : Nat → Int32) (t_draft_comes' : Nat → Int32) (t_draft_begins' : Nat → Int32) (t_draft_round' : Int32) (t_draft_size' : Int32) (t_draft_back' : Int32) (t_draft_loads' : Int32) (t_draft_miles' : Int32) (t_draft_waits' : Int32) (t_draft_lateAt' : Int32) (t_round' : Int32) (t_place' : Int32) (t_adds' : Int32) (t_regret' : Int32), k16 (x5', t_draft_row', t_draft_comes', t_draft_begins', t_draft_round', t_draft_size', t_draft_back', t_draft_loads', t_draft_miles', t_draft_waits', t_draft_lateAt', t_round', t_place', t_adds', t_regret') = some (z_t_draft_row, z_t_draft_comes, z_t_draft_begins, z_t_draft_round, z_t_draft_size, z_t_draft_back, z_t_draft_loads, z_t_draft_miles, z_t_draft_waits, z_t_draft_lateAt, z_t_round, z_t_place, z_t_adds, z_t_regret) → St G A s.heap H locs (w_X1_weigh G a_t a_t_draft a_t_draft_row a_t_draft_comes a_t_draft_begins a_t_draft_slacks a_p1 a_p1_facts a_p1_roundsOf a_p1_locked a_p1_rules a_p1_sizes a_p1_rows a_p1_seen a_p1_plan a_p1_book t_round' t_place' t_adds' t_regret' t_chosen t_chosenRound t_chosenPlace t_chosenAdds t_chosenRegret t_draft_round' t_draft_size' t_draft_back' t_draft_loads' t_draft_miles' t_draft_waits' t_draft_lateAt' t_draft_later t_draft_row' t_draft_comes' t_draft_begins' p1_stopCount p1_metric p1_fixed p1_facts p1_rules p1_sizes p1_rows) → lv_has ls 10 [(0, .ref a_t), (1, .ref a_p1), (2, .int x2), (4, .int x4), (5, .int x5')] → W p l e rm_X1_weigh s m args below meth c H locs 0 0 (QV G below args s A (w_X1_weigh G a_t a_t_draft a_t_draft_row a_t_draft_comes a_t_draft_begins a_t_draft_slacks a_p1 a_p1_facts a_p1_roundsOf a_p1_locked a_p1_rules a_p1_sizes a_p1_rows a_p1_seen a_p1_plan a_p1_book z_t_round z_t_place z_t_adds z_t_regret t_chosen t_chosenRound t_chosenPlace t_chosenAdds t_chosenRegret z_t_draft_round z_t_draft_size z_t_draft_back z_t_draft_loads z_t_draft_miles z_t_draft_waits z_t_draft_lateAt t_draft_later z_t_draft_row z_t_draft_comes z_t_draft_begins p1_stopCount p1_metric p1_fixed p1_facts p1_rules p1_sizes p1_rows)) (F0 m 16 ls [])) {H : Heap} {locs : List Loc} {ls : Array Slot} (hf : b_X1_weigh_16 x2 x4 p1_facts p1_rules p1_sizes p1_rows p1_metric p1_fixed k16 x5 t_draft_row t_draft_comes t_draft_begins t_draft_round t_draft_size t_draft_back t_draft_loads t_draft_miles t_draft_waits t_draft_lateAt t_round t_place t_adds t_regret = some (z_t_draft_row, z_t_draft_comes, z_t_draft_begins, z_t_draft_round, z_t_draft_size, z_t_draft_back, z_t_draft_loads, z_t_draft_miles, z_t_draft_waits, z_t_draft_lateAt, z_t_round, z_t_place, z_t_adds, z_t_regret)) (S : St G A s.heap H locs (w_X1_weigh G a_t a_t_draft a_t_draft_row a_t_draft_comes a_t_draft_begins a_t_draft_slacks a_p1 a_p1_facts a_p1_roundsOf a_p1_locked a_p1_rules a_p1_sizes a_p1_rows a_p1_seen a_p1_plan a_p1_book t_round t_place t_adds t_regret t_chosen t_chosenRound t_chosenPlace t_chosenAdds t_chosenRegret t_draft_round t_draft_size t_draft_back t_draft_loads t_draft_miles t_draft_waits t_draft_lateAt t_draft_later t_draft_row t_draft_comes t_draft_begins p1_stopCount p1_metric p1_fixed p1_facts p1_rules p1_sizes p1_rows)) (hl : lv_has ls 10 [(0, .ref a_t), (1, .ref a_p1), (2, .int x2), (4, .int x4), (5, .int x5)]) : W p l e rm_X1_weigh s m args below meth c H locs 0 0 (QV G below args s A (w_X1_weigh G a_t a_t_draft a_t_draft_row a_t_draft_comes a_t_draft_begins a_t_draft_slacks a_p1 a_p1_facts a_p1_roundsOf a_p1_locked a_p1_rules a_p1_sizes a_p1_rows a_p1_seen a_p1_plan a_p1_book z_t_round z_t_place z_t_adds z_t_regret t_chosen t_chosenRound t_chosenPlace t_chosenAdds t_chosenRegret z_t_draft_round z_t_draft_size z_t_draft_back z_t_draft_loads z_t_draft_miles z_t_draft_waits z_t_draft_lateAt t_draft_later z_t_draft_row z_t_draft_comes z_t_draft_begins p1_stopCount p1_metric p1_fixed p1_facts p1_rules p1_sizes p1_rows)) (F0 m 16 ls []) := by
  unfold b_X1_weigh_16 at hf
  have hx := C.1
  have hb := C.2.1
  have hown := C.2.2.2.2.1
  have hts := C.2.2.2.2.2.1
  have hN := C.2.2.2.2.2.2.2.2.2.2
  refine lv_iload (pc := 16) hx hb dX1_weigh_16 (lv_at hl 4 rfl) ?_
  refine lv_iload (pc := 18) hx hb dX1_weigh_18 (lv_at hl 3 rfl) ?_
  refine lv_icmp_gt (tgt := 147) (pc := 20) hx hb dX1_weigh_20 (by decide) (fun c1 => ?_) (fun c1 => ?_)
  · have hf := ifp c1 hf
    cases hf
    exact x_vret (pc := 147) C S dX1_weigh_147
  · have hf := ifn c1 hf
    refine lv_iload (pc := 23) hx hb dX1_weigh_23 (lv_at hl 4 rfl) ?_
    refine lv_iconst (pc := 25) hx hb dX1_weigh_25 ic_4 ?_
    refine lv_icmp_ge (tgt := 147) (pc := 26) hx hb dX1_weigh_26 (by decide) (fun c2 => ?_) (fun c2 => ?_)
    · have hf := ifp c2 hf
      cases hf
      exact x_vret (pc := 147) C S dX1_weigh_147
    · have hf := ifn c2 hf
      refine lv_bipush (pc := 29) hx hb dX1_weigh_29 bc_m5 ?_
      refine lv_istore (pc := 31) (lv' := [(6, .int (-5 : Int32)), (0, .ref a_t), (1, .ref a_p1), (2, .int x2), (4, .int x4), (5, .int x5)]) hx hb dX1_weigh_31 hl (by decide) rfl (fun ls hl => ?_)
      refine lv_iconst (pc := 33) hx hb dX1_weigh_33 ic_0 ?_
      refine lv_istore (pc := 34) (lv' := [(7, .int (0 : Int32)), (6, .int (-5 : Int32)), (0, .ref a_t), (1, .ref a_p1), (2, .int x2), (4, .int x4), (5, .int x5)]) hx hb dX1_weigh_34 hl (by decide) rfl (fun ls hl => ?_)
      refine lv_iconst (pc := 36) hx hb dX1_weigh_36 ic_0 ?_
      refine lv_istore (pc := 37) (lv' := [(8, .int (0 : Int32)), (7, .int (0 : Int32)), (6, .int (-5 : Int32)), (0, .ref a_t), (1, .ref a_p1), (2, .int x2), (4, .int x4), (5, .int x5)]) hx hb dX1_weigh_37 hl (by decide) rfl (fun ls hl => ?_)
      exact h_X1_weigh_39 C (t_round) (t_place) (t_adds) (t_regret) (t_chosen) (t_chosenRound) (t_chosenPlace) (t_chosenAdds) (t_chosenRegret) (t_draft_later) (p1_stopCount) (p1_metric) (p1_fixed) (p1_facts) (p1_rules) (p1_sizes) (p1_rows) (x2) (x4) (x5) k16 hk16 fu ((-5 : Int32)) ((0 : Int32)) ((0 : Int32)) (t_draft_row) (t_draft_comes) (t_draft_begins) (t_draft_round) (t_draft_size) (t_draft_back) (t_draft_loads) (t_draft_miles) (t_draft_waits) (t_draft_lateAt) hf S (lv_sub hl [3, 4, 5, 6, 7, 2, 1, 0] rfl)
set_option maxRecDepth 100000 in
set_option maxHeartbeats 4000000 in
theorem h_X1_weigh_16 (C : Cx p s m args meth c cX1_weigh none 10 RX1 G A) (t_chosen : Int32) (t_chosenRound : Int32) (t_chosenPlace : Int32) (t_chosenAdds : Int32) (t_chosenRegret : Int32) (t_draft_later : Int32) (p1_stopCount : Int32) (p1_metric : Int32) (p1_fixed : Int32) (p1_facts : Nat → Int32) (p1_rules : Nat → Int32) (p1_sizes : Nat → Int32) (p1_rows : Nat → Int32) (x2 : Int32) (x4 : Int32) : ∀ (n : Nat) (x5 : Int32) (t_draft_row : Nat → Int32) (t_draft_comes : Nat → Int32) (t_draft_begins : Nat → Int32) (t_draft_round : Int32) (t_draft_size : Int32) (t_draft_back : Int32) (t_draft_loads : Int32) (t_draft_miles : Int32) (t_draft_waits : Int32) (t_draft_lateAt : Int32) (t_round : Int32) (t_place : Int32) (t_adds : Int32) (t_regret : Int32) {H : Heap} {locs : List Loc} {ls : Array Slot} (hf : lp (fun k x => b_X1_weigh_16 x2 x4 p1_facts p1_rules p1_sizes p1_rows p1_metric p1_fixed k x.1 x.2.1 x.2.2.1 x.2.2.2.1 x.2.2.2.2.1 x.2.2.2.2.2.1 x.2.2.2.2.2.2.1 x.2.2.2.2.2.2.2.1 x.2.2.2.2.2.2.2.2.1 x.2.2.2.2.2.2.2.2.2.1 x.2.2.2.2.2.2.2.2.2.2.1 x.2.2.2.2.2.2.2.2.2.2.2.1 x.2.2.2.2.2.2.2.2.2.2.2.2.1 x.2.2.2.2.2.2.2.2.2.2.2.2.2.1 x.2.2.2.2.2.2.2.2.2.2.2.2.2.2) n (x5, t_draft_row, t_draft_comes, t_draft_begins, t_draft_round, t_draft_size, t_draft_back, t_draft_loads, t_draft_miles, t_draft_waits, t_draft_lateAt, t_round, t_place, t_adds, t_regret) = some (z_t_draft_row, z_t_draft_comes, z_t_draft_begins, z_t_draft_round, z_t_draft_size, z_t_draft_back, z_t_draft_loads, z_t_draft_miles, z_t_draft_waits, z_t_draft_lateAt, z_t_round, z_t_place, z_t_adds, z_t_regret)) (S : St G A s.heap H locs (w_X1_weigh G a_t a_t_draft a_t_draft_row a_t_draft_comes a_t_draft_begins a_t_draft_slacks a_p1 a_p1_facts a_p1_roundsOf a_p1_locked a_p1_rules a_p1_sizes a_p1_rows a_p1_seen a_p1_plan a_p1_book t_round t_place t_adds t_regret t_chosen t_chosenRound t_chosenPlace t_chosenAdds t_chosenRegret t_draft_round t_draft_size t_draft_back t_draft_loads t_draft_miles t_draft_waits t_draft_lateAt t_draft_later t_draft_row t_draft_comes t_draft_begins p1_stopCount p1_metric p1_fixed p1_facts p1_rules p1_sizes p1_rows)) (hl : lv_has ls 10 [(0, .ref a_t), (1, .ref a_p1), (2, .int x2), (4, .int x4), (5, .int x5)]), W p l e rm_X1_weigh s m args below meth c H locs 0 0 (QV G below args s A (w_X1_weigh G a_t a_t_draft a_t_draft_row a_t_draft_comes a_t_draft_begins a_t_draft_slacks a_p1 a_p1_facts a_p1_roundsOf a_p1_locked a_p1_rules a_p1_sizes a_p1_rows a_p1_seen a_p1_plan a_p1_book z_t_round z_t_place z_t_adds z_t_regret t_chosen t_chosenRound t_chosenPlace t_chosenAdds t_chosenRegret z_t_draft_round z_t_draft_size z_t_draft_back z_t_draft_loads z_t_draft_miles z_t_draft_waits z_t_draft_lateAt t_draft_later z_t_draft_row z_t_draft_comes z_t_draft_begins p1_stopCount p1_metric p1_fixed p1_facts p1_rules p1_sizes p1_rows)) (F0 m 16 ls []) := by
  intro n
  induction n with
  | zero =>
    intro x5 t_draft_row t_draft_comes t_draft_begins t_draft_round t_draft_size t_draft_back t_draft_loads t_draft_miles t_draft_waits t_draft_lateAt t_round t_place t_adds t_regret  H locs ls hf
    cases hf
  | succ n ih =>
    intro x5 t_draft_row t_draft_comes t_draft_begins t_draft_round t_draft_size t_draft_back t_draft_loads t_draft_miles t_draft_waits t_draft_lateAt t_round t_place t_adds t_regret  H locs ls hf S hl
    have hf : b_X1_weigh_16 x2 x4 p1_facts p1_rules p1_sizes p1_rows p1_metric p1_fixed (lp (fun k x => b_X1_weigh_16 x2 x4 p1_facts p1_rules p1_sizes p1_rows p1_metric p1_fixed k x.1 x.2.1 x.2.2.1 x.2.2.2.1 x.2.2.2.2.1 x.2.2.2.2.2.1 x.2.2.2.2.2.2.1 x.2.2.2.2.2.2.2.1 x.2.2.2.2.2.2.2.2.1 x.2.2.2.2.2.2.2.2.2.1 x.2.2.2.2.2.2.2.2.2.2.1 x.2.2.2.2.2.2.2.2.2.2.2.1 x.2.2.2.2.2.2.2.2.2.2.2.2.1 x.2.2.2.2.2.2.2.2.2.2.2.2.2.1 x.2.2.2.2.2.2.2.2.2.2.2.2.2.2) n) x5 t_draft_row t_draft_comes t_draft_begins t_draft_round t_draft_size t_draft_back t_draft_loads t_draft_miles t_draft_waits t_draft_lateAt t_round t_place t_adds t_regret = some (z_t_draft_row, z_t_draft_comes, z_t_draft_begins, z_t_draft_round, z_t_draft_size, z_t_draft_back, z_t_draft_loads, z_t_draft_miles, z_t_draft_waits, z_t_draft_lateAt, z_t_round, z_t_place, z_t_adds, z_t_regret) := hf
    exact k_X1_weigh_16 C t_round t_place t_adds t_regret t_chosen t_chosenRound t_chosenPlace t_chosenAdds t_chosenRegret t_draft_round t_draft_size t_draft_back t_draft_loads t_draft_miles t_draft_waits t_draft_lateAt t_draft_later t_draft_row t_draft_comes t_draft_begins p1_stopCount p1_metric p1_fixed p1_facts p1_rules p1_sizes p1_rows x2 x4 x5  (lp (fun k x => b_X1_weigh_16 x2 x4 p1_facts p1_rules p1_sizes p1_rows p1_metric p1_fixed k x.1 x.2.1 x.2.2.1 x.2.2.2.1 x.2.2.2.2.1 x.2.2.2.2.2.1 x.2.2.2.2.2.2.1 x.2.2.2.2.2.2.2.1 x.2.2.2.2.2.2.2.2.1 x.2.2.2.2.2.2.2.2.2.1 x.2.2.2.2.2.2.2.2.2.2.1 x.2.2.2.2.2.2.2.2.2.2.2.1 x.2.2.2.2.2.2.2.2.2.2.2.2.1 x.2.2.2.2.2.2.2.2.2.2.2.2.2.1 x.2.2.2.2.2.2.2.2.2.2.2.2.2.2) n) (fun x5' t_draft_row' t_draft_comes' t_draft_begins' t_draft_round' t_draft_size' t_draft_back' t_draft_loads' t_draft_miles' t_draft_waits' t_draft_lateAt' t_round' t_place' t_adds' t_regret'  h S hl => ih x5' t_draft_row' t_draft_comes' t_draft_begins' t_draft_round' t_draft_size' t_draft_back' t_draft_loads' t_draft_miles' t_draft_waits' t_draft_lateAt' t_round' t_place' t_adds' t_regret'  h S hl) hf S hl
set_option maxRecDepth 100000 in
set_option maxHeartbeats 4000000 in
theorem c_X1_weigh (l : Launch) (G : GE) (a_t a_t_draft a_t_draft_row a_t_draft_comes a_t_draft_begins a_t_draft_slacks a_p1 a_p1_facts a_p1_roundsOf a_p1_locked a_p1_rules a_p1_sizes a_p1_rows a_p1_seen a_p1_plan a_p1_book : Nat) (t_round : Int32) (t_place : Int32) (t_adds : Int32) (t_regret : Int32) (t_chosen : Int32) (t_chosenRound : Int32) (t_chosenPlace : Int32) (t_chosenAdds : Int32) (t_chosenRegret : Int32) (t_draft_round : Int32) (t_draft_size : Int32) (t_draft_back : Int32) (t_draft_loads : Int32) (t_draft_miles : Int32) (t_draft_waits : Int32) (t_draft_lateAt : Int32) (t_draft_later : Int32) (t_draft_row : Nat → Int32) (t_draft_comes : Nat → Int32) (t_draft_begins : Nat → Int32) (p1_stopCount : Int32) (p1_metric : Int32) (p1_fixed : Int32) (p1_facts : Nat → Int32) (p1_rules : Nat → Int32) (p1_sizes : Nat → Int32) (p1_rows : Nat → Int32) (x2 : Int32) (x3 : Int32) (x4 : Int32) (z_t_draft_row : Nat → Int32) (z_t_draft_comes : Nat → Int32) (z_t_draft_begins : Nat → Int32) (z_t_draft_round : Int32) (z_t_draft_size : Int32) (z_t_draft_back : Int32) (z_t_draft_loads : Int32) (z_t_draft_miles : Int32) (z_t_draft_waits : Int32) (z_t_draft_lateAt : Int32) (z_t_round : Int32) (z_t_place : Int32) (z_t_adds : Int32) (z_t_regret : Int32) (hf : f_X1_weigh t_draft_row t_draft_comes t_draft_begins t_draft_round t_draft_size t_draft_back t_draft_loads t_draft_miles t_draft_waits t_draft_lateAt t_place t_adds p1_facts p1_rules p1_sizes p1_rows p1_metric p1_fixed x2 x3 x4 = some (z_t_draft_row, z_t_draft_comes, z_t_draft_begins, z_t_draft_round, z_t_draft_size, z_t_draft_back, z_t_draft_loads, z_t_draft_miles, z_t_draft_waits, z_t_draft_lateAt, z_t_round, z_t_place, z_t_adds, z_t_regret)) : CV l G yX1_weigh kw_X1_weigh rm_X1_weigh [.ref a_t, .ref a_p1, .int x2, .int x3, .int x4] (w_X1_weigh G a_t a_t_draft a_t_draft_row a_t_draft_comes a_t_draft_begins a_t_draft_slacks a_p1 a_p1_facts a_p1_roundsOf a_p1_locked a_p1_rules a_p1_sizes a_p1_rows a_p1_seen a_p1_plan a_p1_book t_round t_place t_adds t_regret t_chosen t_chosenRound t_chosenPlace t_chosenAdds t_chosenRegret t_draft_round t_draft_size t_draft_back t_draft_loads t_draft_miles t_draft_waits t_draft_lateAt t_draft_later t_draft_row t_draft_comes t_draft_begins p1_stopCount p1_metric p1_fixed p1_facts p1_rules p1_sizes p1_rows) (w_X1_weigh G a_t a_t_draft a_t_draft_row a_t_draft_comes a_t_draft_begins a_t_draft_slacks a_p1 a_p1_facts a_p1_roundsOf a_p1_locked a_p1_rules a_p1_sizes a_p1_rows a_p1_seen a_p1_plan a_p1_book z_t_round z_t_place z_t_adds z_t_regret t_chosen t_chosenRound t_chosenPlace t_chosenAdds t_chosenRegret z_t_draft_round z_t_draft_size z_t_draft_back z_t_draft_loads z_t_draft_miles z_t_draft_waits z_t_draft_lateAt t_draft_later z_t_draft_row z_t_draft_comes z_t_draft_begins p1_stopCount p1_metric p1_fixed p1_facts p1_rules p1_sizes p1_rows) := by
  refine en_V (cc := cX1_weigh) (maxL := 10) (ret := none) (by decide +kernel) (Nat.le_of_ble_eq_true rfl) ?_
  intro p e s m args below meth c A ls C S hl
  have hl : lv_has ls 10 [(0, .ref a_t), (1, .ref a_p1), (2, .int x2), (3, .int x3), (4, .int x4)] := hl
  have C : Cx p s m args meth c cX1_weigh none 10 RX1 G A := C
  unfold f_X1_weigh at hf
  have hx := C.1
  have hb := C.2.1
  have hown := C.2.2.2.2.1
  have hts := C.2.2.2.2.2.1
  have hN := C.2.2.2.2.2.2.2.2.2.2
  refine lv_aload_n (pc := 0) hx hb dX1_weigh_0 rfl (lv_at hl 0 rfl) ?_
  refine lv_bipush (pc := 1) hx hb dX1_weigh_1 bc_m5 ?_
  refine x_put (pc := 3) (ci := 1) (T := TX1) (ws' := (w_X1_weigh G a_t a_t_draft a_t_draft_row a_t_draft_comes a_t_draft_begins a_t_draft_slacks a_p1 a_p1_facts a_p1_roundsOf a_p1_locked a_p1_rules a_p1_sizes a_p1_rows a_p1_seen a_p1_plan a_p1_book (-5 : Int32) t_place t_adds t_regret t_chosen t_chosenRound t_chosenPlace t_chosenAdds t_chosenRegret t_draft_round t_draft_size t_draft_back t_draft_loads t_draft_miles t_draft_waits t_draft_lateAt t_draft_later t_draft_row t_draft_comes t_draft_begins p1_stopCount p1_metric p1_fixed p1_facts p1_rules p1_sizes p1_rows)) C S tyX1 tyX1_ok nmX1 0 rfl rfl inlX1 1 (by decide) rfl qf_1_18 rfl rfl rfl rfl (Nat.le_of_ble_eq_true rfl) rfl dX1_weigh_3 (fun H locs S => ?_)
  refine lv_aload_n (pc := 6) hx hb dX1_weigh_6 rfl (lv_at hl 0 rfl) ?_
  refine lv_sipush (pc := 7) hx hb dX1_weigh_7 sc_10000 ?_
  refine x_put (pc := 10) (ci := 1) (T := TX1) (ws' := (w_X1_weigh G a_t a_t_draft a_t_draft_row a_t_draft_comes a_t_draft_begins a_t_draft_slacks a_p1 a_p1_facts a_p1_roundsOf a_p1_locked a_p1_rules a_p1_sizes a_p1_rows a_p1_seen a_p1_plan a_p1_book (-5 : Int32) t_place t_adds (10000 : Int32) t_chosen t_chosenRound t_chosenPlace t_chosenAdds t_chosenRegret t_draft_round t_draft_size t_draft_back t_draft_loads t_draft_miles t_draft_waits t_draft_lateAt t_draft_later t_draft_row t_draft_comes t_draft_begins p1_stopCount p1_metric p1_fixed p1_facts p1_rules p1_sizes p1_rows)) C S tyX1 tyX1_ok nmX1 0 rfl rfl inlX1 4 (by decide) rfl qf_1_22 rfl rfl rfl rfl (Nat.le_of_ble_eq_true rfl) rfl dX1_weigh_10 (fun H locs S => ?_)
  refine lv_iload_n (pc := 13) hx hb dX1_weigh_13 rfl (lv_at hl 3 rfl) ?_
  refine lv_istore (pc := 14) (lv' := [(5, .int x3), (0, .ref a_t), (1, .ref a_p1), (2, .int x2), (3, .int x3), (4, .int x4)]) hx hb dX1_weigh_14 hl (by decide) rfl (fun ls hl => ?_)
  exact h_X1_weigh_16 C (t_chosen) (t_chosenRound) (t_chosenPlace) (t_chosenAdds) (t_chosenRegret) (t_draft_later) (p1_stopCount) (p1_metric) (p1_fixed) (p1_facts) (p1_rules) (p1_sizes) (p1_rows) (x2) (x4) fu (x3) (t_draft_row) (t_draft_comes) (t_draft_begins) (t_draft_round) (t_draft_size) (t_draft_back) (t_draft_loads) (t_draft_miles) (t_draft_waits) (t_draft_lateAt) ((-5 : Int32)) (t_place) (t_adds) ((10000 : Int32)) hf S (lv_sub hl [1, 2, 3, 5, 0] rfl)
end

abbrev rm_X1_fillAll : Room := { frames := 4, cells := 0, slots := 0, locals := 107 }
abbrev kw_X1_fillAll : Cond := .code yX1_fillAll cX1_fillAll 5 (some .int)
abbrev w_X1_fillAll (G : GE) (a_t a_t_draft a_t_draft_row a_t_draft_comes a_t_draft_begins a_t_draft_slacks a_p1 a_p1_facts a_p1_roundsOf a_p1_locked a_p1_rules a_p1_sizes a_p1_rows a_p1_seen a_p1_plan a_p1_book : Nat) (t_round : Int32) (t_place : Int32) (t_adds : Int32) (t_regret : Int32) (t_chosen : Int32) (t_chosenRound : Int32) (t_chosenPlace : Int32) (t_chosenAdds : Int32) (t_chosenRegret : Int32) (t_draft_round : Int32) (t_draft_size : Int32) (t_draft_back : Int32) (t_draft_loads : Int32) (t_draft_miles : Int32) (t_draft_waits : Int32) (t_draft_lateAt : Int32) (t_draft_later : Int32) (t_draft_row : Nat → Int32) (t_draft_comes : Nat → Int32) (t_draft_begins : Nat → Int32) (p1_stopCount : Int32) (p1_metric : Int32) (p1_fixed : Int32) (p1_facts : Nat → Int32) (p1_roundsOf : Nat → Int32) (p1_rules : Nat → Int32) (p1_sizes : Nat → Int32) (p1_rows : Nat → Int32) : va_W := [(a_t, ob 1 [.ref a_t_draft, .int t_round, .int t_place, .int t_adds, .int t_regret, .int t_chosen, .int t_chosenRound, .int t_chosenPlace, .int t_chosenAdds, .int t_chosenRegret]), (a_t_draft, ob 0 [.ref a_t_draft_row, .ref a_t_draft_comes, .ref a_t_draft_begins, .ref a_t_draft_slacks, .int t_draft_round, .int t_draft_size, .int t_draft_back, .int t_draft_loads, .int t_draft_miles, .int t_draft_waits, .int t_draft_lateAt, .int t_draft_later]), (a_t_draft_row, aI G 16 t_draft_row), (a_t_draft_comes, aI G 16 t_draft_comes), (a_t_draft_begins, aI G 16 t_draft_begins), (a_p1, ob 6 [.ref a_p1_facts, .ref a_p1_roundsOf, .ref a_p1_locked, .ref a_p1_rules, .ref a_p1_sizes, .ref a_p1_rows, .ref a_p1_seen, .ref a_p1_plan, .ref a_p1_book, .int p1_stopCount, .int p1_metric, .int p1_fixed]), (a_p1_facts, aI G 102 p1_facts), (a_p1_roundsOf, aI G 16 p1_roundsOf), (a_p1_rules, aI G 12 p1_rules), (a_p1_sizes, aI G 4 p1_sizes), (a_p1_rows, aI G 64 p1_rows)]
theorem u_X1_fillAll_X0_load_35 {s : State} {args : Array Value} (hts : ∀ w ∈ WU, w.before args s = true) : CallW rm_X1_fillAll s args RX1 RX0 35 yX0_load cX0_load 4 none (kw_X0_load :: WU) rm_X0_load 0 0 2 := cwV 2 hts (gV qm_1_35 qi_X0_load ql_X0_load qn_0 qc_X0_load) rfl rfl rfl (by decide +kernel) ⟨Nat.le_of_ble_eq_true rfl, Nat.le_of_ble_eq_true rfl⟩
theorem u_X1_fillAll_X0_insert_39 {s : State} {args : Array Value} (hts : ∀ w ∈ WU, w.before args s = true) : CallW rm_X1_fillAll s args RX1 RX0 39 yX0_insert cX0_insert 4 none (kw_X0_insert :: WU) rm_X0_insert 0 0 2 := cwV 2 hts (gV qm_1_39 qi_X0_insert ql_X0_insert qn_0 qc_X0_insert) rfl rfl rfl (by decide +kernel) ⟨Nat.le_of_ble_eq_true rfl, Nat.le_of_ble_eq_true rfl⟩
theorem u_X1_fillAll_X0_keep_83 {s : State} {args : Array Value} (hts : ∀ w ∈ WU, w.before args s = true) : CallW rm_X1_fillAll s args RX1 RX0 83 yX0_keep cX0_keep 3 none (kw_X0_keep :: WU) rm_X0_keep 0 0 1 := cwV 1 hts (gV qm_1_83 qi_X0_keep ql_X0_keep qn_0 qc_X0_keep) rfl rfl rfl (by decide +kernel) ⟨Nat.le_of_ble_eq_true rfl, Nat.le_of_ble_eq_true rfl⟩
theorem u_X1_fillAll_X6_roundOf_66 {s : State} {args : Array Value} (hts : ∀ w ∈ WU, w.before args s = true) : CallW rm_X1_fillAll s args RX1 RX6 66 yX6_roundOf cX6_roundOf 2 (some .int) (kw_X6_roundOf :: WU) rm_X6_roundOf 0 0 1 := cwV 1 hts (gV qm_1_66 qi_X6_roundOf ql_X6_roundOf qn_6 qc_X6_roundOf) rfl rfl rfl (by decide +kernel) ⟨Nat.le_of_ble_eq_true rfl, Nat.le_of_ble_eq_true rfl⟩
theorem u_X1_fillAll_X1_weigh_69 {s : State} {args : Array Value} (hts : ∀ w ∈ WU, w.before args s = true) : CallW rm_X1_fillAll s args RX1 RX1 69 yX1_weigh cX1_weigh 10 none (kw_X1_weigh :: WU) rm_X1_weigh 0 0 4 := cwV 4 hts (gV qm_1_69 qi_X1_weigh ql_X1_weigh qn_1 qc_X1_weigh) rfl rfl rfl (by decide +kernel) ⟨Nat.le_of_ble_eq_true rfl, Nat.le_of_ble_eq_true rfl⟩
theorem u_X1_fillAll_X1_compareStop_73 {s : State} {args : Array Value} (hts : ∀ w ∈ WU, w.before args s = true) : CallW rm_X1_fillAll s args RX1 RX1 73 yX1_compareStop cX1_compareStop 3 none (kw_X1_compareStop :: WU) rm_X1_compareStop 0 0 1 := cwV 1 hts (gV qm_1_73 qi_X1_compareStop ql_X1_compareStop qn_1 qc_X1_compareStop) rfl rfl rfl (by decide +kernel) ⟨Nat.le_of_ble_eq_true rfl, Nat.le_of_ble_eq_true rfl⟩
section
variable {p : Program} {l : Launch} {e : Env} {s : State} {m : MethodId} {args : Array Value} {below : List Frame} {meth : Method} {c : Code} {A : Nat → Prop} {G : GE} {a_t a_t_draft a_t_draft_row a_t_draft_comes a_t_draft_begins a_t_draft_slacks a_p1 a_p1_facts a_p1_roundsOf a_p1_locked a_p1_rules a_p1_sizes a_p1_rows a_p1_seen a_p1_plan a_p1_book : Nat} {r : Int32} {z_t_draft_row : Nat → Int32} {z_t_draft_comes : Nat → Int32} {z_t_draft_begins : Nat → Int32} {z_t_draft_round : Int32} {z_t_draft_size : Int32} {z_t_draft_back : Int32} {z_t_draft_loads : Int32} {z_t_draft_miles : Int32} {z_t_draft_waits : Int32} {z_t_draft_lateAt : Int32} {z_t_round : Int32} {z_t_place : Int32} {z_t_adds : Int32} {z_t_regret : Int32} {z_t_chosen : Int32} {z_t_chosenRound : Int32} {z_t_chosenPlace : Int32} {z_t_chosenAdds : Int32} {z_t_chosenRegret : Int32} {z_p1_roundsOf : Nat → Int32} {z_p1_sizes : Nat → Int32} {z_p1_rows : Nat → Int32}
set_option maxRecDepth 100000 in
set_option maxHeartbeats 4000000 in
theorem k_X1_fillAll_19 (C : Cx p s m args meth c cX1_fillAll (some .int) 5 RX1 G A) (t_round : Int32) (t_place : Int32) (t_adds : Int32) (t_regret : Int32) (t_chosen : Int32) (t_chosenRound : Int32) (t_chosenPlace : Int32) (t_chosenAdds : Int32) (t_chosenRegret : Int32) (t_draft_round : Int32) (t_draft_size : Int32) (t_draft_back : Int32) (t_draft_loads : Int32) (t_draft_miles : Int32) (t_draft_waits : Int32) (t_draft_lateAt : Int32) (t_draft_later : Int32) (t_draft_row : Nat → Int32) (t_draft_comes : Nat → Int32) (t_draft_begins : Nat → Int32) (p1_stopCount : Int32) (p1_metric : Int32) (p1_fixed : Int32) (p1_facts : Nat → Int32) (p1_roundsOf : Nat → Int32) (p1_rules : Nat → Int32) (p1_sizes : Nat → Int32) (p1_rows : Nat → Int32) (x2 : Int32) (x3 : Int32) (x4 : Int32) (k4 : Int32 × Int32 × (Nat → Int32) × (Nat → Int32) × (Nat → Int32) × Int32 × Int32 × Int32 × Int32 × Int32 × Int32 × Int32 × Int32 × Int32 × Int32 × Int32 × Int32 × Int32 × Int32 × Int32 × Int32 × (Nat → Int32) × (Nat → Int32) × (Nat → Int32) → Option (Int32 × (Nat → Int32) × (Nat → Int32) × (Nat → Int32) × Int32 × Int32 × Int32 × Int32 × Int32 × Int32 × Int32 × Int32 × Int32 × Int32 × Int32 × Int32 × Int32 × Int32 × Int32 × Int32 × (Nat → Int32) × (Nat → Int32) × (Nat → Int32))) (hk4 : ∀ {H : Heap} {locs : List Loc} {ls : Array Slot} (x2' : Int32) (x3' : Int32) (t_draft_row' : Nat → Int32) (t_draft_comes' : Nat → Int32) (t_draft_begins' : Nat → Int32) (t_draft_round' : Int32) (t_draft_size' : Int32) (t_draft_back' : Int32) (t_draft_loads' : Int32) (t_draft_miles' : Int32) (t_draft_waits' : Int32) (t_draft_lateAt' : Int32) (t_round' : Int32) (t_place' : Int32) (t_adds' : Int32) (t_regret' : Int32) (t_chosen' : Int32) (t_chosenRound' : Int32) (t_chosenPlace' : Int32) (t_chosenAdds' : Int32) (t_chosenRegret' : Int32) (p1_roundsOf' : Nat → Int32) (p1_sizes' : Nat → Int32) (p1_rows' : Nat → Int32), k4 (x2', x3', t_draft_row', t_draft_comes', t_draft_begins', t_draft_round', t_draft_size', t_draft_back', t_draft_loads', t_draft_miles', t_draft_waits', t_draft_lateAt', t_round', t_place', t_adds', t_regret', t_chosen', t_chosenRound', t_chosenPlace', t_chosenAdds', t_chosenRegret', p1_roundsOf', p1_sizes', p1_rows') = some (r, z_t_draft_row, z_t_draft_comes, z_t_draft_begins, z_t_draft_round, z_t_draft_size, z_t_draft_back, z_t_draft_loads, z_t_draft_miles, z_t_draft_waits, z_t_draft_lateAt, z_t_round, z_t_place, z_t_adds, z_t_regret, z_t_chosen, z_t_chosenRound, z_t_chosenPlace, z_t_chosenAdds, z_t_chosenRegret, z_p1_roundsOf, z_p1_sizes, z_p1_rows) → St G A s.heap H locs (w_X1_fillAll G a_t a_t_draft a_t_draft_row a_t_draft_comes a_t_draft_begins a_t_draft_slacks a_p1 a_p1_facts a_p1_roundsOf a_p1_locked a_p1_rules a_p1_sizes a_p1_rows a_p1_seen a_p1_plan a_p1_book t_round' t_place' t_adds' t_regret' t_chosen' t_chosenRound' t_chosenPlace' t_chosenAdds' t_chosenRegret' t_draft_round' t_draft_size' t_draft_back' t_draft_loads' t_draft_miles' t_draft_waits' t_draft_lateAt' t_draft_later t_draft_row' t_draft_comes' t_draft_begins' p1_stopCount p1_metric p1_fixed p1_facts p1_roundsOf' p1_rules p1_sizes' p1_rows') → lv_has ls 5 [(0, .ref a_t), (1, .ref a_p1), (2, .int x2'), (3, .int x3')] → W p l e rm_X1_fillAll s m args below meth c H locs 0 0 (QI G below args s A r (w_X1_fillAll G a_t a_t_draft a_t_draft_row a_t_draft_comes a_t_draft_begins a_t_draft_slacks a_p1 a_p1_facts a_p1_roundsOf a_p1_locked a_p1_rules a_p1_sizes a_p1_rows a_p1_seen a_p1_plan a_p1_book z_t_round z_t_place z_t_adds z_t_regret z_t_chosen z_t_chosenRound z_t_chosenPlace z_t_chosenAdds z_t_chosenRegret z_t_draft_round z_t_draft_size z_t_draft_back z_t_draft_loads z_t_draft_miles z_t_draft_waits z_t_draft_lateAt t_draft_later z_t_draft_row z_t_draft_comes z_t_draft_begins p1_stopCount p1_metric p1_fixed p1_facts z_p1_roundsOf p1_rules z_p1_sizes z_p1_rows)) (F0 m 4 ls [])) (k19 : Int32 × (Nat → Int32) × (Nat → Int32) × (Nat → Int32) × Int32 × Int32 × Int32 × Int32 × Int32 × Int32 × Int32 × Int32 × Int32 × Int32 × Int32 × Int32 × Int32 × Int32 × Int32 × Int32 → Option (Int32 × (Nat → Int32) × (Nat → Int32) × (Nat → Int32) × Int32 × Int32 × Int32 × Int32 × Int32 × Int32 × Int32 × Int32 × Int32 × Int32 × Int32 × Int32 × Int32 × Int32 × Int32 × Int32 × (Nat → Int32) × (Nat → Int32) × (Nat → Int32))) (hk19 : ∀ {H : Heap} {locs : List Loc} {ls : Array Slot} (x4' : Int32) (t_draft_row' : Nat → Int32) (t_draft_comes' : Nat → Int32) (t_draft_begins' : Nat → Int32) (t_draft_round' : Int32) (t_draft_size' : Int32) (t_draft_back' : Int32) (t_draft_loads' : Int32) (t_draft_miles' : Int32) (t_draft_waits' : Int32) (t_draft_lateAt' : Int32) (t_round' : Int32) (t_place' : Int32) (t_adds' : Int32) (t_regret' : Int32) (t_chosen' : Int32) (t_chosenRound' : Int32) (t_chosenPlace' : Int32) (t_chosenAdds' : Int32) (t_chosenRegret' : Int32), k19 (x4', t_draft_row', t_draft_comes', t_draft_begins', t_draft_round', t_draft_size', t_draft_back', t_draft_loads', t_draft_miles', t_draft_waits', t_draft_lateAt', t_round', t_place', t_adds', t_regret', t_chosen', t_chosenRound', t_chosenPlace', t_chosenAdds', t_chosenRegret') = some (r, z_t_draft_row, z_t_draft_comes, z_t_draft_begins, z_t_draft_round, z_t_draft_size, z_t_draft_back, z_t_draft_loads, z_t_draft_miles, z_t_draft_waits, z_t_draft_lateAt, z_t_round, z_t_place, z_t_adds, z_t_regret, z_t_chosen, z_t_chosenRound, z_t_chosenPlace, z_t_chosenAdds, z_t_chosenRegret, z_p1_roundsOf, z_p1_sizes, z_p1_rows) → St G A s.heap H locs (w_X1_fillAll G a_t a_t_draft a_t_draft_row a_t_draft_comes a_t_draft_begins a_t_draft_slacks a_p1 a_p1_facts a_p1_roundsOf a_p1_locked a_p1_rules a_p1_sizes a_p1_rows a_p1_seen a_p1_plan a_p1_book t_round' t_place' t_adds' t_regret' t_chosen' t_chosenRound' t_chosenPlace' t_chosenAdds' t_chosenRegret' t_draft_round' t_draft_size' t_draft_back' t_draft_loads' t_draft_miles' t_draft_waits' t_draft_lateAt' t_draft_later t_draft_row' t_draft_comes' t_draft_begins' p1_stopCount p1_metric p1_fixed p1_facts p1_roundsOf p1_rules p1_sizes p1_rows) → lv_has ls 5 [(0, .ref a_t), (1, .ref a_p1), (2, .int x2), (3, .int x3), (4, .int x4')] → W p l e rm_X1_fillAll s m args below meth c H locs 0 0 (QI G below args s A r (w_X1_fillAll G a_t a_t_draft a_t_draft_row a_t_draft_comes a_t_draft_begins a_t_draft_slacks a_p1 a_p1_facts a_p1_roundsOf a_p1_locked a_p1_rules a_p1_sizes a_p1_rows a_p1_seen a_p1_plan a_p1_book z_t_round z_t_place z_t_adds z_t_regret z_t_chosen z_t_chosenRound z_t_chosenPlace z_t_chosenAdds z_t_chosenRegret z_t_draft_round z_t_draft_size z_t_draft_back z_t_draft_loads z_t_draft_miles z_t_draft_waits z_t_draft_lateAt t_draft_later z_t_draft_row z_t_draft_comes z_t_draft_begins p1_stopCount p1_metric p1_fixed p1_facts z_p1_roundsOf p1_rules z_p1_sizes z_p1_rows)) (F0 m 19 ls [])) {H : Heap} {locs : List Loc} {ls : Array Slot} (hf : b_X1_fillAll_19 k4 x2 x3 p1_facts p1_roundsOf p1_rules p1_sizes p1_rows p1_stopCount p1_metric p1_fixed k19 x4 t_draft_row t_draft_comes t_draft_begins t_draft_round t_draft_size t_draft_back t_draft_loads t_draft_miles t_draft_waits t_draft_lateAt t_round t_place t_adds t_regret t_chosen t_chosenRound t_chosenPlace t_chosenAdds t_chosenRegret = some (r, z_t_draft_row, z_t_draft_comes, z_t_draft_begins, z_t_draft_round, z_t_draft_size, z_t_draft_back, z_t_draft_loads, z_t_draft_miles, z_t_draft_waits, z_t_draft_lateAt, z_t_round, z_t_place, z_t_adds, z_t_regret, z_t_chosen, z_t_chosenRound, z_t_chosenPlace, z_t_chosenAdds, z_t_chosenRegret, z_p1_roundsOf, z_p1_sizes, z_p1_rows)) (S : St G A s.heap H locs (w_X1_fillAll G a_t a_t_draft a_t_draft_row a_t_draft_comes a_t_draft_begins a_t_draft_slacks a_p1 a_p1_facts a_p1_roundsOf a_p1_locked a_p1_rules a_p1_sizes a_p1_rows a_p1_seen a_p1_plan a_p1_book t_round t_place t_adds t_regret t_chosen t_chosenRound t_chosenPlace t_chosenAdds t_chosenRegret t_draft_round t_draft_size t_draft_back t_draft_loads t_draft_miles t_draft_waits t_draft_lateAt t_draft_later t_draft_row t_draft_comes t_draft_begins p1_stopCount p1_metric p1_fixed p1_facts p1_roundsOf p1_rules p1_sizes p1_rows)) (hl : lv_has ls 5 [(0, .ref a_t), (1, .ref a_p1), (2, .int x2), (3, .int x3), (4, .int x4)]) : W p l e rm_X1_fillAll s m args below meth c H locs 0 0 (QI G below args s A r (w_X1_fillAll G a_t a_t_draft a_t_draft_row a_t_draft_comes a_t_draft_begins a_t_draft_slacks a_p1 a_p1_facts a_p1_roundsOf a_p1_locked a_p1_rules a_p1_sizes a_p1_rows a_p1_seen a_p1_plan a_p1_book z_t_round z_t_place z_t_adds z_t_regret z_t_chosen z_t_chosenRound z_t_chosenPlace z_t_chosenAdds z_t_chosenRegret z_t_draft_round z_t_draft_size z_t_draft_back z_t_draft_loads z_t_draft_miles z_t_draft_waits z_t_draft_lateAt t_draft_later z_t_draft_row z_t_draft_comes z_t_draft_begins p1_stopCount p1_metric p1_fixed p1_facts z_p1_roundsOf p1_rules z_p1_sizes z_p1_rows)) (F0 m 19 ls []) := by
  unfold b_X1_fillAll_19 at hf
  have hx := C.1
  have hb := C.2.1
  have hown := C.2.2.2.2.1
  have hts := C.2.2.2.2.2.1
  have hN := C.2.2.2.2.2.2.2.2.2.2
  refine lv_iload (pc := 19) hx hb dX1_fillAll_19 (lv_at hl 4 rfl) ?_
  refine lv_aload_n (pc := 21) hx hb dX1_fillAll_21 rfl (lv_at hl 1 rfl) ?_
  refine x_get (pc := 22) (ci := 6) (T := TX6) (v := .int p1_stopCount) C S 5 rfl rfl inlX6 9 (by decide) rfl qf_1_63 rfl dX1_fillAll_22 ?_
  refine lv_icmp_ge (tgt := 60) (pc := 25) hx hb dX1_fillAll_25 (by decide) (fun c1 => ?_) (fun c1 => ?_)
  · have hf := ifp c1 hf
    refine lv_aload_n (pc := 60) hx hb dX1_fillAll_60 rfl (lv_at hl 0 rfl) ?_
    refine x_get (pc := 61) (ci := 1) (T := TX1) (v := .int t_chosen) C S 0 rfl rfl inlX1 5 (by decide) rfl qf_1_60 rfl dX1_fillAll_61 ?_
    refine lv_bipush (pc := 64) hx hb dX1_fillAll_64 bc_m5 ?_
    refine lv_icmp_ne (tgt := 72) (pc := 66) hx hb dX1_fillAll_66 (by decide) (fun c2 => ?_) (fun c2 => ?_)
    · have hf := ifn c2 hf
      refine lv_aload_n (pc := 72) hx hb dX1_fillAll_72 rfl (lv_at hl 0 rfl) ?_
      refine x_get (pc := 73) (ci := 1) (T := TX1) (v := .ref a_t_draft) C S 0 rfl rfl inlX1 0 (by decide) rfl qf_1_12 rfl dX1_fillAll_73 ?_
      refine lv_aload_n (pc := 76) hx hb dX1_fillAll_76 rfl (lv_at hl 1 rfl) ?_
      refine lv_aload_n (pc := 77) hx hb dX1_fillAll_77 rfl (lv_at hl 0 rfl) ?_
      refine x_get (pc := 78) (ci := 1) (T := TX1) (v := .int t_chosenRound) C S 0 rfl rfl inlX1 6 (by decide) rfl qf_1_77 rfl dX1_fillAll_78 ?_
      obtain ⟨⟨o3_t_draft_row, o3_t_draft_round, o3_t_draft_size⟩, hq3, hf⟩ := bd_e hf
      refine x_vV (pc := 81) (As := [.ref a_p1, .int t_chosenRound]) (rest := []) (isC := [1, 2, 5, 9, 10]) (ws' := (w_X1_fillAll G a_t a_t_draft a_t_draft_row a_t_draft_comes a_t_draft_begins a_t_draft_slacks a_p1 a_p1_facts a_p1_roundsOf a_p1_locked a_p1_rules a_p1_sizes a_p1_rows a_p1_seen a_p1_plan a_p1_book t_round t_place t_adds t_regret t_chosen t_chosenRound t_chosenPlace t_chosenAdds t_chosenRegret o3_t_draft_round o3_t_draft_size t_draft_back t_draft_loads t_draft_miles t_draft_waits t_draft_lateAt t_draft_later o3_t_draft_row t_draft_comes t_draft_begins p1_stopCount p1_metric p1_fixed p1_facts p1_roundsOf p1_rules p1_sizes p1_rows)) C S (c_X0_load l G a_t_draft a_t_draft_row a_t_draft_comes a_t_draft_begins a_t_draft_slacks a_p1 a_p1_facts a_p1_roundsOf a_p1_locked a_p1_rules a_p1_sizes a_p1_rows a_p1_seen a_p1_plan a_p1_book t_draft_round t_draft_size t_draft_back t_draft_loads t_draft_miles t_draft_waits t_draft_lateAt t_draft_later t_draft_row p1_stopCount p1_metric p1_fixed p1_sizes p1_rows t_chosenRound o3_t_draft_row o3_t_draft_round o3_t_draft_size hq3) (u_X1_fillAll_X0_load_35 hts) (ci := 0) rfl 1 rfl rfl (by decide +kernel) [none, some 0, some 1, none, none, some 2, none, none, none, some 3, some 4] (by decide +kernel) rfl rfl rfl hl.1 rfl (Nat.le_of_ble_eq_true rfl) dX1_fillAll_81 (fun H locs S => ?_)
      refine lv_aload_n (pc := 84) hx hb dX1_fillAll_84 rfl (lv_at hl 0 rfl) ?_
      refine x_get (pc := 85) (ci := 1) (T := TX1) (v := .ref a_t_draft) C S 0 rfl rfl inlX1 0 (by decide) rfl qf_1_12 rfl dX1_fillAll_85 ?_
      refine lv_aload_n (pc := 88) hx hb dX1_fillAll_88 rfl (lv_at hl 0 rfl) ?_
      refine x_get (pc := 89) (ci := 1) (T := TX1) (v := .int t_chosenPlace) C S 0 rfl rfl inlX1 7 (by decide) rfl qf_1_80 rfl dX1_fillAll_89 ?_
      refine lv_aload_n (pc := 92) hx hb dX1_fillAll_92 rfl (lv_at hl 0 rfl) ?_
      refine x_get (pc := 93) (ci := 1) (T := TX1) (v := .int t_chosen) C S 0 rfl rfl inlX1 5 (by decide) rfl qf_1_60 rfl dX1_fillAll_93 ?_
      obtain ⟨⟨o4_t_draft_row, o4_t_draft_size⟩, hq4, hf⟩ := bd_e hf
      refine x_vV (pc := 96) (As := [.int t_chosenPlace, .int t_chosen]) (rest := []) (isC := [1, 2]) (ws' := (w_X1_fillAll G a_t a_t_draft a_t_draft_row a_t_draft_comes a_t_draft_begins a_t_draft_slacks a_p1 a_p1_facts a_p1_roundsOf a_p1_locked a_p1_rules a_p1_sizes a_p1_rows a_p1_seen a_p1_plan a_p1_book t_round t_place t_adds t_regret t_chosen t_chosenRound t_chosenPlace t_chosenAdds t_chosenRegret o3_t_draft_round o4_t_draft_size t_draft_back t_draft_loads t_draft_miles t_draft_waits t_draft_lateAt t_draft_later o4_t_draft_row t_draft_comes t_draft_begins p1_stopCount p1_metric p1_fixed p1_facts p1_roundsOf p1_rules p1_sizes p1_rows)) C S (c_X0_insert l G a_t_draft a_t_draft_row a_t_draft_comes a_t_draft_begins a_t_draft_slacks o3_t_draft_round o3_t_draft_size t_draft_back t_draft_loads t_draft_miles t_draft_waits t_draft_lateAt t_draft_later o3_t_draft_row t_chosenPlace t_chosen o4_t_draft_row o4_t_draft_size hq4) (u_X1_fillAll_X0_insert_39 hts) (ci := 0) rfl 1 rfl rfl (by decide +kernel) [none, some 0, some 1, none, none, none, none, none, none, none, none] (by decide +kernel) rfl rfl rfl hl.1 rfl (Nat.le_of_ble_eq_true rfl) dX1_fillAll_96 (fun H locs S => ?_)
      refine lv_aload_n (pc := 99) hx hb dX1_fillAll_99 rfl (lv_at hl 0 rfl) ?_
      refine x_get (pc := 100) (ci := 1) (T := TX1) (v := .ref a_t_draft) C S 0 rfl rfl inlX1 0 (by decide) rfl qf_1_12 rfl dX1_fillAll_100 ?_
      refine lv_aload_n (pc := 103) hx hb dX1_fillAll_103 rfl (lv_at hl 1 rfl) ?_
      obtain ⟨⟨o5_p1_roundsOf, o5_p1_sizes, o5_p1_rows⟩, hq5, hf⟩ := bd_e hf
      refine x_vV (pc := 104) (As := [.ref a_p1]) (rest := []) (isC := [1, 2, 5, 7, 9, 10]) (ws' := (w_X1_fillAll G a_t a_t_draft a_t_draft_row a_t_draft_comes a_t_draft_begins a_t_draft_slacks a_p1 a_p1_facts a_p1_roundsOf a_p1_locked a_p1_rules a_p1_sizes a_p1_rows a_p1_seen a_p1_plan a_p1_book t_round t_place t_adds t_regret t_chosen t_chosenRound t_chosenPlace t_chosenAdds t_chosenRegret o3_t_draft_round o4_t_draft_size t_draft_back t_draft_loads t_draft_miles t_draft_waits t_draft_lateAt t_draft_later o4_t_draft_row t_draft_comes t_draft_begins p1_stopCount p1_metric p1_fixed p1_facts o5_p1_roundsOf p1_rules o5_p1_sizes o5_p1_rows)) C S (c_X0_keep l G a_t_draft a_t_draft_row a_t_draft_comes a_t_draft_begins a_t_draft_slacks a_p1 a_p1_facts a_p1_roundsOf a_p1_locked a_p1_rules a_p1_sizes a_p1_rows a_p1_seen a_p1_plan a_p1_book o3_t_draft_round o4_t_draft_size t_draft_back t_draft_loads t_draft_miles t_draft_waits t_draft_lateAt t_draft_later o4_t_draft_row p1_stopCount p1_metric p1_fixed p1_roundsOf p1_sizes p1_rows o5_p1_roundsOf o5_p1_sizes o5_p1_rows hq5) (u_X1_fillAll_X0_keep_83 hts) (ci := 0) rfl 1 rfl rfl (by decide +kernel) [none, some 0, some 1, none, none, some 2, none, some 3, none, some 4, some 5] (by decide +kernel) rfl rfl rfl hl.1 rfl (Nat.le_of_ble_eq_true rfl) dX1_fillAll_104 (fun H locs S => ?_)
      refine lv_iinc (pc := 107) (v := (x2 + (1 : Int32))) (lv' := [(2, .int (x2 + (1 : Int32))), (0, .ref a_t), (1, .ref a_p1), (3, .int x3), (4, .int x4)]) hx hb dX1_fillAll_107 hl (k := 2) rfl (congrArg (fun z => x2 + z) ic_1) (by decide) rfl (fun ls hl => ?_)
      refine lv_iinc (pc := 110) (v := (x3 + (1 : Int32))) (lv' := [(3, .int (x3 + (1 : Int32))), (2, .int (x2 + (1 : Int32))), (0, .ref a_t), (1, .ref a_p1), (4, .int x4)]) hx hb dX1_fillAll_110 hl (k := 3) rfl (congrArg (fun z => x3 + z) ic_1) (by decide) rfl (fun ls hl => ?_)
      refine lv_goto (tgt := 4) (pc := 113) hx hb dX1_fillAll_113 (by decide) ?_
      exact hk4 ((x2 + (1 : Int32))) ((x3 + (1 : Int32))) (o4_t_draft_row) (t_draft_comes) (t_draft_begins) (o3_t_draft_round) (o4_t_draft_size) (t_draft_back) (t_draft_loads) (t_draft_miles) (t_draft_waits) (t_draft_lateAt) (t_round) (t_place) (t_adds) (t_regret) (t_chosen) (t_chosenRound) (t_chosenPlace) (t_chosenAdds) (t_chosenRegret) (o5_p1_roundsOf) (o5_p1_sizes) (o5_p1_rows)  hf S (lv_sub hl [2, 3, 1, 0] rfl)
    · have hf := ifp c2 hf
      refine lv_goto (tgt := 116) (pc := 69) hx hb dX1_fillAll_69 (by decide) ?_
      refine lv_iload_n (pc := 116) hx hb dX1_fillAll_116 rfl (lv_at hl 2 rfl) ?_
      cases hf
      exact x_iret (pc := 117) C S dX1_fillAll_117
  · have hf := ifn c1 hf
    refine lv_aload_n (pc := 28) hx hb dX1_fillAll_28 rfl (lv_at hl 1 rfl) ?_
    refine lv_iload (pc := 29) hx hb dX1_fillAll_29 (lv_at hl 4 rfl) ?_
    obtain ⟨r6, hq6, hf⟩ := bd_e hf
    refine x_vI (pc := 31) (As := [.int x4]) (rest := []) (isC := [5, 7]) (ws' := (w_X1_fillAll G a_t a_t_draft a_t_draft_row a_t_draft_comes a_t_draft_begins a_t_draft_slacks a_p1 a_p1_facts a_p1_roundsOf a_p1_locked a_p1_rules a_p1_sizes a_p1_rows a_p1_seen a_p1_plan a_p1_book t_round t_place t_adds t_regret t_chosen t_chosenRound t_chosenPlace t_chosenAdds t_chosenRegret t_draft_round t_draft_size t_draft_back t_draft_loads t_draft_miles t_draft_waits t_draft_lateAt t_draft_later t_draft_row t_draft_comes t_draft_begins p1_stopCount p1_metric p1_fixed p1_facts p1_roundsOf p1_rules p1_sizes p1_rows)) C S (c_X6_roundOf l G a_p1 a_p1_facts a_p1_roundsOf a_p1_locked a_p1_rules a_p1_sizes a_p1_rows a_p1_seen a_p1_plan a_p1_book p1_stopCount p1_metric p1_fixed p1_roundsOf x4 r6 hq6) (u_X1_fillAll_X6_roundOf_66 hts) (ci := 6) rfl 5 rfl rfl (by decide +kernel) [none, none, none, none, none, some 0, none, some 1, none, none, none] (by decide +kernel) rfl rfl rfl hl.1 rfl (Nat.le_of_ble_eq_true rfl) dX1_fillAll_31 (fun H locs S => ?_)
    refine lv_bipush (pc := 34) hx hb dX1_fillAll_34 bc_m5 ?_
    refine lv_icmp_ne (tgt := 54) (pc := 36) hx hb dX1_fillAll_36 (by decide) (fun c7 => ?_) (fun c7 => ?_)
    · have hf := ifn c7 hf
      refine lv_iinc (pc := 54) (v := (x4 + (1 : Int32))) (lv' := [(4, .int (x4 + (1 : Int32))), (0, .ref a_t), (1, .ref a_p1), (2, .int x2), (3, .int x3)]) hx hb dX1_fillAll_54 hl (k := 4) rfl (congrArg (fun z => x4 + z) ic_1) (by decide) rfl (fun ls hl => ?_)
      refine lv_goto (tgt := 19) (pc := 57) hx hb dX1_fillAll_57 (by decide) ?_
      exact hk19 ((x4 + (1 : Int32))) (t_draft_row) (t_draft_comes) (t_draft_begins) (t_draft_round) (t_draft_size) (t_draft_back) (t_draft_loads) (t_draft_miles) (t_draft_waits) (t_draft_lateAt) (t_round) (t_place) (t_adds) (t_regret) (t_chosen) (t_chosenRound) (t_chosenPlace) (t_chosenAdds) (t_chosenRegret)  hf S (lv_sub hl [1, 2, 3, 4, 0] rfl)
    · have hf := ifp c7 hf
      refine lv_aload_n (pc := 39) hx hb dX1_fillAll_39 rfl (lv_at hl 0 rfl) ?_
      refine lv_aload_n (pc := 40) hx hb dX1_fillAll_40 rfl (lv_at hl 1 rfl) ?_
      refine lv_iload (pc := 41) hx hb dX1_fillAll_41 (lv_at hl 4 rfl) ?_
      refine lv_iconst (pc := 43) hx hb dX1_fillAll_43 ic_0 ?_
      refine lv_iconst (pc := 44) hx hb dX1_fillAll_44 ic_3 ?_
      obtain ⟨⟨o8_t_draft_row, o8_t_draft_comes, o8_t_draft_begins, o8_t_draft_round, o8_t_draft_size, o8_t_draft_back, o8_t_draft_loads, o8_t_draft_miles, o8_t_draft_waits, o8_t_draft_lateAt, o8_t_round, o8_t_place, o8_t_adds, o8_t_regret⟩, hq8, hf⟩ := bd_e hf
      refine x_vV (pc := 45) (As := [.ref a_p1, .int x4, .int (0 : Int32), .int (3 : Int32)]) (rest := []) (isC := [0, 1, 2, 3, 4, 5, 6, 8, 9, 10]) (ws' := (w_X1_fillAll G a_t a_t_draft a_t_draft_row a_t_draft_comes a_t_draft_begins a_t_draft_slacks a_p1 a_p1_facts a_p1_roundsOf a_p1_locked a_p1_rules a_p1_sizes a_p1_rows a_p1_seen a_p1_plan a_p1_book o8_t_round o8_t_place o8_t_adds o8_t_regret t_chosen t_chosenRound t_chosenPlace t_chosenAdds t_chosenRegret o8_t_draft_round o8_t_draft_size o8_t_draft_back o8_t_draft_loads o8_t_draft_miles o8_t_draft_waits o8_t_draft_lateAt t_draft_later o8_t_draft_row o8_t_draft_comes o8_t_draft_begins p1_stopCount p1_metric p1_fixed p1_facts p1_roundsOf p1_rules p1_sizes p1_rows)) C S (c_X1_weigh l G a_t a_t_draft a_t_draft_row a_t_draft_comes a_t_draft_begins a_t_draft_slacks a_p1 a_p1_facts a_p1_roundsOf a_p1_locked a_p1_rules a_p1_sizes a_p1_rows a_p1_seen a_p1_plan a_p1_book t_round t_place t_adds t_regret t_chosen t_chosenRound t_chosenPlace t_chosenAdds t_chosenRegret t_draft_round t_draft_size t_draft_back t_draft_loads t_draft_miles t_draft_waits t_draft_lateAt t_draft_later t_draft_row t_draft_comes t_draft_begins p1_stopCount p1_metric p1_fixed p1_facts p1_rules p1_sizes p1_rows x4 (0 : Int32) (3 : Int32) o8_t_draft_row o8_t_draft_comes o8_t_draft_begins o8_t_draft_round o8_t_draft_size o8_t_draft_back o8_t_draft_loads o8_t_draft_miles o8_t_draft_waits o8_t_draft_lateAt o8_t_round o8_t_place o8_t_adds o8_t_regret hq8) (u_X1_fillAll_X1_weigh_69 hts) (ci := 1) rfl 0 rfl rfl (by decide +kernel) [some 0, some 1, some 2, some 3, some 4, some 5, some 6, none, some 7, some 8, some 9] (by decide +kernel) rfl rfl rfl hl.1 rfl (Nat.le_of_ble_eq_true rfl) dX1_fillAll_45 (fun H locs S => ?_)
      refine lv_aload_n (pc := 48) hx hb dX1_fillAll_48 rfl (lv_at hl 0 rfl) ?_
      refine lv_iload (pc := 49) hx hb dX1_fillAll_49 (lv_at hl 4 rfl) ?_
      obtain ⟨⟨o9_t_chosen, o9_t_chosenRound, o9_t_chosenPlace, o9_t_chosenAdds, o9_t_chosenRegret⟩, hq9, hf⟩ := bd_e hf
      refine x_vV (pc := 51) (As := [.int x4]) (rest := []) (isC := [0]) (ws' := (w_X1_fillAll G a_t a_t_draft a_t_draft_row a_t_draft_comes a_t_draft_begins a_t_draft_slacks a_p1 a_p1_facts a_p1_roundsOf a_p1_locked a_p1_rules a_p1_sizes a_p1_rows a_p1_seen a_p1_plan a_p1_book o8_t_round o8_t_place o8_t_adds o8_t_regret o9_t_chosen o9_t_chosenRound o9_t_chosenPlace o9_t_chosenAdds o9_t_chosenRegret o8_t_draft_round o8_t_draft_size o8_t_draft_back o8_t_draft_loads o8_t_draft_miles o8_t_draft_waits o8_t_draft_lateAt t_draft_later o8_t_draft_row o8_t_draft_comes o8_t_draft_begins p1_stopCount p1_metric p1_fixed p1_facts p1_roundsOf p1_rules p1_sizes p1_rows)) C S (c_X1_compareStop l G a_t a_t_draft o8_t_round o8_t_place o8_t_adds o8_t_regret t_chosen t_chosenRound t_chosenPlace t_chosenAdds t_chosenRegret x4 o9_t_chosen o9_t_chosenRound o9_t_chosenPlace o9_t_chosenAdds o9_t_chosenRegret hq9) (u_X1_fillAll_X1_compareStop_73 hts) (ci := 1) rfl 0 rfl rfl (by decide +kernel) [some 0, none, none, none, none, none, none, none, none, none, none] (by decide +kernel) rfl rfl rfl hl.1 rfl (Nat.le_of_ble_eq_true rfl) dX1_fillAll_51 (fun H locs S => ?_)
      refine lv_iinc (pc := 54) (v := (x4 + (1 : Int32))) (lv' := [(4, .int (x4 + (1 : Int32))), (0, .ref a_t), (1, .ref a_p1), (2, .int x2), (3, .int x3)]) hx hb dX1_fillAll_54 hl (k := 4) rfl (congrArg (fun z => x4 + z) ic_1) (by decide) rfl (fun ls hl => ?_)
      refine lv_goto (tgt := 19) (pc := 57) hx hb dX1_fillAll_57 (by decide) ?_
      exact hk19 ((x4 + (1 : Int32))) (o8_t_draft_row) (o8_t_draft_comes) (o8_t_draft_begins) (o8_t_draft_round) (o8_t_draft_size) (o8_t_draft_back) (o8_t_draft_loads) (o8_t_draft_miles) (o8_t_draft_waits) (o8_t_draft_lateAt) (o8_t_round) (o8_t_place) (o8_t_adds) (o8_t_regret) (o9_t_chosen) (o9_t_chosenRound) (o9_t_chosenPlace) (o9_t_chosenAdds) (o9_t_chosenRegret)  hf S (lv_sub hl [1, 2, 3, 4, 0] rfl)
set_option maxRecDepth 100000 in
set_option maxHeartbeats 4000000 in
theorem h_X1_fillAll_19 (C : Cx p s m args meth c cX1_fillAll (some .int) 5 RX1 G A) (t_draft_later : Int32) (p1_stopCount : Int32) (p1_metric : Int32) (p1_fixed : Int32) (p1_facts : Nat → Int32) (p1_roundsOf : Nat → Int32) (p1_rules : Nat → Int32) (p1_sizes : Nat → Int32) (p1_rows : Nat → Int32) (x2 : Int32) (x3 : Int32) (k4 : Int32 × Int32 × (Nat → Int32) × (Nat → Int32) × (Nat → Int32) × Int32 × Int32 × Int32 × Int32 × Int32 × Int32 × Int32 × Int32 × Int32 × Int32 × Int32 × Int32 × Int32 × Int32 × Int32 × Int32 × (Nat → Int32) × (Nat → Int32) × (Nat → Int32) → Option (Int32 × (Nat → Int32) × (Nat → Int32) × (Nat → Int32) × Int32 × Int32 × Int32 × Int32 × Int32 × Int32 × Int32 × Int32 × Int32 × Int32 × Int32 × Int32 × Int32 × Int32 × Int32 × Int32 × (Nat → Int32) × (Nat → Int32) × (Nat → Int32))) (hk4 : ∀ {H : Heap} {locs : List Loc} {ls : Array Slot} (x2' : Int32) (x3' : Int32) (t_draft_row' : Nat → Int32) (t_draft_comes' : Nat → Int32) (t_draft_begins' : Nat → Int32) (t_draft_round' : Int32) (t_draft_size' : Int32) (t_draft_back' : Int32) (t_draft_loads' : Int32) (t_draft_miles' : Int32) (t_draft_waits' : Int32) (t_draft_lateAt' : Int32) (t_round' : Int32) (t_place' : Int32) (t_adds' : Int32) (t_regret' : Int32) (t_chosen' : Int32) (t_chosenRound' : Int32) (t_chosenPlace' : Int32) (t_chosenAdds' : Int32) (t_chosenRegret' : Int32) (p1_roundsOf' : Nat → Int32) (p1_sizes' : Nat → Int32) (p1_rows' : Nat → Int32), k4 (x2', x3', t_draft_row', t_draft_comes', t_draft_begins', t_draft_round', t_draft_size', t_draft_back', t_draft_loads', t_draft_miles', t_draft_waits', t_draft_lateAt', t_round', t_place', t_adds', t_regret', t_chosen', t_chosenRound', t_chosenPlace', t_chosenAdds', t_chosenRegret', p1_roundsOf', p1_sizes', p1_rows') = some (r, z_t_draft_row, z_t_draft_comes, z_t_draft_begins, z_t_draft_round, z_t_draft_size, z_t_draft_back, z_t_draft_loads, z_t_draft_miles, z_t_draft_waits, z_t_draft_lateAt, z_t_round, z_t_place, z_t_adds, z_t_regret, z_t_chosen, z_t_chosenRound, z_t_chosenPlace, z_t_chosenAdds, z_t_chosenRegret, z_p1_roundsOf, z_p1_sizes, z_p1_rows) → St G A s.heap H locs (w_X1_fillAll G a_t a_t_draft a_t_draft_row a_t_draft_comes a_t_draft_begins a_t_draft_slacks a_p1 a_p1_facts a_p1_roundsOf a_p1_locked a_p1_rules a_p1_sizes a_p1_rows a_p1_seen a_p1_plan a_p1_book t_round' t_place' t_adds' t_regret' t_chosen' t_chosenRound' t_chosenPlace' t_chosenAdds' t_chosenRegret' t_draft_round' t_draft_size' t_draft_back' t_draft_loads' t_draft_miles' t_draft_waits' t_draft_lateAt' t_draft_later t_draft_row' t_draft_comes' t_draft_begins' p1_stopCount p1_metric p1_fixed p1_facts p1_roundsOf' p1_rules p1_sizes' p1_rows') → lv_has ls 5 [(0, .ref a_t), (1, .ref a_p1), (2, .int x2'), (3, .int x3')] → W p l e rm_X1_fillAll s m args below meth c H locs 0 0 (QI G below args s A r (w_X1_fillAll G a_t a_t_draft a_t_draft_row a_t_draft_comes a_t_draft_begins a_t_draft_slacks a_p1 a_p1_facts a_p1_roundsOf a_p1_locked a_p1_rules a_p1_sizes a_p1_rows a_p1_seen a_p1_plan a_p1_book z_t_round z_t_place z_t_adds z_t_regret z_t_chosen z_t_chosenRound z_t_chosenPlace z_t_chosenAdds z_t_chosenRegret z_t_draft_round z_t_draft_size z_t_draft_back z_t_draft_loads z_t_draft_miles z_t_draft_waits z_t_draft_lateAt t_draft_later z_t_draft_row z_t_draft_comes z_t_draft_begins p1_stopCount p1_metric p1_fixed p1_facts z_p1_roundsOf p1_rules z_p1_sizes z_p1_rows)) (F0 m 4 ls [])) : ∀ (n : Nat) (x4 : Int32) (t_draft_row : Nat → Int32) (t_draft_comes : Nat → Int32) (t_draft_begins : Nat → Int32) (t_draft_round : Int32) (t_draft_size : Int32) (t_draft_back : Int32) (t_draft_loads : Int32) (t_draft_miles : Int32) (t_draft_waits : Int32) (t_draft_lateAt : Int32) (t_round : Int32) (t_place : Int32) (t_adds : Int32) (t_regret : Int32) (t_chosen : Int32) (t_chosenRound : Int32) (t_chosenPlace : Int32) (t_chosenAdds : Int32) (t_chosenRegret : Int32) {H : Heap} {locs : List Loc} {ls : Array Slot} (hf : lp (fun k x => b_X1_fillAll_19 k4 x2 x3 p1_facts p1_roundsOf p1_rules p1_sizes p1_rows p1_stopCount p1_metric p1_fixed k x.1 x.2.1 x.2.2.1 x.2.2.2.1 x.2.2.2.2.1 x.2.2.2.2.2.1 x.2.2.2.2.2.2.1 x.2.2.2.2.2.2.2.1 x.2.2.2.2.2.2.2.2.1 x.2.2.2.2.2.2.2.2.2.1 x.2.2.2.2.2.2.2.2.2.2.1 x.2.2.2.2.2.2.2.2.2.2.2.1 x.2.2.2.2.2.2.2.2.2.2.2.2.1 x.2.2.2.2.2.2.2.2.2.2.2.2.2.1 x.2.2.2.2.2.2.2.2.2.2.2.2.2.2.1 x.2.2.2.2.2.2.2.2.2.2.2.2.2.2.2.1 x.2.2.2.2.2.2.2.2.2.2.2.2.2.2.2.2.1 x.2.2.2.2.2.2.2.2.2.2.2.2.2.2.2.2.2.1 x.2.2.2.2.2.2.2.2.2.2.2.2.2.2.2.2.2.2.1 x.2.2.2.2.2.2.2.2.2.2.2.2.2.2.2.2.2.2.2) n (x4, t_draft_row, t_draft_comes, t_draft_begins, t_draft_round, t_draft_size, t_draft_back, t_draft_loads, t_draft_miles, t_draft_waits, t_draft_lateAt, t_round, t_place, t_adds, t_regret, t_chosen, t_chosenRound, t_chosenPlace, t_chosenAdds, t_chosenRegret) = some (r, z_t_draft_row, z_t_draft_comes, z_t_draft_begins, z_t_draft_round, z_t_draft_size, z_t_draft_back, z_t_draft_loads, z_t_draft_miles, z_t_draft_waits, z_t_draft_lateAt, z_t_round, z_t_place, z_t_adds, z_t_regret, z_t_chosen, z_t_chosenRound, z_t_chosenPlace, z_t_chosenAdds, z_t_chosenRegret, z_p1_roundsOf, z_p1_sizes, z_p1_rows)) (S : St G A s.heap H locs (w_X1_fillAll G a_t a_t_draft a_t_draft_row a_t_draft_comes a_t_draft_begins a_t_draft_slacks a_p1 a_p1_facts a_p1_roundsOf a_p1_locked a_p1_rules a_p1_sizes a_p1_rows a_p1_seen a_p1_plan a_p1_book t_round t_place t_adds t_regret t_chosen t_chosenRound t_chosenPlace t_chosenAdds t_chosenRegret t_draft_round t_draft_size t_draft_back t_draft_loads t_draft_miles t_draft_waits t_draft_lateAt t_draft_later t_draft_row t_draft_comes t_draft_begins p1_stopCount p1_metric p1_fixed p1_facts p1_roundsOf p1_rules p1_sizes p1_rows)) (hl : lv_has ls 5 [(0, .ref a_t), (1, .ref a_p1), (2, .int x2), (3, .int x3), (4, .int x4)]), W p l e rm_X1_fillAll s m args below meth c H locs 0 0 (QI G below args s A r (w_X1_fillAll G a_t a_t_draft a_t_draft_row a_t_draft_comes a_t_draft_begins a_t_draft_slacks a_p1 a_p1_facts a_p1_roundsOf a_p1_locked a_p1_rules a_p1_sizes a_p1_rows a_p1_seen a_p1_plan a_p1_book z_t_round z_t_place z_t_adds z_t_regret z_t_chosen z_t_chosenRound z_t_chosenPlace z_t_chosenAdds z_t_chosenRegret z_t_draft_round z_t_draft_size z_t_draft_back z_t_draft_loads z_t_draft_miles z_t_draft_waits z_t_draft_lateAt t_draft_later z_t_draft_row z_t_draft_comes z_t_draft_begins p1_stopCount p1_metric p1_fixed p1_facts z_p1_roundsOf p1_rules z_p1_sizes z_p1_rows)) (F0 m 19 ls []) := by
  intro n
  induction n with
  | zero =>
    intro x4 t_draft_row t_draft_comes t_draft_begins t_draft_round t_draft_size t_draft_back t_draft_loads t_draft_miles t_draft_waits t_draft_lateAt t_round t_place t_adds t_regret t_chosen t_chosenRound t_chosenPlace t_chosenAdds t_chosenRegret  H locs ls hf
    cases hf
  | succ n ih =>
    intro x4 t_draft_row t_draft_comes t_draft_begins t_draft_round t_draft_size t_draft_back t_draft_loads t_draft_miles t_draft_waits t_draft_lateAt t_round t_place t_adds t_regret t_chosen t_chosenRound t_chosenPlace t_chosenAdds t_chosenRegret  H locs ls hf S hl
    have hf : b_X1_fillAll_19 k4 x2 x3 p1_facts p1_roundsOf p1_rules p1_sizes p1_rows p1_stopCount p1_metric p1_fixed (lp (fun k x => b_X1_fillAll_19 k4 x2 x3 p1_facts p1_roundsOf p1_rules p1_sizes p1_rows p1_stopCount p1_metric p1_fixed k x.1 x.2.1 x.2.2.1 x.2.2.2.1 x.2.2.2.2.1 x.2.2.2.2.2.1 x.2.2.2.2.2.2.1 x.2.2.2.2.2.2.2.1 x.2.2.2.2.2.2.2.2.1 x.2.2.2.2.2.2.2.2.2.1 x.2.2.2.2.2.2.2.2.2.2.1 x.2.2.2.2.2.2.2.2.2.2.2.1 x.2.2.2.2.2.2.2.2.2.2.2.2.1 x.2.2.2.2.2.2.2.2.2.2.2.2.2.1 x.2.2.2.2.2.2.2.2.2.2.2.2.2.2.1 x.2.2.2.2.2.2.2.2.2.2.2.2.2.2.2.1 x.2.2.2.2.2.2.2.2.2.2.2.2.2.2.2.2.1 x.2.2.2.2.2.2.2.2.2.2.2.2.2.2.2.2.2.1 x.2.2.2.2.2.2.2.2.2.2.2.2.2.2.2.2.2.2.1 x.2.2.2.2.2.2.2.2.2.2.2.2.2.2.2.2.2.2.2) n) x4 t_draft_row t_draft_comes t_draft_begins t_draft_round t_draft_size t_draft_back t_draft_loads t_draft_miles t_draft_waits t_draft_lateAt t_round t_place t_adds t_regret t_chosen t_chosenRound t_chosenPlace t_chosenAdds t_chosenRegret = some (r, z_t_draft_row, z_t_draft_comes, z_t_draft_begins, z_t_draft_round, z_t_draft_size, z_t_draft_back, z_t_draft_loads, z_t_draft_miles, z_t_draft_waits, z_t_draft_lateAt, z_t_round, z_t_place, z_t_adds, z_t_regret, z_t_chosen, z_t_chosenRound, z_t_chosenPlace, z_t_chosenAdds, z_t_chosenRegret, z_p1_roundsOf, z_p1_sizes, z_p1_rows) := hf
    exact k_X1_fillAll_19 C t_round t_place t_adds t_regret t_chosen t_chosenRound t_chosenPlace t_chosenAdds t_chosenRegret t_draft_round t_draft_size t_draft_back t_draft_loads t_draft_miles t_draft_waits t_draft_lateAt t_draft_later t_draft_row t_draft_comes t_draft_begins p1_stopCount p1_metric p1_fixed p1_facts p1_roundsOf p1_rules p1_sizes p1_rows x2 x3 x4  k4 hk4 (lp (fun k x => b_X1_fillAll_19 k4 x2 x3 p1_facts p1_roundsOf p1_rules p1_sizes p1_rows p1_stopCount p1_metric p1_fixed k x.1 x.2.1 x.2.2.1 x.2.2.2.1 x.2.2.2.2.1 x.2.2.2.2.2.1 x.2.2.2.2.2.2.1 x.2.2.2.2.2.2.2.1 x.2.2.2.2.2.2.2.2.1 x.2.2.2.2.2.2.2.2.2.1 x.2.2.2.2.2.2.2.2.2.2.1 x.2.2.2.2.2.2.2.2.2.2.2.1 x.2.2.2.2.2.2.2.2.2.2.2.2.1 x.2.2.2.2.2.2.2.2.2.2.2.2.2.1 x.2.2.2.2.2.2.2.2.2.2.2.2.2.2.1 x.2.2.2.2.2.2.2.2.2.2.2.2.2.2.2.1 x.2.2.2.2.2.2.2.2.2.2.2.2.2.2.2.2.1 x.2.2.2.2.2.2.2.2.2.2.2.2.2.2.2.2.2.1 x.2.2.2.2.2.2.2.2.2.2.2.2.2.2.2.2.2.2.1 x.2.2.2.2.2.2.2.2.2.2.2.2.2.2.2.2.2.2.2) n) (fun x4' t_draft_row' t_draft_comes' t_draft_begins' t_draft_round' t_draft_size' t_draft_back' t_draft_loads' t_draft_miles' t_draft_waits' t_draft_lateAt' t_round' t_place' t_adds' t_regret' t_chosen' t_chosenRound' t_chosenPlace' t_chosenAdds' t_chosenRegret'  h S hl => ih x4' t_draft_row' t_draft_comes' t_draft_begins' t_draft_round' t_draft_size' t_draft_back' t_draft_loads' t_draft_miles' t_draft_waits' t_draft_lateAt' t_round' t_place' t_adds' t_regret' t_chosen' t_chosenRound' t_chosenPlace' t_chosenAdds' t_chosenRegret'  h S hl) hf S hl
set_option maxRecDepth 100000 in
set_option maxHeartbeats 4000000 in
theorem k_X1_fillAll_4 (C : Cx p s m args meth c cX1_fillAll (some .int) 5 RX1 G A) (t_round : Int32) (t_place : Int32) (t_adds : Int32) (t_regret : Int32) (t_chosen : Int32) (t_chosenRound : Int32) (t_chosenPlace : Int32) (t_chosenAdds : Int32) (t_chosenRegret : Int32) (t_draft_round : Int32) (t_draft_size : Int32) (t_draft_back : Int32) (t_draft_loads : Int32) (t_draft_miles : Int32) (t_draft_waits : Int32) (t_draft_lateAt : Int32) (t_draft_later : Int32) (t_draft_row : Nat → Int32) (t_draft_comes : Nat → Int32) (t_draft_begins : Nat → Int32) (p1_stopCount : Int32) (p1_metric : Int32) (p1_fixed : Int32) (p1_facts : Nat → Int32) (p1_roundsOf : Nat → Int32) (p1_rules : Nat → Int32) (p1_sizes : Nat → Int32) (p1_rows : Nat → Int32) (x2 : Int32) (x3 : Int32) (k4 : Int32 × Int32 × (Nat → Int32) × (Nat → Int32) × (Nat → Int32) × Int32 × Int32 × Int32 × Int32 × Int32 × Int32 × Int32 × Int32 × Int32 × Int32 × Int32 × Int32 × Int32 × Int32 × Int32 × Int32 × (Nat → Int32) × (Nat → Int32) × (Nat → Int32) → Option (Int32 × (Nat → Int32) × (Nat → Int32) × (Nat → Int32) × Int32 × Int32 × Int32 × Int32 × Int32 × Int32 × Int32 × Int32 × Int32 × Int32 × Int32 × Int32 × Int32 × Int32 × Int32 × Int32 × (Nat → Int32) × (Nat → Int32) × (Nat → Int32))) (hk4 : ∀ {H : Heap} {locs : List Loc} {ls : Array Slot} (x2' : Int32) (x3' : Int32) (t_draft_row' : Nat → Int32) (t_draft_comes' : Nat → Int32) (t_draft_begins' : Nat → Int32) (t_draft_round' : Int32) (t_draft_size' : Int32) (t_draft_back' : Int32) (t_draft_loads' : Int32) (t_draft_miles' : Int32) (t_draft_waits' : Int32) (t_draft_lateAt' : Int32) (t_round' : Int32) (t_place' : Int32) (t_adds' : Int32) (t_regret' : Int32) (t_chosen' : Int32) (t_chosenRound' : Int32) (t_chosenPlace' : Int32) (t_chosenAdds' : Int32) (t_chosenRegret' : Int32) (p1_roundsOf' : Nat → Int32) (p1_sizes' : Nat → Int32) (p1_rows' : Nat → Int32), k4 (x2', x3', t_draft_row', t_draft_comes', t_draft_begins', t_draft_round', t_draft_size', t_draft_back', t_draft_loads', t_draft_miles', t_draft_waits', t_draft_lateAt', t_round', t_place', t_adds', t_regret', t_chosen', t_chosenRound', t_chosenPlace', t_chosenAdds', t_chosenRegret', p1_roundsOf', p1_sizes', p1_rows') = some (r, z_t_draft_row, z_t_draft_comes, z_t_draft_begins, z_t_draft_round, z_t_draft_size, z_t_draft_back, z_t_draft_loads, z_t_draft_miles, z_t_draft_waits, z_t_draft_lateAt, z_t_round, z_t_place, z_t_adds, z_t_regret, z_t_chosen, z_t_chosenRound, z_t_chosenPlace, z_t_chosenAdds, z_t_chosenRegret, z_p1_roundsOf, z_p1_sizes, z_p1_rows) → St G A s.heap H locs (w_X1_fillAll G a_t a_t_draft a_t_draft_row a_t_draft_comes a_t_draft_begins a_t_draft_slacks a_p1 a_p1_facts a_p1_roundsOf a_p1_locked a_p1_rules a_p1_sizes a_p1_rows a_p1_seen a_p1_plan a_p1_book t_round' t_place' t_adds' t_regret' t_chosen' t_chosenRound' t_chosenPlace' t_chosenAdds' t_chosenRegret' t_draft_round' t_draft_size' t_draft_back' t_draft_loads' t_draft_miles' t_draft_waits' t_draft_lateAt' t_draft_later t_draft_row' t_draft_comes' t_draft_begins' p1_stopCount p1_metric p1_fixed p1_facts p1_roundsOf' p1_rules p1_sizes' p1_rows') → lv_has ls 5 [(0, .ref a_t), (1, .ref a_p1), (2, .int x2'), (3, .int x3')] → W p l e rm_X1_fillAll s m args below meth c H locs 0 0 (QI G below args s A r (w_X1_fillAll G a_t a_t_draft a_t_draft_row a_t_draft_comes a_t_draft_begins a_t_draft_slacks a_p1 a_p1_facts a_p1_roundsOf a_p1_locked a_p1_rules a_p1_sizes a_p1_rows a_p1_seen a_p1_plan a_p1_book z_t_round z_t_place z_t_adds z_t_regret z_t_chosen z_t_chosenRound z_t_chosenPlace z_t_chosenAdds z_t_chosenRegret z_t_draft_round z_t_draft_size z_t_draft_back z_t_draft_loads z_t_draft_miles z_t_draft_waits z_t_draft_lateAt t_draft_later z_t_draft_row z_t_draft_comes z_t_draft_begins p1_stopCount p1_metric p1_fixed p1_facts z_p1_roundsOf p1_rules z_p1_sizes z_p1_rows)) (F0 m 4 ls [])) {H : Heap} {locs : List Loc} {ls : Array Slot} (hf : b_X1_fillAll_4 p1_facts p1_rules p1_stopCount p1_metric p1_fixed k4 x2 x3 t_draft_row t_draft_comes t_draft_begins t_draft_round t_draft_size t_draft_back t_draft_loads t_draft_miles t_draft_waits t_draft_lateAt t_round t_place t_adds t_regret t_chosen t_chosenRound t_chosenPlace t_chosenAdds t_chosenRegret p1_roundsOf p1_sizes p1_rows = some (r, z_t_draft_row, z_t_draft_comes, z_t_draft_begins, z_t_draft_round, z_t_draft_size, z_t_draft_back, z_t_draft_loads, z_t_draft_miles, z_t_draft_waits, z_t_draft_lateAt, z_t_round, z_t_place, z_t_adds, z_t_regret, z_t_chosen, z_t_chosenRound, z_t_chosenPlace, z_t_chosenAdds, z_t_chosenRegret, z_p1_roundsOf, z_p1_sizes, z_p1_rows)) (S : St G A s.heap H locs (w_X1_fillAll G a_t a_t_draft a_t_draft_row a_t_draft_comes a_t_draft_begins a_t_draft_slacks a_p1 a_p1_facts a_p1_roundsOf a_p1_locked a_p1_rules a_p1_sizes a_p1_rows a_p1_seen a_p1_plan a_p1_book t_round t_place t_adds t_regret t_chosen t_chosenRound t_chosenPlace t_chosenAdds t_chosenRegret t_draft_round t_draft_size t_draft_back t_draft_loads t_draft_miles t_draft_waits t_draft_lateAt t_draft_later t_draft_row t_draft_comes t_draft_begins p1_stopCount p1_metric p1_fixed p1_facts p1_roundsOf p1_rules p1_sizes p1_rows)) (hl : lv_has ls 5 [(0, .ref a_t), (1, .ref a_p1), (2, .int x2), (3, .int x3)]) : W p l e rm_X1_fillAll s m args below meth c H locs 0 0 (QI G below args s A r (w_X1_fillAll G a_t a_t_draft a_t_draft_row a_t_draft_comes a_t_draft_begins a_t_draft_slacks a_p1 a_p1_facts a_p1_roundsOf a_p1_locked a_p1_rules a_p1_sizes a_p1_rows a_p1_seen a_p1_plan a_p1_book z_t_round z_t_place z_t_adds z_t_regret z_t_chosen z_t_chosenRound z_t_chosenPlace z_t_chosenAdds z_t_chosenRegret z_t_draft_round z_t_draft_size z_t_draft_back z_t_draft_loads z_t_draft_miles z_t_draft_waits z_t_draft_lateAt t_draft_later z_t_draft_row z_t_draft_comes z_t_draft_begins p1_stopCount p1_metric p1_fixed p1_facts z_p1_roundsOf p1_rules z_p1_sizes z_p1_rows)) (F0 m 4 ls []) := by
  unfold b_X1_fillAll_4 at hf
  have hx := C.1
  have hb := C.2.1
  have hown := C.2.2.2.2.1
  have hts := C.2.2.2.2.2.1
  have hN := C.2.2.2.2.2.2.2.2.2.2
  refine lv_iload_n (pc := 4) hx hb dX1_fillAll_4 rfl (lv_at hl 3 rfl) ?_
  refine lv_bipush (pc := 5) hx hb dX1_fillAll_5 bc_16 ?_
  refine lv_icmp_ge (tgt := 116) (pc := 7) hx hb dX1_fillAll_7 (by decide) (fun c1 => ?_) (fun c1 => ?_)
  · have hf := ifp c1 hf
    refine lv_iload_n (pc := 116) hx hb dX1_fillAll_116 rfl (lv_at hl 2 rfl) ?_
    cases hf
    exact x_iret (pc := 117) C S dX1_fillAll_117
  · have hf := ifn c1 hf
    refine lv_aload_n (pc := 10) hx hb dX1_fillAll_10 rfl (lv_at hl 0 rfl) ?_
    refine lv_bipush (pc := 11) hx hb dX1_fillAll_11 bc_m5 ?_
    refine x_put (pc := 13) (ci := 1) (T := TX1) (ws' := (w_X1_fillAll G a_t a_t_draft a_t_draft_row a_t_draft_comes a_t_draft_begins a_t_draft_slacks a_p1 a_p1_facts a_p1_roundsOf a_p1_locked a_p1_rules a_p1_sizes a_p1_rows a_p1_seen a_p1_plan a_p1_book t_round t_place t_adds t_regret (-5 : Int32) t_chosenRound t_chosenPlace t_chosenAdds t_chosenRegret t_draft_round t_draft_size t_draft_back t_draft_loads t_draft_miles t_draft_waits t_draft_lateAt t_draft_later t_draft_row t_draft_comes t_draft_begins p1_stopCount p1_metric p1_fixed p1_facts p1_roundsOf p1_rules p1_sizes p1_rows)) C S tyX1 tyX1_ok nmX1 0 rfl rfl inlX1 5 (by decide) rfl qf_1_60 rfl rfl rfl rfl (Nat.le_of_ble_eq_true rfl) rfl dX1_fillAll_13 (fun H locs S => ?_)
    refine lv_iconst (pc := 16) hx hb dX1_fillAll_16 ic_0 ?_
    refine lv_istore (pc := 17) (lv' := [(4, .int (0 : Int32)), (0, .ref a_t), (1, .ref a_p1), (2, .int x2), (3, .int x3)]) hx hb dX1_fillAll_17 hl (by decide) rfl (fun ls hl => ?_)
    exact h_X1_fillAll_19 C (t_draft_later) (p1_stopCount) (p1_metric) (p1_fixed) (p1_facts) (p1_roundsOf) (p1_rules) (p1_sizes) (p1_rows) (x2) (x3) k4 hk4 fu ((0 : Int32)) (t_draft_row) (t_draft_comes) (t_draft_begins) (t_draft_round) (t_draft_size) (t_draft_back) (t_draft_loads) (t_draft_miles) (t_draft_waits) (t_draft_lateAt) (t_round) (t_place) (t_adds) (t_regret) ((-5 : Int32)) (t_chosenRound) (t_chosenPlace) (t_chosenAdds) (t_chosenRegret) hf S (lv_sub hl [1, 2, 3, 4, 0] rfl)
set_option maxRecDepth 100000 in
set_option maxHeartbeats 4000000 in
theorem h_X1_fillAll_4 (C : Cx p s m args meth c cX1_fillAll (some .int) 5 RX1 G A) (t_draft_later : Int32) (p1_stopCount : Int32) (p1_metric : Int32) (p1_fixed : Int32) (p1_facts : Nat → Int32) (p1_rules : Nat → Int32) : ∀ (n : Nat) (x2 : Int32) (x3 : Int32) (t_draft_row : Nat → Int32) (t_draft_comes : Nat → Int32) (t_draft_begins : Nat → Int32) (t_draft_round : Int32) (t_draft_size : Int32) (t_draft_back : Int32) (t_draft_loads : Int32) (t_draft_miles : Int32) (t_draft_waits : Int32) (t_draft_lateAt : Int32) (t_round : Int32) (t_place : Int32) (t_adds : Int32) (t_regret : Int32) (t_chosen : Int32) (t_chosenRound : Int32) (t_chosenPlace : Int32) (t_chosenAdds : Int32) (t_chosenRegret : Int32) (p1_roundsOf : Nat → Int32) (p1_sizes : Nat → Int32) (p1_rows : Nat → Int32) {H : Heap} {locs : List Loc} {ls : Array Slot} (hf : lp (fun k x => b_X1_fillAll_4 p1_facts p1_rules p1_stopCount p1_metric p1_fixed k x.1 x.2.1 x.2.2.1 x.2.2.2.1 x.2.2.2.2.1 x.2.2.2.2.2.1 x.2.2.2.2.2.2.1 x.2.2.2.2.2.2.2.1 x.2.2.2.2.2.2.2.2.1 x.2.2.2.2.2.2.2.2.2.1 x.2.2.2.2.2.2.2.2.2.2.1 x.2.2.2.2.2.2.2.2.2.2.2.1 x.2.2.2.2.2.2.2.2.2.2.2.2.1 x.2.2.2.2.2.2.2.2.2.2.2.2.2.1 x.2.2.2.2.2.2.2.2.2.2.2.2.2.2.1 x.2.2.2.2.2.2.2.2.2.2.2.2.2.2.2.1 x.2.2.2.2.2.2.2.2.2.2.2.2.2.2.2.2.1 x.2.2.2.2.2.2.2.2.2.2.2.2.2.2.2.2.2.1 x.2.2.2.2.2.2.2.2.2.2.2.2.2.2.2.2.2.2.1 x.2.2.2.2.2.2.2.2.2.2.2.2.2.2.2.2.2.2.2.1 x.2.2.2.2.2.2.2.2.2.2.2.2.2.2.2.2.2.2.2.2.1 x.2.2.2.2.2.2.2.2.2.2.2.2.2.2.2.2.2.2.2.2.2.1 x.2.2.2.2.2.2.2.2.2.2.2.2.2.2.2.2.2.2.2.2.2.2.1 x.2.2.2.2.2.2.2.2.2.2.2.2.2.2.2.2.2.2.2.2.2.2.2) n (x2, x3, t_draft_row, t_draft_comes, t_draft_begins, t_draft_round, t_draft_size, t_draft_back, t_draft_loads, t_draft_miles, t_draft_waits, t_draft_lateAt, t_round, t_place, t_adds, t_regret, t_chosen, t_chosenRound, t_chosenPlace, t_chosenAdds, t_chosenRegret, p1_roundsOf, p1_sizes, p1_rows) = some (r, z_t_draft_row, z_t_draft_comes, z_t_draft_begins, z_t_draft_round, z_t_draft_size, z_t_draft_back, z_t_draft_loads, z_t_draft_miles, z_t_draft_waits, z_t_draft_lateAt, z_t_round, z_t_place, z_t_adds, z_t_regret, z_t_chosen, z_t_chosenRound, z_t_chosenPlace, z_t_chosenAdds, z_t_chosenRegret, z_p1_roundsOf, z_p1_sizes, z_p1_rows)) (S : St G A s.heap H locs (w_X1_fillAll G a_t a_t_draft a_t_draft_row a_t_draft_comes a_t_draft_begins a_t_draft_slacks a_p1 a_p1_facts a_p1_roundsOf a_p1_locked a_p1_rules a_p1_sizes a_p1_rows a_p1_seen a_p1_plan a_p1_book t_round t_place t_adds t_regret t_chosen t_chosenRound t_chosenPlace t_chosenAdds t_chosenRegret t_draft_round t_draft_size t_draft_back t_draft_loads t_draft_miles t_draft_waits t_draft_lateAt t_draft_later t_draft_row t_draft_comes t_draft_begins p1_stopCount p1_metric p1_fixed p1_facts p1_roundsOf p1_rules p1_sizes p1_rows)) (hl : lv_has ls 5 [(0, .ref a_t), (1, .ref a_p1), (2, .int x2), (3, .int x3)]), W p l e rm_X1_fillAll s m args below meth c H locs 0 0 (QI G below args s A r (w_X1_fillAll G a_t a_t_draft a_t_draft_row a_t_draft_comes a_t_draft_begins a_t_draft_slacks a_p1 a_p1_facts a_p1_roundsOf a_p1_locked a_p1_rules a_p1_sizes a_p1_rows a_p1_seen a_p1_plan a_p1_book z_t_round z_t_place z_t_adds z_t_regret z_t_chosen z_t_chosenRound z_t_chosenPlace z_t_chosenAdds z_t_chosenRegret z_t_draft_round z_t_draft_size z_t_draft_back z_t_draft_loads z_t_draft_miles z_t_draft_waits z_t_draft_lateAt t_draft_later z_t_draft_row z_t_draft_comes z_t_draft_begins p1_stopCount p1_metric p1_fixed p1_facts z_p1_roundsOf p1_rules z_p1_sizes z_p1_rows)) (F0 m 4 ls []) := by
  intro n
  induction n with
  | zero =>
    intro x2 x3 t_draft_row t_draft_comes t_draft_begins t_draft_round t_draft_size t_draft_back t_draft_loads t_draft_miles t_draft_waits t_draft_lateAt t_round t_place t_adds t_regret t_chosen t_chosenRound t_chosenPlace t_chosenAdds t_chosenRegret p1_roundsOf p1_sizes p1_rows  H locs ls hf
    cases hf
  | succ n ih =>
    intro x2 x3 t_draft_row t_draft_comes t_draft_begins t_draft_round t_draft_size t_draft_back t_draft_loads t_draft_miles t_draft_waits t_draft_lateAt t_round t_place t_adds t_regret t_chosen t_chosenRound t_chosenPlace t_chosenAdds t_chosenRegret p1_roundsOf p1_sizes p1_rows  H locs ls hf S hl
    have hf : b_X1_fillAll_4 p1_facts p1_rules p1_stopCount p1_metric p1_fixed (lp (fun k x => b_X1_fillAll_4 p1_facts p1_rules p1_stopCount p1_metric p1_fixed k x.1 x.2.1 x.2.2.1 x.2.2.2.1 x.2.2.2.2.1 x.2.2.2.2.2.1 x.2.2.2.2.2.2.1 x.2.2.2.2.2.2.2.1 x.2.2.2.2.2.2.2.2.1 x.2.2.2.2.2.2.2.2.2.1 x.2.2.2.2.2.2.2.2.2.2.1 x.2.2.2.2.2.2.2.2.2.2.2.1 x.2.2.2.2.2.2.2.2.2.2.2.2.1 x.2.2.2.2.2.2.2.2.2.2.2.2.2.1 x.2.2.2.2.2.2.2.2.2.2.2.2.2.2.1 x.2.2.2.2.2.2.2.2.2.2.2.2.2.2.2.1 x.2.2.2.2.2.2.2.2.2.2.2.2.2.2.2.2.1 x.2.2.2.2.2.2.2.2.2.2.2.2.2.2.2.2.2.1 x.2.2.2.2.2.2.2.2.2.2.2.2.2.2.2.2.2.2.1 x.2.2.2.2.2.2.2.2.2.2.2.2.2.2.2.2.2.2.2.1 x.2.2.2.2.2.2.2.2.2.2.2.2.2.2.2.2.2.2.2.2.1 x.2.2.2.2.2.2.2.2.2.2.2.2.2.2.2.2.2.2.2.2.2.1 x.2.2.2.2.2.2.2.2.2.2.2.2.2.2.2.2.2.2.2.2.2.2.1 x.2.2.2.2.2.2.2.2.2.2.2.2.2.2.2.2.2.2.2.2.2.2.2) n) x2 x3 t_draft_row t_draft_comes t_draft_begins t_draft_round t_draft_size t_draft_back t_draft_loads t_draft_miles t_draft_waits t_draft_lateAt t_round t_place t_adds t_regret t_chosen t_chosenRound t_chosenPlace t_chosenAdds t_chosenRegret p1_roundsOf p1_sizes p1_rows = some (r, z_t_draft_row, z_t_draft_comes, z_t_draft_begins, z_t_draft_round, z_t_draft_size, z_t_draft_back, z_t_draft_loads, z_t_draft_miles, z_t_draft_waits, z_t_draft_lateAt, z_t_round, z_t_place, z_t_adds, z_t_regret, z_t_chosen, z_t_chosenRound, z_t_chosenPlace, z_t_chosenAdds, z_t_chosenRegret, z_p1_roundsOf, z_p1_sizes, z_p1_rows) := hf
    exact k_X1_fillAll_4 C t_round t_place t_adds t_regret t_chosen t_chosenRound t_chosenPlace t_chosenAdds t_chosenRegret t_draft_round t_draft_size t_draft_back t_draft_loads t_draft_miles t_draft_waits t_draft_lateAt t_draft_later t_draft_row t_draft_comes t_draft_begins p1_stopCount p1_metric p1_fixed p1_facts p1_roundsOf p1_rules p1_sizes p1_rows x2 x3  (lp (fun k x => b_X1_fillAll_4 p1_facts p1_rules p1_stopCount p1_metric p1_fixed k x.1 x.2.1 x.2.2.1 x.2.2.2.1 x.2.2.2.2.1 x.2.2.2.2.2.1 x.2.2.2.2.2.2.1 x.2.2.2.2.2.2.2.1 x.2.2.2.2.2.2.2.2.1 x.2.2.2.2.2.2.2.2.2.1 x.2.2.2.2.2.2.2.2.2.2.1 x.2.2.2.2.2.2.2.2.2.2.2.1 x.2.2.2.2.2.2.2.2.2.2.2.2.1 x.2.2.2.2.2.2.2.2.2.2.2.2.2.1 x.2.2.2.2.2.2.2.2.2.2.2.2.2.2.1 x.2.2.2.2.2.2.2.2.2.2.2.2.2.2.2.1 x.2.2.2.2.2.2.2.2.2.2.2.2.2.2.2.2.1 x.2.2.2.2.2.2.2.2.2.2.2.2.2.2.2.2.2.1 x.2.2.2.2.2.2.2.2.2.2.2.2.2.2.2.2.2.2.1 x.2.2.2.2.2.2.2.2.2.2.2.2.2.2.2.2.2.2.2.1 x.2.2.2.2.2.2.2.2.2.2.2.2.2.2.2.2.2.2.2.2.1 x.2.2.2.2.2.2.2.2.2.2.2.2.2.2.2.2.2.2.2.2.2.1 x.2.2.2.2.2.2.2.2.2.2.2.2.2.2.2.2.2.2.2.2.2.2.1 x.2.2.2.2.2.2.2.2.2.2.2.2.2.2.2.2.2.2.2.2.2.2.2) n) (fun x2' x3' t_draft_row' t_draft_comes' t_draft_begins' t_draft_round' t_draft_size' t_draft_back' t_draft_loads' t_draft_miles' t_draft_waits' t_draft_lateAt' t_round' t_place' t_adds' t_regret' t_chosen' t_chosenRound' t_chosenPlace' t_chosenAdds' t_chosenRegret' p1_roundsOf' p1_sizes' p1_rows'  h S hl => ih x2' x3' t_draft_row' t_draft_comes' t_draft_begins' t_draft_round' t_draft_size' t_draft_back' t_draft_loads' t_draft_miles' t_draft_waits' t_draft_lateAt' t_round' t_place' t_adds' t_regret' t_chosen' t_chosenRound' t_chosenPlace' t_chosenAdds' t_chosenRegret' p1_roundsOf' p1_sizes' p1_rows'  h S hl) hf S hl
set_option maxRecDepth 100000 in
set_option maxHeartbeats 4000000 in
theorem c_X1_fillAll (l : Launch) (G : GE) (a_t a_t_draft a_t_draft_row a_t_draft_comes a_t_draft_begins a_t_draft_slacks a_p1 a_p1_facts a_p1_roundsOf a_p1_locked a_p1_rules a_p1_sizes a_p1_rows a_p1_seen a_p1_plan a_p1_book : Nat) (t_round : Int32) (t_place : Int32) (t_adds : Int32) (t_regret : Int32) (t_chosen : Int32) (t_chosenRound : Int32) (t_chosenPlace : Int32) (t_chosenAdds : Int32) (t_chosenRegret : Int32) (t_draft_round : Int32) (t_draft_size : Int32) (t_draft_back : Int32) (t_draft_loads : Int32) (t_draft_miles : Int32) (t_draft_waits : Int32) (t_draft_lateAt : Int32) (t_draft_later : Int32) (t_draft_row : Nat → Int32) (t_draft_comes : Nat → Int32) (t_draft_begins : Nat → Int32) (p1_stopCount : Int32) (p1_metric : Int32) (p1_fixed : Int32) (p1_facts : Nat → Int32) (p1_roundsOf : Nat → Int32) (p1_rules : Nat → Int32) (p1_sizes : Nat → Int32) (p1_rows : Nat → Int32) (r : Int32) (z_t_draft_row : Nat → Int32) (z_t_draft_comes : Nat → Int32) (z_t_draft_begins : Nat → Int32) (z_t_draft_round : Int32) (z_t_draft_size : Int32) (z_t_draft_back : Int32) (z_t_draft_loads : Int32) (z_t_draft_miles : Int32) (z_t_draft_waits : Int32) (z_t_draft_lateAt : Int32) (z_t_round : Int32) (z_t_place : Int32) (z_t_adds : Int32) (z_t_regret : Int32) (z_t_chosen : Int32) (z_t_chosenRound : Int32) (z_t_chosenPlace : Int32) (z_t_chosenAdds : Int32) (z_t_chosenRegret : Int32) (z_p1_roundsOf : Nat → Int32) (z_p1_sizes : Nat → Int32) (z_p1_rows : Nat → Int32) (hf : f_X1_fillAll t_draft_row t_draft_comes t_draft_begins t_draft_round t_draft_size t_draft_back t_draft_loads t_draft_miles t_draft_waits t_draft_lateAt t_round t_place t_adds t_regret t_chosen t_chosenRound t_chosenPlace t_chosenAdds t_chosenRegret p1_facts p1_roundsOf p1_rules p1_sizes p1_rows p1_stopCount p1_metric p1_fixed = some (r, z_t_draft_row, z_t_draft_comes, z_t_draft_begins, z_t_draft_round, z_t_draft_size, z_t_draft_back, z_t_draft_loads, z_t_draft_miles, z_t_draft_waits, z_t_draft_lateAt, z_t_round, z_t_place, z_t_adds, z_t_regret, z_t_chosen, z_t_chosenRound, z_t_chosenPlace, z_t_chosenAdds, z_t_chosenRegret, z_p1_roundsOf, z_p1_sizes, z_p1_rows)) : CI l G yX1_fillAll kw_X1_fillAll rm_X1_fillAll [.ref a_t, .ref a_p1] (w_X1_fillAll G a_t a_t_draft a_t_draft_row a_t_draft_comes a_t_draft_begins a_t_draft_slacks a_p1 a_p1_facts a_p1_roundsOf a_p1_locked a_p1_rules a_p1_sizes a_p1_rows a_p1_seen a_p1_plan a_p1_book t_round t_place t_adds t_regret t_chosen t_chosenRound t_chosenPlace t_chosenAdds t_chosenRegret t_draft_round t_draft_size t_draft_back t_draft_loads t_draft_miles t_draft_waits t_draft_lateAt t_draft_later t_draft_row t_draft_comes t_draft_begins p1_stopCount p1_metric p1_fixed p1_facts p1_roundsOf p1_rules p1_sizes p1_rows) r (w_X1_fillAll G a_t a_t_draft a_t_draft_row a_t_draft_comes a_t_draft_begins a_t_draft_slacks a_p1 a_p1_facts a_p1_roundsOf a_p1_locked a_p1_rules a_p1_sizes a_p1_rows a_p1_seen a_p1_plan a_p1_book z_t_round z_t_place z_t_adds z_t_regret z_t_chosen z_t_chosenRound z_t_chosenPlace z_t_chosenAdds z_t_chosenRegret z_t_draft_round z_t_draft_size z_t_draft_back z_t_draft_loads z_t_draft_miles z_t_draft_waits z_t_draft_lateAt t_draft_later z_t_draft_row z_t_draft_comes z_t_draft_begins p1_stopCount p1_metric p1_fixed p1_facts z_p1_roundsOf p1_rules z_p1_sizes z_p1_rows) := by
  refine en_I (cc := cX1_fillAll) (maxL := 5) (ret := (some .int)) (by decide +kernel) (Nat.le_of_ble_eq_true rfl) ?_
  intro p e s m args below meth c A ls C S hl
  have hl : lv_has ls 5 [(0, .ref a_t), (1, .ref a_p1)] := hl
  have C : Cx p s m args meth c cX1_fillAll (some .int) 5 RX1 G A := C
  unfold f_X1_fillAll at hf
  have hx := C.1
  have hb := C.2.1
  have hown := C.2.2.2.2.1
  have hts := C.2.2.2.2.2.1
  have hN := C.2.2.2.2.2.2.2.2.2.2
  refine lv_iconst (pc := 0) hx hb dX1_fillAll_0 ic_0 ?_
  refine lv_istore_n (pc := 1) (lv' := [(2, .int (0 : Int32)), (0, .ref a_t), (1, .ref a_p1)]) hx hb dX1_fillAll_1 rfl hl (by decide) rfl (fun ls hl => ?_)
  refine lv_iconst (pc := 2) hx hb dX1_fillAll_2 ic_0 ?_
  refine lv_istore_n (pc := 3) (lv' := [(3, .int (0 : Int32)), (2, .int (0 : Int32)), (0, .ref a_t), (1, .ref a_p1)]) hx hb dX1_fillAll_3 rfl hl (by decide) rfl (fun ls hl => ?_)
  exact h_X1_fillAll_4 C (t_draft_later) (p1_stopCount) (p1_metric) (p1_fixed) (p1_facts) (p1_rules) fu ((0 : Int32)) ((0 : Int32)) (t_draft_row) (t_draft_comes) (t_draft_begins) (t_draft_round) (t_draft_size) (t_draft_back) (t_draft_loads) (t_draft_miles) (t_draft_waits) (t_draft_lateAt) (t_round) (t_place) (t_adds) (t_regret) (t_chosen) (t_chosenRound) (t_chosenPlace) (t_chosenAdds) (t_chosenRegret) (p1_roundsOf) (p1_sizes) (p1_rows) hf S (lv_sub hl [2, 3, 1, 0] rfl)
end

abbrev rm_X2_turnGain : Room := { frames := 2, cells := 0, slots := 0, locals := 50 }
abbrev kw_X2_turnGain : Cond := .code yX2_turnGain cX2_turnGain 9 (some .int)
abbrev w_X2_turnGain (G : GE) (a_t a_t_one a_t_other a_p1 a_p1_facts a_p1_roundsOf a_p1_locked a_p1_rules a_p1_sizes a_p1_rows a_p1_seen a_p1_plan a_p1_book : Nat) (t_isOfTwo : Int32) (t_kind : Int32) (t_gain : Int32) (t_a : Int32) (t_b : Int32) (t_c : Int32) (p1_stopCount : Int32) (p1_metric : Int32) (p1_fixed : Int32) (p1_facts : Nat → Int32) (p1_sizes : Nat → Int32) (p1_rows : Nat → Int32) : va_W := [(a_t, ob 2 [.ref a_t_one, .ref a_t_other, .int t_isOfTwo, .int t_kind, .int t_gain, .int t_a, .int t_b, .int t_c]), (a_p1, ob 6 [.ref a_p1_facts, .ref a_p1_roundsOf, .ref a_p1_locked, .ref a_p1_rules, .ref a_p1_sizes, .ref a_p1_rows, .ref a_p1_seen, .ref a_p1_plan, .ref a_p1_book, .int p1_stopCount, .int p1_metric, .int p1_fixed]), (a_p1_facts, aI G 102 p1_facts), (a_p1_sizes, aI G 4 p1_sizes), (a_p1_rows, aI G 64 p1_rows)]
theorem u_X2_turnGain_X6_rowAt_99 {s : State} {args : Array Value} (hts : ∀ w ∈ WU, w.before args s = true) : CallW rm_X2_turnGain s args RX2 RX6 99 yX6_rowAt cX6_rowAt 4 (some .int) (kw_X6_rowAt :: WU) rm_X6_rowAt 0 0 2 := cwV 2 hts (gV qm_2_99 qi_X6_rowAt ql_X6_rowAt qn_6 qc_X6_rowAt) rfl rfl rfl (by decide +kernel) ⟨Nat.le_of_ble_eq_true rfl, Nat.le_of_ble_eq_true rfl⟩
theorem u_X2_turnGain_X6_way_103 {s : State} {args : Array Value} (hts : ∀ w ∈ WU, w.before args s = true) : CallW rm_X2_turnGain s args RX2 RX6 103 yX6_way cX6_way 3 (some .int) (kw_X6_way :: WU) rm_X6_way 0 0 2 := cwV 2 hts (gV qm_2_103 qi_X6_way ql_X6_way qn_6 qc_X6_way) rfl rfl rfl (by decide +kernel) ⟨Nat.le_of_ble_eq_true rfl, Nat.le_of_ble_eq_true rfl⟩
section
variable {p : Program} {l : Launch} {e : Env} {s : State} {m : MethodId} {args : Array Value} {below : List Frame} {meth : Method} {c : Code} {A : Nat → Prop} {G : GE} {a_t a_t_one a_t_other a_p1 a_p1_facts a_p1_roundsOf a_p1_locked a_p1_rules a_p1_sizes a_p1_rows a_p1_seen a_p1_plan a_p1_book : Nat} {r : Int32}
set_option maxRecDepth 100000 in
set_option maxHeartbeats 4000000 in
theorem c_X2_turnGain (l : Launch) (G : GE) (a_t a_t_one a_t_other a_p1 a_p1_facts a_p1_roundsOf a_p1_locked a_p1_rules a_p1_sizes a_p1_rows a_p1_seen a_p1_plan a_p1_book : Nat) (t_isOfTwo : Int32) (t_kind : Int32) (t_gain : Int32) (t_a : Int32) (t_b : Int32) (t_c : Int32) (p1_stopCount : Int32) (p1_metric : Int32) (p1_fixed : Int32) (p1_facts : Nat → Int32) (p1_sizes : Nat → Int32) (p1_rows : Nat → Int32) (x2 : Int32) (x3 : Int32) (x4 : Int32) (r : Int32) (hf : f_X2_turnGain p1_facts p1_sizes p1_rows p1_metric x2 x3 x4 = some r) : CI l G yX2_turnGain kw_X2_turnGain rm_X2_turnGain [.ref a_t, .ref a_p1, .int x2, .int x3, .int x4] (w_X2_turnGain G a_t a_t_one a_t_other a_p1 a_p1_facts a_p1_roundsOf a_p1_locked a_p1_rules a_p1_sizes a_p1_rows a_p1_seen a_p1_plan a_p1_book t_isOfTwo t_kind t_gain t_a t_b t_c p1_stopCount p1_metric p1_fixed p1_facts p1_sizes p1_rows) r (w_X2_turnGain G a_t a_t_one a_t_other a_p1 a_p1_facts a_p1_roundsOf a_p1_locked a_p1_rules a_p1_sizes a_p1_rows a_p1_seen a_p1_plan a_p1_book t_isOfTwo t_kind t_gain t_a t_b t_c p1_stopCount p1_metric p1_fixed p1_facts p1_sizes p1_rows) := by
  refine en_I (cc := cX2_turnGain) (maxL := 9) (ret := (some .int)) (by decide +kernel) (Nat.le_of_ble_eq_true rfl) ?_
  intro p e s m args below meth c A ls C S hl
  have hl : lv_has ls 9 [(0, .ref a_t), (1, .ref a_p1), (2, .int x2), (3, .int x3), (4, .int x4)] := hl
  have C : Cx p s m args meth c cX2_turnGain (some .int) 9 RX2 G A := C
  unfold f_X2_turnGain at hf
  have hx := C.1
  have hb := C.2.1
  have hown := C.2.2.2.2.1
  have hts := C.2.2.2.2.2.1
  have hN := C.2.2.2.2.2.2.2.2.2.2
  refine lv_aload_n (pc := 0) hx hb dX2_turnGain_0 rfl (lv_at hl 1 rfl) ?_
  refine lv_iload_n (pc := 1) hx hb dX2_turnGain_1 rfl (lv_at hl 2 rfl) ?_
  refine lv_iload_n (pc := 2) hx hb dX2_turnGain_2 rfl (lv_at hl 3 rfl) ?_
  refine lv_iconst (pc := 3) hx hb dX2_turnGain_3 ic_1 ?_
  refine lv_isub (pc := 4) hx hb dX2_turnGain_4 ?_
  obtain ⟨r1, hq1, hf⟩ := bd_e hf
  refine x_vI (pc := 5) (As := [.int x2, .int (x3 - (1 : Int32))]) (rest := []) (isC := [1, 3, 4]) (ws' := (w_X2_turnGain G a_t a_t_one a_t_other a_p1 a_p1_facts a_p1_roundsOf a_p1_locked a_p1_rules a_p1_sizes a_p1_rows a_p1_seen a_p1_plan a_p1_book t_isOfTwo t_kind t_gain t_a t_b t_c p1_stopCount p1_metric p1_fixed p1_facts p1_sizes p1_rows)) C S (c_X6_rowAt l G a_p1 a_p1_facts a_p1_roundsOf a_p1_locked a_p1_rules a_p1_sizes a_p1_rows a_p1_seen a_p1_plan a_p1_book p1_stopCount p1_metric p1_fixed p1_sizes p1_rows x2 (x3 - (1 : Int32)) r1 hq1) (u_X2_turnGain_X6_rowAt_99 hts) (ci := 6) rfl 1 rfl rfl (by decide +kernel) [none, some 0, none, some 1, some 2] (by decide +kernel) rfl rfl rfl hl.1 rfl (Nat.le_of_ble_eq_true rfl) dX2_turnGain_5 (fun H locs S => ?_)
  refine lv_istore (pc := 8) (lv' := [(5, .int r1), (0, .ref a_t), (1, .ref a_p1), (2, .int x2), (3, .int x3), (4, .int x4)]) hx hb dX2_turnGain_8 hl (by decide) rfl (fun ls hl => ?_)
  refine lv_aload_n (pc := 10) hx hb dX2_turnGain_10 rfl (lv_at hl 2 rfl) ?_
  refine lv_iload_n (pc := 11) hx hb dX2_turnGain_11 rfl (lv_at hl 3 rfl) ?_
  refine lv_iload_n (pc := 12) hx hb dX2_turnGain_12 rfl (lv_at hl 4 rfl) ?_
  obtain ⟨r2, hq2, hf⟩ := bd_e hf
  refine x_vI (pc := 13) (As := [.int x2, .int x3]) (rest := []) (isC := [1, 3, 4]) (ws' := (w_X2_turnGain G a_t a_t_one a_t_other a_p1 a_p1_facts a_p1_roundsOf a_p1_locked a_p1_rules a_p1_sizes a_p1_rows a_p1_seen a_p1_plan a_p1_book t_isOfTwo t_kind t_gain t_a t_b t_c p1_stopCount p1_metric p1_fixed p1_facts p1_sizes p1_rows)) C S (c_X6_rowAt l G a_p1 a_p1_facts a_p1_roundsOf a_p1_locked a_p1_rules a_p1_sizes a_p1_rows a_p1_seen a_p1_plan a_p1_book p1_stopCount p1_metric p1_fixed p1_sizes p1_rows x2 x3 r2 hq2) (u_X2_turnGain_X6_rowAt_99 hts) (ci := 6) rfl 1 rfl rfl (by decide +kernel) [none, some 0, none, some 1, some 2] (by decide +kernel) rfl rfl rfl hl.1 rfl (Nat.le_of_ble_eq_true rfl) dX2_turnGain_13 (fun H locs S => ?_)
  refine lv_istore (pc := 16) (lv' := [(6, .int r2), (5, .int r1), (0, .ref a_t), (1, .ref a_p1), (2, .int x2), (3, .int x3), (4, .int x4)]) hx hb dX2_turnGain_16 hl (by decide) rfl (fun ls hl => ?_)
  refine lv_aload_n (pc := 18) hx hb dX2_turnGain_18 rfl (lv_at hl 3 rfl) ?_
  refine lv_iload_n (pc := 19) hx hb dX2_turnGain_19 rfl (lv_at hl 4 rfl) ?_
  refine lv_iload (pc := 20) hx hb dX2_turnGain_20 (lv_at hl 6 rfl) ?_
  obtain ⟨r3, hq3, hf⟩ := bd_e hf
  refine x_vI (pc := 22) (As := [.int x2, .int x4]) (rest := []) (isC := [1, 3, 4]) (ws' := (w_X2_turnGain G a_t a_t_one a_t_other a_p1 a_p1_facts a_p1_roundsOf a_p1_locked a_p1_rules a_p1_sizes a_p1_rows a_p1_seen a_p1_plan a_p1_book t_isOfTwo t_kind t_gain t_a t_b t_c p1_stopCount p1_metric p1_fixed p1_facts p1_sizes p1_rows)) C S (c_X6_rowAt l G a_p1 a_p1_facts a_p1_roundsOf a_p1_locked a_p1_rules a_p1_sizes a_p1_rows a_p1_seen a_p1_plan a_p1_book p1_stopCount p1_metric p1_fixed p1_sizes p1_rows x2 x4 r3 hq3) (u_X2_turnGain_X6_rowAt_99 hts) (ci := 6) rfl 1 rfl rfl (by decide +kernel) [none, some 0, none, some 1, some 2] (by decide +kernel) rfl rfl rfl hl.1 rfl (Nat.le_of_ble_eq_true rfl) dX2_turnGain_22 (fun H locs S => ?_)
  refine lv_istore (pc := 25) (lv' := [(7, .int r3), (6, .int r2), (5, .int r1), (0, .ref a_t), (1, .ref a_p1), (2, .int x2), (3, .int x3), (4, .int x4)]) hx hb dX2_turnGain_25 hl (by decide) rfl (fun ls hl => ?_)
  refine lv_aload_n (pc := 27) hx hb dX2_turnGain_27 rfl (lv_at hl 4 rfl) ?_
  refine lv_iload_n (pc := 28) hx hb dX2_turnGain_28 rfl (lv_at hl 5 rfl) ?_
  refine lv_iload (pc := 29) hx hb dX2_turnGain_29 (lv_at hl 7 rfl) ?_
  refine lv_iconst (pc := 31) hx hb dX2_turnGain_31 ic_1 ?_
  refine lv_iadd (pc := 32) hx hb dX2_turnGain_32 ?_
  obtain ⟨r4, hq4, hf⟩ := bd_e hf
  refine x_vI (pc := 33) (As := [.int x2, .int (x4 + (1 : Int32))]) (rest := []) (isC := [1, 3, 4]) (ws' := (w_X2_turnGain G a_t a_t_one a_t_other a_p1 a_p1_facts a_p1_roundsOf a_p1_locked a_p1_rules a_p1_sizes a_p1_rows a_p1_seen a_p1_plan a_p1_book t_isOfTwo t_kind t_gain t_a t_b t_c p1_stopCount p1_metric p1_fixed p1_facts p1_sizes p1_rows)) C S (c_X6_rowAt l G a_p1 a_p1_facts a_p1_roundsOf a_p1_locked a_p1_rules a_p1_sizes a_p1_rows a_p1_seen a_p1_plan a_p1_book p1_stopCount p1_metric p1_fixed p1_sizes p1_rows x2 (x4 + (1 : Int32)) r4 hq4) (u_X2_turnGain_X6_rowAt_99 hts) (ci := 6) rfl 1 rfl rfl (by decide +kernel) [none, some 0, none, some 1, some 2] (by decide +kernel) rfl rfl rfl hl.1 rfl (Nat.le_of_ble_eq_true rfl) dX2_turnGain_33 (fun H locs S => ?_)
  refine lv_istore (pc := 36) (lv' := [(8, .int r4), (7, .int r3), (6, .int r2), (5, .int r1), (0, .ref a_t), (1, .ref a_p1), (2, .int x2), (3, .int x3), (4, .int x4)]) hx hb dX2_turnGain_36 hl (by decide) rfl (fun ls hl => ?_)
  refine lv_aload_n (pc := 38) hx hb dX2_turnGain_38 rfl (lv_at hl 5 rfl) ?_
  refine lv_iload (pc := 39) hx hb dX2_turnGain_39 (lv_at hl 3 rfl) ?_
  refine lv_iload (pc := 41) hx hb dX2_turnGain_41 (lv_at hl 2 rfl) ?_
  obtain ⟨r5, hq5, hf⟩ := bd_e hf
  refine x_vI (pc := 43) (As := [.int r1, .int r2]) (rest := []) (isC := [1, 2]) (ws' := (w_X2_turnGain G a_t a_t_one a_t_other a_p1 a_p1_facts a_p1_roundsOf a_p1_locked a_p1_rules a_p1_sizes a_p1_rows a_p1_seen a_p1_plan a_p1_book t_isOfTwo t_kind t_gain t_a t_b t_c p1_stopCount p1_metric p1_fixed p1_facts p1_sizes p1_rows)) C S (c_X6_way l G a_p1 a_p1_facts a_p1_roundsOf a_p1_locked a_p1_rules a_p1_sizes a_p1_rows a_p1_seen a_p1_plan a_p1_book p1_stopCount p1_metric p1_fixed p1_facts r1 r2 r5 hq5) (u_X2_turnGain_X6_way_103 hts) (ci := 6) rfl 1 rfl rfl (by decide +kernel) [none, some 0, some 1, none, none] (by decide +kernel) rfl rfl rfl hl.1 rfl (Nat.le_of_ble_eq_true rfl) dX2_turnGain_43 (fun H locs S => ?_)
  refine lv_aload_n (pc := 46) hx hb dX2_turnGain_46 rfl (lv_at hl 5 rfl) ?_
  refine lv_iload (pc := 47) hx hb dX2_turnGain_47 (lv_at hl 1 rfl) ?_
  refine lv_iload (pc := 49) hx hb dX2_turnGain_49 (lv_at hl 0 rfl) ?_
  obtain ⟨r6, hq6, hf⟩ := bd_e hf
  refine x_vI (pc := 51) (As := [.int r3, .int r4]) (rest := [.int r5]) (isC := [1, 2]) (ws' := (w_X2_turnGain G a_t a_t_one a_t_other a_p1 a_p1_facts a_p1_roundsOf a_p1_locked a_p1_rules a_p1_sizes a_p1_rows a_p1_seen a_p1_plan a_p1_book t_isOfTwo t_kind t_gain t_a t_b t_c p1_stopCount p1_metric p1_fixed p1_facts p1_sizes p1_rows)) C S (c_X6_way l G a_p1 a_p1_facts a_p1_roundsOf a_p1_locked a_p1_rules a_p1_sizes a_p1_rows a_p1_seen a_p1_plan a_p1_book p1_stopCount p1_metric p1_fixed p1_facts r3 r4 r6 hq6) (u_X2_turnGain_X6_way_103 hts) (ci := 6) rfl 1 rfl rfl (by decide +kernel) [none, some 0, some 1, none, none] (by decide +kernel) rfl rfl rfl hl.1 rfl (Nat.le_of_ble_eq_true rfl) dX2_turnGain_51 (fun H locs S => ?_)
  refine lv_iadd (pc := 54) hx hb dX2_turnGain_54 ?_
  refine lv_aload_n (pc := 55) hx hb dX2_turnGain_55 rfl (lv_at hl 5 rfl) ?_
  refine lv_iload (pc := 56) hx hb dX2_turnGain_56 (lv_at hl 3 rfl) ?_
  refine lv_iload (pc := 58) hx hb dX2_turnGain_58 (lv_at hl 1 rfl) ?_
  obtain ⟨r7, hq7, hf⟩ := bd_e hf
  refine x_vI (pc := 60) (As := [.int r1, .int r3]) (rest := [.int (r5 + r6)]) (isC := [1, 2]) (ws' := (w_X2_turnGain G a_t a_t_one a_t_other a_p1 a_p1_facts a_p1_roundsOf a_p1_locked a_p1_rules a_p1_sizes a_p1_rows a_p1_seen a_p1_plan a_p1_book t_isOfTwo t_kind t_gain t_a t_b t_c p1_stopCount p1_metric p1_fixed p1_facts p1_sizes p1_rows)) C S (c_X6_way l G a_p1 a_p1_facts a_p1_roundsOf a_p1_locked a_p1_rules a_p1_sizes a_p1_rows a_p1_seen a_p1_plan a_p1_book p1_stopCount p1_metric p1_fixed p1_facts r1 r3 r7 hq7) (u_X2_turnGain_X6_way_103 hts) (ci := 6) rfl 1 rfl rfl (by decide +kernel) [none, some 0, some 1, none, none] (by decide +kernel) rfl rfl rfl hl.1 rfl (Nat.le_of_ble_eq_true rfl) dX2_turnGain_60 (fun H locs S => ?_)
  refine lv_isub (pc := 63) hx hb dX2_turnGain_63 ?_
  refine lv_aload_n (pc := 64) hx hb dX2_turnGain_64 rfl (lv_at hl 5 rfl) ?_
  refine lv_iload (pc := 65) hx hb dX2_turnGain_65 (lv_at hl 2 rfl) ?_
  refine lv_iload (pc := 67) hx hb dX2_turnGain_67 (lv_at hl 0 rfl) ?_
  obtain ⟨r8, hq8, hf⟩ := bd_e hf
  refine x_vI (pc := 69) (As := [.int r2, .int r4]) (rest := [.int ((r5 + r6) - r7)]) (isC := [1, 2]) (ws' := (w_X2_turnGain G a_t a_t_one a_t_other a_p1 a_p1_facts a_p1_roundsOf a_p1_locked a_p1_rules a_p1_sizes a_p1_rows a_p1_seen a_p1_plan a_p1_book t_isOfTwo t_kind t_gain t_a t_b t_c p1_stopCount p1_metric p1_fixed p1_facts p1_sizes p1_rows)) C S (c_X6_way l G a_p1 a_p1_facts a_p1_roundsOf a_p1_locked a_p1_rules a_p1_sizes a_p1_rows a_p1_seen a_p1_plan a_p1_book p1_stopCount p1_metric p1_fixed p1_facts r2 r4 r8 hq8) (u_X2_turnGain_X6_way_103 hts) (ci := 6) rfl 1 rfl rfl (by decide +kernel) [none, some 0, some 1, none, none] (by decide +kernel) rfl rfl rfl hl.1 rfl (Nat.le_of_ble_eq_true rfl) dX2_turnGain_69 (fun H locs S => ?_)
  refine lv_isub (pc := 72) hx hb dX2_turnGain_72 ?_
  cases hf
  exact x_iret (pc := 73) C S dX2_turnGain_73
end
