abbrev rm_X6_sizeOf : Room := { frames := 0, cells := 0, slots := 0, locals := 0 }
abbrev kw_X6_sizeOf : Cond := .code yX6_sizeOf cX6_sizeOf 2 (some .int)
abbrev w_X6_sizeOf (G : GE) (a_t a_t_facts a_t_roundsOf a_t_locked a_t_rules a_t_sizes a_t_rows a_t_seen a_t_plan a_t_book : Nat) (t_stopCount : Int32) (t_metric : Int32) (t_fixed : Int32) (t_sizes : Nat → Int32) : va_W := [(a_t, ob 6 [.ref a_t_facts, .ref a_t_roundsOf, .ref a_t_locked, .ref a_t_rules, .ref a_t_sizes, .ref a_t_rows, .ref a_t_seen, .ref a_t_plan, .ref a_t_book, .int t_stopCount, .int t_metric, .int t_fixed]), (a_t_sizes, aI G 4 t_sizes)]
section
variable {p : Program} {l : Launch} {e : Env} {s : State} {m : MethodId} {args : Array Value} {below : List Frame} {meth : Method} {c : Code} {A : Nat → Prop} {G : GE} {a_t a_t_facts a_t_roundsOf a_t_locked a_t_rules a_t_sizes a_t_rows a_t_seen a_t_plan a_t_book : Nat} {r : Int32}
set_option maxRecDepth 100000 in
set_option maxHeartbeats 4000000 in
theorem c_X6_sizeOf (l : Launch) (G : GE) (a_t a_t_facts a_t_roundsOf a_t_locked a_t_rules a_t_sizes a_t_rows a_t_seen a_t_plan a_t_book : Nat) (t_stopCount : Int32) (t_metric : Int32) (t_fixed : Int32) (t_sizes : Nat → Int32) (x1 : Int32) (r : Int32) (hf : f_X6_sizeOf t_sizes x1 = some r) : CI l G yX6_sizeOf kw_X6_sizeOf rm_X6_sizeOf [.ref a_t, .int x1] (w_X6_sizeOf G a_t a_t_facts a_t_roundsOf a_t_locked a_t_rules a_t_sizes a_t_rows a_t_seen a_t_plan a_t_book t_stopCount t_metric t_fixed t_sizes) r (w_X6_sizeOf G a_t a_t_facts a_t_roundsOf a_t_locked a_t_rules a_t_sizes a_t_rows a_t_seen a_t_plan a_t_book t_stopCount t_metric t_fixed t_sizes) := by
  refine en_I (cc := cX6_sizeOf) (maxL := 2) (ret := (some .int)) (by decide +kernel) (Nat.le_of_ble_eq_true rfl) ?_
  intro p e s m args below meth c A ls C S hl
  have hl : lv_has ls 2 [(0, .ref a_t), (1, .int x1)] := hl
  have C : Cx p s m args meth c cX6_sizeOf (some .int) 2 RX6 G A := C
  unfold f_X6_sizeOf at hf
  have hx := C.1
  have hb := C.2.1
  have hown := C.2.2.2.2.1
  have hts := C.2.2.2.2.2.1
  have hN := C.2.2.2.2.2.2.2.2.2.2
  refine lv_iload_n (pc := 0) hx hb dX6_sizeOf_0 rfl (lv_at hl 1 rfl) ?_
  refine lv_if_lt (tgt := 22) (pc := 1) hx hb dX6_sizeOf_1 (by decide) (fun c1 => ?_) (fun c1 => ?_)
  · have hf := ifp c1 hf
    refine lv_iconst (pc := 22) hx hb dX6_sizeOf_22 ic_0 ?_
    cases hf
    exact x_iret (pc := 23) C S dX6_sizeOf_23
  · have hf := ifn c1 hf
    refine lv_iload_n (pc := 4) hx hb dX6_sizeOf_4 rfl (lv_at hl 1 rfl) ?_
    refine lv_aload_n (pc := 5) hx hb dX6_sizeOf_5 rfl (lv_at hl 0 rfl) ?_
    refine x_get (pc := 6) (ci := 6) (T := TX6) (v := .ref a_t_sizes) C S 0 rfl rfl inlX6 4 (by decide) rfl qf_6_25 rfl dX6_sizeOf_6 ?_
    refine x_lenI (pc := 9) C S 1 rfl nc_4 dX6_sizeOf_9 ?_
    refine lv_icmp_ge (tgt := 22) (pc := 10) hx hb dX6_sizeOf_10 (by decide) (fun c2 => ?_) (fun c2 => ?_)
    · have hf := ifp c2 hf
      refine lv_iconst (pc := 22) hx hb dX6_sizeOf_22 ic_0 ?_
      cases hf
      exact x_iret (pc := 23) C S dX6_sizeOf_23
    · have hf := ifn c2 hf
      refine lv_aload_n (pc := 13) hx hb dX6_sizeOf_13 rfl (lv_at hl 0 rfl) ?_
      refine x_get (pc := 14) (ci := 6) (T := TX6) (v := .ref a_t_sizes) C S 0 rfl rfl inlX6 4 (by decide) rfl qf_6_25 rfl dX6_sizeOf_14 ?_
      refine lv_iload_n (pc := 17) hx hb dX6_sizeOf_17 rfl (lv_at hl 1 rfl) ?_
      obtain ⟨hv3, hf⟩ := gI_e hf
      refine x_iald (pc := 18) C S 1 rfl hv3 dX6_sizeOf_18 ?_
      refine lv_goto (tgt := 23) (pc := 19) hx hb dX6_sizeOf_19 (by decide) ?_
      cases hf
      exact x_iret (pc := 23) C S dX6_sizeOf_23
end
abbrev rm_X6_rowAt : Room := { frames := 1, cells := 0, slots := 0, locals := 21 }
abbrev kw_X6_rowAt : Cond := .code yX6_rowAt cX6_rowAt 4 (some .int)
abbrev w_X6_rowAt (G : GE) (a_t a_t_facts a_t_roundsOf a_t_locked a_t_rules a_t_sizes a_t_rows a_t_seen a_t_plan a_t_book : Nat) (t_stopCount : Int32) (t_metric : Int32) (t_fixed : Int32) (t_sizes : Nat → Int32) (t_rows : Nat → Int32) : va_W := [(a_t, ob 6 [.ref a_t_facts, .ref a_t_roundsOf, .ref a_t_locked, .ref a_t_rules, .ref a_t_sizes, .ref a_t_rows, .ref a_t_seen, .ref a_t_plan, .ref a_t_book, .int t_stopCount, .int t_metric, .int t_fixed]), (a_t_sizes, aI G 4 t_sizes), (a_t_rows, aI G 64 t_rows)]
theorem u_X6_rowAt_X6_sizeOf_96 {s : State} {args : Array Value} (hts : ∀ w ∈ WU, w.before args s = true) : CallW rm_X6_rowAt s args RX6 RX6 96 yX6_sizeOf cX6_sizeOf 2 (some .int) (kw_X6_sizeOf :: WU) rm_X6_sizeOf 0 0 1 := cwV 1 hts (gV qm_6_96 qi_X6_sizeOf ql_X6_sizeOf qn_6 qc_X6_sizeOf) rfl rfl rfl (by decide +kernel) ⟨Nat.le_of_ble_eq_true rfl, Nat.le_of_ble_eq_true rfl⟩
section
variable {p : Program} {l : Launch} {e : Env} {s : State} {m : MethodId} {args : Array Value} {below : List Frame} {meth : Method} {c : Code} {A : Nat → Prop} {G : GE} {a_t a_t_facts a_t_roundsOf a_t_locked a_t_rules a_t_sizes a_t_rows a_t_seen a_t_plan a_t_book : Nat} {r : Int32}
set_option maxRecDepth 100000 in
set_option maxHeartbeats 4000000 in
theorem c_X6_rowAt (l : Launch) (G : GE) (a_t a_t_facts a_t_roundsOf a_t_locked a_t_rules a_t_sizes a_t_rows a_t_seen a_t_plan a_t_book : Nat) (t_stopCount : Int32) (t_metric : Int32) (t_fixed : Int32) (t_sizes : Nat → Int32) (t_rows : Nat → Int32) (x1 : Int32) (x2 : Int32) (r : Int32) (hf : f_X6_rowAt t_sizes t_rows x1 x2 = some r) : CI l G yX6_rowAt kw_X6_rowAt rm_X6_rowAt [.ref a_t, .int x1, .int x2] (w_X6_rowAt G a_t a_t_facts a_t_roundsOf a_t_locked a_t_rules a_t_sizes a_t_rows a_t_seen a_t_plan a_t_book t_stopCount t_metric t_fixed t_sizes t_rows) r (w_X6_rowAt G a_t a_t_facts a_t_roundsOf a_t_locked a_t_rules a_t_sizes a_t_rows a_t_seen a_t_plan a_t_book t_stopCount t_metric t_fixed t_sizes t_rows) := by
  refine en_I (cc := cX6_rowAt) (maxL := 4) (ret := (some .int)) (by decide +kernel) (Nat.le_of_ble_eq_true rfl) ?_
  intro p e s m args below meth c A ls C S hl
  have hl : lv_has ls 4 [(0, .ref a_t), (1, .int x1), (2, .int x2)] := hl
  have C : Cx p s m args meth c cX6_rowAt (some .int) 4 RX6 G A := C
  unfold f_X6_rowAt at hf
  have hx := C.1
  have hb := C.2.1
  have hown := C.2.2.2.2.1
  have hts := C.2.2.2.2.2.1
  have hN := C.2.2.2.2.2.2.2.2.2.2
  refine lv_iload_n (pc := 0) hx hb dX6_rowAt_0 rfl (lv_at hl 1 rfl) ?_
  refine lv_bipush (pc := 1) hx hb dX6_rowAt_1 bc_16 ?_
  refine lv_imul (pc := 3) hx hb dX6_rowAt_3 ?_
  refine lv_iload_n (pc := 4) hx hb dX6_rowAt_4 rfl (lv_at hl 2 rfl) ?_
  refine lv_iadd (pc := 5) hx hb dX6_rowAt_5 ?_
  refine lv_istore_n (pc := 6) (lv' := [(3, .int ((x1 * (16 : Int32)) + x2)), (0, .ref a_t), (1, .int x1), (2, .int x2)]) hx hb dX6_rowAt_6 rfl hl (by decide) rfl (fun ls hl => ?_)
  refine lv_iload_n (pc := 7) hx hb dX6_rowAt_7 rfl (lv_at hl 3 rfl) ?_
  refine lv_if_lt (tgt := 42) (pc := 8) hx hb dX6_rowAt_8 (by decide) (fun c1 => ?_) (fun c1 => ?_)
  · have hf := ifp c1 hf
    refine lv_bipush (pc := 42) hx hb dX6_rowAt_42 bc_16 ?_
    cases hf
    exact x_iret (pc := 44) C S dX6_rowAt_44
  · have hf := ifn c1 hf
    refine lv_iload_n (pc := 11) hx hb dX6_rowAt_11 rfl (lv_at hl 3 rfl) ?_
    refine lv_aload_n (pc := 12) hx hb dX6_rowAt_12 rfl (lv_at hl 1 rfl) ?_
    refine lv_iload_n (pc := 13) hx hb dX6_rowAt_13 rfl (lv_at hl 2 rfl) ?_
    obtain ⟨r2, hq2, hf⟩ := bd_e hf
    refine x_vI (pc := 14) (As := [.int x1]) (rest := [.int x2]) (isC := [0, 1]) (ws' := (w_X6_rowAt G a_t a_t_facts a_t_roundsOf a_t_locked a_t_rules a_t_sizes a_t_rows a_t_seen a_t_plan a_t_book t_stopCount t_metric t_fixed t_sizes t_rows)) C S (c_X6_sizeOf l G a_t a_t_facts a_t_roundsOf a_t_locked a_t_rules a_t_sizes a_t_rows a_t_seen a_t_plan a_t_book t_stopCount t_metric t_fixed t_sizes x1 r2 hq2) (u_X6_rowAt_X6_sizeOf_96 hts) (ci := 6) rfl 0 rfl rfl rfl rfl rfl rfl hl.1 rfl (Nat.le_of_ble_eq_true rfl) dX6_rowAt_14 (fun H locs S => ?_)
    refine lv_icmp_ge (tgt := 42) (pc := 17) hx hb dX6_rowAt_17 (by decide) (fun c3 => ?_) (fun c3 => ?_)
    · have hf := ifp c3 hf
      refine lv_bipush (pc := 42) hx hb dX6_rowAt_42 bc_16 ?_
      cases hf
      exact x_iret (pc := 44) C S dX6_rowAt_44
    · have hf := ifn c3 hf
      refine lv_iload_n (pc := 20) hx hb dX6_rowAt_20 rfl (lv_at hl 0 rfl) ?_
      refine lv_if_lt (tgt := 42) (pc := 21) hx hb dX6_rowAt_21 (by decide) (fun c4 => ?_) (fun c4 => ?_)
      · have hf := ifp c4 hf
        refine lv_bipush (pc := 42) hx hb dX6_rowAt_42 bc_16 ?_
        cases hf
        exact x_iret (pc := 44) C S dX6_rowAt_44
      · have hf := ifn c4 hf
        refine lv_iload_n (pc := 24) hx hb dX6_rowAt_24 rfl (lv_at hl 0 rfl) ?_
        refine lv_aload_n (pc := 25) hx hb dX6_rowAt_25 rfl (lv_at hl 1 rfl) ?_
        refine x_get (pc := 26) (ci := 6) (T := TX6) (v := .ref a_t_rows) C S 0 rfl rfl inlX6 5 (by decide) rfl qf_6_28 rfl dX6_rowAt_26 ?_
        refine x_lenI (pc := 29) C S 2 rfl nc_64 dX6_rowAt_29 ?_
        refine lv_icmp_ge (tgt := 42) (pc := 30) hx hb dX6_rowAt_30 (by decide) (fun c5 => ?_) (fun c5 => ?_)
        · have hf := ifp c5 hf
          refine lv_bipush (pc := 42) hx hb dX6_rowAt_42 bc_16 ?_
          cases hf
          exact x_iret (pc := 44) C S dX6_rowAt_44
        · have hf := ifn c5 hf
          refine lv_aload_n (pc := 33) hx hb dX6_rowAt_33 rfl (lv_at hl 1 rfl) ?_
          refine x_get (pc := 34) (ci := 6) (T := TX6) (v := .ref a_t_rows) C S 0 rfl rfl inlX6 5 (by decide) rfl qf_6_28 rfl dX6_rowAt_34 ?_
          refine lv_iload_n (pc := 37) hx hb dX6_rowAt_37 rfl (lv_at hl 0 rfl) ?_
          obtain ⟨hv6, hf⟩ := gI_e hf
          refine x_iald (pc := 38) C S 2 rfl hv6 dX6_rowAt_38 ?_
          refine lv_goto (tgt := 44) (pc := 39) hx hb dX6_rowAt_39 (by decide) ?_
          cases hf
          exact x_iret (pc := 44) C S dX6_rowAt_44
end
abbrev rm_X0_load : Room := { frames := 2, cells := 0, slots := 0, locals := 44 }
abbrev kw_X0_load : Cond := .code yX0_load cX0_load 4 none
abbrev w_X0_load (G : GE) (a_t a_t_row a_t_comes a_t_begins a_t_slacks a_p1 a_p1_facts a_p1_roundsOf a_p1_locked a_p1_rules a_p1_sizes a_p1_rows a_p1_seen a_p1_plan a_p1_book : Nat) (t_round : Int32) (t_size : Int32) (t_back : Int32) (t_loads : Int32) (t_miles : Int32) (t_waits : Int32) (t_lateAt : Int32) (t_later : Int32) (t_row : Nat → Int32) (p1_stopCount : Int32) (p1_metric : Int32) (p1_fixed : Int32) (p1_sizes : Nat → Int32) (p1_rows : Nat → Int32) : va_W := [(a_t, ob 0 [.ref a_t_row, .ref a_t_comes, .ref a_t_begins, .ref a_t_slacks, .int t_round, .int t_size, .int t_back, .int t_loads, .int t_miles, .int t_waits, .int t_lateAt, .int t_later]), (a_t_row, aI G 16 t_row), (a_p1, ob 6 [.ref a_p1_facts, .ref a_p1_roundsOf, .ref a_p1_locked, .ref a_p1_rules, .ref a_p1_sizes, .ref a_p1_rows, .ref a_p1_seen, .ref a_p1_plan, .ref a_p1_book, .int p1_stopCount, .int p1_metric, .int p1_fixed]), (a_p1_sizes, aI G 4 p1_sizes), (a_p1_rows, aI G 64 p1_rows)]
theorem u_X0_load_X6_sizeOf_28 {s : State} {args : Array Value} (hts : ∀ w ∈ WU, w.before args s = true) : CallW rm_X0_load s args RX0 RX6 28 yX6_sizeOf cX6_sizeOf 2 (some .int) (kw_X6_sizeOf :: WU) rm_X6_sizeOf 0 0 1 := cwV 1 hts (gV qm_0_28 qi_X6_sizeOf ql_X6_sizeOf qn_6 qc_X6_sizeOf) rfl rfl rfl (by decide +kernel) ⟨Nat.le_of_ble_eq_true rfl, Nat.le_of_ble_eq_true rfl⟩
theorem u_X0_load_X6_rowAt_37 {s : State} {args : Array Value} (hts : ∀ w ∈ WU, w.before args s = true) : CallW rm_X0_load s args RX0 RX6 37 yX6_rowAt cX6_rowAt 4 (some .int) (kw_X6_rowAt :: WU) rm_X6_rowAt 0 0 2 := cwV 2 hts (gV qm_0_37 qi_X6_rowAt ql_X6_rowAt qn_6 qc_X6_rowAt) rfl rfl rfl (by decide +kernel) ⟨Nat.le_of_ble_eq_true rfl, Nat.le_of_ble_eq_true rfl⟩
section
variable {p : Program} {l : Launch} {e : Env} {s : State} {m : MethodId} {args : Array Value} {below : List Frame} {meth : Method} {c : Code} {A : Nat → Prop} {G : GE} {a_t a_t_row a_t_comes a_t_begins a_t_slacks a_p1 a_p1_facts a_p1_roundsOf a_p1_locked a_p1_rules a_p1_sizes a_p1_rows a_p1_seen a_p1_plan a_p1_book : Nat} {z_t_row : Nat → Int32} {z_t_round : Int32} {z_t_size : Int32}
set_option maxRecDepth 100000 in
set_option maxHeartbeats 4000000 in
theorem k_X0_load_16 (C : Cx p s m args meth c cX0_load none 4 RX0 G A) (t_round : Int32) (t_size : Int32) (t_back : Int32) (t_loads : Int32) (t_miles : Int32) (t_waits : Int32) (t_lateAt : Int32) (t_later : Int32) (t_row : Nat → Int32) (p1_stopCount : Int32) (p1_metric : Int32) (p1_fixed : Int32) (p1_sizes : Nat → Int32) (p1_rows : Nat → Int32) (x2 : Int32) (x3 : Int32) (k16 : Int32 × (Nat → Int32) → Option ((Nat → Int32) × Int32 × Int32)) (hk16 : ∀ {H : Heap} {locs : List Loc} {ls : Array Slot} (x3' : Int32) (t_row' : Nat → Int32), k16 (x3', t_row') = some (z_t_row, z_t_round, z_t_size) → St G A s.heap H locs (w_X0_load G a_t a_t_row a_t_comes a_t_begins a_t_slacks a_p1 a_p1_facts a_p1_roundsOf a_p1_locked a_p1_rules a_p1_sizes a_p1_rows a_p1_seen a_p1_plan a_p1_book t_round t_size t_back t_loads t_miles t_waits t_lateAt t_later t_row' p1_stopCount p1_metric p1_fixed p1_sizes p1_rows) → lv_has ls 4 [(0, .ref a_t), (1, .ref a_p1), (2, .int x2), (3, .int x3')] → W p l e rm_X0_load s m args below meth c H locs 0 0 (QV G below args s A (w_X0_load G a_t a_t_row a_t_comes a_t_begins a_t_slacks a_p1 a_p1_facts a_p1_roundsOf a_p1_locked a_p1_rules a_p1_sizes a_p1_rows a_p1_seen a_p1_plan a_p1_book z_t_round z_t_size t_back t_loads t_miles t_waits t_lateAt t_later z_t_row p1_stopCount p1_metric p1_fixed p1_sizes p1_rows)) (F0 m 16 ls [])) {H : Heap} {locs : List Loc} {ls : Array Slot} (hf : b_X0_load_16 x2 t_round t_size p1_sizes p1_rows k16 x3 t_row = some (z_t_row, z_t_round, z_t_size)) (S : St G A s.heap H locs (w_X0_load G a_t a_t_row a_t_comes a_t_begins a_t_slacks a_p1 a_p1_facts a_p1_roundsOf a_p1_locked a_p1_rules a_p1_sizes a_p1_rows a_p1_seen a_p1_plan a_p1_book t_round t_size t_back t_loads t_miles t_waits t_lateAt t_later t_row p1_stopCount p1_metric p1_fixed p1_sizes p1_rows)) (hl : lv_has ls 4 [(0, .ref a_t), (1, .ref a_p1), (2, .int x2), (3, .int x3)]) : W p l e rm_X0_load s m args below meth c H locs 0 0 (QV G below args s A (w_X0_load G a_t a_t_row a_t_comes a_t_begins a_t_slacks a_p1 a_p1_facts a_p1_roundsOf a_p1_locked a_p1_rules a_p1_sizes a_p1_rows a_p1_seen a_p1_plan a_p1_book z_t_round z_t_size t_back t_loads t_miles t_waits t_lateAt t_later z_t_row p1_stopCount p1_metric p1_fixed p1_sizes p1_rows)) (F0 m 16 ls []) := by
  unfold b_X0_load_16 at hf
  have hx := C.1
  have hb := C.2.1
  have hown := C.2.2.2.2.1
  have hts := C.2.2.2.2.2.1
  have hN := C.2.2.2.2.2.2.2.2.2.2
  refine lv_iload_n (pc := 16) hx hb dX0_load_16 rfl (lv_at hl 3 rfl) ?_
  refine lv_aload_n (pc := 17) hx hb dX0_load_17 rfl (lv_at hl 0 rfl) ?_
  refine x_get (pc := 18) (ci := 0) (T := TX0) (v := .int t_size) C S 0 rfl rfl inlX0 5 (by decide) rfl qf_0_34 rfl dX0_load_18 ?_
  refine lv_icmp_ge (tgt := 48) (pc := 21) hx hb dX0_load_21 (by decide) (fun c1 => ?_) (fun c1 => ?_)
  · have hf := ifp c1 hf
    cases hf
    exact x_vret (pc := 48) C S dX0_load_48
  · have hf := ifn c1 hf
    refine lv_iload_n (pc := 24) hx hb dX0_load_24 rfl (lv_at hl 3 rfl) ?_
    refine lv_bipush (pc := 25) hx hb dX0_load_25 bc_16 ?_
    refine lv_icmp_ge (tgt := 48) (pc := 27) hx hb dX0_load_27 (by decide) (fun c2 => ?_) (fun c2 => ?_)
    · have hf := ifp c2 hf
      cases hf
      exact x_vret (pc := 48) C S dX0_load_48
    · have hf := ifn c2 hf
      refine lv_aload_n (pc := 30) hx hb dX0_load_30 rfl (lv_at hl 0 rfl) ?_
      refine x_get (pc := 31) (ci := 0) (T := TX0) (v := .ref a_t_row) C S 0 rfl rfl inlX0 0 (by decide) rfl qf_0_9 rfl dX0_load_31 ?_
      refine lv_iload_n (pc := 34) hx hb dX0_load_34 rfl (lv_at hl 3 rfl) ?_
      refine lv_aload_n (pc := 35) hx hb dX0_load_35 rfl (lv_at hl 1 rfl) ?_
      refine lv_iload_n (pc := 36) hx hb dX0_load_36 rfl (lv_at hl 2 rfl) ?_
      refine lv_iload_n (pc := 37) hx hb dX0_load_37 rfl (lv_at hl 3 rfl) ?_
      obtain ⟨r3, hq3, hf⟩ := bd_e hf
      refine x_vI (pc := 38) (As := [.int x2, .int x3]) (rest := [.int x3, .ref a_t_row]) (isC := [2, 3, 4]) (ws' := (w_X0_load G a_t a_t_row a_t_comes a_t_begins a_t_slacks a_p1 a_p1_facts a_p1_roundsOf a_p1_locked a_p1_rules a_p1_sizes a_p1_rows a_p1_seen a_p1_plan a_p1_book t_round t_size t_back t_loads t_miles t_waits t_lateAt t_later t_row p1_stopCount p1_metric p1_fixed p1_sizes p1_rows)) C S (c_X6_rowAt l G a_p1 a_p1_facts a_p1_roundsOf a_p1_locked a_p1_rules a_p1_sizes a_p1_rows a_p1_seen a_p1_plan a_p1_book p1_stopCount p1_metric p1_fixed p1_sizes p1_rows x2 x3 r3 hq3) (u_X0_load_X6_rowAt_37 hts) (ci := 6) rfl 2 rfl rfl rfl rfl rfl rfl hl.1 rfl (Nat.le_of_ble_eq_true rfl) dX0_load_38 (fun H locs S => ?_)
      obtain ⟨hv4, hf⟩ := gI_e hf
      refine x_iast (pc := 41) (ws' := (w_X0_load G a_t a_t_row a_t_comes a_t_begins a_t_slacks a_p1 a_p1_facts a_p1_roundsOf a_p1_locked a_p1_rules a_p1_sizes a_p1_rows a_p1_seen a_p1_plan a_p1_book t_round t_size t_back t_loads t_miles t_waits t_lateAt t_later (upd t_row x3.toNatClampNeg r3) p1_stopCount p1_metric p1_fixed p1_sizes p1_rows)) C S 1 rfl hv4 rfl dX0_load_41 (fun H locs S => ?_)
      refine lv_iinc (pc := 42) (v := (x3 + (1 : Int32))) (lv' := [(3, .int (x3 + (1 : Int32))), (0, .ref a_t), (1, .ref a_p1), (2, .int x2)]) hx hb dX0_load_42 hl (k := 3) rfl (congrArg (fun z => x3 + z) ic_1) (by decide) rfl (fun ls hl => ?_)
      refine lv_goto (tgt := 16) (pc := 45) hx hb dX0_load_45 (by decide) ?_
      exact hk16 ((x3 + (1 : Int32))) ((upd t_row x3.toNatClampNeg r3))  hf S (lv_sub hl [1, 2, 3, 0] rfl)
set_option maxRecDepth 100000 in
set_option maxHeartbeats 4000000 in
theorem h_X0_load_16 (C : Cx p s m args meth c cX0_load none 4 RX0 G A) (t_round : Int32) (t_size : Int32) (t_back : Int32) (t_loads : Int32) (t_miles : Int32) (t_waits : Int32) (t_lateAt : Int32) (t_later : Int32) (p1_stopCount : Int32) (p1_metric : Int32) (p1_fixed : Int32) (p1_sizes : Nat → Int32) (p1_rows : Nat → Int32) (x2 : Int32) (n : Nat) (x : Int32 × (Nat → Int32)) (hf : lp (fun k x => b_X0_load_16 x2 t_round t_size p1_sizes p1_rows k x.1 x.2) n x = some (z_t_row, z_t_round, z_t_size)) {H : Heap} {locs : List Loc} {ls : Array Slot} (S : St G A s.heap H locs (w_X0_load G a_t a_t_row a_t_comes a_t_begins a_t_slacks a_p1 a_p1_facts a_p1_roundsOf a_p1_locked a_p1_rules a_p1_sizes a_p1_rows a_p1_seen a_p1_plan a_p1_book t_round t_size t_back t_loads t_miles t_waits t_lateAt t_later x.2 p1_stopCount p1_metric p1_fixed p1_sizes p1_rows)) (hl : lv_has ls 4 [(0, .ref a_t), (1, .ref a_p1), (2, .int x2), (3, .int x.1)]) : W p l e rm_X0_load s m args below meth c H locs 0 0 (QV G below args s A (w_X0_load G a_t a_t_row a_t_comes a_t_begins a_t_slacks a_p1 a_p1_facts a_p1_roundsOf a_p1_locked a_p1_rules a_p1_sizes a_p1_rows a_p1_seen a_p1_plan a_p1_book z_t_round z_t_size t_back t_loads t_miles t_waits t_lateAt t_later z_t_row p1_stopCount p1_metric p1_fixed p1_sizes p1_rows)) (F0 m 16 ls []) :=
  lp_ind (P := fun x => ∀ {H : Heap} {locs : List Loc} {ls : Array Slot}, St G A s.heap H locs (w_X0_load G a_t a_t_row a_t_comes a_t_begins a_t_slacks a_p1 a_p1_facts a_p1_roundsOf a_p1_locked a_p1_rules a_p1_sizes a_p1_rows a_p1_seen a_p1_plan a_p1_book t_round t_size t_back t_loads t_miles t_waits t_lateAt t_later x.2 p1_stopCount p1_metric p1_fixed p1_sizes p1_rows) → lv_has ls 4 [(0, .ref a_t), (1, .ref a_p1), (2, .int x2), (3, .int x.1)] → W p l e rm_X0_load s m args below meth c H locs 0 0 (QV G below args s A (w_X0_load G a_t a_t_row a_t_comes a_t_begins a_t_slacks a_p1 a_p1_facts a_p1_roundsOf a_p1_locked a_p1_rules a_p1_sizes a_p1_rows a_p1_seen a_p1_plan a_p1_book z_t_round z_t_size t_back t_loads t_miles t_waits t_lateAt t_later z_t_row p1_stopCount p1_metric p1_fixed p1_sizes p1_rows)) (F0 m 16 ls [])) (fun k hk x hf _ _ _ S hl => k_X0_load_16 C t_round t_size t_back t_loads t_miles t_waits t_lateAt t_later x.2 p1_stopCount p1_metric p1_fixed p1_sizes p1_rows x2 x.1  k (fun x3' t_row'  h S hl => hk (x3', t_row') h S hl) hf S hl) n x hf S hl
set_option maxRecDepth 100000 in
set_option maxHeartbeats 4000000 in
theorem c_X0_load (l : Launch) (G : GE) (a_t a_t_row a_t_comes a_t_begins a_t_slacks a_p1 a_p1_facts a_p1_roundsOf a_p1_locked a_p1_rules a_p1_sizes a_p1_rows a_p1_seen a_p1_plan a_p1_book : Nat) (t_round : Int32) (t_size : Int32) (t_back : Int32) (t_loads : Int32) (t_miles : Int32) (t_waits : Int32) (t_lateAt : Int32) (t_later : Int32) (t_row : Nat → Int32) (p1_stopCount : Int32) (p1_metric : Int32) (p1_fixed : Int32) (p1_sizes : Nat → Int32) (p1_rows : Nat → Int32) (x2 : Int32) (z_t_row : Nat → Int32) (z_t_round : Int32) (z_t_size : Int32) (hf : f_X0_load t_row p1_sizes p1_rows x2 = some (z_t_row, z_t_round, z_t_size)) : CV l G yX0_load kw_X0_load rm_X0_load [.ref a_t, .ref a_p1, .int x2] (w_X0_load G a_t a_t_row a_t_comes a_t_begins a_t_slacks a_p1 a_p1_facts a_p1_roundsOf a_p1_locked a_p1_rules a_p1_sizes a_p1_rows a_p1_seen a_p1_plan a_p1_book t_round t_size t_back t_loads t_miles t_waits t_lateAt t_later t_row p1_stopCount p1_metric p1_fixed p1_sizes p1_rows) (w_X0_load G a_t a_t_row a_t_comes a_t_begins a_t_slacks a_p1 a_p1_facts a_p1_roundsOf a_p1_locked a_p1_rules a_p1_sizes a_p1_rows a_p1_seen a_p1_plan a_p1_book z_t_round z_t_size t_back t_loads t_miles t_waits t_lateAt t_later z_t_row p1_stopCount p1_metric p1_fixed p1_sizes p1_rows) := by
  refine en_V (cc := cX0_load) (maxL := 4) (ret := none) (by decide +kernel) (Nat.le_of_ble_eq_true rfl) ?_
  intro p e s m args below meth c A ls C S hl
  have hl : lv_has ls 4 [(0, .ref a_t), (1, .ref a_p1), (2, .int x2)] := hl
  have C : Cx p s m args meth c cX0_load none 4 RX0 G A := C
  unfold f_X0_load at hf
  have hx := C.1
  have hb := C.2.1
  have hown := C.2.2.2.2.1
  have hts := C.2.2.2.2.2.1
  have hN := C.2.2.2.2.2.2.2.2.2.2
  refine lv_aload_n (pc := 0) hx hb dX0_load_0 rfl (lv_at hl 0 rfl) ?_
  refine lv_iload_n (pc := 1) hx hb dX0_load_1 rfl (lv_at hl 2 rfl) ?_
  refine x_put (pc := 2) (ci := 0) (T := TX0) (ws' := (w_X0_load G a_t a_t_row a_t_comes a_t_begins a_t_slacks a_p1 a_p1_facts a_p1_roundsOf a_p1_locked a_p1_rules a_p1_sizes a_p1_rows a_p1_seen a_p1_plan a_p1_book x2 t_size t_back t_loads t_miles t_waits t_lateAt t_later t_row p1_stopCount p1_metric p1_fixed p1_sizes p1_rows)) C S tyX0 tyX0_ok nmX0 0 rfl rfl inlX0 4 (by decide) rfl qf_0_24 rfl rfl rfl rfl (Nat.le_of_ble_eq_true rfl) rfl dX0_load_2 (fun H locs S => ?_)
  refine lv_aload_n (pc := 5) hx hb dX0_load_5 rfl (lv_at hl 0 rfl) ?_
  refine lv_aload_n (pc := 6) hx hb dX0_load_6 rfl (lv_at hl 1 rfl) ?_
  refine lv_iload_n (pc := 7) hx hb dX0_load_7 rfl (lv_at hl 2 rfl) ?_
  obtain ⟨r1, hq1, hf⟩ := bd_e hf
  refine x_vI (pc := 8) (As := [.int x2]) (rest := [.ref a_t]) (isC := [2, 3]) (ws' := (w_X0_load G a_t a_t_row a_t_comes a_t_begins a_t_slacks a_p1 a_p1_facts a_p1_roundsOf a_p1_locked a_p1_rules a_p1_sizes a_p1_rows a_p1_seen a_p1_plan a_p1_book x2 t_size t_back t_loads t_miles t_waits t_lateAt t_later t_row p1_stopCount p1_metric p1_fixed p1_sizes p1_rows)) C S (c_X6_sizeOf l G a_p1 a_p1_facts a_p1_roundsOf a_p1_locked a_p1_rules a_p1_sizes a_p1_rows a_p1_seen a_p1_plan a_p1_book p1_stopCount p1_metric p1_fixed p1_sizes x2 r1 hq1) (u_X0_load_X6_sizeOf_28 hts) (ci := 6) rfl 2 rfl rfl rfl rfl rfl rfl hl.1 rfl (Nat.le_of_ble_eq_true rfl) dX0_load_8 (fun H locs S => ?_)
  refine x_put (pc := 11) (ci := 0) (T := TX0) (ws' := (w_X0_load G a_t a_t_row a_t_comes a_t_begins a_t_slacks a_p1 a_p1_facts a_p1_roundsOf a_p1_locked a_p1_rules a_p1_sizes a_p1_rows a_p1_seen a_p1_plan a_p1_book x2 r1 t_back t_loads t_miles t_waits t_lateAt t_later t_row p1_stopCount p1_metric p1_fixed p1_sizes p1_rows)) C S tyX0 tyX0_ok nmX0 0 rfl rfl inlX0 5 (by decide) rfl qf_0_34 rfl rfl rfl rfl (Nat.le_of_ble_eq_true rfl) rfl dX0_load_11 (fun H locs S => ?_)
  refine lv_iconst (pc := 14) hx hb dX0_load_14 ic_0 ?_
  refine lv_istore_n (pc := 15) (lv' := [(3, .int (0 : Int32)), (0, .ref a_t), (1, .ref a_p1), (2, .int x2)]) hx hb dX0_load_15 rfl hl (by decide) rfl (fun ls hl => ?_)
  exact h_X0_load_16 C (x2) (r1) (t_back) (t_loads) (t_miles) (t_waits) (t_lateAt) (t_later) (p1_stopCount) (p1_metric) (p1_fixed) (p1_sizes) (p1_rows) (x2) fu ((0 : Int32), t_row) hf S (lv_sub hl [1, 2, 3, 0] rfl)
end
abbrev rm_X6_fact : Room := { frames := 0, cells := 0, slots := 0, locals := 0 }
abbrev kw_X6_fact : Cond := .code yX6_fact cX6_fact 4 (some .int)
abbrev w_X6_fact (G : GE) (a_t a_t_facts a_t_roundsOf a_t_locked a_t_rules a_t_sizes a_t_rows a_t_seen a_t_plan a_t_book : Nat) (t_stopCount : Int32) (t_metric : Int32) (t_fixed : Int32) (t_facts : Nat → Int32) : va_W := [(a_t, ob 6 [.ref a_t_facts, .ref a_t_roundsOf, .ref a_t_locked, .ref a_t_rules, .ref a_t_sizes, .ref a_t_rows, .ref a_t_seen, .ref a_t_plan, .ref a_t_book, .int t_stopCount, .int t_metric, .int t_fixed]), (a_t_facts, aI G 102 t_facts)]
section
variable {p : Program} {l : Launch} {e : Env} {s : State} {m : MethodId} {args : Array Value} {below : List Frame} {meth : Method} {c : Code} {A : Nat → Prop} {G : GE} {a_t a_t_facts a_t_roundsOf a_t_locked a_t_rules a_t_sizes a_t_rows a_t_seen a_t_plan a_t_book : Nat} {r : Int32}
set_option maxRecDepth 100000 in
set_option maxHeartbeats 4000000 in
theorem c_X6_fact (l : Launch) (G : GE) (a_t a_t_facts a_t_roundsOf a_t_locked a_t_rules a_t_sizes a_t_rows a_t_seen a_t_plan a_t_book : Nat) (t_stopCount : Int32) (t_metric : Int32) (t_fixed : Int32) (t_facts : Nat → Int32) (x1 : Int32) (x2 : Int32) (r : Int32) (hf : f_X6_fact t_facts x1 x2 = some r) : CI l G yX6_fact kw_X6_fact rm_X6_fact [.ref a_t, .int x1, .int x2] (w_X6_fact G a_t a_t_facts a_t_roundsOf a_t_locked a_t_rules a_t_sizes a_t_rows a_t_seen a_t_plan a_t_book t_stopCount t_metric t_fixed t_facts) r (w_X6_fact G a_t a_t_facts a_t_roundsOf a_t_locked a_t_rules a_t_sizes a_t_rows a_t_seen a_t_plan a_t_book t_stopCount t_metric t_fixed t_facts) := by
  refine en_I (cc := cX6_fact) (maxL := 4) (ret := (some .int)) (by decide +kernel) (Nat.le_of_ble_eq_true rfl) ?_
  intro p e s m args below meth c A ls C S hl
  have hl : lv_has ls 4 [(0, .ref a_t), (1, .int x1), (2, .int x2)] := hl
  have C : Cx p s m args meth c cX6_fact (some .int) 4 RX6 G A := C
  unfold f_X6_fact at hf
  have hx := C.1
  have hb := C.2.1
  have hown := C.2.2.2.2.1
  have hts := C.2.2.2.2.2.1
  have hN := C.2.2.2.2.2.2.2.2.2.2
  refine lv_iload_n (pc := 0) hx hb dX6_fact_0 rfl (lv_at hl 1 rfl) ?_
  refine lv_bipush (pc := 1) hx hb dX6_fact_1 bc_6 ?_
  refine lv_imul (pc := 3) hx hb dX6_fact_3 ?_
  refine lv_iload_n (pc := 4) hx hb dX6_fact_4 rfl (lv_at hl 2 rfl) ?_
  refine lv_iadd (pc := 5) hx hb dX6_fact_5 ?_
  refine lv_istore_n (pc := 6) (lv' := [(3, .int ((x1 * (6 : Int32)) + x2)), (0, .ref a_t), (1, .int x1), (2, .int x2)]) hx hb dX6_fact_6 rfl hl (by decide) rfl (fun ls hl => ?_)
  refine lv_iload_n (pc := 7) hx hb dX6_fact_7 rfl (lv_at hl 0 rfl) ?_
  refine lv_if_lt (tgt := 29) (pc := 8) hx hb dX6_fact_8 (by decide) (fun c1 => ?_) (fun c1 => ?_)
  · have hf := ifp c1 hf
    refine lv_iconst (pc := 29) hx hb dX6_fact_29 ic_0 ?_
    cases hf
    exact x_iret (pc := 30) C S dX6_fact_30
  · have hf := ifn c1 hf
    refine lv_iload_n (pc := 11) hx hb dX6_fact_11 rfl (lv_at hl 0 rfl) ?_
    refine lv_aload_n (pc := 12) hx hb dX6_fact_12 rfl (lv_at hl 1 rfl) ?_
    refine x_get (pc := 13) (ci := 6) (T := TX6) (v := .ref a_t_facts) C S 0 rfl rfl inlX6 0 (by decide) rfl qf_6_9 rfl dX6_fact_13 ?_
    refine x_lenI (pc := 16) C S 1 rfl nc_102 dX6_fact_16 ?_
    refine lv_icmp_ge (tgt := 29) (pc := 17) hx hb dX6_fact_17 (by decide) (fun c2 => ?_) (fun c2 => ?_)
    · have hf := ifp c2 hf
      refine lv_iconst (pc := 29) hx hb dX6_fact_29 ic_0 ?_
      cases hf
      exact x_iret (pc := 30) C S dX6_fact_30
    · have hf := ifn c2 hf
      refine lv_aload_n (pc := 20) hx hb dX6_fact_20 rfl (lv_at hl 1 rfl) ?_
      refine x_get (pc := 21) (ci := 6) (T := TX6) (v := .ref a_t_facts) C S 0 rfl rfl inlX6 0 (by decide) rfl qf_6_9 rfl dX6_fact_21 ?_
      refine lv_iload_n (pc := 24) hx hb dX6_fact_24 rfl (lv_at hl 0 rfl) ?_
      obtain ⟨hv3, hf⟩ := gI_e hf
      refine x_iald (pc := 25) C S 1 rfl hv3 dX6_fact_25 ?_
      refine lv_goto (tgt := 30) (pc := 26) hx hb dX6_fact_26 (by decide) ?_
      cases hf
      exact x_iret (pc := 30) C S dX6_fact_30
end
abbrev rm_X6_ruleOf : Room := { frames := 0, cells := 0, slots := 0, locals := 0 }
abbrev kw_X6_ruleOf : Cond := .code yX6_ruleOf cX6_ruleOf 4 (some .int)
abbrev w_X6_ruleOf (G : GE) (a_t a_t_facts a_t_roundsOf a_t_locked a_t_rules a_t_sizes a_t_rows a_t_seen a_t_plan a_t_book : Nat) (t_stopCount : Int32) (t_metric : Int32) (t_fixed : Int32) (t_rules : Nat → Int32) : va_W := [(a_t, ob 6 [.ref a_t_facts, .ref a_t_roundsOf, .ref a_t_locked, .ref a_t_rules, .ref a_t_sizes, .ref a_t_rows, .ref a_t_seen, .ref a_t_plan, .ref a_t_book, .int t_stopCount, .int t_metric, .int t_fixed]), (a_t_rules, aI G 12 t_rules)]
section
variable {p : Program} {l : Launch} {e : Env} {s : State} {m : MethodId} {args : Array Value} {below : List Frame} {meth : Method} {c : Code} {A : Nat → Prop} {G : GE} {a_t a_t_facts a_t_roundsOf a_t_locked a_t_rules a_t_sizes a_t_rows a_t_seen a_t_plan a_t_book : Nat} {r : Int32}
set_option maxRecDepth 100000 in
set_option maxHeartbeats 4000000 in
theorem c_X6_ruleOf (l : Launch) (G : GE) (a_t a_t_facts a_t_roundsOf a_t_locked a_t_rules a_t_sizes a_t_rows a_t_seen a_t_plan a_t_book : Nat) (t_stopCount : Int32) (t_metric : Int32) (t_fixed : Int32) (t_rules : Nat → Int32) (x1 : Int32) (x2 : Int32) (r : Int32) (hf : f_X6_ruleOf t_rules x1 x2 = some r) : CI l G yX6_ruleOf kw_X6_ruleOf rm_X6_ruleOf [.ref a_t, .int x1, .int x2] (w_X6_ruleOf G a_t a_t_facts a_t_roundsOf a_t_locked a_t_rules a_t_sizes a_t_rows a_t_seen a_t_plan a_t_book t_stopCount t_metric t_fixed t_rules) r (w_X6_ruleOf G a_t a_t_facts a_t_roundsOf a_t_locked a_t_rules a_t_sizes a_t_rows a_t_seen a_t_plan a_t_book t_stopCount t_metric t_fixed t_rules) := by
  refine en_I (cc := cX6_ruleOf) (maxL := 4) (ret := (some .int)) (by decide +kernel) (Nat.le_of_ble_eq_true rfl) ?_
  intro p e s m args below meth c A ls C S hl
  have hl : lv_has ls 4 [(0, .ref a_t), (1, .int x1), (2, .int x2)] := hl
  have C : Cx p s m args meth c cX6_ruleOf (some .int) 4 RX6 G A := C
  unfold f_X6_ruleOf at hf
  have hx := C.1
  have hb := C.2.1
  have hown := C.2.2.2.2.1
  have hts := C.2.2.2.2.2.1
  have hN := C.2.2.2.2.2.2.2.2.2.2
  refine lv_iload_n (pc := 0) hx hb dX6_ruleOf_0 rfl (lv_at hl 1 rfl) ?_
  refine lv_iconst (pc := 1) hx hb dX6_ruleOf_1 ic_3 ?_
  refine lv_imul (pc := 2) hx hb dX6_ruleOf_2 ?_
  refine lv_iload_n (pc := 3) hx hb dX6_ruleOf_3 rfl (lv_at hl 2 rfl) ?_
  refine lv_iadd (pc := 4) hx hb dX6_ruleOf_4 ?_
  refine lv_istore_n (pc := 5) (lv' := [(3, .int ((x1 * (3 : Int32)) + x2)), (0, .ref a_t), (1, .int x1), (2, .int x2)]) hx hb dX6_ruleOf_5 rfl hl (by decide) rfl (fun ls hl => ?_)
  refine lv_iload_n (pc := 6) hx hb dX6_ruleOf_6 rfl (lv_at hl 0 rfl) ?_
  refine lv_if_lt (tgt := 28) (pc := 7) hx hb dX6_ruleOf_7 (by decide) (fun c1 => ?_) (fun c1 => ?_)
  · have hf := ifp c1 hf
    refine lv_iconst (pc := 28) hx hb dX6_ruleOf_28 ic_0 ?_
    cases hf
    exact x_iret (pc := 29) C S dX6_ruleOf_29
  · have hf := ifn c1 hf
    refine lv_iload_n (pc := 10) hx hb dX6_ruleOf_10 rfl (lv_at hl 0 rfl) ?_
    refine lv_aload_n (pc := 11) hx hb dX6_ruleOf_11 rfl (lv_at hl 1 rfl) ?_
    refine x_get (pc := 12) (ci := 6) (T := TX6) (v := .ref a_t_rules) C S 0 rfl rfl inlX6 3 (by decide) rfl qf_6_22 rfl dX6_ruleOf_12 ?_
    refine x_lenI (pc := 15) C S 1 rfl nc_12 dX6_ruleOf_15 ?_
    refine lv_icmp_ge (tgt := 28) (pc := 16) hx hb dX6_ruleOf_16 (by decide) (fun c2 => ?_) (fun c2 => ?_)
    · have hf := ifp c2 hf
      refine lv_iconst (pc := 28) hx hb dX6_ruleOf_28 ic_0 ?_
      cases hf
      exact x_iret (pc := 29) C S dX6_ruleOf_29
    · have hf := ifn c2 hf
      refine lv_aload_n (pc := 19) hx hb dX6_ruleOf_19 rfl (lv_at hl 1 rfl) ?_
      refine x_get (pc := 20) (ci := 6) (T := TX6) (v := .ref a_t_rules) C S 0 rfl rfl inlX6 3 (by decide) rfl qf_6_22 rfl dX6_ruleOf_20 ?_
      refine lv_iload_n (pc := 23) hx hb dX6_ruleOf_23 rfl (lv_at hl 0 rfl) ?_
      obtain ⟨hv3, hf⟩ := gI_e hf
      refine x_iald (pc := 24) C S 1 rfl hv3 dX6_ruleOf_24 ?_
      refine lv_goto (tgt := 29) (pc := 25) hx hb dX6_ruleOf_25 (by decide) ?_
      cases hf
      exact x_iret (pc := 29) C S dX6_ruleOf_29
end
abbrev rm_X6_apart : Room := { frames := 0, cells := 0, slots := 0, locals := 0 }
abbrev kw_X6_apart : Cond := .code yX6_apart cX6_apart 9 (some .int)
abbrev w_X6_apart (G : GE) (a_t a_t_facts a_t_roundsOf a_t_locked a_t_rules a_t_sizes a_t_rows a_t_seen a_t_plan a_t_book : Nat) (t_stopCount : Int32) (t_metric : Int32) (t_fixed : Int32) : va_W := [(a_t, ob 6 [.ref a_t_facts, .ref a_t_roundsOf, .ref a_t_locked, .ref a_t_rules, .ref a_t_sizes, .ref a_t_rows, .ref a_t_seen, .ref a_t_plan, .ref a_t_book, .int t_stopCount, .int t_metric, .int t_fixed])]
section
variable {p : Program} {l : Launch} {e : Env} {s : State} {m : MethodId} {args : Array Value} {below : List Frame} {meth : Method} {c : Code} {A : Nat → Prop} {G : GE} {a_t a_t_facts a_t_roundsOf a_t_locked a_t_rules a_t_sizes a_t_rows a_t_seen a_t_plan a_t_book : Nat} {r : Int32}
set_option maxRecDepth 100000 in
set_option maxHeartbeats 4000000 in
theorem k_X6_apart_56 (C : Cx p s m args meth c cX6_apart (some .int) 9 RX6 G A) (t_stopCount : Int32) (t_metric : Int32) (t_fixed : Int32) (x7 : Int32) (y0 : Int32) {H : Heap} {locs : List Loc} {ls : Array Slot} (hf : b_X6_apart_56 x7 y0 t_metric = some r) (S : St G A s.heap H locs (w_X6_apart G a_t a_t_facts a_t_roundsOf a_t_locked a_t_rules a_t_sizes a_t_rows a_t_seen a_t_plan a_t_book t_stopCount t_metric t_fixed)) (hl : lv_has ls 9 [(0, .ref a_t), (7, .int x7)]) : W p l e rm_X6_apart s m args below meth c H locs 0 0 (QI G below args s A r (w_X6_apart G a_t a_t_facts a_t_roundsOf a_t_locked a_t_rules a_t_sizes a_t_rows a_t_seen a_t_plan a_t_book t_stopCount t_metric t_fixed)) (F0 m 56 ls [.int y0]) := by
  unfold b_X6_apart_56 at hf
  have hx := C.1
  have hb := C.2.1
  have hown := C.2.2.2.2.1
  have hts := C.2.2.2.2.2.1
  have hN := C.2.2.2.2.2.2.2.2.2.2
  refine lv_istore (pc := 56) (lv' := [(8, .int y0), (0, .ref a_t), (7, .int x7)]) hx hb dX6_apart_56 hl (by decide) rfl (fun ls hl => ?_)
  refine lv_aload_n (pc := 58) hx hb dX6_apart_58 rfl (lv_at hl 1 rfl) ?_
  refine x_get (pc := 59) (ci := 6) (T := TX6) (v := .int t_metric) C S 0 rfl rfl inlX6 10 (by decide) rfl qf_6_64 rfl dX6_apart_59 ?_
  refine lv_if_ne (tgt := 68) (pc := 62) hx hb dX6_apart_62 (by decide) (fun c1 => ?_) (fun c1 => ?_)
  · have hf := ifn c1 hf
    refine lv_aload_n (pc := 68) hx hb dX6_apart_68 rfl (lv_at hl 1 rfl) ?_
    refine x_get (pc := 69) (ci := 6) (T := TX6) (v := .int t_metric) C S 0 rfl rfl inlX6 10 (by decide) rfl qf_6_64 rfl dX6_apart_69 ?_
    refine lv_iconst (pc := 72) hx hb dX6_apart_72 ic_1 ?_
    refine lv_icmp_ne (tgt := 81) (pc := 73) hx hb dX6_apart_73 (by decide) (fun c2 => ?_) (fun c2 => ?_)
    · have hf := ifn c2 hf
      refine lv_iload (pc := 81) hx hb dX6_apart_81 (lv_at hl 2 rfl) ?_
      refine lv_iload (pc := 83) hx hb dX6_apart_83 (lv_at hl 0 rfl) ?_
      refine lv_iadd (pc := 85) hx hb dX6_apart_85 ?_
      cases hf
      exact x_iret (pc := 86) C S dX6_apart_86
    · have hf := ifp c2 hf
      refine lv_iload (pc := 76) hx hb dX6_apart_76 (lv_at hl 0 rfl) ?_
      refine lv_goto (tgt := 86) (pc := 78) hx hb dX6_apart_78 (by decide) ?_
      cases hf
      exact x_iret (pc := 86) C S dX6_apart_86
  · have hf := ifp c1 hf
    refine lv_iload (pc := 65) hx hb dX6_apart_65 (lv_at hl 2 rfl) ?_
    cases hf
    exact x_iret (pc := 67) C S dX6_apart_67
set_option maxRecDepth 100000 in
set_option maxHeartbeats 4000000 in
theorem k_X6_apart_33 (C : Cx p s m args meth c cX6_apart (some .int) 9 RX6 G A) (t_stopCount : Int32) (t_metric : Int32) (t_fixed : Int32) (x5 : Int32) (y0 : Int32) {H : Heap} {locs : List Loc} {ls : Array Slot} (hf : b_X6_apart_33 x5 y0 t_metric = some r) (S : St G A s.heap H locs (w_X6_apart G a_t a_t_facts a_t_roundsOf a_t_locked a_t_rules a_t_sizes a_t_rows a_t_seen a_t_plan a_t_book t_stopCount t_metric t_fixed)) (hl : lv_has ls 9 [(0, .ref a_t), (5, .int x5)]) : W p l e rm_X6_apart s m args below meth c H locs 0 0 (QI G below args s A r (w_X6_apart G a_t a_t_facts a_t_roundsOf a_t_locked a_t_rules a_t_sizes a_t_rows a_t_seen a_t_plan a_t_book t_stopCount t_metric t_fixed)) (F0 m 33 ls [.int y0]) := by
  unfold b_X6_apart_33 at hf
  have hx := C.1
  have hb := C.2.1
  have hown := C.2.2.2.2.1
  have hts := C.2.2.2.2.2.1
  have hN := C.2.2.2.2.2.2.2.2.2.2
  refine lv_istore (pc := 33) (lv' := [(6, .int y0), (0, .ref a_t), (5, .int x5)]) hx hb dX6_apart_33 hl (by decide) rfl (fun ls hl => ?_)
  refine lv_iload (pc := 35) hx hb dX6_apart_35 (lv_at hl 2 rfl) ?_
  refine lv_iload (pc := 37) hx hb dX6_apart_37 (lv_at hl 0 rfl) ?_
  refine lv_iadd (pc := 39) hx hb dX6_apart_39 ?_
  refine lv_istore (pc := 40) (lv' := [(7, .int (x5 + y0)), (6, .int y0), (0, .ref a_t), (5, .int x5)]) hx hb dX6_apart_40 hl (by decide) rfl (fun ls hl => ?_)
  refine lv_iload (pc := 42) hx hb dX6_apart_42 (lv_at hl 3 rfl) ?_
  refine lv_iload (pc := 44) hx hb dX6_apart_44 (lv_at hl 1 rfl) ?_
  refine lv_icmp_le (tgt := 54) (pc := 46) hx hb dX6_apart_46 (by decide) (fun c1 => ?_) (fun c1 => ?_)
  · have hf := ifp c1 hf
    refine lv_iload (pc := 54) hx hb dX6_apart_54 (lv_at hl 1 rfl) ?_
    exact k_X6_apart_56 C (t_stopCount) (t_metric) (t_fixed) ((x5 + y0)) (y0) hf S (lv_sub hl [2, 0] rfl)
  · have hf := ifn c1 hf
    refine lv_iload (pc := 49) hx hb dX6_apart_49 (lv_at hl 3 rfl) ?_
    refine lv_goto (tgt := 56) (pc := 51) hx hb dX6_apart_51 (by decide) ?_
    exact k_X6_apart_56 C (t_stopCount) (t_metric) (t_fixed) ((x5 + y0)) (x5) hf S (lv_sub hl [2, 0] rfl)
set_option maxRecDepth 100000 in
set_option maxHeartbeats 4000000 in
theorem k_X6_apart_14 (C : Cx p s m args meth c cX6_apart (some .int) 9 RX6 G A) (t_stopCount : Int32) (t_metric : Int32) (t_fixed : Int32) (x2 : Int32) (x4 : Int32) (y0 : Int32) {H : Heap} {locs : List Loc} {ls : Array Slot} (hf : b_X6_apart_14 x2 x4 y0 t_metric = some r) (S : St G A s.heap H locs (w_X6_apart G a_t a_t_facts a_t_roundsOf a_t_locked a_t_rules a_t_sizes a_t_rows a_t_seen a_t_plan a_t_book t_stopCount t_metric t_fixed)) (hl : lv_has ls 9 [(0, .ref a_t), (2, .int x2), (4, .int x4)]) : W p l e rm_X6_apart s m args below meth c H locs 0 0 (QI G below args s A r (w_X6_apart G a_t a_t_facts a_t_roundsOf a_t_locked a_t_rules a_t_sizes a_t_rows a_t_seen a_t_plan a_t_book t_stopCount t_metric t_fixed)) (F0 m 14 ls [.int y0]) := by
  unfold b_X6_apart_14 at hf
  have hx := C.1
  have hb := C.2.1
  have hown := C.2.2.2.2.1
  have hts := C.2.2.2.2.2.1
  have hN := C.2.2.2.2.2.2.2.2.2.2
  refine lv_istore (pc := 14) (lv' := [(5, .int y0), (0, .ref a_t), (2, .int x2), (4, .int x4)]) hx hb dX6_apart_14 hl (by decide) rfl (fun ls hl => ?_)
  refine lv_iload_n (pc := 16) hx hb dX6_apart_16 rfl (lv_at hl 2 rfl) ?_
  refine lv_iload (pc := 17) hx hb dX6_apart_17 (lv_at hl 3 rfl) ?_
  refine lv_icmp_le (tgt := 29) (pc := 19) hx hb dX6_apart_19 (by decide) (fun c1 => ?_) (fun c1 => ?_)
  · have hf := ifp c1 hf
    refine lv_iload (pc := 29) hx hb dX6_apart_29 (lv_at hl 3 rfl) ?_
    refine lv_iload_n (pc := 31) hx hb dX6_apart_31 rfl (lv_at hl 2 rfl) ?_
    refine lv_isub (pc := 32) hx hb dX6_apart_32 ?_
    exact k_X6_apart_33 C (t_stopCount) (t_metric) (t_fixed) (y0) ((x4 - x2)) hf S (lv_sub hl [1, 0] rfl)
  · have hf := ifn c1 hf
    refine lv_iload_n (pc := 22) hx hb dX6_apart_22 rfl (lv_at hl 2 rfl) ?_
    refine lv_iload (pc := 23) hx hb dX6_apart_23 (lv_at hl 3 rfl) ?_
    refine lv_isub (pc := 25) hx hb dX6_apart_25 ?_
    refine lv_goto (tgt := 33) (pc := 26) hx hb dX6_apart_26 (by decide) ?_
    exact k_X6_apart_33 C (t_stopCount) (t_metric) (t_fixed) (y0) ((x2 - x4)) hf S (lv_sub hl [1, 0] rfl)
set_option maxRecDepth 100000 in
set_option maxHeartbeats 4000000 in
theorem c_X6_apart (l : Launch) (G : GE) (a_t a_t_facts a_t_roundsOf a_t_locked a_t_rules a_t_sizes a_t_rows a_t_seen a_t_plan a_t_book : Nat) (t_stopCount : Int32) (t_metric : Int32) (t_fixed : Int32) (x1 : Int32) (x2 : Int32) (x3 : Int32) (x4 : Int32) (r : Int32) (hf : f_X6_apart t_metric x1 x2 x3 x4 = some r) : CI l G yX6_apart kw_X6_apart rm_X6_apart [.ref a_t, .int x1, .int x2, .int x3, .int x4] (w_X6_apart G a_t a_t_facts a_t_roundsOf a_t_locked a_t_rules a_t_sizes a_t_rows a_t_seen a_t_plan a_t_book t_stopCount t_metric t_fixed) r (w_X6_apart G a_t a_t_facts a_t_roundsOf a_t_locked a_t_rules a_t_sizes a_t_rows a_t_seen a_t_plan a_t_book t_stopCount t_metric t_fixed) := by
  refine en_I (cc := cX6_apart) (maxL := 9) (ret := (some .int)) (by decide +kernel) (Nat.le_of_ble_eq_true rfl) ?_
  intro p e s m args below meth c A ls C S hl
  have hl : lv_has ls 9 [(0, .ref a_t), (1, .int x1), (2, .int x2), (3, .int x3), (4, .int x4)] := hl
  have C : Cx p s m args meth c cX6_apart (some .int) 9 RX6 G A := C
  unfold f_X6_apart at hf
  have hx := C.1
  have hb := C.2.1
  have hown := C.2.2.2.2.1
  have hts := C.2.2.2.2.2.1
  have hN := C.2.2.2.2.2.2.2.2.2.2
  refine lv_iload_n (pc := 0) hx hb dX6_apart_0 rfl (lv_at hl 1 rfl) ?_
  refine lv_iload_n (pc := 1) hx hb dX6_apart_1 rfl (lv_at hl 3 rfl) ?_
  refine lv_icmp_le (tgt := 11) (pc := 2) hx hb dX6_apart_2 (by decide) (fun c1 => ?_) (fun c1 => ?_)
  · have hf := ifp c1 hf
    refine lv_iload_n (pc := 11) hx hb dX6_apart_11 rfl (lv_at hl 3 rfl) ?_
    refine lv_iload_n (pc := 12) hx hb dX6_apart_12 rfl (lv_at hl 1 rfl) ?_
    refine lv_isub (pc := 13) hx hb dX6_apart_13 ?_
    exact k_X6_apart_14 C (t_stopCount) (t_metric) (t_fixed) (x2) (x4) ((x3 - x1)) hf S (lv_sub hl [0, 2, 4] rfl)
  · have hf := ifn c1 hf
    refine lv_iload_n (pc := 5) hx hb dX6_apart_5 rfl (lv_at hl 1 rfl) ?_
    refine lv_iload_n (pc := 6) hx hb dX6_apart_6 rfl (lv_at hl 3 rfl) ?_
    refine lv_isub (pc := 7) hx hb dX6_apart_7 ?_
    refine lv_goto (tgt := 14) (pc := 8) hx hb dX6_apart_8 (by decide) ?_
    exact k_X6_apart_14 C (t_stopCount) (t_metric) (t_fixed) (x2) (x4) ((x1 - x3)) hf S (lv_sub hl [0, 2, 4] rfl)
end
abbrev rm_X6_way : Room := { frames := 1, cells := 0, slots := 0, locals := 28 }
abbrev kw_X6_way : Cond := .code yX6_way cX6_way 3 (some .int)
abbrev w_X6_way (G : GE) (a_t a_t_facts a_t_roundsOf a_t_locked a_t_rules a_t_sizes a_t_rows a_t_seen a_t_plan a_t_book : Nat) (t_stopCount : Int32) (t_metric : Int32) (t_fixed : Int32) (t_facts : Nat → Int32) : va_W := [(a_t, ob 6 [.ref a_t_facts, .ref a_t_roundsOf, .ref a_t_locked, .ref a_t_rules, .ref a_t_sizes, .ref a_t_rows, .ref a_t_seen, .ref a_t_plan, .ref a_t_book, .int t_stopCount, .int t_metric, .int t_fixed]), (a_t_facts, aI G 102 t_facts)]
theorem u_X6_way_X6_fact_85 {s : State} {args : Array Value} (hts : ∀ w ∈ WU, w.before args s = true) : CallW rm_X6_way s args RX6 RX6 85 yX6_fact cX6_fact 4 (some .int) (kw_X6_fact :: WU) rm_X6_fact 0 0 2 := cwV 2 hts (gV qm_6_85 qi_X6_fact ql_X6_fact qn_6 qc_X6_fact) rfl rfl rfl (by decide +kernel) ⟨Nat.le_of_ble_eq_true rfl, Nat.le_of_ble_eq_true rfl⟩
theorem u_X6_way_X6_apart_110 {s : State} {args : Array Value} (hts : ∀ w ∈ WU, w.before args s = true) : CallW rm_X6_way s args RX6 RX6 110 yX6_apart cX6_apart 9 (some .int) (kw_X6_apart :: WU) rm_X6_apart 0 0 4 := cwV 4 hts (gV qm_6_110 qi_X6_apart ql_X6_apart qn_6 qc_X6_apart) rfl rfl rfl (by decide +kernel) ⟨Nat.le_of_ble_eq_true rfl, Nat.le_of_ble_eq_true rfl⟩
section
variable {p : Program} {l : Launch} {e : Env} {s : State} {m : MethodId} {args : Array Value} {below : List Frame} {meth : Method} {c : Code} {A : Nat → Prop} {G : GE} {a_t a_t_facts a_t_roundsOf a_t_locked a_t_rules a_t_sizes a_t_rows a_t_seen a_t_plan a_t_book : Nat} {r : Int32}
set_option maxRecDepth 100000 in
set_option maxHeartbeats 4000000 in
theorem c_X6_way (l : Launch) (G : GE) (a_t a_t_facts a_t_roundsOf a_t_locked a_t_rules a_t_sizes a_t_rows a_t_seen a_t_plan a_t_book : Nat) (t_stopCount : Int32) (t_metric : Int32) (t_fixed : Int32) (t_facts : Nat → Int32) (x1 : Int32) (x2 : Int32) (r : Int32) (hf : f_X6_way t_facts t_metric x1 x2 = some r) : CI l G yX6_way kw_X6_way rm_X6_way [.ref a_t, .int x1, .int x2] (w_X6_way G a_t a_t_facts a_t_roundsOf a_t_locked a_t_rules a_t_sizes a_t_rows a_t_seen a_t_plan a_t_book t_stopCount t_metric t_fixed t_facts) r (w_X6_way G a_t a_t_facts a_t_roundsOf a_t_locked a_t_rules a_t_sizes a_t_rows a_t_seen a_t_plan a_t_book t_stopCount t_metric t_fixed t_facts) := by
  refine en_I (cc := cX6_way) (maxL := 3) (ret := (some .int)) (by decide +kernel) (Nat.le_of_ble_eq_true rfl) ?_
  intro p e s m args below meth c A ls C S hl
  have hl : lv_has ls 3 [(0, .ref a_t), (1, .int x1), (2, .int x2)] := hl
  have C : Cx p s m args meth c cX6_way (some .int) 3 RX6 G A := C
  unfold f_X6_way at hf
  have hx := C.1
  have hb := C.2.1
  have hown := C.2.2.2.2.1
  have hts := C.2.2.2.2.2.1
  have hN := C.2.2.2.2.2.2.2.2.2.2
  refine lv_aload_n (pc := 0) hx hb dX6_way_0 rfl (lv_at hl 0 rfl) ?_
  refine lv_aload_n (pc := 1) hx hb dX6_way_1 rfl (lv_at hl 0 rfl) ?_
  refine lv_iload_n (pc := 2) hx hb dX6_way_2 rfl (lv_at hl 1 rfl) ?_
  refine lv_iconst (pc := 3) hx hb dX6_way_3 ic_0 ?_
  obtain ⟨r1, hq1, hf⟩ := bd_e hf
  refine x_vI (pc := 4) (As := [.int x1, .int (0 : Int32)]) (rest := [.ref a_t]) (isC := [0, 1]) (ws' := (w_X6_way G a_t a_t_facts a_t_roundsOf a_t_locked a_t_rules a_t_sizes a_t_rows a_t_seen a_t_plan a_t_book t_stopCount t_metric t_fixed t_facts)) C S (c_X6_fact l G a_t a_t_facts a_t_roundsOf a_t_locked a_t_rules a_t_sizes a_t_rows a_t_seen a_t_plan a_t_book t_stopCount t_metric t_fixed t_facts x1 (0 : Int32) r1 hq1) (u_X6_way_X6_fact_85 hts) (ci := 6) rfl 0 rfl rfl rfl rfl rfl rfl hl.1 rfl (Nat.le_of_ble_eq_true rfl) dX6_way_4 (fun H locs S => ?_)
  refine lv_aload_n (pc := 7) hx hb dX6_way_7 rfl (lv_at hl 0 rfl) ?_
  refine lv_iload_n (pc := 8) hx hb dX6_way_8 rfl (lv_at hl 1 rfl) ?_
  refine lv_iconst (pc := 9) hx hb dX6_way_9 ic_1 ?_
  obtain ⟨r2, hq2, hf⟩ := bd_e hf
  refine x_vI (pc := 10) (As := [.int x1, .int (1 : Int32)]) (rest := [.int r1, .ref a_t]) (isC := [0, 1]) (ws' := (w_X6_way G a_t a_t_facts a_t_roundsOf a_t_locked a_t_rules a_t_sizes a_t_rows a_t_seen a_t_plan a_t_book t_stopCount t_metric t_fixed t_facts)) C S (c_X6_fact l G a_t a_t_facts a_t_roundsOf a_t_locked a_t_rules a_t_sizes a_t_rows a_t_seen a_t_plan a_t_book t_stopCount t_metric t_fixed t_facts x1 (1 : Int32) r2 hq2) (u_X6_way_X6_fact_85 hts) (ci := 6) rfl 0 rfl rfl rfl rfl rfl rfl hl.1 rfl (Nat.le_of_ble_eq_true rfl) dX6_way_10 (fun H locs S => ?_)
  refine lv_aload_n (pc := 13) hx hb dX6_way_13 rfl (lv_at hl 0 rfl) ?_
  refine lv_iload_n (pc := 14) hx hb dX6_way_14 rfl (lv_at hl 2 rfl) ?_
  refine lv_iconst (pc := 15) hx hb dX6_way_15 ic_0 ?_
  obtain ⟨r3, hq3, hf⟩ := bd_e hf
  refine x_vI (pc := 16) (As := [.int x2, .int (0 : Int32)]) (rest := [.int r2, .int r1, .ref a_t]) (isC := [0, 1]) (ws' := (w_X6_way G a_t a_t_facts a_t_roundsOf a_t_locked a_t_rules a_t_sizes a_t_rows a_t_seen a_t_plan a_t_book t_stopCount t_metric t_fixed t_facts)) C S (c_X6_fact l G a_t a_t_facts a_t_roundsOf a_t_locked a_t_rules a_t_sizes a_t_rows a_t_seen a_t_plan a_t_book t_stopCount t_metric t_fixed t_facts x2 (0 : Int32) r3 hq3) (u_X6_way_X6_fact_85 hts) (ci := 6) rfl 0 rfl rfl rfl rfl rfl rfl hl.1 rfl (Nat.le_of_ble_eq_true rfl) dX6_way_16 (fun H locs S => ?_)
  refine lv_aload_n (pc := 19) hx hb dX6_way_19 rfl (lv_at hl 0 rfl) ?_
  refine lv_iload_n (pc := 20) hx hb dX6_way_20 rfl (lv_at hl 2 rfl) ?_
  refine lv_iconst (pc := 21) hx hb dX6_way_21 ic_1 ?_
  obtain ⟨r4, hq4, hf⟩ := bd_e hf
  refine x_vI (pc := 22) (As := [.int x2, .int (1 : Int32)]) (rest := [.int r3, .int r2, .int r1, .ref a_t]) (isC := [0, 1]) (ws' := (w_X6_way G a_t a_t_facts a_t_roundsOf a_t_locked a_t_rules a_t_sizes a_t_rows a_t_seen a_t_plan a_t_book t_stopCount t_metric t_fixed t_facts)) C S (c_X6_fact l G a_t a_t_facts a_t_roundsOf a_t_locked a_t_rules a_t_sizes a_t_rows a_t_seen a_t_plan a_t_book t_stopCount t_metric t_fixed t_facts x2 (1 : Int32) r4 hq4) (u_X6_way_X6_fact_85 hts) (ci := 6) rfl 0 rfl rfl rfl rfl rfl rfl hl.1 rfl (Nat.le_of_ble_eq_true rfl) dX6_way_22 (fun H locs S => ?_)
  obtain ⟨r5, hq5, hf⟩ := bd_e hf
  refine x_vI (pc := 25) (As := [.int r1, .int r2, .int r3, .int r4]) (rest := []) (isC := [0]) (ws' := (w_X6_way G a_t a_t_facts a_t_roundsOf a_t_locked a_t_rules a_t_sizes a_t_rows a_t_seen a_t_plan a_t_book t_stopCount t_metric t_fixed t_facts)) C S (c_X6_apart l G a_t a_t_facts a_t_roundsOf a_t_locked a_t_rules a_t_sizes a_t_rows a_t_seen a_t_plan a_t_book t_stopCount t_metric t_fixed r1 r2 r3 r4 r5 hq5) (u_X6_way_X6_apart_110 hts) (ci := 6) rfl 0 rfl rfl rfl rfl rfl rfl hl.1 rfl (Nat.le_of_ble_eq_true rfl) dX6_way_25 (fun H locs S => ?_)
  cases hf
  exact x_iret (pc := 28) C S dX6_way_28
end
abbrev rm_X0_follow : Room := { frames := 2, cells := 0, slots := 0, locals := 50 }
abbrev kw_X0_follow : Cond := .code yX0_follow cX0_follow 9 (some .boolean)
abbrev w_X0_follow (G : GE) (a_t a_t_row a_t_comes a_t_begins a_t_slacks a_p1 a_p1_facts a_p1_roundsOf a_p1_locked a_p1_rules a_p1_sizes a_p1_rows a_p1_seen a_p1_plan a_p1_book : Nat) (t_round : Int32) (t_size : Int32) (t_back : Int32) (t_loads : Int32) (t_miles : Int32) (t_waits : Int32) (t_lateAt : Int32) (t_later : Int32) (t_row : Nat → Int32) (t_comes : Nat → Int32) (t_begins : Nat → Int32) (p1_stopCount : Int32) (p1_metric : Int32) (p1_fixed : Int32) (p1_facts : Nat → Int32) (p1_rules : Nat → Int32) : va_W := [(a_t, ob 0 [.ref a_t_row, .ref a_t_comes, .ref a_t_begins, .ref a_t_slacks, .int t_round, .int t_size, .int t_back, .int t_loads, .int t_miles, .int t_waits, .int t_lateAt, .int t_later]), (a_t_row, aI G 16 t_row), (a_t_comes, aI G 16 t_comes), (a_t_begins, aI G 16 t_begins), (a_p1, ob 6 [.ref a_p1_facts, .ref a_p1_roundsOf, .ref a_p1_locked, .ref a_p1_rules, .ref a_p1_sizes, .ref a_p1_rows, .ref a_p1_seen, .ref a_p1_plan, .ref a_p1_book, .int p1_stopCount, .int p1_metric, .int p1_fixed]), (a_p1_facts, aI G 102 p1_facts), (a_p1_rules, aI G 12 p1_rules)]
theorem u_X0_follow_X6_ruleOf_59 {s : State} {args : Array Value} (hts : ∀ w ∈ WU, w.before args s = true) : CallW rm_X0_follow s args RX0 RX6 59 yX6_ruleOf cX6_ruleOf 4 (some .int) (kw_X6_ruleOf :: WU) rm_X6_ruleOf 0 0 2 := cwV 2 hts (gV qm_0_59 qi_X6_ruleOf ql_X6_ruleOf qn_6 qc_X6_ruleOf) rfl rfl rfl (by decide +kernel) ⟨Nat.le_of_ble_eq_true rfl, Nat.le_of_ble_eq_true rfl⟩
theorem u_X0_follow_X6_way_74 {s : State} {args : Array Value} (hts : ∀ w ∈ WU, w.before args s = true) : CallW rm_X0_follow s args RX0 RX6 74 yX6_way cX6_way 3 (some .int) (kw_X6_way :: WU) rm_X6_way 0 0 2 := cwV 2 hts (gV qm_0_74 qi_X6_way ql_X6_way qn_6 qc_X6_way) rfl rfl rfl (by decide +kernel) ⟨Nat.le_of_ble_eq_true rfl, Nat.le_of_ble_eq_true rfl⟩
theorem u_X0_follow_X6_fact_77 {s : State} {args : Array Value} (hts : ∀ w ∈ WU, w.before args s = true) : CallW rm_X0_follow s args RX0 RX6 77 yX6_fact cX6_fact 4 (some .int) (kw_X6_fact :: WU) rm_X6_fact 0 0 2 := cwV 2 hts (gV qm_0_77 qi_X6_fact ql_X6_fact qn_6 qc_X6_fact) rfl rfl rfl (by decide +kernel) ⟨Nat.le_of_ble_eq_true rfl, Nat.le_of_ble_eq_true rfl⟩
section
variable {p : Program} {l : Launch} {e : Env} {s : State} {m : MethodId} {args : Array Value} {below : List Frame} {meth : Method} {c : Code} {A : Nat → Prop} {G : GE} {a_t a_t_row a_t_comes a_t_begins a_t_slacks a_p1 a_p1_facts a_p1_roundsOf a_p1_locked a_p1_rules a_p1_sizes a_p1_rows a_p1_seen a_p1_plan a_p1_book : Nat} {r : Int32} {z_t_comes : Nat → Int32} {z_t_begins : Nat → Int32} {z_t_back : Int32} {z_t_loads : Int32} {z_t_miles : Int32} {z_t_waits : Int32} {z_t_lateAt : Int32}
set_option maxRecDepth 100000 in
set_option maxHeartbeats 4000000 in
theorem k_X0_follow_309 (C : Cx p s m args meth c cX0_follow (some .boolean) 9 RX0 G A) (t_round : Int32) (t_size : Int32) (t_back : Int32) (t_loads : Int32) (t_miles : Int32) (t_waits : Int32) (t_lateAt : Int32) (t_later : Int32) (t_row : Nat → Int32) (t_comes : Nat → Int32) (t_begins : Nat → Int32) (p1_stopCount : Int32) (p1_metric : Int32) (p1_fixed : Int32) (p1_facts : Nat → Int32) (p1_rules : Nat → Int32) {H : Heap} {locs : List Loc} {ls : Array Slot} (hf : b_X0_follow_309 t_comes t_begins t_round t_back t_loads t_miles t_waits t_lateAt p1_rules = some (r, z_t_comes, z_t_begins, z_t_back, z_t_loads, z_t_miles, z_t_waits, z_t_lateAt)) (S : St G A s.heap H locs (w_X0_follow G a_t a_t_row a_t_comes a_t_begins a_t_slacks a_p1 a_p1_facts a_p1_roundsOf a_p1_locked a_p1_rules a_p1_sizes a_p1_rows a_p1_seen a_p1_plan a_p1_book t_round t_size t_back t_loads t_miles t_waits t_lateAt t_later t_row t_comes t_begins p1_stopCount p1_metric p1_fixed p1_facts p1_rules)) (hl : lv_has ls 9 [(0, .ref a_t), (1, .ref a_p1)]) : W p l e rm_X0_follow s m args below meth c H locs 0 0 (QI G below args s A r (w_X0_follow G a_t a_t_row a_t_comes a_t_begins a_t_slacks a_p1 a_p1_facts a_p1_roundsOf a_p1_locked a_p1_rules a_p1_sizes a_p1_rows a_p1_seen a_p1_plan a_p1_book t_round t_size z_t_back z_t_loads z_t_miles z_t_waits z_t_lateAt t_later t_row z_t_comes z_t_begins p1_stopCount p1_metric p1_fixed p1_facts p1_rules)) (F0 m 309 ls []) := by
  unfold b_X0_follow_309 at hf
  have hx := C.1
  have hb := C.2.1
  have hown := C.2.2.2.2.1
  have hts := C.2.2.2.2.2.1
  have hN := C.2.2.2.2.2.2.2.2.2.2
  refine lv_aload_n (pc := 309) hx hb dX0_follow_309 rfl (lv_at hl 0 rfl) ?_
  refine x_get (pc := 310) (ci := 0) (T := TX0) (v := .int t_lateAt) C S 0 rfl rfl inlX0 10 (by decide) rfl qf_0_71 rfl dX0_follow_310 ?_
  refine lv_bipush (pc := 313) hx hb dX0_follow_313 bc_m5 ?_
  refine lv_icmp_ne (tgt := 338) (pc := 315) hx hb dX0_follow_315 (by decide) (fun c1 => ?_) (fun c1 => ?_)
  · have hf := ifn c1 hf
    refine lv_iconst (pc := 338) hx hb dX0_follow_338 ic_0 ?_
    cases hf
    exact x_zret (pc := 339) (by decide) C S dX0_follow_339
  · have hf := ifp c1 hf
    refine lv_aload_n (pc := 318) hx hb dX0_follow_318 rfl (lv_at hl 0 rfl) ?_
    refine x_get (pc := 319) (ci := 0) (T := TX0) (v := .int t_loads) C S 0 rfl rfl inlX0 7 (by decide) rfl qf_0_62 rfl dX0_follow_319 ?_
    refine lv_aload_n (pc := 322) hx hb dX0_follow_322 rfl (lv_at hl 1 rfl) ?_
    refine lv_aload_n (pc := 323) hx hb dX0_follow_323 rfl (lv_at hl 0 rfl) ?_
    refine x_get (pc := 324) (ci := 0) (T := TX0) (v := .int t_round) C S 0 rfl rfl inlX0 4 (by decide) rfl qf_0_24 rfl dX0_follow_324 ?_
    refine lv_iconst (pc := 327) hx hb dX0_follow_327 ic_0 ?_
    obtain ⟨r2, hq2, hf⟩ := bd_e hf
    refine x_vI (pc := 328) (As := [.int t_round, .int (0 : Int32)]) (rest := [.int t_loads]) (isC := [4, 6]) (ws' := (w_X0_follow G a_t a_t_row a_t_comes a_t_begins a_t_slacks a_p1 a_p1_facts a_p1_roundsOf a_p1_locked a_p1_rules a_p1_sizes a_p1_rows a_p1_seen a_p1_plan a_p1_book t_round t_size t_back t_loads t_miles t_waits t_lateAt t_later t_row t_comes t_begins p1_stopCount p1_metric p1_fixed p1_facts p1_rules)) C S (c_X6_ruleOf l G a_p1 a_p1_facts a_p1_roundsOf a_p1_locked a_p1_rules a_p1_sizes a_p1_rows a_p1_seen a_p1_plan a_p1_book p1_stopCount p1_metric p1_fixed p1_rules t_round (0 : Int32) r2 hq2) (u_X0_follow_X6_ruleOf_59 hts) (ci := 6) rfl 4 rfl rfl rfl rfl rfl rfl hl.1 rfl (Nat.le_of_ble_eq_true rfl) dX0_follow_328 (fun H locs S => ?_)
    refine lv_icmp_gt (tgt := 338) (pc := 331) hx hb dX0_follow_331 (by decide) (fun c3 => ?_) (fun c3 => ?_)
    · have hf := ifp c3 hf
      refine lv_iconst (pc := 338) hx hb dX0_follow_338 ic_0 ?_
      cases hf
      exact x_zret (pc := 339) (by decide) C S dX0_follow_339
    · have hf := ifn c3 hf
      refine lv_iconst (pc := 334) hx hb dX0_follow_334 ic_1 ?_
      refine lv_goto (tgt := 339) (pc := 335) hx hb dX0_follow_335 (by decide) ?_
      cases hf
      exact x_zret (pc := 339) (by decide) C S dX0_follow_339
set_option maxRecDepth 100000 in
set_option maxHeartbeats 4000000 in
theorem k_X0_follow_240 (C : Cx p s m args meth c cX0_follow (some .boolean) 9 RX0 G A) (t_round : Int32) (t_size : Int32) (t_back : Int32) (t_loads : Int32) (t_miles : Int32) (t_waits : Int32) (t_lateAt : Int32) (t_later : Int32) (t_row : Nat → Int32) (t_comes : Nat → Int32) (t_begins : Nat → Int32) (p1_stopCount : Int32) (p1_metric : Int32) (p1_fixed : Int32) (p1_facts : Nat → Int32) (p1_rules : Nat → Int32) (x3 : Int32) (x4 : Int32) {H : Heap} {locs : List Loc} {ls : Array Slot} (hf : b_X0_follow_240 x3 x4 t_comes t_begins t_round t_size t_loads t_miles t_waits t_lateAt p1_facts p1_rules p1_metric = some (r, z_t_comes, z_t_begins, z_t_back, z_t_loads, z_t_miles, z_t_waits, z_t_lateAt)) (S : St G A s.heap H locs (w_X0_follow G a_t a_t_row a_t_comes a_t_begins a_t_slacks a_p1 a_p1_facts a_p1_roundsOf a_p1_locked a_p1_rules a_p1_sizes a_p1_rows a_p1_seen a_p1_plan a_p1_book t_round t_size t_back t_loads t_miles t_waits t_lateAt t_later t_row t_comes t_begins p1_stopCount p1_metric p1_fixed p1_facts p1_rules)) (hl : lv_has ls 9 [(0, .ref a_t), (1, .ref a_p1), (3, .int x3), (4, .int x4)]) : W p l e rm_X0_follow s m args below meth c H locs 0 0 (QI G below args s A r (w_X0_follow G a_t a_t_row a_t_comes a_t_begins a_t_slacks a_p1 a_p1_facts a_p1_roundsOf a_p1_locked a_p1_rules a_p1_sizes a_p1_rows a_p1_seen a_p1_plan a_p1_book t_round t_size z_t_back z_t_loads z_t_miles z_t_waits z_t_lateAt t_later t_row z_t_comes z_t_begins p1_stopCount p1_metric p1_fixed p1_facts p1_rules)) (F0 m 240 ls []) := by
  unfold b_X0_follow_240 at hf
  have hx := C.1
  have hb := C.2.1
  have hown := C.2.2.2.2.1
  have hts := C.2.2.2.2.2.1
  have hN := C.2.2.2.2.2.2.2.2.2.2
  refine lv_aload_n (pc := 240) hx hb dX0_follow_240 rfl (lv_at hl 1 rfl) ?_
  refine lv_iload (pc := 241) hx hb dX0_follow_241 (lv_at hl 3 rfl) ?_
  refine lv_bipush (pc := 243) hx hb dX0_follow_243 bc_16 ?_
  obtain ⟨r1, hq1, hf⟩ := bd_e hf
  refine x_vI (pc := 245) (As := [.int x4, .int (16 : Int32)]) (rest := []) (isC := [4, 5]) (ws' := (w_X0_follow G a_t a_t_row a_t_comes a_t_begins a_t_slacks a_p1 a_p1_facts a_p1_roundsOf a_p1_locked a_p1_rules a_p1_sizes a_p1_rows a_p1_seen a_p1_plan a_p1_book t_round t_size t_back t_loads t_miles t_waits t_lateAt t_later t_row t_comes t_begins p1_stopCount p1_metric p1_fixed p1_facts p1_rules)) C S (c_X6_way l G a_p1 a_p1_facts a_p1_roundsOf a_p1_locked a_p1_rules a_p1_sizes a_p1_rows a_p1_seen a_p1_plan a_p1_book p1_stopCount p1_metric p1_fixed p1_facts x4 (16 : Int32) r1 hq1) (u_X0_follow_X6_way_74 hts) (ci := 6) rfl 4 rfl rfl rfl rfl rfl rfl hl.1 rfl (Nat.le_of_ble_eq_true rfl) dX0_follow_245 (fun H locs S => ?_)
  refine lv_istore (pc := 248) (lv' := [(5, .int r1), (0, .ref a_t), (1, .ref a_p1), (3, .int x3), (4, .int x4)]) hx hb dX0_follow_248 hl (by decide) rfl (fun ls hl => ?_)
  refine lv_aload_n (pc := 250) hx hb dX0_follow_250 rfl (lv_at hl 1 rfl) ?_
  refine lv_dup (pc := 251) hx hb dX0_follow_251 rfl ?_
  refine x_get (pc := 252) (ci := 0) (T := TX0) (v := .int t_miles) C S 0 rfl rfl inlX0 8 (by decide) rfl qf_0_65 rfl dX0_follow_252 ?_
  refine lv_iload (pc := 255) hx hb dX0_follow_255 (lv_at hl 0 rfl) ?_
  refine lv_iadd (pc := 257) hx hb dX0_follow_257 ?_
  refine x_put (pc := 258) (ci := 0) (T := TX0) (ws' := (w_X0_follow G a_t a_t_row a_t_comes a_t_begins a_t_slacks a_p1 a_p1_facts a_p1_roundsOf a_p1_locked a_p1_rules a_p1_sizes a_p1_rows a_p1_seen a_p1_plan a_p1_book t_round t_size t_back t_loads (t_miles + r1) t_waits t_lateAt t_later t_row t_comes t_begins p1_stopCount p1_metric p1_fixed p1_facts p1_rules)) C S tyX0 tyX0_ok nmX0 0 rfl rfl inlX0 8 (by decide) rfl qf_0_65 rfl rfl rfl rfl (Nat.le_of_ble_eq_true rfl) rfl dX0_follow_258 (fun H locs S => ?_)
  refine lv_aload_n (pc := 261) hx hb dX0_follow_261 rfl (lv_at hl 1 rfl) ?_
  refine lv_iload_n (pc := 262) hx hb dX0_follow_262 rfl (lv_at hl 3 rfl) ?_
  refine lv_iload (pc := 263) hx hb dX0_follow_263 (lv_at hl 0 rfl) ?_
  refine lv_iadd (pc := 265) hx hb dX0_follow_265 ?_
  refine x_put (pc := 266) (ci := 0) (T := TX0) (ws' := (w_X0_follow G a_t a_t_row a_t_comes a_t_begins a_t_slacks a_p1 a_p1_facts a_p1_roundsOf a_p1_locked a_p1_rules a_p1_sizes a_p1_rows a_p1_seen a_p1_plan a_p1_book t_round t_size (x3 + r1) t_loads (t_miles + r1) t_waits t_lateAt t_later t_row t_comes t_begins p1_stopCount p1_metric p1_fixed p1_facts p1_rules)) C S tyX0 tyX0_ok nmX0 0 rfl rfl inlX0 6 (by decide) rfl qf_0_80 rfl rfl rfl rfl (Nat.le_of_ble_eq_true rfl) rfl dX0_follow_266 (fun H locs S => ?_)
  refine lv_aload_n (pc := 269) hx hb dX0_follow_269 rfl (lv_at hl 1 rfl) ?_
  refine x_get (pc := 270) (ci := 0) (T := TX0) (v := .int t_size) C S 0 rfl rfl inlX0 5 (by decide) rfl qf_0_34 rfl dX0_follow_270 ?_
  refine lv_if_le (tgt := 309) (pc := 273) hx hb dX0_follow_273 (by decide) (fun c2 => ?_) (fun c2 => ?_)
  · have hf := ifp c2 hf
    exact k_X0_follow_309 C (t_round) (t_size) ((x3 + r1)) (t_loads) ((t_miles + r1)) (t_waits) (t_lateAt) (t_later) (t_row) (t_comes) (t_begins) (p1_stopCount) (p1_metric) (p1_fixed) (p1_facts) (p1_rules) hf S (lv_sub hl [1, 2] rfl)
  · have hf := ifn c2 hf
    refine lv_aload_n (pc := 276) hx hb dX0_follow_276 rfl (lv_at hl 1 rfl) ?_
    refine x_get (pc := 277) (ci := 0) (T := TX0) (v := .int t_lateAt) C S 0 rfl rfl inlX0 10 (by decide) rfl qf_0_71 rfl dX0_follow_277 ?_
    refine lv_bipush (pc := 280) hx hb dX0_follow_280 bc_m5 ?_
    refine lv_icmp_ne (tgt := 309) (pc := 282) hx hb dX0_follow_282 (by decide) (fun c3 => ?_) (fun c3 => ?_)
    · have hf := ifn c3 hf
      exact k_X0_follow_309 C (t_round) (t_size) ((x3 + r1)) (t_loads) ((t_miles + r1)) (t_waits) (t_lateAt) (t_later) (t_row) (t_comes) (t_begins) (p1_stopCount) (p1_metric) (p1_fixed) (p1_facts) (p1_rules) hf S (lv_sub hl [1, 2] rfl)
    · have hf := ifp c3 hf
      refine lv_aload_n (pc := 285) hx hb dX0_follow_285 rfl (lv_at hl 1 rfl) ?_
      refine x_get (pc := 286) (ci := 0) (T := TX0) (v := .int (x3 + r1)) C S 0 rfl rfl inlX0 6 (by decide) rfl qf_0_80 rfl dX0_follow_286 ?_
      refine lv_aload_n (pc := 289) hx hb dX0_follow_289 rfl (lv_at hl 2 rfl) ?_
      refine lv_aload_n (pc := 290) hx hb dX0_follow_290 rfl (lv_at hl 1 rfl) ?_
      refine x_get (pc := 291) (ci := 0) (T := TX0) (v := .int t_round) C S 0 rfl rfl inlX0 4 (by decide) rfl qf_0_24 rfl dX0_follow_291 ?_
      refine lv_iconst (pc := 294) hx hb dX0_follow_294 ic_2 ?_
      obtain ⟨r4, hq4, hf⟩ := bd_e hf
      refine x_vI (pc := 295) (As := [.int t_round, .int (2 : Int32)]) (rest := [.int (x3 + r1)]) (isC := [4, 6]) (ws' := (w_X0_follow G a_t a_t_row a_t_comes a_t_begins a_t_slacks a_p1 a_p1_facts a_p1_roundsOf a_p1_locked a_p1_rules a_p1_sizes a_p1_rows a_p1_seen a_p1_plan a_p1_book t_round t_size (x3 + r1) t_loads (t_miles + r1) t_waits t_lateAt t_later t_row t_comes t_begins p1_stopCount p1_metric p1_fixed p1_facts p1_rules)) C S (c_X6_ruleOf l G a_p1 a_p1_facts a_p1_roundsOf a_p1_locked a_p1_rules a_p1_sizes a_p1_rows a_p1_seen a_p1_plan a_p1_book p1_stopCount p1_metric p1_fixed p1_rules t_round (2 : Int32) r4 hq4) (u_X0_follow_X6_ruleOf_59 hts) (ci := 6) rfl 4 rfl rfl rfl rfl rfl rfl hl.1 rfl (Nat.le_of_ble_eq_true rfl) dX0_follow_295 (fun H locs S => ?_)
      refine lv_icmp_le (tgt := 309) (pc := 298) hx hb dX0_follow_298 (by decide) (fun c5 => ?_) (fun c5 => ?_)
      · have hf := ifp c5 hf
        exact k_X0_follow_309 C (t_round) (t_size) ((x3 + r1)) (t_loads) ((t_miles + r1)) (t_waits) (t_lateAt) (t_later) (t_row) (t_comes) (t_begins) (p1_stopCount) (p1_metric) (p1_fixed) (p1_facts) (p1_rules) hf S (lv_sub hl [1, 2] rfl)
      · have hf := ifn c5 hf
        refine lv_aload_n (pc := 301) hx hb dX0_follow_301 rfl (lv_at hl 1 rfl) ?_
        refine lv_aload_n (pc := 302) hx hb dX0_follow_302 rfl (lv_at hl 1 rfl) ?_
        refine x_get (pc := 303) (ci := 0) (T := TX0) (v := .int t_size) C S 0 rfl rfl inlX0 5 (by decide) rfl qf_0_34 rfl dX0_follow_303 ?_
        refine x_put (pc := 306) (ci := 0) (T := TX0) (ws' := (w_X0_follow G a_t a_t_row a_t_comes a_t_begins a_t_slacks a_p1 a_p1_facts a_p1_roundsOf a_p1_locked a_p1_rules a_p1_sizes a_p1_rows a_p1_seen a_p1_plan a_p1_book t_round t_size (x3 + r1) t_loads (t_miles + r1) t_waits t_size t_later t_row t_comes t_begins p1_stopCount p1_metric p1_fixed p1_facts p1_rules)) C S tyX0 tyX0_ok nmX0 0 rfl rfl inlX0 10 (by decide) rfl qf_0_71 rfl rfl rfl rfl (Nat.le_of_ble_eq_true rfl) rfl dX0_follow_306 (fun H locs S => ?_)
        exact k_X0_follow_309 C (t_round) (t_size) ((x3 + r1)) (t_loads) ((t_miles + r1)) (t_waits) (t_size) (t_later) (t_row) (t_comes) (t_begins) (p1_stopCount) (p1_metric) (p1_fixed) (p1_facts) (p1_rules) hf S (lv_sub hl [1, 2] rfl)
set_option maxRecDepth 100000 in
set_option maxHeartbeats 4000000 in
theorem k_X0_follow_160 (C : Cx p s m args meth c cX0_follow (some .boolean) 9 RX0 G A) (t_round : Int32) (t_size : Int32) (t_back : Int32) (t_loads : Int32) (t_miles : Int32) (t_waits : Int32) (t_lateAt : Int32) (t_later : Int32) (t_row : Nat → Int32) (t_comes : Nat → Int32) (t_begins : Nat → Int32) (p1_stopCount : Int32) (p1_metric : Int32) (p1_fixed : Int32) (p1_facts : Nat → Int32) (p1_rules : Nat → Int32) (x5 : Int32) (x6 : Int32) (x7 : Int32) (y1 : Int32) (k40 : Int32 × Int32 × Int32 × (Nat → Int32) × (Nat → Int32) × Int32 × Int32 × Int32 × Int32 → Option (Int32 × (Nat → Int32) × (Nat → Int32) × Int32 × Int32 × Int32 × Int32 × Int32)) (hk40 : ∀ {H : Heap} {locs : List Loc} {ls : Array Slot} (x3' : Int32) (x4' : Int32) (x5' : Int32) (t_comes' : Nat → Int32) (t_begins' : Nat → Int32) (t_loads' : Int32) (t_miles' : Int32) (t_waits' : Int32) (t_lateAt' : Int32), k40 (x3', x4', x5', t_comes', t_begins', t_loads', t_miles', t_waits', t_lateAt') = some (r, z_t_comes, z_t_begins, z_t_back, z_t_loads, z_t_miles, z_t_waits, z_t_lateAt) → St G A s.heap H locs (w_X0_follow G a_t a_t_row a_t_comes a_t_begins a_t_slacks a_p1 a_p1_facts a_p1_roundsOf a_p1_locked a_p1_rules a_p1_sizes a_p1_rows a_p1_seen a_p1_plan a_p1_book t_round t_size t_back t_loads' t_miles' t_waits' t_lateAt' t_later t_row t_comes' t_begins' p1_stopCount p1_metric p1_fixed p1_facts p1_rules) → lv_has ls 9 [(0, .ref a_t), (1, .ref a_p1), (3, .int x3'), (4, .int x4'), (5, .int x5')] → W p l e rm_X0_follow s m args below meth c H locs 0 0 (QI G below args s A r (w_X0_follow G a_t a_t_row a_t_comes a_t_begins a_t_slacks a_p1 a_p1_facts a_p1_roundsOf a_p1_locked a_p1_rules a_p1_sizes a_p1_rows a_p1_seen a_p1_plan a_p1_book t_round t_size z_t_back z_t_loads z_t_miles z_t_waits z_t_lateAt t_later t_row z_t_comes z_t_begins p1_stopCount p1_metric p1_fixed p1_facts p1_rules)) (F0 m 40 ls [])) {H : Heap} {locs : List Loc} {ls : Array Slot} (hf : b_X0_follow_160 k40 x5 x6 x7 y1 t_row t_comes t_begins t_round t_size t_loads t_miles t_waits p1_facts p1_rules p1_metric = some (r, z_t_comes, z_t_begins, z_t_back, z_t_loads, z_t_miles, z_t_waits, z_t_lateAt)) (S : St G A s.heap H locs (w_X0_follow G a_t a_t_row a_t_comes a_t_begins a_t_slacks a_p1 a_p1_facts a_p1_roundsOf a_p1_locked a_p1_rules a_p1_sizes a_p1_rows a_p1_seen a_p1_plan a_p1_book t_round t_size t_back t_loads t_miles t_waits t_lateAt t_later t_row t_comes t_begins p1_stopCount p1_metric p1_fixed p1_facts p1_rules)) (hl : lv_has ls 9 [(0, .ref a_t), (1, .ref a_p1), (5, .int x5), (6, .int x6), (7, .int x7)]) : W p l e rm_X0_follow s m args below meth c H locs 0 0 (QI G below args s A r (w_X0_follow G a_t a_t_row a_t_comes a_t_begins a_t_slacks a_p1 a_p1_facts a_p1_roundsOf a_p1_locked a_p1_rules a_p1_sizes a_p1_rows a_p1_seen a_p1_plan a_p1_book t_round t_size z_t_back z_t_loads z_t_miles z_t_waits z_t_lateAt t_later t_row z_t_comes z_t_begins p1_stopCount p1_metric p1_fixed p1_facts p1_rules)) (F0 m 160 ls [.int y1, .ref a_t]) := by
  unfold b_X0_follow_160 at hf
  have hx := C.1
  have hb := C.2.1
  have hown := C.2.2.2.2.1
  have hts := C.2.2.2.2.2.1
  have hN := C.2.2.2.2.2.2.2.2.2.2
  refine x_put (pc := 160) (ci := 0) (T := TX0) (ws' := (w_X0_follow G a_t a_t_row a_t_comes a_t_begins a_t_slacks a_p1 a_p1_facts a_p1_roundsOf a_p1_locked a_p1_rules a_p1_sizes a_p1_rows a_p1_seen a_p1_plan a_p1_book t_round t_size t_back t_loads t_miles t_waits y1 t_later t_row t_comes t_begins p1_stopCount p1_metric p1_fixed p1_facts p1_rules)) C S tyX0 tyX0_ok nmX0 0 rfl rfl inlX0 10 (by decide) rfl qf_0_71 rfl rfl rfl rfl (Nat.le_of_ble_eq_true rfl) rfl dX0_follow_160 (fun H locs S => ?_)
  refine lv_aload_n (pc := 163) hx hb dX0_follow_163 rfl (lv_at hl 0 rfl) ?_
  refine lv_dup (pc := 164) hx hb dX0_follow_164 rfl ?_
  refine x_get (pc := 165) (ci := 0) (T := TX0) (v := .int t_miles) C S 0 rfl rfl inlX0 8 (by decide) rfl qf_0_65 rfl dX0_follow_165 ?_
  refine lv_iload (pc := 168) hx hb dX0_follow_168 (lv_at hl 4 rfl) ?_
  refine lv_iadd (pc := 170) hx hb dX0_follow_170 ?_
  refine x_put (pc := 171) (ci := 0) (T := TX0) (ws' := (w_X0_follow G a_t a_t_row a_t_comes a_t_begins a_t_slacks a_p1 a_p1_facts a_p1_roundsOf a_p1_locked a_p1_rules a_p1_sizes a_p1_rows a_p1_seen a_p1_plan a_p1_book t_round t_size t_back t_loads (t_miles + x7) t_waits y1 t_later t_row t_comes t_begins p1_stopCount p1_metric p1_fixed p1_facts p1_rules)) C S tyX0 tyX0_ok nmX0 0 rfl rfl inlX0 8 (by decide) rfl qf_0_65 rfl rfl rfl rfl (Nat.le_of_ble_eq_true rfl) rfl dX0_follow_171 (fun H locs S => ?_)
  refine lv_aload_n (pc := 174) hx hb dX0_follow_174 rfl (lv_at hl 0 rfl) ?_
  refine lv_dup (pc := 175) hx hb dX0_follow_175 rfl ?_
  refine x_get (pc := 176) (ci := 0) (T := TX0) (v := .int t_waits) C S 0 rfl rfl inlX0 9 (by decide) rfl qf_0_68 rfl dX0_follow_176 ?_
  refine lv_aload_n (pc := 179) hx hb dX0_follow_179 rfl (lv_at hl 0 rfl) ?_
  refine x_get (pc := 180) (ci := 0) (T := TX0) (v := .ref a_t_begins) C S 0 rfl rfl inlX0 2 (by decide) rfl qf_0_18 rfl dX0_follow_180 ?_
  refine lv_iload (pc := 183) hx hb dX0_follow_183 (lv_at hl 2 rfl) ?_
  obtain ⟨hv1, hf⟩ := gI_e hf
  refine x_iald (pc := 185) C S 3 rfl hv1 dX0_follow_185 ?_
  refine lv_aload_n (pc := 186) hx hb dX0_follow_186 rfl (lv_at hl 0 rfl) ?_
  refine x_get (pc := 187) (ci := 0) (T := TX0) (v := .ref a_t_comes) C S 0 rfl rfl inlX0 1 (by decide) rfl qf_0_15 rfl dX0_follow_187 ?_
  refine lv_iload (pc := 190) hx hb dX0_follow_190 (lv_at hl 2 rfl) ?_
  refine x_iald (pc := 192) C S 2 rfl hv1 dX0_follow_192 ?_
  refine lv_isub (pc := 193) hx hb dX0_follow_193 ?_
  refine lv_iadd (pc := 194) hx hb dX0_follow_194 ?_
  refine x_put (pc := 195) (ci := 0) (T := TX0) (ws' := (w_X0_follow G a_t a_t_row a_t_comes a_t_begins a_t_slacks a_p1 a_p1_facts a_p1_roundsOf a_p1_locked a_p1_rules a_p1_sizes a_p1_rows a_p1_seen a_p1_plan a_p1_book t_round t_size t_back t_loads (t_miles + x7) (t_waits + ((t_begins x5.toNatClampNeg) - (t_comes x5.toNatClampNeg))) y1 t_later t_row t_comes t_begins p1_stopCount p1_metric p1_fixed p1_facts p1_rules)) C S tyX0 tyX0_ok nmX0 0 rfl rfl inlX0 9 (by decide) rfl qf_0_68 rfl rfl rfl rfl (Nat.le_of_ble_eq_true rfl) rfl dX0_follow_195 (fun H locs S => ?_)
  refine lv_aload_n (pc := 198) hx hb dX0_follow_198 rfl (lv_at hl 0 rfl) ?_
  refine lv_dup (pc := 199) hx hb dX0_follow_199 rfl ?_
  refine x_get (pc := 200) (ci := 0) (T := TX0) (v := .int t_loads) C S 0 rfl rfl inlX0 7 (by decide) rfl qf_0_62 rfl dX0_follow_200 ?_
  refine lv_aload_n (pc := 203) hx hb dX0_follow_203 rfl (lv_at hl 1 rfl) ?_
  refine lv_iload (pc := 204) hx hb dX0_follow_204 (lv_at hl 3 rfl) ?_
  refine lv_iconst (pc := 206) hx hb dX0_follow_206 ic_2 ?_
  obtain ⟨r2, hq2, hf⟩ := bd_e hf
  refine x_vI (pc := 207) (As := [.int x6, .int (2 : Int32)]) (rest := [.int t_loads, .ref a_t]) (isC := [4, 5]) (ws' := (w_X0_follow G a_t a_t_row a_t_comes a_t_begins a_t_slacks a_p1 a_p1_facts a_p1_roundsOf a_p1_locked a_p1_rules a_p1_sizes a_p1_rows a_p1_seen a_p1_plan a_p1_book t_round t_size t_back t_loads (t_miles + x7) (t_waits + ((t_begins x5.toNatClampNeg) - (t_comes x5.toNatClampNeg))) y1 t_later t_row t_comes t_begins p1_stopCount p1_metric p1_fixed p1_facts p1_rules)) C S (c_X6_fact l G a_p1 a_p1_facts a_p1_roundsOf a_p1_locked a_p1_rules a_p1_sizes a_p1_rows a_p1_seen a_p1_plan a_p1_book p1_stopCount p1_metric p1_fixed p1_facts x6 (2 : Int32) r2 hq2) (u_X0_follow_X6_fact_77 hts) (ci := 6) rfl 4 rfl rfl rfl rfl rfl rfl hl.1 rfl (Nat.le_of_ble_eq_true rfl) dX0_follow_207 (fun H locs S => ?_)
  refine lv_iadd (pc := 210) hx hb dX0_follow_210 ?_
  refine x_put (pc := 211) (ci := 0) (T := TX0) (ws' := (w_X0_follow G a_t a_t_row a_t_comes a_t_begins a_t_slacks a_p1 a_p1_facts a_p1_roundsOf a_p1_locked a_p1_rules a_p1_sizes a_p1_rows a_p1_seen a_p1_plan a_p1_book t_round t_size t_back (t_loads + r2) (t_miles + x7) (t_waits + ((t_begins x5.toNatClampNeg) - (t_comes x5.toNatClampNeg))) y1 t_later t_row t_comes t_begins p1_stopCount p1_metric p1_fixed p1_facts p1_rules)) C S tyX0 tyX0_ok nmX0 0 rfl rfl inlX0 7 (by decide) rfl qf_0_62 rfl rfl rfl rfl (Nat.le_of_ble_eq_true rfl) rfl dX0_follow_211 (fun H locs S => ?_)
  refine lv_aload_n (pc := 214) hx hb dX0_follow_214 rfl (lv_at hl 0 rfl) ?_
  refine x_get (pc := 215) (ci := 0) (T := TX0) (v := .ref a_t_begins) C S 0 rfl rfl inlX0 2 (by decide) rfl qf_0_18 rfl dX0_follow_215 ?_
  refine lv_iload (pc := 218) hx hb dX0_follow_218 (lv_at hl 2 rfl) ?_
  refine x_iald (pc := 220) C S 3 rfl hv1 dX0_follow_220 ?_
  refine lv_aload_n (pc := 221) hx hb dX0_follow_221 rfl (lv_at hl 1 rfl) ?_
  refine lv_iload (pc := 222) hx hb dX0_follow_222 (lv_at hl 3 rfl) ?_
  refine lv_iconst (pc := 224) hx hb dX0_follow_224 ic_5 ?_
  obtain ⟨r3, hq3, hf⟩ := bd_e hf
  refine x_vI (pc := 225) (As := [.int x6, .int (5 : Int32)]) (rest := [.int (t_begins x5.toNatClampNeg)]) (isC := [4, 5]) (ws' := (w_X0_follow G a_t a_t_row a_t_comes a_t_begins a_t_slacks a_p1 a_p1_facts a_p1_roundsOf a_p1_locked a_p1_rules a_p1_sizes a_p1_rows a_p1_seen a_p1_plan a_p1_book t_round t_size t_back (t_loads + r2) (t_miles + x7) (t_waits + ((t_begins x5.toNatClampNeg) - (t_comes x5.toNatClampNeg))) y1 t_later t_row t_comes t_begins p1_stopCount p1_metric p1_fixed p1_facts p1_rules)) C S (c_X6_fact l G a_p1 a_p1_facts a_p1_roundsOf a_p1_locked a_p1_rules a_p1_sizes a_p1_rows a_p1_seen a_p1_plan a_p1_book p1_stopCount p1_metric p1_fixed p1_facts x6 (5 : Int32) r3 hq3) (u_X0_follow_X6_fact_77 hts) (ci := 6) rfl 4 rfl rfl rfl rfl rfl rfl hl.1 rfl (Nat.le_of_ble_eq_true rfl) dX0_follow_225 (fun H locs S => ?_)
  refine lv_iadd (pc := 228) hx hb dX0_follow_228 ?_
  refine lv_istore_n (pc := 229) (lv' := [(3, .int ((t_begins x5.toNatClampNeg) + r3)), (0, .ref a_t), (1, .ref a_p1), (5, .int x5), (6, .int x6), (7, .int x7)]) hx hb dX0_follow_229 rfl hl (by decide) rfl (fun ls hl => ?_)
  refine lv_iload (pc := 230) hx hb dX0_follow_230 (lv_at hl 4 rfl) ?_
  refine lv_istore (pc := 232) (lv' := [(4, .int x6), (3, .int ((t_begins x5.toNatClampNeg) + r3)), (0, .ref a_t), (1, .ref a_p1), (5, .int x5), (6, .int x6), (7, .int x7)]) hx hb dX0_follow_232 hl (by decide) rfl (fun ls hl => ?_)
  refine lv_iinc (pc := 234) (v := (x5 + (1 : Int32))) (lv' := [(5, .int (x5 + (1 : Int32))), (4, .int x6), (3, .int ((t_begins x5.toNatClampNeg) + r3)), (0, .ref a_t), (1, .ref a_p1), (6, .int x6), (7, .int x7)]) hx hb dX0_follow_234 hl (k := 4) rfl (congrArg (fun z => x5 + z) ic_1) (by decide) rfl (fun ls hl => ?_)
  refine lv_goto (tgt := 40) (pc := 237) hx hb dX0_follow_237 (by decide) ?_
  exact hk40 (((t_begins x5.toNatClampNeg) + r3)) (x6) ((x5 + (1 : Int32))) (t_comes) (t_begins) ((t_loads + r2)) ((t_miles + x7)) ((t_waits + ((t_begins x5.toNatClampNeg) - (t_comes x5.toNatClampNeg)))) (y1)  hf S (lv_sub hl [3, 4, 2, 1, 0] rfl)
set_option maxRecDepth 100000 in
set_option maxHeartbeats 4000000 in
theorem k_X0_follow_134 (C : Cx p s m args meth c cX0_follow (some .boolean) 9 RX0 G A) (t_round : Int32) (t_size : Int32) (t_back : Int32) (t_loads : Int32) (t_miles : Int32) (t_waits : Int32) (t_lateAt : Int32) (t_later : Int32) (t_row : Nat → Int32) (t_comes : Nat → Int32) (t_begins : Nat → Int32) (p1_stopCount : Int32) (p1_metric : Int32) (p1_fixed : Int32) (p1_facts : Nat → Int32) (p1_rules : Nat → Int32) (x5 : Int32) (x6 : Int32) (x7 : Int32) (y1 : Int32) (y2 : Int32) (k40 : Int32 × Int32 × Int32 × (Nat → Int32) × (Nat → Int32) × Int32 × Int32 × Int32 × Int32 → Option (Int32 × (Nat → Int32) × (Nat → Int32) × Int32 × Int32 × Int32 × Int32 × Int32)) (hk40 : ∀ {H : Heap} {locs : List Loc} {ls : Array Slot} (x3' : Int32) (x4' : Int32) (x5' : Int32) (t_comes' : Nat → Int32) (t_begins' : Nat → Int32) (t_loads' : Int32) (t_miles' : Int32) (t_waits' : Int32) (t_lateAt' : Int32), k40 (x3', x4', x5', t_comes', t_begins', t_loads', t_miles', t_waits', t_lateAt') = some (r, z_t_comes, z_t_begins, z_t_back, z_t_loads, z_t_miles, z_t_waits, z_t_lateAt) → St G A s.heap H locs (w_X0_follow G a_t a_t_row a_t_comes a_t_begins a_t_slacks a_p1 a_p1_facts a_p1_roundsOf a_p1_locked a_p1_rules a_p1_sizes a_p1_rows a_p1_seen a_p1_plan a_p1_book t_round t_size t_back t_loads' t_miles' t_waits' t_lateAt' t_later t_row t_comes' t_begins' p1_stopCount p1_metric p1_fixed p1_facts p1_rules) → lv_has ls 9 [(0, .ref a_t), (1, .ref a_p1), (3, .int x3'), (4, .int x4'), (5, .int x5')] → W p l e rm_X0_follow s m args below meth c H locs 0 0 (QI G below args s A r (w_X0_follow G a_t a_t_row a_t_comes a_t_begins a_t_slacks a_p1 a_p1_facts a_p1_roundsOf a_p1_locked a_p1_rules a_p1_sizes a_p1_rows a_p1_seen a_p1_plan a_p1_book t_round t_size z_t_back z_t_loads z_t_miles z_t_waits z_t_lateAt t_later t_row z_t_comes z_t_begins p1_stopCount p1_metric p1_fixed p1_facts p1_rules)) (F0 m 40 ls [])) {H : Heap} {locs : List Loc} {ls : Array Slot} (hf : b_X0_follow_134 k40 x5 x6 x7 y1 y2 t_row t_comes t_begins t_round t_size t_loads t_miles t_waits p1_facts p1_rules p1_metric = some (r, z_t_comes, z_t_begins, z_t_back, z_t_loads, z_t_miles, z_t_waits, z_t_lateAt)) (S : St G A s.heap H locs (w_X0_follow G a_t a_t_row a_t_comes a_t_begins a_t_slacks a_p1 a_p1_facts a_p1_roundsOf a_p1_locked a_p1_rules a_p1_sizes a_p1_rows a_p1_seen a_p1_plan a_p1_book t_round t_size t_back t_loads t_miles t_waits t_lateAt t_later t_row t_comes t_begins p1_stopCount p1_metric p1_fixed p1_facts p1_rules)) (hl : lv_has ls 9 [(0, .ref a_t), (1, .ref a_p1), (5, .int x5), (6, .int x6), (7, .int x7)]) : W p l e rm_X0_follow s m args below meth c H locs 0 0 (QI G below args s A r (w_X0_follow G a_t a_t_row a_t_comes a_t_begins a_t_slacks a_p1 a_p1_facts a_p1_roundsOf a_p1_locked a_p1_rules a_p1_sizes a_p1_rows a_p1_seen a_p1_plan a_p1_book t_round t_size z_t_back z_t_loads z_t_miles z_t_waits z_t_lateAt t_later t_row z_t_comes z_t_begins p1_stopCount p1_metric p1_fixed p1_facts p1_rules)) (F0 m 134 ls [.int y2, .int y1, .ref a_t_begins]) := by
  unfold b_X0_follow_134 at hf
  have hx := C.1
  have hb := C.2.1
  have hown := C.2.2.2.2.1
  have hts := C.2.2.2.2.2.1
  have hN := C.2.2.2.2.2.2.2.2.2.2
  obtain ⟨hv1, hf⟩ := gI_e hf
  refine x_iast (pc := 134) (ws' := (w_X0_follow G a_t a_t_row a_t_comes a_t_begins a_t_slacks a_p1 a_p1_facts a_p1_roundsOf a_p1_locked a_p1_rules a_p1_sizes a_p1_rows a_p1_seen a_p1_plan a_p1_book t_round t_size t_back t_loads t_miles t_waits t_lateAt t_later t_row t_comes (upd t_begins y1.toNatClampNeg y2) p1_stopCount p1_metric p1_fixed p1_facts p1_rules)) C S 3 rfl hv1 rfl dX0_follow_134 (fun H locs S => ?_)
  refine lv_aload_n (pc := 135) hx hb dX0_follow_135 rfl (lv_at hl 0 rfl) ?_
  refine lv_aload_n (pc := 136) hx hb dX0_follow_136 rfl (lv_at hl 0 rfl) ?_
  refine x_get (pc := 137) (ci := 0) (T := TX0) (v := .ref a_t_begins) C S 0 rfl rfl inlX0 2 (by decide) rfl qf_0_18 rfl dX0_follow_137 ?_
  refine lv_iload (pc := 140) hx hb dX0_follow_140 (lv_at hl 2 rfl) ?_
  obtain ⟨hv2, hf⟩ := gI_e hf
  refine x_iald (pc := 142) C S 3 rfl hv2 dX0_follow_142 ?_
  refine lv_aload_n (pc := 143) hx hb dX0_follow_143 rfl (lv_at hl 1 rfl) ?_
  refine lv_iload (pc := 144) hx hb dX0_follow_144 (lv_at hl 3 rfl) ?_
  refine lv_iconst (pc := 146) hx hb dX0_follow_146 ic_4 ?_
  obtain ⟨r3, hq3, hf⟩ := bd_e hf
  refine x_vI (pc := 147) (As := [.int x6, .int (4 : Int32)]) (rest := [.int ((upd t_begins y1.toNatClampNeg y2) x5.toNatClampNeg), .ref a_t]) (isC := [4, 5]) (ws' := (w_X0_follow G a_t a_t_row a_t_comes a_t_begins a_t_slacks a_p1 a_p1_facts a_p1_roundsOf a_p1_locked a_p1_rules a_p1_sizes a_p1_rows a_p1_seen a_p1_plan a_p1_book t_round t_size t_back t_loads t_miles t_waits t_lateAt t_later t_row t_comes (upd t_begins y1.toNatClampNeg y2) p1_stopCount p1_metric p1_fixed p1_facts p1_rules)) C S (c_X6_fact l G a_p1 a_p1_facts a_p1_roundsOf a_p1_locked a_p1_rules a_p1_sizes a_p1_rows a_p1_seen a_p1_plan a_p1_book p1_stopCount p1_metric p1_fixed p1_facts x6 (4 : Int32) r3 hq3) (u_X0_follow_X6_fact_77 hts) (ci := 6) rfl 4 rfl rfl rfl rfl rfl rfl hl.1 rfl (Nat.le_of_ble_eq_true rfl) dX0_follow_147 (fun H locs S => ?_)
  refine lv_icmp_le (tgt := 158) (pc := 150) hx hb dX0_follow_150 (by decide) (fun c4 => ?_) (fun c4 => ?_)
  · have hf := ifp c4 hf
    refine lv_bipush (pc := 158) hx hb dX0_follow_158 bc_m5 ?_
    exact k_X0_follow_160 C (t_round) (t_size) (t_back) (t_loads) (t_miles) (t_waits) (t_lateAt) (t_later) (t_row) (t_comes) ((upd t_begins y1.toNatClampNeg y2)) (p1_stopCount) (p1_metric) (p1_fixed) (p1_facts) (p1_rules) (x5) (x6) (x7) ((-5 : Int32)) k40 hk40 hf S (lv_sub hl [0, 1, 2, 3, 4] rfl)
  · have hf := ifn c4 hf
    refine lv_iload (pc := 153) hx hb dX0_follow_153 (lv_at hl 2 rfl) ?_
    refine lv_goto (tgt := 160) (pc := 155) hx hb dX0_follow_155 (by decide) ?_
    exact k_X0_follow_160 C (t_round) (t_size) (t_back) (t_loads) (t_miles) (t_waits) (t_lateAt) (t_later) (t_row) (t_comes) ((upd t_begins y1.toNatClampNeg y2)) (p1_stopCount) (p1_metric) (p1_fixed) (p1_facts) (p1_rules) (x5) (x6) (x7) (x5) k40 hk40 hf S (lv_sub hl [0, 1, 2, 3, 4] rfl)
set_option maxRecDepth 100000 in
set_option maxHeartbeats 4000000 in
theorem k_X0_follow_40 (C : Cx p s m args meth c cX0_follow (some .boolean) 9 RX0 G A) (t_round : Int32) (t_size : Int32) (t_back : Int32) (t_loads : Int32) (t_miles : Int32) (t_waits : Int32) (t_lateAt : Int32) (t_later : Int32) (t_row : Nat → Int32) (t_comes : Nat → Int32) (t_begins : Nat → Int32) (p1_stopCount : Int32) (p1_metric : Int32) (p1_fixed : Int32) (p1_facts : Nat → Int32) (p1_rules : Nat → Int32) (x3 : Int32) (x4 : Int32) (x5 : Int32) (k40 : Int32 × Int32 × Int32 × (Nat → Int32) × (Nat → Int32) × Int32 × Int32 × Int32 × Int32 → Option (Int32 × (Nat → Int32) × (Nat → Int32) × Int32 × Int32 × Int32 × Int32 × Int32)) (hk40 : ∀ {H : Heap} {locs : List Loc} {ls : Array Slot} (x3' : Int32) (x4' : Int32) (x5' : Int32) (t_comes' : Nat → Int32) (t_begins' : Nat → Int32) (t_loads' : Int32) (t_miles' : Int32) (t_waits' : Int32) (t_lateAt' : Int32), k40 (x3', x4', x5', t_comes', t_begins', t_loads', t_miles', t_waits', t_lateAt') = some (r, z_t_comes, z_t_begins, z_t_back, z_t_loads, z_t_miles, z_t_waits, z_t_lateAt) → St G A s.heap H locs (w_X0_follow G a_t a_t_row a_t_comes a_t_begins a_t_slacks a_p1 a_p1_facts a_p1_roundsOf a_p1_locked a_p1_rules a_p1_sizes a_p1_rows a_p1_seen a_p1_plan a_p1_book t_round t_size t_back t_loads' t_miles' t_waits' t_lateAt' t_later t_row t_comes' t_begins' p1_stopCount p1_metric p1_fixed p1_facts p1_rules) → lv_has ls 9 [(0, .ref a_t), (1, .ref a_p1), (3, .int x3'), (4, .int x4'), (5, .int x5')] → W p l e rm_X0_follow s m args below meth c H locs 0 0 (QI G below args s A r (w_X0_follow G a_t a_t_row a_t_comes a_t_begins a_t_slacks a_p1 a_p1_facts a_p1_roundsOf a_p1_locked a_p1_rules a_p1_sizes a_p1_rows a_p1_seen a_p1_plan a_p1_book t_round t_size z_t_back z_t_loads z_t_miles z_t_waits z_t_lateAt t_later t_row z_t_comes z_t_begins p1_stopCount p1_metric p1_fixed p1_facts p1_rules)) (F0 m 40 ls [])) {H : Heap} {locs : List Loc} {ls : Array Slot} (hf : b_X0_follow_40 t_row t_round t_size p1_facts p1_rules p1_metric k40 x3 x4 x5 t_comes t_begins t_loads t_miles t_waits t_lateAt = some (r, z_t_comes, z_t_begins, z_t_back, z_t_loads, z_t_miles, z_t_waits, z_t_lateAt)) (S : St G A s.heap H locs (w_X0_follow G a_t a_t_row a_t_comes a_t_begins a_t_slacks a_p1 a_p1_facts a_p1_roundsOf a_p1_locked a_p1_rules a_p1_sizes a_p1_rows a_p1_seen a_p1_plan a_p1_book t_round t_size t_back t_loads t_miles t_waits t_lateAt t_later t_row t_comes t_begins p1_stopCount p1_metric p1_fixed p1_facts p1_rules)) (hl : lv_has ls 9 [(0, .ref a_t), (1, .ref a_p1), (3, .int x3), (4, .int x4), (5, .int x5)]) : W p l e rm_X0_follow s m args below meth c H locs 0 0 (QI G below args s A r (w_X0_follow G a_t a_t_row a_t_comes a_t_begins a_t_slacks a_p1 a_p1_facts a_p1_roundsOf a_p1_locked a_p1_rules a_p1_sizes a_p1_rows a_p1_seen a_p1_plan a_p1_book t_round t_size z_t_back z_t_loads z_t_miles z_t_waits z_t_lateAt t_later t_row z_t_comes z_t_begins p1_stopCount p1_metric p1_fixed p1_facts p1_rules)) (F0 m 40 ls []) := by
  unfold b_X0_follow_40 at hf
  have hx := C.1
  have hb := C.2.1
  have hown := C.2.2.2.2.1
  have hts := C.2.2.2.2.2.1
  have hN := C.2.2.2.2.2.2.2.2.2.2
  refine lv_iload (pc := 40) hx hb dX0_follow_40 (lv_at hl 4 rfl) ?_
  refine lv_aload_n (pc := 42) hx hb dX0_follow_42 rfl (lv_at hl 0 rfl) ?_
  refine x_get (pc := 43) (ci := 0) (T := TX0) (v := .int t_size) C S 0 rfl rfl inlX0 5 (by decide) rfl qf_0_34 rfl dX0_follow_43 ?_
  refine lv_icmp_ge (tgt := 240) (pc := 46) hx hb dX0_follow_46 (by decide) (fun c1 => ?_) (fun c1 => ?_)
  · have hf := ifp c1 hf
    exact k_X0_follow_240 C (t_round) (t_size) (t_back) (t_loads) (t_miles) (t_waits) (t_lateAt) (t_later) (t_row) (t_comes) (t_begins) (p1_stopCount) (p1_metric) (p1_fixed) (p1_facts) (p1_rules) (x3) (x4) hf S (lv_sub hl [0, 1, 2, 3] rfl)
  · have hf := ifn c1 hf
    refine lv_iload (pc := 49) hx hb dX0_follow_49 (lv_at hl 4 rfl) ?_
    refine lv_bipush (pc := 51) hx hb dX0_follow_51 bc_16 ?_
    refine lv_icmp_ge (tgt := 240) (pc := 53) hx hb dX0_follow_53 (by decide) (fun c2 => ?_) (fun c2 => ?_)
    · have hf := ifp c2 hf
      exact k_X0_follow_240 C (t_round) (t_size) (t_back) (t_loads) (t_miles) (t_waits) (t_lateAt) (t_later) (t_row) (t_comes) (t_begins) (p1_stopCount) (p1_metric) (p1_fixed) (p1_facts) (p1_rules) (x3) (x4) hf S (lv_sub hl [0, 1, 2, 3] rfl)
    · have hf := ifn c2 hf
      refine lv_aload_n (pc := 56) hx hb dX0_follow_56 rfl (lv_at hl 0 rfl) ?_
      refine x_get (pc := 57) (ci := 0) (T := TX0) (v := .int t_lateAt) C S 0 rfl rfl inlX0 10 (by decide) rfl qf_0_71 rfl dX0_follow_57 ?_
      refine lv_bipush (pc := 60) hx hb dX0_follow_60 bc_m5 ?_
      refine lv_icmp_ne (tgt := 240) (pc := 62) hx hb dX0_follow_62 (by decide) (fun c3 => ?_) (fun c3 => ?_)
      · have hf := ifn c3 hf
        exact k_X0_follow_240 C (t_round) (t_size) (t_back) (t_loads) (t_miles) (t_waits) (t_lateAt) (t_later) (t_row) (t_comes) (t_begins) (p1_stopCount) (p1_metric) (p1_fixed) (p1_facts) (p1_rules) (x3) (x4) hf S (lv_sub hl [0, 1, 2, 3] rfl)
      · have hf := ifp c3 hf
        refine lv_aload_n (pc := 65) hx hb dX0_follow_65 rfl (lv_at hl 0 rfl) ?_
        refine x_get (pc := 66) (ci := 0) (T := TX0) (v := .ref a_t_row) C S 0 rfl rfl inlX0 0 (by decide) rfl qf_0_9 rfl dX0_follow_66 ?_
        refine lv_iload (pc := 69) hx hb dX0_follow_69 (lv_at hl 4 rfl) ?_
        obtain ⟨hv4, hf⟩ := gI_e hf
        refine x_iald (pc := 71) C S 1 rfl hv4 dX0_follow_71 ?_
        refine lv_istore (pc := 72) (lv' := [(6, .int (t_row x5.toNatClampNeg)), (0, .ref a_t), (1, .ref a_p1), (3, .int x3), (4, .int x4), (5, .int x5)]) hx hb dX0_follow_72 hl (by decide) rfl (fun ls hl => ?_)
        refine lv_aload_n (pc := 74) hx hb dX0_follow_74 rfl (lv_at hl 2 rfl) ?_
        refine lv_iload (pc := 75) hx hb dX0_follow_75 (lv_at hl 4 rfl) ?_
        refine lv_iload (pc := 77) hx hb dX0_follow_77 (lv_at hl 0 rfl) ?_
        obtain ⟨r5, hq5, hf⟩ := bd_e hf
        refine x_vI (pc := 79) (As := [.int x4, .int (t_row x5.toNatClampNeg)]) (rest := []) (isC := [4, 5]) (ws' := (w_X0_follow G a_t a_t_row a_t_comes a_t_begins a_t_slacks a_p1 a_p1_facts a_p1_roundsOf a_p1_locked a_p1_rules a_p1_sizes a_p1_rows a_p1_seen a_p1_plan a_p1_book t_round t_size t_back t_loads t_miles t_waits t_lateAt t_later t_row t_comes t_begins p1_stopCount p1_metric p1_fixed p1_facts p1_rules)) C S (c_X6_way l G a_p1 a_p1_facts a_p1_roundsOf a_p1_locked a_p1_rules a_p1_sizes a_p1_rows a_p1_seen a_p1_plan a_p1_book p1_stopCount p1_metric p1_fixed p1_facts x4 (t_row x5.toNatClampNeg) r5 hq5) (u_X0_follow_X6_way_74 hts) (ci := 6) rfl 4 rfl rfl rfl rfl rfl rfl hl.1 rfl (Nat.le_of_ble_eq_true rfl) dX0_follow_79 (fun H locs S => ?_)
        refine lv_istore (pc := 82) (lv' := [(7, .int r5), (6, .int (t_row x5.toNatClampNeg)), (0, .ref a_t), (1, .ref a_p1), (3, .int x3), (4, .int x4), (5, .int x5)]) hx hb dX0_follow_82 hl (by decide) rfl (fun ls hl => ?_)
        refine lv_aload_n (pc := 84) hx hb dX0_follow_84 rfl (lv_at hl 3 rfl) ?_
        refine lv_iload (pc := 85) hx hb dX0_follow_85 (lv_at hl 1 rfl) ?_
        refine lv_iconst (pc := 87) hx hb dX0_follow_87 ic_3 ?_
        obtain ⟨r6, hq6, hf⟩ := bd_e hf
        refine x_vI (pc := 88) (As := [.int (t_row x5.toNatClampNeg), .int (3 : Int32)]) (rest := []) (isC := [4, 5]) (ws' := (w_X0_follow G a_t a_t_row a_t_comes a_t_begins a_t_slacks a_p1 a_p1_facts a_p1_roundsOf a_p1_locked a_p1_rules a_p1_sizes a_p1_rows a_p1_seen a_p1_plan a_p1_book t_round t_size t_back t_loads t_miles t_waits t_lateAt t_later t_row t_comes t_begins p1_stopCount p1_metric p1_fixed p1_facts p1_rules)) C S (c_X6_fact l G a_p1 a_p1_facts a_p1_roundsOf a_p1_locked a_p1_rules a_p1_sizes a_p1_rows a_p1_seen a_p1_plan a_p1_book p1_stopCount p1_metric p1_fixed p1_facts (t_row x5.toNatClampNeg) (3 : Int32) r6 hq6) (u_X0_follow_X6_fact_77 hts) (ci := 6) rfl 4 rfl rfl rfl rfl rfl rfl hl.1 rfl (Nat.le_of_ble_eq_true rfl) dX0_follow_88 (fun H locs S => ?_)
        refine lv_istore (pc := 91) (lv' := [(8, .int r6), (7, .int r5), (6, .int (t_row x5.toNatClampNeg)), (0, .ref a_t), (1, .ref a_p1), (3, .int x3), (4, .int x4), (5, .int x5)]) hx hb dX0_follow_91 hl (by decide) rfl (fun ls hl => ?_)
        refine lv_aload_n (pc := 93) hx hb dX0_follow_93 rfl (lv_at hl 3 rfl) ?_
        refine x_get (pc := 94) (ci := 0) (T := TX0) (v := .ref a_t_comes) C S 0 rfl rfl inlX0 1 (by decide) rfl qf_0_15 rfl dX0_follow_94 ?_
        refine lv_iload (pc := 97) hx hb dX0_follow_97 (lv_at hl 7 rfl) ?_
        refine lv_iload_n (pc := 99) hx hb dX0_follow_99 rfl (lv_at hl 5 rfl) ?_
        refine lv_iload (pc := 100) hx hb dX0_follow_100 (lv_at hl 1 rfl) ?_
        refine lv_iadd (pc := 102) hx hb dX0_follow_102 ?_
        refine x_iast (pc := 103) (ws' := (w_X0_follow G a_t a_t_row a_t_comes a_t_begins a_t_slacks a_p1 a_p1_facts a_p1_roundsOf a_p1_locked a_p1_rules a_p1_sizes a_p1_rows a_p1_seen a_p1_plan a_p1_book t_round t_size t_back t_loads t_miles t_waits t_lateAt t_later t_row (upd t_comes x5.toNatClampNeg (x3 + r5)) t_begins p1_stopCount p1_metric p1_fixed p1_facts p1_rules)) C S 2 rfl hv4 rfl dX0_follow_103 (fun H locs S => ?_)
        refine lv_aload_n (pc := 104) hx hb dX0_follow_104 rfl (lv_at hl 3 rfl) ?_
        refine x_get (pc := 105) (ci := 0) (T := TX0) (v := .ref a_t_begins) C S 0 rfl rfl inlX0 2 (by decide) rfl qf_0_18 rfl dX0_follow_105 ?_
        refine lv_iload (pc := 108) hx hb dX0_follow_108 (lv_at hl 7 rfl) ?_
        refine lv_aload_n (pc := 110) hx hb dX0_follow_110 rfl (lv_at hl 3 rfl) ?_
        refine x_get (pc := 111) (ci := 0) (T := TX0) (v := .ref a_t_comes) C S 0 rfl rfl inlX0 1 (by decide) rfl qf_0_15 rfl dX0_follow_111 ?_
        refine lv_iload (pc := 114) hx hb dX0_follow_114 (lv_at hl 7 rfl) ?_
        refine x_iald (pc := 116) C S 2 rfl hv4 dX0_follow_116 ?_
        refine lv_iload (pc := 117) hx hb dX0_follow_117 (lv_at hl 0 rfl) ?_
        refine lv_icmp_ge (tgt := 127) (pc := 119) hx hb dX0_follow_119 (by decide) (fun c7 => ?_) (fun c7 => ?_)
        · have hf := ifp c7 hf
          refine lv_aload_n (pc := 127) hx hb dX0_follow_127 rfl (lv_at hl 3 rfl) ?_
          refine x_get (pc := 128) (ci := 0) (T := TX0) (v := .ref a_t_comes) C S 0 rfl rfl inlX0 1 (by decide) rfl qf_0_15 rfl dX0_follow_128 ?_
          refine lv_iload (pc := 131) hx hb dX0_follow_131 (lv_at hl 7 rfl) ?_
          refine x_iald (pc := 133) C S 2 rfl hv4 dX0_follow_133 ?_
          exact k_X0_follow_134 C (t_round) (t_size) (t_back) (t_loads) (t_miles) (t_waits) (t_lateAt) (t_later) (t_row) ((upd t_comes x5.toNatClampNeg (x3 + r5))) (t_begins) (p1_stopCount) (p1_metric) (p1_fixed) (p1_facts) (p1_rules) (x5) ((t_row x5.toNatClampNeg)) (r5) (x5) (((upd t_comes x5.toNatClampNeg (x3 + r5)) x5.toNatClampNeg)) k40 hk40 hf S (lv_sub hl [3, 4, 7, 2, 1] rfl)
        · have hf := ifn c7 hf
          refine lv_iload (pc := 122) hx hb dX0_follow_122 (lv_at hl 0 rfl) ?_
          refine lv_goto (tgt := 134) (pc := 124) hx hb dX0_follow_124 (by decide) ?_
          exact k_X0_follow_134 C (t_round) (t_size) (t_back) (t_loads) (t_miles) (t_waits) (t_lateAt) (t_later) (t_row) ((upd t_comes x5.toNatClampNeg (x3 + r5))) (t_begins) (p1_stopCount) (p1_metric) (p1_fixed) (p1_facts) (p1_rules) (x5) ((t_row x5.toNatClampNeg)) (r5) (x5) (r6) k40 hk40 hf S (lv_sub hl [3, 4, 7, 2, 1] rfl)
set_option maxRecDepth 100000 in
set_option maxHeartbeats 4000000 in
theorem h_X0_follow_40 (C : Cx p s m args meth c cX0_follow (some .boolean) 9 RX0 G A) (t_round : Int32) (t_size : Int32) (t_back : Int32) (t_later : Int32) (t_row : Nat → Int32) (p1_stopCount : Int32) (p1_metric : Int32) (p1_fixed : Int32) (p1_facts : Nat → Int32) (p1_rules : Nat → Int32) (n : Nat) (x : Int32 × Int32 × Int32 × (Nat → Int32) × (Nat → Int32) × Int32 × Int32 × Int32 × Int32) (hf : lp (fun k x => b_X0_follow_40 t_row t_round t_size p1_facts p1_rules p1_metric k x.1 x.2.1 x.2.2.1 x.2.2.2.1 x.2.2.2.2.1 x.2.2.2.2.2.1 x.2.2.2.2.2.2.1 x.2.2.2.2.2.2.2.1 x.2.2.2.2.2.2.2.2) n x = some (r, z_t_comes, z_t_begins, z_t_back, z_t_loads, z_t_miles, z_t_waits, z_t_lateAt)) {H : Heap} {locs : List Loc} {ls : Array Slot} (S : St G A s.heap H locs (w_X0_follow G a_t a_t_row a_t_comes a_t_begins a_t_slacks a_p1 a_p1_facts a_p1_roundsOf a_p1_locked a_p1_rules a_p1_sizes a_p1_rows a_p1_seen a_p1_plan a_p1_book t_round t_size t_back x.2.2.2.2.2.1 x.2.2.2.2.2.2.1 x.2.2.2.2.2.2.2.1 x.2.2.2.2.2.2.2.2 t_later t_row x.2.2.2.1 x.2.2.2.2.1 p1_stopCount p1_metric p1_fixed p1_facts p1_rules)) (hl : lv_has ls 9 [(0, .ref a_t), (1, .ref a_p1), (3, .int x.1), (4, .int x.2.1), (5, .int x.2.2.1)]) : W p l e rm_X0_follow s m args below meth c H locs 0 0 (QI G below args s A r (w_X0_follow G a_t a_t_row a_t_comes a_t_begins a_t_slacks a_p1 a_p1_facts a_p1_roundsOf a_p1_locked a_p1_rules a_p1_sizes a_p1_rows a_p1_seen a_p1_plan a_p1_book t_round t_size z_t_back z_t_loads z_t_miles z_t_waits z_t_lateAt t_later t_row z_t_comes z_t_begins p1_stopCount p1_metric p1_fixed p1_facts p1_rules)) (F0 m 40 ls []) :=
  lp_ind (P := fun x => ∀ {H : Heap} {locs : List Loc} {ls : Array Slot}, St G A s.heap H locs (w_X0_follow G a_t a_t_row a_t_comes a_t_begins a_t_slacks a_p1 a_p1_facts a_p1_roundsOf a_p1_locked a_p1_rules a_p1_sizes a_p1_rows a_p1_seen a_p1_plan a_p1_book t_round t_size t_back x.2.2.2.2.2.1 x.2.2.2.2.2.2.1 x.2.2.2.2.2.2.2.1 x.2.2.2.2.2.2.2.2 t_later t_row x.2.2.2.1 x.2.2.2.2.1 p1_stopCount p1_metric p1_fixed p1_facts p1_rules) → lv_has ls 9 [(0, .ref a_t), (1, .ref a_p1), (3, .int x.1), (4, .int x.2.1), (5, .int x.2.2.1)] → W p l e rm_X0_follow s m args below meth c H locs 0 0 (QI G below args s A r (w_X0_follow G a_t a_t_row a_t_comes a_t_begins a_t_slacks a_p1 a_p1_facts a_p1_roundsOf a_p1_locked a_p1_rules a_p1_sizes a_p1_rows a_p1_seen a_p1_plan a_p1_book t_round t_size z_t_back z_t_loads z_t_miles z_t_waits z_t_lateAt t_later t_row z_t_comes z_t_begins p1_stopCount p1_metric p1_fixed p1_facts p1_rules)) (F0 m 40 ls [])) (fun k hk x hf _ _ _ S hl => k_X0_follow_40 C t_round t_size t_back x.2.2.2.2.2.1 x.2.2.2.2.2.2.1 x.2.2.2.2.2.2.2.1 x.2.2.2.2.2.2.2.2 t_later t_row x.2.2.2.1 x.2.2.2.2.1 p1_stopCount p1_metric p1_fixed p1_facts p1_rules x.1 x.2.1 x.2.2.1  k (fun x3' x4' x5' t_comes' t_begins' t_loads' t_miles' t_waits' t_lateAt'  h S hl => hk (x3', x4', x5', t_comes', t_begins', t_loads', t_miles', t_waits', t_lateAt') h S hl) hf S hl) n x hf S hl
set_option maxRecDepth 100000 in
set_option maxHeartbeats 4000000 in
theorem c_X0_follow (l : Launch) (G : GE) (a_t a_t_row a_t_comes a_t_begins a_t_slacks a_p1 a_p1_facts a_p1_roundsOf a_p1_locked a_p1_rules a_p1_sizes a_p1_rows a_p1_seen a_p1_plan a_p1_book : Nat) (t_round : Int32) (t_size : Int32) (t_back : Int32) (t_loads : Int32) (t_miles : Int32) (t_waits : Int32) (t_lateAt : Int32) (t_later : Int32) (t_row : Nat → Int32) (t_comes : Nat → Int32) (t_begins : Nat → Int32) (p1_stopCount : Int32) (p1_metric : Int32) (p1_fixed : Int32) (p1_facts : Nat → Int32) (p1_rules : Nat → Int32) (x2 : Int32) (r : Int32) (z_t_comes : Nat → Int32) (z_t_begins : Nat → Int32) (z_t_back : Int32) (z_t_loads : Int32) (z_t_miles : Int32) (z_t_waits : Int32) (z_t_lateAt : Int32) (hf : f_X0_follow t_row t_comes t_begins t_round t_size p1_facts p1_rules p1_metric x2 = some (r, z_t_comes, z_t_begins, z_t_back, z_t_loads, z_t_miles, z_t_waits, z_t_lateAt)) : CI l G yX0_follow kw_X0_follow rm_X0_follow [.ref a_t, .ref a_p1, .int x2] (w_X0_follow G a_t a_t_row a_t_comes a_t_begins a_t_slacks a_p1 a_p1_facts a_p1_roundsOf a_p1_locked a_p1_rules a_p1_sizes a_p1_rows a_p1_seen a_p1_plan a_p1_book t_round t_size t_back t_loads t_miles t_waits t_lateAt t_later t_row t_comes t_begins p1_stopCount p1_metric p1_fixed p1_facts p1_rules) r (w_X0_follow G a_t a_t_row a_t_comes a_t_begins a_t_slacks a_p1 a_p1_facts a_p1_roundsOf a_p1_locked a_p1_rules a_p1_sizes a_p1_rows a_p1_seen a_p1_plan a_p1_book t_round t_size z_t_back z_t_loads z_t_miles z_t_waits z_t_lateAt t_later t_row z_t_comes z_t_begins p1_stopCount p1_metric p1_fixed p1_facts p1_rules) := by
  refine en_I (cc := cX0_follow) (maxL := 9) (ret := (some .boolean)) (by decide +kernel) (Nat.le_of_ble_eq_true rfl) ?_
  intro p e s m args below meth c A ls C S hl
  have hl : lv_has ls 9 [(0, .ref a_t), (1, .ref a_p1), (2, .int x2)] := hl
  have C : Cx p s m args meth c cX0_follow (some .boolean) 9 RX0 G A := C
  unfold f_X0_follow at hf
  have hx := C.1
  have hb := C.2.1
  have hown := C.2.2.2.2.1
  have hts := C.2.2.2.2.2.1
  have hN := C.2.2.2.2.2.2.2.2.2.2
  refine lv_aload_n (pc := 0) hx hb dX0_follow_0 rfl (lv_at hl 1 rfl) ?_
  refine lv_aload_n (pc := 1) hx hb dX0_follow_1 rfl (lv_at hl 0 rfl) ?_
  refine x_get (pc := 2) (ci := 0) (T := TX0) (v := .int t_round) C S 0 rfl rfl inlX0 4 (by decide) rfl qf_0_24 rfl dX0_follow_2 ?_
  refine lv_iconst (pc := 5) hx hb dX0_follow_5 ic_1 ?_
  obtain ⟨r1, hq1, hf⟩ := bd_e hf
  refine x_vI (pc := 6) (As := [.int t_round, .int (1 : Int32)]) (rest := []) (isC := [4, 6]) (ws' := (w_X0_follow G a_t a_t_row a_t_comes a_t_begins a_t_slacks a_p1 a_p1_facts a_p1_roundsOf a_p1_locked a_p1_rules a_p1_sizes a_p1_rows a_p1_seen a_p1_plan a_p1_book t_round t_size t_back t_loads t_miles t_waits t_lateAt t_later t_row t_comes t_begins p1_stopCount p1_metric p1_fixed p1_facts p1_rules)) C S (c_X6_ruleOf l G a_p1 a_p1_facts a_p1_roundsOf a_p1_locked a_p1_rules a_p1_sizes a_p1_rows a_p1_seen a_p1_plan a_p1_book p1_stopCount p1_metric p1_fixed p1_rules t_round (1 : Int32) r1 hq1) (u_X0_follow_X6_ruleOf_59 hts) (ci := 6) rfl 4 rfl rfl rfl rfl rfl rfl hl.1 rfl (Nat.le_of_ble_eq_true rfl) dX0_follow_6 (fun H locs S => ?_)
  refine lv_iload_n (pc := 9) hx hb dX0_follow_9 rfl (lv_at hl 2 rfl) ?_
  refine lv_iadd (pc := 10) hx hb dX0_follow_10 ?_
  refine lv_istore_n (pc := 11) (lv' := [(3, .int (r1 + x2)), (0, .ref a_t), (1, .ref a_p1), (2, .int x2)]) hx hb dX0_follow_11 rfl hl (by decide) rfl (fun ls hl => ?_)
  refine lv_bipush (pc := 12) hx hb dX0_follow_12 bc_16 ?_
  refine lv_istore (pc := 14) (lv' := [(4, .int (16 : Int32)), (3, .int (r1 + x2)), (0, .ref a_t), (1, .ref a_p1), (2, .int x2)]) hx hb dX0_follow_14 hl (by decide) rfl (fun ls hl => ?_)
  refine lv_aload_n (pc := 16) hx hb dX0_follow_16 rfl (lv_at hl 2 rfl) ?_
  refine lv_iconst (pc := 17) hx hb dX0_follow_17 ic_0 ?_
  refine x_put (pc := 18) (ci := 0) (T := TX0) (ws' := (w_X0_follow G a_t a_t_row a_t_comes a_t_begins a_t_slacks a_p1 a_p1_facts a_p1_roundsOf a_p1_locked a_p1_rules a_p1_sizes a_p1_rows a_p1_seen a_p1_plan a_p1_book t_round t_size t_back (0 : Int32) t_miles t_waits t_lateAt t_later t_row t_comes t_begins p1_stopCount p1_metric p1_fixed p1_facts p1_rules)) C S tyX0 tyX0_ok nmX0 0 rfl rfl inlX0 7 (by decide) rfl qf_0_62 rfl rfl rfl rfl (Nat.le_of_ble_eq_true rfl) rfl dX0_follow_18 (fun H locs S => ?_)
  refine lv_aload_n (pc := 21) hx hb dX0_follow_21 rfl (lv_at hl 2 rfl) ?_
  refine lv_iconst (pc := 22) hx hb dX0_follow_22 ic_0 ?_
  refine x_put (pc := 23) (ci := 0) (T := TX0) (ws' := (w_X0_follow G a_t a_t_row a_t_comes a_t_begins a_t_slacks a_p1 a_p1_facts a_p1_roundsOf a_p1_locked a_p1_rules a_p1_sizes a_p1_rows a_p1_seen a_p1_plan a_p1_book t_round t_size t_back (0 : Int32) (0 : Int32) t_waits t_lateAt t_later t_row t_comes t_begins p1_stopCount p1_metric p1_fixed p1_facts p1_rules)) C S tyX0 tyX0_ok nmX0 0 rfl rfl inlX0 8 (by decide) rfl qf_0_65 rfl rfl rfl rfl (Nat.le_of_ble_eq_true rfl) rfl dX0_follow_23 (fun H locs S => ?_)
  refine lv_aload_n (pc := 26) hx hb dX0_follow_26 rfl (lv_at hl 2 rfl) ?_
  refine lv_iconst (pc := 27) hx hb dX0_follow_27 ic_0 ?_
  refine x_put (pc := 28) (ci := 0) (T := TX0) (ws' := (w_X0_follow G a_t a_t_row a_t_comes a_t_begins a_t_slacks a_p1 a_p1_facts a_p1_roundsOf a_p1_locked a_p1_rules a_p1_sizes a_p1_rows a_p1_seen a_p1_plan a_p1_book t_round t_size t_back (0 : Int32) (0 : Int32) (0 : Int32) t_lateAt t_later t_row t_comes t_begins p1_stopCount p1_metric p1_fixed p1_facts p1_rules)) C S tyX0 tyX0_ok nmX0 0 rfl rfl inlX0 9 (by decide) rfl qf_0_68 rfl rfl rfl rfl (Nat.le_of_ble_eq_true rfl) rfl dX0_follow_28 (fun H locs S => ?_)
  refine lv_aload_n (pc := 31) hx hb dX0_follow_31 rfl (lv_at hl 2 rfl) ?_
  refine lv_bipush (pc := 32) hx hb dX0_follow_32 bc_m5 ?_
  refine x_put (pc := 34) (ci := 0) (T := TX0) (ws' := (w_X0_follow G a_t a_t_row a_t_comes a_t_begins a_t_slacks a_p1 a_p1_facts a_p1_roundsOf a_p1_locked a_p1_rules a_p1_sizes a_p1_rows a_p1_seen a_p1_plan a_p1_book t_round t_size t_back (0 : Int32) (0 : Int32) (0 : Int32) (-5 : Int32) t_later t_row t_comes t_begins p1_stopCount p1_metric p1_fixed p1_facts p1_rules)) C S tyX0 tyX0_ok nmX0 0 rfl rfl inlX0 10 (by decide) rfl qf_0_71 rfl rfl rfl rfl (Nat.le_of_ble_eq_true rfl) rfl dX0_follow_34 (fun H locs S => ?_)
  refine lv_iconst (pc := 37) hx hb dX0_follow_37 ic_0 ?_
  refine lv_istore (pc := 38) (lv' := [(5, .int (0 : Int32)), (4, .int (16 : Int32)), (3, .int (r1 + x2)), (0, .ref a_t), (1, .ref a_p1), (2, .int x2)]) hx hb dX0_follow_38 hl (by decide) rfl (fun ls hl => ?_)
  exact h_X0_follow_40 C (t_round) (t_size) (t_back) (t_later) (t_row) (p1_stopCount) (p1_metric) (p1_fixed) (p1_facts) (p1_rules) fu ((r1 + x2), (16 : Int32), (0 : Int32), t_comes, t_begins, (0 : Int32), (0 : Int32), (0 : Int32), (-5 : Int32)) hf S (lv_sub hl [3, 4, 2, 1, 0] rfl)
end
