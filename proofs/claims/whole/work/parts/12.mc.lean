abbrev rm_X2_foundFact : Room := { frames := 0, cells := 0, slots := 0, locals := 0 }
abbrev kw_X2_foundFact : Cond := .code yX2_foundFact cX2_foundFact 2 (some .int)
abbrev w_X2_foundFact (G : GE) (a_t a_t_one a_t_other : Nat) (t_isOfTwo : Int32) (t_kind : Int32) (t_gain : Int32) (t_a : Int32) (t_b : Int32) (t_c : Int32) : va_W := [(a_t, ob 2 [.ref a_t_one, .ref a_t_other, .int t_isOfTwo, .int t_kind, .int t_gain, .int t_a, .int t_b, .int t_c])]
section
variable {p : Program} {l : Launch} {e : Env} {s : State} {m : MethodId} {args : Array Value} {below : List Frame} {meth : Method} {c : Code} {A : Nat → Prop} {G : GE} {a_t a_t_one a_t_other : Nat} {r : Int32}
set_option maxRecDepth 100000 in
set_option maxHeartbeats 4000000 in
theorem c_X2_foundFact (l : Launch) (G : GE) (a_t a_t_one a_t_other : Nat) (t_isOfTwo : Int32) (t_kind : Int32) (t_gain : Int32) (t_a : Int32) (t_b : Int32) (t_c : Int32) (x1 : Int32) (r : Int32) (hf : f_X2_foundFact t_kind t_gain t_a t_b t_c x1 = some r) : CI l G yX2_foundFact kw_X2_foundFact rm_X2_foundFact [.ref a_t, .int x1] (w_X2_foundFact G a_t a_t_one a_t_other t_isOfTwo t_kind t_gain t_a t_b t_c) r (w_X2_foundFact G a_t a_t_one a_t_other t_isOfTwo t_kind t_gain t_a t_b t_c) := by
  refine en_I (cc := cX2_foundFact) (maxL := 2) (ret := (some .int)) (by decide +kernel) (Nat.le_of_ble_eq_true rfl) ?_
  intro p e s m args below meth c A ls C S hl
  have hl : lv_has ls 2 [(0, .ref a_t), (1, .int x1)] := hl
  have C : Cx p s m args meth c cX2_foundFact (some .int) 2 RX2 G A := C
  unfold f_X2_foundFact at hf
  have hx := C.1
  have hb := C.2.1
  have hown := C.2.2.2.2.1
  have hts := C.2.2.2.2.2.1
  have hN := C.2.2.2.2.2.2.2.2.2.2
  refine lv_aload_n (pc := 0) hx hb dX2_foundFact_0 rfl (lv_at hl 0 rfl) ?_
  refine x_get (pc := 1) (ci := 2) (T := TX2) (v := .int t_kind) C S 0 rfl rfl inlX2 3 (by decide) rfl qf_2_21 rfl dX2_foundFact_1 ?_
  refine lv_bipush (pc := 4) hx hb dX2_foundFact_4 bc_m5 ?_
  refine lv_icmp_ne (tgt := 12) (pc := 6) hx hb dX2_foundFact_6 (by decide) (fun c1 => ?_) (fun c1 => ?_)
  · have hf := ifn c1 hf
    refine lv_iload_n (pc := 12) hx hb dX2_foundFact_12 rfl (lv_at hl 1 rfl) ?_
    by_cases s2_0 : x1 = (0 : Int32)
    · have hf := ifp s2_0 hf
      refine lv_tableIn (tgt := 44) (off := 31) (x := x1) (pc := 13) hx hb dX2_foundFact_13 (by rw [s2_0]; decide) (by rw [s2_0]; decide) (by rw [s2_0]; decide) (by decide) ?_
      refine lv_aload_n (pc := 44) hx hb dX2_foundFact_44 rfl (lv_at hl 0 rfl) ?_
      refine x_get (pc := 45) (ci := 2) (T := TX2) (v := .int t_kind) C S 0 rfl rfl inlX2 3 (by decide) rfl qf_2_21 rfl dX2_foundFact_45 ?_
      cases hf
      exact x_iret (pc := 48) C S dX2_foundFact_48
    have hf := ifn s2_0 hf
    by_cases s2_1 : x1 = (1 : Int32)
    · have hf := ifp s2_1 hf
      refine lv_tableIn (tgt := 49) (off := 36) (x := x1) (pc := 13) hx hb dX2_foundFact_13 (by rw [s2_1]; decide) (by rw [s2_1]; decide) (by rw [s2_1]; decide) (by decide) ?_
      refine lv_aload_n (pc := 49) hx hb dX2_foundFact_49 rfl (lv_at hl 0 rfl) ?_
      refine x_get (pc := 50) (ci := 2) (T := TX2) (v := .int t_gain) C S 0 rfl rfl inlX2 4 (by decide) rfl qf_2_25 rfl dX2_foundFact_50 ?_
      cases hf
      exact x_iret (pc := 53) C S dX2_foundFact_53
    have hf := ifn s2_1 hf
    by_cases s2_2 : x1 = (2 : Int32)
    · have hf := ifp s2_2 hf
      refine lv_tableIn (tgt := 54) (off := 41) (x := x1) (pc := 13) hx hb dX2_foundFact_13 (by rw [s2_2]; decide) (by rw [s2_2]; decide) (by rw [s2_2]; decide) (by decide) ?_
      refine lv_aload_n (pc := 54) hx hb dX2_foundFact_54 rfl (lv_at hl 0 rfl) ?_
      refine x_get (pc := 55) (ci := 2) (T := TX2) (v := .int t_a) C S 0 rfl rfl inlX2 5 (by decide) rfl qf_2_28 rfl dX2_foundFact_55 ?_
      cases hf
      exact x_iret (pc := 58) C S dX2_foundFact_58
    have hf := ifn s2_2 hf
    by_cases s2_3 : x1 = (3 : Int32)
    · have hf := ifp s2_3 hf
      refine lv_tableIn (tgt := 59) (off := 46) (x := x1) (pc := 13) hx hb dX2_foundFact_13 (by rw [s2_3]; decide) (by rw [s2_3]; decide) (by rw [s2_3]; decide) (by decide) ?_
      refine lv_aload_n (pc := 59) hx hb dX2_foundFact_59 rfl (lv_at hl 0 rfl) ?_
      refine x_get (pc := 60) (ci := 2) (T := TX2) (v := .int t_b) C S 0 rfl rfl inlX2 6 (by decide) rfl qf_2_31 rfl dX2_foundFact_60 ?_
      cases hf
      exact x_iret (pc := 63) C S dX2_foundFact_63
    have hf := ifn s2_3 hf
    have z2_0 := lv_neT (a := 0) s2_0 (by decide)
    have z2_1 := lv_neT (a := 1) s2_1 (by decide)
    have z2_2 := lv_neT (a := 2) s2_2 (by decide)
    have z2_3 := lv_neT (a := 3) s2_3 (by decide)
    refine lv_tableOut (tgt := 64) (x := x1) (pc := 13) hx hb dX2_foundFact_13 (by omega) (by decide) ?_
    refine lv_aload_n (pc := 64) hx hb dX2_foundFact_64 rfl (lv_at hl 0 rfl) ?_
    refine x_get (pc := 65) (ci := 2) (T := TX2) (v := .int t_c) C S 0 rfl rfl inlX2 7 (by decide) rfl qf_2_34 rfl dX2_foundFact_65 ?_
    cases hf
    exact x_iret (pc := 68) C S dX2_foundFact_68
  · have hf := ifp c1 hf
    refine lv_bipush (pc := 9) hx hb dX2_foundFact_9 bc_m5 ?_
    cases hf
    exact x_iret (pc := 11) C S dX2_foundFact_11
end

abbrev rm_X2_perform : Room := { frames := 4, cells := 0, slots := 0, locals := 103 }
abbrev kw_X2_perform : Cond := .code yX2_perform cX2_perform 3 none
abbrev w_X2_perform (G : GE) (a_t a_t_one a_t_other a_t_one_row a_t_one_comes a_t_one_begins a_t_one_slacks a_t_other_row a_t_other_comes a_t_other_begins a_t_other_slacks a_p1 a_p1_facts a_p1_roundsOf a_p1_locked a_p1_rules a_p1_sizes a_p1_rows a_p1_seen a_p1_plan a_p1_book : Nat) (t_isOfTwo : Int32) (t_kind : Int32) (t_gain : Int32) (t_a : Int32) (t_b : Int32) (t_c : Int32) (t_one_round : Int32) (t_one_size : Int32) (t_one_back : Int32) (t_one_loads : Int32) (t_one_miles : Int32) (t_one_waits : Int32) (t_one_lateAt : Int32) (t_one_later : Int32) (t_one_row : Nat → Int32) (t_one_comes : Nat → Int32) (t_one_begins : Nat → Int32) (t_other_round : Int32) (t_other_size : Int32) (t_other_back : Int32) (t_other_loads : Int32) (t_other_miles : Int32) (t_other_waits : Int32) (t_other_lateAt : Int32) (t_other_later : Int32) (t_other_row : Nat → Int32) (t_other_comes : Nat → Int32) (t_other_begins : Nat → Int32) (p1_stopCount : Int32) (p1_metric : Int32) (p1_fixed : Int32) (p1_facts : Nat → Int32) (p1_roundsOf : Nat → Int32) (p1_locked : Nat → Int32) (p1_rules : Nat → Int32) (p1_sizes : Nat → Int32) (p1_rows : Nat → Int32) : va_W := [(a_t, ob 2 [.ref a_t_one, .ref a_t_other, .int t_isOfTwo, .int t_kind, .int t_gain, .int t_a, .int t_b, .int t_c]), (a_t_one, ob 0 [.ref a_t_one_row, .ref a_t_one_comes, .ref a_t_one_begins, .ref a_t_one_slacks, .int t_one_round, .int t_one_size, .int t_one_back, .int t_one_loads, .int t_one_miles, .int t_one_waits, .int t_one_lateAt, .int t_one_later]), (a_t_one_row, aI G 16 t_one_row), (a_t_one_comes, aI G 16 t_one_comes), (a_t_one_begins, aI G 16 t_one_begins), (a_t_other, ob 0 [.ref a_t_other_row, .ref a_t_other_comes, .ref a_t_other_begins, .ref a_t_other_slacks, .int t_other_round, .int t_other_size, .int t_other_back, .int t_other_loads, .int t_other_miles, .int t_other_waits, .int t_other_lateAt, .int t_other_later]), (a_t_other_row, aI G 16 t_other_row), (a_t_other_comes, aI G 16 t_other_comes), (a_t_other_begins, aI G 16 t_other_begins), (a_p1, ob 6 [.ref a_p1_facts, .ref a_p1_roundsOf, .ref a_p1_locked, .ref a_p1_rules, .ref a_p1_sizes, .ref a_p1_rows, .ref a_p1_seen, .ref a_p1_plan, .ref a_p1_book, .int p1_stopCount, .int p1_metric, .int p1_fixed]), (a_p1_facts, aI G 102 p1_facts), (a_p1_roundsOf, aI G 16 p1_roundsOf), (a_p1_locked, aZ G 16 p1_locked), (a_p1_rules, aI G 12 p1_rules), (a_p1_sizes, aI G 4 p1_sizes), (a_p1_rows, aI G 64 p1_rows)]
theorem u_X2_perform_X2_tryTurn_57 {s : State} {args : Array Value} (hts : ∀ w ∈ WU, w.before args s = true) : CallW rm_X2_perform s args RX2 RX2 57 yX2_tryTurn cX2_tryTurn 6 (some .boolean) (kw_X2_tryTurn :: WU) rm_X2_tryTurn 0 0 4 := cwV 4 hts (gV qm_2_57 qi_X2_tryTurn ql_X2_tryTurn qn_2 qc_X2_tryTurn) rfl rfl rfl (by decide +kernel) ⟨Nat.le_of_ble_eq_true rfl, Nat.le_of_ble_eq_true rfl⟩
theorem u_X2_perform_X2_tryShift_81 {s : State} {args : Array Value} (hts : ∀ w ∈ WU, w.before args s = true) : CallW rm_X2_perform s args RX2 RX2 81 yX2_tryShift cX2_tryShift 6 (some .boolean) (kw_X2_tryShift :: WU) rm_X2_tryShift 0 0 4 := cwV 4 hts (gV qm_2_81 qi_X2_tryShift ql_X2_tryShift qn_2 qc_X2_tryShift) rfl rfl rfl (by decide +kernel) ⟨Nat.le_of_ble_eq_true rfl, Nat.le_of_ble_eq_true rfl⟩
theorem u_X2_perform_X2_trySwap_88 {s : State} {args : Array Value} (hts : ∀ w ∈ WU, w.before args s = true) : CallW rm_X2_perform s args RX2 RX2 88 yX2_trySwap cX2_trySwap 5 (some .boolean) (kw_X2_trySwap :: WU) rm_X2_trySwap 0 0 3 := cwV 3 hts (gV qm_2_88 qi_X2_trySwap ql_X2_trySwap qn_2 qc_X2_trySwap) rfl rfl rfl (by decide +kernel) ⟨Nat.le_of_ble_eq_true rfl, Nat.le_of_ble_eq_true rfl⟩
theorem u_X2_perform_X0_keep_92 {s : State} {args : Array Value} (hts : ∀ w ∈ WU, w.before args s = true) : CallW rm_X2_perform s args RX2 RX0 92 yX0_keep cX0_keep 3 none (kw_X0_keep :: WU) rm_X0_keep 0 0 1 := cwV 1 hts (gV qm_2_92 qi_X0_keep ql_X0_keep qn_0 qc_X0_keep) rfl rfl rfl (by decide +kernel) ⟨Nat.le_of_ble_eq_true rfl, Nat.le_of_ble_eq_true rfl⟩
section
variable {p : Program} {l : Launch} {e : Env} {s : State} {m : MethodId} {args : Array Value} {below : List Frame} {meth : Method} {c : Code} {A : Nat → Prop} {G : GE} {a_t a_t_one a_t_other a_t_one_row a_t_one_comes a_t_one_begins a_t_one_slacks a_t_other_row a_t_other_comes a_t_other_begins a_t_other_slacks a_p1 a_p1_facts a_p1_roundsOf a_p1_locked a_p1_rules a_p1_sizes a_p1_rows a_p1_seen a_p1_plan a_p1_book : Nat} {z_t_one_row : Nat → Int32} {z_t_one_comes : Nat → Int32} {z_t_one_begins : Nat → Int32} {z_t_one_round : Int32} {z_t_one_size : Int32} {z_t_one_back : Int32} {z_t_one_loads : Int32} {z_t_one_miles : Int32} {z_t_one_waits : Int32} {z_t_one_lateAt : Int32} {z_t_other_row : Nat → Int32} {z_t_other_comes : Nat → Int32} {z_t_other_begins : Nat → Int32} {z_t_other_round : Int32} {z_t_other_size : Int32} {z_t_other_back : Int32} {z_t_other_loads : Int32} {z_t_other_miles : Int32} {z_t_other_waits : Int32} {z_t_other_lateAt : Int32} {z_t_isOfTwo : Int32} {z_p1_roundsOf : Nat → Int32} {z_p1_sizes : Nat → Int32} {z_p1_rows : Nat → Int32}
set_option maxRecDepth 100000 in
set_option maxHeartbeats 4000000 in
theorem k_X2_perform_91 (C : Cx p s m args meth c cX2_perform none 3 RX2 G A) (t_isOfTwo : Int32) (t_kind : Int32) (t_gain : Int32) (t_a : Int32) (t_b : Int32) (t_c : Int32) (t_one_round : Int32) (t_one_size : Int32) (t_one_back : Int32) (t_one_loads : Int32) (t_one_miles : Int32) (t_one_waits : Int32) (t_one_lateAt : Int32) (t_one_later : Int32) (t_one_row : Nat → Int32) (t_one_comes : Nat → Int32) (t_one_begins : Nat → Int32) (t_other_round : Int32) (t_other_size : Int32) (t_other_back : Int32) (t_other_loads : Int32) (t_other_miles : Int32) (t_other_waits : Int32) (t_other_lateAt : Int32) (t_other_later : Int32) (t_other_row : Nat → Int32) (t_other_comes : Nat → Int32) (t_other_begins : Nat → Int32) (p1_stopCount : Int32) (p1_metric : Int32) (p1_fixed : Int32) (p1_facts : Nat → Int32) (p1_roundsOf : Nat → Int32) (p1_locked : Nat → Int32) (p1_rules : Nat → Int32) (p1_sizes : Nat → Int32) (p1_rows : Nat → Int32) (x2 : Int32) {H : Heap} {locs : List Loc} {ls : Array Slot} (hf : b_X2_perform_91 x2 t_one_row t_one_comes t_one_begins t_one_round t_one_size t_one_back t_one_loads t_one_miles t_one_waits t_one_lateAt t_other_row t_other_comes t_other_begins t_other_round t_other_size t_other_back t_other_loads t_other_miles t_other_waits t_other_lateAt t_isOfTwo p1_roundsOf p1_sizes p1_rows = some (z_t_one_row, z_t_one_comes, z_t_one_begins, z_t_one_round, z_t_one_size, z_t_one_back, z_t_one_loads, z_t_one_miles, z_t_one_waits, z_t_one_lateAt, z_t_other_row, z_t_other_comes, z_t_other_begins, z_t_other_round, z_t_other_size, z_t_other_back, z_t_other_loads, z_t_other_miles, z_t_other_waits, z_t_other_lateAt, z_t_isOfTwo, z_p1_roundsOf, z_p1_sizes, z_p1_rows)) (S : St G A s.heap H locs (w_X2_perform G a_t a_t_one a_t_other a_t_one_row a_t_one_comes a_t_one_begins a_t_one_slacks a_t_other_row a_t_other_comes a_t_other_begins a_t_other_slacks a_p1 a_p1_facts a_p1_roundsOf a_p1_locked a_p1_rules a_p1_sizes a_p1_rows a_p1_seen a_p1_plan a_p1_book t_isOfTwo t_kind t_gain t_a t_b t_c t_one_round t_one_size t_one_back t_one_loads t_one_miles t_one_waits t_one_lateAt t_one_later t_one_row t_one_comes t_one_begins t_other_round t_other_size t_other_back t_other_loads t_other_miles t_other_waits t_other_lateAt t_other_later t_other_row t_other_comes t_other_begins p1_stopCount p1_metric p1_fixed p1_facts p1_roundsOf p1_locked p1_rules p1_sizes p1_rows)) (hl : lv_has ls 3 [(0, .ref a_t), (1, .ref a_p1), (2, .int x2)]) : W p l e rm_X2_perform s m args below meth c H locs 0 0 (QV G below args s A (w_X2_perform G a_t a_t_one a_t_other a_t_one_row a_t_one_comes a_t_one_begins a_t_one_slacks a_t_other_row a_t_other_comes a_t_other_begins a_t_other_slacks a_p1 a_p1_facts a_p1_roundsOf a_p1_locked a_p1_rules a_p1_sizes a_p1_rows a_p1_seen a_p1_plan a_p1_book z_t_isOfTwo t_kind t_gain t_a t_b t_c z_t_one_round z_t_one_size z_t_one_back z_t_one_loads z_t_one_miles z_t_one_waits z_t_one_lateAt t_one_later z_t_one_row z_t_one_comes z_t_one_begins z_t_other_round z_t_other_size z_t_other_back z_t_other_loads z_t_other_miles z_t_other_waits z_t_other_lateAt t_other_later z_t_other_row z_t_other_comes z_t_other_begins p1_stopCount p1_metric p1_fixed p1_facts z_p1_roundsOf p1_locked p1_rules z_p1_sizes z_p1_rows)) (F0 m 91 ls []) := by
  unfold b_X2_perform_91 at hf
  have hx := C.1
  have hb := C.2.1
  have hown := C.2.2.2.2.1
  have hts := C.2.2.2.2.2.1
  have hN := C.2.2.2.2.2.2.2.2.2.2
  refine lv_iload_n (pc := 91) hx hb dX2_perform_91 rfl (lv_at hl 2 rfl) ?_
  refine lv_if_ne (tgt := 96) (pc := 92) hx hb dX2_perform_92 (by decide) (fun c1 => ?_) (fun c1 => ?_)
  · have hf := ifn c1 hf
    refine lv_aload_n (pc := 96) hx hb dX2_perform_96 rfl (lv_at hl 0 rfl) ?_
    refine x_get (pc := 97) (ci := 2) (T := TX2) (v := .ref a_t_one) C S 0 rfl rfl inlX2 0 (by decide) rfl qf_2_12 rfl dX2_perform_97 ?_
    refine lv_aload_n (pc := 100) hx hb dX2_perform_100 rfl (lv_at hl 1 rfl) ?_
    obtain ⟨⟨o2_p1_roundsOf, o2_p1_sizes, o2_p1_rows⟩, hq2, hf⟩ := bd_e hf
    refine x_vV (pc := 101) (As := [.ref a_p1]) (rest := []) (isC := [1, 2, 9, 11, 14, 15]) (ws' := (w_X2_perform G a_t a_t_one a_t_other a_t_one_row a_t_one_comes a_t_one_begins a_t_one_slacks a_t_other_row a_t_other_comes a_t_other_begins a_t_other_slacks a_p1 a_p1_facts a_p1_roundsOf a_p1_locked a_p1_rules a_p1_sizes a_p1_rows a_p1_seen a_p1_plan a_p1_book t_isOfTwo t_kind t_gain t_a t_b t_c t_one_round t_one_size t_one_back t_one_loads t_one_miles t_one_waits t_one_lateAt t_one_later t_one_row t_one_comes t_one_begins t_other_round t_other_size t_other_back t_other_loads t_other_miles t_other_waits t_other_lateAt t_other_later t_other_row t_other_comes t_other_begins p1_stopCount p1_metric p1_fixed p1_facts o2_p1_roundsOf p1_locked p1_rules o2_p1_sizes o2_p1_rows)) C S (c_X0_keep l G a_t_one a_t_one_row a_t_one_comes a_t_one_begins a_t_one_slacks a_p1 a_p1_facts a_p1_roundsOf a_p1_locked a_p1_rules a_p1_sizes a_p1_rows a_p1_seen a_p1_plan a_p1_book t_one_round t_one_size t_one_back t_one_loads t_one_miles t_one_waits t_one_lateAt t_one_later t_one_row p1_stopCount p1_metric p1_fixed p1_roundsOf p1_sizes p1_rows o2_p1_roundsOf o2_p1_sizes o2_p1_rows hq2) (u_X2_perform_X0_keep_92 hts) (ci := 0) rfl 1 rfl rfl (by decide +kernel) [none, some 0, some 1, none, none, none, none, none, none, some 2, none, some 3, none, none, some 4, some 5] (by decide +kernel) rfl rfl rfl hl.1 rfl (Nat.le_of_ble_eq_true rfl) dX2_perform_101 (fun H locs S => ?_)
    refine lv_aload_n (pc := 104) hx hb dX2_perform_104 rfl (lv_at hl 0 rfl) ?_
    refine x_get (pc := 105) (ci := 2) (T := TX2) (v := .int t_isOfTwo) C S 0 rfl rfl inlX2 2 (by decide) rfl qf_2_95 rfl dX2_perform_105 ?_
    refine lv_if_eq (tgt := 119) (pc := 108) hx hb dX2_perform_108 (by decide) (fun c3 => ?_) (fun c3 => ?_)
    · have hf := ifp c3 hf
      cases hf
      exact x_vret (pc := 119) C S dX2_perform_119
    · have hf := ifn c3 hf
      refine lv_aload_n (pc := 111) hx hb dX2_perform_111 rfl (lv_at hl 0 rfl) ?_
      refine x_get (pc := 112) (ci := 2) (T := TX2) (v := .ref a_t_other) C S 0 rfl rfl inlX2 1 (by decide) rfl qf_2_18 rfl dX2_perform_112 ?_
      refine lv_aload_n (pc := 115) hx hb dX2_perform_115 rfl (lv_at hl 1 rfl) ?_
      obtain ⟨⟨o4_p1_roundsOf, o4_p1_sizes, o4_p1_rows⟩, hq4, hf⟩ := bd_e hf
      refine x_vV (pc := 116) (As := [.ref a_p1]) (rest := []) (isC := [5, 6, 9, 11, 14, 15]) (ws' := (w_X2_perform G a_t a_t_one a_t_other a_t_one_row a_t_one_comes a_t_one_begins a_t_one_slacks a_t_other_row a_t_other_comes a_t_other_begins a_t_other_slacks a_p1 a_p1_facts a_p1_roundsOf a_p1_locked a_p1_rules a_p1_sizes a_p1_rows a_p1_seen a_p1_plan a_p1_book t_isOfTwo t_kind t_gain t_a t_b t_c t_one_round t_one_size t_one_back t_one_loads t_one_miles t_one_waits t_one_lateAt t_one_later t_one_row t_one_comes t_one_begins t_other_round t_other_size t_other_back t_other_loads t_other_miles t_other_waits t_other_lateAt t_other_later t_other_row t_other_comes t_other_begins p1_stopCount p1_metric p1_fixed p1_facts o4_p1_roundsOf p1_locked p1_rules o4_p1_sizes o4_p1_rows)) C S (c_X0_keep l G a_t_other a_t_other_row a_t_other_comes a_t_other_begins a_t_other_slacks a_p1 a_p1_facts a_p1_roundsOf a_p1_locked a_p1_rules a_p1_sizes a_p1_rows a_p1_seen a_p1_plan a_p1_book t_other_round t_other_size t_other_back t_other_loads t_other_miles t_other_waits t_other_lateAt t_other_later t_other_row p1_stopCount p1_metric p1_fixed o2_p1_roundsOf o2_p1_sizes o2_p1_rows o4_p1_roundsOf o4_p1_sizes o4_p1_rows hq4) (u_X2_perform_X0_keep_92 hts) (ci := 0) rfl 5 rfl rfl (by decide +kernel) [none, none, none, none, none, some 0, some 1, none, none, some 2, none, some 3, none, none, some 4, some 5] (by decide +kernel) rfl rfl rfl hl.1 rfl (Nat.le_of_ble_eq_true rfl) dX2_perform_116 (fun H locs S => ?_)
      cases hf
      exact x_vret (pc := 119) C S dX2_perform_119
  · have hf := ifp c1 hf
    cases hf
    exact x_vret (pc := 95) C S dX2_perform_95
set_option maxRecDepth 100000 in
set_option maxHeartbeats 4000000 in
theorem c_X2_perform (l : Launch) (G : GE) (a_t a_t_one a_t_other a_t_one_row a_t_one_comes a_t_one_begins a_t_one_slacks a_t_other_row a_t_other_comes a_t_other_begins a_t_other_slacks a_p1 a_p1_facts a_p1_roundsOf a_p1_locked a_p1_rules a_p1_sizes a_p1_rows a_p1_seen a_p1_plan a_p1_book : Nat) (t_isOfTwo : Int32) (t_kind : Int32) (t_gain : Int32) (t_a : Int32) (t_b : Int32) (t_c : Int32) (t_one_round : Int32) (t_one_size : Int32) (t_one_back : Int32) (t_one_loads : Int32) (t_one_miles : Int32) (t_one_waits : Int32) (t_one_lateAt : Int32) (t_one_later : Int32) (t_one_row : Nat → Int32) (t_one_comes : Nat → Int32) (t_one_begins : Nat → Int32) (t_other_round : Int32) (t_other_size : Int32) (t_other_back : Int32) (t_other_loads : Int32) (t_other_miles : Int32) (t_other_waits : Int32) (t_other_lateAt : Int32) (t_other_later : Int32) (t_other_row : Nat → Int32) (t_other_comes : Nat → Int32) (t_other_begins : Nat → Int32) (p1_stopCount : Int32) (p1_metric : Int32) (p1_fixed : Int32) (p1_facts : Nat → Int32) (p1_roundsOf : Nat → Int32) (p1_locked : Nat → Int32) (p1_rules : Nat → Int32) (p1_sizes : Nat → Int32) (p1_rows : Nat → Int32) (z_t_one_row : Nat → Int32) (z_t_one_comes : Nat → Int32) (z_t_one_begins : Nat → Int32) (z_t_one_round : Int32) (z_t_one_size : Int32) (z_t_one_back : Int32) (z_t_one_loads : Int32) (z_t_one_miles : Int32) (z_t_one_waits : Int32) (z_t_one_lateAt : Int32) (z_t_other_row : Nat → Int32) (z_t_other_comes : Nat → Int32) (z_t_other_begins : Nat → Int32) (z_t_other_round : Int32) (z_t_other_size : Int32) (z_t_other_back : Int32) (z_t_other_loads : Int32) (z_t_other_miles : Int32) (z_t_other_waits : Int32) (z_t_other_lateAt : Int32) (z_t_isOfTwo : Int32) (z_p1_roundsOf : Nat → Int32) (z_p1_sizes : Nat → Int32) (z_p1_rows : Nat → Int32) (hf : f_X2_perform t_one_row t_one_comes t_one_begins t_one_round t_one_size t_one_back t_one_loads t_one_miles t_one_waits t_one_lateAt t_other_row t_other_comes t_other_begins t_other_round t_other_size t_other_back t_other_loads t_other_miles t_other_waits t_other_lateAt t_isOfTwo t_kind t_a t_b t_c p1_facts p1_roundsOf p1_locked p1_rules p1_sizes p1_rows p1_metric = some (z_t_one_row, z_t_one_comes, z_t_one_begins, z_t_one_round, z_t_one_size, z_t_one_back, z_t_one_loads, z_t_one_miles, z_t_one_waits, z_t_one_lateAt, z_t_other_row, z_t_other_comes, z_t_other_begins, z_t_other_round, z_t_other_size, z_t_other_back, z_t_other_loads, z_t_other_miles, z_t_other_waits, z_t_other_lateAt, z_t_isOfTwo, z_p1_roundsOf, z_p1_sizes, z_p1_rows)) : CV l G yX2_perform kw_X2_perform rm_X2_perform [.ref a_t, .ref a_p1] (w_X2_perform G a_t a_t_one a_t_other a_t_one_row a_t_one_comes a_t_one_begins a_t_one_slacks a_t_other_row a_t_other_comes a_t_other_begins a_t_other_slacks a_p1 a_p1_facts a_p1_roundsOf a_p1_locked a_p1_rules a_p1_sizes a_p1_rows a_p1_seen a_p1_plan a_p1_book t_isOfTwo t_kind t_gain t_a t_b t_c t_one_round t_one_size t_one_back t_one_loads t_one_miles t_one_waits t_one_lateAt t_one_later t_one_row t_one_comes t_one_begins t_other_round t_other_size t_other_back t_other_loads t_other_miles t_other_waits t_other_lateAt t_other_later t_other_row t_other_comes t_other_begins p1_stopCount p1_metric p1_fixed p1_facts p1_roundsOf p1_locked p1_rules p1_sizes p1_rows) (w_X2_perform G a_t a_t_one a_t_other a_t_one_row a_t_one_comes a_t_one_begins a_t_one_slacks a_t_other_row a_t_other_comes a_t_other_begins a_t_other_slacks a_p1 a_p1_facts a_p1_roundsOf a_p1_locked a_p1_rules a_p1_sizes a_p1_rows a_p1_seen a_p1_plan a_p1_book z_t_isOfTwo t_kind t_gain t_a t_b t_c z_t_one_round z_t_one_size z_t_one_back z_t_one_loads z_t_one_miles z_t_one_waits z_t_one_lateAt t_one_later z_t_one_row z_t_one_comes z_t_one_begins z_t_other_round z_t_other_size z_t_other_back z_t_other_loads z_t_other_miles z_t_other_waits z_t_other_lateAt t_other_later z_t_other_row z_t_other_comes z_t_other_begins p1_stopCount p1_metric p1_fixed p1_facts z_p1_roundsOf p1_locked p1_rules z_p1_sizes z_p1_rows) := by
  refine en_V (cc := cX2_perform) (maxL := 3) (ret := none) (by decide +kernel) (Nat.le_of_ble_eq_true rfl) ?_
  intro p e s m args below meth c A ls C S hl
  have hl : lv_has ls 3 [(0, .ref a_t), (1, .ref a_p1)] := hl
  have C : Cx p s m args meth c cX2_perform none 3 RX2 G A := C
  unfold f_X2_perform at hf
  have hx := C.1
  have hb := C.2.1
  have hown := C.2.2.2.2.1
  have hts := C.2.2.2.2.2.1
  have hN := C.2.2.2.2.2.2.2.2.2.2
  refine lv_iconst (pc := 0) hx hb dX2_perform_0 ic_0 ?_
  refine lv_istore_n (pc := 1) (lv' := [(2, .int (0 : Int32)), (0, .ref a_t), (1, .ref a_p1)]) hx hb dX2_perform_1 rfl hl (by decide) rfl (fun ls hl => ?_)
  refine lv_aload_n (pc := 2) hx hb dX2_perform_2 rfl (lv_at hl 1 rfl) ?_
  refine x_get (pc := 3) (ci := 2) (T := TX2) (v := .int t_kind) C S 0 rfl rfl inlX2 3 (by decide) rfl qf_2_21 rfl dX2_perform_3 ?_
  by_cases s1_0 : t_kind = (1 : Int32)
  · have hf := ifp s1_0 hf
    refine lv_tableIn (tgt := 32) (off := 26) (x := t_kind) (pc := 6) hx hb dX2_perform_6 (by rw [s1_0]; decide) (by rw [s1_0]; decide) (by rw [s1_0]; decide) (by decide) ?_
    refine lv_aload_n (pc := 32) hx hb dX2_perform_32 rfl (lv_at hl 1 rfl) ?_
    refine lv_aload_n (pc := 33) hx hb dX2_perform_33 rfl (lv_at hl 2 rfl) ?_
    refine lv_aload_n (pc := 34) hx hb dX2_perform_34 rfl (lv_at hl 1 rfl) ?_
    refine x_get (pc := 35) (ci := 2) (T := TX2) (v := .int t_a) C S 0 rfl rfl inlX2 5 (by decide) rfl qf_2_28 rfl dX2_perform_35 ?_
    refine lv_aload_n (pc := 38) hx hb dX2_perform_38 rfl (lv_at hl 1 rfl) ?_
    refine x_get (pc := 39) (ci := 2) (T := TX2) (v := .int t_b) C S 0 rfl rfl inlX2 6 (by decide) rfl qf_2_31 rfl dX2_perform_39 ?_
    refine lv_aload_n (pc := 42) hx hb dX2_perform_42 rfl (lv_at hl 1 rfl) ?_
    refine x_get (pc := 43) (ci := 2) (T := TX2) (v := .int t_c) C S 0 rfl rfl inlX2 7 (by decide) rfl qf_2_34 rfl dX2_perform_43 ?_
    obtain ⟨⟨r2, o2_t_one_row, o2_t_one_comes, o2_t_one_begins, o2_t_one_round, o2_t_one_size, o2_t_one_back, o2_t_one_loads, o2_t_one_miles, o2_t_one_waits, o2_t_one_lateAt, o2_t_isOfTwo⟩, hq2, hf⟩ := bd_e hf
    refine x_vI (pc := 46) (As := [.ref a_p1, .int t_a, .int t_b, .int t_c]) (rest := []) (isC := [0, 1, 2, 3, 4, 9, 10, 12, 13, 14, 15]) (ws' := (w_X2_perform G a_t a_t_one a_t_other a_t_one_row a_t_one_comes a_t_one_begins a_t_one_slacks a_t_other_row a_t_other_comes a_t_other_begins a_t_other_slacks a_p1 a_p1_facts a_p1_roundsOf a_p1_locked a_p1_rules a_p1_sizes a_p1_rows a_p1_seen a_p1_plan a_p1_book o2_t_isOfTwo t_kind t_gain t_a t_b t_c o2_t_one_round o2_t_one_size o2_t_one_back o2_t_one_loads o2_t_one_miles o2_t_one_waits o2_t_one_lateAt t_one_later o2_t_one_row o2_t_one_comes o2_t_one_begins t_other_round t_other_size t_other_back t_other_loads t_other_miles t_other_waits t_other_lateAt t_other_later t_other_row t_other_comes t_other_begins p1_stopCount p1_metric p1_fixed p1_facts p1_roundsOf p1_locked p1_rules p1_sizes p1_rows)) C S (c_X2_tryTurn l G a_t a_t_one a_t_other a_t_one_row a_t_one_comes a_t_one_begins a_t_one_slacks a_p1 a_p1_facts a_p1_roundsOf a_p1_locked a_p1_rules a_p1_sizes a_p1_rows a_p1_seen a_p1_plan a_p1_book t_isOfTwo t_kind t_gain t_a t_b t_c t_one_round t_one_size t_one_back t_one_loads t_one_miles t_one_waits t_one_lateAt t_one_later t_one_row t_one_comes t_one_begins p1_stopCount p1_metric p1_fixed p1_facts p1_locked p1_rules p1_sizes p1_rows t_a t_b t_c r2 o2_t_one_row o2_t_one_comes o2_t_one_begins o2_t_one_round o2_t_one_size o2_t_one_back o2_t_one_loads o2_t_one_miles o2_t_one_waits o2_t_one_lateAt o2_t_isOfTwo hq2) (u_X2_perform_X2_tryTurn_57 hts) (ci := 2) rfl 0 rfl rfl (by decide +kernel) [some 0, some 1, some 2, some 3, some 4, none, none, none, none, some 5, some 6, none, some 7, some 8, some 9, some 10] (by decide +kernel) rfl rfl rfl hl.1 rfl (Nat.le_of_ble_eq_true rfl) dX2_perform_46 (fun H locs S => ?_)
    refine lv_istore_n (pc := 49) (lv' := [(2, .int r2), (0, .ref a_t), (1, .ref a_p1)]) hx hb dX2_perform_49 rfl hl (by decide) rfl (fun ls hl => ?_)
    refine lv_goto (tgt := 91) (pc := 50) hx hb dX2_perform_50 (by decide) ?_
    exact k_X2_perform_91 C (o2_t_isOfTwo) (t_kind) (t_gain) (t_a) (t_b) (t_c) (o2_t_one_round) (o2_t_one_size) (o2_t_one_back) (o2_t_one_loads) (o2_t_one_miles) (o2_t_one_waits) (o2_t_one_lateAt) (t_one_later) (o2_t_one_row) (o2_t_one_comes) (o2_t_one_begins) (t_other_round) (t_other_size) (t_other_back) (t_other_loads) (t_other_miles) (t_other_waits) (t_other_lateAt) (t_other_later) (t_other_row) (t_other_comes) (t_other_begins) (p1_stopCount) (p1_metric) (p1_fixed) (p1_facts) (p1_roundsOf) (p1_locked) (p1_rules) (p1_sizes) (p1_rows) (r2) hf S (lv_sub hl [1, 2, 0] rfl)
  have hf := ifn s1_0 hf
  by_cases s1_1 : t_kind = (2 : Int32)
  · have hf := ifp s1_1 hf
    refine lv_tableIn (tgt := 53) (off := 47) (x := t_kind) (pc := 6) hx hb dX2_perform_6 (by rw [s1_1]; decide) (by rw [s1_1]; decide) (by rw [s1_1]; decide) (by decide) ?_
    refine lv_aload_n (pc := 53) hx hb dX2_perform_53 rfl (lv_at hl 1 rfl) ?_
    refine lv_aload_n (pc := 54) hx hb dX2_perform_54 rfl (lv_at hl 2 rfl) ?_
    refine lv_aload_n (pc := 55) hx hb dX2_perform_55 rfl (lv_at hl 1 rfl) ?_
    refine x_get (pc := 56) (ci := 2) (T := TX2) (v := .int t_a) C S 0 rfl rfl inlX2 5 (by decide) rfl qf_2_28 rfl dX2_perform_56 ?_
    refine lv_aload_n (pc := 59) hx hb dX2_perform_59 rfl (lv_at hl 1 rfl) ?_
    refine x_get (pc := 60) (ci := 2) (T := TX2) (v := .int t_b) C S 0 rfl rfl inlX2 6 (by decide) rfl qf_2_31 rfl dX2_perform_60 ?_
    refine lv_aload_n (pc := 63) hx hb dX2_perform_63 rfl (lv_at hl 1 rfl) ?_
    refine x_get (pc := 64) (ci := 2) (T := TX2) (v := .int t_c) C S 0 rfl rfl inlX2 7 (by decide) rfl qf_2_34 rfl dX2_perform_64 ?_
    obtain ⟨⟨r3, o3_t_one_row, o3_t_one_comes, o3_t_one_begins, o3_t_one_round, o3_t_one_size, o3_t_one_back, o3_t_one_loads, o3_t_one_miles, o3_t_one_waits, o3_t_one_lateAt, o3_t_other_row, o3_t_other_comes, o3_t_other_begins, o3_t_other_round, o3_t_other_size, o3_t_other_back, o3_t_other_loads, o3_t_other_miles, o3_t_other_waits, o3_t_other_lateAt, o3_t_isOfTwo⟩, hq3, hf⟩ := bd_e hf
    refine x_vI (pc := 67) (As := [.ref a_p1, .int t_a, .int t_b, .int t_c]) (rest := []) (isC := [0, 1, 2, 3, 4, 5, 6, 7, 8, 9, 10, 11, 12, 13, 14, 15]) (ws' := (w_X2_perform G a_t a_t_one a_t_other a_t_one_row a_t_one_comes a_t_one_begins a_t_one_slacks a_t_other_row a_t_other_comes a_t_other_begins a_t_other_slacks a_p1 a_p1_facts a_p1_roundsOf a_p1_locked a_p1_rules a_p1_sizes a_p1_rows a_p1_seen a_p1_plan a_p1_book o3_t_isOfTwo t_kind t_gain t_a t_b t_c o3_t_one_round o3_t_one_size o3_t_one_back o3_t_one_loads o3_t_one_miles o3_t_one_waits o3_t_one_lateAt t_one_later o3_t_one_row o3_t_one_comes o3_t_one_begins o3_t_other_round o3_t_other_size o3_t_other_back o3_t_other_loads o3_t_other_miles o3_t_other_waits o3_t_other_lateAt t_other_later o3_t_other_row o3_t_other_comes o3_t_other_begins p1_stopCount p1_metric p1_fixed p1_facts p1_roundsOf p1_locked p1_rules p1_sizes p1_rows)) C S (c_X2_tryShift l G a_t a_t_one a_t_other a_t_one_row a_t_one_comes a_t_one_begins a_t_one_slacks a_t_other_row a_t_other_comes a_t_other_begins a_t_other_slacks a_p1 a_p1_facts a_p1_roundsOf a_p1_locked a_p1_rules a_p1_sizes a_p1_rows a_p1_seen a_p1_plan a_p1_book t_isOfTwo t_kind t_gain t_a t_b t_c t_one_round t_one_size t_one_back t_one_loads t_one_miles t_one_waits t_one_lateAt t_one_later t_one_row t_one_comes t_one_begins t_other_round t_other_size t_other_back t_other_loads t_other_miles t_other_waits t_other_lateAt t_other_later t_other_row t_other_comes t_other_begins p1_stopCount p1_metric p1_fixed p1_facts p1_roundsOf p1_locked p1_rules p1_sizes p1_rows t_a t_b t_c r3 o3_t_one_row o3_t_one_comes o3_t_one_begins o3_t_one_round o3_t_one_size o3_t_one_back o3_t_one_loads o3_t_one_miles o3_t_one_waits o3_t_one_lateAt o3_t_other_row o3_t_other_comes o3_t_other_begins o3_t_other_round o3_t_other_size o3_t_other_back o3_t_other_loads o3_t_other_miles o3_t_other_waits o3_t_other_lateAt o3_t_isOfTwo hq3) (u_X2_perform_X2_tryShift_81 hts) (ci := 2) rfl 0 rfl rfl (by decide +kernel) [some 0, some 1, some 2, some 3, some 4, some 5, some 6, some 7, some 8, some 9, some 10, some 11, some 12, some 13, some 14, some 15] (by decide +kernel) rfl rfl rfl hl.1 rfl (Nat.le_of_ble_eq_true rfl) dX2_perform_67 (fun H locs S => ?_)
    refine lv_istore_n (pc := 70) (lv' := [(2, .int r3), (0, .ref a_t), (1, .ref a_p1)]) hx hb dX2_perform_70 rfl hl (by decide) rfl (fun ls hl => ?_)
    refine lv_goto (tgt := 91) (pc := 71) hx hb dX2_perform_71 (by decide) ?_
    exact k_X2_perform_91 C (o3_t_isOfTwo) (t_kind) (t_gain) (t_a) (t_b) (t_c) (o3_t_one_round) (o3_t_one_size) (o3_t_one_back) (o3_t_one_loads) (o3_t_one_miles) (o3_t_one_waits) (o3_t_one_lateAt) (t_one_later) (o3_t_one_row) (o3_t_one_comes) (o3_t_one_begins) (o3_t_other_round) (o3_t_other_size) (o3_t_other_back) (o3_t_other_loads) (o3_t_other_miles) (o3_t_other_waits) (o3_t_other_lateAt) (t_other_later) (o3_t_other_row) (o3_t_other_comes) (o3_t_other_begins) (p1_stopCount) (p1_metric) (p1_fixed) (p1_facts) (p1_roundsOf) (p1_locked) (p1_rules) (p1_sizes) (p1_rows) (r3) hf S (lv_sub hl [1, 2, 0] rfl)
  have hf := ifn s1_1 hf
  by_cases s1_2 : t_kind = (3 : Int32)
  · have hf := ifp s1_2 hf
    refine lv_tableIn (tgt := 74) (off := 68) (x := t_kind) (pc := 6) hx hb dX2_perform_6 (by rw [s1_2]; decide) (by rw [s1_2]; decide) (by rw [s1_2]; decide) (by decide) ?_
    refine lv_aload_n (pc := 74) hx hb dX2_perform_74 rfl (lv_at hl 1 rfl) ?_
    refine lv_aload_n (pc := 75) hx hb dX2_perform_75 rfl (lv_at hl 2 rfl) ?_
    refine lv_aload_n (pc := 76) hx hb dX2_perform_76 rfl (lv_at hl 1 rfl) ?_
    refine x_get (pc := 77) (ci := 2) (T := TX2) (v := .int t_a) C S 0 rfl rfl inlX2 5 (by decide) rfl qf_2_28 rfl dX2_perform_77 ?_
    refine lv_aload_n (pc := 80) hx hb dX2_perform_80 rfl (lv_at hl 1 rfl) ?_
    refine x_get (pc := 81) (ci := 2) (T := TX2) (v := .int t_b) C S 0 rfl rfl inlX2 6 (by decide) rfl qf_2_31 rfl dX2_perform_81 ?_
    obtain ⟨⟨r4, o4_t_one_row, o4_t_one_comes, o4_t_one_begins, o4_t_one_round, o4_t_one_size, o4_t_one_back, o4_t_one_loads, o4_t_one_miles, o4_t_one_waits, o4_t_one_lateAt, o4_t_other_row, o4_t_other_comes, o4_t_other_begins, o4_t_other_round, o4_t_other_size, o4_t_other_back, o4_t_other_loads, o4_t_other_miles, o4_t_other_waits, o4_t_other_lateAt, o4_t_isOfTwo⟩, hq4, hf⟩ := bd_e hf
    refine x_vI (pc := 84) (As := [.ref a_p1, .int t_a, .int t_b]) (rest := []) (isC := [0, 1, 2, 3, 4, 5, 6, 7, 8, 9, 10, 11, 12, 13, 14, 15]) (ws' := (w_X2_perform G a_t a_t_one a_t_other a_t_one_row a_t_one_comes a_t_one_begins a_t_one_slacks a_t_other_row a_t_other_comes a_t_other_begins a_t_other_slacks a_p1 a_p1_facts a_p1_roundsOf a_p1_locked a_p1_rules a_p1_sizes a_p1_rows a_p1_seen a_p1_plan a_p1_book o4_t_isOfTwo t_kind t_gain t_a t_b t_c o4_t_one_round o4_t_one_size o4_t_one_back o4_t_one_loads o4_t_one_miles o4_t_one_waits o4_t_one_lateAt t_one_later o4_t_one_row o4_t_one_comes o4_t_one_begins o4_t_other_round o4_t_other_size o4_t_other_back o4_t_other_loads o4_t_other_miles o4_t_other_waits o4_t_other_lateAt t_other_later o4_t_other_row o4_t_other_comes o4_t_other_begins p1_stopCount p1_metric p1_fixed p1_facts p1_roundsOf p1_locked p1_rules p1_sizes p1_rows)) C S (c_X2_trySwap l G a_t a_t_one a_t_other a_t_one_row a_t_one_comes a_t_one_begins a_t_one_slacks a_t_other_row a_t_other_comes a_t_other_begins a_t_other_slacks a_p1 a_p1_facts a_p1_roundsOf a_p1_locked a_p1_rules a_p1_sizes a_p1_rows a_p1_seen a_p1_plan a_p1_book t_isOfTwo t_kind t_gain t_a t_b t_c t_one_round t_one_size t_one_back t_one_loads t_one_miles t_one_waits t_one_lateAt t_one_later t_one_row t_one_comes t_one_begins t_other_round t_other_size t_other_back t_other_loads t_other_miles t_other_waits t_other_lateAt t_other_later t_other_row t_other_comes t_other_begins p1_stopCount p1_metric p1_fixed p1_facts p1_roundsOf p1_locked p1_rules p1_sizes p1_rows t_a t_b r4 o4_t_one_row o4_t_one_comes o4_t_one_begins o4_t_one_round o4_t_one_size o4_t_one_back o4_t_one_loads o4_t_one_miles o4_t_one_waits o4_t_one_lateAt o4_t_other_row o4_t_other_comes o4_t_other_begins o4_t_other_round o4_t_other_size o4_t_other_back o4_t_other_loads o4_t_other_miles o4_t_other_waits o4_t_other_lateAt o4_t_isOfTwo hq4) (u_X2_perform_X2_trySwap_88 hts) (ci := 2) rfl 0 rfl rfl (by decide +kernel) [some 0, some 1, some 2, some 3, some 4, some 5, some 6, some 7, some 8, some 9, some 10, some 11, some 12, some 13, some 14, some 15] (by decide +kernel) rfl rfl rfl hl.1 rfl (Nat.le_of_ble_eq_true rfl) dX2_perform_84 (fun H locs S => ?_)
    refine lv_istore_n (pc := 87) (lv' := [(2, .int r4), (0, .ref a_t), (1, .ref a_p1)]) hx hb dX2_perform_87 rfl hl (by decide) rfl (fun ls hl => ?_)
    refine lv_goto (tgt := 91) (pc := 88) hx hb dX2_perform_88 (by decide) ?_
    exact k_X2_perform_91 C (o4_t_isOfTwo) (t_kind) (t_gain) (t_a) (t_b) (t_c) (o4_t_one_round) (o4_t_one_size) (o4_t_one_back) (o4_t_one_loads) (o4_t_one_miles) (o4_t_one_waits) (o4_t_one_lateAt) (t_one_later) (o4_t_one_row) (o4_t_one_comes) (o4_t_one_begins) (o4_t_other_round) (o4_t_other_size) (o4_t_other_back) (o4_t_other_loads) (o4_t_other_miles) (o4_t_other_waits) (o4_t_other_lateAt) (t_other_later) (o4_t_other_row) (o4_t_other_comes) (o4_t_other_begins) (p1_stopCount) (p1_metric) (p1_fixed) (p1_facts) (p1_roundsOf) (p1_locked) (p1_rules) (p1_sizes) (p1_rows) (r4) hf S (lv_sub hl [1, 2, 0] rfl)
  have hf := ifn s1_2 hf
  have z1_0 := lv_neT (a := 1) s1_0 (by decide)
  have z1_1 := lv_neT (a := 2) s1_1 (by decide)
  have z1_2 := lv_neT (a := 3) s1_2 (by decide)
  refine lv_tableOut (tgt := 91) (x := t_kind) (pc := 6) hx hb dX2_perform_6 (by omega) (by decide) ?_
  exact k_X2_perform_91 C (t_isOfTwo) (t_kind) (t_gain) (t_a) (t_b) (t_c) (t_one_round) (t_one_size) (t_one_back) (t_one_loads) (t_one_miles) (t_one_waits) (t_one_lateAt) (t_one_later) (t_one_row) (t_one_comes) (t_one_begins) (t_other_round) (t_other_size) (t_other_back) (t_other_loads) (t_other_miles) (t_other_waits) (t_other_lateAt) (t_other_later) (t_other_row) (t_other_comes) (t_other_begins) (p1_stopCount) (p1_metric) (p1_fixed) (p1_facts) (p1_roundsOf) (p1_locked) (p1_rules) (p1_sizes) (p1_rows) ((0 : Int32)) hf S (lv_sub hl [1, 2, 0] rfl)
end

abbrev rm_X3_append : Room := { frames := 0, cells := 0, slots := 0, locals := 0 }
abbrev kw_X3_append : Cond := .code yX3_append cX3_append 3 (some .int)
abbrev w_X3_append (G : GE) (a_t a_t_left a_t_right : Nat) (t_size : Int32) (t_left : Nat → Int32) (t_right : Nat → Int32) : va_W := [(a_t, ob 3 [.ref a_t_left, .ref a_t_right, .int t_size]), (a_t_left, aI G 8 t_left), (a_t_right, aI G 8 t_right)]
section
variable {p : Program} {l : Launch} {e : Env} {s : State} {m : MethodId} {args : Array Value} {below : List Frame} {meth : Method} {c : Code} {A : Nat → Prop} {G : GE} {a_t a_t_left a_t_right : Nat} {r : Int32} {z_t_left : Nat → Int32} {z_t_right : Nat → Int32} {z_t_size : Int32}
set_option maxRecDepth 100000 in
set_option maxHeartbeats 4000000 in
theorem c_X3_append (l : Launch) (G : GE) (a_t a_t_left a_t_right : Nat) (t_size : Int32) (t_left : Nat → Int32) (t_right : Nat → Int32) (x1 : Int32) (x2 : Int32) (r : Int32) (z_t_left : Nat → Int32) (z_t_right : Nat → Int32) (z_t_size : Int32) (hf : f_X3_append t_left t_right t_size x1 x2 = some (r, z_t_left, z_t_right, z_t_size)) : CI l G yX3_append kw_X3_append rm_X3_append [.ref a_t, .int x1, .int x2] (w_X3_append G a_t a_t_left a_t_right t_size t_left t_right) r (w_X3_append G a_t a_t_left a_t_right z_t_size z_t_left z_t_right) := by
  refine en_I (cc := cX3_append) (maxL := 3) (ret := (some .int)) (by decide +kernel) (Nat.le_of_ble_eq_true rfl) ?_
  intro p e s m args below meth c A ls C S hl
  have hl : lv_has ls 3 [(0, .ref a_t), (1, .int x1), (2, .int x2)] := hl
  have C : Cx p s m args meth c cX3_append (some .int) 3 RX3 G A := C
  unfold f_X3_append at hf
  have hx := C.1
  have hb := C.2.1
  have hown := C.2.2.2.2.1
  have hts := C.2.2.2.2.2.1
  have hN := C.2.2.2.2.2.2.2.2.2.2
  refine lv_aload_n (pc := 0) hx hb dX3_append_0 rfl (lv_at hl 0 rfl) ?_
  refine x_get (pc := 1) (ci := 3) (T := TX3) (v := .int t_size) C S 0 rfl rfl inlX3 2 (by decide) rfl qf_3_18 rfl dX3_append_1 ?_
  refine lv_if_lt (tgt := 46) (pc := 4) hx hb dX3_append_4 (by decide) (fun c1 => ?_) (fun c1 => ?_)
  · have hf := ifp c1 hf
    refine lv_aload_n (pc := 46) hx hb dX3_append_46 rfl (lv_at hl 0 rfl) ?_
    refine x_get (pc := 47) (ci := 3) (T := TX3) (v := .int t_size) C S 0 rfl rfl inlX3 2 (by decide) rfl qf_3_18 rfl dX3_append_47 ?_
    cases hf
    exact x_iret (pc := 50) C S dX3_append_50
  · have hf := ifn c1 hf
    refine lv_aload_n (pc := 7) hx hb dX3_append_7 rfl (lv_at hl 0 rfl) ?_
    refine x_get (pc := 8) (ci := 3) (T := TX3) (v := .int t_size) C S 0 rfl rfl inlX3 2 (by decide) rfl qf_3_18 rfl dX3_append_8 ?_
    refine lv_bipush (pc := 11) hx hb dX3_append_11 bc_8 ?_
    refine lv_icmp_ge (tgt := 46) (pc := 13) hx hb dX3_append_13 (by decide) (fun c2 => ?_) (fun c2 => ?_)
    · have hf := ifp c2 hf
      refine lv_aload_n (pc := 46) hx hb dX3_append_46 rfl (lv_at hl 0 rfl) ?_
      refine x_get (pc := 47) (ci := 3) (T := TX3) (v := .int t_size) C S 0 rfl rfl inlX3 2 (by decide) rfl qf_3_18 rfl dX3_append_47 ?_
      cases hf
      exact x_iret (pc := 50) C S dX3_append_50
    · have hf := ifn c2 hf
      refine lv_aload_n (pc := 16) hx hb dX3_append_16 rfl (lv_at hl 0 rfl) ?_
      refine x_get (pc := 17) (ci := 3) (T := TX3) (v := .ref a_t_left) C S 0 rfl rfl inlX3 0 (by decide) rfl qf_3_9 rfl dX3_append_17 ?_
      refine lv_aload_n (pc := 20) hx hb dX3_append_20 rfl (lv_at hl 0 rfl) ?_
      refine x_get (pc := 21) (ci := 3) (T := TX3) (v := .int t_size) C S 0 rfl rfl inlX3 2 (by decide) rfl qf_3_18 rfl dX3_append_21 ?_
      refine lv_iload_n (pc := 24) hx hb dX3_append_24 rfl (lv_at hl 1 rfl) ?_
      obtain ⟨hv3, hf⟩ := gI_e hf
      refine x_iast (pc := 25) (ws' := (w_X3_append G a_t a_t_left a_t_right t_size (upd t_left t_size.toNatClampNeg x1) t_right)) C S 1 rfl hv3 rfl dX3_append_25 (fun H locs S => ?_)
      refine lv_aload_n (pc := 26) hx hb dX3_append_26 rfl (lv_at hl 0 rfl) ?_
      refine x_get (pc := 27) (ci := 3) (T := TX3) (v := .ref a_t_right) C S 0 rfl rfl inlX3 1 (by decide) rfl qf_3_15 rfl dX3_append_27 ?_
      refine lv_aload_n (pc := 30) hx hb dX3_append_30 rfl (lv_at hl 0 rfl) ?_
      refine x_get (pc := 31) (ci := 3) (T := TX3) (v := .int t_size) C S 0 rfl rfl inlX3 2 (by decide) rfl qf_3_18 rfl dX3_append_31 ?_
      refine lv_iload_n (pc := 34) hx hb dX3_append_34 rfl (lv_at hl 2 rfl) ?_
      refine x_iast (pc := 35) (ws' := (w_X3_append G a_t a_t_left a_t_right t_size (upd t_left t_size.toNatClampNeg x1) (upd t_right t_size.toNatClampNeg x2))) C S 2 rfl hv3 rfl dX3_append_35 (fun H locs S => ?_)
      refine lv_aload_n (pc := 36) hx hb dX3_append_36 rfl (lv_at hl 0 rfl) ?_
      refine lv_dup (pc := 37) hx hb dX3_append_37 rfl ?_
      refine x_get (pc := 38) (ci := 3) (T := TX3) (v := .int t_size) C S 0 rfl rfl inlX3 2 (by decide) rfl qf_3_18 rfl dX3_append_38 ?_
      refine lv_iconst (pc := 41) hx hb dX3_append_41 ic_1 ?_
      refine lv_iadd (pc := 42) hx hb dX3_append_42 ?_
      refine x_put (pc := 43) (ci := 3) (T := TX3) (ws' := (w_X3_append G a_t a_t_left a_t_right (t_size + (1 : Int32)) (upd t_left t_size.toNatClampNeg x1) (upd t_right t_size.toNatClampNeg x2))) C S tyX3 tyX3_ok nmX3 0 rfl rfl inlX3 2 (by decide) rfl qf_3_18 rfl rfl rfl rfl (Nat.le_of_ble_eq_true rfl) rfl dX3_append_43 (fun H locs S => ?_)
      refine lv_aload_n (pc := 46) hx hb dX3_append_46 rfl (lv_at hl 0 rfl) ?_
      refine x_get (pc := 47) (ci := 3) (T := TX3) (v := .int (t_size + (1 : Int32))) C S 0 rfl rfl inlX3 2 (by decide) rfl qf_3_18 rfl dX3_append_47 ?_
      cases hf
      exact x_iret (pc := 50) C S dX3_append_50
end

abbrev rm_X7_copyRow : Room := { frames := 0, cells := 0, slots := 0, locals := 0 }
abbrev kw_X7_copyRow : Cond := .code yX7_copyRow cX7_copyRow 3 none
abbrev w_X7_copyRow (G : GE) (a_p0 a_p1 : Nat) (n_p0 : Nat) (n_p1 : Nat) (p0 : Nat → Int32) (p1 : Nat → Int32) : va_W := [(a_p0, aI G n_p0 p0), (a_p1, aI G n_p1 p1)]
section
variable {p : Program} {l : Launch} {e : Env} {s : State} {m : MethodId} {args : Array Value} {below : List Frame} {meth : Method} {c : Code} {A : Nat → Prop} {G : GE} {a_p0 a_p1 : Nat} {n_p0 n_p1 : Nat} {z_p1 : Nat → Int32}
set_option maxRecDepth 100000 in
set_option maxHeartbeats 4000000 in
theorem k_X7_copyRow_2 (C : Cx p s m args meth c cX7_copyRow none 3 RX7 G A) (p0 : Nat → Int32) (p1 : Nat → Int32) (x2 : Int32) (k2 : Int32 × (Nat → Int32) → Option ((Nat → Int32))) (hk2 : ∀ {H : Heap} {locs : List Loc} {ls : Array Slot} (x2' : Int32) (p1' : Nat → Int32), k2 (x2', p1') = some z_p1 → St G A s.heap H locs (w_X7_copyRow G a_p0 a_p1 n_p0 n_p1 p0 p1') → lv_has ls 3 [(0, .ref a_p0), (1, .ref a_p1), (2, .int x2')] → W p l e rm_X7_copyRow s m args below meth c H locs 0 0 (QV G below args s A (w_X7_copyRow G a_p0 a_p1 n_p0 n_p1 p0 z_p1)) (F0 m 2 ls [])) {H : Heap} {locs : List Loc} {ls : Array Slot} (hf : b_X7_copyRow_2 n_p0 n_p1 p0 k2 x2 p1 = some z_p1) (S : St G A s.heap H locs (w_X7_copyRow G a_p0 a_p1 n_p0 n_p1 p0 p1)) (hl : lv_has ls 3 [(0, .ref a_p0), (1, .ref a_p1), (2, .int x2)]) : W p l e rm_X7_copyRow s m args below meth c H locs 0 0 (QV G below args s A (w_X7_copyRow G a_p0 a_p1 n_p0 n_p1 p0 z_p1)) (F0 m 2 ls []) := by
  unfold b_X7_copyRow_2 at hf
  have hx := C.1
  have hb := C.2.1
  have hown := C.2.2.2.2.1
  have hts := C.2.2.2.2.2.1
  have hN := C.2.2.2.2.2.2.2.2.2.2
  refine lv_iload_n (pc := 2) hx hb dX7_copyRow_2 rfl (lv_at hl 2 rfl) ?_
  refine lv_aload_n (pc := 3) hx hb dX7_copyRow_3 rfl (lv_at hl 0 rfl) ?_
  refine x_lenI (pc := 4) C S 0 rfl rfl dX7_copyRow_4 ?_
  refine lv_icmp_ge (tgt := 26) (pc := 5) hx hb dX7_copyRow_5 (by decide) (fun c1 => ?_) (fun c1 => ?_)
  · have hf := ifp c1 hf
    cases hf
    exact x_vret (pc := 26) C S dX7_copyRow_26
  · have hf := ifn c1 hf
    refine lv_iload_n (pc := 8) hx hb dX7_copyRow_8 rfl (lv_at hl 2 rfl) ?_
    refine lv_aload_n (pc := 9) hx hb dX7_copyRow_9 rfl (lv_at hl 1 rfl) ?_
    refine x_lenI (pc := 10) C S 1 rfl rfl dX7_copyRow_10 ?_
    refine lv_icmp_ge (tgt := 26) (pc := 11) hx hb dX7_copyRow_11 (by decide) (fun c2 => ?_) (fun c2 => ?_)
    · have hf := ifp c2 hf
      cases hf
      exact x_vret (pc := 26) C S dX7_copyRow_26
    · have hf := ifn c2 hf
      refine lv_aload_n (pc := 14) hx hb dX7_copyRow_14 rfl (lv_at hl 1 rfl) ?_
      refine lv_iload_n (pc := 15) hx hb dX7_copyRow_15 rfl (lv_at hl 2 rfl) ?_
      refine lv_aload_n (pc := 16) hx hb dX7_copyRow_16 rfl (lv_at hl 0 rfl) ?_
      refine lv_iload_n (pc := 17) hx hb dX7_copyRow_17 rfl (lv_at hl 2 rfl) ?_
      obtain ⟨hv3, hf⟩ := gI_e hf
      refine x_iald (pc := 18) C S 0 rfl hv3 dX7_copyRow_18 ?_
      obtain ⟨hv4, hf⟩ := gI_e hf
      refine x_iast (pc := 19) (ws' := (w_X7_copyRow G a_p0 a_p1 n_p0 n_p1 p0 (upd p1 x2.toNatClampNeg (p0 x2.toNatClampNeg)))) C S 1 rfl hv4 rfl dX7_copyRow_19 (fun H locs S => ?_)
      refine lv_iinc (pc := 20) (v := (x2 + (1 : Int32))) (lv' := [(2, .int (x2 + (1 : Int32))), (0, .ref a_p0), (1, .ref a_p1)]) hx hb dX7_copyRow_20 hl (k := 2) rfl (congrArg (fun z => x2 + z) ic_1) (by decide) rfl (fun ls hl => ?_)
      refine lv_goto (tgt := 2) (pc := 23) hx hb dX7_copyRow_23 (by decide) ?_
      exact hk2 ((x2 + (1 : Int32))) ((upd p1 x2.toNatClampNeg (p0 x2.toNatClampNeg)))  hf S (lv_sub hl [1, 2, 0] rfl)
set_option maxRecDepth 100000 in
set_option maxHeartbeats 4000000 in
theorem h_X7_copyRow_2 (C : Cx p s m args meth c cX7_copyRow none 3 RX7 G A) (p0 : Nat → Int32) : ∀ (n : Nat) (x2 : Int32) (p1 : Nat → Int32) {H : Heap} {locs : List Loc} {ls : Array Slot} (hf : lp (fun k x => b_X7_copyRow_2 n_p0 n_p1 p0 k x.1 x.2) n (x2, p1) = some z_p1) (S : St G A s.heap H locs (w_X7_copyRow G a_p0 a_p1 n_p0 n_p1 p0 p1)) (hl : lv_has ls 3 [(0, .ref a_p0), (1, .ref a_p1), (2, .int x2)]), W p l e rm_X7_copyRow s m args below meth c H locs 0 0 (QV G below args s A (w_X7_copyRow G a_p0 a_p1 n_p0 n_p1 p0 z_p1)) (F0 m 2 ls []) := by
  intro n
  induction n with
  | zero =>
    intro x2 p1  H locs ls hf
    cases hf
  | succ n ih =>
    intro x2 p1  H locs ls hf S hl
    have hf : b_X7_copyRow_2 n_p0 n_p1 p0 (lp (fun k x => b_X7_copyRow_2 n_p0 n_p1 p0 k x.1 x.2) n) x2 p1 = some z_p1 := hf
    exact k_X7_copyRow_2 C p0 p1 x2  (lp (fun k x => b_X7_copyRow_2 n_p0 n_p1 p0 k x.1 x.2) n) (fun x2' p1'  h S hl => ih x2' p1'  h S hl) hf S hl
set_option maxRecDepth 100000 in
set_option maxHeartbeats 4000000 in
theorem c_X7_copyRow (l : Launch) (G : GE) (a_p0 a_p1 : Nat) (n_p0 : Nat) (n_p1 : Nat) (p0 : Nat → Int32) (p1 : Nat → Int32) (z_p1 : Nat → Int32) (hf : f_X7_copyRow n_p0 n_p1 p0 p1 = some z_p1) : CV l G yX7_copyRow kw_X7_copyRow rm_X7_copyRow [.ref a_p0, .ref a_p1] (w_X7_copyRow G a_p0 a_p1 n_p0 n_p1 p0 p1) (w_X7_copyRow G a_p0 a_p1 n_p0 n_p1 p0 z_p1) := by
  refine en_V (cc := cX7_copyRow) (maxL := 3) (ret := none) (by decide +kernel) (Nat.le_of_ble_eq_true rfl) ?_
  intro p e s m args below meth c A ls C S hl
  have hl : lv_has ls 3 [(0, .ref a_p0), (1, .ref a_p1)] := hl
  have C : Cx p s m args meth c cX7_copyRow none 3 RX7 G A := C
  unfold f_X7_copyRow at hf
  have hx := C.1
  have hb := C.2.1
  have hown := C.2.2.2.2.1
  have hts := C.2.2.2.2.2.1
  have hN := C.2.2.2.2.2.2.2.2.2.2
  refine lv_iconst (pc := 0) hx hb dX7_copyRow_0 ic_0 ?_
  refine lv_istore_n (pc := 1) (lv' := [(2, .int (0 : Int32)), (0, .ref a_p0), (1, .ref a_p1)]) hx hb dX7_copyRow_1 rfl hl (by decide) rfl (fun ls hl => ?_)
  exact h_X7_copyRow_2 C (p0) fu ((0 : Int32)) (p1) hf S (lv_sub hl [1, 2, 0] rfl)
end

abbrev rm_X3_copyFrom : Room := { frames := 1, cells := 0, slots := 0, locals := 22 }
abbrev kw_X3_copyFrom : Cond := .code yX3_copyFrom cX3_copyFrom 2 none
abbrev w_X3_copyFrom (G : GE) (a_t a_t_left a_t_right a_p1 a_p1_left a_p1_right : Nat) (t_size : Int32) (t_left : Nat → Int32) (t_right : Nat → Int32) (p1_size : Int32) (p1_left : Nat → Int32) (p1_right : Nat → Int32) : va_W := [(a_t, ob 3 [.ref a_t_left, .ref a_t_right, .int t_size]), (a_t_left, aI G 8 t_left), (a_t_right, aI G 8 t_right), (a_p1, ob 3 [.ref a_p1_left, .ref a_p1_right, .int p1_size]), (a_p1_left, aI G 8 p1_left), (a_p1_right, aI G 8 p1_right)]
theorem u_X3_copyFrom_X7_copyRow_22 {s : State} {args : Array Value} (hts : ∀ w ∈ WU, w.before args s = true) (hN : Nx s) : va_CN rm_X3_copyFrom s args RX3 22 yX7_copyRow RX7 cX7_copyRow 3 none (kw_X7_copyRow :: WU) rm_X7_copyRow 0 0 2 ∧ (Cond.static yX7_copyRow).before args s = true ∧ True := ⟨va_cnB 2 hts (gW qc_X7_copyRow) rfl rfl rfl (hN.1 _ (by decide +kernel : (RX3, 22, yX7_copyRow) ∈ nstM)) (hts _ qn_7) (by decide +kernel) ⟨Nat.le_of_ble_eq_true rfl, Nat.le_of_ble_eq_true rfl⟩, hts _ qs_X7_copyRow, trivial⟩
section
variable {p : Program} {l : Launch} {e : Env} {s : State} {m : MethodId} {args : Array Value} {below : List Frame} {meth : Method} {c : Code} {A : Nat → Prop} {G : GE} {a_t a_t_left a_t_right a_p1 a_p1_left a_p1_right : Nat} {z_t_left : Nat → Int32} {z_t_right : Nat → Int32} {z_t_size : Int32}
set_option maxRecDepth 100000 in
set_option maxHeartbeats 4000000 in
theorem c_X3_copyFrom (l : Launch) (G : GE) (a_t a_t_left a_t_right a_p1 a_p1_left a_p1_right : Nat) (t_size : Int32) (t_left : Nat → Int32) (t_right : Nat → Int32) (p1_size : Int32) (p1_left : Nat → Int32) (p1_right : Nat → Int32) (z_t_left : Nat → Int32) (z_t_right : Nat → Int32) (z_t_size : Int32) (hf : f_X3_copyFrom t_left t_right p1_left p1_right p1_size = some (z_t_left, z_t_right, z_t_size)) : CV l G yX3_copyFrom kw_X3_copyFrom rm_X3_copyFrom [.ref a_t, .ref a_p1] (w_X3_copyFrom G a_t a_t_left a_t_right a_p1 a_p1_left a_p1_right t_size t_left t_right p1_size p1_left p1_right) (w_X3_copyFrom G a_t a_t_left a_t_right a_p1 a_p1_left a_p1_right z_t_size z_t_left z_t_right p1_size p1_left p1_right) := by
  refine en_V (cc := cX3_copyFrom) (maxL := 2) (ret := none) (by decide +kernel) (Nat.le_of_ble_eq_true rfl) ?_
  intro p e s m args below meth c A ls C S hl
  have hl : lv_has ls 2 [(0, .ref a_t), (1, .ref a_p1)] := hl
  have C : Cx p s m args meth c cX3_copyFrom none 2 RX3 G A := C
  unfold f_X3_copyFrom at hf
  have hx := C.1
  have hb := C.2.1
  have hown := C.2.2.2.2.1
  have hts := C.2.2.2.2.2.1
  have hN := C.2.2.2.2.2.2.2.2.2.2
  refine lv_aload_n (pc := 0) hx hb dX3_copyFrom_0 rfl (lv_at hl 1 rfl) ?_
  refine x_get (pc := 1) (ci := 3) (T := TX3) (v := .ref a_p1_left) C S 3 rfl rfl inlX3 0 (by decide) rfl qf_3_9 rfl dX3_copyFrom_1 ?_
  refine lv_aload_n (pc := 4) hx hb dX3_copyFrom_4 rfl (lv_at hl 0 rfl) ?_
  refine x_get (pc := 5) (ci := 3) (T := TX3) (v := .ref a_t_left) C S 0 rfl rfl inlX3 0 (by decide) rfl qf_3_9 rfl dX3_copyFrom_5 ?_
  obtain ⟨o1_t_left, hq1, hf⟩ := bd_e hf
  refine x_nV (pc := 8) (As := [.ref a_p1_left, .ref a_t_left]) (rest := []) (isC := [4, 1]) (ws' := (w_X3_copyFrom G a_t a_t_left a_t_right a_p1 a_p1_left a_p1_right t_size o1_t_left t_right p1_size p1_left p1_right)) C S (c_X7_copyRow l G a_p1_left a_t_left 8 8 p1_left t_left o1_t_left hq1) (u_X3_copyFrom_X7_copyRow_22 hts hN) rfl (by decide +kernel) [none, some 1, none, none, some 0, none] (by decide +kernel) rfl rfl rfl hl.1 rfl (Nat.le_of_ble_eq_true rfl) dX3_copyFrom_8 (fun H locs S => ?_)
  refine lv_aload_n (pc := 11) hx hb dX3_copyFrom_11 rfl (lv_at hl 1 rfl) ?_
  refine x_get (pc := 12) (ci := 3) (T := TX3) (v := .ref a_p1_right) C S 3 rfl rfl inlX3 1 (by decide) rfl qf_3_15 rfl dX3_copyFrom_12 ?_
  refine lv_aload_n (pc := 15) hx hb dX3_copyFrom_15 rfl (lv_at hl 0 rfl) ?_
  refine x_get (pc := 16) (ci := 3) (T := TX3) (v := .ref a_t_right) C S 0 rfl rfl inlX3 1 (by decide) rfl qf_3_15 rfl dX3_copyFrom_16 ?_
  obtain ⟨o2_t_right, hq2, hf⟩ := bd_e hf
  refine x_nV (pc := 19) (As := [.ref a_p1_right, .ref a_t_right]) (rest := []) (isC := [5, 2]) (ws' := (w_X3_copyFrom G a_t a_t_left a_t_right a_p1 a_p1_left a_p1_right t_size o1_t_left o2_t_right p1_size p1_left p1_right)) C S (c_X7_copyRow l G a_p1_right a_t_right 8 8 p1_right t_right o2_t_right hq2) (u_X3_copyFrom_X7_copyRow_22 hts hN) rfl (by decide +kernel) [none, none, some 1, none, none, some 0] (by decide +kernel) rfl rfl rfl hl.1 rfl (Nat.le_of_ble_eq_true rfl) dX3_copyFrom_19 (fun H locs S => ?_)
  refine lv_aload_n (pc := 22) hx hb dX3_copyFrom_22 rfl (lv_at hl 0 rfl) ?_
  refine lv_aload_n (pc := 23) hx hb dX3_copyFrom_23 rfl (lv_at hl 1 rfl) ?_
  refine x_get (pc := 24) (ci := 3) (T := TX3) (v := .int p1_size) C S 3 rfl rfl inlX3 2 (by decide) rfl qf_3_18 rfl dX3_copyFrom_24 ?_
  refine x_put (pc := 27) (ci := 3) (T := TX3) (ws' := (w_X3_copyFrom G a_t a_t_left a_t_right a_p1 a_p1_left a_p1_right p1_size o1_t_left o2_t_right p1_size p1_left p1_right)) C S tyX3 tyX3_ok nmX3 0 rfl rfl inlX3 2 (by decide) rfl qf_3_18 rfl rfl rfl rfl (Nat.le_of_ble_eq_true rfl) rfl dX3_copyFrom_27 (fun H locs S => ?_)
  cases hf
  exact x_vret (pc := 30) C S dX3_copyFrom_30
end

abbrev rm_X3_empty : Room := { frames := 0, cells := 0, slots := 0, locals := 0 }
abbrev kw_X3_empty : Cond := .code yX3_empty cX3_empty 1 (some .int)
abbrev w_X3_empty (G : GE) (a_t a_t_left a_t_right : Nat) (t_size : Int32) : va_W := [(a_t, ob 3 [.ref a_t_left, .ref a_t_right, .int t_size])]
section
variable {p : Program} {l : Launch} {e : Env} {s : State} {m : MethodId} {args : Array Value} {below : List Frame} {meth : Method} {c : Code} {A : Nat → Prop} {G : GE} {a_t a_t_left a_t_right : Nat} {r : Int32} {z_t_size : Int32}
set_option maxRecDepth 100000 in
set_option maxHeartbeats 4000000 in
theorem c_X3_empty (l : Launch) (G : GE) (a_t a_t_left a_t_right : Nat) (t_size : Int32) (r : Int32) (z_t_size : Int32) (hf : f_X3_empty = some (r, z_t_size)) : CI l G yX3_empty kw_X3_empty rm_X3_empty [.ref a_t] (w_X3_empty G a_t a_t_left a_t_right t_size) r (w_X3_empty G a_t a_t_left a_t_right z_t_size) := by
  refine en_I (cc := cX3_empty) (maxL := 1) (ret := (some .int)) (by decide +kernel) (Nat.le_of_ble_eq_true rfl) ?_
  intro p e s m args below meth c A ls C S hl
  have hl : lv_has ls 1 [(0, .ref a_t)] := hl
  have C : Cx p s m args meth c cX3_empty (some .int) 1 RX3 G A := C
  unfold f_X3_empty at hf
  have hx := C.1
  have hb := C.2.1
  have hown := C.2.2.2.2.1
  have hts := C.2.2.2.2.2.1
  have hN := C.2.2.2.2.2.2.2.2.2.2
  refine lv_aload_n (pc := 0) hx hb dX3_empty_0 rfl (lv_at hl 0 rfl) ?_
  refine lv_iconst (pc := 1) hx hb dX3_empty_1 ic_0 ?_
  refine x_put (pc := 2) (ci := 3) (T := TX3) (ws' := (w_X3_empty G a_t a_t_left a_t_right (0 : Int32))) C S tyX3 tyX3_ok nmX3 0 rfl rfl inlX3 2 (by decide) rfl qf_3_18 rfl rfl rfl rfl (Nat.le_of_ble_eq_true rfl) rfl dX3_empty_2 (fun H locs S => ?_)
  refine lv_iconst (pc := 5) hx hb dX3_empty_5 ic_0 ?_
  cases hf
  exact x_iret (pc := 6) C S dX3_empty_6
end

abbrev rm_X4_append : Room := { frames := 0, cells := 0, slots := 0, locals := 0 }
abbrev kw_X4_append : Cond := .code yX4_append cX4_append 2 (some .int)
abbrev w_X4_append (G : GE) (a_t a_t_signs a_t_facts : Nat) (t_size : Int32) (t_clauses : Int32) (t_next : Int32) (t_fault : Int32) (t_signs : Nat → Int32) : va_W := [(a_t, ob 4 [.ref a_t_signs, .ref a_t_facts, .int t_size, .int t_clauses, .int t_next, .int t_fault]), (a_t_signs, aI G 100 t_signs)]
section
variable {p : Program} {l : Launch} {e : Env} {s : State} {m : MethodId} {args : Array Value} {below : List Frame} {meth : Method} {c : Code} {A : Nat → Prop} {G : GE} {a_t a_t_signs a_t_facts : Nat} {r : Int32} {z_t_signs : Nat → Int32} {z_t_size : Int32}
set_option maxRecDepth 100000 in
set_option maxHeartbeats 4000000 in
theorem c_X4_append (l : Launch) (G : GE) (a_t a_t_signs a_t_facts : Nat) (t_size : Int32) (t_clauses : Int32) (t_next : Int32) (t_fault : Int32) (t_signs : Nat → Int32) (x1 : Int32) (r : Int32) (z_t_signs : Nat → Int32) (z_t_size : Int32) (hf : f_X4_append t_signs t_size x1 = some (r, z_t_signs, z_t_size)) : CI l G yX4_append kw_X4_append rm_X4_append [.ref a_t, .int x1] (w_X4_append G a_t a_t_signs a_t_facts t_size t_clauses t_next t_fault t_signs) r (w_X4_append G a_t a_t_signs a_t_facts z_t_size t_clauses t_next t_fault z_t_signs) := by
  refine en_I (cc := cX4_append) (maxL := 2) (ret := (some .int)) (by decide +kernel) (Nat.le_of_ble_eq_true rfl) ?_
  intro p e s m args below meth c A ls C S hl
  have hl : lv_has ls 2 [(0, .ref a_t), (1, .int x1)] := hl
  have C : Cx p s m args meth c cX4_append (some .int) 2 RX4 G A := C
  unfold f_X4_append at hf
  have hx := C.1
  have hb := C.2.1
  have hown := C.2.2.2.2.1
  have hts := C.2.2.2.2.2.1
  have hN := C.2.2.2.2.2.2.2.2.2.2
  refine lv_aload_n (pc := 0) hx hb dX4_append_0 rfl (lv_at hl 0 rfl) ?_
  refine x_get (pc := 1) (ci := 4) (T := TX4) (v := .int t_size) C S 0 rfl rfl inlX4 2 (by decide) rfl qf_4_18 rfl dX4_append_1 ?_
  refine lv_if_lt (tgt := 36) (pc := 4) hx hb dX4_append_4 (by decide) (fun c1 => ?_) (fun c1 => ?_)
  · have hf := ifp c1 hf
    refine lv_aload_n (pc := 36) hx hb dX4_append_36 rfl (lv_at hl 0 rfl) ?_
    refine x_get (pc := 37) (ci := 4) (T := TX4) (v := .int t_size) C S 0 rfl rfl inlX4 2 (by decide) rfl qf_4_18 rfl dX4_append_37 ?_
    cases hf
    exact x_iret (pc := 40) C S dX4_append_40
  · have hf := ifn c1 hf
    refine lv_aload_n (pc := 7) hx hb dX4_append_7 rfl (lv_at hl 0 rfl) ?_
    refine x_get (pc := 8) (ci := 4) (T := TX4) (v := .int t_size) C S 0 rfl rfl inlX4 2 (by decide) rfl qf_4_18 rfl dX4_append_8 ?_
    refine lv_bipush (pc := 11) hx hb dX4_append_11 bc_100 ?_
    refine lv_icmp_ge (tgt := 36) (pc := 13) hx hb dX4_append_13 (by decide) (fun c2 => ?_) (fun c2 => ?_)
    · have hf := ifp c2 hf
      refine lv_aload_n (pc := 36) hx hb dX4_append_36 rfl (lv_at hl 0 rfl) ?_
      refine x_get (pc := 37) (ci := 4) (T := TX4) (v := .int t_size) C S 0 rfl rfl inlX4 2 (by decide) rfl qf_4_18 rfl dX4_append_37 ?_
      cases hf
      exact x_iret (pc := 40) C S dX4_append_40
    · have hf := ifn c2 hf
      refine lv_aload_n (pc := 16) hx hb dX4_append_16 rfl (lv_at hl 0 rfl) ?_
      refine x_get (pc := 17) (ci := 4) (T := TX4) (v := .ref a_t_signs) C S 0 rfl rfl inlX4 0 (by decide) rfl qf_4_9 rfl dX4_append_17 ?_
      refine lv_aload_n (pc := 20) hx hb dX4_append_20 rfl (lv_at hl 0 rfl) ?_
      refine x_get (pc := 21) (ci := 4) (T := TX4) (v := .int t_size) C S 0 rfl rfl inlX4 2 (by decide) rfl qf_4_18 rfl dX4_append_21 ?_
      refine lv_iload_n (pc := 24) hx hb dX4_append_24 rfl (lv_at hl 1 rfl) ?_
      obtain ⟨hv3, hf⟩ := gI_e hf
      refine x_iast (pc := 25) (ws' := (w_X4_append G a_t a_t_signs a_t_facts t_size t_clauses t_next t_fault (upd t_signs t_size.toNatClampNeg x1))) C S 1 rfl hv3 rfl dX4_append_25 (fun H locs S => ?_)
      refine lv_aload_n (pc := 26) hx hb dX4_append_26 rfl (lv_at hl 0 rfl) ?_
      refine lv_dup (pc := 27) hx hb dX4_append_27 rfl ?_
      refine x_get (pc := 28) (ci := 4) (T := TX4) (v := .int t_size) C S 0 rfl rfl inlX4 2 (by decide) rfl qf_4_18 rfl dX4_append_28 ?_
      refine lv_iconst (pc := 31) hx hb dX4_append_31 ic_1 ?_
      refine lv_iadd (pc := 32) hx hb dX4_append_32 ?_
      refine x_put (pc := 33) (ci := 4) (T := TX4) (ws' := (w_X4_append G a_t a_t_signs a_t_facts (t_size + (1 : Int32)) t_clauses t_next t_fault (upd t_signs t_size.toNatClampNeg x1))) C S tyX4 tyX4_ok nmX4 0 rfl rfl inlX4 2 (by decide) rfl qf_4_18 rfl rfl rfl rfl (Nat.le_of_ble_eq_true rfl) rfl dX4_append_33 (fun H locs S => ?_)
      refine lv_aload_n (pc := 36) hx hb dX4_append_36 rfl (lv_at hl 0 rfl) ?_
      refine x_get (pc := 37) (ci := 4) (T := TX4) (v := .int (t_size + (1 : Int32))) C S 0 rfl rfl inlX4 2 (by decide) rfl qf_4_18 rfl dX4_append_37 ?_
      cases hf
      exact x_iret (pc := 40) C S dX4_append_40
end

abbrev rm_X4_nextSign : Room := { frames := 0, cells := 0, slots := 0, locals := 0 }
abbrev kw_X4_nextSign : Cond := .code yX4_nextSign cX4_nextSign 1 (some .int)
abbrev w_X4_nextSign (G : GE) (a_t a_t_signs a_t_facts : Nat) (t_size : Int32) (t_clauses : Int32) (t_next : Int32) (t_fault : Int32) (t_signs : Nat → Int32) : va_W := [(a_t, ob 4 [.ref a_t_signs, .ref a_t_facts, .int t_size, .int t_clauses, .int t_next, .int t_fault]), (a_t_signs, aI G 100 t_signs)]
section
variable {p : Program} {l : Launch} {e : Env} {s : State} {m : MethodId} {args : Array Value} {below : List Frame} {meth : Method} {c : Code} {A : Nat → Prop} {G : GE} {a_t a_t_signs a_t_facts : Nat} {r : Int32}
set_option maxRecDepth 100000 in
set_option maxHeartbeats 4000000 in
theorem c_X4_nextSign (l : Launch) (G : GE) (a_t a_t_signs a_t_facts : Nat) (t_size : Int32) (t_clauses : Int32) (t_next : Int32) (t_fault : Int32) (t_signs : Nat → Int32) (r : Int32) (hf : f_X4_nextSign t_signs t_size t_next = some r) : CI l G yX4_nextSign kw_X4_nextSign rm_X4_nextSign [.ref a_t] (w_X4_nextSign G a_t a_t_signs a_t_facts t_size t_clauses t_next t_fault t_signs) r (w_X4_nextSign G a_t a_t_signs a_t_facts t_size t_clauses t_next t_fault t_signs) := by
  refine en_I (cc := cX4_nextSign) (maxL := 1) (ret := (some .int)) (by decide +kernel) (Nat.le_of_ble_eq_true rfl) ?_
  intro p e s m args below meth c A ls C S hl
  have hl : lv_has ls 1 [(0, .ref a_t)] := hl
  have C : Cx p s m args meth c cX4_nextSign (some .int) 1 RX4 G A := C
  unfold f_X4_nextSign at hf
  have hx := C.1
  have hb := C.2.1
  have hown := C.2.2.2.2.1
  have hts := C.2.2.2.2.2.1
  have hN := C.2.2.2.2.2.2.2.2.2.2
  refine lv_aload_n (pc := 0) hx hb dX4_nextSign_0 rfl (lv_at hl 0 rfl) ?_
  refine x_get (pc := 1) (ci := 4) (T := TX4) (v := .int t_next) C S 0 rfl rfl inlX4 4 (by decide) rfl qf_4_22 rfl dX4_nextSign_1 ?_
  refine lv_if_lt (tgt := 39) (pc := 4) hx hb dX4_nextSign_4 (by decide) (fun c1 => ?_) (fun c1 => ?_)
  · have hf := ifp c1 hf
    refine lv_iconst (pc := 39) hx hb dX4_nextSign_39 ic_m1 ?_
    cases hf
    exact x_iret (pc := 40) C S dX4_nextSign_40
  · have hf := ifn c1 hf
    refine lv_aload_n (pc := 7) hx hb dX4_nextSign_7 rfl (lv_at hl 0 rfl) ?_
    refine x_get (pc := 8) (ci := 4) (T := TX4) (v := .int t_next) C S 0 rfl rfl inlX4 4 (by decide) rfl qf_4_22 rfl dX4_nextSign_8 ?_
    refine lv_aload_n (pc := 11) hx hb dX4_nextSign_11 rfl (lv_at hl 0 rfl) ?_
    refine x_get (pc := 12) (ci := 4) (T := TX4) (v := .int t_size) C S 0 rfl rfl inlX4 2 (by decide) rfl qf_4_18 rfl dX4_nextSign_12 ?_
    refine lv_icmp_ge (tgt := 39) (pc := 15) hx hb dX4_nextSign_15 (by decide) (fun c2 => ?_) (fun c2 => ?_)
    · have hf := ifp c2 hf
      refine lv_iconst (pc := 39) hx hb dX4_nextSign_39 ic_m1 ?_
      cases hf
      exact x_iret (pc := 40) C S dX4_nextSign_40
    · have hf := ifn c2 hf
      refine lv_aload_n (pc := 18) hx hb dX4_nextSign_18 rfl (lv_at hl 0 rfl) ?_
      refine x_get (pc := 19) (ci := 4) (T := TX4) (v := .int t_next) C S 0 rfl rfl inlX4 4 (by decide) rfl qf_4_22 rfl dX4_nextSign_19 ?_
      refine lv_bipush (pc := 22) hx hb dX4_nextSign_22 bc_100 ?_
      refine lv_icmp_ge (tgt := 39) (pc := 24) hx hb dX4_nextSign_24 (by decide) (fun c3 => ?_) (fun c3 => ?_)
      · have hf := ifp c3 hf
        refine lv_iconst (pc := 39) hx hb dX4_nextSign_39 ic_m1 ?_
        cases hf
        exact x_iret (pc := 40) C S dX4_nextSign_40
      · have hf := ifn c3 hf
        refine lv_aload_n (pc := 27) hx hb dX4_nextSign_27 rfl (lv_at hl 0 rfl) ?_
        refine x_get (pc := 28) (ci := 4) (T := TX4) (v := .ref a_t_signs) C S 0 rfl rfl inlX4 0 (by decide) rfl qf_4_9 rfl dX4_nextSign_28 ?_
        refine lv_aload_n (pc := 31) hx hb dX4_nextSign_31 rfl (lv_at hl 0 rfl) ?_
        refine x_get (pc := 32) (ci := 4) (T := TX4) (v := .int t_next) C S 0 rfl rfl inlX4 4 (by decide) rfl qf_4_22 rfl dX4_nextSign_32 ?_
        obtain ⟨hv4, hf⟩ := gI_e hf
        refine x_iald (pc := 35) C S 1 rfl hv4 dX4_nextSign_35 ?_
        refine lv_goto (tgt := 40) (pc := 36) hx hb dX4_nextSign_36 (by decide) ?_
        cases hf
        exact x_iret (pc := 40) C S dX4_nextSign_40
end

abbrev rm_X4_skip : Room := { frames := 1, cells := 0, slots := 0, locals := 20 }
abbrev kw_X4_skip : Cond := .code yX4_skip cX4_skip 2 (some .boolean)
abbrev w_X4_skip (G : GE) (a_t a_t_signs a_t_facts : Nat) (t_size : Int32) (t_clauses : Int32) (t_next : Int32) (t_fault : Int32) (t_signs : Nat → Int32) : va_W := [(a_t, ob 4 [.ref a_t_signs, .ref a_t_facts, .int t_size, .int t_clauses, .int t_next, .int t_fault]), (a_t_signs, aI G 100 t_signs)]
theorem u_X4_skip_X4_nextSign_57 {s : State} {args : Array Value} (hts : ∀ w ∈ WU, w.before args s = true) : CallW rm_X4_skip s args RX4 RX4 57 yX4_nextSign cX4_nextSign 1 (some .int) (kw_X4_nextSign :: WU) rm_X4_nextSign 0 0 0 := cwV 0 hts (gV qm_4_57 qi_X4_nextSign ql_X4_nextSign qn_4 qc_X4_nextSign) rfl rfl rfl (by decide +kernel) ⟨Nat.le_of_ble_eq_true rfl, Nat.le_of_ble_eq_true rfl⟩
section
variable {p : Program} {l : Launch} {e : Env} {s : State} {m : MethodId} {args : Array Value} {below : List Frame} {meth : Method} {c : Code} {A : Nat → Prop} {G : GE} {a_t a_t_signs a_t_facts : Nat} {r : Int32} {z_t_next : Int32}
set_option maxRecDepth 100000 in
set_option maxHeartbeats 4000000 in
theorem c_X4_skip (l : Launch) (G : GE) (a_t a_t_signs a_t_facts : Nat) (t_size : Int32) (t_clauses : Int32) (t_next : Int32) (t_fault : Int32) (t_signs : Nat → Int32) (x1 : Int32) (r : Int32) (z_t_next : Int32) (hf : f_X4_skip t_signs t_size t_next t_fault x1 = some (r, z_t_next)) : CI l G yX4_skip kw_X4_skip rm_X4_skip [.ref a_t, .int x1] (w_X4_skip G a_t a_t_signs a_t_facts t_size t_clauses t_next t_fault t_signs) r (w_X4_skip G a_t a_t_signs a_t_facts t_size t_clauses z_t_next t_fault t_signs) := by
  refine en_I (cc := cX4_skip) (maxL := 2) (ret := (some .boolean)) (by decide +kernel) (Nat.le_of_ble_eq_true rfl) ?_
  intro p e s m args below meth c A ls C S hl
  have hl : lv_has ls 2 [(0, .ref a_t), (1, .int x1)] := hl
  have C : Cx p s m args meth c cX4_skip (some .boolean) 2 RX4 G A := C
  unfold f_X4_skip at hf
  have hx := C.1
  have hb := C.2.1
  have hown := C.2.2.2.2.1
  have hts := C.2.2.2.2.2.1
  have hN := C.2.2.2.2.2.2.2.2.2.2
  refine lv_aload_n (pc := 0) hx hb dX4_skip_0 rfl (lv_at hl 0 rfl) ?_
  refine x_get (pc := 1) (ci := 4) (T := TX4) (v := .int t_fault) C S 0 rfl rfl inlX4 5 (by decide) rfl qf_4_25 rfl dX4_skip_1 ?_
  refine lv_if_ge (tgt := 15) (pc := 4) hx hb dX4_skip_4 (by decide) (fun c1 => ?_) (fun c1 => ?_)
  · have hf := ifp c1 hf
    refine lv_iconst (pc := 15) hx hb dX4_skip_15 ic_0 ?_
    cases hf
    exact x_zret (pc := 16) (by decide) C S dX4_skip_16
  · have hf := ifn c1 hf
    refine lv_aload_n (pc := 7) hx hb dX4_skip_7 rfl (lv_at hl 0 rfl) ?_
    obtain ⟨r2, hq2, hf⟩ := bd_e hf
    refine x_vI (pc := 8) (As := []) (rest := []) (isC := [0, 1]) (ws' := (w_X4_skip G a_t a_t_signs a_t_facts t_size t_clauses t_next t_fault t_signs)) C S (c_X4_nextSign l G a_t a_t_signs a_t_facts t_size t_clauses t_next t_fault t_signs r2 hq2) (u_X4_skip_X4_nextSign_57 hts) (ci := 4) rfl 0 rfl rfl (by decide +kernel) [some 0, some 1] (by decide +kernel) rfl rfl rfl hl.1 rfl (Nat.le_of_ble_eq_true rfl) dX4_skip_8 (fun H locs S => ?_)
    refine lv_iload_n (pc := 11) hx hb dX4_skip_11 rfl (lv_at hl 1 rfl) ?_
    refine lv_icmp_eq (tgt := 17) (pc := 12) hx hb dX4_skip_12 (by decide) (fun c3 => ?_) (fun c3 => ?_)
    · have hf := ifp c3 hf
      refine lv_aload_n (pc := 17) hx hb dX4_skip_17 rfl (lv_at hl 0 rfl) ?_
      refine lv_dup (pc := 18) hx hb dX4_skip_18 rfl ?_
      refine x_get (pc := 19) (ci := 4) (T := TX4) (v := .int t_next) C S 0 rfl rfl inlX4 4 (by decide) rfl qf_4_22 rfl dX4_skip_19 ?_
      refine lv_iconst (pc := 22) hx hb dX4_skip_22 ic_1 ?_
      refine lv_iadd (pc := 23) hx hb dX4_skip_23 ?_
      refine x_put (pc := 24) (ci := 4) (T := TX4) (ws' := (w_X4_skip G a_t a_t_signs a_t_facts t_size t_clauses (t_next + (1 : Int32)) t_fault t_signs)) C S tyX4 tyX4_ok nmX4 0 rfl rfl inlX4 4 (by decide) rfl qf_4_22 rfl rfl rfl rfl (Nat.le_of_ble_eq_true rfl) rfl dX4_skip_24 (fun H locs S => ?_)
      refine lv_iconst (pc := 27) hx hb dX4_skip_27 ic_1 ?_
      cases hf
      exact x_zret (pc := 28) (by decide) C S dX4_skip_28
    · have hf := ifn c3 hf
      refine lv_iconst (pc := 15) hx hb dX4_skip_15 ic_0 ?_
      cases hf
      exact x_zret (pc := 16) (by decide) C S dX4_skip_16
end

abbrev rm_X4_expect : Room := { frames := 2, cells := 0, slots := 0, locals := 41 }
abbrev kw_X4_expect : Cond := .code yX4_expect cX4_expect 2 none
abbrev w_X4_expect (G : GE) (a_t a_t_signs a_t_facts : Nat) (t_size : Int32) (t_clauses : Int32) (t_next : Int32) (t_fault : Int32) (t_signs : Nat → Int32) : va_W := [(a_t, ob 4 [.ref a_t_signs, .ref a_t_facts, .int t_size, .int t_clauses, .int t_next, .int t_fault]), (a_t_signs, aI G 100 t_signs)]
theorem u_X4_expect_X4_skip_35 {s : State} {args : Array Value} (hts : ∀ w ∈ WU, w.before args s = true) : CallW rm_X4_expect s args RX4 RX4 35 yX4_skip cX4_skip 2 (some .boolean) (kw_X4_skip :: WU) rm_X4_skip 0 0 1 := cwV 1 hts (gV qm_4_35 qi_X4_skip ql_X4_skip qn_4 qc_X4_skip) rfl rfl rfl (by decide +kernel) ⟨Nat.le_of_ble_eq_true rfl, Nat.le_of_ble_eq_true rfl⟩
section
variable {p : Program} {l : Launch} {e : Env} {s : State} {m : MethodId} {args : Array Value} {below : List Frame} {meth : Method} {c : Code} {A : Nat → Prop} {G : GE} {a_t a_t_signs a_t_facts : Nat} {z_t_next : Int32} {z_t_fault : Int32}
set_option maxRecDepth 100000 in
set_option maxHeartbeats 4000000 in
theorem c_X4_expect (l : Launch) (G : GE) (a_t a_t_signs a_t_facts : Nat) (t_size : Int32) (t_clauses : Int32) (t_next : Int32) (t_fault : Int32) (t_signs : Nat → Int32) (x1 : Int32) (z_t_next : Int32) (z_t_fault : Int32) (hf : f_X4_expect t_signs t_size t_next t_fault x1 = some (z_t_next, z_t_fault)) : CV l G yX4_expect kw_X4_expect rm_X4_expect [.ref a_t, .int x1] (w_X4_expect G a_t a_t_signs a_t_facts t_size t_clauses t_next t_fault t_signs) (w_X4_expect G a_t a_t_signs a_t_facts t_size t_clauses z_t_next z_t_fault t_signs) := by
  refine en_V (cc := cX4_expect) (maxL := 2) (ret := none) (by decide +kernel) (Nat.le_of_ble_eq_true rfl) ?_
  intro p e s m args below meth c A ls C S hl
  have hl : lv_has ls 2 [(0, .ref a_t), (1, .int x1)] := hl
  have C : Cx p s m args meth c cX4_expect none 2 RX4 G A := C
  unfold f_X4_expect at hf
  have hx := C.1
  have hb := C.2.1
  have hown := C.2.2.2.2.1
  have hts := C.2.2.2.2.2.1
  have hN := C.2.2.2.2.2.2.2.2.2.2
  refine lv_aload_n (pc := 0) hx hb dX4_expect_0 rfl (lv_at hl 0 rfl) ?_
  refine lv_iload_n (pc := 1) hx hb dX4_expect_1 rfl (lv_at hl 1 rfl) ?_
  obtain ⟨⟨r1, o1_t_next⟩, hq1, hf⟩ := bd_e hf
  refine x_vI (pc := 2) (As := [.int x1]) (rest := []) (isC := [0, 1]) (ws' := (w_X4_expect G a_t a_t_signs a_t_facts t_size t_clauses o1_t_next t_fault t_signs)) C S (c_X4_skip l G a_t a_t_signs a_t_facts t_size t_clauses t_next t_fault t_signs x1 r1 o1_t_next hq1) (u_X4_expect_X4_skip_35 hts) (ci := 4) rfl 0 rfl rfl (by decide +kernel) [some 0, some 1] (by decide +kernel) rfl rfl rfl hl.1 rfl (Nat.le_of_ble_eq_true rfl) dX4_expect_2 (fun H locs S => ?_)
  refine lv_if_ne (tgt := 23) (pc := 5) hx hb dX4_expect_5 (by decide) (fun c2 => ?_) (fun c2 => ?_)
  · have hf := ifn c2 hf
    cases hf
    exact x_vret (pc := 23) C S dX4_expect_23
  · have hf := ifp c2 hf
    refine lv_aload_n (pc := 8) hx hb dX4_expect_8 rfl (lv_at hl 0 rfl) ?_
    refine x_get (pc := 9) (ci := 4) (T := TX4) (v := .int t_fault) C S 0 rfl rfl inlX4 5 (by decide) rfl qf_4_25 rfl dX4_expect_9 ?_
    refine lv_if_ge (tgt := 23) (pc := 12) hx hb dX4_expect_12 (by decide) (fun c3 => ?_) (fun c3 => ?_)
    · have hf := ifp c3 hf
      cases hf
      exact x_vret (pc := 23) C S dX4_expect_23
    · have hf := ifn c3 hf
      refine lv_aload_n (pc := 15) hx hb dX4_expect_15 rfl (lv_at hl 0 rfl) ?_
      refine lv_aload_n (pc := 16) hx hb dX4_expect_16 rfl (lv_at hl 0 rfl) ?_
      refine x_get (pc := 17) (ci := 4) (T := TX4) (v := .int o1_t_next) C S 0 rfl rfl inlX4 4 (by decide) rfl qf_4_22 rfl dX4_expect_17 ?_
      refine x_put (pc := 20) (ci := 4) (T := TX4) (ws' := (w_X4_expect G a_t a_t_signs a_t_facts t_size t_clauses o1_t_next o1_t_next t_signs)) C S tyX4 tyX4_ok nmX4 0 rfl rfl inlX4 5 (by decide) rfl qf_4_25 rfl rfl rfl rfl (Nat.le_of_ble_eq_true rfl) rfl dX4_expect_20 (fun H locs S => ?_)
      cases hf
      exact x_vret (pc := 23) C S dX4_expect_23
end

abbrev rm_X4_factAt : Room := { frames := 0, cells := 0, slots := 0, locals := 0 }
abbrev kw_X4_factAt : Cond := .code yX4_factAt cX4_factAt 4 (some .int)
abbrev w_X4_factAt (G : GE) (a_t a_t_signs a_t_facts : Nat) (t_size : Int32) (t_clauses : Int32) (t_next : Int32) (t_fault : Int32) (t_facts : Nat → Int32) : va_W := [(a_t, ob 4 [.ref a_t_signs, .ref a_t_facts, .int t_size, .int t_clauses, .int t_next, .int t_fault]), (a_t_facts, aI G 36 t_facts)]
section
variable {p : Program} {l : Launch} {e : Env} {s : State} {m : MethodId} {args : Array Value} {below : List Frame} {meth : Method} {c : Code} {A : Nat → Prop} {G : GE} {a_t a_t_signs a_t_facts : Nat} {r : Int32}
set_option maxRecDepth 100000 in
set_option maxHeartbeats 4000000 in
theorem c_X4_factAt (l : Launch) (G : GE) (a_t a_t_signs a_t_facts : Nat) (t_size : Int32) (t_clauses : Int32) (t_next : Int32) (t_fault : Int32) (t_facts : Nat → Int32) (x1 : Int32) (x2 : Int32) (r : Int32) (hf : f_X4_factAt t_facts x1 x2 = some r) : CI l G yX4_factAt kw_X4_factAt rm_X4_factAt [.ref a_t, .int x1, .int x2] (w_X4_factAt G a_t a_t_signs a_t_facts t_size t_clauses t_next t_fault t_facts) r (w_X4_factAt G a_t a_t_signs a_t_facts t_size t_clauses t_next t_fault t_facts) := by
  refine en_I (cc := cX4_factAt) (maxL := 4) (ret := (some .int)) (by decide +kernel) (Nat.le_of_ble_eq_true rfl) ?_
  intro p e s m args below meth c A ls C S hl
  have hl : lv_has ls 4 [(0, .ref a_t), (1, .int x1), (2, .int x2)] := hl
  have C : Cx p s m args meth c cX4_factAt (some .int) 4 RX4 G A := C
  unfold f_X4_factAt at hf
  have hx := C.1
  have hb := C.2.1
  have hown := C.2.2.2.2.1
  have hts := C.2.2.2.2.2.1
  have hN := C.2.2.2.2.2.2.2.2.2.2
  refine lv_iload_n (pc := 0) hx hb dX4_factAt_0 rfl (lv_at hl 1 rfl) ?_
  refine lv_bipush (pc := 1) hx hb dX4_factAt_1 bc_6 ?_
  refine lv_imul (pc := 3) hx hb dX4_factAt_3 ?_
  refine lv_iload_n (pc := 4) hx hb dX4_factAt_4 rfl (lv_at hl 2 rfl) ?_
  refine lv_iadd (pc := 5) hx hb dX4_factAt_5 ?_
  refine lv_istore_n (pc := 6) (lv' := [(3, .int ((x1 * (6 : Int32)) + x2)), (0, .ref a_t), (1, .int x1), (2, .int x2)]) hx hb dX4_factAt_6 rfl hl (by decide) rfl (fun ls hl => ?_)
  refine lv_iload_n (pc := 7) hx hb dX4_factAt_7 rfl (lv_at hl 0 rfl) ?_
  refine lv_if_lt (tgt := 29) (pc := 8) hx hb dX4_factAt_8 (by decide) (fun c1 => ?_) (fun c1 => ?_)
  · have hf := ifp c1 hf
    refine lv_iconst (pc := 29) hx hb dX4_factAt_29 ic_0 ?_
    cases hf
    exact x_iret (pc := 30) C S dX4_factAt_30
  · have hf := ifn c1 hf
    refine lv_iload_n (pc := 11) hx hb dX4_factAt_11 rfl (lv_at hl 0 rfl) ?_
    refine lv_aload_n (pc := 12) hx hb dX4_factAt_12 rfl (lv_at hl 1 rfl) ?_
    refine x_get (pc := 13) (ci := 4) (T := TX4) (v := .ref a_t_facts) C S 0 rfl rfl inlX4 1 (by decide) rfl qf_4_15 rfl dX4_factAt_13 ?_
    refine x_lenI (pc := 16) C S 1 rfl nc_36 dX4_factAt_16 ?_
    refine lv_icmp_ge (tgt := 29) (pc := 17) hx hb dX4_factAt_17 (by decide) (fun c2 => ?_) (fun c2 => ?_)
    · have hf := ifp c2 hf
      refine lv_iconst (pc := 29) hx hb dX4_factAt_29 ic_0 ?_
      cases hf
      exact x_iret (pc := 30) C S dX4_factAt_30
    · have hf := ifn c2 hf
      refine lv_aload_n (pc := 20) hx hb dX4_factAt_20 rfl (lv_at hl 1 rfl) ?_
      refine x_get (pc := 21) (ci := 4) (T := TX4) (v := .ref a_t_facts) C S 0 rfl rfl inlX4 1 (by decide) rfl qf_4_15 rfl dX4_factAt_21 ?_
      refine lv_iload_n (pc := 24) hx hb dX4_factAt_24 rfl (lv_at hl 0 rfl) ?_
      obtain ⟨hv3, hf⟩ := gI_e hf
      refine x_iald (pc := 25) C S 1 rfl hv3 dX4_factAt_25 ?_
      refine lv_goto (tgt := 30) (pc := 26) hx hb dX4_factAt_26 (by decide) ?_
      cases hf
      exact x_iret (pc := 30) C S dX4_factAt_30
end

abbrev rm_X4_keepFact : Room := { frames := 0, cells := 0, slots := 0, locals := 0 }
abbrev kw_X4_keepFact : Cond := .code yX4_keepFact cX4_keepFact 5 none
abbrev w_X4_keepFact (G : GE) (a_t a_t_signs a_t_facts : Nat) (t_size : Int32) (t_clauses : Int32) (t_next : Int32) (t_fault : Int32) (t_facts : Nat → Int32) : va_W := [(a_t, ob 4 [.ref a_t_signs, .ref a_t_facts, .int t_size, .int t_clauses, .int t_next, .int t_fault]), (a_t_facts, aI G 36 t_facts)]
section
variable {p : Program} {l : Launch} {e : Env} {s : State} {m : MethodId} {args : Array Value} {below : List Frame} {meth : Method} {c : Code} {A : Nat → Prop} {G : GE} {a_t a_t_signs a_t_facts : Nat} {z_t_facts : Nat → Int32}
set_option maxRecDepth 100000 in
set_option maxHeartbeats 4000000 in
theorem c_X4_keepFact (l : Launch) (G : GE) (a_t a_t_signs a_t_facts : Nat) (t_size : Int32) (t_clauses : Int32) (t_next : Int32) (t_fault : Int32) (t_facts : Nat → Int32) (x1 : Int32) (x2 : Int32) (x3 : Int32) (z_t_facts : Nat → Int32) (hf : f_X4_keepFact t_facts x1 x2 x3 = some z_t_facts) : CV l G yX4_keepFact kw_X4_keepFact rm_X4_keepFact [.ref a_t, .int x1, .int x2, .int x3] (w_X4_keepFact G a_t a_t_signs a_t_facts t_size t_clauses t_next t_fault t_facts) (w_X4_keepFact G a_t a_t_signs a_t_facts t_size t_clauses t_next t_fault z_t_facts) := by
  refine en_V (cc := cX4_keepFact) (maxL := 5) (ret := none) (by decide +kernel) (Nat.le_of_ble_eq_true rfl) ?_
  intro p e s m args below meth c A ls C S hl
  have hl : lv_has ls 5 [(0, .ref a_t), (1, .int x1), (2, .int x2), (3, .int x3)] := hl
  have C : Cx p s m args meth c cX4_keepFact none 5 RX4 G A := C
  unfold f_X4_keepFact at hf
  have hx := C.1
  have hb := C.2.1
  have hown := C.2.2.2.2.1
  have hts := C.2.2.2.2.2.1
  have hN := C.2.2.2.2.2.2.2.2.2.2
  refine lv_iload_n (pc := 0) hx hb dX4_keepFact_0 rfl (lv_at hl 1 rfl) ?_
  refine lv_bipush (pc := 1) hx hb dX4_keepFact_1 bc_6 ?_
  refine lv_imul (pc := 3) hx hb dX4_keepFact_3 ?_
  refine lv_iload_n (pc := 4) hx hb dX4_keepFact_4 rfl (lv_at hl 2 rfl) ?_
  refine lv_iadd (pc := 5) hx hb dX4_keepFact_5 ?_
  refine lv_istore (pc := 6) (lv' := [(4, .int ((x1 * (6 : Int32)) + x2)), (0, .ref a_t), (1, .int x1), (2, .int x2), (3, .int x3)]) hx hb dX4_keepFact_6 hl (by decide) rfl (fun ls hl => ?_)
  refine lv_iload (pc := 8) hx hb dX4_keepFact_8 (lv_at hl 0 rfl) ?_
  refine lv_if_lt (tgt := 31) (pc := 10) hx hb dX4_keepFact_10 (by decide) (fun c1 => ?_) (fun c1 => ?_)
  · have hf := ifp c1 hf
    cases hf
    exact x_vret (pc := 31) C S dX4_keepFact_31
  · have hf := ifn c1 hf
    refine lv_iload (pc := 13) hx hb dX4_keepFact_13 (lv_at hl 0 rfl) ?_
    refine lv_aload_n (pc := 15) hx hb dX4_keepFact_15 rfl (lv_at hl 1 rfl) ?_
    refine x_get (pc := 16) (ci := 4) (T := TX4) (v := .ref a_t_facts) C S 0 rfl rfl inlX4 1 (by decide) rfl qf_4_15 rfl dX4_keepFact_16 ?_
    refine x_lenI (pc := 19) C S 1 rfl nc_36 dX4_keepFact_19 ?_
    refine lv_icmp_ge (tgt := 31) (pc := 20) hx hb dX4_keepFact_20 (by decide) (fun c2 => ?_) (fun c2 => ?_)
    · have hf := ifp c2 hf
      cases hf
      exact x_vret (pc := 31) C S dX4_keepFact_31
    · have hf := ifn c2 hf
      refine lv_aload_n (pc := 23) hx hb dX4_keepFact_23 rfl (lv_at hl 1 rfl) ?_
      refine x_get (pc := 24) (ci := 4) (T := TX4) (v := .ref a_t_facts) C S 0 rfl rfl inlX4 1 (by decide) rfl qf_4_15 rfl dX4_keepFact_24 ?_
      refine lv_iload (pc := 27) hx hb dX4_keepFact_27 (lv_at hl 0 rfl) ?_
      refine lv_iload_n (pc := 29) hx hb dX4_keepFact_29 rfl (lv_at hl 4 rfl) ?_
      obtain ⟨hv3, hf⟩ := gI_e hf
      refine x_iast (pc := 30) (ws' := (w_X4_keepFact G a_t a_t_signs a_t_facts t_size t_clauses t_next t_fault (upd t_facts ((x1 * (6 : Int32)) + x2).toNatClampNeg x3))) C S 1 rfl hv3 rfl dX4_keepFact_30 (fun H locs S => ?_)
      cases hf
      exact x_vret (pc := 31) C S dX4_keepFact_31
end

abbrev rm_X4_number : Room := { frames := 1, cells := 0, slots := 0, locals := 20 }
abbrev kw_X4_number : Cond := .code yX4_number cX4_number 7 (some .int)
abbrev w_X4_number (G : GE) (a_t a_t_signs a_t_facts : Nat) (t_size : Int32) (t_clauses : Int32) (t_next : Int32) (t_fault : Int32) (t_signs : Nat → Int32) : va_W := [(a_t, ob 4 [.ref a_t_signs, .ref a_t_facts, .int t_size, .int t_clauses, .int t_next, .int t_fault]), (a_t_signs, aI G 100 t_signs)]
theorem u_X4_number_X4_nextSign_57 {s : State} {args : Array Value} (hts : ∀ w ∈ WU, w.before args s = true) : CallW rm_X4_number s args RX4 RX4 57 yX4_nextSign cX4_nextSign 1 (some .int) (kw_X4_nextSign :: WU) rm_X4_nextSign 0 0 0 := cwV 0 hts (gV qm_4_57 qi_X4_nextSign ql_X4_nextSign qn_4 qc_X4_nextSign) rfl rfl rfl (by decide +kernel) ⟨Nat.le_of_ble_eq_true rfl, Nat.le_of_ble_eq_true rfl⟩
section
variable {p : Program} {l : Launch} {e : Env} {s : State} {m : MethodId} {args : Array Value} {below : List Frame} {meth : Method} {c : Code} {A : Nat → Prop} {G : GE} {a_t a_t_signs a_t_facts : Nat} {r : Int32} {z_t_next : Int32} {z_t_fault : Int32}
set_option maxRecDepth 100000 in
set_option maxHeartbeats 4000000 in
theorem k_X4_number_108 (C : Cx p s m args meth c cX4_number (some .int) 7 RX4 G A) (t_size : Int32) (t_clauses : Int32) (t_next : Int32) (t_fault : Int32) (t_signs : Nat → Int32) (x5 : Int32) {H : Heap} {locs : List Loc} {ls : Array Slot} (hf : b_X4_number_108 x5 t_next = some (r, z_t_next, z_t_fault)) (S : St G A s.heap H locs (w_X4_number G a_t a_t_signs a_t_facts t_size t_clauses t_next t_fault t_signs)) (hl : lv_has ls 7 [(0, .ref a_t), (5, .int x5)]) : W p l e rm_X4_number s m args below meth c H locs 0 0 (QI G below args s A r (w_X4_number G a_t a_t_signs a_t_facts t_size t_clauses z_t_next z_t_fault t_signs)) (F0 m 108 ls []) := by
  unfold b_X4_number_108 at hf
  have hx := C.1
  have hb := C.2.1
  have hown := C.2.2.2.2.1
  have hts := C.2.2.2.2.2.1
  have hN := C.2.2.2.2.2.2.2.2.2.2
  refine lv_aload_n (pc := 108) hx hb dX4_number_108 rfl (lv_at hl 0 rfl) ?_
  refine lv_aload_n (pc := 109) hx hb dX4_number_109 rfl (lv_at hl 0 rfl) ?_
  refine x_get (pc := 110) (ci := 4) (T := TX4) (v := .int t_next) C S 0 rfl rfl inlX4 4 (by decide) rfl qf_4_22 rfl dX4_number_110 ?_
  refine lv_iconst (pc := 113) hx hb dX4_number_113 ic_1 ?_
  refine lv_isub (pc := 114) hx hb dX4_number_114 ?_
  refine x_put (pc := 115) (ci := 4) (T := TX4) (ws' := (w_X4_number G a_t a_t_signs a_t_facts t_size t_clauses t_next (t_next - (1 : Int32)) t_signs)) C S tyX4 tyX4_ok nmX4 0 rfl rfl inlX4 5 (by decide) rfl qf_4_25 rfl rfl rfl rfl (Nat.le_of_ble_eq_true rfl) rfl dX4_number_115 (fun H locs S => ?_)
  refine lv_iload (pc := 118) hx hb dX4_number_118 (lv_at hl 1 rfl) ?_
  cases hf
  exact x_iret (pc := 120) C S dX4_number_120
set_option maxRecDepth 100000 in
set_option maxHeartbeats 4000000 in
theorem k_X4_number_76 (C : Cx p s m args meth c cX4_number (some .int) 7 RX4 G A) (t_size : Int32) (t_clauses : Int32) (t_next : Int32) (t_fault : Int32) (t_signs : Nat → Int32) (x2 : Int32) (x3 : Int32) (x4 : Int32) (x5 : Int32) {H : Heap} {locs : List Loc} {ls : Array Slot} (hf : b_X4_number_76 x2 x3 x4 x5 t_next t_fault = some (r, z_t_next, z_t_fault)) (S : St G A s.heap H locs (w_X4_number G a_t a_t_signs a_t_facts t_size t_clauses t_next t_fault t_signs)) (hl : lv_has ls 7 [(0, .ref a_t), (2, .int x2), (3, .int x3), (4, .int x4), (5, .int x5)]) : W p l e rm_X4_number s m args below meth c H locs 0 0 (QI G below args s A r (w_X4_number G a_t a_t_signs a_t_facts t_size t_clauses z_t_next z_t_fault t_signs)) (F0 m 76 ls []) := by
  unfold b_X4_number_76 at hf
  have hx := C.1
  have hb := C.2.1
  have hown := C.2.2.2.2.1
  have hts := C.2.2.2.2.2.1
  have hN := C.2.2.2.2.2.2.2.2.2.2
  refine lv_aload_n (pc := 76) hx hb dX4_number_76 rfl (lv_at hl 0 rfl) ?_
  refine x_get (pc := 77) (ci := 4) (T := TX4) (v := .int t_next) C S 0 rfl rfl inlX4 4 (by decide) rfl qf_4_22 rfl dX4_number_77 ?_
  refine lv_iload (pc := 80) hx hb dX4_number_80 (lv_at hl 3 rfl) ?_
  refine lv_icmp_ne (tgt := 96) (pc := 82) hx hb dX4_number_82 (by decide) (fun c1 => ?_) (fun c1 => ?_)
  · have hf := ifn c1 hf
    refine lv_iload (pc := 96) hx hb dX4_number_96 (lv_at hl 4 rfl) ?_
    refine lv_iload_n (pc := 98) hx hb dX4_number_98 rfl (lv_at hl 1 rfl) ?_
    refine lv_icmp_lt (tgt := 108) (pc := 99) hx hb dX4_number_99 (by decide) (fun c2 => ?_) (fun c2 => ?_)
    · have hf := ifp c2 hf
      exact k_X4_number_108 C (t_size) (t_clauses) (t_next) (t_fault) (t_signs) (x5) hf S (lv_sub hl [0, 4] rfl)
    · have hf := ifn c2 hf
      refine lv_iload (pc := 102) hx hb dX4_number_102 (lv_at hl 4 rfl) ?_
      refine lv_iload_n (pc := 104) hx hb dX4_number_104 rfl (lv_at hl 2 rfl) ?_
      refine lv_icmp_le (tgt := 118) (pc := 105) hx hb dX4_number_105 (by decide) (fun c3 => ?_) (fun c3 => ?_)
      · have hf := ifp c3 hf
        refine lv_iload (pc := 118) hx hb dX4_number_118 (lv_at hl 4 rfl) ?_
        cases hf
        exact x_iret (pc := 120) C S dX4_number_120
      · have hf := ifn c3 hf
        exact k_X4_number_108 C (t_size) (t_clauses) (t_next) (t_fault) (t_signs) (x5) hf S (lv_sub hl [0, 4] rfl)
  · have hf := ifp c1 hf
    refine lv_aload_n (pc := 85) hx hb dX4_number_85 rfl (lv_at hl 0 rfl) ?_
    refine lv_aload_n (pc := 86) hx hb dX4_number_86 rfl (lv_at hl 0 rfl) ?_
    refine x_get (pc := 87) (ci := 4) (T := TX4) (v := .int t_next) C S 0 rfl rfl inlX4 4 (by decide) rfl qf_4_22 rfl dX4_number_87 ?_
    refine x_put (pc := 90) (ci := 4) (T := TX4) (ws' := (w_X4_number G a_t a_t_signs a_t_facts t_size t_clauses t_next t_next t_signs)) C S tyX4 tyX4_ok nmX4 0 rfl rfl inlX4 5 (by decide) rfl qf_4_25 rfl rfl rfl rfl (Nat.le_of_ble_eq_true rfl) rfl dX4_number_90 (fun H locs S => ?_)
    refine lv_goto (tgt := 118) (pc := 93) hx hb dX4_number_93 (by decide) ?_
    refine lv_iload (pc := 118) hx hb dX4_number_118 (lv_at hl 4 rfl) ?_
    cases hf
    exact x_iret (pc := 120) C S dX4_number_120
set_option maxRecDepth 100000 in
set_option maxHeartbeats 4000000 in
theorem k_X4_number_21 (C : Cx p s m args meth c cX4_number (some .int) 7 RX4 G A) (t_size : Int32) (t_clauses : Int32) (t_next : Int32) (t_fault : Int32) (t_signs : Nat → Int32) (x1 : Int32) (x2 : Int32) (x3 : Int32) (x4 : Int32) (x5 : Int32) (x6 : Int32) (k21 : Int32 × Int32 × Int32 → Option (Int32 × Int32 × Int32)) (hk21 : ∀ {H : Heap} {locs : List Loc} {ls : Array Slot} (x5' : Int32) (x6' : Int32) (t_next' : Int32), k21 (x5', x6', t_next') = some (r, z_t_next, z_t_fault) → St G A s.heap H locs (w_X4_number G a_t a_t_signs a_t_facts t_size t_clauses t_next' t_fault t_signs) → lv_has ls 7 [(0, .ref a_t), (1, .int x1), (2, .int x2), (3, .int x3), (4, .int x4), (5, .int x5'), (6, .int x6')] → W p l e rm_X4_number s m args below meth c H locs 0 0 (QI G below args s A r (w_X4_number G a_t a_t_signs a_t_facts t_size t_clauses z_t_next z_t_fault t_signs)) (F0 m 21 ls [])) {H : Heap} {locs : List Loc} {ls : Array Slot} (hf : b_X4_number_21 x1 x2 x3 x4 t_signs t_size t_fault k21 x5 x6 t_next = some (r, z_t_next, z_t_fault)) (S : St G A s.heap H locs (w_X4_number G a_t a_t_signs a_t_facts t_size t_clauses t_next t_fault t_signs)) (hl : lv_has ls 7 [(0, .ref a_t), (1, .int x1), (2, .int x2), (3, .int x3), (4, .int x4), (5, .int x5), (6, .int x6)]) : W p l e rm_X4_number s m args below meth c H locs 0 0 (QI G below args s A r (w_X4_number G a_t a_t_signs a_t_facts t_size t_clauses z_t_next z_t_fault t_signs)) (F0 m 21 ls []) := by
  unfold b_X4_number_21 at hf
  have hx := C.1
  have hb := C.2.1
  have hown := C.2.2.2.2.1
  have hts := C.2.2.2.2.2.1
  have hN := C.2.2.2.2.2.2.2.2.2.2
  refine lv_iload (pc := 21) hx hb dX4_number_21 (lv_at hl 6 rfl) ?_
  refine lv_iload_n (pc := 23) hx hb dX4_number_23 rfl (lv_at hl 1 rfl) ?_
  refine lv_icmp_ge (tgt := 76) (pc := 24) hx hb dX4_number_24 (by decide) (fun c1 => ?_) (fun c1 => ?_)
  · have hf := ifp c1 hf
    exact k_X4_number_76 C (t_size) (t_clauses) (t_next) (t_fault) (t_signs) (x2) (x3) (x4) (x5) hf S (lv_sub hl [0, 2, 3, 4, 5] rfl)
  · have hf := ifn c1 hf
    refine lv_aload_n (pc := 27) hx hb dX4_number_27 rfl (lv_at hl 0 rfl) ?_
    obtain ⟨r2, hq2, hf⟩ := bd_e hf
    refine x_vI (pc := 28) (As := []) (rest := []) (isC := [0, 1]) (ws' := (w_X4_number G a_t a_t_signs a_t_facts t_size t_clauses t_next t_fault t_signs)) C S (c_X4_nextSign l G a_t a_t_signs a_t_facts t_size t_clauses t_next t_fault t_signs r2 hq2) (u_X4_number_X4_nextSign_57 hts) (ci := 4) rfl 0 rfl rfl (by decide +kernel) [some 0, some 1] (by decide +kernel) rfl rfl rfl hl.1 rfl (Nat.le_of_ble_eq_true rfl) dX4_number_28 (fun H locs S => ?_)
    refine lv_bipush (pc := 31) hx hb dX4_number_31 bc_48 ?_
    refine lv_icmp_lt (tgt := 76) (pc := 33) hx hb dX4_number_33 (by decide) (fun c3 => ?_) (fun c3 => ?_)
    · have hf := ifp c3 hf
      exact k_X4_number_76 C (t_size) (t_clauses) (t_next) (t_fault) (t_signs) (x2) (x3) (x4) (x5) hf S (lv_sub hl [0, 2, 3, 4, 5] rfl)
    · have hf := ifn c3 hf
      refine lv_aload_n (pc := 36) hx hb dX4_number_36 rfl (lv_at hl 0 rfl) ?_
      obtain ⟨r4, hq4, hf⟩ := bd_e hf
      refine x_vI (pc := 37) (As := []) (rest := []) (isC := [0, 1]) (ws' := (w_X4_number G a_t a_t_signs a_t_facts t_size t_clauses t_next t_fault t_signs)) C S (c_X4_nextSign l G a_t a_t_signs a_t_facts t_size t_clauses t_next t_fault t_signs r4 hq4) (u_X4_number_X4_nextSign_57 hts) (ci := 4) rfl 0 rfl rfl (by decide +kernel) [some 0, some 1] (by decide +kernel) rfl rfl rfl hl.1 rfl (Nat.le_of_ble_eq_true rfl) dX4_number_37 (fun H locs S => ?_)
      refine lv_bipush (pc := 40) hx hb dX4_number_40 bc_57 ?_
      refine lv_icmp_gt (tgt := 76) (pc := 42) hx hb dX4_number_42 (by decide) (fun c5 => ?_) (fun c5 => ?_)
      · have hf := ifp c5 hf
        exact k_X4_number_76 C (t_size) (t_clauses) (t_next) (t_fault) (t_signs) (x2) (x3) (x4) (x5) hf S (lv_sub hl [0, 2, 3, 4, 5] rfl)
      · have hf := ifn c5 hf
        refine lv_iload (pc := 45) hx hb dX4_number_45 (lv_at hl 5 rfl) ?_
        refine lv_bipush (pc := 47) hx hb dX4_number_47 bc_10 ?_
        refine lv_imul (pc := 49) hx hb dX4_number_49 ?_
        refine lv_aload_n (pc := 50) hx hb dX4_number_50 rfl (lv_at hl 0 rfl) ?_
        obtain ⟨r6, hq6, hf⟩ := bd_e hf
        refine x_vI (pc := 51) (As := []) (rest := [.int (x5 * (10 : Int32))]) (isC := [0, 1]) (ws' := (w_X4_number G a_t a_t_signs a_t_facts t_size t_clauses t_next t_fault t_signs)) C S (c_X4_nextSign l G a_t a_t_signs a_t_facts t_size t_clauses t_next t_fault t_signs r6 hq6) (u_X4_number_X4_nextSign_57 hts) (ci := 4) rfl 0 rfl rfl (by decide +kernel) [some 0, some 1] (by decide +kernel) rfl rfl rfl hl.1 rfl (Nat.le_of_ble_eq_true rfl) dX4_number_51 (fun H locs S => ?_)
        refine lv_iadd (pc := 54) hx hb dX4_number_54 ?_
        refine lv_bipush (pc := 55) hx hb dX4_number_55 bc_48 ?_
        refine lv_isub (pc := 57) hx hb dX4_number_57 ?_
        refine lv_istore (pc := 58) (lv' := [(5, .int (((x5 * (10 : Int32)) + r6) - (48 : Int32))), (0, .ref a_t), (1, .int x1), (2, .int x2), (3, .int x3), (4, .int x4), (6, .int x6)]) hx hb dX4_number_58 hl (by decide) rfl (fun ls hl => ?_)
        refine lv_aload_n (pc := 60) hx hb dX4_number_60 rfl (lv_at hl 1 rfl) ?_
        refine lv_dup (pc := 61) hx hb dX4_number_61 rfl ?_
        refine x_get (pc := 62) (ci := 4) (T := TX4) (v := .int t_next) C S 0 rfl rfl inlX4 4 (by decide) rfl qf_4_22 rfl dX4_number_62 ?_
        refine lv_iconst (pc := 65) hx hb dX4_number_65 ic_1 ?_
        refine lv_iadd (pc := 66) hx hb dX4_number_66 ?_
        refine x_put (pc := 67) (ci := 4) (T := TX4) (ws' := (w_X4_number G a_t a_t_signs a_t_facts t_size t_clauses (t_next + (1 : Int32)) t_fault t_signs)) C S tyX4 tyX4_ok nmX4 0 rfl rfl inlX4 4 (by decide) rfl qf_4_22 rfl rfl rfl rfl (Nat.le_of_ble_eq_true rfl) rfl dX4_number_67 (fun H locs S => ?_)
        refine lv_iinc (pc := 70) (v := (x6 + (1 : Int32))) (lv' := [(6, .int (x6 + (1 : Int32))), (5, .int (((x5 * (10 : Int32)) + r6) - (48 : Int32))), (0, .ref a_t), (1, .int x1), (2, .int x2), (3, .int x3), (4, .int x4)]) hx hb dX4_number_70 hl (k := 6) rfl (congrArg (fun z => x6 + z) ic_1) (by decide) rfl (fun ls hl => ?_)
        refine lv_goto (tgt := 21) (pc := 73) hx hb dX4_number_73 (by decide) ?_
        exact hk21 ((((x5 * (10 : Int32)) + r6) - (48 : Int32))) ((x6 + (1 : Int32))) ((t_next + (1 : Int32)))  hf S (lv_sub hl [2, 3, 4, 5, 6, 1, 0] rfl)
set_option maxRecDepth 100000 in
set_option maxHeartbeats 4000000 in
theorem h_X4_number_21 (C : Cx p s m args meth c cX4_number (some .int) 7 RX4 G A) (t_size : Int32) (t_clauses : Int32) (t_fault : Int32) (t_signs : Nat → Int32) (x1 : Int32) (x2 : Int32) (x3 : Int32) (x4 : Int32) : ∀ (n : Nat) (x5 : Int32) (x6 : Int32) (t_next : Int32) {H : Heap} {locs : List Loc} {ls : Array Slot} (hf : lp (fun k x => b_X4_number_21 x1 x2 x3 x4 t_signs t_size t_fault k x.1 x.2.1 x.2.2) n (x5, x6, t_next) = some (r, z_t_next, z_t_fault)) (S : St G A s.heap H locs (w_X4_number G a_t a_t_signs a_t_facts t_size t_clauses t_next t_fault t_signs)) (hl : lv_has ls 7 [(0, .ref a_t), (1, .int x1), (2, .int x2), (3, .int x3), (4, .int x4), (5, .int x5), (6, .int x6)]), W p l e rm_X4_number s m args below meth c H locs 0 0 (QI G below args s A r (w_X4_number G a_t a_t_signs a_t_facts t_size t_clauses z_t_next z_t_fault t_signs)) (F0 m 21 ls []) := by
  intro n
  induction n with
  | zero =>
    intro x5 x6 t_next  H locs ls hf
    cases hf
  | succ n ih =>
    intro x5 x6 t_next  H locs ls hf S hl
    have hf : b_X4_number_21 x1 x2 x3 x4 t_signs t_size t_fault (lp (fun k x => b_X4_number_21 x1 x2 x3 x4 t_signs t_size t_fault k x.1 x.2.1 x.2.2) n) x5 x6 t_next = some (r, z_t_next, z_t_fault) := hf
    exact k_X4_number_21 C t_size t_clauses t_next t_fault t_signs x1 x2 x3 x4 x5 x6  (lp (fun k x => b_X4_number_21 x1 x2 x3 x4 t_signs t_size t_fault k x.1 x.2.1 x.2.2) n) (fun x5' x6' t_next'  h S hl => ih x5' x6' t_next'  h S hl) hf S hl
set_option maxRecDepth 100000 in
set_option maxHeartbeats 4000000 in
theorem c_X4_number (l : Launch) (G : GE) (a_t a_t_signs a_t_facts : Nat) (t_size : Int32) (t_clauses : Int32) (t_next : Int32) (t_fault : Int32) (t_signs : Nat → Int32) (x1 : Int32) (x2 : Int32) (x3 : Int32) (r : Int32) (z_t_next : Int32) (z_t_fault : Int32) (hf : f_X4_number t_signs t_size t_next t_fault x1 x2 x3 = some (r, z_t_next, z_t_fault)) : CI l G yX4_number kw_X4_number rm_X4_number [.ref a_t, .int x1, .int x2, .int x3] (w_X4_number G a_t a_t_signs a_t_facts t_size t_clauses t_next t_fault t_signs) r (w_X4_number G a_t a_t_signs a_t_facts t_size t_clauses z_t_next z_t_fault t_signs) := by
  refine en_I (cc := cX4_number) (maxL := 7) (ret := (some .int)) (by decide +kernel) (Nat.le_of_ble_eq_true rfl) ?_
  intro p e s m args below meth c A ls C S hl
  have hl : lv_has ls 7 [(0, .ref a_t), (1, .int x1), (2, .int x2), (3, .int x3)] := hl
  have C : Cx p s m args meth c cX4_number (some .int) 7 RX4 G A := C
  unfold f_X4_number at hf
  have hx := C.1
  have hb := C.2.1
  have hown := C.2.2.2.2.1
  have hts := C.2.2.2.2.2.1
  have hN := C.2.2.2.2.2.2.2.2.2.2
  refine lv_aload_n (pc := 0) hx hb dX4_number_0 rfl (lv_at hl 0 rfl) ?_
  refine x_get (pc := 1) (ci := 4) (T := TX4) (v := .int t_fault) C S 0 rfl rfl inlX4 5 (by decide) rfl qf_4_25 rfl dX4_number_1 ?_
  refine lv_if_lt (tgt := 9) (pc := 4) hx hb dX4_number_4 (by decide) (fun c1 => ?_) (fun c1 => ?_)
  · have hf := ifp c1 hf
    refine lv_aload_n (pc := 9) hx hb dX4_number_9 rfl (lv_at hl 0 rfl) ?_
    refine x_get (pc := 10) (ci := 4) (T := TX4) (v := .int t_next) C S 0 rfl rfl inlX4 4 (by decide) rfl qf_4_22 rfl dX4_number_10 ?_
    refine lv_istore (pc := 13) (lv' := [(4, .int t_next), (0, .ref a_t), (1, .int x1), (2, .int x2), (3, .int x3)]) hx hb dX4_number_13 hl (by decide) rfl (fun ls hl => ?_)
    refine lv_iconst (pc := 15) hx hb dX4_number_15 ic_0 ?_
    refine lv_istore (pc := 16) (lv' := [(5, .int (0 : Int32)), (4, .int t_next), (0, .ref a_t), (1, .int x1), (2, .int x2), (3, .int x3)]) hx hb dX4_number_16 hl (by decide) rfl (fun ls hl => ?_)
    refine lv_iconst (pc := 18) hx hb dX4_number_18 ic_0 ?_
    refine lv_istore (pc := 19) (lv' := [(6, .int (0 : Int32)), (5, .int (0 : Int32)), (4, .int t_next), (0, .ref a_t), (1, .int x1), (2, .int x2), (3, .int x3)]) hx hb dX4_number_19 hl (by decide) rfl (fun ls hl => ?_)
    exact h_X4_number_21 C (t_size) (t_clauses) (t_fault) (t_signs) (x1) (x2) (x3) (t_next) fu ((0 : Int32)) ((0 : Int32)) (t_next) hf S (lv_sub hl [3, 4, 5, 6, 2, 1, 0] rfl)
  · have hf := ifn c1 hf
    refine lv_iconst (pc := 7) hx hb dX4_number_7 ic_0 ?_
    cases hf
    exact x_iret (pc := 8) C S dX4_number_8
end

abbrev rm_X4_parseClause : Room := { frames := 3, cells := 0, slots := 0, locals := 62 }
abbrev kw_X4_parseClause : Cond := .code yX4_parseClause cX4_parseClause 5 none
abbrev w_X4_parseClause (G : GE) (a_t a_t_signs a_t_facts : Nat) (t_size : Int32) (t_clauses : Int32) (t_next : Int32) (t_fault : Int32) (t_signs : Nat → Int32) (t_facts : Nat → Int32) : va_W := [(a_t, ob 4 [.ref a_t_signs, .ref a_t_facts, .int t_size, .int t_clauses, .int t_next, .int t_fault]), (a_t_signs, aI G 100 t_signs), (a_t_facts, aI G 36 t_facts)]
theorem u_X4_parseClause_X4_number_39 {s : State} {args : Array Value} (hts : ∀ w ∈ WU, w.before args s = true) : CallW rm_X4_parseClause s args RX4 RX4 39 yX4_number cX4_number 7 (some .int) (kw_X4_number :: WU) rm_X4_number 0 0 3 := cwV 3 hts (gV qm_4_39 qi_X4_number ql_X4_number qn_4 qc_X4_number) rfl rfl rfl (by decide +kernel) ⟨Nat.le_of_ble_eq_true rfl, Nat.le_of_ble_eq_true rfl⟩
theorem u_X4_parseClause_X4_keepFact_43 {s : State} {args : Array Value} (hts : ∀ w ∈ WU, w.before args s = true) : CallW rm_X4_parseClause s args RX4 RX4 43 yX4_keepFact cX4_keepFact 5 none (kw_X4_keepFact :: WU) rm_X4_keepFact 0 0 3 := cwV 3 hts (gV qm_4_43 qi_X4_keepFact ql_X4_keepFact qn_4 qc_X4_keepFact) rfl rfl rfl (by decide +kernel) ⟨Nat.le_of_ble_eq_true rfl, Nat.le_of_ble_eq_true rfl⟩
theorem u_X4_parseClause_X4_expect_47 {s : State} {args : Array Value} (hts : ∀ w ∈ WU, w.before args s = true) : CallW rm_X4_parseClause s args RX4 RX4 47 yX4_expect cX4_expect 2 none (kw_X4_expect :: WU) rm_X4_expect 0 0 1 := cwV 1 hts (gV qm_4_47 qi_X4_expect ql_X4_expect qn_4 qc_X4_expect) rfl rfl rfl (by decide +kernel) ⟨Nat.le_of_ble_eq_true rfl, Nat.le_of_ble_eq_true rfl⟩
theorem u_X4_parseClause_X4_skip_35 {s : State} {args : Array Value} (hts : ∀ w ∈ WU, w.before args s = true) : CallW rm_X4_parseClause s args RX4 RX4 35 yX4_skip cX4_skip 2 (some .boolean) (kw_X4_skip :: WU) rm_X4_skip 0 0 1 := cwV 1 hts (gV qm_4_35 qi_X4_skip ql_X4_skip qn_4 qc_X4_skip) rfl rfl rfl (by decide +kernel) ⟨Nat.le_of_ble_eq_true rfl, Nat.le_of_ble_eq_true rfl⟩
theorem u_X4_parseClause_X7_topOf_53 {s : State} {args : Array Value} (hts : ∀ w ∈ WU, w.before args s = true) (hN : Nx s) : va_CN rm_X4_parseClause s args RX4 53 yX7_topOf RX7 cX7_topOf 2 (some .int) (kw_X7_topOf :: WU) rm_X7_topOf 0 0 2 ∧ (Cond.static yX7_topOf).before args s = true ∧ True := ⟨va_cnB 2 hts (gW qc_X7_topOf) rfl rfl rfl (hN.1 _ (by decide +kernel : (RX4, 53, yX7_topOf) ∈ nstM)) (hts _ qn_7) (by decide +kernel) ⟨Nat.le_of_ble_eq_true rfl, Nat.le_of_ble_eq_true rfl⟩, hts _ qs_X7_topOf, trivial⟩
section
variable {p : Program} {l : Launch} {e : Env} {s : State} {m : MethodId} {args : Array Value} {below : List Frame} {meth : Method} {c : Code} {A : Nat → Prop} {G : GE} {a_t a_t_signs a_t_facts : Nat} {z_t_facts : Nat → Int32} {z_t_next : Int32} {z_t_fault : Int32}
set_option maxRecDepth 100000 in
set_option maxHeartbeats 4000000 in
theorem k_X4_parseClause_167 (C : Cx p s m args meth c cX4_parseClause none 5 RX4 G A) (t_size : Int32) (t_clauses : Int32) (t_next : Int32) (t_fault : Int32) (t_signs : Nat → Int32) (t_facts : Nat → Int32) (y1 : Int32) (y2 : Int32) (y3 : Int32) {H : Heap} {locs : List Loc} {ls : Array Slot} (hf : b_X4_parseClause_167 y1 y2 y3 t_facts t_next t_fault = some (z_t_facts, z_t_next, z_t_fault)) (S : St G A s.heap H locs (w_X4_parseClause G a_t a_t_signs a_t_facts t_size t_clauses t_next t_fault t_signs t_facts)) (hl : lv_has ls 5 []) : W p l e rm_X4_parseClause s m args below meth c H locs 0 0 (QV G below args s A (w_X4_parseClause G a_t a_t_signs a_t_facts t_size t_clauses z_t_next z_t_fault t_signs z_t_facts)) (F0 m 167 ls [.int y3, .int y2, .int y1, .ref a_t]) := by
  unfold b_X4_parseClause_167 at hf
  have hx := C.1
  have hb := C.2.1
  have hown := C.2.2.2.2.1
  have hts := C.2.2.2.2.2.1
  have hN := C.2.2.2.2.2.2.2.2.2.2
  obtain ⟨o1_t_facts, hq1, hf⟩ := bd_e hf
  refine x_vV (pc := 167) (As := [.int y1, .int y2, .int y3]) (rest := []) (isC := [0, 2]) (ws' := (w_X4_parseClause G a_t a_t_signs a_t_facts t_size t_clauses t_next t_fault t_signs o1_t_facts)) C S (c_X4_keepFact l G a_t a_t_signs a_t_facts t_size t_clauses t_next t_fault t_facts y1 y2 y3 o1_t_facts hq1) (u_X4_parseClause_X4_keepFact_43 hts) (ci := 4) rfl 0 rfl rfl (by decide +kernel) [some 0, none, some 1] (by decide +kernel) rfl rfl rfl hl.1 rfl (Nat.le_of_ble_eq_true rfl) dX4_parseClause_167 (fun H locs S => ?_)
  cases hf
  exact x_vret (pc := 170) C S dX4_parseClause_170
set_option maxRecDepth 100000 in
set_option maxHeartbeats 4000000 in
theorem k_X4_parseClause_135 (C : Cx p s m args meth c cX4_parseClause none 5 RX4 G A) (t_size : Int32) (t_clauses : Int32) (t_next : Int32) (t_fault : Int32) (t_signs : Nat → Int32) (t_facts : Nat → Int32) (x1 : Int32) (y1 : Int32) (y2 : Int32) (y3 : Int32) {H : Heap} {locs : List Loc} {ls : Array Slot} (hf : b_X4_parseClause_135 x1 y1 y2 y3 t_signs t_facts t_size t_next t_fault = some (z_t_facts, z_t_next, z_t_fault)) (S : St G A s.heap H locs (w_X4_parseClause G a_t a_t_signs a_t_facts t_size t_clauses t_next t_fault t_signs t_facts)) (hl : lv_has ls 5 [(0, .ref a_t), (1, .int x1)]) : W p l e rm_X4_parseClause s m args below meth c H locs 0 0 (QV G below args s A (w_X4_parseClause G a_t a_t_signs a_t_facts t_size t_clauses z_t_next z_t_fault t_signs z_t_facts)) (F0 m 135 ls [.int y3, .int y2, .int y1, .ref a_t]) := by
  unfold b_X4_parseClause_135 at hf
  have hx := C.1
  have hb := C.2.1
  have hown := C.2.2.2.2.1
  have hts := C.2.2.2.2.2.1
  have hN := C.2.2.2.2.2.2.2.2.2.2
  obtain ⟨o1_t_facts, hq1, hf⟩ := bd_e hf
  refine x_vV (pc := 135) (As := [.int y1, .int y2, .int y3]) (rest := []) (isC := [0, 2]) (ws' := (w_X4_parseClause G a_t a_t_signs a_t_facts t_size t_clauses t_next t_fault t_signs o1_t_facts)) C S (c_X4_keepFact l G a_t a_t_signs a_t_facts t_size t_clauses t_next t_fault t_facts y1 y2 y3 o1_t_facts hq1) (u_X4_parseClause_X4_keepFact_43 hts) (ci := 4) rfl 0 rfl rfl (by decide +kernel) [some 0, none, some 1] (by decide +kernel) rfl rfl rfl hl.1 rfl (Nat.le_of_ble_eq_true rfl) dX4_parseClause_135 (fun H locs S => ?_)
  refine lv_aload_n (pc := 138) hx hb dX4_parseClause_138 rfl (lv_at hl 0 rfl) ?_
  refine lv_iload_n (pc := 139) hx hb dX4_parseClause_139 rfl (lv_at hl 1 rfl) ?_
  refine lv_iconst (pc := 140) hx hb dX4_parseClause_140 ic_5 ?_
  refine lv_aload_n (pc := 141) hx hb dX4_parseClause_141 rfl (lv_at hl 0 rfl) ?_
  refine lv_bipush (pc := 142) hx hb dX4_parseClause_142 bc_43 ?_
  obtain ⟨⟨r2, o2_t_next⟩, hq2, hf⟩ := bd_e hf
  refine x_vI (pc := 144) (As := [.int (43 : Int32)]) (rest := [.int (5 : Int32), .int x1, .ref a_t]) (isC := [0, 1]) (ws' := (w_X4_parseClause G a_t a_t_signs a_t_facts t_size t_clauses o2_t_next t_fault t_signs o1_t_facts)) C S (c_X4_skip l G a_t a_t_signs a_t_facts t_size t_clauses t_next t_fault t_signs (43 : Int32) r2 o2_t_next hq2) (u_X4_parseClause_X4_skip_35 hts) (ci := 4) rfl 0 rfl rfl (by decide +kernel) [some 0, some 1, none] (by decide +kernel) rfl rfl rfl hl.1 rfl (Nat.le_of_ble_eq_true rfl) dX4_parseClause_144 (fun H locs S => ?_)
  refine lv_if_eq (tgt := 166) (pc := 147) hx hb dX4_parseClause_147 (by decide) (fun c3 => ?_) (fun c3 => ?_)
  · have hf := ifp c3 hf
    refine lv_iconst (pc := 166) hx hb dX4_parseClause_166 ic_0 ?_
    exact k_X4_parseClause_167 C (t_size) (t_clauses) (o2_t_next) (t_fault) (t_signs) (o1_t_facts) (x1) ((5 : Int32)) ((0 : Int32)) hf S (lv_sub hl [] rfl)
  · have hf := ifn c3 hf
    refine lv_aload_n (pc := 150) hx hb dX4_parseClause_150 rfl (lv_at hl 0 rfl) ?_
    refine lv_iconst (pc := 151) hx hb dX4_parseClause_151 ic_2 ?_
    refine lv_iconst (pc := 152) hx hb dX4_parseClause_152 ic_0 ?_
    refine x_tabN (pc := 153) C S 0 (by decide) (index := 50) (own := RX4) (by decide +kernel) dX4_parseClause_153 ?_
    refine lv_iconst (pc := 156) hx hb dX4_parseClause_156 ic_5 ?_
    obtain ⟨r4, hq4, hf⟩ := bd_e hf
    refine x_nI (pc := 157) (As := [.ref (tabA G 0), .int (5 : Int32)]) (rest := [.int (0 : Int32), .int (2 : Int32), .ref a_t, .int (5 : Int32), .int x1, .ref a_t]) (isC := []) (ws' := (w_X4_parseClause G a_t a_t_signs a_t_facts t_size t_clauses o2_t_next t_fault t_signs o1_t_facts)) C S (c_X7_topOf l G 0 (by decide) (5 : Int32) r4 hq4) (u_X4_parseClause_X7_topOf_53 hts hN) rfl (by decide +kernel) [none, none, none] (by decide +kernel) rfl rfl rfl hl.1 rfl (Nat.le_of_ble_eq_true rfl) dX4_parseClause_157 (fun H locs S => ?_)
    obtain ⟨⟨r5, o5_t_next, o5_t_fault⟩, hq5, hf⟩ := bd_e hf
    refine x_vI (pc := 160) (As := [.int (2 : Int32), .int (0 : Int32), .int r4]) (rest := [.int (5 : Int32), .int x1, .ref a_t]) (isC := [0, 1]) (ws' := (w_X4_parseClause G a_t a_t_signs a_t_facts t_size t_clauses o5_t_next o5_t_fault t_signs o1_t_facts)) C S (c_X4_number l G a_t a_t_signs a_t_facts t_size t_clauses o2_t_next t_fault t_signs (2 : Int32) (0 : Int32) r4 r5 o5_t_next o5_t_fault hq5) (u_X4_parseClause_X4_number_39 hts) (ci := 4) rfl 0 rfl rfl (by decide +kernel) [some 0, some 1, none] (by decide +kernel) rfl rfl rfl hl.1 rfl (Nat.le_of_ble_eq_true rfl) dX4_parseClause_160 (fun H locs S => ?_)
    refine lv_goto (tgt := 167) (pc := 163) hx hb dX4_parseClause_163 (by decide) ?_
    exact k_X4_parseClause_167 C (t_size) (t_clauses) (o5_t_next) (o5_t_fault) (t_signs) (o1_t_facts) (x1) ((5 : Int32)) (r5) hf S (lv_sub hl [] rfl)
set_option maxRecDepth 100000 in
set_option maxHeartbeats 4000000 in
theorem k_X4_parseClause_116 (C : Cx p s m args meth c cX4_parseClause none 5 RX4 G A) (t_size : Int32) (t_clauses : Int32) (t_next : Int32) (t_fault : Int32) (t_signs : Nat → Int32) (t_facts : Nat → Int32) (x1 : Int32) (x2 : Int32) (x3 : Int32) (x4 : Int32) {H : Heap} {locs : List Loc} {ls : Array Slot} (hf : b_X4_parseClause_116 x1 x2 x3 x4 t_signs t_facts t_size t_next t_fault = some (z_t_facts, z_t_next, z_t_fault)) (S : St G A s.heap H locs (w_X4_parseClause G a_t a_t_signs a_t_facts t_size t_clauses t_next t_fault t_signs t_facts)) (hl : lv_has ls 5 [(0, .ref a_t), (1, .int x1), (2, .int x2), (3, .int x3), (4, .int x4)]) : W p l e rm_X4_parseClause s m args below meth c H locs 0 0 (QV G below args s A (w_X4_parseClause G a_t a_t_signs a_t_facts t_size t_clauses z_t_next z_t_fault t_signs z_t_facts)) (F0 m 116 ls []) := by
  unfold b_X4_parseClause_116 at hf
  have hx := C.1
  have hb := C.2.1
  have hown := C.2.2.2.2.1
  have hts := C.2.2.2.2.2.1
  have hN := C.2.2.2.2.2.2.2.2.2.2
  refine lv_aload_n (pc := 116) hx hb dX4_parseClause_116 rfl (lv_at hl 0 rfl) ?_
  refine lv_iload_n (pc := 117) hx hb dX4_parseClause_117 rfl (lv_at hl 1 rfl) ?_
  refine lv_iconst (pc := 118) hx hb dX4_parseClause_118 ic_4 ?_
  refine lv_iload_n (pc := 119) hx hb dX4_parseClause_119 rfl (lv_at hl 3 rfl) ?_
  refine lv_if_eq (tgt := 134) (pc := 120) hx hb dX4_parseClause_120 (by decide) (fun c1 => ?_) (fun c1 => ?_)
  · have hf := ifp c1 hf
    refine lv_iload_n (pc := 134) hx hb dX4_parseClause_134 rfl (lv_at hl 2 rfl) ?_
    exact k_X4_parseClause_135 C (t_size) (t_clauses) (t_next) (t_fault) (t_signs) (t_facts) (x1) (x1) ((4 : Int32)) (x2) hf S (lv_sub hl [0, 1] rfl)
  · have hf := ifn c1 hf
    refine lv_aload_n (pc := 123) hx hb dX4_parseClause_123 rfl (lv_at hl 0 rfl) ?_
    refine lv_iconst (pc := 124) hx hb dX4_parseClause_124 ic_3 ?_
    refine lv_iload (pc := 125) hx hb dX4_parseClause_125 (lv_at hl 4 rfl) ?_
    refine lv_iload_n (pc := 127) hx hb dX4_parseClause_127 rfl (lv_at hl 2 rfl) ?_
    obtain ⟨⟨r2, o2_t_next, o2_t_fault⟩, hq2, hf⟩ := bd_e hf
    refine x_vI (pc := 128) (As := [.int (3 : Int32), .int x4, .int x2]) (rest := [.int (4 : Int32), .int x1, .ref a_t]) (isC := [0, 1]) (ws' := (w_X4_parseClause G a_t a_t_signs a_t_facts t_size t_clauses o2_t_next o2_t_fault t_signs t_facts)) C S (c_X4_number l G a_t a_t_signs a_t_facts t_size t_clauses t_next t_fault t_signs (3 : Int32) x4 x2 r2 o2_t_next o2_t_fault hq2) (u_X4_parseClause_X4_number_39 hts) (ci := 4) rfl 0 rfl rfl (by decide +kernel) [some 0, some 1, none] (by decide +kernel) rfl rfl rfl hl.1 rfl (Nat.le_of_ble_eq_true rfl) dX4_parseClause_128 (fun H locs S => ?_)
    refine lv_goto (tgt := 135) (pc := 131) hx hb dX4_parseClause_131 (by decide) ?_
    exact k_X4_parseClause_135 C (t_size) (t_clauses) (o2_t_next) (o2_t_fault) (t_signs) (t_facts) (x1) (x1) ((4 : Int32)) (r2) hf S (lv_sub hl [0, 1] rfl)
set_option maxRecDepth 100000 in
set_option maxHeartbeats 4000000 in
theorem k_X4_parseClause_96 (C : Cx p s m args meth c cX4_parseClause none 5 RX4 G A) (t_size : Int32) (t_clauses : Int32) (t_next : Int32) (t_fault : Int32) (t_signs : Nat → Int32) (t_facts : Nat → Int32) (x1 : Int32) (x2 : Int32) (x3 : Int32) (y0 : Int32) {H : Heap} {locs : List Loc} {ls : Array Slot} (hf : b_X4_parseClause_96 x1 x2 x3 y0 t_signs t_facts t_size t_next t_fault = some (z_t_facts, z_t_next, z_t_fault)) (S : St G A s.heap H locs (w_X4_parseClause G a_t a_t_signs a_t_facts t_size t_clauses t_next t_fault t_signs t_facts)) (hl : lv_has ls 5 [(0, .ref a_t), (1, .int x1), (2, .int x2), (3, .int x3)]) : W p l e rm_X4_parseClause s m args below meth c H locs 0 0 (QV G below args s A (w_X4_parseClause G a_t a_t_signs a_t_facts t_size t_clauses z_t_next z_t_fault t_signs z_t_facts)) (F0 m 96 ls [.int y0]) := by
  unfold b_X4_parseClause_96 at hf
  have hx := C.1
  have hb := C.2.1
  have hown := C.2.2.2.2.1
  have hts := C.2.2.2.2.2.1
  have hN := C.2.2.2.2.2.2.2.2.2.2
  refine lv_istore (pc := 96) (lv' := [(4, .int y0), (0, .ref a_t), (1, .int x1), (2, .int x2), (3, .int x3)]) hx hb dX4_parseClause_96 hl (by decide) rfl (fun ls hl => ?_)
  refine lv_aload_n (pc := 98) hx hb dX4_parseClause_98 rfl (lv_at hl 1 rfl) ?_
  refine lv_iload_n (pc := 99) hx hb dX4_parseClause_99 rfl (lv_at hl 2 rfl) ?_
  refine lv_iconst (pc := 100) hx hb dX4_parseClause_100 ic_3 ?_
  refine lv_iload (pc := 101) hx hb dX4_parseClause_101 (lv_at hl 0 rfl) ?_
  obtain ⟨o1_t_facts, hq1, hf⟩ := bd_e hf
  refine x_vV (pc := 103) (As := [.int x1, .int (3 : Int32), .int y0]) (rest := []) (isC := [0, 2]) (ws' := (w_X4_parseClause G a_t a_t_signs a_t_facts t_size t_clauses t_next t_fault t_signs o1_t_facts)) C S (c_X4_keepFact l G a_t a_t_signs a_t_facts t_size t_clauses t_next t_fault t_facts x1 (3 : Int32) y0 o1_t_facts hq1) (u_X4_parseClause_X4_keepFact_43 hts) (ci := 4) rfl 0 rfl rfl (by decide +kernel) [some 0, none, some 1] (by decide +kernel) rfl rfl rfl hl.1 rfl (Nat.le_of_ble_eq_true rfl) dX4_parseClause_103 (fun H locs S => ?_)
  refine lv_iload_n (pc := 106) hx hb dX4_parseClause_106 rfl (lv_at hl 4 rfl) ?_
  refine lv_if_eq (tgt := 116) (pc := 107) hx hb dX4_parseClause_107 (by decide) (fun c2 => ?_) (fun c2 => ?_)
  · have hf := ifp c2 hf
    exact k_X4_parseClause_116 C (t_size) (t_clauses) (t_next) (t_fault) (t_signs) (o1_t_facts) (x1) (x2) (x3) (y0) hf S (lv_sub hl [1, 2, 3, 4, 0] rfl)
  · have hf := ifn c2 hf
    refine lv_aload_n (pc := 110) hx hb dX4_parseClause_110 rfl (lv_at hl 1 rfl) ?_
    refine lv_bipush (pc := 111) hx hb dX4_parseClause_111 bc_45 ?_
    obtain ⟨⟨o3_t_next, o3_t_fault⟩, hq3, hf⟩ := bd_e hf
    refine x_vV (pc := 113) (As := [.int (45 : Int32)]) (rest := []) (isC := [0, 1]) (ws' := (w_X4_parseClause G a_t a_t_signs a_t_facts t_size t_clauses o3_t_next o3_t_fault t_signs o1_t_facts)) C S (c_X4_expect l G a_t a_t_signs a_t_facts t_size t_clauses t_next t_fault t_signs (45 : Int32) o3_t_next o3_t_fault hq3) (u_X4_parseClause_X4_expect_47 hts) (ci := 4) rfl 0 rfl rfl (by decide +kernel) [some 0, some 1, none] (by decide +kernel) rfl rfl rfl hl.1 rfl (Nat.le_of_ble_eq_true rfl) dX4_parseClause_113 (fun H locs S => ?_)
    exact k_X4_parseClause_116 C (t_size) (t_clauses) (o3_t_next) (o3_t_fault) (t_signs) (o1_t_facts) (x1) (x2) (x3) (y0) hf S (lv_sub hl [1, 2, 3, 4, 0] rfl)
set_option maxRecDepth 100000 in
set_option maxHeartbeats 4000000 in
theorem k_X4_parseClause_63 (C : Cx p s m args meth c cX4_parseClause none 5 RX4 G A) (t_size : Int32) (t_clauses : Int32) (t_next : Int32) (t_fault : Int32) (t_signs : Nat → Int32) (t_facts : Nat → Int32) (x1 : Int32) (y1 : Int32) (y2 : Int32) (y3 : Int32) {H : Heap} {locs : List Loc} {ls : Array Slot} (hf : b_X4_parseClause_63 x1 y1 y2 y3 t_signs t_facts t_size t_next t_fault = some (z_t_facts, z_t_next, z_t_fault)) (S : St G A s.heap H locs (w_X4_parseClause G a_t a_t_signs a_t_facts t_size t_clauses t_next t_fault t_signs t_facts)) (hl : lv_has ls 5 [(0, .ref a_t), (1, .int x1)]) : W p l e rm_X4_parseClause s m args below meth c H locs 0 0 (QV G below args s A (w_X4_parseClause G a_t a_t_signs a_t_facts t_size t_clauses z_t_next z_t_fault t_signs z_t_facts)) (F0 m 63 ls [.int y3, .int y2, .int y1, .ref a_t]) := by
  unfold b_X4_parseClause_63 at hf
  have hx := C.1
  have hb := C.2.1
  have hown := C.2.2.2.2.1
  have hts := C.2.2.2.2.2.1
  have hN := C.2.2.2.2.2.2.2.2.2.2
  obtain ⟨o1_t_facts, hq1, hf⟩ := bd_e hf
  refine x_vV (pc := 63) (As := [.int y1, .int y2, .int y3]) (rest := []) (isC := [0, 2]) (ws' := (w_X4_parseClause G a_t a_t_signs a_t_facts t_size t_clauses t_next t_fault t_signs o1_t_facts)) C S (c_X4_keepFact l G a_t a_t_signs a_t_facts t_size t_clauses t_next t_fault t_facts y1 y2 y3 o1_t_facts hq1) (u_X4_parseClause_X4_keepFact_43 hts) (ci := 4) rfl 0 rfl rfl (by decide +kernel) [some 0, none, some 1] (by decide +kernel) rfl rfl rfl hl.1 rfl (Nat.le_of_ble_eq_true rfl) dX4_parseClause_63 (fun H locs S => ?_)
  refine x_tabN (pc := 66) C S 0 (by decide) (index := 50) (own := RX4) (by decide +kernel) dX4_parseClause_66 ?_
  refine lv_iconst (pc := 69) hx hb dX4_parseClause_69 ic_4 ?_
  obtain ⟨r2, hq2, hf⟩ := bd_e hf
  refine x_nI (pc := 70) (As := [.ref (tabA G 0), .int (4 : Int32)]) (rest := []) (isC := []) (ws' := (w_X4_parseClause G a_t a_t_signs a_t_facts t_size t_clauses t_next t_fault t_signs o1_t_facts)) C S (c_X7_topOf l G 0 (by decide) (4 : Int32) r2 hq2) (u_X4_parseClause_X7_topOf_53 hts hN) rfl (by decide +kernel) [none, none, none] (by decide +kernel) rfl rfl rfl hl.1 rfl (Nat.le_of_ble_eq_true rfl) dX4_parseClause_70 (fun H locs S => ?_)
  refine lv_istore_n (pc := 73) (lv' := [(2, .int r2), (0, .ref a_t), (1, .int x1)]) hx hb dX4_parseClause_73 rfl hl (by decide) rfl (fun ls hl => ?_)
  refine lv_aload_n (pc := 74) hx hb dX4_parseClause_74 rfl (lv_at hl 1 rfl) ?_
  refine lv_bipush (pc := 75) hx hb dX4_parseClause_75 bc_64 ?_
  obtain ⟨⟨r3, o3_t_next⟩, hq3, hf⟩ := bd_e hf
  refine x_vI (pc := 77) (As := [.int (64 : Int32)]) (rest := []) (isC := [0, 1]) (ws' := (w_X4_parseClause G a_t a_t_signs a_t_facts t_size t_clauses o3_t_next t_fault t_signs o1_t_facts)) C S (c_X4_skip l G a_t a_t_signs a_t_facts t_size t_clauses t_next t_fault t_signs (64 : Int32) r3 o3_t_next hq3) (u_X4_parseClause_X4_skip_35 hts) (ci := 4) rfl 0 rfl rfl (by decide +kernel) [some 0, some 1, none] (by decide +kernel) rfl rfl rfl hl.1 rfl (Nat.le_of_ble_eq_true rfl) dX4_parseClause_77 (fun H locs S => ?_)
  refine lv_istore_n (pc := 80) (lv' := [(3, .int r3), (2, .int r2), (0, .ref a_t), (1, .int x1)]) hx hb dX4_parseClause_80 rfl hl (by decide) rfl (fun ls hl => ?_)
  refine lv_iload_n (pc := 81) hx hb dX4_parseClause_81 rfl (lv_at hl 0 rfl) ?_
  refine lv_if_eq (tgt := 95) (pc := 82) hx hb dX4_parseClause_82 (by decide) (fun c4 => ?_) (fun c4 => ?_)
  · have hf := ifp c4 hf
    refine lv_iconst (pc := 95) hx hb dX4_parseClause_95 ic_0 ?_
    exact k_X4_parseClause_96 C (t_size) (t_clauses) (o3_t_next) (t_fault) (t_signs) (o1_t_facts) (x1) (r2) (r3) ((0 : Int32)) hf S (lv_sub hl [2, 3, 1, 0] rfl)
  · have hf := ifn c4 hf
    refine lv_aload_n (pc := 85) hx hb dX4_parseClause_85 rfl (lv_at hl 2 rfl) ?_
    refine lv_iconst (pc := 86) hx hb dX4_parseClause_86 ic_3 ?_
    refine lv_iconst (pc := 87) hx hb dX4_parseClause_87 ic_0 ?_
    refine lv_iload_n (pc := 88) hx hb dX4_parseClause_88 rfl (lv_at hl 1 rfl) ?_
    obtain ⟨⟨r5, o5_t_next, o5_t_fault⟩, hq5, hf⟩ := bd_e hf
    refine x_vI (pc := 89) (As := [.int (3 : Int32), .int (0 : Int32), .int r2]) (rest := []) (isC := [0, 1]) (ws' := (w_X4_parseClause G a_t a_t_signs a_t_facts t_size t_clauses o5_t_next o5_t_fault t_signs o1_t_facts)) C S (c_X4_number l G a_t a_t_signs a_t_facts t_size t_clauses o3_t_next t_fault t_signs (3 : Int32) (0 : Int32) r2 r5 o5_t_next o5_t_fault hq5) (u_X4_parseClause_X4_number_39 hts) (ci := 4) rfl 0 rfl rfl (by decide +kernel) [some 0, some 1, none] (by decide +kernel) rfl rfl rfl hl.1 rfl (Nat.le_of_ble_eq_true rfl) dX4_parseClause_89 (fun H locs S => ?_)
    refine lv_goto (tgt := 96) (pc := 92) hx hb dX4_parseClause_92 (by decide) ?_
    exact k_X4_parseClause_96 C (t_size) (t_clauses) (o5_t_next) (o5_t_fault) (t_signs) (o1_t_facts) (x1) (r2) (r3) (r5) hf S (lv_sub hl [2, 3, 1, 0] rfl)
set_option maxRecDepth 100000 in
set_option maxHeartbeats 4000000 in
theorem c_X4_parseClause (l : Launch) (G : GE) (a_t a_t_signs a_t_facts : Nat) (t_size : Int32) (t_clauses : Int32) (t_next : Int32) (t_fault : Int32) (t_signs : Nat → Int32) (t_facts : Nat → Int32) (x1 : Int32) (z_t_facts : Nat → Int32) (z_t_next : Int32) (z_t_fault : Int32) (hf : f_X4_parseClause t_signs t_facts t_size t_next t_fault x1 = some (z_t_facts, z_t_next, z_t_fault)) : CV l G yX4_parseClause kw_X4_parseClause rm_X4_parseClause [.ref a_t, .int x1] (w_X4_parseClause G a_t a_t_signs a_t_facts t_size t_clauses t_next t_fault t_signs t_facts) (w_X4_parseClause G a_t a_t_signs a_t_facts t_size t_clauses z_t_next z_t_fault t_signs z_t_facts) := by
  refine en_V (cc := cX4_parseClause) (maxL := 5) (ret := none) (by decide +kernel) (Nat.le_of_ble_eq_true rfl) ?_
  intro p e s m args below meth c A ls C S hl
  have hl : lv_has ls 5 [(0, .ref a_t), (1, .int x1)] := hl
  have C : Cx p s m args meth c cX4_parseClause none 5 RX4 G A := C
  unfold f_X4_parseClause at hf
  have hx := C.1
  have hb := C.2.1
  have hown := C.2.2.2.2.1
  have hts := C.2.2.2.2.2.1
  have hN := C.2.2.2.2.2.2.2.2.2.2
  refine lv_aload_n (pc := 0) hx hb dX4_parseClause_0 rfl (lv_at hl 0 rfl) ?_
  refine lv_iload_n (pc := 1) hx hb dX4_parseClause_1 rfl (lv_at hl 1 rfl) ?_
  refine lv_iconst (pc := 2) hx hb dX4_parseClause_2 ic_0 ?_
  refine lv_aload_n (pc := 3) hx hb dX4_parseClause_3 rfl (lv_at hl 0 rfl) ?_
  refine lv_iconst (pc := 4) hx hb dX4_parseClause_4 ic_2 ?_
  refine lv_iconst (pc := 5) hx hb dX4_parseClause_5 ic_0 ?_
  refine lv_bipush (pc := 6) hx hb dX4_parseClause_6 bc_63 ?_
  obtain ⟨⟨r1, o1_t_next, o1_t_fault⟩, hq1, hf⟩ := bd_e hf
  refine x_vI (pc := 8) (As := [.int (2 : Int32), .int (0 : Int32), .int (63 : Int32)]) (rest := [.int (0 : Int32), .int x1, .ref a_t]) (isC := [0, 1]) (ws' := (w_X4_parseClause G a_t a_t_signs a_t_facts t_size t_clauses o1_t_next o1_t_fault t_signs t_facts)) C S (c_X4_number l G a_t a_t_signs a_t_facts t_size t_clauses t_next t_fault t_signs (2 : Int32) (0 : Int32) (63 : Int32) r1 o1_t_next o1_t_fault hq1) (u_X4_parseClause_X4_number_39 hts) (ci := 4) rfl 0 rfl rfl (by decide +kernel) [some 0, some 1, none] (by decide +kernel) rfl rfl rfl hl.1 rfl (Nat.le_of_ble_eq_true rfl) dX4_parseClause_8 (fun H locs S => ?_)
  obtain ⟨o2_t_facts, hq2, hf⟩ := bd_e hf
  refine x_vV (pc := 11) (As := [.int x1, .int (0 : Int32), .int r1]) (rest := []) (isC := [0, 2]) (ws' := (w_X4_parseClause G a_t a_t_signs a_t_facts t_size t_clauses o1_t_next o1_t_fault t_signs o2_t_facts)) C S (c_X4_keepFact l G a_t a_t_signs a_t_facts t_size t_clauses o1_t_next o1_t_fault t_facts x1 (0 : Int32) r1 o2_t_facts hq2) (u_X4_parseClause_X4_keepFact_43 hts) (ci := 4) rfl 0 rfl rfl (by decide +kernel) [some 0, none, some 1] (by decide +kernel) rfl rfl rfl hl.1 rfl (Nat.le_of_ble_eq_true rfl) dX4_parseClause_11 (fun H locs S => ?_)
  refine lv_aload_n (pc := 14) hx hb dX4_parseClause_14 rfl (lv_at hl 0 rfl) ?_
  refine lv_bipush (pc := 15) hx hb dX4_parseClause_15 bc_44 ?_
  obtain ⟨⟨o3_t_next, o3_t_fault⟩, hq3, hf⟩ := bd_e hf
  refine x_vV (pc := 17) (As := [.int (44 : Int32)]) (rest := []) (isC := [0, 1]) (ws' := (w_X4_parseClause G a_t a_t_signs a_t_facts t_size t_clauses o3_t_next o3_t_fault t_signs o2_t_facts)) C S (c_X4_expect l G a_t a_t_signs a_t_facts t_size t_clauses o1_t_next o1_t_fault t_signs (44 : Int32) o3_t_next o3_t_fault hq3) (u_X4_parseClause_X4_expect_47 hts) (ci := 4) rfl 0 rfl rfl (by decide +kernel) [some 0, some 1, none] (by decide +kernel) rfl rfl rfl hl.1 rfl (Nat.le_of_ble_eq_true rfl) dX4_parseClause_17 (fun H locs S => ?_)
  refine lv_aload_n (pc := 20) hx hb dX4_parseClause_20 rfl (lv_at hl 0 rfl) ?_
  refine lv_iload_n (pc := 21) hx hb dX4_parseClause_21 rfl (lv_at hl 1 rfl) ?_
  refine lv_iconst (pc := 22) hx hb dX4_parseClause_22 ic_1 ?_
  refine lv_aload_n (pc := 23) hx hb dX4_parseClause_23 rfl (lv_at hl 0 rfl) ?_
  refine lv_iconst (pc := 24) hx hb dX4_parseClause_24 ic_2 ?_
  refine lv_iconst (pc := 25) hx hb dX4_parseClause_25 ic_0 ?_
  refine lv_bipush (pc := 26) hx hb dX4_parseClause_26 bc_63 ?_
  obtain ⟨⟨r4, o4_t_next, o4_t_fault⟩, hq4, hf⟩ := bd_e hf
  refine x_vI (pc := 28) (As := [.int (2 : Int32), .int (0 : Int32), .int (63 : Int32)]) (rest := [.int (1 : Int32), .int x1, .ref a_t]) (isC := [0, 1]) (ws' := (w_X4_parseClause G a_t a_t_signs a_t_facts t_size t_clauses o4_t_next o4_t_fault t_signs o2_t_facts)) C S (c_X4_number l G a_t a_t_signs a_t_facts t_size t_clauses o3_t_next o3_t_fault t_signs (2 : Int32) (0 : Int32) (63 : Int32) r4 o4_t_next o4_t_fault hq4) (u_X4_parseClause_X4_number_39 hts) (ci := 4) rfl 0 rfl rfl (by decide +kernel) [some 0, some 1, none] (by decide +kernel) rfl rfl rfl hl.1 rfl (Nat.le_of_ble_eq_true rfl) dX4_parseClause_28 (fun H locs S => ?_)
  obtain ⟨o5_t_facts, hq5, hf⟩ := bd_e hf
  refine x_vV (pc := 31) (As := [.int x1, .int (1 : Int32), .int r4]) (rest := []) (isC := [0, 2]) (ws' := (w_X4_parseClause G a_t a_t_signs a_t_facts t_size t_clauses o4_t_next o4_t_fault t_signs o5_t_facts)) C S (c_X4_keepFact l G a_t a_t_signs a_t_facts t_size t_clauses o4_t_next o4_t_fault o2_t_facts x1 (1 : Int32) r4 o5_t_facts hq5) (u_X4_parseClause_X4_keepFact_43 hts) (ci := 4) rfl 0 rfl rfl (by decide +kernel) [some 0, none, some 1] (by decide +kernel) rfl rfl rfl hl.1 rfl (Nat.le_of_ble_eq_true rfl) dX4_parseClause_31 (fun H locs S => ?_)
  refine lv_aload_n (pc := 34) hx hb dX4_parseClause_34 rfl (lv_at hl 0 rfl) ?_
  refine lv_iload_n (pc := 35) hx hb dX4_parseClause_35 rfl (lv_at hl 1 rfl) ?_
  refine lv_iconst (pc := 36) hx hb dX4_parseClause_36 ic_2 ?_
  refine lv_aload_n (pc := 37) hx hb dX4_parseClause_37 rfl (lv_at hl 0 rfl) ?_
  refine lv_bipush (pc := 38) hx hb dX4_parseClause_38 bc_42 ?_
  obtain ⟨⟨r6, o6_t_next⟩, hq6, hf⟩ := bd_e hf
  refine x_vI (pc := 40) (As := [.int (42 : Int32)]) (rest := [.int (2 : Int32), .int x1, .ref a_t]) (isC := [0, 1]) (ws' := (w_X4_parseClause G a_t a_t_signs a_t_facts t_size t_clauses o6_t_next o4_t_fault t_signs o5_t_facts)) C S (c_X4_skip l G a_t a_t_signs a_t_facts t_size t_clauses o4_t_next o4_t_fault t_signs (42 : Int32) r6 o6_t_next hq6) (u_X4_parseClause_X4_skip_35 hts) (ci := 4) rfl 0 rfl rfl (by decide +kernel) [some 0, some 1, none] (by decide +kernel) rfl rfl rfl hl.1 rfl (Nat.le_of_ble_eq_true rfl) dX4_parseClause_40 (fun H locs S => ?_)
  refine lv_if_eq (tgt := 62) (pc := 43) hx hb dX4_parseClause_43 (by decide) (fun c7 => ?_) (fun c7 => ?_)
  · have hf := ifp c7 hf
    refine lv_iconst (pc := 62) hx hb dX4_parseClause_62 ic_1 ?_
    exact k_X4_parseClause_63 C (t_size) (t_clauses) (o6_t_next) (o4_t_fault) (t_signs) (o5_t_facts) (x1) (x1) ((2 : Int32)) ((1 : Int32)) hf S (lv_sub hl [0, 1] rfl)
  · have hf := ifn c7 hf
    refine lv_aload_n (pc := 46) hx hb dX4_parseClause_46 rfl (lv_at hl 0 rfl) ?_
    refine lv_iconst (pc := 47) hx hb dX4_parseClause_47 ic_2 ?_
    refine lv_iconst (pc := 48) hx hb dX4_parseClause_48 ic_0 ?_
    refine x_tabN (pc := 49) C S 0 (by decide) (index := 50) (own := RX4) (by decide +kernel) dX4_parseClause_49 ?_
    refine lv_iconst (pc := 52) hx hb dX4_parseClause_52 ic_2 ?_
    obtain ⟨r8, hq8, hf⟩ := bd_e hf
    refine x_nI (pc := 53) (As := [.ref (tabA G 0), .int (2 : Int32)]) (rest := [.int (0 : Int32), .int (2 : Int32), .ref a_t, .int (2 : Int32), .int x1, .ref a_t]) (isC := []) (ws' := (w_X4_parseClause G a_t a_t_signs a_t_facts t_size t_clauses o6_t_next o4_t_fault t_signs o5_t_facts)) C S (c_X7_topOf l G 0 (by decide) (2 : Int32) r8 hq8) (u_X4_parseClause_X7_topOf_53 hts hN) rfl (by decide +kernel) [none, none, none] (by decide +kernel) rfl rfl rfl hl.1 rfl (Nat.le_of_ble_eq_true rfl) dX4_parseClause_53 (fun H locs S => ?_)
    obtain ⟨⟨r9, o9_t_next, o9_t_fault⟩, hq9, hf⟩ := bd_e hf
    refine x_vI (pc := 56) (As := [.int (2 : Int32), .int (0 : Int32), .int r8]) (rest := [.int (2 : Int32), .int x1, .ref a_t]) (isC := [0, 1]) (ws' := (w_X4_parseClause G a_t a_t_signs a_t_facts t_size t_clauses o9_t_next o9_t_fault t_signs o5_t_facts)) C S (c_X4_number l G a_t a_t_signs a_t_facts t_size t_clauses o6_t_next o4_t_fault t_signs (2 : Int32) (0 : Int32) r8 r9 o9_t_next o9_t_fault hq9) (u_X4_parseClause_X4_number_39 hts) (ci := 4) rfl 0 rfl rfl (by decide +kernel) [some 0, some 1, none] (by decide +kernel) rfl rfl rfl hl.1 rfl (Nat.le_of_ble_eq_true rfl) dX4_parseClause_56 (fun H locs S => ?_)
    refine lv_goto (tgt := 63) (pc := 59) hx hb dX4_parseClause_59 (by decide) ?_
    exact k_X4_parseClause_63 C (t_size) (t_clauses) (o9_t_next) (o9_t_fault) (t_signs) (o5_t_facts) (x1) (x1) ((2 : Int32)) (r9) hf S (lv_sub hl [0, 1] rfl)
end

abbrev rm_X4_parse : Room := { frames := 4, cells := 0, slots := 0, locals := 86 }
abbrev kw_X4_parse : Cond := .code yX4_parse cX4_parse 2 (some .int)
abbrev w_X4_parse (G : GE) (a_t a_t_signs a_t_facts : Nat) (t_size : Int32) (t_clauses : Int32) (t_next : Int32) (t_fault : Int32) (t_signs : Nat → Int32) (t_facts : Nat → Int32) : va_W := [(a_t, ob 4 [.ref a_t_signs, .ref a_t_facts, .int t_size, .int t_clauses, .int t_next, .int t_fault]), (a_t_signs, aI G 100 t_signs), (a_t_facts, aI G 36 t_facts)]
theorem u_X4_parse_X4_parseClause_31 {s : State} {args : Array Value} (hts : ∀ w ∈ WU, w.before args s = true) : CallW rm_X4_parse s args RX4 RX4 31 yX4_parseClause cX4_parseClause 5 none (kw_X4_parseClause :: WU) rm_X4_parseClause 0 0 1 := cwV 1 hts (gV qm_4_31 qi_X4_parseClause ql_X4_parseClause qn_4 qc_X4_parseClause) rfl rfl rfl (by decide +kernel) ⟨Nat.le_of_ble_eq_true rfl, Nat.le_of_ble_eq_true rfl⟩
theorem u_X4_parse_X4_skip_35 {s : State} {args : Array Value} (hts : ∀ w ∈ WU, w.before args s = true) : CallW rm_X4_parse s args RX4 RX4 35 yX4_skip cX4_skip 2 (some .boolean) (kw_X4_skip :: WU) rm_X4_skip 0 0 1 := cwV 1 hts (gV qm_4_35 qi_X4_skip ql_X4_skip qn_4 qc_X4_skip) rfl rfl rfl (by decide +kernel) ⟨Nat.le_of_ble_eq_true rfl, Nat.le_of_ble_eq_true rfl⟩
section
variable {p : Program} {l : Launch} {e : Env} {s : State} {m : MethodId} {args : Array Value} {below : List Frame} {meth : Method} {c : Code} {A : Nat → Prop} {G : GE} {a_t a_t_signs a_t_facts : Nat} {r : Int32} {z_t_facts : Nat → Int32} {z_t_clauses : Int32} {z_t_next : Int32} {z_t_fault : Int32}
set_option maxRecDepth 100000 in
set_option maxHeartbeats 4000000 in
theorem k_X4_parse_76 (C : Cx p s m args meth c cX4_parse (some .int) 2 RX4 G A) (t_size : Int32) (t_clauses : Int32) (t_next : Int32) (t_fault : Int32) (t_signs : Nat → Int32) (t_facts : Nat → Int32) {H : Heap} {locs : List Loc} {ls : Array Slot} (hf : b_X4_parse_76 t_facts t_size t_clauses t_next t_fault = some (r, z_t_facts, z_t_clauses, z_t_next, z_t_fault)) (S : St G A s.heap H locs (w_X4_parse G a_t a_t_signs a_t_facts t_size t_clauses t_next t_fault t_signs t_facts)) (hl : lv_has ls 2 [(0, .ref a_t)]) : W p l e rm_X4_parse s m args below meth c H locs 0 0 (QI G below args s A r (w_X4_parse G a_t a_t_signs a_t_facts t_size z_t_clauses z_t_next z_t_fault t_signs z_t_facts)) (F0 m 76 ls []) := by
  unfold b_X4_parse_76 at hf
  have hx := C.1
  have hb := C.2.1
  have hown := C.2.2.2.2.1
  have hts := C.2.2.2.2.2.1
  have hN := C.2.2.2.2.2.2.2.2.2.2
  refine lv_aload_n (pc := 76) hx hb dX4_parse_76 rfl (lv_at hl 0 rfl) ?_
  refine x_get (pc := 77) (ci := 4) (T := TX4) (v := .int t_fault) C S 0 rfl rfl inlX4 5 (by decide) rfl qf_4_25 rfl dX4_parse_77 ?_
  refine lv_if_ge (tgt := 102) (pc := 80) hx hb dX4_parse_80 (by decide) (fun c1 => ?_) (fun c1 => ?_)
  · have hf := ifp c1 hf
    refine lv_aload_n (pc := 102) hx hb dX4_parse_102 rfl (lv_at hl 0 rfl) ?_
    refine x_get (pc := 103) (ci := 4) (T := TX4) (v := .int t_fault) C S 0 rfl rfl inlX4 5 (by decide) rfl qf_4_25 rfl dX4_parse_103 ?_
    cases hf
    exact x_iret (pc := 106) C S dX4_parse_106
  · have hf := ifn c1 hf
    refine lv_aload_n (pc := 83) hx hb dX4_parse_83 rfl (lv_at hl 0 rfl) ?_
    refine x_get (pc := 84) (ci := 4) (T := TX4) (v := .int t_next) C S 0 rfl rfl inlX4 4 (by decide) rfl qf_4_22 rfl dX4_parse_84 ?_
    refine lv_aload_n (pc := 87) hx hb dX4_parse_87 rfl (lv_at hl 0 rfl) ?_
    refine x_get (pc := 88) (ci := 4) (T := TX4) (v := .int t_size) C S 0 rfl rfl inlX4 2 (by decide) rfl qf_4_18 rfl dX4_parse_88 ?_
    refine lv_icmp_ge (tgt := 102) (pc := 91) hx hb dX4_parse_91 (by decide) (fun c2 => ?_) (fun c2 => ?_)
    · have hf := ifp c2 hf
      refine lv_aload_n (pc := 102) hx hb dX4_parse_102 rfl (lv_at hl 0 rfl) ?_
      refine x_get (pc := 103) (ci := 4) (T := TX4) (v := .int t_fault) C S 0 rfl rfl inlX4 5 (by decide) rfl qf_4_25 rfl dX4_parse_103 ?_
      cases hf
      exact x_iret (pc := 106) C S dX4_parse_106
    · have hf := ifn c2 hf
      refine lv_aload_n (pc := 94) hx hb dX4_parse_94 rfl (lv_at hl 0 rfl) ?_
      refine lv_aload_n (pc := 95) hx hb dX4_parse_95 rfl (lv_at hl 0 rfl) ?_
      refine x_get (pc := 96) (ci := 4) (T := TX4) (v := .int t_next) C S 0 rfl rfl inlX4 4 (by decide) rfl qf_4_22 rfl dX4_parse_96 ?_
      refine x_put (pc := 99) (ci := 4) (T := TX4) (ws' := (w_X4_parse G a_t a_t_signs a_t_facts t_size t_clauses t_next t_next t_signs t_facts)) C S tyX4 tyX4_ok nmX4 0 rfl rfl inlX4 5 (by decide) rfl qf_4_25 rfl rfl rfl rfl (Nat.le_of_ble_eq_true rfl) rfl dX4_parse_99 (fun H locs S => ?_)
      refine lv_aload_n (pc := 102) hx hb dX4_parse_102 rfl (lv_at hl 0 rfl) ?_
      refine x_get (pc := 103) (ci := 4) (T := TX4) (v := .int t_next) C S 0 rfl rfl inlX4 5 (by decide) rfl qf_4_25 rfl dX4_parse_103 ?_
      cases hf
      exact x_iret (pc := 106) C S dX4_parse_106
set_option maxRecDepth 100000 in
set_option maxHeartbeats 4000000 in
theorem k_X4_parse_18 (C : Cx p s m args meth c cX4_parse (some .int) 2 RX4 G A) (t_size : Int32) (t_clauses : Int32) (t_next : Int32) (t_fault : Int32) (t_signs : Nat → Int32) (t_facts : Nat → Int32) (x1 : Int32) (k18 : Int32 × (Nat → Int32) × Int32 × Int32 × Int32 → Option (Int32 × (Nat → Int32) × Int32 × Int32 × Int32)) (hk18 : ∀ {H : Heap} {locs : List Loc} {ls : Array Slot} (x1' : Int32) (t_facts' : Nat → Int32) (t_clauses' : Int32) (t_next' : Int32) (t_fault' : Int32), k18 (x1', t_facts', t_clauses', t_next', t_fault') = some (r, z_t_facts, z_t_clauses, z_t_next, z_t_fault) → St G A s.heap H locs (w_X4_parse G a_t a_t_signs a_t_facts t_size t_clauses' t_next' t_fault' t_signs t_facts') → lv_has ls 2 [(0, .ref a_t), (1, .int x1')] → W p l e rm_X4_parse s m args below meth c H locs 0 0 (QI G below args s A r (w_X4_parse G a_t a_t_signs a_t_facts t_size z_t_clauses z_t_next z_t_fault t_signs z_t_facts)) (F0 m 18 ls [])) {H : Heap} {locs : List Loc} {ls : Array Slot} (hf : b_X4_parse_18 t_signs t_size k18 x1 t_facts t_clauses t_next t_fault = some (r, z_t_facts, z_t_clauses, z_t_next, z_t_fault)) (S : St G A s.heap H locs (w_X4_parse G a_t a_t_signs a_t_facts t_size t_clauses t_next t_fault t_signs t_facts)) (hl : lv_has ls 2 [(0, .ref a_t), (1, .int x1)]) : W p l e rm_X4_parse s m args below meth c H locs 0 0 (QI G below args s A r (w_X4_parse G a_t a_t_signs a_t_facts t_size z_t_clauses z_t_next z_t_fault t_signs z_t_facts)) (F0 m 18 ls []) := by
  unfold b_X4_parse_18 at hf
  have hx := C.1
  have hb := C.2.1
  have hown := C.2.2.2.2.1
  have hts := C.2.2.2.2.2.1
  have hN := C.2.2.2.2.2.2.2.2.2.2
  refine lv_iload_n (pc := 18) hx hb dX4_parse_18 rfl (lv_at hl 1 rfl) ?_
  refine lv_if_eq (tgt := 76) (pc := 19) hx hb dX4_parse_19 (by decide) (fun c1 => ?_) (fun c1 => ?_)
  · have hf := ifp c1 hf
    exact k_X4_parse_76 C (t_size) (t_clauses) (t_next) (t_fault) (t_signs) (t_facts) hf S (lv_sub hl [0] rfl)
  · have hf := ifn c1 hf
    refine lv_aload_n (pc := 22) hx hb dX4_parse_22 rfl (lv_at hl 0 rfl) ?_
    refine x_get (pc := 23) (ci := 4) (T := TX4) (v := .int t_clauses) C S 0 rfl rfl inlX4 3 (by decide) rfl qf_4_28 rfl dX4_parse_23 ?_
    refine lv_bipush (pc := 26) hx hb dX4_parse_26 bc_6 ?_
    refine lv_icmp_ge (tgt := 76) (pc := 28) hx hb dX4_parse_28 (by decide) (fun c2 => ?_) (fun c2 => ?_)
    · have hf := ifp c2 hf
      exact k_X4_parse_76 C (t_size) (t_clauses) (t_next) (t_fault) (t_signs) (t_facts) hf S (lv_sub hl [0] rfl)
    · have hf := ifn c2 hf
      refine lv_aload_n (pc := 31) hx hb dX4_parse_31 rfl (lv_at hl 0 rfl) ?_
      refine lv_aload_n (pc := 32) hx hb dX4_parse_32 rfl (lv_at hl 0 rfl) ?_
      refine x_get (pc := 33) (ci := 4) (T := TX4) (v := .int t_clauses) C S 0 rfl rfl inlX4 3 (by decide) rfl qf_4_28 rfl dX4_parse_33 ?_
      obtain ⟨⟨o3_t_facts, o3_t_next, o3_t_fault⟩, hq3, hf⟩ := bd_e hf
      refine x_vV (pc := 36) (As := [.int t_clauses]) (rest := []) (isC := [0, 1, 2]) (ws' := (w_X4_parse G a_t a_t_signs a_t_facts t_size t_clauses o3_t_next o3_t_fault t_signs o3_t_facts)) C S (c_X4_parseClause l G a_t a_t_signs a_t_facts t_size t_clauses t_next t_fault t_signs t_facts t_clauses o3_t_facts o3_t_next o3_t_fault hq3) (u_X4_parse_X4_parseClause_31 hts) (ci := 4) rfl 0 rfl rfl (by decide +kernel) [some 0, some 1, some 2] (by decide +kernel) rfl rfl rfl hl.1 rfl (Nat.le_of_ble_eq_true rfl) dX4_parse_36 (fun H locs S => ?_)
      refine lv_aload_n (pc := 39) hx hb dX4_parse_39 rfl (lv_at hl 0 rfl) ?_
      refine lv_dup (pc := 40) hx hb dX4_parse_40 rfl ?_
      refine x_get (pc := 41) (ci := 4) (T := TX4) (v := .int t_clauses) C S 0 rfl rfl inlX4 3 (by decide) rfl qf_4_28 rfl dX4_parse_41 ?_
      refine lv_iconst (pc := 44) hx hb dX4_parse_44 ic_1 ?_
      refine lv_iadd (pc := 45) hx hb dX4_parse_45 ?_
      refine x_put (pc := 46) (ci := 4) (T := TX4) (ws' := (w_X4_parse G a_t a_t_signs a_t_facts t_size (t_clauses + (1 : Int32)) o3_t_next o3_t_fault t_signs o3_t_facts)) C S tyX4 tyX4_ok nmX4 0 rfl rfl inlX4 3 (by decide) rfl qf_4_28 rfl rfl rfl rfl (Nat.le_of_ble_eq_true rfl) rfl dX4_parse_46 (fun H locs S => ?_)
      refine lv_aload_n (pc := 49) hx hb dX4_parse_49 rfl (lv_at hl 0 rfl) ?_
      refine x_get (pc := 50) (ci := 4) (T := TX4) (v := .int (t_clauses + (1 : Int32))) C S 0 rfl rfl inlX4 3 (by decide) rfl qf_4_28 rfl dX4_parse_50 ?_
      refine lv_bipush (pc := 53) hx hb dX4_parse_53 bc_6 ?_
      refine lv_icmp_ge (tgt := 71) (pc := 55) hx hb dX4_parse_55 (by decide) (fun c4 => ?_) (fun c4 => ?_)
      · have hf := ifp c4 hf
        refine lv_iconst (pc := 71) hx hb dX4_parse_71 ic_0 ?_
        refine lv_istore_n (pc := 72) (lv' := [(1, .int (0 : Int32)), (0, .ref a_t)]) hx hb dX4_parse_72 rfl hl (by decide) rfl (fun ls hl => ?_)
        refine lv_goto (tgt := 18) (pc := 73) hx hb dX4_parse_73 (by decide) ?_
        exact hk18 ((0 : Int32)) (o3_t_facts) ((t_clauses + (1 : Int32))) (o3_t_next) (o3_t_fault)  hf S (lv_sub hl [1, 0] rfl)
      · have hf := ifn c4 hf
        refine lv_aload_n (pc := 58) hx hb dX4_parse_58 rfl (lv_at hl 0 rfl) ?_
        refine lv_bipush (pc := 59) hx hb dX4_parse_59 bc_59 ?_
        obtain ⟨⟨r5, o5_t_next⟩, hq5, hf⟩ := bd_e hf
        refine x_vI (pc := 61) (As := [.int (59 : Int32)]) (rest := []) (isC := [0, 1]) (ws' := (w_X4_parse G a_t a_t_signs a_t_facts t_size (t_clauses + (1 : Int32)) o5_t_next o3_t_fault t_signs o3_t_facts)) C S (c_X4_skip l G a_t a_t_signs a_t_facts t_size (t_clauses + (1 : Int32)) o3_t_next o3_t_fault t_signs (59 : Int32) r5 o5_t_next hq5) (u_X4_parse_X4_skip_35 hts) (ci := 4) rfl 0 rfl rfl (by decide +kernel) [some 0, some 1, none] (by decide +kernel) rfl rfl rfl hl.1 rfl (Nat.le_of_ble_eq_true rfl) dX4_parse_61 (fun H locs S => ?_)
        refine lv_if_eq (tgt := 71) (pc := 64) hx hb dX4_parse_64 (by decide) (fun c6 => ?_) (fun c6 => ?_)
        · have hf := ifp c6 hf
          refine lv_iconst (pc := 71) hx hb dX4_parse_71 ic_0 ?_
          refine lv_istore_n (pc := 72) (lv' := [(1, .int (0 : Int32)), (0, .ref a_t)]) hx hb dX4_parse_72 rfl hl (by decide) rfl (fun ls hl => ?_)
          refine lv_goto (tgt := 18) (pc := 73) hx hb dX4_parse_73 (by decide) ?_
          exact hk18 ((0 : Int32)) (o3_t_facts) ((t_clauses + (1 : Int32))) (o5_t_next) (o3_t_fault)  hf S (lv_sub hl [1, 0] rfl)
        · have hf := ifn c6 hf
          refine lv_iconst (pc := 67) hx hb dX4_parse_67 ic_1 ?_
          refine lv_goto (tgt := 72) (pc := 68) hx hb dX4_parse_68 (by decide) ?_
          refine lv_istore_n (pc := 72) (lv' := [(1, .int (1 : Int32)), (0, .ref a_t)]) hx hb dX4_parse_72 rfl hl (by decide) rfl (fun ls hl => ?_)
          refine lv_goto (tgt := 18) (pc := 73) hx hb dX4_parse_73 (by decide) ?_
          exact hk18 ((1 : Int32)) (o3_t_facts) ((t_clauses + (1 : Int32))) (o5_t_next) (o3_t_fault)  hf S (lv_sub hl [1, 0] rfl)
set_option maxRecDepth 100000 in
set_option maxHeartbeats 4000000 in
theorem h_X4_parse_18 (C : Cx p s m args meth c cX4_parse (some .int) 2 RX4 G A) (t_size : Int32) (t_signs : Nat → Int32) : ∀ (n : Nat) (x1 : Int32) (t_facts : Nat → Int32) (t_clauses : Int32) (t_next : Int32) (t_fault : Int32) {H : Heap} {locs : List Loc} {ls : Array Slot} (hf : lp (fun k x => b_X4_parse_18 t_signs t_size k x.1 x.2.1 x.2.2.1 x.2.2.2.1 x.2.2.2.2) n (x1, t_facts, t_clauses, t_next, t_fault) = some (r, z_t_facts, z_t_clauses, z_t_next, z_t_fault)) (S : St G A s.heap H locs (w_X4_parse G a_t a_t_signs a_t_facts t_size t_clauses t_next t_fault t_signs t_facts)) (hl : lv_has ls 2 [(0, .ref a_t), (1, .int x1)]), W p l e rm_X4_parse s m args below meth c H locs 0 0 (QI G below args s A r (w_X4_parse G a_t a_t_signs a_t_facts t_size z_t_clauses z_t_next z_t_fault t_signs z_t_facts)) (F0 m 18 ls []) := by
  intro n
  induction n with
  | zero =>
    intro x1 t_facts t_clauses t_next t_fault  H locs ls hf
    cases hf
  | succ n ih =>
    intro x1 t_facts t_clauses t_next t_fault  H locs ls hf S hl
    have hf : b_X4_parse_18 t_signs t_size (lp (fun k x => b_X4_parse_18 t_signs t_size k x.1 x.2.1 x.2.2.1 x.2.2.2.1 x.2.2.2.2) n) x1 t_facts t_clauses t_next t_fault = some (r, z_t_facts, z_t_clauses, z_t_next, z_t_fault) := hf
    exact k_X4_parse_18 C t_size t_clauses t_next t_fault t_signs t_facts x1  (lp (fun k x => b_X4_parse_18 t_signs t_size k x.1 x.2.1 x.2.2.1 x.2.2.2.1 x.2.2.2.2) n) (fun x1' t_facts' t_clauses' t_next' t_fault'  h S hl => ih x1' t_facts' t_clauses' t_next' t_fault'  h S hl) hf S hl
set_option maxRecDepth 100000 in
set_option maxHeartbeats 4000000 in
theorem c_X4_parse (l : Launch) (G : GE) (a_t a_t_signs a_t_facts : Nat) (t_size : Int32) (t_clauses : Int32) (t_next : Int32) (t_fault : Int32) (t_signs : Nat → Int32) (t_facts : Nat → Int32) (r : Int32) (z_t_facts : Nat → Int32) (z_t_clauses : Int32) (z_t_next : Int32) (z_t_fault : Int32) (hf : f_X4_parse t_signs t_facts t_size = some (r, z_t_facts, z_t_clauses, z_t_next, z_t_fault)) : CI l G yX4_parse kw_X4_parse rm_X4_parse [.ref a_t] (w_X4_parse G a_t a_t_signs a_t_facts t_size t_clauses t_next t_fault t_signs t_facts) r (w_X4_parse G a_t a_t_signs a_t_facts t_size z_t_clauses z_t_next z_t_fault t_signs z_t_facts) := by
  refine en_I (cc := cX4_parse) (maxL := 2) (ret := (some .int)) (by decide +kernel) (Nat.le_of_ble_eq_true rfl) ?_
  intro p e s m args below meth c A ls C S hl
  have hl : lv_has ls 2 [(0, .ref a_t)] := hl
  have C : Cx p s m args meth c cX4_parse (some .int) 2 RX4 G A := C
  unfold f_X4_parse at hf
  have hx := C.1
  have hb := C.2.1
  have hown := C.2.2.2.2.1
  have hts := C.2.2.2.2.2.1
  have hN := C.2.2.2.2.2.2.2.2.2.2
  refine lv_aload_n (pc := 0) hx hb dX4_parse_0 rfl (lv_at hl 0 rfl) ?_
  refine lv_iconst (pc := 1) hx hb dX4_parse_1 ic_0 ?_
  refine x_put (pc := 2) (ci := 4) (T := TX4) (ws' := (w_X4_parse G a_t a_t_signs a_t_facts t_size t_clauses (0 : Int32) t_fault t_signs t_facts)) C S tyX4 tyX4_ok nmX4 0 rfl rfl inlX4 4 (by decide) rfl qf_4_22 rfl rfl rfl rfl (Nat.le_of_ble_eq_true rfl) rfl dX4_parse_2 (fun H locs S => ?_)
  refine lv_aload_n (pc := 5) hx hb dX4_parse_5 rfl (lv_at hl 0 rfl) ?_
  refine lv_bipush (pc := 6) hx hb dX4_parse_6 bc_m5 ?_
  refine x_put (pc := 8) (ci := 4) (T := TX4) (ws' := (w_X4_parse G a_t a_t_signs a_t_facts t_size t_clauses (0 : Int32) (-5 : Int32) t_signs t_facts)) C S tyX4 tyX4_ok nmX4 0 rfl rfl inlX4 5 (by decide) rfl qf_4_25 rfl rfl rfl rfl (Nat.le_of_ble_eq_true rfl) rfl dX4_parse_8 (fun H locs S => ?_)
  refine lv_aload_n (pc := 11) hx hb dX4_parse_11 rfl (lv_at hl 0 rfl) ?_
  refine lv_iconst (pc := 12) hx hb dX4_parse_12 ic_0 ?_
  refine x_put (pc := 13) (ci := 4) (T := TX4) (ws' := (w_X4_parse G a_t a_t_signs a_t_facts t_size (0 : Int32) (0 : Int32) (-5 : Int32) t_signs t_facts)) C S tyX4 tyX4_ok nmX4 0 rfl rfl inlX4 3 (by decide) rfl qf_4_28 rfl rfl rfl rfl (Nat.le_of_ble_eq_true rfl) rfl dX4_parse_13 (fun H locs S => ?_)
  refine lv_iconst (pc := 16) hx hb dX4_parse_16 ic_1 ?_
  refine lv_istore_n (pc := 17) (lv' := [(1, .int (1 : Int32)), (0, .ref a_t)]) hx hb dX4_parse_17 rfl hl (by decide) rfl (fun ls hl => ?_)
  exact h_X4_parse_18 C (t_size) (t_signs) fu ((1 : Int32)) (t_facts) ((0 : Int32)) ((0 : Int32)) ((-5 : Int32)) hf S (lv_sub hl [1, 0] rfl)
end

abbrev rm_X5_become : Room := { frames := 0, cells := 0, slots := 0, locals := 0 }
abbrev kw_X5_become : Cond := .code yX5_become cX5_become 5 none
abbrev w_X5_become (G : GE) (a_t a_t_sorts a_t_sizes a_t_items : Nat) (t_sorts : Nat → Int32) (t_sizes : Nat → Int32) (t_items : Nat → Int64) : va_W := [(a_t, ob 5 [.ref a_t_sorts, .ref a_t_sizes, .ref a_t_items]), (a_t_sorts, aI G 6 t_sorts), (a_t_sizes, aI G 6 t_sizes), (a_t_items, aJ G 360 t_items)]
section
variable {p : Program} {l : Launch} {e : Env} {s : State} {m : MethodId} {args : Array Value} {below : List Frame} {meth : Method} {c : Code} {A : Nat → Prop} {G : GE} {a_t a_t_sorts a_t_sizes a_t_items : Nat} {z_t_sorts : Nat → Int32} {z_t_sizes : Nat → Int32} {z_t_items : Nat → Int64}
set_option maxRecDepth 100000 in
set_option maxHeartbeats 4000000 in
theorem k_X5_become_38 (C : Cx p s m args meth c cX5_become none 5 RX5 G A) (t_sorts : Nat → Int32) (t_sizes : Nat → Int32) (t_items : Nat → Int64) (x1 : Int32) (x4 : Int32) (k38 : Int32 × (Nat → Int64) → Option ((Nat → Int32) × (Nat → Int32) × (Nat → Int64))) (hk38 : ∀ {H : Heap} {locs : List Loc} {ls : Array Slot} (x4' : Int32) (t_items' : Nat → Int64), k38 (x4', t_items') = some (z_t_sorts, z_t_sizes, z_t_items) → St G A s.heap H locs (w_X5_become G a_t a_t_sorts a_t_sizes a_t_items t_sorts t_sizes t_items') → lv_has ls 5 [(0, .ref a_t), (1, .int x1), (4, .int x4')] → W p l e rm_X5_become s m args below meth c H locs 0 0 (QV G below args s A (w_X5_become G a_t a_t_sorts a_t_sizes a_t_items z_t_sorts z_t_sizes z_t_items)) (F0 m 38 ls [])) {H : Heap} {locs : List Loc} {ls : Array Slot} (hf : b_X5_become_38 x1 t_sorts t_sizes k38 x4 t_items = some (z_t_sorts, z_t_sizes, z_t_items)) (S : St G A s.heap H locs (w_X5_become G a_t a_t_sorts a_t_sizes a_t_items t_sorts t_sizes t_items)) (hl : lv_has ls 5 [(0, .ref a_t), (1, .int x1), (4, .int x4)]) : W p l e rm_X5_become s m args below meth c H locs 0 0 (QV G below args s A (w_X5_become G a_t a_t_sorts a_t_sizes a_t_items z_t_sorts z_t_sizes z_t_items)) (F0 m 38 ls []) := by
  unfold b_X5_become_38 at hf
  have hx := C.1
  have hb := C.2.1
  have hown := C.2.2.2.2.1
  have hts := C.2.2.2.2.2.1
  have hN := C.2.2.2.2.2.2.2.2.2.2
  refine lv_iload (pc := 38) hx hb dX5_become_38 (lv_at hl 2 rfl) ?_
  refine lv_bipush (pc := 40) hx hb dX5_become_40 bc_60 ?_
  refine lv_icmp_ge (tgt := 64) (pc := 42) hx hb dX5_become_42 (by decide) (fun c1 => ?_) (fun c1 => ?_)
  · have hf := ifp c1 hf
    cases hf
    exact x_vret (pc := 64) C S dX5_become_64
  · have hf := ifn c1 hf
    refine lv_aload_n (pc := 45) hx hb dX5_become_45 rfl (lv_at hl 0 rfl) ?_
    refine x_get (pc := 46) (ci := 5) (T := TX5) (v := .ref a_t_items) C S 0 rfl rfl inlX5 2 (by decide) rfl qf_5_18 rfl dX5_become_46 ?_
    refine lv_iload_n (pc := 49) hx hb dX5_become_49 rfl (lv_at hl 1 rfl) ?_
    refine lv_bipush (pc := 50) hx hb dX5_become_50 bc_60 ?_
    refine lv_imul (pc := 52) hx hb dX5_become_52 ?_
    refine lv_iload (pc := 53) hx hb dX5_become_53 (lv_at hl 2 rfl) ?_
    refine lv_iadd (pc := 55) hx hb dX5_become_55 ?_
    refine lv_lconst (pc := 56) hx hb dX5_become_56 lc_0 ?_
    obtain ⟨hv2, hf⟩ := gI_e hf
    refine x_last (pc := 57) (ws' := (w_X5_become G a_t a_t_sorts a_t_sizes a_t_items t_sorts t_sizes (vp_updL t_items ((x1 * (60 : Int32)) + x4).toNatClampNeg (0 : Int64)))) C S 3 rfl hv2 rfl dX5_become_57 (fun H locs S => ?_)
    refine lv_iinc (pc := 58) (v := (x4 + (1 : Int32))) (lv' := [(4, .int (x4 + (1 : Int32))), (0, .ref a_t), (1, .int x1)]) hx hb dX5_become_58 hl (k := 2) rfl (congrArg (fun z => x4 + z) ic_1) (by decide) rfl (fun ls hl => ?_)
    refine lv_goto (tgt := 38) (pc := 61) hx hb dX5_become_61 (by decide) ?_
    exact hk38 ((x4 + (1 : Int32))) ((vp_updL t_items ((x1 * (60 : Int32)) + x4).toNatClampNeg (0 : Int64)))  hf S (lv_sub hl [1, 2, 0] rfl)
set_option maxRecDepth 100000 in
set_option maxHeartbeats 4000000 in
theorem h_X5_become_38 (C : Cx p s m args meth c cX5_become none 5 RX5 G A) (t_sorts : Nat → Int32) (t_sizes : Nat → Int32) (x1 : Int32) : ∀ (n : Nat) (x4 : Int32) (t_items : Nat → Int64) {H : Heap} {locs : List Loc} {ls : Array Slot} (hf : lp (fun k x => b_X5_become_38 x1 t_sorts t_sizes k x.1 x.2) n (x4, t_items) = some (z_t_sorts, z_t_sizes, z_t_items)) (S : St G A s.heap H locs (w_X5_become G a_t a_t_sorts a_t_sizes a_t_items t_sorts t_sizes t_items)) (hl : lv_has ls 5 [(0, .ref a_t), (1, .int x1), (4, .int x4)]), W p l e rm_X5_become s m args below meth c H locs 0 0 (QV G below args s A (w_X5_become G a_t a_t_sorts a_t_sizes a_t_items z_t_sorts z_t_sizes z_t_items)) (F0 m 38 ls []) := by
  intro n
  induction n with
  | zero =>
    intro x4 t_items  H locs ls hf
    cases hf
  | succ n ih =>
    intro x4 t_items  H locs ls hf S hl
    have hf : b_X5_become_38 x1 t_sorts t_sizes (lp (fun k x => b_X5_become_38 x1 t_sorts t_sizes k x.1 x.2) n) x4 t_items = some (z_t_sorts, z_t_sizes, z_t_items) := hf
    exact k_X5_become_38 C t_sorts t_sizes t_items x1 x4  (lp (fun k x => b_X5_become_38 x1 t_sorts t_sizes k x.1 x.2) n) (fun x4' t_items'  h S hl => ih x4' t_items'  h S hl) hf S hl
set_option maxRecDepth 100000 in
set_option maxHeartbeats 4000000 in
theorem c_X5_become (l : Launch) (G : GE) (a_t a_t_sorts a_t_sizes a_t_items : Nat) (t_sorts : Nat → Int32) (t_sizes : Nat → Int32) (t_items : Nat → Int64) (x1 : Int32) (x2 : Int32) (x3 : Int32) (z_t_sorts : Nat → Int32) (z_t_sizes : Nat → Int32) (z_t_items : Nat → Int64) (hf : f_X5_become t_sorts t_sizes t_items x1 x2 x3 = some (z_t_sorts, z_t_sizes, z_t_items)) : CV l G yX5_become kw_X5_become rm_X5_become [.ref a_t, .int x1, .int x2, .int x3] (w_X5_become G a_t a_t_sorts a_t_sizes a_t_items t_sorts t_sizes t_items) (w_X5_become G a_t a_t_sorts a_t_sizes a_t_items z_t_sorts z_t_sizes z_t_items) := by
  refine en_V (cc := cX5_become) (maxL := 5) (ret := none) (by decide +kernel) (Nat.le_of_ble_eq_true rfl) ?_
  intro p e s m args below meth c A ls C S hl
  have hl : lv_has ls 5 [(0, .ref a_t), (1, .int x1), (2, .int x2), (3, .int x3)] := hl
  have C : Cx p s m args meth c cX5_become none 5 RX5 G A := C
  unfold f_X5_become at hf
  have hx := C.1
  have hb := C.2.1
  have hown := C.2.2.2.2.1
  have hts := C.2.2.2.2.2.1
  have hN := C.2.2.2.2.2.2.2.2.2.2
  refine lv_iload_n (pc := 0) hx hb dX5_become_0 rfl (lv_at hl 1 rfl) ?_
  refine lv_if_lt (tgt := 20) (pc := 1) hx hb dX5_become_1 (by decide) (fun c1 => ?_) (fun c1 => ?_)
  · have hf := ifp c1 hf
    cases hf
    exact x_vret (pc := 20) C S dX5_become_20
  · have hf := ifn c1 hf
    refine lv_iload_n (pc := 4) hx hb dX5_become_4 rfl (lv_at hl 1 rfl) ?_
    refine lv_bipush (pc := 5) hx hb dX5_become_5 bc_6 ?_
    refine lv_icmp_ge (tgt := 20) (pc := 7) hx hb dX5_become_7 (by decide) (fun c2 => ?_) (fun c2 => ?_)
    · have hf := ifp c2 hf
      cases hf
      exact x_vret (pc := 20) C S dX5_become_20
    · have hf := ifn c2 hf
      refine lv_iload_n (pc := 10) hx hb dX5_become_10 rfl (lv_at hl 3 rfl) ?_
      refine lv_if_lt (tgt := 20) (pc := 11) hx hb dX5_become_11 (by decide) (fun c3 => ?_) (fun c3 => ?_)
      · have hf := ifp c3 hf
        cases hf
        exact x_vret (pc := 20) C S dX5_become_20
      · have hf := ifn c3 hf
        refine lv_iload_n (pc := 14) hx hb dX5_become_14 rfl (lv_at hl 3 rfl) ?_
        refine lv_bipush (pc := 15) hx hb dX5_become_15 bc_60 ?_
        refine lv_icmp_le (tgt := 21) (pc := 17) hx hb dX5_become_17 (by decide) (fun c4 => ?_) (fun c4 => ?_)
        · have hf := ifp c4 hf
          refine lv_aload_n (pc := 21) hx hb dX5_become_21 rfl (lv_at hl 0 rfl) ?_
          refine x_get (pc := 22) (ci := 5) (T := TX5) (v := .ref a_t_sorts) C S 0 rfl rfl inlX5 0 (by decide) rfl qf_5_9 rfl dX5_become_22 ?_
          refine lv_iload_n (pc := 25) hx hb dX5_become_25 rfl (lv_at hl 1 rfl) ?_
          refine lv_iload_n (pc := 26) hx hb dX5_become_26 rfl (lv_at hl 2 rfl) ?_
          obtain ⟨hv5, hf⟩ := gI_e hf
          refine x_iast (pc := 27) (ws' := (w_X5_become G a_t a_t_sorts a_t_sizes a_t_items (upd t_sorts x1.toNatClampNeg x2) t_sizes t_items)) C S 1 rfl hv5 rfl dX5_become_27 (fun H locs S => ?_)
          refine lv_aload_n (pc := 28) hx hb dX5_become_28 rfl (lv_at hl 0 rfl) ?_
          refine x_get (pc := 29) (ci := 5) (T := TX5) (v := .ref a_t_sizes) C S 0 rfl rfl inlX5 1 (by decide) rfl qf_5_15 rfl dX5_become_29 ?_
          refine lv_iload_n (pc := 32) hx hb dX5_become_32 rfl (lv_at hl 1 rfl) ?_
          refine lv_iload_n (pc := 33) hx hb dX5_become_33 rfl (lv_at hl 3 rfl) ?_
          refine x_iast (pc := 34) (ws' := (w_X5_become G a_t a_t_sorts a_t_sizes a_t_items (upd t_sorts x1.toNatClampNeg x2) (upd t_sizes x1.toNatClampNeg x3) t_items)) C S 2 rfl hv5 rfl dX5_become_34 (fun H locs S => ?_)
          refine lv_iconst (pc := 35) hx hb dX5_become_35 ic_0 ?_
          refine lv_istore (pc := 36) (lv' := [(4, .int (0 : Int32)), (0, .ref a_t), (1, .int x1), (2, .int x2), (3, .int x3)]) hx hb dX5_become_36 hl (by decide) rfl (fun ls hl => ?_)
          exact h_X5_become_38 C ((upd t_sorts x1.toNatClampNeg x2)) ((upd t_sizes x1.toNatClampNeg x3)) (x1) fu ((0 : Int32)) (t_items) hf S (lv_sub hl [1, 2, 0] rfl)
        · have hf := ifn c4 hf
          cases hf
          exact x_vret (pc := 20) C S dX5_become_20
end

abbrev rm_X5_hasPart : Room := { frames := 0, cells := 0, slots := 0, locals := 0 }
abbrev kw_X5_hasPart : Cond := .code yX5_hasPart cX5_hasPart 4 (some .boolean)
abbrev w_X5_hasPart (G : GE) (a_t a_t_sorts a_t_sizes a_t_items : Nat) (t_sizes : Nat → Int32) : va_W := [(a_t, ob 5 [.ref a_t_sorts, .ref a_t_sizes, .ref a_t_items]), (a_t_sizes, aI G 6 t_sizes)]
section
variable {p : Program} {l : Launch} {e : Env} {s : State} {m : MethodId} {args : Array Value} {below : List Frame} {meth : Method} {c : Code} {A : Nat → Prop} {G : GE} {a_t a_t_sorts a_t_sizes a_t_items : Nat} {r : Int32}
set_option maxRecDepth 100000 in
set_option maxHeartbeats 4000000 in
theorem c_X5_hasPart (l : Launch) (G : GE) (a_t a_t_sorts a_t_sizes a_t_items : Nat) (t_sizes : Nat → Int32) (x1 : Int32) (x2 : Int32) (x3 : Int32) (r : Int32) (hf : f_X5_hasPart t_sizes x1 x2 x3 = some r) : CI l G yX5_hasPart kw_X5_hasPart rm_X5_hasPart [.ref a_t, .int x1, .int x2, .int x3] (w_X5_hasPart G a_t a_t_sorts a_t_sizes a_t_items t_sizes) r (w_X5_hasPart G a_t a_t_sorts a_t_sizes a_t_items t_sizes) := by
  refine en_I (cc := cX5_hasPart) (maxL := 4) (ret := (some .boolean)) (by decide +kernel) (Nat.le_of_ble_eq_true rfl) ?_
  intro p e s m args below meth c A ls C S hl
  have hl : lv_has ls 4 [(0, .ref a_t), (1, .int x1), (2, .int x2), (3, .int x3)] := hl
  have C : Cx p s m args meth c cX5_hasPart (some .boolean) 4 RX5 G A := C
  unfold f_X5_hasPart at hf
  have hx := C.1
  have hb := C.2.1
  have hown := C.2.2.2.2.1
  have hts := C.2.2.2.2.2.1
  have hN := C.2.2.2.2.2.2.2.2.2.2
  refine lv_iload_n (pc := 0) hx hb dX5_hasPart_0 rfl (lv_at hl 1 rfl) ?_
  refine lv_if_lt (tgt := 44) (pc := 1) hx hb dX5_hasPart_1 (by decide) (fun c1 => ?_) (fun c1 => ?_)
  · have hf := ifp c1 hf
    refine lv_iconst (pc := 44) hx hb dX5_hasPart_44 ic_0 ?_
    cases hf
    exact x_zret (pc := 45) (by decide) C S dX5_hasPart_45
  · have hf := ifn c1 hf
    refine lv_iload_n (pc := 4) hx hb dX5_hasPart_4 rfl (lv_at hl 1 rfl) ?_
    refine lv_bipush (pc := 5) hx hb dX5_hasPart_5 bc_6 ?_
    refine lv_icmp_ge (tgt := 44) (pc := 7) hx hb dX5_hasPart_7 (by decide) (fun c2 => ?_) (fun c2 => ?_)
    · have hf := ifp c2 hf
      refine lv_iconst (pc := 44) hx hb dX5_hasPart_44 ic_0 ?_
      cases hf
      exact x_zret (pc := 45) (by decide) C S dX5_hasPart_45
    · have hf := ifn c2 hf
      refine lv_iload_n (pc := 10) hx hb dX5_hasPart_10 rfl (lv_at hl 2 rfl) ?_
      refine lv_if_lt (tgt := 44) (pc := 11) hx hb dX5_hasPart_11 (by decide) (fun c3 => ?_) (fun c3 => ?_)
      · have hf := ifp c3 hf
        refine lv_iconst (pc := 44) hx hb dX5_hasPart_44 ic_0 ?_
        cases hf
        exact x_zret (pc := 45) (by decide) C S dX5_hasPart_45
      · have hf := ifn c3 hf
        refine lv_iload_n (pc := 14) hx hb dX5_hasPart_14 rfl (lv_at hl 3 rfl) ?_
        refine lv_if_lt (tgt := 44) (pc := 15) hx hb dX5_hasPart_15 (by decide) (fun c4 => ?_) (fun c4 => ?_)
        · have hf := ifp c4 hf
          refine lv_iconst (pc := 44) hx hb dX5_hasPart_44 ic_0 ?_
          cases hf
          exact x_zret (pc := 45) (by decide) C S dX5_hasPart_45
        · have hf := ifn c4 hf
          refine lv_iload_n (pc := 18) hx hb dX5_hasPart_18 rfl (lv_at hl 3 rfl) ?_
          refine lv_aload_n (pc := 19) hx hb dX5_hasPart_19 rfl (lv_at hl 0 rfl) ?_
          refine x_get (pc := 20) (ci := 5) (T := TX5) (v := .ref a_t_sizes) C S 0 rfl rfl inlX5 1 (by decide) rfl qf_5_15 rfl dX5_hasPart_20 ?_
          refine lv_iload_n (pc := 23) hx hb dX5_hasPart_23 rfl (lv_at hl 1 rfl) ?_
          obtain ⟨hv5, hf⟩ := gI_e hf
          refine x_iald (pc := 24) C S 1 rfl hv5 dX5_hasPart_24 ?_
          refine lv_icmp_gt (tgt := 44) (pc := 25) hx hb dX5_hasPart_25 (by decide) (fun c6 => ?_) (fun c6 => ?_)
          · have hf := ifp c6 hf
            refine lv_iconst (pc := 44) hx hb dX5_hasPart_44 ic_0 ?_
            cases hf
            exact x_zret (pc := 45) (by decide) C S dX5_hasPart_45
          · have hf := ifn c6 hf
            refine lv_iload_n (pc := 28) hx hb dX5_hasPart_28 rfl (lv_at hl 2 rfl) ?_
            refine lv_aload_n (pc := 29) hx hb dX5_hasPart_29 rfl (lv_at hl 0 rfl) ?_
            refine x_get (pc := 30) (ci := 5) (T := TX5) (v := .ref a_t_sizes) C S 0 rfl rfl inlX5 1 (by decide) rfl qf_5_15 rfl dX5_hasPart_30 ?_
            refine lv_iload_n (pc := 33) hx hb dX5_hasPart_33 rfl (lv_at hl 1 rfl) ?_
            refine x_iald (pc := 34) C S 1 rfl hv5 dX5_hasPart_34 ?_
            refine lv_iload_n (pc := 35) hx hb dX5_hasPart_35 rfl (lv_at hl 3 rfl) ?_
            refine lv_isub (pc := 36) hx hb dX5_hasPart_36 ?_
            refine lv_icmp_gt (tgt := 44) (pc := 37) hx hb dX5_hasPart_37 (by decide) (fun c7 => ?_) (fun c7 => ?_)
            · have hf := ifp c7 hf
              refine lv_iconst (pc := 44) hx hb dX5_hasPart_44 ic_0 ?_
              cases hf
              exact x_zret (pc := 45) (by decide) C S dX5_hasPart_45
            · have hf := ifn c7 hf
              refine lv_iconst (pc := 40) hx hb dX5_hasPart_40 ic_1 ?_
              refine lv_goto (tgt := 45) (pc := 41) hx hb dX5_hasPart_41 (by decide) ?_
              cases hf
              exact x_zret (pc := 45) (by decide) C S dX5_hasPart_45
end

abbrev rm_X5_copyPart : Room := { frames := 1, cells := 0, slots := 0, locals := 64 }
abbrev kw_X5_copyPart : Cond := .code yX5_copyPart cX5_copyPart 6 none
abbrev w_X5_copyPart (G : GE) (a_t a_t_sorts a_t_sizes a_t_items : Nat) (t_sizes : Nat → Int32) (t_items : Nat → Int64) : va_W := [(a_t, ob 5 [.ref a_t_sorts, .ref a_t_sizes, .ref a_t_items]), (a_t_sizes, aI G 6 t_sizes), (a_t_items, aJ G 360 t_items)]
theorem u_X5_copyPart_X5_hasPart_34 {s : State} {args : Array Value} (hts : ∀ w ∈ WU, w.before args s = true) : CallW rm_X5_copyPart s args RX5 RX5 34 yX5_hasPart cX5_hasPart 4 (some .boolean) (kw_X5_hasPart :: WU) rm_X5_hasPart 0 0 3 := cwV 3 hts (gV qm_5_34 qi_X5_hasPart ql_X5_hasPart qn_5 qc_X5_hasPart) rfl rfl rfl (by decide +kernel) ⟨Nat.le_of_ble_eq_true rfl, Nat.le_of_ble_eq_true rfl⟩
section
variable {p : Program} {l : Launch} {e : Env} {s : State} {m : MethodId} {args : Array Value} {below : List Frame} {meth : Method} {c : Code} {A : Nat → Prop} {G : GE} {a_t a_t_sorts a_t_sizes a_t_items : Nat} {z_t_items : Nat → Int64}
set_option maxRecDepth 100000 in
set_option maxHeartbeats 4000000 in
theorem c_X5_copyPart (l : Launch) (G : GE) (a_t a_t_sorts a_t_sizes a_t_items : Nat) (t_sizes : Nat → Int32) (t_items : Nat → Int64) (x1 : Int32) (x2 : Int32) (x3 : Int32) (x4 : Int32) (x5 : Int32) (z_t_items : Nat → Int64) (hf : f_X5_copyPart t_sizes t_items x1 x2 x3 x4 x5 = some z_t_items) : CV l G yX5_copyPart kw_X5_copyPart rm_X5_copyPart [.ref a_t, .int x1, .int x2, .int x3, .int x4, .int x5] (w_X5_copyPart G a_t a_t_sorts a_t_sizes a_t_items t_sizes t_items) (w_X5_copyPart G a_t a_t_sorts a_t_sizes a_t_items t_sizes z_t_items) := by
  refine en_V (cc := cX5_copyPart) (maxL := 6) (ret := none) (by decide +kernel) (Nat.le_of_ble_eq_true rfl) ?_
  intro p e s m args below meth c A ls C S hl
  have hl : lv_has ls 6 [(0, .ref a_t), (1, .int x1), (2, .int x2), (3, .int x3), (4, .int x4), (5, .int x5)] := hl
  have C : Cx p s m args meth c cX5_copyPart none 6 RX5 G A := C
  unfold f_X5_copyPart at hf
  have hx := C.1
  have hb := C.2.1
  have hown := C.2.2.2.2.1
  have hts := C.2.2.2.2.2.1
  have hN := C.2.2.2.2.2.2.2.2.2.2
  refine lv_aload_n (pc := 0) hx hb dX5_copyPart_0 rfl (lv_at hl 0 rfl) ?_
  refine lv_iload_n (pc := 1) hx hb dX5_copyPart_1 rfl (lv_at hl 1 rfl) ?_
  refine lv_iload_n (pc := 2) hx hb dX5_copyPart_2 rfl (lv_at hl 2 rfl) ?_
  refine lv_iload (pc := 3) hx hb dX5_copyPart_3 (lv_at hl 5 rfl) ?_
  obtain ⟨r1, hq1, hf⟩ := bd_e hf
  refine x_vI (pc := 5) (As := [.int x1, .int x2, .int x5]) (rest := []) (isC := [0, 1]) (ws' := (w_X5_copyPart G a_t a_t_sorts a_t_sizes a_t_items t_sizes t_items)) C S (c_X5_hasPart l G a_t a_t_sorts a_t_sizes a_t_items t_sizes x1 x2 x5 r1 hq1) (u_X5_copyPart_X5_hasPart_34 hts) (ci := 5) rfl 0 rfl rfl (by decide +kernel) [some 0, some 1, none] (by decide +kernel) rfl rfl rfl hl.1 rfl (Nat.le_of_ble_eq_true rfl) dX5_copyPart_5 (fun H locs S => ?_)
  refine lv_if_eq (tgt := 49) (pc := 8) hx hb dX5_copyPart_8 (by decide) (fun c2 => ?_) (fun c2 => ?_)
  · have hf := ifp c2 hf
    cases hf
    exact x_vret (pc := 49) C S dX5_copyPart_49
  · have hf := ifn c2 hf
    refine lv_aload_n (pc := 11) hx hb dX5_copyPart_11 rfl (lv_at hl 0 rfl) ?_
    refine lv_iload_n (pc := 12) hx hb dX5_copyPart_12 rfl (lv_at hl 3 rfl) ?_
    refine lv_iload (pc := 13) hx hb dX5_copyPart_13 (lv_at hl 4 rfl) ?_
    refine lv_iload (pc := 15) hx hb dX5_copyPart_15 (lv_at hl 5 rfl) ?_
    obtain ⟨r3, hq3, hf⟩ := bd_e hf
    refine x_vI (pc := 17) (As := [.int x3, .int x4, .int x5]) (rest := []) (isC := [0, 1]) (ws' := (w_X5_copyPart G a_t a_t_sorts a_t_sizes a_t_items t_sizes t_items)) C S (c_X5_hasPart l G a_t a_t_sorts a_t_sizes a_t_items t_sizes x3 x4 x5 r3 hq3) (u_X5_copyPart_X5_hasPart_34 hts) (ci := 5) rfl 0 rfl rfl (by decide +kernel) [some 0, some 1, none] (by decide +kernel) rfl rfl rfl hl.1 rfl (Nat.le_of_ble_eq_true rfl) dX5_copyPart_17 (fun H locs S => ?_)
    refine lv_if_eq (tgt := 49) (pc := 20) hx hb dX5_copyPart_20 (by decide) (fun c4 => ?_) (fun c4 => ?_)
    · have hf := ifp c4 hf
      cases hf
      exact x_vret (pc := 49) C S dX5_copyPart_49
    · have hf := ifn c4 hf
      refine lv_aload_n (pc := 23) hx hb dX5_copyPart_23 rfl (lv_at hl 0 rfl) ?_
      refine x_get (pc := 24) (ci := 5) (T := TX5) (v := .ref a_t_items) C S 0 rfl rfl inlX5 2 (by decide) rfl qf_5_18 rfl dX5_copyPart_24 ?_
      refine lv_iload_n (pc := 27) hx hb dX5_copyPart_27 rfl (lv_at hl 1 rfl) ?_
      refine lv_bipush (pc := 28) hx hb dX5_copyPart_28 bc_60 ?_
      refine lv_imul (pc := 30) hx hb dX5_copyPart_30 ?_
      refine lv_iload_n (pc := 31) hx hb dX5_copyPart_31 rfl (lv_at hl 2 rfl) ?_
      refine lv_iadd (pc := 32) hx hb dX5_copyPart_32 ?_
      refine lv_aload_n (pc := 33) hx hb dX5_copyPart_33 rfl (lv_at hl 0 rfl) ?_
      refine x_get (pc := 34) (ci := 5) (T := TX5) (v := .ref a_t_items) C S 0 rfl rfl inlX5 2 (by decide) rfl qf_5_18 rfl dX5_copyPart_34 ?_
      refine lv_iload_n (pc := 37) hx hb dX5_copyPart_37 rfl (lv_at hl 3 rfl) ?_
      refine lv_bipush (pc := 38) hx hb dX5_copyPart_38 bc_60 ?_
      refine lv_imul (pc := 40) hx hb dX5_copyPart_40 ?_
      refine lv_iload (pc := 41) hx hb dX5_copyPart_41 (lv_at hl 4 rfl) ?_
      refine lv_iadd (pc := 43) hx hb dX5_copyPart_43 ?_
      refine lv_iload (pc := 44) hx hb dX5_copyPart_44 (lv_at hl 5 rfl) ?_
      obtain ⟨hz5, hf⟩ := gd_e hf
      refine x_cpyl (pc := 46) (ws' := (w_X5_copyPart G a_t a_t_sorts a_t_sizes a_t_items t_sizes (va_cpy t_items t_items ((x1 * (60 : Int32)) + x2).toNatClampNeg ((x3 * (60 : Int32)) + x4).toNatClampNeg x5.toNatClampNeg))) C S hl.1 qm_5_38 qv_copy qs_copy qn_System 2 rfl hz5 (Nat.le_of_ble_eq_true rfl) (by decide +kernel) rfl dX5_copyPart_46 (fun H locs S => ?_)
      cases hf
      exact x_vret (pc := 49) C S dX5_copyPart_49
end

abbrev rm_X5_cutTo : Room := { frames := 0, cells := 0, slots := 0, locals := 0 }
abbrev kw_X5_cutTo : Cond := .code yX5_cutTo cX5_cutTo 3 (some .long)
abbrev w_X5_cutTo (G : GE) : va_W := []
section
variable {p : Program} {l : Launch} {e : Env} {s : State} {m : MethodId} {args : Array Value} {below : List Frame} {meth : Method} {c : Code} {A : Nat → Prop} {G : GE} {r : Int64}
set_option maxRecDepth 100000 in
set_option maxHeartbeats 4000000 in
theorem c_X5_cutTo (l : Launch) (G : GE) (x0 : Int32) (x1 : Int64) (r : Int64) (hf : f_X5_cutTo x0 x1 = some r) : CL l G yX5_cutTo kw_X5_cutTo rm_X5_cutTo [.int x0, .long x1] (w_X5_cutTo G ) r (w_X5_cutTo G ) := by
  refine en_L (cc := cX5_cutTo) (maxL := 3) (ret := (some .long)) (by decide +kernel) (Nat.le_of_ble_eq_true rfl) ?_
  intro p e s m args below meth c A ls C S hl
  have hl : lv_has ls 3 [(0, .int x0), (1, .long x1)] := hl
  have C : Cx p s m args meth c cX5_cutTo (some .long) 3 RX5 G A := C
  unfold f_X5_cutTo at hf
  have hx := C.1
  have hb := C.2.1
  have hown := C.2.2.2.2.1
  have hts := C.2.2.2.2.2.1
  have hN := C.2.2.2.2.2.2.2.2.2.2
  refine lv_iload_n (pc := 0) hx hb dX5_cutTo_0 rfl (lv_at hl 0 rfl) ?_
  by_cases s1_0 : x0 = (0 : Int32)
  · have hf := ifp s1_0 hf
    refine lv_tableIn (tgt := 32) (off := 31) (x := x0) (pc := 1) hx hb dX5_cutTo_1 (by rw [s1_0]; decide) (by rw [s1_0]; decide) (by rw [s1_0]; decide) (by decide) ?_
    refine lv_lload_n (pc := 32) hx hb dX5_cutTo_32 rfl (lv_at hl 1 rfl) ?_
    refine lv_l2i (pc := 33) hx hb dX5_cutTo_33 rfl ?_
    refine lv_i2b (pc := 34) hx hb dX5_cutTo_34 rfl ?_
    refine lv_i2l (pc := 35) hx hb dX5_cutTo_35 rfl ?_
    cases hf
    exact x_lret (pc := 36) C S dX5_cutTo_36
  have hf := ifn s1_0 hf
  by_cases s1_1 : x0 = (1 : Int32)
  · have hf := ifp s1_1 hf
    refine lv_tableIn (tgt := 37) (off := 36) (x := x0) (pc := 1) hx hb dX5_cutTo_1 (by rw [s1_1]; decide) (by rw [s1_1]; decide) (by rw [s1_1]; decide) (by decide) ?_
    refine lv_lload_n (pc := 37) hx hb dX5_cutTo_37 rfl (lv_at hl 1 rfl) ?_
    refine lv_l2i (pc := 38) hx hb dX5_cutTo_38 rfl ?_
    refine lv_i2s (pc := 39) hx hb dX5_cutTo_39 rfl ?_
    refine lv_i2l (pc := 40) hx hb dX5_cutTo_40 rfl ?_
    cases hf
    exact x_lret (pc := 41) C S dX5_cutTo_41
  have hf := ifn s1_1 hf
  by_cases s1_2 : x0 = (2 : Int32)
  · have hf := ifp s1_2 hf
    refine lv_tableIn (tgt := 42) (off := 41) (x := x0) (pc := 1) hx hb dX5_cutTo_1 (by rw [s1_2]; decide) (by rw [s1_2]; decide) (by rw [s1_2]; decide) (by decide) ?_
    refine lv_lload_n (pc := 42) hx hb dX5_cutTo_42 rfl (lv_at hl 1 rfl) ?_
    refine lv_l2i (pc := 43) hx hb dX5_cutTo_43 rfl ?_
    refine lv_i2l (pc := 44) hx hb dX5_cutTo_44 rfl ?_
    cases hf
    exact x_lret (pc := 45) C S dX5_cutTo_45
  have hf := ifn s1_2 hf
  by_cases s1_3 : x0 = (3 : Int32)
  · have hf := ifp s1_3 hf
    refine lv_tableIn (tgt := 46) (off := 45) (x := x0) (pc := 1) hx hb dX5_cutTo_1 (by rw [s1_3]; decide) (by rw [s1_3]; decide) (by rw [s1_3]; decide) (by decide) ?_
    refine lv_lload_n (pc := 46) hx hb dX5_cutTo_46 rfl (lv_at hl 1 rfl) ?_
    cases hf
    exact x_lret (pc := 47) C S dX5_cutTo_47
  have hf := ifn s1_3 hf
  have z1_0 := lv_neT (a := 0) s1_0 (by decide)
  have z1_1 := lv_neT (a := 1) s1_1 (by decide)
  have z1_2 := lv_neT (a := 2) s1_2 (by decide)
  have z1_3 := lv_neT (a := 3) s1_3 (by decide)
  refine lv_tableOut (tgt := 48) (x := x0) (pc := 1) hx hb dX5_cutTo_1 (by omega) (by decide) ?_
  refine lv_lload_n (pc := 48) hx hb dX5_cutTo_48 rfl (lv_at hl 1 rfl) ?_
  refine lv_lconst (pc := 49) hx hb dX5_cutTo_49 lc_0 ?_
  refine W.lcmp (pc := 50) hx hb dX5_cutTo_50 ?_
  refine lv_if_eq (tgt := 58) (pc := 51) hx hb dX5_cutTo_51 (by decide) (fun c2 => ?_) (fun c2 => ?_)
  · have hf := ifp c2 hf
    refine lv_lconst (pc := 58) hx hb dX5_cutTo_58 lc_0 ?_
    cases hf
    exact x_lret (pc := 59) C S dX5_cutTo_59
  · have hf := ifn c2 hf
    refine lv_lconst (pc := 54) hx hb dX5_cutTo_54 lc_1 ?_
    refine lv_goto (tgt := 59) (pc := 55) hx hb dX5_cutTo_55 (by decide) ?_
    cases hf
    exact x_lret (pc := 59) C S dX5_cutTo_59
end

abbrev rm_X5_hasItem : Room := { frames := 0, cells := 0, slots := 0, locals := 0 }
abbrev kw_X5_hasItem : Cond := .code yX5_hasItem cX5_hasItem 3 (some .boolean)
abbrev w_X5_hasItem (G : GE) (a_t a_t_sorts a_t_sizes a_t_items : Nat) (t_sizes : Nat → Int32) : va_W := [(a_t, ob 5 [.ref a_t_sorts, .ref a_t_sizes, .ref a_t_items]), (a_t_sizes, aI G 6 t_sizes)]
section
variable {p : Program} {l : Launch} {e : Env} {s : State} {m : MethodId} {args : Array Value} {below : List Frame} {meth : Method} {c : Code} {A : Nat → Prop} {G : GE} {a_t a_t_sorts a_t_sizes a_t_items : Nat} {r : Int32}
set_option maxRecDepth 100000 in
set_option maxHeartbeats 4000000 in
theorem c_X5_hasItem (l : Launch) (G : GE) (a_t a_t_sorts a_t_sizes a_t_items : Nat) (t_sizes : Nat → Int32) (x1 : Int32) (x2 : Int32) (r : Int32) (hf : f_X5_hasItem t_sizes x1 x2 = some r) : CI l G yX5_hasItem kw_X5_hasItem rm_X5_hasItem [.ref a_t, .int x1, .int x2] (w_X5_hasItem G a_t a_t_sorts a_t_sizes a_t_items t_sizes) r (w_X5_hasItem G a_t a_t_sorts a_t_sizes a_t_items t_sizes) := by
  refine en_I (cc := cX5_hasItem) (maxL := 3) (ret := (some .boolean)) (by decide +kernel) (Nat.le_of_ble_eq_true rfl) ?_
  intro p e s m args below meth c A ls C S hl
  have hl : lv_has ls 3 [(0, .ref a_t), (1, .int x1), (2, .int x2)] := hl
  have C : Cx p s m args meth c cX5_hasItem (some .boolean) 3 RX5 G A := C
  unfold f_X5_hasItem at hf
  have hx := C.1
  have hb := C.2.1
  have hown := C.2.2.2.2.1
  have hts := C.2.2.2.2.2.1
  have hN := C.2.2.2.2.2.2.2.2.2.2
  refine lv_iload_n (pc := 0) hx hb dX5_hasItem_0 rfl (lv_at hl 1 rfl) ?_
  refine lv_if_lt (tgt := 28) (pc := 1) hx hb dX5_hasItem_1 (by decide) (fun c1 => ?_) (fun c1 => ?_)
  · have hf := ifp c1 hf
    refine lv_iconst (pc := 28) hx hb dX5_hasItem_28 ic_0 ?_
    cases hf
    exact x_zret (pc := 29) (by decide) C S dX5_hasItem_29
  · have hf := ifn c1 hf
    refine lv_iload_n (pc := 4) hx hb dX5_hasItem_4 rfl (lv_at hl 1 rfl) ?_
    refine lv_bipush (pc := 5) hx hb dX5_hasItem_5 bc_6 ?_
    refine lv_icmp_ge (tgt := 28) (pc := 7) hx hb dX5_hasItem_7 (by decide) (fun c2 => ?_) (fun c2 => ?_)
    · have hf := ifp c2 hf
      refine lv_iconst (pc := 28) hx hb dX5_hasItem_28 ic_0 ?_
      cases hf
      exact x_zret (pc := 29) (by decide) C S dX5_hasItem_29
    · have hf := ifn c2 hf
      refine lv_iload_n (pc := 10) hx hb dX5_hasItem_10 rfl (lv_at hl 2 rfl) ?_
      refine lv_if_lt (tgt := 28) (pc := 11) hx hb dX5_hasItem_11 (by decide) (fun c3 => ?_) (fun c3 => ?_)
      · have hf := ifp c3 hf
        refine lv_iconst (pc := 28) hx hb dX5_hasItem_28 ic_0 ?_
        cases hf
        exact x_zret (pc := 29) (by decide) C S dX5_hasItem_29
      · have hf := ifn c3 hf
        refine lv_iload_n (pc := 14) hx hb dX5_hasItem_14 rfl (lv_at hl 2 rfl) ?_
        refine lv_aload_n (pc := 15) hx hb dX5_hasItem_15 rfl (lv_at hl 0 rfl) ?_
        refine x_get (pc := 16) (ci := 5) (T := TX5) (v := .ref a_t_sizes) C S 0 rfl rfl inlX5 1 (by decide) rfl qf_5_15 rfl dX5_hasItem_16 ?_
        refine lv_iload_n (pc := 19) hx hb dX5_hasItem_19 rfl (lv_at hl 1 rfl) ?_
        obtain ⟨hv4, hf⟩ := gI_e hf
        refine x_iald (pc := 20) C S 1 rfl hv4 dX5_hasItem_20 ?_
        refine lv_icmp_ge (tgt := 28) (pc := 21) hx hb dX5_hasItem_21 (by decide) (fun c5 => ?_) (fun c5 => ?_)
        · have hf := ifp c5 hf
          refine lv_iconst (pc := 28) hx hb dX5_hasItem_28 ic_0 ?_
          cases hf
          exact x_zret (pc := 29) (by decide) C S dX5_hasItem_29
        · have hf := ifn c5 hf
          refine lv_iconst (pc := 24) hx hb dX5_hasItem_24 ic_1 ?_
          refine lv_goto (tgt := 29) (pc := 25) hx hb dX5_hasItem_25 (by decide) ?_
          cases hf
          exact x_zret (pc := 29) (by decide) C S dX5_hasItem_29
end

abbrev rm_X5_isTape : Room := { frames := 0, cells := 0, slots := 0, locals := 0 }
abbrev kw_X5_isTape : Cond := .code yX5_isTape cX5_isTape 2 (some .boolean)
abbrev w_X5_isTape (G : GE) (a_t a_t_sorts a_t_sizes a_t_items : Nat) : va_W := [(a_t, ob 5 [.ref a_t_sorts, .ref a_t_sizes, .ref a_t_items])]
section
variable {p : Program} {l : Launch} {e : Env} {s : State} {m : MethodId} {args : Array Value} {below : List Frame} {meth : Method} {c : Code} {A : Nat → Prop} {G : GE} {a_t a_t_sorts a_t_sizes a_t_items : Nat} {r : Int32}
set_option maxRecDepth 100000 in
set_option maxHeartbeats 4000000 in
theorem c_X5_isTape (l : Launch) (G : GE) (a_t a_t_sorts a_t_sizes a_t_items : Nat) (x1 : Int32) (r : Int32) (hf : f_X5_isTape x1 = some r) : CI l G yX5_isTape kw_X5_isTape rm_X5_isTape [.ref a_t, .int x1] (w_X5_isTape G a_t a_t_sorts a_t_sizes a_t_items) r (w_X5_isTape G a_t a_t_sorts a_t_sizes a_t_items) := by
  refine en_I (cc := cX5_isTape) (maxL := 2) (ret := (some .boolean)) (by decide +kernel) (Nat.le_of_ble_eq_true rfl) ?_
  intro p e s m args below meth c A ls C S hl
  have hl : lv_has ls 2 [(0, .ref a_t), (1, .int x1)] := hl
  have C : Cx p s m args meth c cX5_isTape (some .boolean) 2 RX5 G A := C
  unfold f_X5_isTape at hf
  have hx := C.1
  have hb := C.2.1
  have hown := C.2.2.2.2.1
  have hts := C.2.2.2.2.2.1
  have hN := C.2.2.2.2.2.2.2.2.2.2
  refine lv_iload_n (pc := 0) hx hb dX5_isTape_0 rfl (lv_at hl 1 rfl) ?_
  refine lv_if_lt (tgt := 14) (pc := 1) hx hb dX5_isTape_1 (by decide) (fun c1 => ?_) (fun c1 => ?_)
  · have hf := ifp c1 hf
    refine lv_iconst (pc := 14) hx hb dX5_isTape_14 ic_0 ?_
    cases hf
    exact x_zret (pc := 15) (by decide) C S dX5_isTape_15
  · have hf := ifn c1 hf
    refine lv_iload_n (pc := 4) hx hb dX5_isTape_4 rfl (lv_at hl 1 rfl) ?_
    refine lv_bipush (pc := 5) hx hb dX5_isTape_5 bc_6 ?_
    refine lv_icmp_ge (tgt := 14) (pc := 7) hx hb dX5_isTape_7 (by decide) (fun c2 => ?_) (fun c2 => ?_)
    · have hf := ifp c2 hf
      refine lv_iconst (pc := 14) hx hb dX5_isTape_14 ic_0 ?_
      cases hf
      exact x_zret (pc := 15) (by decide) C S dX5_isTape_15
    · have hf := ifn c2 hf
      refine lv_iconst (pc := 10) hx hb dX5_isTape_10 ic_1 ?_
      refine lv_goto (tgt := 15) (pc := 11) hx hb dX5_isTape_11 (by decide) ?_
      cases hf
      exact x_zret (pc := 15) (by decide) C S dX5_isTape_15
end

abbrev rm_X5_itemAt : Room := { frames := 1, cells := 0, slots := 0, locals := 22 }
abbrev kw_X5_itemAt : Cond := .code yX5_itemAt cX5_itemAt 4 (some .long)
abbrev w_X5_itemAt (G : GE) (a_t a_t_sorts a_t_sizes a_t_items : Nat) (t_sizes : Nat → Int32) (t_items : Nat → Int64) : va_W := [(a_t, ob 5 [.ref a_t_sorts, .ref a_t_sizes, .ref a_t_items]), (a_t_sizes, aI G 6 t_sizes), (a_t_items, aJ G 360 t_items)]
theorem u_X5_itemAt_X5_hasItem_22 {s : State} {args : Array Value} (hts : ∀ w ∈ WU, w.before args s = true) : CallW rm_X5_itemAt s args RX5 RX5 22 yX5_hasItem cX5_hasItem 3 (some .boolean) (kw_X5_hasItem :: WU) rm_X5_hasItem 0 0 2 := cwV 2 hts (gV qm_5_22 qi_X5_hasItem ql_X5_hasItem qn_5 qc_X5_hasItem) rfl rfl rfl (by decide +kernel) ⟨Nat.le_of_ble_eq_true rfl, Nat.le_of_ble_eq_true rfl⟩
section
variable {p : Program} {l : Launch} {e : Env} {s : State} {m : MethodId} {args : Array Value} {below : List Frame} {meth : Method} {c : Code} {A : Nat → Prop} {G : GE} {a_t a_t_sorts a_t_sizes a_t_items : Nat} {r : Int64}
set_option maxRecDepth 100000 in
set_option maxHeartbeats 4000000 in
theorem c_X5_itemAt (l : Launch) (G : GE) (a_t a_t_sorts a_t_sizes a_t_items : Nat) (t_sizes : Nat → Int32) (t_items : Nat → Int64) (x1 : Int32) (x2 : Int32) (r : Int64) (hf : f_X5_itemAt t_sizes t_items x1 x2 = some r) : CL l G yX5_itemAt kw_X5_itemAt rm_X5_itemAt [.ref a_t, .int x1, .int x2] (w_X5_itemAt G a_t a_t_sorts a_t_sizes a_t_items t_sizes t_items) r (w_X5_itemAt G a_t a_t_sorts a_t_sizes a_t_items t_sizes t_items) := by
  refine en_L (cc := cX5_itemAt) (maxL := 4) (ret := (some .long)) (by decide +kernel) (Nat.le_of_ble_eq_true rfl) ?_
  intro p e s m args below meth c A ls C S hl
  have hl : lv_has ls 4 [(0, .ref a_t), (1, .int x1), (2, .int x2)] := hl
  have C : Cx p s m args meth c cX5_itemAt (some .long) 4 RX5 G A := C
  unfold f_X5_itemAt at hf
  have hx := C.1
  have hb := C.2.1
  have hown := C.2.2.2.2.1
  have hts := C.2.2.2.2.2.1
  have hN := C.2.2.2.2.2.2.2.2.2.2
  refine lv_iload_n (pc := 0) hx hb dX5_itemAt_0 rfl (lv_at hl 1 rfl) ?_
  refine lv_bipush (pc := 1) hx hb dX5_itemAt_1 bc_60 ?_
  refine lv_imul (pc := 3) hx hb dX5_itemAt_3 ?_
  refine lv_iload_n (pc := 4) hx hb dX5_itemAt_4 rfl (lv_at hl 2 rfl) ?_
  refine lv_iadd (pc := 5) hx hb dX5_itemAt_5 ?_
  refine lv_istore_n (pc := 6) (lv' := [(3, .int ((x1 * (60 : Int32)) + x2)), (0, .ref a_t), (1, .int x1), (2, .int x2)]) hx hb dX5_itemAt_6 rfl hl (by decide) rfl (fun ls hl => ?_)
  refine lv_aload_n (pc := 7) hx hb dX5_itemAt_7 rfl (lv_at hl 1 rfl) ?_
  refine lv_iload_n (pc := 8) hx hb dX5_itemAt_8 rfl (lv_at hl 2 rfl) ?_
  refine lv_iload_n (pc := 9) hx hb dX5_itemAt_9 rfl (lv_at hl 3 rfl) ?_
  obtain ⟨r1, hq1, hf⟩ := bd_e hf
  refine x_vI (pc := 10) (As := [.int x1, .int x2]) (rest := []) (isC := [0, 1]) (ws' := (w_X5_itemAt G a_t a_t_sorts a_t_sizes a_t_items t_sizes t_items)) C S (c_X5_hasItem l G a_t a_t_sorts a_t_sizes a_t_items t_sizes x1 x2 r1 hq1) (u_X5_itemAt_X5_hasItem_22 hts) (ci := 5) rfl 0 rfl rfl (by decide +kernel) [some 0, some 1, none] (by decide +kernel) rfl rfl rfl hl.1 rfl (Nat.le_of_ble_eq_true rfl) dX5_itemAt_10 (fun H locs S => ?_)
  refine lv_if_eq (tgt := 38) (pc := 13) hx hb dX5_itemAt_13 (by decide) (fun c2 => ?_) (fun c2 => ?_)
  · have hf := ifp c2 hf
    refine lv_lconst (pc := 38) hx hb dX5_itemAt_38 lc_0 ?_
    cases hf
    exact x_lret (pc := 39) C S dX5_itemAt_39
  · have hf := ifn c2 hf
    refine lv_iload_n (pc := 16) hx hb dX5_itemAt_16 rfl (lv_at hl 0 rfl) ?_
    refine lv_if_lt (tgt := 38) (pc := 17) hx hb dX5_itemAt_17 (by decide) (fun c3 => ?_) (fun c3 => ?_)
    · have hf := ifp c3 hf
      refine lv_lconst (pc := 38) hx hb dX5_itemAt_38 lc_0 ?_
      cases hf
      exact x_lret (pc := 39) C S dX5_itemAt_39
    · have hf := ifn c3 hf
      refine lv_iload_n (pc := 20) hx hb dX5_itemAt_20 rfl (lv_at hl 0 rfl) ?_
      refine lv_aload_n (pc := 21) hx hb dX5_itemAt_21 rfl (lv_at hl 1 rfl) ?_
      refine x_get (pc := 22) (ci := 5) (T := TX5) (v := .ref a_t_items) C S 0 rfl rfl inlX5 2 (by decide) rfl qf_5_18 rfl dX5_itemAt_22 ?_
      refine x_lenJ (pc := 25) C S 2 rfl nc_360 dX5_itemAt_25 ?_
      refine lv_icmp_ge (tgt := 38) (pc := 26) hx hb dX5_itemAt_26 (by decide) (fun c4 => ?_) (fun c4 => ?_)
      · have hf := ifp c4 hf
        refine lv_lconst (pc := 38) hx hb dX5_itemAt_38 lc_0 ?_
        cases hf
        exact x_lret (pc := 39) C S dX5_itemAt_39
      · have hf := ifn c4 hf
        refine lv_aload_n (pc := 29) hx hb dX5_itemAt_29 rfl (lv_at hl 1 rfl) ?_
        refine x_get (pc := 30) (ci := 5) (T := TX5) (v := .ref a_t_items) C S 0 rfl rfl inlX5 2 (by decide) rfl qf_5_18 rfl dX5_itemAt_30 ?_
        refine lv_iload_n (pc := 33) hx hb dX5_itemAt_33 rfl (lv_at hl 0 rfl) ?_
        obtain ⟨hv5, hf⟩ := gI_e hf
        refine x_lald (pc := 34) C S 2 rfl hv5 dX5_itemAt_34 ?_
        refine lv_goto (tgt := 39) (pc := 35) hx hb dX5_itemAt_35 (by decide) ?_
        cases hf
        exact x_lret (pc := 39) C S dX5_itemAt_39
end

abbrev rm_X5_sortOf : Room := { frames := 0, cells := 0, slots := 0, locals := 0 }
abbrev kw_X5_sortOf : Cond := .code yX5_sortOf cX5_sortOf 2 (some .int)
abbrev w_X5_sortOf (G : GE) (a_t a_t_sorts a_t_sizes a_t_items : Nat) (t_sorts : Nat → Int32) : va_W := [(a_t, ob 5 [.ref a_t_sorts, .ref a_t_sizes, .ref a_t_items]), (a_t_sorts, aI G 6 t_sorts)]
section
variable {p : Program} {l : Launch} {e : Env} {s : State} {m : MethodId} {args : Array Value} {below : List Frame} {meth : Method} {c : Code} {A : Nat → Prop} {G : GE} {a_t a_t_sorts a_t_sizes a_t_items : Nat} {r : Int32}
set_option maxRecDepth 100000 in
set_option maxHeartbeats 4000000 in
theorem c_X5_sortOf (l : Launch) (G : GE) (a_t a_t_sorts a_t_sizes a_t_items : Nat) (t_sorts : Nat → Int32) (x1 : Int32) (r : Int32) (hf : f_X5_sortOf t_sorts x1 = some r) : CI l G yX5_sortOf kw_X5_sortOf rm_X5_sortOf [.ref a_t, .int x1] (w_X5_sortOf G a_t a_t_sorts a_t_sizes a_t_items t_sorts) r (w_X5_sortOf G a_t a_t_sorts a_t_sizes a_t_items t_sorts) := by
  refine en_I (cc := cX5_sortOf) (maxL := 2) (ret := (some .int)) (by decide +kernel) (Nat.le_of_ble_eq_true rfl) ?_
  intro p e s m args below meth c A ls C S hl
  have hl : lv_has ls 2 [(0, .ref a_t), (1, .int x1)] := hl
  have C : Cx p s m args meth c cX5_sortOf (some .int) 2 RX5 G A := C
  unfold f_X5_sortOf at hf
  have hx := C.1
  have hb := C.2.1
  have hown := C.2.2.2.2.1
  have hts := C.2.2.2.2.2.1
  have hN := C.2.2.2.2.2.2.2.2.2.2
  refine lv_iload_n (pc := 0) hx hb dX5_sortOf_0 rfl (lv_at hl 1 rfl) ?_
  refine lv_if_lt (tgt := 22) (pc := 1) hx hb dX5_sortOf_1 (by decide) (fun c1 => ?_) (fun c1 => ?_)
  · have hf := ifp c1 hf
    refine lv_iconst (pc := 22) hx hb dX5_sortOf_22 ic_m1 ?_
    cases hf
    exact x_iret (pc := 23) C S dX5_sortOf_23
  · have hf := ifn c1 hf
    refine lv_iload_n (pc := 4) hx hb dX5_sortOf_4 rfl (lv_at hl 1 rfl) ?_
    refine lv_aload_n (pc := 5) hx hb dX5_sortOf_5 rfl (lv_at hl 0 rfl) ?_
    refine x_get (pc := 6) (ci := 5) (T := TX5) (v := .ref a_t_sorts) C S 0 rfl rfl inlX5 0 (by decide) rfl qf_5_9 rfl dX5_sortOf_6 ?_
    refine x_lenI (pc := 9) C S 1 rfl nc_6 dX5_sortOf_9 ?_
    refine lv_icmp_ge (tgt := 22) (pc := 10) hx hb dX5_sortOf_10 (by decide) (fun c2 => ?_) (fun c2 => ?_)
    · have hf := ifp c2 hf
      refine lv_iconst (pc := 22) hx hb dX5_sortOf_22 ic_m1 ?_
      cases hf
      exact x_iret (pc := 23) C S dX5_sortOf_23
    · have hf := ifn c2 hf
      refine lv_aload_n (pc := 13) hx hb dX5_sortOf_13 rfl (lv_at hl 0 rfl) ?_
      refine x_get (pc := 14) (ci := 5) (T := TX5) (v := .ref a_t_sorts) C S 0 rfl rfl inlX5 0 (by decide) rfl qf_5_9 rfl dX5_sortOf_14 ?_
      refine lv_iload_n (pc := 17) hx hb dX5_sortOf_17 rfl (lv_at hl 1 rfl) ?_
      obtain ⟨hv3, hf⟩ := gI_e hf
      refine x_iald (pc := 18) C S 1 rfl hv3 dX5_sortOf_18 ?_
      refine lv_goto (tgt := 23) (pc := 19) hx hb dX5_sortOf_19 (by decide) ?_
      cases hf
      exact x_iret (pc := 23) C S dX5_sortOf_23
end

abbrev rm_X5_setItem : Room := { frames := 1, cells := 0, slots := 0, locals := 22 }
abbrev kw_X5_setItem : Cond := .code yX5_setItem cX5_setItem 6 none
abbrev w_X5_setItem (G : GE) (a_t a_t_sorts a_t_sizes a_t_items : Nat) (t_sorts : Nat → Int32) (t_sizes : Nat → Int32) (t_items : Nat → Int64) : va_W := [(a_t, ob 5 [.ref a_t_sorts, .ref a_t_sizes, .ref a_t_items]), (a_t_sorts, aI G 6 t_sorts), (a_t_sizes, aI G 6 t_sizes), (a_t_items, aJ G 360 t_items)]
theorem u_X5_setItem_X5_hasItem_22 {s : State} {args : Array Value} (hts : ∀ w ∈ WU, w.before args s = true) : CallW rm_X5_setItem s args RX5 RX5 22 yX5_hasItem cX5_hasItem 3 (some .boolean) (kw_X5_hasItem :: WU) rm_X5_hasItem 0 0 2 := cwV 2 hts (gV qm_5_22 qi_X5_hasItem ql_X5_hasItem qn_5 qc_X5_hasItem) rfl rfl rfl (by decide +kernel) ⟨Nat.le_of_ble_eq_true rfl, Nat.le_of_ble_eq_true rfl⟩
theorem u_X5_setItem_X5_sortOf_26 {s : State} {args : Array Value} (hts : ∀ w ∈ WU, w.before args s = true) : CallW rm_X5_setItem s args RX5 RX5 26 yX5_sortOf cX5_sortOf 2 (some .int) (kw_X5_sortOf :: WU) rm_X5_sortOf 0 0 1 := cwV 1 hts (gV qm_5_26 qi_X5_sortOf ql_X5_sortOf qn_5 qc_X5_sortOf) rfl rfl rfl (by decide +kernel) ⟨Nat.le_of_ble_eq_true rfl, Nat.le_of_ble_eq_true rfl⟩
theorem u_X5_setItem_X5_cutTo_30 {s : State} {args : Array Value} (hts : ∀ w ∈ WU, w.before args s = true) : CallB rm_X5_setItem s args RX5 30 yX5_cutTo cX5_cutTo 3 (some .long) (kw_X5_cutTo :: WU) rm_X5_cutTo 0 0 2 ∧ (Cond.static yX5_cutTo).before args s = true := va_cwS 2 hts (gS qm_5_30 qs_X5_cutTo qn_5 qc_X5_cutTo) rfl rfl rfl (by decide +kernel) ⟨Nat.le_of_ble_eq_true rfl, Nat.le_of_ble_eq_true rfl⟩
section
variable {p : Program} {l : Launch} {e : Env} {s : State} {m : MethodId} {args : Array Value} {below : List Frame} {meth : Method} {c : Code} {A : Nat → Prop} {G : GE} {a_t a_t_sorts a_t_sizes a_t_items : Nat} {z_t_items : Nat → Int64}
set_option maxRecDepth 100000 in
set_option maxHeartbeats 4000000 in
theorem c_X5_setItem (l : Launch) (G : GE) (a_t a_t_sorts a_t_sizes a_t_items : Nat) (t_sorts : Nat → Int32) (t_sizes : Nat → Int32) (t_items : Nat → Int64) (x1 : Int32) (x2 : Int32) (x3 : Int64) (z_t_items : Nat → Int64) (hf : f_X5_setItem t_sorts t_sizes t_items x1 x2 x3 = some z_t_items) : CV l G yX5_setItem kw_X5_setItem rm_X5_setItem [.ref a_t, .int x1, .int x2, .long x3] (w_X5_setItem G a_t a_t_sorts a_t_sizes a_t_items t_sorts t_sizes t_items) (w_X5_setItem G a_t a_t_sorts a_t_sizes a_t_items t_sorts t_sizes z_t_items) := by
  refine en_V (cc := cX5_setItem) (maxL := 6) (ret := none) (by decide +kernel) (Nat.le_of_ble_eq_true rfl) ?_
  intro p e s m args below meth c A ls C S hl
  have hl : lv_has ls 6 [(0, .ref a_t), (1, .int x1), (2, .int x2), (3, .long x3)] := hl
  have C : Cx p s m args meth c cX5_setItem none 6 RX5 G A := C
  unfold f_X5_setItem at hf
  have hx := C.1
  have hb := C.2.1
  have hown := C.2.2.2.2.1
  have hts := C.2.2.2.2.2.1
  have hN := C.2.2.2.2.2.2.2.2.2.2
  refine lv_iload_n (pc := 0) hx hb dX5_setItem_0 rfl (lv_at hl 1 rfl) ?_
  refine lv_bipush (pc := 1) hx hb dX5_setItem_1 bc_60 ?_
  refine lv_imul (pc := 3) hx hb dX5_setItem_3 ?_
  refine lv_iload_n (pc := 4) hx hb dX5_setItem_4 rfl (lv_at hl 2 rfl) ?_
  refine lv_iadd (pc := 5) hx hb dX5_setItem_5 ?_
  refine lv_istore (pc := 6) (lv' := [(5, .int ((x1 * (60 : Int32)) + x2)), (0, .ref a_t), (1, .int x1), (2, .int x2), (3, .long x3)]) hx hb dX5_setItem_6 hl (by decide) rfl (fun ls hl => ?_)
  refine lv_aload_n (pc := 8) hx hb dX5_setItem_8 rfl (lv_at hl 1 rfl) ?_
  refine lv_iload_n (pc := 9) hx hb dX5_setItem_9 rfl (lv_at hl 2 rfl) ?_
  refine lv_iload_n (pc := 10) hx hb dX5_setItem_10 rfl (lv_at hl 3 rfl) ?_
  obtain ⟨r1, hq1, hf⟩ := bd_e hf
  refine x_vI (pc := 11) (As := [.int x1, .int x2]) (rest := []) (isC := [0, 2]) (ws' := (w_X5_setItem G a_t a_t_sorts a_t_sizes a_t_items t_sorts t_sizes t_items)) C S (c_X5_hasItem l G a_t a_t_sorts a_t_sizes a_t_items t_sizes x1 x2 r1 hq1) (u_X5_setItem_X5_hasItem_22 hts) (ci := 5) rfl 0 rfl rfl (by decide +kernel) [some 0, none, some 1, none] (by decide +kernel) rfl rfl rfl hl.1 rfl (Nat.le_of_ble_eq_true rfl) dX5_setItem_11 (fun H locs S => ?_)
  refine lv_if_eq (tgt := 48) (pc := 14) hx hb dX5_setItem_14 (by decide) (fun c2 => ?_) (fun c2 => ?_)
  · have hf := ifp c2 hf
    cases hf
    exact x_vret (pc := 48) C S dX5_setItem_48
  · have hf := ifn c2 hf
    refine lv_iload (pc := 17) hx hb dX5_setItem_17 (lv_at hl 0 rfl) ?_
    refine lv_if_lt (tgt := 48) (pc := 19) hx hb dX5_setItem_19 (by decide) (fun c3 => ?_) (fun c3 => ?_)
    · have hf := ifp c3 hf
      cases hf
      exact x_vret (pc := 48) C S dX5_setItem_48
    · have hf := ifn c3 hf
      refine lv_iload (pc := 22) hx hb dX5_setItem_22 (lv_at hl 0 rfl) ?_
      refine lv_aload_n (pc := 24) hx hb dX5_setItem_24 rfl (lv_at hl 1 rfl) ?_
      refine x_get (pc := 25) (ci := 5) (T := TX5) (v := .ref a_t_items) C S 0 rfl rfl inlX5 2 (by decide) rfl qf_5_18 rfl dX5_setItem_25 ?_
      refine x_lenJ (pc := 28) C S 3 rfl nc_360 dX5_setItem_28 ?_
      refine lv_icmp_ge (tgt := 48) (pc := 29) hx hb dX5_setItem_29 (by decide) (fun c4 => ?_) (fun c4 => ?_)
      · have hf := ifp c4 hf
        cases hf
        exact x_vret (pc := 48) C S dX5_setItem_48
      · have hf := ifn c4 hf
        refine lv_aload_n (pc := 32) hx hb dX5_setItem_32 rfl (lv_at hl 1 rfl) ?_
        refine x_get (pc := 33) (ci := 5) (T := TX5) (v := .ref a_t_items) C S 0 rfl rfl inlX5 2 (by decide) rfl qf_5_18 rfl dX5_setItem_33 ?_
        refine lv_iload (pc := 36) hx hb dX5_setItem_36 (lv_at hl 0 rfl) ?_
        refine lv_aload_n (pc := 38) hx hb dX5_setItem_38 rfl (lv_at hl 1 rfl) ?_
        refine lv_iload_n (pc := 39) hx hb dX5_setItem_39 rfl (lv_at hl 2 rfl) ?_
        obtain ⟨r5, hq5, hf⟩ := bd_e hf
        refine x_vI (pc := 40) (As := [.int x1]) (rest := [.int ((x1 * (60 : Int32)) + x2), .ref a_t_items]) (isC := [0, 1]) (ws' := (w_X5_setItem G a_t a_t_sorts a_t_sizes a_t_items t_sorts t_sizes t_items)) C S (c_X5_sortOf l G a_t a_t_sorts a_t_sizes a_t_items t_sorts x1 r5 hq5) (u_X5_setItem_X5_sortOf_26 hts) (ci := 5) rfl 0 rfl rfl (by decide +kernel) [some 0, some 1, none, none] (by decide +kernel) rfl rfl rfl hl.1 rfl (Nat.le_of_ble_eq_true rfl) dX5_setItem_40 (fun H locs S => ?_)
        refine lv_lload_n (pc := 43) hx hb dX5_setItem_43 rfl (lv_at hl 4 rfl) ?_
        obtain ⟨r6, hq6, hf⟩ := bd_e hf
        refine x_sL (pc := 44) (As := [.int r5, .long x3]) (rest := [.int ((x1 * (60 : Int32)) + x2), .ref a_t_items]) (isC := []) (ws' := (w_X5_setItem G a_t a_t_sorts a_t_sizes a_t_items t_sorts t_sizes t_items)) C S (c_X5_cutTo l G r5 x3 r6 hq6) (u_X5_setItem_X5_cutTo_30 hts) rfl (by decide +kernel) [none, none, none, none] (by decide +kernel) rfl rfl rfl hl.1 rfl (Nat.le_of_ble_eq_true rfl) dX5_setItem_44 (fun H locs S => ?_)
        obtain ⟨hv7, hf⟩ := gI_e hf
        refine x_last (pc := 47) (ws' := (w_X5_setItem G a_t a_t_sorts a_t_sizes a_t_items t_sorts t_sizes (vp_updL t_items ((x1 * (60 : Int32)) + x2).toNatClampNeg r6))) C S 3 rfl hv7 rfl dX5_setItem_47 (fun H locs S => ?_)
        cases hf
        exact x_vret (pc := 48) C S dX5_setItem_48
end

abbrev rm_X6_setFact : Room := { frames := 0, cells := 0, slots := 0, locals := 0 }
abbrev kw_X6_setFact : Cond := .code yX6_setFact cX6_setFact 5 none
abbrev w_X6_setFact (G : GE) (a_t a_t_facts a_t_roundsOf a_t_locked a_t_rules a_t_sizes a_t_rows a_t_seen a_t_plan a_t_book : Nat) (t_stopCount : Int32) (t_metric : Int32) (t_fixed : Int32) (t_facts : Nat → Int32) : va_W := [(a_t, ob 6 [.ref a_t_facts, .ref a_t_roundsOf, .ref a_t_locked, .ref a_t_rules, .ref a_t_sizes, .ref a_t_rows, .ref a_t_seen, .ref a_t_plan, .ref a_t_book, .int t_stopCount, .int t_metric, .int t_fixed]), (a_t_facts, aI G 102 t_facts)]
section
variable {p : Program} {l : Launch} {e : Env} {s : State} {m : MethodId} {args : Array Value} {below : List Frame} {meth : Method} {c : Code} {A : Nat → Prop} {G : GE} {a_t a_t_facts a_t_roundsOf a_t_locked a_t_rules a_t_sizes a_t_rows a_t_seen a_t_plan a_t_book : Nat} {z_t_facts : Nat → Int32}
set_option maxRecDepth 100000 in
set_option maxHeartbeats 4000000 in
theorem c_X6_setFact (l : Launch) (G : GE) (a_t a_t_facts a_t_roundsOf a_t_locked a_t_rules a_t_sizes a_t_rows a_t_seen a_t_plan a_t_book : Nat) (t_stopCount : Int32) (t_metric : Int32) (t_fixed : Int32) (t_facts : Nat → Int32) (x1 : Int32) (x2 : Int32) (x3 : Int32) (z_t_facts : Nat → Int32) (hf : f_X6_setFact t_facts x1 x2 x3 = some z_t_facts) : CV l G yX6_setFact kw_X6_setFact rm_X6_setFact [.ref a_t, .int x1, .int x2, .int x3] (w_X6_setFact G a_t a_t_facts a_t_roundsOf a_t_locked a_t_rules a_t_sizes a_t_rows a_t_seen a_t_plan a_t_book t_stopCount t_metric t_fixed t_facts) (w_X6_setFact G a_t a_t_facts a_t_roundsOf a_t_locked a_t_rules a_t_sizes a_t_rows a_t_seen a_t_plan a_t_book t_stopCount t_metric t_fixed z_t_facts) := by
  refine en_V (cc := cX6_setFact) (maxL := 5) (ret := none) (by decide +kernel) (Nat.le_of_ble_eq_true rfl) ?_
  intro p e s m args below meth c A ls C S hl
  have hl : lv_has ls 5 [(0, .ref a_t), (1, .int x1), (2, .int x2), (3, .int x3)] := hl
  have C : Cx p s m args meth c cX6_setFact none 5 RX6 G A := C
  unfold f_X6_setFact at hf
  have hx := C.1
  have hb := C.2.1
  have hown := C.2.2.2.2.1
  have hts := C.2.2.2.2.2.1
  have hN := C.2.2.2.2.2.2.2.2.2.2
  refine lv_iload_n (pc := 0) hx hb dX6_setFact_0 rfl (lv_at hl 1 rfl) ?_
  refine lv_bipush (pc := 1) hx hb dX6_setFact_1 bc_6 ?_
  refine lv_imul (pc := 3) hx hb dX6_setFact_3 ?_
  refine lv_iload_n (pc := 4) hx hb dX6_setFact_4 rfl (lv_at hl 2 rfl) ?_
  refine lv_iadd (pc := 5) hx hb dX6_setFact_5 ?_
  refine lv_istore (pc := 6) (lv' := [(4, .int ((x1 * (6 : Int32)) + x2)), (0, .ref a_t), (1, .int x1), (2, .int x2), (3, .int x3)]) hx hb dX6_setFact_6 hl (by decide) rfl (fun ls hl => ?_)
  refine lv_iload (pc := 8) hx hb dX6_setFact_8 (lv_at hl 0 rfl) ?_
  refine lv_if_lt (tgt := 31) (pc := 10) hx hb dX6_setFact_10 (by decide) (fun c1 => ?_) (fun c1 => ?_)
  · have hf := ifp c1 hf
    cases hf
    exact x_vret (pc := 31) C S dX6_setFact_31
  · have hf := ifn c1 hf
    refine lv_iload (pc := 13) hx hb dX6_setFact_13 (lv_at hl 0 rfl) ?_
    refine lv_aload_n (pc := 15) hx hb dX6_setFact_15 rfl (lv_at hl 1 rfl) ?_
    refine x_get (pc := 16) (ci := 6) (T := TX6) (v := .ref a_t_facts) C S 0 rfl rfl inlX6 0 (by decide) rfl qf_6_9 rfl dX6_setFact_16 ?_
    refine x_lenI (pc := 19) C S 1 rfl nc_102 dX6_setFact_19 ?_
    refine lv_icmp_ge (tgt := 31) (pc := 20) hx hb dX6_setFact_20 (by decide) (fun c2 => ?_) (fun c2 => ?_)
    · have hf := ifp c2 hf
      cases hf
      exact x_vret (pc := 31) C S dX6_setFact_31
    · have hf := ifn c2 hf
      refine lv_aload_n (pc := 23) hx hb dX6_setFact_23 rfl (lv_at hl 1 rfl) ?_
      refine x_get (pc := 24) (ci := 6) (T := TX6) (v := .ref a_t_facts) C S 0 rfl rfl inlX6 0 (by decide) rfl qf_6_9 rfl dX6_setFact_24 ?_
      refine lv_iload (pc := 27) hx hb dX6_setFact_27 (lv_at hl 0 rfl) ?_
      refine lv_iload_n (pc := 29) hx hb dX6_setFact_29 rfl (lv_at hl 4 rfl) ?_
      obtain ⟨hv3, hf⟩ := gI_e hf
      refine x_iast (pc := 30) (ws' := (w_X6_setFact G a_t a_t_facts a_t_roundsOf a_t_locked a_t_rules a_t_sizes a_t_rows a_t_seen a_t_plan a_t_book t_stopCount t_metric t_fixed (upd t_facts ((x1 * (6 : Int32)) + x2).toNatClampNeg x3))) C S 1 rfl hv3 rfl dX6_setFact_30 (fun H locs S => ?_)
      cases hf
      exact x_vret (pc := 31) C S dX6_setFact_31
end

abbrev rm_X6_addStop : Room := { frames := 1, cells := 0, slots := 0, locals := 24 }
abbrev kw_X6_addStop : Cond := .code yX6_addStop cX6_addStop 8 (some .int)
abbrev w_X6_addStop (G : GE) (a_t a_t_facts a_t_roundsOf a_t_locked a_t_rules a_t_sizes a_t_rows a_t_seen a_t_plan a_t_book : Nat) (t_stopCount : Int32) (t_metric : Int32) (t_fixed : Int32) (t_facts : Nat → Int32) (t_roundsOf : Nat → Int32) (t_locked : Nat → Int32) : va_W := [(a_t, ob 6 [.ref a_t_facts, .ref a_t_roundsOf, .ref a_t_locked, .ref a_t_rules, .ref a_t_sizes, .ref a_t_rows, .ref a_t_seen, .ref a_t_plan, .ref a_t_book, .int t_stopCount, .int t_metric, .int t_fixed]), (a_t_facts, aI G 102 t_facts), (a_t_roundsOf, aI G 16 t_roundsOf), (a_t_locked, aZ G 16 t_locked)]
theorem u_X6_addStop_X6_setFact_70 {s : State} {args : Array Value} (hts : ∀ w ∈ WU, w.before args s = true) : CallW rm_X6_addStop s args RX6 RX6 70 yX6_setFact cX6_setFact 5 none (kw_X6_setFact :: WU) rm_X6_setFact 0 0 3 := cwV 3 hts (gV qm_6_70 qi_X6_setFact ql_X6_setFact qn_6 qc_X6_setFact) rfl rfl rfl (by decide +kernel) ⟨Nat.le_of_ble_eq_true rfl, Nat.le_of_ble_eq_true rfl⟩
section
variable {p : Program} {l : Launch} {e : Env} {s : State} {m : MethodId} {args : Array Value} {below : List Frame} {meth : Method} {c : Code} {A : Nat → Prop} {G : GE} {a_t a_t_facts a_t_roundsOf a_t_locked a_t_rules a_t_sizes a_t_rows a_t_seen a_t_plan a_t_book : Nat} {r : Int32} {z_t_facts : Nat → Int32} {z_t_roundsOf : Nat → Int32} {z_t_locked : Nat → Int32} {z_t_stopCount : Int32}
set_option maxRecDepth 100000 in
set_option maxHeartbeats 4000000 in
theorem c_X6_addStop (l : Launch) (G : GE) (a_t a_t_facts a_t_roundsOf a_t_locked a_t_rules a_t_sizes a_t_rows a_t_seen a_t_plan a_t_book : Nat) (t_stopCount : Int32) (t_metric : Int32) (t_fixed : Int32) (t_facts : Nat → Int32) (t_roundsOf : Nat → Int32) (t_locked : Nat → Int32) (x1 : Int32) (x2 : Int32) (x3 : Int32) (x4 : Int32) (x5 : Int32) (x6 : Int32) (r : Int32) (z_t_facts : Nat → Int32) (z_t_roundsOf : Nat → Int32) (z_t_locked : Nat → Int32) (z_t_stopCount : Int32) (hf : f_X6_addStop t_facts t_roundsOf t_locked t_stopCount x1 x2 x3 x4 x5 x6 = some (r, z_t_facts, z_t_roundsOf, z_t_locked, z_t_stopCount)) : CI l G yX6_addStop kw_X6_addStop rm_X6_addStop [.ref a_t, .int x1, .int x2, .int x3, .int x4, .int x5, .int x6] (w_X6_addStop G a_t a_t_facts a_t_roundsOf a_t_locked a_t_rules a_t_sizes a_t_rows a_t_seen a_t_plan a_t_book t_stopCount t_metric t_fixed t_facts t_roundsOf t_locked) r (w_X6_addStop G a_t a_t_facts a_t_roundsOf a_t_locked a_t_rules a_t_sizes a_t_rows a_t_seen a_t_plan a_t_book z_t_stopCount t_metric t_fixed z_t_facts z_t_roundsOf z_t_locked) := by
  refine en_I (cc := cX6_addStop) (maxL := 8) (ret := (some .int)) (by decide +kernel) (Nat.le_of_ble_eq_true rfl) ?_
  intro p e s m args below meth c A ls C S hl
  have hl : lv_has ls 8 [(0, .ref a_t), (1, .int x1), (2, .int x2), (3, .int x3), (4, .int x4), (5, .int x5), (6, .int x6)] := hl
  have C : Cx p s m args meth c cX6_addStop (some .int) 8 RX6 G A := C
  unfold f_X6_addStop at hf
  have hx := C.1
  have hb := C.2.1
  have hown := C.2.2.2.2.1
  have hts := C.2.2.2.2.2.1
  have hN := C.2.2.2.2.2.2.2.2.2.2
  refine lv_aload_n (pc := 0) hx hb dX6_addStop_0 rfl (lv_at hl 0 rfl) ?_
  refine x_get (pc := 1) (ci := 6) (T := TX6) (v := .int t_stopCount) C S 0 rfl rfl inlX6 9 (by decide) rfl qf_6_60 rfl dX6_addStop_1 ?_
  refine lv_istore (pc := 4) (lv' := [(7, .int t_stopCount), (0, .ref a_t), (1, .int x1), (2, .int x2), (3, .int x3), (4, .int x4), (5, .int x5), (6, .int x6)]) hx hb dX6_addStop_4 hl (by decide) rfl (fun ls hl => ?_)
  refine lv_iload (pc := 6) hx hb dX6_addStop_6 (lv_at hl 0 rfl) ?_
  refine lv_if_lt (tgt := 18) (pc := 8) hx hb dX6_addStop_8 (by decide) (fun c1 => ?_) (fun c1 => ?_)
  · have hf := ifp c1 hf
    refine lv_bipush (pc := 18) hx hb dX6_addStop_18 bc_m4 ?_
    cases hf
    exact x_iret (pc := 20) C S dX6_addStop_20
  · have hf := ifn c1 hf
    refine lv_iload (pc := 11) hx hb dX6_addStop_11 (lv_at hl 0 rfl) ?_
    refine lv_bipush (pc := 13) hx hb dX6_addStop_13 bc_16 ?_
    refine lv_icmp_lt (tgt := 21) (pc := 15) hx hb dX6_addStop_15 (by decide) (fun c2 => ?_) (fun c2 => ?_)
    · have hf := ifp c2 hf
      refine lv_aload_n (pc := 21) hx hb dX6_addStop_21 rfl (lv_at hl 1 rfl) ?_
      refine lv_iload (pc := 22) hx hb dX6_addStop_22 (lv_at hl 0 rfl) ?_
      refine lv_iconst (pc := 24) hx hb dX6_addStop_24 ic_0 ?_
      refine lv_iload_n (pc := 25) hx hb dX6_addStop_25 rfl (lv_at hl 2 rfl) ?_
      obtain ⟨o3_t_facts, hq3, hf⟩ := bd_e hf
      refine x_vV (pc := 26) (As := [.int t_stopCount, .int (0 : Int32), .int x1]) (rest := []) (isC := [0, 1]) (ws' := (w_X6_addStop G a_t a_t_facts a_t_roundsOf a_t_locked a_t_rules a_t_sizes a_t_rows a_t_seen a_t_plan a_t_book t_stopCount t_metric t_fixed o3_t_facts t_roundsOf t_locked)) C S (c_X6_setFact l G a_t a_t_facts a_t_roundsOf a_t_locked a_t_rules a_t_sizes a_t_rows a_t_seen a_t_plan a_t_book t_stopCount t_metric t_fixed t_facts t_stopCount (0 : Int32) x1 o3_t_facts hq3) (u_X6_addStop_X6_setFact_70 hts) (ci := 6) rfl 0 rfl rfl (by decide +kernel) [some 0, some 1, none, none] (by decide +kernel) rfl rfl rfl hl.1 rfl (Nat.le_of_ble_eq_true rfl) dX6_addStop_26 (fun H locs S => ?_)
      refine lv_aload_n (pc := 29) hx hb dX6_addStop_29 rfl (lv_at hl 1 rfl) ?_
      refine lv_iload (pc := 30) hx hb dX6_addStop_30 (lv_at hl 0 rfl) ?_
      refine lv_iconst (pc := 32) hx hb dX6_addStop_32 ic_1 ?_
      refine lv_iload_n (pc := 33) hx hb dX6_addStop_33 rfl (lv_at hl 3 rfl) ?_
      obtain ⟨o4_t_facts, hq4, hf⟩ := bd_e hf
      refine x_vV (pc := 34) (As := [.int t_stopCount, .int (1 : Int32), .int x2]) (rest := []) (isC := [0, 1]) (ws' := (w_X6_addStop G a_t a_t_facts a_t_roundsOf a_t_locked a_t_rules a_t_sizes a_t_rows a_t_seen a_t_plan a_t_book t_stopCount t_metric t_fixed o4_t_facts t_roundsOf t_locked)) C S (c_X6_setFact l G a_t a_t_facts a_t_roundsOf a_t_locked a_t_rules a_t_sizes a_t_rows a_t_seen a_t_plan a_t_book t_stopCount t_metric t_fixed o3_t_facts t_stopCount (1 : Int32) x2 o4_t_facts hq4) (u_X6_addStop_X6_setFact_70 hts) (ci := 6) rfl 0 rfl rfl (by decide +kernel) [some 0, some 1, none, none] (by decide +kernel) rfl rfl rfl hl.1 rfl (Nat.le_of_ble_eq_true rfl) dX6_addStop_34 (fun H locs S => ?_)
      refine lv_aload_n (pc := 37) hx hb dX6_addStop_37 rfl (lv_at hl 1 rfl) ?_
      refine lv_iload (pc := 38) hx hb dX6_addStop_38 (lv_at hl 0 rfl) ?_
      refine lv_iconst (pc := 40) hx hb dX6_addStop_40 ic_2 ?_
      refine lv_iload_n (pc := 41) hx hb dX6_addStop_41 rfl (lv_at hl 4 rfl) ?_
      obtain ⟨o5_t_facts, hq5, hf⟩ := bd_e hf
      refine x_vV (pc := 42) (As := [.int t_stopCount, .int (2 : Int32), .int x3]) (rest := []) (isC := [0, 1]) (ws' := (w_X6_addStop G a_t a_t_facts a_t_roundsOf a_t_locked a_t_rules a_t_sizes a_t_rows a_t_seen a_t_plan a_t_book t_stopCount t_metric t_fixed o5_t_facts t_roundsOf t_locked)) C S (c_X6_setFact l G a_t a_t_facts a_t_roundsOf a_t_locked a_t_rules a_t_sizes a_t_rows a_t_seen a_t_plan a_t_book t_stopCount t_metric t_fixed o4_t_facts t_stopCount (2 : Int32) x3 o5_t_facts hq5) (u_X6_addStop_X6_setFact_70 hts) (ci := 6) rfl 0 rfl rfl (by decide +kernel) [some 0, some 1, none, none] (by decide +kernel) rfl rfl rfl hl.1 rfl (Nat.le_of_ble_eq_true rfl) dX6_addStop_42 (fun H locs S => ?_)
      refine lv_aload_n (pc := 45) hx hb dX6_addStop_45 rfl (lv_at hl 1 rfl) ?_
      refine lv_iload (pc := 46) hx hb dX6_addStop_46 (lv_at hl 0 rfl) ?_
      refine lv_iconst (pc := 48) hx hb dX6_addStop_48 ic_3 ?_
      refine lv_iload (pc := 49) hx hb dX6_addStop_49 (lv_at hl 5 rfl) ?_
      obtain ⟨o6_t_facts, hq6, hf⟩ := bd_e hf
      refine x_vV (pc := 51) (As := [.int t_stopCount, .int (3 : Int32), .int x4]) (rest := []) (isC := [0, 1]) (ws' := (w_X6_addStop G a_t a_t_facts a_t_roundsOf a_t_locked a_t_rules a_t_sizes a_t_rows a_t_seen a_t_plan a_t_book t_stopCount t_metric t_fixed o6_t_facts t_roundsOf t_locked)) C S (c_X6_setFact l G a_t a_t_facts a_t_roundsOf a_t_locked a_t_rules a_t_sizes a_t_rows a_t_seen a_t_plan a_t_book t_stopCount t_metric t_fixed o5_t_facts t_stopCount (3 : Int32) x4 o6_t_facts hq6) (u_X6_addStop_X6_setFact_70 hts) (ci := 6) rfl 0 rfl rfl (by decide +kernel) [some 0, some 1, none, none] (by decide +kernel) rfl rfl rfl hl.1 rfl (Nat.le_of_ble_eq_true rfl) dX6_addStop_51 (fun H locs S => ?_)
      refine lv_aload_n (pc := 54) hx hb dX6_addStop_54 rfl (lv_at hl 1 rfl) ?_
      refine lv_iload (pc := 55) hx hb dX6_addStop_55 (lv_at hl 0 rfl) ?_
      refine lv_iconst (pc := 57) hx hb dX6_addStop_57 ic_4 ?_
      refine lv_iload (pc := 58) hx hb dX6_addStop_58 (lv_at hl 6 rfl) ?_
      obtain ⟨o7_t_facts, hq7, hf⟩ := bd_e hf
      refine x_vV (pc := 60) (As := [.int t_stopCount, .int (4 : Int32), .int x5]) (rest := []) (isC := [0, 1]) (ws' := (w_X6_addStop G a_t a_t_facts a_t_roundsOf a_t_locked a_t_rules a_t_sizes a_t_rows a_t_seen a_t_plan a_t_book t_stopCount t_metric t_fixed o7_t_facts t_roundsOf t_locked)) C S (c_X6_setFact l G a_t a_t_facts a_t_roundsOf a_t_locked a_t_rules a_t_sizes a_t_rows a_t_seen a_t_plan a_t_book t_stopCount t_metric t_fixed o6_t_facts t_stopCount (4 : Int32) x5 o7_t_facts hq7) (u_X6_addStop_X6_setFact_70 hts) (ci := 6) rfl 0 rfl rfl (by decide +kernel) [some 0, some 1, none, none] (by decide +kernel) rfl rfl rfl hl.1 rfl (Nat.le_of_ble_eq_true rfl) dX6_addStop_60 (fun H locs S => ?_)
      refine lv_aload_n (pc := 63) hx hb dX6_addStop_63 rfl (lv_at hl 1 rfl) ?_
      refine lv_iload (pc := 64) hx hb dX6_addStop_64 (lv_at hl 0 rfl) ?_
      refine lv_iconst (pc := 66) hx hb dX6_addStop_66 ic_5 ?_
      refine lv_iload (pc := 67) hx hb dX6_addStop_67 (lv_at hl 7 rfl) ?_
      obtain ⟨o8_t_facts, hq8, hf⟩ := bd_e hf
      refine x_vV (pc := 69) (As := [.int t_stopCount, .int (5 : Int32), .int x6]) (rest := []) (isC := [0, 1]) (ws' := (w_X6_addStop G a_t a_t_facts a_t_roundsOf a_t_locked a_t_rules a_t_sizes a_t_rows a_t_seen a_t_plan a_t_book t_stopCount t_metric t_fixed o8_t_facts t_roundsOf t_locked)) C S (c_X6_setFact l G a_t a_t_facts a_t_roundsOf a_t_locked a_t_rules a_t_sizes a_t_rows a_t_seen a_t_plan a_t_book t_stopCount t_metric t_fixed o7_t_facts t_stopCount (5 : Int32) x6 o8_t_facts hq8) (u_X6_addStop_X6_setFact_70 hts) (ci := 6) rfl 0 rfl rfl (by decide +kernel) [some 0, some 1, none, none] (by decide +kernel) rfl rfl rfl hl.1 rfl (Nat.le_of_ble_eq_true rfl) dX6_addStop_69 (fun H locs S => ?_)
      refine lv_aload_n (pc := 72) hx hb dX6_addStop_72 rfl (lv_at hl 1 rfl) ?_
      refine x_get (pc := 73) (ci := 6) (T := TX6) (v := .ref a_t_roundsOf) C S 0 rfl rfl inlX6 1 (by decide) rfl qf_6_15 rfl dX6_addStop_73 ?_
      refine lv_iload (pc := 76) hx hb dX6_addStop_76 (lv_at hl 0 rfl) ?_
      refine lv_bipush (pc := 78) hx hb dX6_addStop_78 bc_m5 ?_
      obtain ⟨hv9, hf⟩ := gI_e hf
      refine x_iast (pc := 80) (ws' := (w_X6_addStop G a_t a_t_facts a_t_roundsOf a_t_locked a_t_rules a_t_sizes a_t_rows a_t_seen a_t_plan a_t_book t_stopCount t_metric t_fixed o8_t_facts (upd t_roundsOf t_stopCount.toNatClampNeg (-5 : Int32)) t_locked)) C S 2 rfl hv9 rfl dX6_addStop_80 (fun H locs S => ?_)
      refine lv_aload_n (pc := 81) hx hb dX6_addStop_81 rfl (lv_at hl 1 rfl) ?_
      refine x_get (pc := 82) (ci := 6) (T := TX6) (v := .ref a_t_locked) C S 0 rfl rfl inlX6 2 (by decide) rfl qf_6_18 rfl dX6_addStop_82 ?_
      refine lv_iload (pc := 85) hx hb dX6_addStop_85 (lv_at hl 0 rfl) ?_
      refine lv_iconst (pc := 87) hx hb dX6_addStop_87 ic_0 ?_
      refine x_zast (pc := 88) (ws' := (w_X6_addStop G a_t a_t_facts a_t_roundsOf a_t_locked a_t_rules a_t_sizes a_t_rows a_t_seen a_t_plan a_t_book t_stopCount t_metric t_fixed o8_t_facts (upd t_roundsOf t_stopCount.toNatClampNeg (-5 : Int32)) (upd t_locked t_stopCount.toNatClampNeg (vp_nar .boolean (0 : Int32))))) C S 3 rfl hv9 rfl dX6_addStop_88 (fun H locs S => ?_)
      refine lv_aload_n (pc := 89) hx hb dX6_addStop_89 rfl (lv_at hl 1 rfl) ?_
      refine lv_dup (pc := 90) hx hb dX6_addStop_90 rfl ?_
      refine x_get (pc := 91) (ci := 6) (T := TX6) (v := .int t_stopCount) C S 0 rfl rfl inlX6 9 (by decide) rfl qf_6_60 rfl dX6_addStop_91 ?_
      refine lv_iconst (pc := 94) hx hb dX6_addStop_94 ic_1 ?_
      refine lv_iadd (pc := 95) hx hb dX6_addStop_95 ?_
      refine x_put (pc := 96) (ci := 6) (T := TX6) (ws' := (w_X6_addStop G a_t a_t_facts a_t_roundsOf a_t_locked a_t_rules a_t_sizes a_t_rows a_t_seen a_t_plan a_t_book (t_stopCount + (1 : Int32)) t_metric t_fixed o8_t_facts (upd t_roundsOf t_stopCount.toNatClampNeg (-5 : Int32)) (upd t_locked t_stopCount.toNatClampNeg (vp_nar .boolean (0 : Int32))))) C S tyX6 tyX6_ok nmX6 0 rfl rfl inlX6 9 (by decide) rfl qf_6_60 rfl rfl rfl rfl (Nat.le_of_ble_eq_true rfl) rfl dX6_addStop_96 (fun H locs S => ?_)
      refine lv_iload (pc := 99) hx hb dX6_addStop_99 (lv_at hl 0 rfl) ?_
      cases hf
      exact x_iret (pc := 101) C S dX6_addStop_101
    · have hf := ifn c2 hf
      refine lv_bipush (pc := 18) hx hb dX6_addStop_18 bc_m4 ?_
      cases hf
      exact x_iret (pc := 20) C S dX6_addStop_20
end

abbrev rm_X6_copyFrom : Room := { frames := 2, cells := 0, slots := 0, locals := 43 }
abbrev kw_X6_copyFrom : Cond := .code yX6_copyFrom cX6_copyFrom 3 none
abbrev w_X6_copyFrom (G : GE) (a_t a_t_facts a_t_roundsOf a_t_locked a_t_rules a_t_sizes a_t_rows a_t_seen a_t_plan a_t_book a_t_seen_left a_t_seen_right a_t_plan_left a_t_plan_right a_t_book_left a_t_book_right a_p1 a_p1_facts a_p1_roundsOf a_p1_locked a_p1_rules a_p1_sizes a_p1_rows a_p1_seen a_p1_plan a_p1_book a_p1_seen_left a_p1_seen_right a_p1_plan_left a_p1_plan_right a_p1_book_left a_p1_book_right : Nat) (t_stopCount : Int32) (t_metric : Int32) (t_fixed : Int32) (t_facts : Nat → Int32) (t_roundsOf : Nat → Int32) (t_locked : Nat → Int32) (t_rules : Nat → Int32) (t_sizes : Nat → Int32) (t_rows : Nat → Int32) (t_seen_size : Int32) (t_seen_left : Nat → Int32) (t_seen_right : Nat → Int32) (t_plan_size : Int32) (t_plan_left : Nat → Int32) (t_plan_right : Nat → Int32) (t_book_size : Int32) (t_book_left : Nat → Int32) (t_book_right : Nat → Int32) (p1_stopCount : Int32) (p1_metric : Int32) (p1_fixed : Int32) (p1_facts : Nat → Int32) (p1_roundsOf : Nat → Int32) (p1_locked : Nat → Int32) (p1_rules : Nat → Int32) (p1_sizes : Nat → Int32) (p1_rows : Nat → Int32) (p1_seen_size : Int32) (p1_seen_left : Nat → Int32) (p1_seen_right : Nat → Int32) (p1_plan_size : Int32) (p1_plan_left : Nat → Int32) (p1_plan_right : Nat → Int32) (p1_book_size : Int32) (p1_book_left : Nat → Int32) (p1_book_right : Nat → Int32) : va_W := [(a_t, ob 6 [.ref a_t_facts, .ref a_t_roundsOf, .ref a_t_locked, .ref a_t_rules, .ref a_t_sizes, .ref a_t_rows, .ref a_t_seen, .ref a_t_plan, .ref a_t_book, .int t_stopCount, .int t_metric, .int t_fixed]), (a_t_facts, aI G 102 t_facts), (a_t_roundsOf, aI G 16 t_roundsOf), (a_t_locked, aZ G 16 t_locked), (a_t_rules, aI G 12 t_rules), (a_t_sizes, aI G 4 t_sizes), (a_t_rows, aI G 64 t_rows), (a_t_seen, ob 3 [.ref a_t_seen_left, .ref a_t_seen_right, .int t_seen_size]), (a_t_seen_left, aI G 8 t_seen_left), (a_t_seen_right, aI G 8 t_seen_right), (a_t_plan, ob 3 [.ref a_t_plan_left, .ref a_t_plan_right, .int t_plan_size]), (a_t_plan_left, aI G 8 t_plan_left), (a_t_plan_right, aI G 8 t_plan_right), (a_t_book, ob 3 [.ref a_t_book_left, .ref a_t_book_right, .int t_book_size]), (a_t_book_left, aI G 8 t_book_left), (a_t_book_right, aI G 8 t_book_right), (a_p1, ob 6 [.ref a_p1_facts, .ref a_p1_roundsOf, .ref a_p1_locked, .ref a_p1_rules, .ref a_p1_sizes, .ref a_p1_rows, .ref a_p1_seen, .ref a_p1_plan, .ref a_p1_book, .int p1_stopCount, .int p1_metric, .int p1_fixed]), (a_p1_facts, aI G 102 p1_facts), (a_p1_roundsOf, aI G 16 p1_roundsOf), (a_p1_locked, aZ G 16 p1_locked), (a_p1_rules, aI G 12 p1_rules), (a_p1_sizes, aI G 4 p1_sizes), (a_p1_rows, aI G 64 p1_rows), (a_p1_seen, ob 3 [.ref a_p1_seen_left, .ref a_p1_seen_right, .int p1_seen_size]), (a_p1_seen_left, aI G 8 p1_seen_left), (a_p1_seen_right, aI G 8 p1_seen_right), (a_p1_plan, ob 3 [.ref a_p1_plan_left, .ref a_p1_plan_right, .int p1_plan_size]), (a_p1_plan_left, aI G 8 p1_plan_left), (a_p1_plan_right, aI G 8 p1_plan_right), (a_p1_book, ob 3 [.ref a_p1_book_left, .ref a_p1_book_right, .int p1_book_size]), (a_p1_book_left, aI G 8 p1_book_left), (a_p1_book_right, aI G 8 p1_book_right)]
theorem u_X6_copyFrom_X7_copyRow_52 {s : State} {args : Array Value} (hts : ∀ w ∈ WU, w.before args s = true) (hN : Nx s) : va_CN rm_X6_copyFrom s args RX6 52 yX7_copyRow RX7 cX7_copyRow 3 none (kw_X7_copyRow :: WU) rm_X7_copyRow 0 0 2 ∧ (Cond.static yX7_copyRow).before args s = true ∧ True := ⟨va_cnB 2 hts (gW qc_X7_copyRow) rfl rfl rfl (hN.1 _ (by decide +kernel : (RX6, 52, yX7_copyRow) ∈ nstM)) (hts _ qn_7) (by decide +kernel) ⟨Nat.le_of_ble_eq_true rfl, Nat.le_of_ble_eq_true rfl⟩, hts _ qs_X7_copyRow, trivial⟩
theorem u_X6_copyFrom_X3_copyFrom_56 {s : State} {args : Array Value} (hts : ∀ w ∈ WU, w.before args s = true) : CallW rm_X6_copyFrom s args RX6 RX3 56 yX3_copyFrom cX3_copyFrom 2 none (kw_X3_copyFrom :: WU) rm_X3_copyFrom 0 0 1 := cwV 1 hts (gV qm_6_56 qi_X3_copyFrom ql_X3_copyFrom qn_3 qc_X3_copyFrom) rfl rfl rfl (by decide +kernel) ⟨Nat.le_of_ble_eq_true rfl, Nat.le_of_ble_eq_true rfl⟩
section
variable {p : Program} {l : Launch} {e : Env} {s : State} {m : MethodId} {args : Array Value} {below : List Frame} {meth : Method} {c : Code} {A : Nat → Prop} {G : GE} {a_t a_t_facts a_t_roundsOf a_t_locked a_t_rules a_t_sizes a_t_rows a_t_seen a_t_plan a_t_book a_t_seen_left a_t_seen_right a_t_plan_left a_t_plan_right a_t_book_left a_t_book_right a_p1 a_p1_facts a_p1_roundsOf a_p1_locked a_p1_rules a_p1_sizes a_p1_rows a_p1_seen a_p1_plan a_p1_book a_p1_seen_left a_p1_seen_right a_p1_plan_left a_p1_plan_right a_p1_book_left a_p1_book_right : Nat} {z_t_facts : Nat → Int32} {z_t_roundsOf : Nat → Int32} {z_t_locked : Nat → Int32} {z_t_rules : Nat → Int32} {z_t_sizes : Nat → Int32} {z_t_rows : Nat → Int32} {z_t_seen_left : Nat → Int32} {z_t_seen_right : Nat → Int32} {z_t_seen_size : Int32} {z_t_plan_left : Nat → Int32} {z_t_plan_right : Nat → Int32} {z_t_plan_size : Int32} {z_t_book_left : Nat → Int32} {z_t_book_right : Nat → Int32} {z_t_book_size : Int32} {z_t_stopCount : Int32} {z_t_metric : Int32} {z_t_fixed : Int32}
set_option maxRecDepth 100000 in
set_option maxHeartbeats 4000000 in
theorem k_X6_copyFrom_57 (C : Cx p s m args meth c cX6_copyFrom none 3 RX6 G A) (t_stopCount : Int32) (t_metric : Int32) (t_fixed : Int32) (t_facts : Nat → Int32) (t_roundsOf : Nat → Int32) (t_locked : Nat → Int32) (t_rules : Nat → Int32) (t_sizes : Nat → Int32) (t_rows : Nat → Int32) (t_seen_size : Int32) (t_seen_left : Nat → Int32) (t_seen_right : Nat → Int32) (t_plan_size : Int32) (t_plan_left : Nat → Int32) (t_plan_right : Nat → Int32) (t_book_size : Int32) (t_book_left : Nat → Int32) (t_book_right : Nat → Int32) (p1_stopCount : Int32) (p1_metric : Int32) (p1_fixed : Int32) (p1_facts : Nat → Int32) (p1_roundsOf : Nat → Int32) (p1_locked : Nat → Int32) (p1_rules : Nat → Int32) (p1_sizes : Nat → Int32) (p1_rows : Nat → Int32) (p1_seen_size : Int32) (p1_seen_left : Nat → Int32) (p1_seen_right : Nat → Int32) (p1_plan_size : Int32) (p1_plan_left : Nat → Int32) (p1_plan_right : Nat → Int32) (p1_book_size : Int32) (p1_book_left : Nat → Int32) (p1_book_right : Nat → Int32) (x2 : Int32) (k57 : Int32 × (Nat → Int32) → Option ((Nat → Int32) × (Nat → Int32) × (Nat → Int32) × (Nat → Int32) × (Nat → Int32) × (Nat → Int32) × (Nat → Int32) × (Nat → Int32) × Int32 × (Nat → Int32) × (Nat → Int32) × Int32 × (Nat → Int32) × (Nat → Int32) × Int32 × Int32 × Int32 × Int32)) (hk57 : ∀ {H : Heap} {locs : List Loc} {ls : Array Slot} (x2' : Int32) (t_locked' : Nat → Int32), k57 (x2', t_locked') = some (z_t_facts, z_t_roundsOf, z_t_locked, z_t_rules, z_t_sizes, z_t_rows, z_t_seen_left, z_t_seen_right, z_t_seen_size, z_t_plan_left, z_t_plan_right, z_t_plan_size, z_t_book_left, z_t_book_right, z_t_book_size, z_t_stopCount, z_t_metric, z_t_fixed) → St G A s.heap H locs (w_X6_copyFrom G a_t a_t_facts a_t_roundsOf a_t_locked a_t_rules a_t_sizes a_t_rows a_t_seen a_t_plan a_t_book a_t_seen_left a_t_seen_right a_t_plan_left a_t_plan_right a_t_book_left a_t_book_right a_p1 a_p1_facts a_p1_roundsOf a_p1_locked a_p1_rules a_p1_sizes a_p1_rows a_p1_seen a_p1_plan a_p1_book a_p1_seen_left a_p1_seen_right a_p1_plan_left a_p1_plan_right a_p1_book_left a_p1_book_right t_stopCount t_metric t_fixed t_facts t_roundsOf t_locked' t_rules t_sizes t_rows t_seen_size t_seen_left t_seen_right t_plan_size t_plan_left t_plan_right t_book_size t_book_left t_book_right p1_stopCount p1_metric p1_fixed p1_facts p1_roundsOf p1_locked p1_rules p1_sizes p1_rows p1_seen_size p1_seen_left p1_seen_right p1_plan_size p1_plan_left p1_plan_right p1_book_size p1_book_left p1_book_right) → lv_has ls 3 [(0, .ref a_t), (1, .ref a_p1), (2, .int x2')] → W p l e rm_X6_copyFrom s m args below meth c H locs 0 0 (QV G below args s A (w_X6_copyFrom G a_t a_t_facts a_t_roundsOf a_t_locked a_t_rules a_t_sizes a_t_rows a_t_seen a_t_plan a_t_book a_t_seen_left a_t_seen_right a_t_plan_left a_t_plan_right a_t_book_left a_t_book_right a_p1 a_p1_facts a_p1_roundsOf a_p1_locked a_p1_rules a_p1_sizes a_p1_rows a_p1_seen a_p1_plan a_p1_book a_p1_seen_left a_p1_seen_right a_p1_plan_left a_p1_plan_right a_p1_book_left a_p1_book_right z_t_stopCount z_t_metric z_t_fixed z_t_facts z_t_roundsOf z_t_locked z_t_rules z_t_sizes z_t_rows z_t_seen_size z_t_seen_left z_t_seen_right z_t_plan_size z_t_plan_left z_t_plan_right z_t_book_size z_t_book_left z_t_book_right p1_stopCount p1_metric p1_fixed p1_facts p1_roundsOf p1_locked p1_rules p1_sizes p1_rows p1_seen_size p1_seen_left p1_seen_right p1_plan_size p1_plan_left p1_plan_right p1_book_size p1_book_left p1_book_right)) (F0 m 57 ls [])) {H : Heap} {locs : List Loc} {ls : Array Slot} (hf : b_X6_copyFrom_57 t_facts t_roundsOf t_rules t_sizes t_rows t_seen_left t_seen_right t_plan_left t_plan_right t_book_left t_book_right p1_locked p1_seen_left p1_seen_right p1_seen_size p1_plan_left p1_plan_right p1_plan_size p1_book_left p1_book_right p1_book_size p1_stopCount p1_metric p1_fixed k57 x2 t_locked = some (z_t_facts, z_t_roundsOf, z_t_locked, z_t_rules, z_t_sizes, z_t_rows, z_t_seen_left, z_t_seen_right, z_t_seen_size, z_t_plan_left, z_t_plan_right, z_t_plan_size, z_t_book_left, z_t_book_right, z_t_book_size, z_t_stopCount, z_t_metric, z_t_fixed)) (S : St G A s.heap H locs (w_X6_copyFrom G a_t a_t_facts a_t_roundsOf a_t_locked a_t_rules a_t_sizes a_t_rows a_t_seen a_t_plan a_t_book a_t_seen_left a_t_seen_right a_t_plan_left a_t_plan_right a_t_book_left a_t_book_right a_p1 a_p1_facts a_p1_roundsOf a_p1_locked a_p1_rules a_p1_sizes a_p1_rows a_p1_seen a_p1_plan a_p1_book a_p1_seen_left a_p1_seen_right a_p1_plan_left a_p1_plan_right a_p1_book_left a_p1_book_right t_stopCount t_metric t_fixed t_facts t_roundsOf t_locked t_rules t_sizes t_rows t_seen_size t_seen_left t_seen_right t_plan_size t_plan_left t_plan_right t_book_size t_book_left t_book_right p1_stopCount p1_metric p1_fixed p1_facts p1_roundsOf p1_locked p1_rules p1_sizes p1_rows p1_seen_size p1_seen_left p1_seen_right p1_plan_size p1_plan_left p1_plan_right p1_book_size p1_book_left p1_book_right)) (hl : lv_has ls 3 [(0, .ref a_t), (1, .ref a_p1), (2, .int x2)]) : W p l e rm_X6_copyFrom s m args below meth c H locs 0 0 (QV G below args s A (w_X6_copyFrom G a_t a_t_facts a_t_roundsOf a_t_locked a_t_rules a_t_sizes a_t_rows a_t_seen a_t_plan a_t_book a_t_seen_left a_t_seen_right a_t_plan_left a_t_plan_right a_t_book_left a_t_book_right a_p1 a_p1_facts a_p1_roundsOf a_p1_locked a_p1_rules a_p1_sizes a_p1_rows a_p1_seen a_p1_plan a_p1_book a_p1_seen_left a_p1_seen_right a_p1_plan_left a_p1_plan_right a_p1_book_left a_p1_book_right z_t_stopCount z_t_metric z_t_fixed z_t_facts z_t_roundsOf z_t_locked z_t_rules z_t_sizes z_t_rows z_t_seen_size z_t_seen_left z_t_seen_right z_t_plan_size z_t_plan_left z_t_plan_right z_t_book_size z_t_book_left z_t_book_right p1_stopCount p1_metric p1_fixed p1_facts p1_roundsOf p1_locked p1_rules p1_sizes p1_rows p1_seen_size p1_seen_left p1_seen_right p1_plan_size p1_plan_left p1_plan_right p1_book_size p1_book_left p1_book_right)) (F0 m 57 ls []) := by
  unfold b_X6_copyFrom_57 at hf
  have hx := C.1
  have hb := C.2.1
  have hown := C.2.2.2.2.1
  have hts := C.2.2.2.2.2.1
  have hN := C.2.2.2.2.2.2.2.2.2.2
  refine lv_iload_n (pc := 57) hx hb dX6_copyFrom_57 rfl (lv_at hl 2 rfl) ?_
  refine lv_bipush (pc := 58) hx hb dX6_copyFrom_58 bc_16 ?_
  refine lv_icmp_ge (tgt := 81) (pc := 60) hx hb dX6_copyFrom_60 (by decide) (fun c1 => ?_) (fun c1 => ?_)
  · have hf := ifp c1 hf
    refine lv_aload_n (pc := 81) hx hb dX6_copyFrom_81 rfl (lv_at hl 0 rfl) ?_
    refine x_get (pc := 82) (ci := 6) (T := TX6) (v := .ref a_t_seen) C S 0 rfl rfl inlX6 6 (by decide) rfl qf_6_34 rfl dX6_copyFrom_82 ?_
    refine lv_aload_n (pc := 85) hx hb dX6_copyFrom_85 rfl (lv_at hl 1 rfl) ?_
    refine x_get (pc := 86) (ci := 6) (T := TX6) (v := .ref a_p1_seen) C S 16 rfl rfl inlX6 6 (by decide) rfl qf_6_34 rfl dX6_copyFrom_86 ?_
    obtain ⟨⟨o2_t_seen_left, o2_t_seen_right, o2_t_seen_size⟩, hq2, hf⟩ := bd_e hf
    refine x_vV (pc := 89) (As := [.ref a_p1_seen]) (rest := []) (isC := [7, 8, 9, 23, 24, 25]) (ws' := (w_X6_copyFrom G a_t a_t_facts a_t_roundsOf a_t_locked a_t_rules a_t_sizes a_t_rows a_t_seen a_t_plan a_t_book a_t_seen_left a_t_seen_right a_t_plan_left a_t_plan_right a_t_book_left a_t_book_right a_p1 a_p1_facts a_p1_roundsOf a_p1_locked a_p1_rules a_p1_sizes a_p1_rows a_p1_seen a_p1_plan a_p1_book a_p1_seen_left a_p1_seen_right a_p1_plan_left a_p1_plan_right a_p1_book_left a_p1_book_right t_stopCount t_metric t_fixed t_facts t_roundsOf t_locked t_rules t_sizes t_rows o2_t_seen_size o2_t_seen_left o2_t_seen_right t_plan_size t_plan_left t_plan_right t_book_size t_book_left t_book_right p1_stopCount p1_metric p1_fixed p1_facts p1_roundsOf p1_locked p1_rules p1_sizes p1_rows p1_seen_size p1_seen_left p1_seen_right p1_plan_size p1_plan_left p1_plan_right p1_book_size p1_book_left p1_book_right)) C S (c_X3_copyFrom l G a_t_seen a_t_seen_left a_t_seen_right a_p1_seen a_p1_seen_left a_p1_seen_right t_seen_size t_seen_left t_seen_right p1_seen_size p1_seen_left p1_seen_right o2_t_seen_left o2_t_seen_right o2_t_seen_size hq2) (u_X6_copyFrom_X3_copyFrom_56 hts) (ci := 3) rfl 7 rfl rfl (by decide +kernel) [none, none, none, none, none, none, none, some 0, some 1, some 2, none, none, none, none, none, none, none, none, none, none, none, none, none, some 3, some 4, some 5, none, none, none, none, none, none] (by decide +kernel) rfl rfl rfl hl.1 rfl (Nat.le_of_ble_eq_true rfl) dX6_copyFrom_89 (fun H locs S => ?_)
    refine lv_aload_n (pc := 92) hx hb dX6_copyFrom_92 rfl (lv_at hl 0 rfl) ?_
    refine x_get (pc := 93) (ci := 6) (T := TX6) (v := .ref a_t_plan) C S 0 rfl rfl inlX6 7 (by decide) rfl qf_6_38 rfl dX6_copyFrom_93 ?_
    refine lv_aload_n (pc := 96) hx hb dX6_copyFrom_96 rfl (lv_at hl 1 rfl) ?_
    refine x_get (pc := 97) (ci := 6) (T := TX6) (v := .ref a_p1_plan) C S 16 rfl rfl inlX6 7 (by decide) rfl qf_6_38 rfl dX6_copyFrom_97 ?_
    obtain ⟨⟨o3_t_plan_left, o3_t_plan_right, o3_t_plan_size⟩, hq3, hf⟩ := bd_e hf
    refine x_vV (pc := 100) (As := [.ref a_p1_plan]) (rest := []) (isC := [10, 11, 12, 26, 27, 28]) (ws' := (w_X6_copyFrom G a_t a_t_facts a_t_roundsOf a_t_locked a_t_rules a_t_sizes a_t_rows a_t_seen a_t_plan a_t_book a_t_seen_left a_t_seen_right a_t_plan_left a_t_plan_right a_t_book_left a_t_book_right a_p1 a_p1_facts a_p1_roundsOf a_p1_locked a_p1_rules a_p1_sizes a_p1_rows a_p1_seen a_p1_plan a_p1_book a_p1_seen_left a_p1_seen_right a_p1_plan_left a_p1_plan_right a_p1_book_left a_p1_book_right t_stopCount t_metric t_fixed t_facts t_roundsOf t_locked t_rules t_sizes t_rows o2_t_seen_size o2_t_seen_left o2_t_seen_right o3_t_plan_size o3_t_plan_left o3_t_plan_right t_book_size t_book_left t_book_right p1_stopCount p1_metric p1_fixed p1_facts p1_roundsOf p1_locked p1_rules p1_sizes p1_rows p1_seen_size p1_seen_left p1_seen_right p1_plan_size p1_plan_left p1_plan_right p1_book_size p1_book_left p1_book_right)) C S (c_X3_copyFrom l G a_t_plan a_t_plan_left a_t_plan_right a_p1_plan a_p1_plan_left a_p1_plan_right t_plan_size t_plan_left t_plan_right p1_plan_size p1_plan_left p1_plan_right o3_t_plan_left o3_t_plan_right o3_t_plan_size hq3) (u_X6_copyFrom_X3_copyFrom_56 hts) (ci := 3) rfl 10 rfl rfl (by decide +kernel) [none, none, none, none, none, none, none, none, none, none, some 0, some 1, some 2, none, none, none, none, none, none, none, none, none, none, none, none, none, some 3, some 4, some 5, none, none, none] (by decide +kernel) rfl rfl rfl hl.1 rfl (Nat.le_of_ble_eq_true rfl) dX6_copyFrom_100 (fun H locs S => ?_)
    refine lv_aload_n (pc := 103) hx hb dX6_copyFrom_103 rfl (lv_at hl 0 rfl) ?_
    refine x_get (pc := 104) (ci := 6) (T := TX6) (v := .ref a_t_book) C S 0 rfl rfl inlX6 8 (by decide) rfl qf_6_41 rfl dX6_copyFrom_104 ?_
    refine lv_aload_n (pc := 107) hx hb dX6_copyFrom_107 rfl (lv_at hl 1 rfl) ?_
    refine x_get (pc := 108) (ci := 6) (T := TX6) (v := .ref a_p1_book) C S 16 rfl rfl inlX6 8 (by decide) rfl qf_6_41 rfl dX6_copyFrom_108 ?_
    obtain ⟨⟨o4_t_book_left, o4_t_book_right, o4_t_book_size⟩, hq4, hf⟩ := bd_e hf
    refine x_vV (pc := 111) (As := [.ref a_p1_book]) (rest := []) (isC := [13, 14, 15, 29, 30, 31]) (ws' := (w_X6_copyFrom G a_t a_t_facts a_t_roundsOf a_t_locked a_t_rules a_t_sizes a_t_rows a_t_seen a_t_plan a_t_book a_t_seen_left a_t_seen_right a_t_plan_left a_t_plan_right a_t_book_left a_t_book_right a_p1 a_p1_facts a_p1_roundsOf a_p1_locked a_p1_rules a_p1_sizes a_p1_rows a_p1_seen a_p1_plan a_p1_book a_p1_seen_left a_p1_seen_right a_p1_plan_left a_p1_plan_right a_p1_book_left a_p1_book_right t_stopCount t_metric t_fixed t_facts t_roundsOf t_locked t_rules t_sizes t_rows o2_t_seen_size o2_t_seen_left o2_t_seen_right o3_t_plan_size o3_t_plan_left o3_t_plan_right o4_t_book_size o4_t_book_left o4_t_book_right p1_stopCount p1_metric p1_fixed p1_facts p1_roundsOf p1_locked p1_rules p1_sizes p1_rows p1_seen_size p1_seen_left p1_seen_right p1_plan_size p1_plan_left p1_plan_right p1_book_size p1_book_left p1_book_right)) C S (c_X3_copyFrom l G a_t_book a_t_book_left a_t_book_right a_p1_book a_p1_book_left a_p1_book_right t_book_size t_book_left t_book_right p1_book_size p1_book_left p1_book_right o4_t_book_left o4_t_book_right o4_t_book_size hq4) (u_X6_copyFrom_X3_copyFrom_56 hts) (ci := 3) rfl 13 rfl rfl (by decide +kernel) [none, none, none, none, none, none, none, none, none, none, none, none, none, some 0, some 1, some 2, none, none, none, none, none, none, none, none, none, none, none, none, none, some 3, some 4, some 5] (by decide +kernel) rfl rfl rfl hl.1 rfl (Nat.le_of_ble_eq_true rfl) dX6_copyFrom_111 (fun H locs S => ?_)
    refine lv_aload_n (pc := 114) hx hb dX6_copyFrom_114 rfl (lv_at hl 0 rfl) ?_
    refine lv_aload_n (pc := 115) hx hb dX6_copyFrom_115 rfl (lv_at hl 1 rfl) ?_
    refine x_get (pc := 116) (ci := 6) (T := TX6) (v := .int p1_stopCount) C S 16 rfl rfl inlX6 9 (by decide) rfl qf_6_60 rfl dX6_copyFrom_116 ?_
    refine x_put (pc := 119) (ci := 6) (T := TX6) (ws' := (w_X6_copyFrom G a_t a_t_facts a_t_roundsOf a_t_locked a_t_rules a_t_sizes a_t_rows a_t_seen a_t_plan a_t_book a_t_seen_left a_t_seen_right a_t_plan_left a_t_plan_right a_t_book_left a_t_book_right a_p1 a_p1_facts a_p1_roundsOf a_p1_locked a_p1_rules a_p1_sizes a_p1_rows a_p1_seen a_p1_plan a_p1_book a_p1_seen_left a_p1_seen_right a_p1_plan_left a_p1_plan_right a_p1_book_left a_p1_book_right p1_stopCount t_metric t_fixed t_facts t_roundsOf t_locked t_rules t_sizes t_rows o2_t_seen_size o2_t_seen_left o2_t_seen_right o3_t_plan_size o3_t_plan_left o3_t_plan_right o4_t_book_size o4_t_book_left o4_t_book_right p1_stopCount p1_metric p1_fixed p1_facts p1_roundsOf p1_locked p1_rules p1_sizes p1_rows p1_seen_size p1_seen_left p1_seen_right p1_plan_size p1_plan_left p1_plan_right p1_book_size p1_book_left p1_book_right)) C S tyX6 tyX6_ok nmX6 0 rfl rfl inlX6 9 (by decide) rfl qf_6_60 rfl rfl rfl rfl (Nat.le_of_ble_eq_true rfl) rfl dX6_copyFrom_119 (fun H locs S => ?_)
    refine lv_aload_n (pc := 122) hx hb dX6_copyFrom_122 rfl (lv_at hl 0 rfl) ?_
    refine lv_aload_n (pc := 123) hx hb dX6_copyFrom_123 rfl (lv_at hl 1 rfl) ?_
    refine x_get (pc := 124) (ci := 6) (T := TX6) (v := .int p1_metric) C S 16 rfl rfl inlX6 10 (by decide) rfl qf_6_64 rfl dX6_copyFrom_124 ?_
    refine x_put (pc := 127) (ci := 6) (T := TX6) (ws' := (w_X6_copyFrom G a_t a_t_facts a_t_roundsOf a_t_locked a_t_rules a_t_sizes a_t_rows a_t_seen a_t_plan a_t_book a_t_seen_left a_t_seen_right a_t_plan_left a_t_plan_right a_t_book_left a_t_book_right a_p1 a_p1_facts a_p1_roundsOf a_p1_locked a_p1_rules a_p1_sizes a_p1_rows a_p1_seen a_p1_plan a_p1_book a_p1_seen_left a_p1_seen_right a_p1_plan_left a_p1_plan_right a_p1_book_left a_p1_book_right p1_stopCount p1_metric t_fixed t_facts t_roundsOf t_locked t_rules t_sizes t_rows o2_t_seen_size o2_t_seen_left o2_t_seen_right o3_t_plan_size o3_t_plan_left o3_t_plan_right o4_t_book_size o4_t_book_left o4_t_book_right p1_stopCount p1_metric p1_fixed p1_facts p1_roundsOf p1_locked p1_rules p1_sizes p1_rows p1_seen_size p1_seen_left p1_seen_right p1_plan_size p1_plan_left p1_plan_right p1_book_size p1_book_left p1_book_right)) C S tyX6 tyX6_ok nmX6 0 rfl rfl inlX6 10 (by decide) rfl qf_6_64 rfl rfl rfl rfl (Nat.le_of_ble_eq_true rfl) rfl dX6_copyFrom_127 (fun H locs S => ?_)
    refine lv_aload_n (pc := 130) hx hb dX6_copyFrom_130 rfl (lv_at hl 0 rfl) ?_
    refine lv_aload_n (pc := 131) hx hb dX6_copyFrom_131 rfl (lv_at hl 1 rfl) ?_
    refine x_get (pc := 132) (ci := 6) (T := TX6) (v := .int p1_fixed) C S 16 rfl rfl inlX6 11 (by decide) rfl qf_6_67 rfl dX6_copyFrom_132 ?_
    refine x_put (pc := 135) (ci := 6) (T := TX6) (ws' := (w_X6_copyFrom G a_t a_t_facts a_t_roundsOf a_t_locked a_t_rules a_t_sizes a_t_rows a_t_seen a_t_plan a_t_book a_t_seen_left a_t_seen_right a_t_plan_left a_t_plan_right a_t_book_left a_t_book_right a_p1 a_p1_facts a_p1_roundsOf a_p1_locked a_p1_rules a_p1_sizes a_p1_rows a_p1_seen a_p1_plan a_p1_book a_p1_seen_left a_p1_seen_right a_p1_plan_left a_p1_plan_right a_p1_book_left a_p1_book_right p1_stopCount p1_metric p1_fixed t_facts t_roundsOf t_locked t_rules t_sizes t_rows o2_t_seen_size o2_t_seen_left o2_t_seen_right o3_t_plan_size o3_t_plan_left o3_t_plan_right o4_t_book_size o4_t_book_left o4_t_book_right p1_stopCount p1_metric p1_fixed p1_facts p1_roundsOf p1_locked p1_rules p1_sizes p1_rows p1_seen_size p1_seen_left p1_seen_right p1_plan_size p1_plan_left p1_plan_right p1_book_size p1_book_left p1_book_right)) C S tyX6 tyX6_ok nmX6 0 rfl rfl inlX6 11 (by decide) rfl qf_6_67 rfl rfl rfl rfl (Nat.le_of_ble_eq_true rfl) rfl dX6_copyFrom_135 (fun H locs S => ?_)
    cases hf
    exact x_vret (pc := 138) C S dX6_copyFrom_138
  · have hf := ifn c1 hf
    refine lv_aload_n (pc := 63) hx hb dX6_copyFrom_63 rfl (lv_at hl 0 rfl) ?_
    refine x_get (pc := 64) (ci := 6) (T := TX6) (v := .ref a_t_locked) C S 0 rfl rfl inlX6 2 (by decide) rfl qf_6_18 rfl dX6_copyFrom_64 ?_
    refine lv_iload_n (pc := 67) hx hb dX6_copyFrom_67 rfl (lv_at hl 2 rfl) ?_
    refine lv_aload_n (pc := 68) hx hb dX6_copyFrom_68 rfl (lv_at hl 1 rfl) ?_
    refine x_get (pc := 69) (ci := 6) (T := TX6) (v := .ref a_p1_locked) C S 16 rfl rfl inlX6 2 (by decide) rfl qf_6_18 rfl dX6_copyFrom_69 ?_
    refine lv_iload_n (pc := 72) hx hb dX6_copyFrom_72 rfl (lv_at hl 2 rfl) ?_
    obtain ⟨hv5, hf⟩ := gI_e hf
    refine x_zald (pc := 73) C S 19 rfl hv5 dX6_copyFrom_73 ?_
    refine x_zast (pc := 74) (ws' := (w_X6_copyFrom G a_t a_t_facts a_t_roundsOf a_t_locked a_t_rules a_t_sizes a_t_rows a_t_seen a_t_plan a_t_book a_t_seen_left a_t_seen_right a_t_plan_left a_t_plan_right a_t_book_left a_t_book_right a_p1 a_p1_facts a_p1_roundsOf a_p1_locked a_p1_rules a_p1_sizes a_p1_rows a_p1_seen a_p1_plan a_p1_book a_p1_seen_left a_p1_seen_right a_p1_plan_left a_p1_plan_right a_p1_book_left a_p1_book_right t_stopCount t_metric t_fixed t_facts t_roundsOf (upd t_locked x2.toNatClampNeg (vp_nar .boolean (p1_locked x2.toNatClampNeg))) t_rules t_sizes t_rows t_seen_size t_seen_left t_seen_right t_plan_size t_plan_left t_plan_right t_book_size t_book_left t_book_right p1_stopCount p1_metric p1_fixed p1_facts p1_roundsOf p1_locked p1_rules p1_sizes p1_rows p1_seen_size p1_seen_left p1_seen_right p1_plan_size p1_plan_left p1_plan_right p1_book_size p1_book_left p1_book_right)) C S 3 rfl hv5 rfl dX6_copyFrom_74 (fun H locs S => ?_)
    refine lv_iinc (pc := 75) (v := (x2 + (1 : Int32))) (lv' := [(2, .int (x2 + (1 : Int32))), (0, .ref a_t), (1, .ref a_p1)]) hx hb dX6_copyFrom_75 hl (k := 2) rfl (congrArg (fun z => x2 + z) ic_1) (by decide) rfl (fun ls hl => ?_)
    refine lv_goto (tgt := 57) (pc := 78) hx hb dX6_copyFrom_78 (by decide) ?_
    exact hk57 ((x2 + (1 : Int32))) ((upd t_locked x2.toNatClampNeg (vp_nar .boolean (p1_locked x2.toNatClampNeg))))  hf S (lv_sub hl [1, 2, 0] rfl)
set_option maxRecDepth 100000 in
set_option maxHeartbeats 4000000 in
theorem h_X6_copyFrom_57 (C : Cx p s m args meth c cX6_copyFrom none 3 RX6 G A) (t_stopCount : Int32) (t_metric : Int32) (t_fixed : Int32) (t_facts : Nat → Int32) (t_roundsOf : Nat → Int32) (t_rules : Nat → Int32) (t_sizes : Nat → Int32) (t_rows : Nat → Int32) (t_seen_size : Int32) (t_seen_left : Nat → Int32) (t_seen_right : Nat → Int32) (t_plan_size : Int32) (t_plan_left : Nat → Int32) (t_plan_right : Nat → Int32) (t_book_size : Int32) (t_book_left : Nat → Int32) (t_book_right : Nat → Int32) (p1_stopCount : Int32) (p1_metric : Int32) (p1_fixed : Int32) (p1_facts : Nat → Int32) (p1_roundsOf : Nat → Int32) (p1_locked : Nat → Int32) (p1_rules : Nat → Int32) (p1_sizes : Nat → Int32) (p1_rows : Nat → Int32) (p1_seen_size : Int32) (p1_seen_left : Nat → Int32) (p1_seen_right : Nat → Int32) (p1_plan_size : Int32) (p1_plan_left : Nat → Int32) (p1_plan_right : Nat → Int32) (p1_book_size : Int32) (p1_book_left : Nat → Int32) (p1_book_right : Nat → Int32) : ∀ (n : Nat) (x2 : Int32) (t_locked : Nat → Int32) {H : Heap} {locs : List Loc} {ls : Array Slot} (hf : lp (fun k x => b_X6_copyFrom_57 t_facts t_roundsOf t_rules t_sizes t_rows t_seen_left t_seen_right t_plan_left t_plan_right t_book_left t_book_right p1_locked p1_seen_left p1_seen_right p1_seen_size p1_plan_left p1_plan_right p1_plan_size p1_book_left p1_book_right p1_book_size p1_stopCount p1_metric p1_fixed k x.1 x.2) n (x2, t_locked) = some (z_t_facts, z_t_roundsOf, z_t_locked, z_t_rules, z_t_sizes, z_t_rows, z_t_seen_left, z_t_seen_right, z_t_seen_size, z_t_plan_left, z_t_plan_right, z_t_plan_size, z_t_book_left, z_t_book_right, z_t_book_size, z_t_stopCount, z_t_metric, z_t_fixed)) (S : St G A s.heap H locs (w_X6_copyFrom G a_t a_t_facts a_t_roundsOf a_t_locked a_t_rules a_t_sizes a_t_rows a_t_seen a_t_plan a_t_book a_t_seen_left a_t_seen_right a_t_plan_left a_t_plan_right a_t_book_left a_t_book_right a_p1 a_p1_facts a_p1_roundsOf a_p1_locked a_p1_rules a_p1_sizes a_p1_rows a_p1_seen a_p1_plan a_p1_book a_p1_seen_left a_p1_seen_right a_p1_plan_left a_p1_plan_right a_p1_book_left a_p1_book_right t_stopCount t_metric t_fixed t_facts t_roundsOf t_locked t_rules t_sizes t_rows t_seen_size t_seen_left t_seen_right t_plan_size t_plan_left t_plan_right t_book_size t_book_left t_book_right p1_stopCount p1_metric p1_fixed p1_facts p1_roundsOf p1_locked p1_rules p1_sizes p1_rows p1_seen_size p1_seen_left p1_seen_right p1_plan_size p1_plan_left p1_plan_right p1_book_size p1_book_left p1_book_right)) (hl : lv_has ls 3 [(0, .ref a_t), (1, .ref a_p1), (2, .int x2)]), W p l e rm_X6_copyFrom s m args below meth c H locs 0 0 (QV G below args s A (w_X6_copyFrom G a_t a_t_facts a_t_roundsOf a_t_locked a_t_rules a_t_sizes a_t_rows a_t_seen a_t_plan a_t_book a_t_seen_left a_t_seen_right a_t_plan_left a_t_plan_right a_t_book_left a_t_book_right a_p1 a_p1_facts a_p1_roundsOf a_p1_locked a_p1_rules a_p1_sizes a_p1_rows a_p1_seen a_p1_plan a_p1_book a_p1_seen_left a_p1_seen_right a_p1_plan_left a_p1_plan_right a_p1_book_left a_p1_book_right z_t_stopCount z_t_metric z_t_fixed z_t_facts z_t_roundsOf z_t_locked z_t_rules z_t_sizes z_t_rows z_t_seen_size z_t_seen_left z_t_seen_right z_t_plan_size z_t_plan_left z_t_plan_right z_t_book_size z_t_book_left z_t_book_right p1_stopCount p1_metric p1_fixed p1_facts p1_roundsOf p1_locked p1_rules p1_sizes p1_rows p1_seen_size p1_seen_left p1_seen_right p1_plan_size p1_plan_left p1_plan_right p1_book_size p1_book_left p1_book_right)) (F0 m 57 ls []) := by
  intro n
  induction n with
  | zero =>
    intro x2 t_locked  H locs ls hf
    cases hf
  | succ n ih =>
    intro x2 t_locked  H locs ls hf S hl
    have hf : b_X6_copyFrom_57 t_facts t_roundsOf t_rules t_sizes t_rows t_seen_left t_seen_right t_plan_left t_plan_right t_book_left t_book_right p1_locked p1_seen_left p1_seen_right p1_seen_size p1_plan_left p1_plan_right p1_plan_size p1_book_left p1_book_right p1_book_size p1_stopCount p1_metric p1_fixed (lp (fun k x => b_X6_copyFrom_57 t_facts t_roundsOf t_rules t_sizes t_rows t_seen_left t_seen_right t_plan_left t_plan_right t_book_left t_book_right p1_locked p1_seen_left p1_seen_right p1_seen_size p1_plan_left p1_plan_right p1_plan_size p1_book_left p1_book_right p1_book_size p1_stopCount p1_metric p1_fixed k x.1 x.2) n) x2 t_locked = some (z_t_facts, z_t_roundsOf, z_t_locked, z_t_rules, z_t_sizes, z_t_rows, z_t_seen_left, z_t_seen_right, z_t_seen_size, z_t_plan_left, z_t_plan_right, z_t_plan_size, z_t_book_left, z_t_book_right, z_t_book_size, z_t_stopCount, z_t_metric, z_t_fixed) := hf
    exact k_X6_copyFrom_57 C t_stopCount t_metric t_fixed t_facts t_roundsOf t_locked t_rules t_sizes t_rows t_seen_size t_seen_left t_seen_right t_plan_size t_plan_left t_plan_right t_book_size t_book_left t_book_right p1_stopCount p1_metric p1_fixed p1_facts p1_roundsOf p1_locked p1_rules p1_sizes p1_rows p1_seen_size p1_seen_left p1_seen_right p1_plan_size p1_plan_left p1_plan_right p1_book_size p1_book_left p1_book_right x2  (lp (fun k x => b_X6_copyFrom_57 t_facts t_roundsOf t_rules t_sizes t_rows t_seen_left t_seen_right t_plan_left t_plan_right t_book_left t_book_right p1_locked p1_seen_left p1_seen_right p1_seen_size p1_plan_left p1_plan_right p1_plan_size p1_book_left p1_book_right p1_book_size p1_stopCount p1_metric p1_fixed k x.1 x.2) n) (fun x2' t_locked'  h S hl => ih x2' t_locked'  h S hl) hf S hl
set_option maxRecDepth 100000 in
set_option maxHeartbeats 4000000 in
theorem c_X6_copyFrom (l : Launch) (G : GE) (a_t a_t_facts a_t_roundsOf a_t_locked a_t_rules a_t_sizes a_t_rows a_t_seen a_t_plan a_t_book a_t_seen_left a_t_seen_right a_t_plan_left a_t_plan_right a_t_book_left a_t_book_right a_p1 a_p1_facts a_p1_roundsOf a_p1_locked a_p1_rules a_p1_sizes a_p1_rows a_p1_seen a_p1_plan a_p1_book a_p1_seen_left a_p1_seen_right a_p1_plan_left a_p1_plan_right a_p1_book_left a_p1_book_right : Nat) (t_stopCount : Int32) (t_metric : Int32) (t_fixed : Int32) (t_facts : Nat → Int32) (t_roundsOf : Nat → Int32) (t_locked : Nat → Int32) (t_rules : Nat → Int32) (t_sizes : Nat → Int32) (t_rows : Nat → Int32) (t_seen_size : Int32) (t_seen_left : Nat → Int32) (t_seen_right : Nat → Int32) (t_plan_size : Int32) (t_plan_left : Nat → Int32) (t_plan_right : Nat → Int32) (t_book_size : Int32) (t_book_left : Nat → Int32) (t_book_right : Nat → Int32) (p1_stopCount : Int32) (p1_metric : Int32) (p1_fixed : Int32) (p1_facts : Nat → Int32) (p1_roundsOf : Nat → Int32) (p1_locked : Nat → Int32) (p1_rules : Nat → Int32) (p1_sizes : Nat → Int32) (p1_rows : Nat → Int32) (p1_seen_size : Int32) (p1_seen_left : Nat → Int32) (p1_seen_right : Nat → Int32) (p1_plan_size : Int32) (p1_plan_left : Nat → Int32) (p1_plan_right : Nat → Int32) (p1_book_size : Int32) (p1_book_left : Nat → Int32) (p1_book_right : Nat → Int32) (z_t_facts : Nat → Int32) (z_t_roundsOf : Nat → Int32) (z_t_locked : Nat → Int32) (z_t_rules : Nat → Int32) (z_t_sizes : Nat → Int32) (z_t_rows : Nat → Int32) (z_t_seen_left : Nat → Int32) (z_t_seen_right : Nat → Int32) (z_t_seen_size : Int32) (z_t_plan_left : Nat → Int32) (z_t_plan_right : Nat → Int32) (z_t_plan_size : Int32) (z_t_book_left : Nat → Int32) (z_t_book_right : Nat → Int32) (z_t_book_size : Int32) (z_t_stopCount : Int32) (z_t_metric : Int32) (z_t_fixed : Int32) (hf : f_X6_copyFrom t_facts t_roundsOf t_locked t_rules t_sizes t_rows t_seen_left t_seen_right t_plan_left t_plan_right t_book_left t_book_right p1_facts p1_roundsOf p1_locked p1_rules p1_sizes p1_rows p1_seen_left p1_seen_right p1_seen_size p1_plan_left p1_plan_right p1_plan_size p1_book_left p1_book_right p1_book_size p1_stopCount p1_metric p1_fixed = some (z_t_facts, z_t_roundsOf, z_t_locked, z_t_rules, z_t_sizes, z_t_rows, z_t_seen_left, z_t_seen_right, z_t_seen_size, z_t_plan_left, z_t_plan_right, z_t_plan_size, z_t_book_left, z_t_book_right, z_t_book_size, z_t_stopCount, z_t_metric, z_t_fixed)) : CV l G yX6_copyFrom kw_X6_copyFrom rm_X6_copyFrom [.ref a_t, .ref a_p1] (w_X6_copyFrom G a_t a_t_facts a_t_roundsOf a_t_locked a_t_rules a_t_sizes a_t_rows a_t_seen a_t_plan a_t_book a_t_seen_left a_t_seen_right a_t_plan_left a_t_plan_right a_t_book_left a_t_book_right a_p1 a_p1_facts a_p1_roundsOf a_p1_locked a_p1_rules a_p1_sizes a_p1_rows a_p1_seen a_p1_plan a_p1_book a_p1_seen_left a_p1_seen_right a_p1_plan_left a_p1_plan_right a_p1_book_left a_p1_book_right t_stopCount t_metric t_fixed t_facts t_roundsOf t_locked t_rules t_sizes t_rows t_seen_size t_seen_left t_seen_right t_plan_size t_plan_left t_plan_right t_book_size t_book_left t_book_right p1_stopCount p1_metric p1_fixed p1_facts p1_roundsOf p1_locked p1_rules p1_sizes p1_rows p1_seen_size p1_seen_left p1_seen_right p1_plan_size p1_plan_left p1_plan_right p1_book_size p1_book_left p1_book_right) (w_X6_copyFrom G a_t a_t_facts a_t_roundsOf a_t_locked a_t_rules a_t_sizes a_t_rows a_t_seen a_t_plan a_t_book a_t_seen_left a_t_seen_right a_t_plan_left a_t_plan_right a_t_book_left a_t_book_right a_p1 a_p1_facts a_p1_roundsOf a_p1_locked a_p1_rules a_p1_sizes a_p1_rows a_p1_seen a_p1_plan a_p1_book a_p1_seen_left a_p1_seen_right a_p1_plan_left a_p1_plan_right a_p1_book_left a_p1_book_right z_t_stopCount z_t_metric z_t_fixed z_t_facts z_t_roundsOf z_t_locked z_t_rules z_t_sizes z_t_rows z_t_seen_size z_t_seen_left z_t_seen_right z_t_plan_size z_t_plan_left z_t_plan_right z_t_book_size z_t_book_left z_t_book_right p1_stopCount p1_metric p1_fixed p1_facts p1_roundsOf p1_locked p1_rules p1_sizes p1_rows p1_seen_size p1_seen_left p1_seen_right p1_plan_size p1_plan_left p1_plan_right p1_book_size p1_book_left p1_book_right) := by
  refine en_V (cc := cX6_copyFrom) (maxL := 3) (ret := none) (by decide +kernel) (Nat.le_of_ble_eq_true rfl) ?_
  intro p e s m args below meth c A ls C S hl
  have hl : lv_has ls 3 [(0, .ref a_t), (1, .ref a_p1)] := hl
  have C : Cx p s m args meth c cX6_copyFrom none 3 RX6 G A := C
  unfold f_X6_copyFrom at hf
  have hx := C.1
  have hb := C.2.1
  have hown := C.2.2.2.2.1
  have hts := C.2.2.2.2.2.1
  have hN := C.2.2.2.2.2.2.2.2.2.2
  refine lv_aload_n (pc := 0) hx hb dX6_copyFrom_0 rfl (lv_at hl 1 rfl) ?_
  refine x_get (pc := 1) (ci := 6) (T := TX6) (v := .ref a_p1_facts) C S 16 rfl rfl inlX6 0 (by decide) rfl qf_6_9 rfl dX6_copyFrom_1 ?_
  refine lv_aload_n (pc := 4) hx hb dX6_copyFrom_4 rfl (lv_at hl 0 rfl) ?_
  refine x_get (pc := 5) (ci := 6) (T := TX6) (v := .ref a_t_facts) C S 0 rfl rfl inlX6 0 (by decide) rfl qf_6_9 rfl dX6_copyFrom_5 ?_
  obtain ⟨o1_t_facts, hq1, hf⟩ := bd_e hf
  refine x_nV (pc := 8) (As := [.ref a_p1_facts, .ref a_t_facts]) (rest := []) (isC := [17, 1]) (ws' := (w_X6_copyFrom G a_t a_t_facts a_t_roundsOf a_t_locked a_t_rules a_t_sizes a_t_rows a_t_seen a_t_plan a_t_book a_t_seen_left a_t_seen_right a_t_plan_left a_t_plan_right a_t_book_left a_t_book_right a_p1 a_p1_facts a_p1_roundsOf a_p1_locked a_p1_rules a_p1_sizes a_p1_rows a_p1_seen a_p1_plan a_p1_book a_p1_seen_left a_p1_seen_right a_p1_plan_left a_p1_plan_right a_p1_book_left a_p1_book_right t_stopCount t_metric t_fixed o1_t_facts t_roundsOf t_locked t_rules t_sizes t_rows t_seen_size t_seen_left t_seen_right t_plan_size t_plan_left t_plan_right t_book_size t_book_left t_book_right p1_stopCount p1_metric p1_fixed p1_facts p1_roundsOf p1_locked p1_rules p1_sizes p1_rows p1_seen_size p1_seen_left p1_seen_right p1_plan_size p1_plan_left p1_plan_right p1_book_size p1_book_left p1_book_right)) C S (c_X7_copyRow l G a_p1_facts a_t_facts 102 102 p1_facts t_facts o1_t_facts hq1) (u_X6_copyFrom_X7_copyRow_52 hts hN) rfl (by decide +kernel) [none, some 1, none, none, none, none, none, none, none, none, none, none, none, none, none, none, none, some 0, none, none, none, none, none, none, none, none, none, none, none, none, none, none] (by decide +kernel) rfl rfl rfl hl.1 rfl (Nat.le_of_ble_eq_true rfl) dX6_copyFrom_8 (fun H locs S => ?_)
  refine lv_aload_n (pc := 11) hx hb dX6_copyFrom_11 rfl (lv_at hl 1 rfl) ?_
  refine x_get (pc := 12) (ci := 6) (T := TX6) (v := .ref a_p1_roundsOf) C S 16 rfl rfl inlX6 1 (by decide) rfl qf_6_15 rfl dX6_copyFrom_12 ?_
  refine lv_aload_n (pc := 15) hx hb dX6_copyFrom_15 rfl (lv_at hl 0 rfl) ?_
  refine x_get (pc := 16) (ci := 6) (T := TX6) (v := .ref a_t_roundsOf) C S 0 rfl rfl inlX6 1 (by decide) rfl qf_6_15 rfl dX6_copyFrom_16 ?_
  obtain ⟨o2_t_roundsOf, hq2, hf⟩ := bd_e hf
  refine x_nV (pc := 19) (As := [.ref a_p1_roundsOf, .ref a_t_roundsOf]) (rest := []) (isC := [18, 2]) (ws' := (w_X6_copyFrom G a_t a_t_facts a_t_roundsOf a_t_locked a_t_rules a_t_sizes a_t_rows a_t_seen a_t_plan a_t_book a_t_seen_left a_t_seen_right a_t_plan_left a_t_plan_right a_t_book_left a_t_book_right a_p1 a_p1_facts a_p1_roundsOf a_p1_locked a_p1_rules a_p1_sizes a_p1_rows a_p1_seen a_p1_plan a_p1_book a_p1_seen_left a_p1_seen_right a_p1_plan_left a_p1_plan_right a_p1_book_left a_p1_book_right t_stopCount t_metric t_fixed o1_t_facts o2_t_roundsOf t_locked t_rules t_sizes t_rows t_seen_size t_seen_left t_seen_right t_plan_size t_plan_left t_plan_right t_book_size t_book_left t_book_right p1_stopCount p1_metric p1_fixed p1_facts p1_roundsOf p1_locked p1_rules p1_sizes p1_rows p1_seen_size p1_seen_left p1_seen_right p1_plan_size p1_plan_left p1_plan_right p1_book_size p1_book_left p1_book_right)) C S (c_X7_copyRow l G a_p1_roundsOf a_t_roundsOf 16 16 p1_roundsOf t_roundsOf o2_t_roundsOf hq2) (u_X6_copyFrom_X7_copyRow_52 hts hN) rfl (by decide +kernel) [none, none, some 1, none, none, none, none, none, none, none, none, none, none, none, none, none, none, none, some 0, none, none, none, none, none, none, none, none, none, none, none, none, none] (by decide +kernel) rfl rfl rfl hl.1 rfl (Nat.le_of_ble_eq_true rfl) dX6_copyFrom_19 (fun H locs S => ?_)
  refine lv_aload_n (pc := 22) hx hb dX6_copyFrom_22 rfl (lv_at hl 1 rfl) ?_
  refine x_get (pc := 23) (ci := 6) (T := TX6) (v := .ref a_p1_rules) C S 16 rfl rfl inlX6 3 (by decide) rfl qf_6_22 rfl dX6_copyFrom_23 ?_
  refine lv_aload_n (pc := 26) hx hb dX6_copyFrom_26 rfl (lv_at hl 0 rfl) ?_
  refine x_get (pc := 27) (ci := 6) (T := TX6) (v := .ref a_t_rules) C S 0 rfl rfl inlX6 3 (by decide) rfl qf_6_22 rfl dX6_copyFrom_27 ?_
  obtain ⟨o3_t_rules, hq3, hf⟩ := bd_e hf
  refine x_nV (pc := 30) (As := [.ref a_p1_rules, .ref a_t_rules]) (rest := []) (isC := [20, 4]) (ws' := (w_X6_copyFrom G a_t a_t_facts a_t_roundsOf a_t_locked a_t_rules a_t_sizes a_t_rows a_t_seen a_t_plan a_t_book a_t_seen_left a_t_seen_right a_t_plan_left a_t_plan_right a_t_book_left a_t_book_right a_p1 a_p1_facts a_p1_roundsOf a_p1_locked a_p1_rules a_p1_sizes a_p1_rows a_p1_seen a_p1_plan a_p1_book a_p1_seen_left a_p1_seen_right a_p1_plan_left a_p1_plan_right a_p1_book_left a_p1_book_right t_stopCount t_metric t_fixed o1_t_facts o2_t_roundsOf t_locked o3_t_rules t_sizes t_rows t_seen_size t_seen_left t_seen_right t_plan_size t_plan_left t_plan_right t_book_size t_book_left t_book_right p1_stopCount p1_metric p1_fixed p1_facts p1_roundsOf p1_locked p1_rules p1_sizes p1_rows p1_seen_size p1_seen_left p1_seen_right p1_plan_size p1_plan_left p1_plan_right p1_book_size p1_book_left p1_book_right)) C S (c_X7_copyRow l G a_p1_rules a_t_rules 12 12 p1_rules t_rules o3_t_rules hq3) (u_X6_copyFrom_X7_copyRow_52 hts hN) rfl (by decide +kernel) [none, none, none, none, some 1, none, none, none, none, none, none, none, none, none, none, none, none, none, none, none, some 0, none, none, none, none, none, none, none, none, none, none, none] (by decide +kernel) rfl rfl rfl hl.1 rfl (Nat.le_of_ble_eq_true rfl) dX6_copyFrom_30 (fun H locs S => ?_)
  refine lv_aload_n (pc := 33) hx hb dX6_copyFrom_33 rfl (lv_at hl 1 rfl) ?_
  refine x_get (pc := 34) (ci := 6) (T := TX6) (v := .ref a_p1_sizes) C S 16 rfl rfl inlX6 4 (by decide) rfl qf_6_25 rfl dX6_copyFrom_34 ?_
  refine lv_aload_n (pc := 37) hx hb dX6_copyFrom_37 rfl (lv_at hl 0 rfl) ?_
  refine x_get (pc := 38) (ci := 6) (T := TX6) (v := .ref a_t_sizes) C S 0 rfl rfl inlX6 4 (by decide) rfl qf_6_25 rfl dX6_copyFrom_38 ?_
  obtain ⟨o4_t_sizes, hq4, hf⟩ := bd_e hf
  refine x_nV (pc := 41) (As := [.ref a_p1_sizes, .ref a_t_sizes]) (rest := []) (isC := [21, 5]) (ws' := (w_X6_copyFrom G a_t a_t_facts a_t_roundsOf a_t_locked a_t_rules a_t_sizes a_t_rows a_t_seen a_t_plan a_t_book a_t_seen_left a_t_seen_right a_t_plan_left a_t_plan_right a_t_book_left a_t_book_right a_p1 a_p1_facts a_p1_roundsOf a_p1_locked a_p1_rules a_p1_sizes a_p1_rows a_p1_seen a_p1_plan a_p1_book a_p1_seen_left a_p1_seen_right a_p1_plan_left a_p1_plan_right a_p1_book_left a_p1_book_right t_stopCount t_metric t_fixed o1_t_facts o2_t_roundsOf t_locked o3_t_rules o4_t_sizes t_rows t_seen_size t_seen_left t_seen_right t_plan_size t_plan_left t_plan_right t_book_size t_book_left t_book_right p1_stopCount p1_metric p1_fixed p1_facts p1_roundsOf p1_locked p1_rules p1_sizes p1_rows p1_seen_size p1_seen_left p1_seen_right p1_plan_size p1_plan_left p1_plan_right p1_book_size p1_book_left p1_book_right)) C S (c_X7_copyRow l G a_p1_sizes a_t_sizes 4 4 p1_sizes t_sizes o4_t_sizes hq4) (u_X6_copyFrom_X7_copyRow_52 hts hN) rfl (by decide +kernel) [none, none, none, none, none, some 1, none, none, none, none, none, none, none, none, none, none, none, none, none, none, none, some 0, none, none, none, none, none, none, none, none, none, none] (by decide +kernel) rfl rfl rfl hl.1 rfl (Nat.le_of_ble_eq_true rfl) dX6_copyFrom_41 (fun H locs S => ?_)
  refine lv_aload_n (pc := 44) hx hb dX6_copyFrom_44 rfl (lv_at hl 1 rfl) ?_
  refine x_get (pc := 45) (ci := 6) (T := TX6) (v := .ref a_p1_rows) C S 16 rfl rfl inlX6 5 (by decide) rfl qf_6_28 rfl dX6_copyFrom_45 ?_
  refine lv_aload_n (pc := 48) hx hb dX6_copyFrom_48 rfl (lv_at hl 0 rfl) ?_
  refine x_get (pc := 49) (ci := 6) (T := TX6) (v := .ref a_t_rows) C S 0 rfl rfl inlX6 5 (by decide) rfl qf_6_28 rfl dX6_copyFrom_49 ?_
  obtain ⟨o5_t_rows, hq5, hf⟩ := bd_e hf
  refine x_nV (pc := 52) (As := [.ref a_p1_rows, .ref a_t_rows]) (rest := []) (isC := [22, 6]) (ws' := (w_X6_copyFrom G a_t a_t_facts a_t_roundsOf a_t_locked a_t_rules a_t_sizes a_t_rows a_t_seen a_t_plan a_t_book a_t_seen_left a_t_seen_right a_t_plan_left a_t_plan_right a_t_book_left a_t_book_right a_p1 a_p1_facts a_p1_roundsOf a_p1_locked a_p1_rules a_p1_sizes a_p1_rows a_p1_seen a_p1_plan a_p1_book a_p1_seen_left a_p1_seen_right a_p1_plan_left a_p1_plan_right a_p1_book_left a_p1_book_right t_stopCount t_metric t_fixed o1_t_facts o2_t_roundsOf t_locked o3_t_rules o4_t_sizes o5_t_rows t_seen_size t_seen_left t_seen_right t_plan_size t_plan_left t_plan_right t_book_size t_book_left t_book_right p1_stopCount p1_metric p1_fixed p1_facts p1_roundsOf p1_locked p1_rules p1_sizes p1_rows p1_seen_size p1_seen_left p1_seen_right p1_plan_size p1_plan_left p1_plan_right p1_book_size p1_book_left p1_book_right)) C S (c_X7_copyRow l G a_p1_rows a_t_rows 64 64 p1_rows t_rows o5_t_rows hq5) (u_X6_copyFrom_X7_copyRow_52 hts hN) rfl (by decide +kernel) [none, none, none, none, none, none, some 1, none, none, none, none, none, none, none, none, none, none, none, none, none, none, none, some 0, none, none, none, none, none, none, none, none, none] (by decide +kernel) rfl rfl rfl hl.1 rfl (Nat.le_of_ble_eq_true rfl) dX6_copyFrom_52 (fun H locs S => ?_)
  refine lv_iconst (pc := 55) hx hb dX6_copyFrom_55 ic_0 ?_
  refine lv_istore_n (pc := 56) (lv' := [(2, .int (0 : Int32)), (0, .ref a_t), (1, .ref a_p1)]) hx hb dX6_copyFrom_56 rfl hl (by decide) rfl (fun ls hl => ?_)
  exact h_X6_copyFrom_57 C (t_stopCount) (t_metric) (t_fixed) (o1_t_facts) (o2_t_roundsOf) (o3_t_rules) (o4_t_sizes) (o5_t_rows) (t_seen_size) (t_seen_left) (t_seen_right) (t_plan_size) (t_plan_left) (t_plan_right) (t_book_size) (t_book_left) (t_book_right) (p1_stopCount) (p1_metric) (p1_fixed) (p1_facts) (p1_roundsOf) (p1_locked) (p1_rules) (p1_sizes) (p1_rows) (p1_seen_size) (p1_seen_left) (p1_seen_right) (p1_plan_size) (p1_plan_left) (p1_plan_right) (p1_book_size) (p1_book_left) (p1_book_right) fu ((0 : Int32)) (t_locked) hf S (lv_sub hl [1, 2, 0] rfl)
end

abbrev rm_X6_milesOf : Room := { frames := 2, cells := 0, slots := 0, locals := 50 }
abbrev kw_X6_milesOf : Cond := .code yX6_milesOf cX6_milesOf 4 (some .int)
abbrev w_X6_milesOf (G : GE) (a_t a_t_facts a_t_roundsOf a_t_locked a_t_rules a_t_sizes a_t_rows a_t_seen a_t_plan a_t_book : Nat) (t_stopCount : Int32) (t_metric : Int32) (t_fixed : Int32) (t_facts : Nat → Int32) (t_sizes : Nat → Int32) (t_rows : Nat → Int32) : va_W := [(a_t, ob 6 [.ref a_t_facts, .ref a_t_roundsOf, .ref a_t_locked, .ref a_t_rules, .ref a_t_sizes, .ref a_t_rows, .ref a_t_seen, .ref a_t_plan, .ref a_t_book, .int t_stopCount, .int t_metric, .int t_fixed]), (a_t_facts, aI G 102 t_facts), (a_t_sizes, aI G 4 t_sizes), (a_t_rows, aI G 64 t_rows)]
theorem u_X6_milesOf_X6_sizeOf_96 {s : State} {args : Array Value} (hts : ∀ w ∈ WU, w.before args s = true) : CallW rm_X6_milesOf s args RX6 RX6 96 yX6_sizeOf cX6_sizeOf 2 (some .int) (kw_X6_sizeOf :: WU) rm_X6_sizeOf 0 0 1 := cwV 1 hts (gV qm_6_96 qi_X6_sizeOf ql_X6_sizeOf qn_6 qc_X6_sizeOf) rfl rfl rfl (by decide +kernel) ⟨Nat.le_of_ble_eq_true rfl, Nat.le_of_ble_eq_true rfl⟩
theorem u_X6_milesOf_X6_rowAt_103 {s : State} {args : Array Value} (hts : ∀ w ∈ WU, w.before args s = true) : CallW rm_X6_milesOf s args RX6 RX6 103 yX6_rowAt cX6_rowAt 4 (some .int) (kw_X6_rowAt :: WU) rm_X6_rowAt 0 0 2 := cwV 2 hts (gV qm_6_103 qi_X6_rowAt ql_X6_rowAt qn_6 qc_X6_rowAt) rfl rfl rfl (by decide +kernel) ⟨Nat.le_of_ble_eq_true rfl, Nat.le_of_ble_eq_true rfl⟩
theorem u_X6_milesOf_X6_way_114 {s : State} {args : Array Value} (hts : ∀ w ∈ WU, w.before args s = true) : CallW rm_X6_milesOf s args RX6 RX6 114 yX6_way cX6_way 3 (some .int) (kw_X6_way :: WU) rm_X6_way 0 0 2 := cwV 2 hts (gV qm_6_114 qi_X6_way ql_X6_way qn_6 qc_X6_way) rfl rfl rfl (by decide +kernel) ⟨Nat.le_of_ble_eq_true rfl, Nat.le_of_ble_eq_true rfl⟩
section
variable {p : Program} {l : Launch} {e : Env} {s : State} {m : MethodId} {args : Array Value} {below : List Frame} {meth : Method} {c : Code} {A : Nat → Prop} {G : GE} {a_t a_t_facts a_t_roundsOf a_t_locked a_t_rules a_t_sizes a_t_rows a_t_seen a_t_plan a_t_book : Nat} {r : Int32}
set_option maxRecDepth 100000 in
set_option maxHeartbeats 4000000 in
theorem k_X6_milesOf_4 (C : Cx p s m args meth c cX6_milesOf (some .int) 4 RX6 G A) (t_stopCount : Int32) (t_metric : Int32) (t_fixed : Int32) (t_facts : Nat → Int32) (t_sizes : Nat → Int32) (t_rows : Nat → Int32) (x1 : Int32) (x2 : Int32) (x3 : Int32) (k4 : Int32 × Int32 → Option (Int32)) (hk4 : ∀ {H : Heap} {locs : List Loc} {ls : Array Slot} (x2' : Int32) (x3' : Int32), k4 (x2', x3') = some r → St G A s.heap H locs (w_X6_milesOf G a_t a_t_facts a_t_roundsOf a_t_locked a_t_rules a_t_sizes a_t_rows a_t_seen a_t_plan a_t_book t_stopCount t_metric t_fixed t_facts t_sizes t_rows) → lv_has ls 4 [(0, .ref a_t), (1, .int x1), (2, .int x2'), (3, .int x3')] → W p l e rm_X6_milesOf s m args below meth c H locs 0 0 (QI G below args s A r (w_X6_milesOf G a_t a_t_facts a_t_roundsOf a_t_locked a_t_rules a_t_sizes a_t_rows a_t_seen a_t_plan a_t_book t_stopCount t_metric t_fixed t_facts t_sizes t_rows)) (F0 m 4 ls [])) {H : Heap} {locs : List Loc} {ls : Array Slot} (hf : b_X6_milesOf_4 x1 t_facts t_sizes t_rows t_metric k4 x2 x3 = some r) (S : St G A s.heap H locs (w_X6_milesOf G a_t a_t_facts a_t_roundsOf a_t_locked a_t_rules a_t_sizes a_t_rows a_t_seen a_t_plan a_t_book t_stopCount t_metric t_fixed t_facts t_sizes t_rows)) (hl : lv_has ls 4 [(0, .ref a_t), (1, .int x1), (2, .int x2), (3, .int x3)]) : W p l e rm_X6_milesOf s m args below meth c H locs 0 0 (QI G below args s A r (w_X6_milesOf G a_t a_t_facts a_t_roundsOf a_t_locked a_t_rules a_t_sizes a_t_rows a_t_seen a_t_plan a_t_book t_stopCount t_metric t_fixed t_facts t_sizes t_rows)) (F0 m 4 ls []) := by
  unfold b_X6_milesOf_4 at hf
  have hx := C.1
  have hb := C.2.1
  have hown := C.2.2.2.2.1
  have hts := C.2.2.2.2.2.1
  have hN := C.2.2.2.2.2.2.2.2.2.2
  refine lv_iload_n (pc := 4) hx hb dX6_milesOf_4 rfl (lv_at hl 3 rfl) ?_
  refine lv_aload_n (pc := 5) hx hb dX6_milesOf_5 rfl (lv_at hl 0 rfl) ?_
  refine lv_iload_n (pc := 6) hx hb dX6_milesOf_6 rfl (lv_at hl 1 rfl) ?_
  obtain ⟨r1, hq1, hf⟩ := bd_e hf
  refine x_vI (pc := 7) (As := [.int x1]) (rest := [.int x3]) (isC := [0, 2]) (ws' := (w_X6_milesOf G a_t a_t_facts a_t_roundsOf a_t_locked a_t_rules a_t_sizes a_t_rows a_t_seen a_t_plan a_t_book t_stopCount t_metric t_fixed t_facts t_sizes t_rows)) C S (c_X6_sizeOf l G a_t a_t_facts a_t_roundsOf a_t_locked a_t_rules a_t_sizes a_t_rows a_t_seen a_t_plan a_t_book t_stopCount t_metric t_fixed t_sizes x1 r1 hq1) (u_X6_milesOf_X6_sizeOf_96 hts) (ci := 6) rfl 0 rfl rfl (by decide +kernel) [some 0, none, some 1, none] (by decide +kernel) rfl rfl rfl hl.1 rfl (Nat.le_of_ble_eq_true rfl) dX6_milesOf_7 (fun H locs S => ?_)
  refine lv_icmp_gt (tgt := 40) (pc := 10) hx hb dX6_milesOf_10 (by decide) (fun c2 => ?_) (fun c2 => ?_)
  · have hf := ifp c2 hf
    refine lv_iload_n (pc := 40) hx hb dX6_milesOf_40 rfl (lv_at hl 2 rfl) ?_
    cases hf
    exact x_iret (pc := 41) C S dX6_milesOf_41
  · have hf := ifn c2 hf
    refine lv_iload_n (pc := 13) hx hb dX6_milesOf_13 rfl (lv_at hl 2 rfl) ?_
    refine lv_aload_n (pc := 14) hx hb dX6_milesOf_14 rfl (lv_at hl 0 rfl) ?_
    refine lv_aload_n (pc := 15) hx hb dX6_milesOf_15 rfl (lv_at hl 0 rfl) ?_
    refine lv_iload_n (pc := 16) hx hb dX6_milesOf_16 rfl (lv_at hl 1 rfl) ?_
    refine lv_iload_n (pc := 17) hx hb dX6_milesOf_17 rfl (lv_at hl 3 rfl) ?_
    refine lv_iconst (pc := 18) hx hb dX6_milesOf_18 ic_1 ?_
    refine lv_isub (pc := 19) hx hb dX6_milesOf_19 ?_
    obtain ⟨r3, hq3, hf⟩ := bd_e hf
    refine x_vI (pc := 20) (As := [.int x1, .int (x3 - (1 : Int32))]) (rest := [.ref a_t, .int x2]) (isC := [0, 2, 3]) (ws' := (w_X6_milesOf G a_t a_t_facts a_t_roundsOf a_t_locked a_t_rules a_t_sizes a_t_rows a_t_seen a_t_plan a_t_book t_stopCount t_metric t_fixed t_facts t_sizes t_rows)) C S (c_X6_rowAt l G a_t a_t_facts a_t_roundsOf a_t_locked a_t_rules a_t_sizes a_t_rows a_t_seen a_t_plan a_t_book t_stopCount t_metric t_fixed t_sizes t_rows x1 (x3 - (1 : Int32)) r3 hq3) (u_X6_milesOf_X6_rowAt_103 hts) (ci := 6) rfl 0 rfl rfl (by decide +kernel) [some 0, none, some 1, some 2] (by decide +kernel) rfl rfl rfl hl.1 rfl (Nat.le_of_ble_eq_true rfl) dX6_milesOf_20 (fun H locs S => ?_)
    refine lv_aload_n (pc := 23) hx hb dX6_milesOf_23 rfl (lv_at hl 0 rfl) ?_
    refine lv_iload_n (pc := 24) hx hb dX6_milesOf_24 rfl (lv_at hl 1 rfl) ?_
    refine lv_iload_n (pc := 25) hx hb dX6_milesOf_25 rfl (lv_at hl 3 rfl) ?_
    obtain ⟨r4, hq4, hf⟩ := bd_e hf
    refine x_vI (pc := 26) (As := [.int x1, .int x3]) (rest := [.int r3, .ref a_t, .int x2]) (isC := [0, 2, 3]) (ws' := (w_X6_milesOf G a_t a_t_facts a_t_roundsOf a_t_locked a_t_rules a_t_sizes a_t_rows a_t_seen a_t_plan a_t_book t_stopCount t_metric t_fixed t_facts t_sizes t_rows)) C S (c_X6_rowAt l G a_t a_t_facts a_t_roundsOf a_t_locked a_t_rules a_t_sizes a_t_rows a_t_seen a_t_plan a_t_book t_stopCount t_metric t_fixed t_sizes t_rows x1 x3 r4 hq4) (u_X6_milesOf_X6_rowAt_103 hts) (ci := 6) rfl 0 rfl rfl (by decide +kernel) [some 0, none, some 1, some 2] (by decide +kernel) rfl rfl rfl hl.1 rfl (Nat.le_of_ble_eq_true rfl) dX6_milesOf_26 (fun H locs S => ?_)
    obtain ⟨r5, hq5, hf⟩ := bd_e hf
    refine x_vI (pc := 29) (As := [.int r3, .int r4]) (rest := [.int x2]) (isC := [0, 1]) (ws' := (w_X6_milesOf G a_t a_t_facts a_t_roundsOf a_t_locked a_t_rules a_t_sizes a_t_rows a_t_seen a_t_plan a_t_book t_stopCount t_metric t_fixed t_facts t_sizes t_rows)) C S (c_X6_way l G a_t a_t_facts a_t_roundsOf a_t_locked a_t_rules a_t_sizes a_t_rows a_t_seen a_t_plan a_t_book t_stopCount t_metric t_fixed t_facts r3 r4 r5 hq5) (u_X6_milesOf_X6_way_114 hts) (ci := 6) rfl 0 rfl rfl (by decide +kernel) [some 0, some 1, none, none] (by decide +kernel) rfl rfl rfl hl.1 rfl (Nat.le_of_ble_eq_true rfl) dX6_milesOf_29 (fun H locs S => ?_)
    refine lv_iadd (pc := 32) hx hb dX6_milesOf_32 ?_
    refine lv_istore_n (pc := 33) (lv' := [(2, .int (x2 + r5)), (0, .ref a_t), (1, .int x1), (3, .int x3)]) hx hb dX6_milesOf_33 rfl hl (by decide) rfl (fun ls hl => ?_)
    refine lv_iinc (pc := 34) (v := (x3 + (1 : Int32))) (lv' := [(3, .int (x3 + (1 : Int32))), (2, .int (x2 + r5)), (0, .ref a_t), (1, .int x1)]) hx hb dX6_milesOf_34 hl (k := 3) rfl (congrArg (fun z => x3 + z) ic_1) (by decide) rfl (fun ls hl => ?_)
    refine lv_goto (tgt := 4) (pc := 37) hx hb dX6_milesOf_37 (by decide) ?_
    exact hk4 ((x2 + r5)) ((x3 + (1 : Int32)))  hf S (lv_sub hl [2, 3, 1, 0] rfl)
set_option maxRecDepth 100000 in
set_option maxHeartbeats 4000000 in
theorem h_X6_milesOf_4 (C : Cx p s m args meth c cX6_milesOf (some .int) 4 RX6 G A) (t_stopCount : Int32) (t_metric : Int32) (t_fixed : Int32) (t_facts : Nat → Int32) (t_sizes : Nat → Int32) (t_rows : Nat → Int32) (x1 : Int32) : ∀ (n : Nat) (x2 : Int32) (x3 : Int32) {H : Heap} {locs : List Loc} {ls : Array Slot} (hf : lp (fun k x => b_X6_milesOf_4 x1 t_facts t_sizes t_rows t_metric k x.1 x.2) n (x2, x3) = some r) (S : St G A s.heap H locs (w_X6_milesOf G a_t a_t_facts a_t_roundsOf a_t_locked a_t_rules a_t_sizes a_t_rows a_t_seen a_t_plan a_t_book t_stopCount t_metric t_fixed t_facts t_sizes t_rows)) (hl : lv_has ls 4 [(0, .ref a_t), (1, .int x1), (2, .int x2), (3, .int x3)]), W p l e rm_X6_milesOf s m args below meth c H locs 0 0 (QI G below args s A r (w_X6_milesOf G a_t a_t_facts a_t_roundsOf a_t_locked a_t_rules a_t_sizes a_t_rows a_t_seen a_t_plan a_t_book t_stopCount t_metric t_fixed t_facts t_sizes t_rows)) (F0 m 4 ls []) := by
  intro n
  induction n with
  | zero =>
    intro x2 x3  H locs ls hf
    cases hf
  | succ n ih =>
    intro x2 x3  H locs ls hf S hl
    have hf : b_X6_milesOf_4 x1 t_facts t_sizes t_rows t_metric (lp (fun k x => b_X6_milesOf_4 x1 t_facts t_sizes t_rows t_metric k x.1 x.2) n) x2 x3 = some r := hf
    exact k_X6_milesOf_4 C t_stopCount t_metric t_fixed t_facts t_sizes t_rows x1 x2 x3  (lp (fun k x => b_X6_milesOf_4 x1 t_facts t_sizes t_rows t_metric k x.1 x.2) n) (fun x2' x3'  h S hl => ih x2' x3'  h S hl) hf S hl
set_option maxRecDepth 100000 in
set_option maxHeartbeats 4000000 in
theorem c_X6_milesOf (l : Launch) (G : GE) (a_t a_t_facts a_t_roundsOf a_t_locked a_t_rules a_t_sizes a_t_rows a_t_seen a_t_plan a_t_book : Nat) (t_stopCount : Int32) (t_metric : Int32) (t_fixed : Int32) (t_facts : Nat → Int32) (t_sizes : Nat → Int32) (t_rows : Nat → Int32) (x1 : Int32) (r : Int32) (hf : f_X6_milesOf t_facts t_sizes t_rows t_metric x1 = some r) : CI l G yX6_milesOf kw_X6_milesOf rm_X6_milesOf [.ref a_t, .int x1] (w_X6_milesOf G a_t a_t_facts a_t_roundsOf a_t_locked a_t_rules a_t_sizes a_t_rows a_t_seen a_t_plan a_t_book t_stopCount t_metric t_fixed t_facts t_sizes t_rows) r (w_X6_milesOf G a_t a_t_facts a_t_roundsOf a_t_locked a_t_rules a_t_sizes a_t_rows a_t_seen a_t_plan a_t_book t_stopCount t_metric t_fixed t_facts t_sizes t_rows) := by
  refine en_I (cc := cX6_milesOf) (maxL := 4) (ret := (some .int)) (by decide +kernel) (Nat.le_of_ble_eq_true rfl) ?_
  intro p e s m args below meth c A ls C S hl
  have hl : lv_has ls 4 [(0, .ref a_t), (1, .int x1)] := hl
  have C : Cx p s m args meth c cX6_milesOf (some .int) 4 RX6 G A := C
  unfold f_X6_milesOf at hf
  have hx := C.1
  have hb := C.2.1
  have hown := C.2.2.2.2.1
  have hts := C.2.2.2.2.2.1
  have hN := C.2.2.2.2.2.2.2.2.2.2
  refine lv_iconst (pc := 0) hx hb dX6_milesOf_0 ic_0 ?_
  refine lv_istore_n (pc := 1) (lv' := [(2, .int (0 : Int32)), (0, .ref a_t), (1, .int x1)]) hx hb dX6_milesOf_1 rfl hl (by decide) rfl (fun ls hl => ?_)
  refine lv_iconst (pc := 2) hx hb dX6_milesOf_2 ic_0 ?_
  refine lv_istore_n (pc := 3) (lv' := [(3, .int (0 : Int32)), (2, .int (0 : Int32)), (0, .ref a_t), (1, .int x1)]) hx hb dX6_milesOf_3 rfl hl (by decide) rfl (fun ls hl => ?_)
  exact h_X6_milesOf_4 C (t_stopCount) (t_metric) (t_fixed) (t_facts) (t_sizes) (t_rows) (x1) fu ((0 : Int32)) ((0 : Int32)) hf S (lv_sub hl [2, 3, 1, 0] rfl)
end

abbrev rm_X6_milesOfAll : Room := { frames := 3, cells := 0, slots := 0, locals := 73 }
abbrev kw_X6_milesOfAll : Cond := .code yX6_milesOfAll cX6_milesOfAll 3 (some .int)
abbrev w_X6_milesOfAll (G : GE) (a_t a_t_facts a_t_roundsOf a_t_locked a_t_rules a_t_sizes a_t_rows a_t_seen a_t_plan a_t_book : Nat) (t_stopCount : Int32) (t_metric : Int32) (t_fixed : Int32) (t_facts : Nat → Int32) (t_sizes : Nat → Int32) (t_rows : Nat → Int32) : va_W := [(a_t, ob 6 [.ref a_t_facts, .ref a_t_roundsOf, .ref a_t_locked, .ref a_t_rules, .ref a_t_sizes, .ref a_t_rows, .ref a_t_seen, .ref a_t_plan, .ref a_t_book, .int t_stopCount, .int t_metric, .int t_fixed]), (a_t_facts, aI G 102 t_facts), (a_t_sizes, aI G 4 t_sizes), (a_t_rows, aI G 64 t_rows)]
theorem u_X6_milesOfAll_X6_milesOf_117 {s : State} {args : Array Value} (hts : ∀ w ∈ WU, w.before args s = true) : CallW rm_X6_milesOfAll s args RX6 RX6 117 yX6_milesOf cX6_milesOf 4 (some .int) (kw_X6_milesOf :: WU) rm_X6_milesOf 0 0 1 := cwV 1 hts (gV qm_6_117 qi_X6_milesOf ql_X6_milesOf qn_6 qc_X6_milesOf) rfl rfl rfl (by decide +kernel) ⟨Nat.le_of_ble_eq_true rfl, Nat.le_of_ble_eq_true rfl⟩
section
variable {p : Program} {l : Launch} {e : Env} {s : State} {m : MethodId} {args : Array Value} {below : List Frame} {meth : Method} {c : Code} {A : Nat → Prop} {G : GE} {a_t a_t_facts a_t_roundsOf a_t_locked a_t_rules a_t_sizes a_t_rows a_t_seen a_t_plan a_t_book : Nat} {r : Int32}
set_option maxRecDepth 100000 in
set_option maxHeartbeats 4000000 in
theorem k_X6_milesOfAll_4 (C : Cx p s m args meth c cX6_milesOfAll (some .int) 3 RX6 G A) (t_stopCount : Int32) (t_metric : Int32) (t_fixed : Int32) (t_facts : Nat → Int32) (t_sizes : Nat → Int32) (t_rows : Nat → Int32) (x1 : Int32) (x2 : Int32) (k4 : Int32 × Int32 → Option (Int32)) (hk4 : ∀ {H : Heap} {locs : List Loc} {ls : Array Slot} (x1' : Int32) (x2' : Int32), k4 (x1', x2') = some r → St G A s.heap H locs (w_X6_milesOfAll G a_t a_t_facts a_t_roundsOf a_t_locked a_t_rules a_t_sizes a_t_rows a_t_seen a_t_plan a_t_book t_stopCount t_metric t_fixed t_facts t_sizes t_rows) → lv_has ls 3 [(0, .ref a_t), (1, .int x1'), (2, .int x2')] → W p l e rm_X6_milesOfAll s m args below meth c H locs 0 0 (QI G below args s A r (w_X6_milesOfAll G a_t a_t_facts a_t_roundsOf a_t_locked a_t_rules a_t_sizes a_t_rows a_t_seen a_t_plan a_t_book t_stopCount t_metric t_fixed t_facts t_sizes t_rows)) (F0 m 4 ls [])) {H : Heap} {locs : List Loc} {ls : Array Slot} (hf : b_X6_milesOfAll_4 t_facts t_sizes t_rows t_metric k4 x1 x2 = some r) (S : St G A s.heap H locs (w_X6_milesOfAll G a_t a_t_facts a_t_roundsOf a_t_locked a_t_rules a_t_sizes a_t_rows a_t_seen a_t_plan a_t_book t_stopCount t_metric t_fixed t_facts t_sizes t_rows)) (hl : lv_has ls 3 [(0, .ref a_t), (1, .int x1), (2, .int x2)]) : W p l e rm_X6_milesOfAll s m args below meth c H locs 0 0 (QI G below args s A r (w_X6_milesOfAll G a_t a_t_facts a_t_roundsOf a_t_locked a_t_rules a_t_sizes a_t_rows a_t_seen a_t_plan a_t_book t_stopCount t_metric t_fixed t_facts t_sizes t_rows)) (F0 m 4 ls []) := by
  unfold b_X6_milesOfAll_4 at hf
  have hx := C.1
  have hb := C.2.1
  have hown := C.2.2.2.2.1
  have hts := C.2.2.2.2.2.1
  have hN := C.2.2.2.2.2.2.2.2.2.2
  refine lv_iload_n (pc := 4) hx hb dX6_milesOfAll_4 rfl (lv_at hl 2 rfl) ?_
  refine lv_iconst (pc := 5) hx hb dX6_milesOfAll_5 ic_4 ?_
  refine lv_icmp_ge (tgt := 23) (pc := 6) hx hb dX6_milesOfAll_6 (by decide) (fun c1 => ?_) (fun c1 => ?_)
  · have hf := ifp c1 hf
    refine lv_iload_n (pc := 23) hx hb dX6_milesOfAll_23 rfl (lv_at hl 1 rfl) ?_
    cases hf
    exact x_iret (pc := 24) C S dX6_milesOfAll_24
  · have hf := ifn c1 hf
    refine lv_iload_n (pc := 9) hx hb dX6_milesOfAll_9 rfl (lv_at hl 1 rfl) ?_
    refine lv_aload_n (pc := 10) hx hb dX6_milesOfAll_10 rfl (lv_at hl 0 rfl) ?_
    refine lv_iload_n (pc := 11) hx hb dX6_milesOfAll_11 rfl (lv_at hl 2 rfl) ?_
    obtain ⟨r2, hq2, hf⟩ := bd_e hf
    refine x_vI (pc := 12) (As := [.int x2]) (rest := [.int x1]) (isC := [0, 1, 2, 3]) (ws' := (w_X6_milesOfAll G a_t a_t_facts a_t_roundsOf a_t_locked a_t_rules a_t_sizes a_t_rows a_t_seen a_t_plan a_t_book t_stopCount t_metric t_fixed t_facts t_sizes t_rows)) C S (c_X6_milesOf l G a_t a_t_facts a_t_roundsOf a_t_locked a_t_rules a_t_sizes a_t_rows a_t_seen a_t_plan a_t_book t_stopCount t_metric t_fixed t_facts t_sizes t_rows x2 r2 hq2) (u_X6_milesOfAll_X6_milesOf_117 hts) (ci := 6) rfl 0 rfl rfl (by decide +kernel) [some 0, some 1, some 2, some 3] (by decide +kernel) rfl rfl rfl hl.1 rfl (Nat.le_of_ble_eq_true rfl) dX6_milesOfAll_12 (fun H locs S => ?_)
    refine lv_iadd (pc := 15) hx hb dX6_milesOfAll_15 ?_
    refine lv_istore_n (pc := 16) (lv' := [(1, .int (x1 + r2)), (0, .ref a_t), (2, .int x2)]) hx hb dX6_milesOfAll_16 rfl hl (by decide) rfl (fun ls hl => ?_)
    refine lv_iinc (pc := 17) (v := (x2 + (1 : Int32))) (lv' := [(2, .int (x2 + (1 : Int32))), (1, .int (x1 + r2)), (0, .ref a_t)]) hx hb dX6_milesOfAll_17 hl (k := 2) rfl (congrArg (fun z => x2 + z) ic_1) (by decide) rfl (fun ls hl => ?_)
    refine lv_goto (tgt := 4) (pc := 20) hx hb dX6_milesOfAll_20 (by decide) ?_
    exact hk4 ((x1 + r2)) ((x2 + (1 : Int32)))  hf S (lv_sub hl [2, 1, 0] rfl)
set_option maxRecDepth 100000 in
set_option maxHeartbeats 4000000 in
theorem h_X6_milesOfAll_4 (C : Cx p s m args meth c cX6_milesOfAll (some .int) 3 RX6 G A) (t_stopCount : Int32) (t_metric : Int32) (t_fixed : Int32) (t_facts : Nat → Int32) (t_sizes : Nat → Int32) (t_rows : Nat → Int32) : ∀ (n : Nat) (x1 : Int32) (x2 : Int32) {H : Heap} {locs : List Loc} {ls : Array Slot} (hf : lp (fun k x => b_X6_milesOfAll_4 t_facts t_sizes t_rows t_metric k x.1 x.2) n (x1, x2) = some r) (S : St G A s.heap H locs (w_X6_milesOfAll G a_t a_t_facts a_t_roundsOf a_t_locked a_t_rules a_t_sizes a_t_rows a_t_seen a_t_plan a_t_book t_stopCount t_metric t_fixed t_facts t_sizes t_rows)) (hl : lv_has ls 3 [(0, .ref a_t), (1, .int x1), (2, .int x2)]), W p l e rm_X6_milesOfAll s m args below meth c H locs 0 0 (QI G below args s A r (w_X6_milesOfAll G a_t a_t_facts a_t_roundsOf a_t_locked a_t_rules a_t_sizes a_t_rows a_t_seen a_t_plan a_t_book t_stopCount t_metric t_fixed t_facts t_sizes t_rows)) (F0 m 4 ls []) := by
  intro n
  induction n with
  | zero =>
    intro x1 x2  H locs ls hf
    cases hf
  | succ n ih =>
    intro x1 x2  H locs ls hf S hl
    have hf : b_X6_milesOfAll_4 t_facts t_sizes t_rows t_metric (lp (fun k x => b_X6_milesOfAll_4 t_facts t_sizes t_rows t_metric k x.1 x.2) n) x1 x2 = some r := hf
    exact k_X6_milesOfAll_4 C t_stopCount t_metric t_fixed t_facts t_sizes t_rows x1 x2  (lp (fun k x => b_X6_milesOfAll_4 t_facts t_sizes t_rows t_metric k x.1 x.2) n) (fun x1' x2'  h S hl => ih x1' x2'  h S hl) hf S hl
set_option maxRecDepth 100000 in
set_option maxHeartbeats 4000000 in
theorem c_X6_milesOfAll (l : Launch) (G : GE) (a_t a_t_facts a_t_roundsOf a_t_locked a_t_rules a_t_sizes a_t_rows a_t_seen a_t_plan a_t_book : Nat) (t_stopCount : Int32) (t_metric : Int32) (t_fixed : Int32) (t_facts : Nat → Int32) (t_sizes : Nat → Int32) (t_rows : Nat → Int32) (r : Int32) (hf : f_X6_milesOfAll t_facts t_sizes t_rows t_metric = some r) : CI l G yX6_milesOfAll kw_X6_milesOfAll rm_X6_milesOfAll [.ref a_t] (w_X6_milesOfAll G a_t a_t_facts a_t_roundsOf a_t_locked a_t_rules a_t_sizes a_t_rows a_t_seen a_t_plan a_t_book t_stopCount t_metric t_fixed t_facts t_sizes t_rows) r (w_X6_milesOfAll G a_t a_t_facts a_t_roundsOf a_t_locked a_t_rules a_t_sizes a_t_rows a_t_seen a_t_plan a_t_book t_stopCount t_metric t_fixed t_facts t_sizes t_rows) := by
  refine en_I (cc := cX6_milesOfAll) (maxL := 3) (ret := (some .int)) (by decide +kernel) (Nat.le_of_ble_eq_true rfl) ?_
  intro p e s m args below meth c A ls C S hl
  have hl : lv_has ls 3 [(0, .ref a_t)] := hl
  have C : Cx p s m args meth c cX6_milesOfAll (some .int) 3 RX6 G A := C
  unfold f_X6_milesOfAll at hf
  have hx := C.1
  have hb := C.2.1
  have hown := C.2.2.2.2.1
  have hts := C.2.2.2.2.2.1
  have hN := C.2.2.2.2.2.2.2.2.2.2
  refine lv_iconst (pc := 0) hx hb dX6_milesOfAll_0 ic_0 ?_
  refine lv_istore_n (pc := 1) (lv' := [(1, .int (0 : Int32)), (0, .ref a_t)]) hx hb dX6_milesOfAll_1 rfl hl (by decide) rfl (fun ls hl => ?_)
  refine lv_iconst (pc := 2) hx hb dX6_milesOfAll_2 ic_0 ?_
  refine lv_istore_n (pc := 3) (lv' := [(2, .int (0 : Int32)), (1, .int (0 : Int32)), (0, .ref a_t)]) hx hb dX6_milesOfAll_3 rfl hl (by decide) rfl (fun ls hl => ?_)
  exact h_X6_milesOfAll_4 C (t_stopCount) (t_metric) (t_fixed) (t_facts) (t_sizes) (t_rows) fu ((0 : Int32)) ((0 : Int32)) hf S (lv_sub hl [2, 1, 0] rfl)
end

abbrev rm_X6_usedRounds : Room := { frames := 1, cells := 0, slots := 0, locals := 21 }
abbrev kw_X6_usedRounds : Cond := .code yX6_usedRounds cX6_usedRounds 3 (some .int)
abbrev w_X6_usedRounds (G : GE) (a_t a_t_facts a_t_roundsOf a_t_locked a_t_rules a_t_sizes a_t_rows a_t_seen a_t_plan a_t_book : Nat) (t_stopCount : Int32) (t_metric : Int32) (t_fixed : Int32) (t_sizes : Nat → Int32) : va_W := [(a_t, ob 6 [.ref a_t_facts, .ref a_t_roundsOf, .ref a_t_locked, .ref a_t_rules, .ref a_t_sizes, .ref a_t_rows, .ref a_t_seen, .ref a_t_plan, .ref a_t_book, .int t_stopCount, .int t_metric, .int t_fixed]), (a_t_sizes, aI G 4 t_sizes)]
theorem u_X6_usedRounds_X6_sizeOf_96 {s : State} {args : Array Value} (hts : ∀ w ∈ WU, w.before args s = true) : CallW rm_X6_usedRounds s args RX6 RX6 96 yX6_sizeOf cX6_sizeOf 2 (some .int) (kw_X6_sizeOf :: WU) rm_X6_sizeOf 0 0 1 := cwV 1 hts (gV qm_6_96 qi_X6_sizeOf ql_X6_sizeOf qn_6 qc_X6_sizeOf) rfl rfl rfl (by decide +kernel) ⟨Nat.le_of_ble_eq_true rfl, Nat.le_of_ble_eq_true rfl⟩
section
variable {p : Program} {l : Launch} {e : Env} {s : State} {m : MethodId} {args : Array Value} {below : List Frame} {meth : Method} {c : Code} {A : Nat → Prop} {G : GE} {a_t a_t_facts a_t_roundsOf a_t_locked a_t_rules a_t_sizes a_t_rows a_t_seen a_t_plan a_t_book : Nat} {r : Int32}
set_option maxRecDepth 100000 in
set_option maxHeartbeats 4000000 in
theorem k_X6_usedRounds_4 (C : Cx p s m args meth c cX6_usedRounds (some .int) 3 RX6 G A) (t_stopCount : Int32) (t_metric : Int32) (t_fixed : Int32) (t_sizes : Nat → Int32) (x1 : Int32) (x2 : Int32) (k4 : Int32 × Int32 → Option (Int32)) (hk4 : ∀ {H : Heap} {locs : List Loc} {ls : Array Slot} (x1' : Int32) (x2' : Int32), k4 (x1', x2') = some r → St G A s.heap H locs (w_X6_usedRounds G a_t a_t_facts a_t_roundsOf a_t_locked a_t_rules a_t_sizes a_t_rows a_t_seen a_t_plan a_t_book t_stopCount t_metric t_fixed t_sizes) → lv_has ls 3 [(0, .ref a_t), (1, .int x1'), (2, .int x2')] → W p l e rm_X6_usedRounds s m args below meth c H locs 0 0 (QI G below args s A r (w_X6_usedRounds G a_t a_t_facts a_t_roundsOf a_t_locked a_t_rules a_t_sizes a_t_rows a_t_seen a_t_plan a_t_book t_stopCount t_metric t_fixed t_sizes)) (F0 m 4 ls [])) {H : Heap} {locs : List Loc} {ls : Array Slot} (hf : b_X6_usedRounds_4 t_sizes k4 x1 x2 = some r) (S : St G A s.heap H locs (w_X6_usedRounds G a_t a_t_facts a_t_roundsOf a_t_locked a_t_rules a_t_sizes a_t_rows a_t_seen a_t_plan a_t_book t_stopCount t_metric t_fixed t_sizes)) (hl : lv_has ls 3 [(0, .ref a_t), (1, .int x1), (2, .int x2)]) : W p l e rm_X6_usedRounds s m args below meth c H locs 0 0 (QI G below args s A r (w_X6_usedRounds G a_t a_t_facts a_t_roundsOf a_t_locked a_t_rules a_t_sizes a_t_rows a_t_seen a_t_plan a_t_book t_stopCount t_metric t_fixed t_sizes)) (F0 m 4 ls []) := by
  unfold b_X6_usedRounds_4 at hf
  have hx := C.1
  have hb := C.2.1
  have hown := C.2.2.2.2.1
  have hts := C.2.2.2.2.2.1
  have hN := C.2.2.2.2.2.2.2.2.2.2
  refine lv_iload_n (pc := 4) hx hb dX6_usedRounds_4 rfl (lv_at hl 2 rfl) ?_
  refine lv_iconst (pc := 5) hx hb dX6_usedRounds_5 ic_4 ?_
  refine lv_icmp_ge (tgt := 31) (pc := 6) hx hb dX6_usedRounds_6 (by decide) (fun c1 => ?_) (fun c1 => ?_)
  · have hf := ifp c1 hf
    refine lv_iload_n (pc := 31) hx hb dX6_usedRounds_31 rfl (lv_at hl 1 rfl) ?_
    cases hf
    exact x_iret (pc := 32) C S dX6_usedRounds_32
  · have hf := ifn c1 hf
    refine lv_iload_n (pc := 9) hx hb dX6_usedRounds_9 rfl (lv_at hl 1 rfl) ?_
    refine lv_aload_n (pc := 10) hx hb dX6_usedRounds_10 rfl (lv_at hl 0 rfl) ?_
    refine lv_iload_n (pc := 11) hx hb dX6_usedRounds_11 rfl (lv_at hl 2 rfl) ?_
    obtain ⟨r2, hq2, hf⟩ := bd_e hf
    refine x_vI (pc := 12) (As := [.int x2]) (rest := [.int x1]) (isC := [0, 1]) (ws' := (w_X6_usedRounds G a_t a_t_facts a_t_roundsOf a_t_locked a_t_rules a_t_sizes a_t_rows a_t_seen a_t_plan a_t_book t_stopCount t_metric t_fixed t_sizes)) C S (c_X6_sizeOf l G a_t a_t_facts a_t_roundsOf a_t_locked a_t_rules a_t_sizes a_t_rows a_t_seen a_t_plan a_t_book t_stopCount t_metric t_fixed t_sizes x2 r2 hq2) (u_X6_usedRounds_X6_sizeOf_96 hts) (ci := 6) rfl 0 rfl rfl (by decide +kernel) [some 0, some 1] (by decide +kernel) rfl rfl rfl hl.1 rfl (Nat.le_of_ble_eq_true rfl) dX6_usedRounds_12 (fun H locs S => ?_)
    refine lv_if_le (tgt := 22) (pc := 15) hx hb dX6_usedRounds_15 (by decide) (fun c3 => ?_) (fun c3 => ?_)
    · have hf := ifp c3 hf
      refine lv_iconst (pc := 22) hx hb dX6_usedRounds_22 ic_0 ?_
      refine lv_iadd (pc := 23) hx hb dX6_usedRounds_23 ?_
      refine lv_istore_n (pc := 24) (lv' := [(1, .int (x1 + (0 : Int32))), (0, .ref a_t), (2, .int x2)]) hx hb dX6_usedRounds_24 rfl hl (by decide) rfl (fun ls hl => ?_)
      refine lv_iinc (pc := 25) (v := (x2 + (1 : Int32))) (lv' := [(2, .int (x2 + (1 : Int32))), (1, .int (x1 + (0 : Int32))), (0, .ref a_t)]) hx hb dX6_usedRounds_25 hl (k := 2) rfl (congrArg (fun z => x2 + z) ic_1) (by decide) rfl (fun ls hl => ?_)
      refine lv_goto (tgt := 4) (pc := 28) hx hb dX6_usedRounds_28 (by decide) ?_
      exact hk4 ((x1 + (0 : Int32))) ((x2 + (1 : Int32)))  hf S (lv_sub hl [2, 1, 0] rfl)
    · have hf := ifn c3 hf
      refine lv_iconst (pc := 18) hx hb dX6_usedRounds_18 ic_1 ?_
      refine lv_goto (tgt := 23) (pc := 19) hx hb dX6_usedRounds_19 (by decide) ?_
      refine lv_iadd (pc := 23) hx hb dX6_usedRounds_23 ?_
      refine lv_istore_n (pc := 24) (lv' := [(1, .int (x1 + (1 : Int32))), (0, .ref a_t), (2, .int x2)]) hx hb dX6_usedRounds_24 rfl hl (by decide) rfl (fun ls hl => ?_)
      refine lv_iinc (pc := 25) (v := (x2 + (1 : Int32))) (lv' := [(2, .int (x2 + (1 : Int32))), (1, .int (x1 + (1 : Int32))), (0, .ref a_t)]) hx hb dX6_usedRounds_25 hl (k := 2) rfl (congrArg (fun z => x2 + z) ic_1) (by decide) rfl (fun ls hl => ?_)
      refine lv_goto (tgt := 4) (pc := 28) hx hb dX6_usedRounds_28 (by decide) ?_
      exact hk4 ((x1 + (1 : Int32))) ((x2 + (1 : Int32)))  hf S (lv_sub hl [2, 1, 0] rfl)
set_option maxRecDepth 100000 in
set_option maxHeartbeats 4000000 in
theorem h_X6_usedRounds_4 (C : Cx p s m args meth c cX6_usedRounds (some .int) 3 RX6 G A) (t_stopCount : Int32) (t_metric : Int32) (t_fixed : Int32) (t_sizes : Nat → Int32) : ∀ (n : Nat) (x1 : Int32) (x2 : Int32) {H : Heap} {locs : List Loc} {ls : Array Slot} (hf : lp (fun k x => b_X6_usedRounds_4 t_sizes k x.1 x.2) n (x1, x2) = some r) (S : St G A s.heap H locs (w_X6_usedRounds G a_t a_t_facts a_t_roundsOf a_t_locked a_t_rules a_t_sizes a_t_rows a_t_seen a_t_plan a_t_book t_stopCount t_metric t_fixed t_sizes)) (hl : lv_has ls 3 [(0, .ref a_t), (1, .int x1), (2, .int x2)]), W p l e rm_X6_usedRounds s m args below meth c H locs 0 0 (QI G below args s A r (w_X6_usedRounds G a_t a_t_facts a_t_roundsOf a_t_locked a_t_rules a_t_sizes a_t_rows a_t_seen a_t_plan a_t_book t_stopCount t_metric t_fixed t_sizes)) (F0 m 4 ls []) := by
  intro n
  induction n with
  | zero =>
    intro x1 x2  H locs ls hf
    cases hf
  | succ n ih =>
    intro x1 x2  H locs ls hf S hl
    have hf : b_X6_usedRounds_4 t_sizes (lp (fun k x => b_X6_usedRounds_4 t_sizes k x.1 x.2) n) x1 x2 = some r := hf
    exact k_X6_usedRounds_4 C t_stopCount t_metric t_fixed t_sizes x1 x2  (lp (fun k x => b_X6_usedRounds_4 t_sizes k x.1 x.2) n) (fun x1' x2'  h S hl => ih x1' x2'  h S hl) hf S hl
set_option maxRecDepth 100000 in
set_option maxHeartbeats 4000000 in
theorem c_X6_usedRounds (l : Launch) (G : GE) (a_t a_t_facts a_t_roundsOf a_t_locked a_t_rules a_t_sizes a_t_rows a_t_seen a_t_plan a_t_book : Nat) (t_stopCount : Int32) (t_metric : Int32) (t_fixed : Int32) (t_sizes : Nat → Int32) (r : Int32) (hf : f_X6_usedRounds t_sizes = some r) : CI l G yX6_usedRounds kw_X6_usedRounds rm_X6_usedRounds [.ref a_t] (w_X6_usedRounds G a_t a_t_facts a_t_roundsOf a_t_locked a_t_rules a_t_sizes a_t_rows a_t_seen a_t_plan a_t_book t_stopCount t_metric t_fixed t_sizes) r (w_X6_usedRounds G a_t a_t_facts a_t_roundsOf a_t_locked a_t_rules a_t_sizes a_t_rows a_t_seen a_t_plan a_t_book t_stopCount t_metric t_fixed t_sizes) := by
  refine en_I (cc := cX6_usedRounds) (maxL := 3) (ret := (some .int)) (by decide +kernel) (Nat.le_of_ble_eq_true rfl) ?_
  intro p e s m args below meth c A ls C S hl
  have hl : lv_has ls 3 [(0, .ref a_t)] := hl
  have C : Cx p s m args meth c cX6_usedRounds (some .int) 3 RX6 G A := C
  unfold f_X6_usedRounds at hf
  have hx := C.1
  have hb := C.2.1
  have hown := C.2.2.2.2.1
  have hts := C.2.2.2.2.2.1
  have hN := C.2.2.2.2.2.2.2.2.2.2
  refine lv_iconst (pc := 0) hx hb dX6_usedRounds_0 ic_0 ?_
  refine lv_istore_n (pc := 1) (lv' := [(1, .int (0 : Int32)), (0, .ref a_t)]) hx hb dX6_usedRounds_1 rfl hl (by decide) rfl (fun ls hl => ?_)
  refine lv_iconst (pc := 2) hx hb dX6_usedRounds_2 ic_0 ?_
  refine lv_istore_n (pc := 3) (lv' := [(2, .int (0 : Int32)), (1, .int (0 : Int32)), (0, .ref a_t)]) hx hb dX6_usedRounds_3 rfl hl (by decide) rfl (fun ls hl => ?_)
  exact h_X6_usedRounds_4 C (t_stopCount) (t_metric) (t_fixed) (t_sizes) fu ((0 : Int32)) ((0 : Int32)) hf S (lv_sub hl [2, 1, 0] rfl)
end

abbrev rm_X6_cost : Room := { frames := 4, cells := 0, slots := 0, locals := 95 }
abbrev kw_X6_cost : Cond := .code yX6_cost cX6_cost 1 (some .int)
abbrev w_X6_cost (G : GE) (a_t a_t_facts a_t_roundsOf a_t_locked a_t_rules a_t_sizes a_t_rows a_t_seen a_t_plan a_t_book : Nat) (t_stopCount : Int32) (t_metric : Int32) (t_fixed : Int32) (t_facts : Nat → Int32) (t_sizes : Nat → Int32) (t_rows : Nat → Int32) : va_W := [(a_t, ob 6 [.ref a_t_facts, .ref a_t_roundsOf, .ref a_t_locked, .ref a_t_rules, .ref a_t_sizes, .ref a_t_rows, .ref a_t_seen, .ref a_t_plan, .ref a_t_book, .int t_stopCount, .int t_metric, .int t_fixed]), (a_t_facts, aI G 102 t_facts), (a_t_sizes, aI G 4 t_sizes), (a_t_rows, aI G 64 t_rows)]
theorem u_X6_cost_X6_milesOfAll_120 {s : State} {args : Array Value} (hts : ∀ w ∈ WU, w.before args s = true) : CallW rm_X6_cost s args RX6 RX6 120 yX6_milesOfAll cX6_milesOfAll 3 (some .int) (kw_X6_milesOfAll :: WU) rm_X6_milesOfAll 0 0 0 := cwV 0 hts (gV qm_6_120 qi_X6_milesOfAll ql_X6_milesOfAll qn_6 qc_X6_milesOfAll) rfl rfl rfl (by decide +kernel) ⟨Nat.le_of_ble_eq_true rfl, Nat.le_of_ble_eq_true rfl⟩
theorem u_X6_cost_X6_usedRounds_124 {s : State} {args : Array Value} (hts : ∀ w ∈ WU, w.before args s = true) : CallW rm_X6_cost s args RX6 RX6 124 yX6_usedRounds cX6_usedRounds 3 (some .int) (kw_X6_usedRounds :: WU) rm_X6_usedRounds 0 0 0 := cwV 0 hts (gV qm_6_124 qi_X6_usedRounds ql_X6_usedRounds qn_6 qc_X6_usedRounds) rfl rfl rfl (by decide +kernel) ⟨Nat.le_of_ble_eq_true rfl, Nat.le_of_ble_eq_true rfl⟩
section
variable {p : Program} {l : Launch} {e : Env} {s : State} {m : MethodId} {args : Array Value} {below : List Frame} {meth : Method} {c : Code} {A : Nat → Prop} {G : GE} {a_t a_t_facts a_t_roundsOf a_t_locked a_t_rules a_t_sizes a_t_rows a_t_seen a_t_plan a_t_book : Nat} {r : Int32}
set_option maxRecDepth 100000 in
set_option maxHeartbeats 4000000 in
theorem c_X6_cost (l : Launch) (G : GE) (a_t a_t_facts a_t_roundsOf a_t_locked a_t_rules a_t_sizes a_t_rows a_t_seen a_t_plan a_t_book : Nat) (t_stopCount : Int32) (t_metric : Int32) (t_fixed : Int32) (t_facts : Nat → Int32) (t_sizes : Nat → Int32) (t_rows : Nat → Int32) (r : Int32) (hf : f_X6_cost t_facts t_sizes t_rows t_metric t_fixed = some r) : CI l G yX6_cost kw_X6_cost rm_X6_cost [.ref a_t] (w_X6_cost G a_t a_t_facts a_t_roundsOf a_t_locked a_t_rules a_t_sizes a_t_rows a_t_seen a_t_plan a_t_book t_stopCount t_metric t_fixed t_facts t_sizes t_rows) r (w_X6_cost G a_t a_t_facts a_t_roundsOf a_t_locked a_t_rules a_t_sizes a_t_rows a_t_seen a_t_plan a_t_book t_stopCount t_metric t_fixed t_facts t_sizes t_rows) := by
  refine en_I (cc := cX6_cost) (maxL := 1) (ret := (some .int)) (by decide +kernel) (Nat.le_of_ble_eq_true rfl) ?_
  intro p e s m args below meth c A ls C S hl
  have hl : lv_has ls 1 [(0, .ref a_t)] := hl
  have C : Cx p s m args meth c cX6_cost (some .int) 1 RX6 G A := C
  unfold f_X6_cost at hf
  have hx := C.1
  have hb := C.2.1
  have hown := C.2.2.2.2.1
  have hts := C.2.2.2.2.2.1
  have hN := C.2.2.2.2.2.2.2.2.2.2
  refine lv_aload_n (pc := 0) hx hb dX6_cost_0 rfl (lv_at hl 0 rfl) ?_
  obtain ⟨r1, hq1, hf⟩ := bd_e hf
  refine x_vI (pc := 1) (As := []) (rest := []) (isC := [0, 1, 2, 3]) (ws' := (w_X6_cost G a_t a_t_facts a_t_roundsOf a_t_locked a_t_rules a_t_sizes a_t_rows a_t_seen a_t_plan a_t_book t_stopCount t_metric t_fixed t_facts t_sizes t_rows)) C S (c_X6_milesOfAll l G a_t a_t_facts a_t_roundsOf a_t_locked a_t_rules a_t_sizes a_t_rows a_t_seen a_t_plan a_t_book t_stopCount t_metric t_fixed t_facts t_sizes t_rows r1 hq1) (u_X6_cost_X6_milesOfAll_120 hts) (ci := 6) rfl 0 rfl rfl (by decide +kernel) [some 0, some 1, some 2, some 3] (by decide +kernel) rfl rfl rfl hl.1 rfl (Nat.le_of_ble_eq_true rfl) dX6_cost_1 (fun H locs S => ?_)
  refine lv_aload_n (pc := 4) hx hb dX6_cost_4 rfl (lv_at hl 0 rfl) ?_
  refine x_get (pc := 5) (ci := 6) (T := TX6) (v := .int t_fixed) C S 0 rfl rfl inlX6 11 (by decide) rfl qf_6_67 rfl dX6_cost_5 ?_
  refine lv_aload_n (pc := 8) hx hb dX6_cost_8 rfl (lv_at hl 0 rfl) ?_
  obtain ⟨r2, hq2, hf⟩ := bd_e hf
  refine x_vI (pc := 9) (As := []) (rest := [.int t_fixed, .int r1]) (isC := [0, 2]) (ws' := (w_X6_cost G a_t a_t_facts a_t_roundsOf a_t_locked a_t_rules a_t_sizes a_t_rows a_t_seen a_t_plan a_t_book t_stopCount t_metric t_fixed t_facts t_sizes t_rows)) C S (c_X6_usedRounds l G a_t a_t_facts a_t_roundsOf a_t_locked a_t_rules a_t_sizes a_t_rows a_t_seen a_t_plan a_t_book t_stopCount t_metric t_fixed t_sizes r2 hq2) (u_X6_cost_X6_usedRounds_124 hts) (ci := 6) rfl 0 rfl rfl (by decide +kernel) [some 0, none, some 1, none] (by decide +kernel) rfl rfl rfl hl.1 rfl (Nat.le_of_ble_eq_true rfl) dX6_cost_9 (fun H locs S => ?_)
  refine lv_imul (pc := 12) hx hb dX6_cost_12 ?_
  refine lv_iadd (pc := 13) hx hb dX6_cost_13 ?_
  cases hf
  exact x_iret (pc := 14) C S dX6_cost_14
end

abbrev rm_X6_draw : Room := { frames := 2, cells := 0, slots := 0, locals := 51 }
abbrev kw_X6_draw : Cond := .code yX6_draw cX6_draw 9 none
abbrev w_X6_draw (G : GE) (a_t a_t_facts a_t_roundsOf a_t_locked a_t_rules a_t_sizes a_t_rows a_t_seen a_t_plan a_t_book : Nat) (t_stopCount : Int32) (t_metric : Int32) (t_fixed : Int32) (t_facts : Nat → Int32) (t_roundsOf : Nat → Int32) (t_locked : Nat → Int32) : va_W := [(a_t, ob 6 [.ref a_t_facts, .ref a_t_roundsOf, .ref a_t_locked, .ref a_t_rules, .ref a_t_sizes, .ref a_t_rows, .ref a_t_seen, .ref a_t_plan, .ref a_t_book, .int t_stopCount, .int t_metric, .int t_fixed]), (a_t_facts, aI G 102 t_facts), (a_t_roundsOf, aI G 16 t_roundsOf), (a_t_locked, aZ G 16 t_locked)]
theorem u_X6_draw_X6_addStop_73 {s : State} {args : Array Value} (hts : ∀ w ∈ WU, w.before args s = true) : CallW rm_X6_draw s args RX6 RX6 73 yX6_addStop cX6_addStop 8 (some .int) (kw_X6_addStop :: WU) rm_X6_addStop 0 0 6 := cwV 6 hts (gV qm_6_73 qi_X6_addStop ql_X6_addStop qn_6 qc_X6_addStop) rfl rfl rfl (by decide +kernel) ⟨Nat.le_of_ble_eq_true rfl, Nat.le_of_ble_eq_true rfl⟩
theorem u_X6_draw_X7_topOf_81 {s : State} {args : Array Value} (hts : ∀ w ∈ WU, w.before args s = true) (hN : Nx s) : va_CN rm_X6_draw s args RX6 81 yX7_topOf RX7 cX7_topOf 2 (some .int) (kw_X7_topOf :: WU) rm_X7_topOf 0 0 2 ∧ (Cond.static yX7_topOf).before args s = true ∧ True := ⟨va_cnB 2 hts (gW qc_X7_topOf) rfl rfl rfl (hN.1 _ (by decide +kernel : (RX6, 81, yX7_topOf) ∈ nstM)) (hts _ qn_7) (by decide +kernel) ⟨Nat.le_of_ble_eq_true rfl, Nat.le_of_ble_eq_true rfl⟩, hts _ qs_X7_topOf, trivial⟩
theorem u_X6_draw_X6_fact_85 {s : State} {args : Array Value} (hts : ∀ w ∈ WU, w.before args s = true) : CallW rm_X6_draw s args RX6 RX6 85 yX6_fact cX6_fact 4 (some .int) (kw_X6_fact :: WU) rm_X6_fact 0 0 2 := cwV 2 hts (gV qm_6_85 qi_X6_fact ql_X6_fact qn_6 qc_X6_fact) rfl rfl rfl (by decide +kernel) ⟨Nat.le_of_ble_eq_true rfl, Nat.le_of_ble_eq_true rfl⟩
theorem u_X6_draw_X6_setFact_70 {s : State} {args : Array Value} (hts : ∀ w ∈ WU, w.before args s = true) : CallW rm_X6_draw s args RX6 RX6 70 yX6_setFact cX6_setFact 5 none (kw_X6_setFact :: WU) rm_X6_setFact 0 0 3 := cwV 3 hts (gV qm_6_70 qi_X6_setFact ql_X6_setFact qn_6 qc_X6_setFact) rfl rfl rfl (by decide +kernel) ⟨Nat.le_of_ble_eq_true rfl, Nat.le_of_ble_eq_true rfl⟩
section
variable {p : Program} {l : Launch} {e : Env} {s : State} {m : MethodId} {args : Array Value} {below : List Frame} {meth : Method} {c : Code} {A : Nat → Prop} {G : GE} {a_t a_t_facts a_t_roundsOf a_t_locked a_t_rules a_t_sizes a_t_rows a_t_seen a_t_plan a_t_book : Nat} {z_t_facts : Nat → Int32} {z_t_roundsOf : Nat → Int32} {z_t_locked : Nat → Int32} {z_t_stopCount : Int32}
set_option maxRecDepth 100000 in
set_option maxHeartbeats 4000000 in
theorem k_X6_draw_108 (C : Cx p s m args meth c cX6_draw none 9 RX6 G A) (t_stopCount : Int32) (t_metric : Int32) (t_fixed : Int32) (t_facts : Nat → Int32) (t_roundsOf : Nat → Int32) (t_locked : Nat → Int32) (x2 : Int32) (x3 : Int32) (x4 : Int32) (x5 : Int32) (x6 : Int32) (y1 : Int32) (y2 : Int32) (y3 : Int32) (k5 : Int32 × Int32 × (Nat → Int32) × (Nat → Int32) × (Nat → Int32) × Int32 → Option ((Nat → Int32) × (Nat → Int32) × (Nat → Int32) × Int32)) (hk5 : ∀ {H : Heap} {locs : List Loc} {ls : Array Slot} (x3' : Int32) (x4' : Int32) (t_facts' : Nat → Int32) (t_roundsOf' : Nat → Int32) (t_locked' : Nat → Int32) (t_stopCount' : Int32), k5 (x3', x4', t_facts', t_roundsOf', t_locked', t_stopCount') = some (z_t_facts, z_t_roundsOf, z_t_locked, z_t_stopCount) → St G A s.heap H locs (w_X6_draw G a_t a_t_facts a_t_roundsOf a_t_locked a_t_rules a_t_sizes a_t_rows a_t_seen a_t_plan a_t_book t_stopCount' t_metric t_fixed t_facts' t_roundsOf' t_locked') → lv_has ls 9 [(0, .ref a_t), (2, .int x2), (3, .int x3'), (4, .int x4')] → W p l e rm_X6_draw s m args below meth c H locs 0 0 (QV G below args s A (w_X6_draw G a_t a_t_facts a_t_roundsOf a_t_locked a_t_rules a_t_sizes a_t_rows a_t_seen a_t_plan a_t_book z_t_stopCount t_metric t_fixed z_t_facts z_t_roundsOf z_t_locked)) (F0 m 5 ls [])) (k35 : Int32 × Int32 × (Nat → Int32) → Option ((Nat → Int32) × (Nat → Int32) × (Nat → Int32) × Int32)) (hk35 : ∀ {H : Heap} {locs : List Loc} {ls : Array Slot} (x3' : Int32) (x6' : Int32) (t_facts' : Nat → Int32), k35 (x3', x6', t_facts') = some (z_t_facts, z_t_roundsOf, z_t_locked, z_t_stopCount) → St G A s.heap H locs (w_X6_draw G a_t a_t_facts a_t_roundsOf a_t_locked a_t_rules a_t_sizes a_t_rows a_t_seen a_t_plan a_t_book t_stopCount t_metric t_fixed t_facts' t_roundsOf t_locked) → lv_has ls 9 [(0, .ref a_t), (2, .int x2), (3, .int x3'), (4, .int x4), (5, .int x5), (6, .int x6')] → W p l e rm_X6_draw s m args below meth c H locs 0 0 (QV G below args s A (w_X6_draw G a_t a_t_facts a_t_roundsOf a_t_locked a_t_rules a_t_sizes a_t_rows a_t_seen a_t_plan a_t_book z_t_stopCount t_metric t_fixed z_t_facts z_t_roundsOf z_t_locked)) (F0 m 35 ls [])) {H : Heap} {locs : List Loc} {ls : Array Slot} (hf : b_X6_draw_108 k5 k35 x2 x3 x4 x5 x6 y1 y2 y3 t_facts t_roundsOf t_locked t_stopCount = some (z_t_facts, z_t_roundsOf, z_t_locked, z_t_stopCount)) (S : St G A s.heap H locs (w_X6_draw G a_t a_t_facts a_t_roundsOf a_t_locked a_t_rules a_t_sizes a_t_rows a_t_seen a_t_plan a_t_book t_stopCount t_metric t_fixed t_facts t_roundsOf t_locked)) (hl : lv_has ls 9 [(0, .ref a_t), (2, .int x2), (3, .int x3), (4, .int x4), (5, .int x5), (6, .int x6)]) : W p l e rm_X6_draw s m args below meth c H locs 0 0 (QV G below args s A (w_X6_draw G a_t a_t_facts a_t_roundsOf a_t_locked a_t_rules a_t_sizes a_t_rows a_t_seen a_t_plan a_t_book z_t_stopCount t_metric t_fixed z_t_facts z_t_roundsOf z_t_locked)) (F0 m 108 ls [.int y3, .int y2, .int y1, .ref a_t]) := by
  unfold b_X6_draw_108 at hf
  have hx := C.1
  have hb := C.2.1
  have hown := C.2.2.2.2.1
  have hts := C.2.2.2.2.2.1
  have hN := C.2.2.2.2.2.2.2.2.2.2
  obtain ⟨o1_t_facts, hq1, hf⟩ := bd_e hf
  refine x_vV (pc := 108) (As := [.int y1, .int y2, .int y3]) (rest := []) (isC := [0, 1]) (ws' := (w_X6_draw G a_t a_t_facts a_t_roundsOf a_t_locked a_t_rules a_t_sizes a_t_rows a_t_seen a_t_plan a_t_book t_stopCount t_metric t_fixed o1_t_facts t_roundsOf t_locked)) C S (c_X6_setFact l G a_t a_t_facts a_t_roundsOf a_t_locked a_t_rules a_t_sizes a_t_rows a_t_seen a_t_plan a_t_book t_stopCount t_metric t_fixed t_facts y1 y2 y3 o1_t_facts hq1) (u_X6_draw_X6_setFact_70 hts) (ci := 6) rfl 0 rfl rfl (by decide +kernel) [some 0, some 1, none, none] (by decide +kernel) rfl rfl rfl hl.1 rfl (Nat.le_of_ble_eq_true rfl) dX6_draw_108 (fun H locs S => ?_)
  refine lv_iinc (pc := 111) (v := (x6 + (1 : Int32))) (lv' := [(6, .int (x6 + (1 : Int32))), (0, .ref a_t), (2, .int x2), (3, .int x3), (4, .int x4), (5, .int x5)]) hx hb dX6_draw_111 hl (k := 5) rfl (congrArg (fun z => x6 + z) ic_1) (by decide) rfl (fun ls hl => ?_)
  refine lv_goto (tgt := 35) (pc := 114) hx hb dX6_draw_114 (by decide) ?_
  exact hk35 (x3) ((x6 + (1 : Int32))) (o1_t_facts)  hf S (lv_sub hl [1, 2, 3, 4, 5, 0] rfl)
set_option maxRecDepth 100000 in
set_option maxHeartbeats 4000000 in
theorem k_X6_draw_77 (C : Cx p s m args meth c cX6_draw none 9 RX6 G A) (t_stopCount : Int32) (t_metric : Int32) (t_fixed : Int32) (t_facts : Nat → Int32) (t_roundsOf : Nat → Int32) (t_locked : Nat → Int32) (x2 : Int32) (x3 : Int32) (x4 : Int32) (x5 : Int32) (x6 : Int32) (y0 : Int32) (k5 : Int32 × Int32 × (Nat → Int32) × (Nat → Int32) × (Nat → Int32) × Int32 → Option ((Nat → Int32) × (Nat → Int32) × (Nat → Int32) × Int32)) (hk5 : ∀ {H : Heap} {locs : List Loc} {ls : Array Slot} (x3' : Int32) (x4' : Int32) (t_facts' : Nat → Int32) (t_roundsOf' : Nat → Int32) (t_locked' : Nat → Int32) (t_stopCount' : Int32), k5 (x3', x4', t_facts', t_roundsOf', t_locked', t_stopCount') = some (z_t_facts, z_t_roundsOf, z_t_locked, z_t_stopCount) → St G A s.heap H locs (w_X6_draw G a_t a_t_facts a_t_roundsOf a_t_locked a_t_rules a_t_sizes a_t_rows a_t_seen a_t_plan a_t_book t_stopCount' t_metric t_fixed t_facts' t_roundsOf' t_locked') → lv_has ls 9 [(0, .ref a_t), (2, .int x2), (3, .int x3'), (4, .int x4')] → W p l e rm_X6_draw s m args below meth c H locs 0 0 (QV G below args s A (w_X6_draw G a_t a_t_facts a_t_roundsOf a_t_locked a_t_rules a_t_sizes a_t_rows a_t_seen a_t_plan a_t_book z_t_stopCount t_metric t_fixed z_t_facts z_t_roundsOf z_t_locked)) (F0 m 5 ls [])) (k35 : Int32 × Int32 × (Nat → Int32) → Option ((Nat → Int32) × (Nat → Int32) × (Nat → Int32) × Int32)) (hk35 : ∀ {H : Heap} {locs : List Loc} {ls : Array Slot} (x3' : Int32) (x6' : Int32) (t_facts' : Nat → Int32), k35 (x3', x6', t_facts') = some (z_t_facts, z_t_roundsOf, z_t_locked, z_t_stopCount) → St G A s.heap H locs (w_X6_draw G a_t a_t_facts a_t_roundsOf a_t_locked a_t_rules a_t_sizes a_t_rows a_t_seen a_t_plan a_t_book t_stopCount t_metric t_fixed t_facts' t_roundsOf t_locked) → lv_has ls 9 [(0, .ref a_t), (2, .int x2), (3, .int x3'), (4, .int x4), (5, .int x5), (6, .int x6')] → W p l e rm_X6_draw s m args below meth c H locs 0 0 (QV G below args s A (w_X6_draw G a_t a_t_facts a_t_roundsOf a_t_locked a_t_rules a_t_sizes a_t_rows a_t_seen a_t_plan a_t_book z_t_stopCount t_metric t_fixed z_t_facts z_t_roundsOf z_t_locked)) (F0 m 35 ls [])) {H : Heap} {locs : List Loc} {ls : Array Slot} (hf : b_X6_draw_77 k5 k35 x2 x3 x4 x5 x6 y0 t_facts t_roundsOf t_locked t_stopCount = some (z_t_facts, z_t_roundsOf, z_t_locked, z_t_stopCount)) (S : St G A s.heap H locs (w_X6_draw G a_t a_t_facts a_t_roundsOf a_t_locked a_t_rules a_t_sizes a_t_rows a_t_seen a_t_plan a_t_book t_stopCount t_metric t_fixed t_facts t_roundsOf t_locked)) (hl : lv_has ls 9 [(0, .ref a_t), (2, .int x2), (3, .int x3), (4, .int x4), (5, .int x5), (6, .int x6)]) : W p l e rm_X6_draw s m args below meth c H locs 0 0 (QV G below args s A (w_X6_draw G a_t a_t_facts a_t_roundsOf a_t_locked a_t_rules a_t_sizes a_t_rows a_t_seen a_t_plan a_t_book z_t_stopCount t_metric t_fixed z_t_facts z_t_roundsOf z_t_locked)) (F0 m 77 ls [.int y0]) := by
  unfold b_X6_draw_77 at hf
  have hx := C.1
  have hb := C.2.1
  have hown := C.2.2.2.2.1
  have hts := C.2.2.2.2.2.1
  have hN := C.2.2.2.2.2.2.2.2.2.2
  refine lv_istore (pc := 77) (lv' := [(8, .int y0), (0, .ref a_t), (2, .int x2), (3, .int x3), (4, .int x4), (5, .int x5), (6, .int x6)]) hx hb dX6_draw_77 hl (by decide) rfl (fun ls hl => ?_)
  refine lv_aload_n (pc := 79) hx hb dX6_draw_79 rfl (lv_at hl 1 rfl) ?_
  refine lv_iload (pc := 80) hx hb dX6_draw_80 (lv_at hl 5 rfl) ?_
  refine lv_iload (pc := 82) hx hb dX6_draw_82 (lv_at hl 6 rfl) ?_
  refine lv_iload (pc := 84) hx hb dX6_draw_84 (lv_at hl 6 rfl) ?_
  refine lv_iconst (pc := 86) hx hb dX6_draw_86 ic_4 ?_
  refine lv_icmp_ne (tgt := 106) (pc := 87) hx hb dX6_draw_87 (by decide) (fun c1 => ?_) (fun c1 => ?_)
  · have hf := ifn c1 hf
    refine lv_iload (pc := 106) hx hb dX6_draw_106 (lv_at hl 0 rfl) ?_
    exact k_X6_draw_108 C (t_stopCount) (t_metric) (t_fixed) (t_facts) (t_roundsOf) (t_locked) (x2) (x3) (x4) (x5) (x6) (x5) (x6) (y0) k5 hk5 k35 hk35 hf S (lv_sub hl [1, 2, 3, 4, 5, 6] rfl)
  · have hf := ifp c1 hf
    refine lv_aload_n (pc := 90) hx hb dX6_draw_90 rfl (lv_at hl 1 rfl) ?_
    refine lv_iload (pc := 91) hx hb dX6_draw_91 (lv_at hl 5 rfl) ?_
    refine lv_iconst (pc := 93) hx hb dX6_draw_93 ic_3 ?_
    obtain ⟨r2, hq2, hf⟩ := bd_e hf
    refine x_vI (pc := 94) (As := [.int x5, .int (3 : Int32)]) (rest := [.int x6, .int x5, .ref a_t]) (isC := [0, 1]) (ws' := (w_X6_draw G a_t a_t_facts a_t_roundsOf a_t_locked a_t_rules a_t_sizes a_t_rows a_t_seen a_t_plan a_t_book t_stopCount t_metric t_fixed t_facts t_roundsOf t_locked)) C S (c_X6_fact l G a_t a_t_facts a_t_roundsOf a_t_locked a_t_rules a_t_sizes a_t_rows a_t_seen a_t_plan a_t_book t_stopCount t_metric t_fixed t_facts x5 (3 : Int32) r2 hq2) (u_X6_draw_X6_fact_85 hts) (ci := 6) rfl 0 rfl rfl (by decide +kernel) [some 0, some 1, none, none] (by decide +kernel) rfl rfl rfl hl.1 rfl (Nat.le_of_ble_eq_true rfl) dX6_draw_94 (fun H locs S => ?_)
    refine lv_bipush (pc := 97) hx hb dX6_draw_97 bc_20 ?_
    refine lv_iadd (pc := 99) hx hb dX6_draw_99 ?_
    refine lv_iload (pc := 100) hx hb dX6_draw_100 (lv_at hl 0 rfl) ?_
    refine lv_iadd (pc := 102) hx hb dX6_draw_102 ?_
    refine lv_goto (tgt := 108) (pc := 103) hx hb dX6_draw_103 (by decide) ?_
    exact k_X6_draw_108 C (t_stopCount) (t_metric) (t_fixed) (t_facts) (t_roundsOf) (t_locked) (x2) (x3) (x4) (x5) (x6) (x5) (x6) (((r2 + (20 : Int32)) + y0)) k5 hk5 k35 hk35 hf S (lv_sub hl [1, 2, 3, 4, 5, 6] rfl)
set_option maxRecDepth 100000 in
set_option maxHeartbeats 4000000 in
theorem k_X6_draw_35 (C : Cx p s m args meth c cX6_draw none 9 RX6 G A) (t_stopCount : Int32) (t_metric : Int32) (t_fixed : Int32) (t_facts : Nat → Int32) (t_roundsOf : Nat → Int32) (t_locked : Nat → Int32) (x2 : Int32) (x3 : Int32) (x4 : Int32) (x5 : Int32) (x6 : Int32) (k5 : Int32 × Int32 × (Nat → Int32) × (Nat → Int32) × (Nat → Int32) × Int32 → Option ((Nat → Int32) × (Nat → Int32) × (Nat → Int32) × Int32)) (hk5 : ∀ {H : Heap} {locs : List Loc} {ls : Array Slot} (x3' : Int32) (x4' : Int32) (t_facts' : Nat → Int32) (t_roundsOf' : Nat → Int32) (t_locked' : Nat → Int32) (t_stopCount' : Int32), k5 (x3', x4', t_facts', t_roundsOf', t_locked', t_stopCount') = some (z_t_facts, z_t_roundsOf, z_t_locked, z_t_stopCount) → St G A s.heap H locs (w_X6_draw G a_t a_t_facts a_t_roundsOf a_t_locked a_t_rules a_t_sizes a_t_rows a_t_seen a_t_plan a_t_book t_stopCount' t_metric t_fixed t_facts' t_roundsOf' t_locked') → lv_has ls 9 [(0, .ref a_t), (2, .int x2), (3, .int x3'), (4, .int x4')] → W p l e rm_X6_draw s m args below meth c H locs 0 0 (QV G below args s A (w_X6_draw G a_t a_t_facts a_t_roundsOf a_t_locked a_t_rules a_t_sizes a_t_rows a_t_seen a_t_plan a_t_book z_t_stopCount t_metric t_fixed z_t_facts z_t_roundsOf z_t_locked)) (F0 m 5 ls [])) (k35 : Int32 × Int32 × (Nat → Int32) → Option ((Nat → Int32) × (Nat → Int32) × (Nat → Int32) × Int32)) (hk35 : ∀ {H : Heap} {locs : List Loc} {ls : Array Slot} (x3' : Int32) (x6' : Int32) (t_facts' : Nat → Int32), k35 (x3', x6', t_facts') = some (z_t_facts, z_t_roundsOf, z_t_locked, z_t_stopCount) → St G A s.heap H locs (w_X6_draw G a_t a_t_facts a_t_roundsOf a_t_locked a_t_rules a_t_sizes a_t_rows a_t_seen a_t_plan a_t_book t_stopCount t_metric t_fixed t_facts' t_roundsOf t_locked) → lv_has ls 9 [(0, .ref a_t), (2, .int x2), (3, .int x3'), (4, .int x4), (5, .int x5), (6, .int x6')] → W p l e rm_X6_draw s m args below meth c H locs 0 0 (QV G below args s A (w_X6_draw G a_t a_t_facts a_t_roundsOf a_t_locked a_t_rules a_t_sizes a_t_rows a_t_seen a_t_plan a_t_book z_t_stopCount t_metric t_fixed z_t_facts z_t_roundsOf z_t_locked)) (F0 m 35 ls [])) {H : Heap} {locs : List Loc} {ls : Array Slot} (hf : b_X6_draw_35 k5 x2 x4 x5 t_roundsOf t_locked t_stopCount k35 x3 x6 t_facts = some (z_t_facts, z_t_roundsOf, z_t_locked, z_t_stopCount)) (S : St G A s.heap H locs (w_X6_draw G a_t a_t_facts a_t_roundsOf a_t_locked a_t_rules a_t_sizes a_t_rows a_t_seen a_t_plan a_t_book t_stopCount t_metric t_fixed t_facts t_roundsOf t_locked)) (hl : lv_has ls 9 [(0, .ref a_t), (2, .int x2), (3, .int x3), (4, .int x4), (5, .int x5), (6, .int x6)]) : W p l e rm_X6_draw s m args below meth c H locs 0 0 (QV G below args s A (w_X6_draw G a_t a_t_facts a_t_roundsOf a_t_locked a_t_rules a_t_sizes a_t_rows a_t_seen a_t_plan a_t_book z_t_stopCount t_metric t_fixed z_t_facts z_t_roundsOf z_t_locked)) (F0 m 35 ls []) := by
  unfold b_X6_draw_35 at hf
  have hx := C.1
  have hb := C.2.1
  have hown := C.2.2.2.2.1
  have hts := C.2.2.2.2.2.1
  have hN := C.2.2.2.2.2.2.2.2.2.2
  refine lv_iload (pc := 35) hx hb dX6_draw_35 (lv_at hl 5 rfl) ?_
  refine lv_bipush (pc := 37) hx hb dX6_draw_37 bc_6 ?_
  refine lv_icmp_ge (tgt := 117) (pc := 39) hx hb dX6_draw_39 (by decide) (fun c1 => ?_) (fun c1 => ?_)
  · have hf := ifp c1 hf
    refine lv_iinc (pc := 117) (v := (x4 + (1 : Int32))) (lv' := [(4, .int (x4 + (1 : Int32))), (0, .ref a_t), (2, .int x2), (3, .int x3), (5, .int x5), (6, .int x6)]) hx hb dX6_draw_117 hl (k := 3) rfl (congrArg (fun z => x4 + z) ic_1) (by decide) rfl (fun ls hl => ?_)
    refine lv_goto (tgt := 5) (pc := 120) hx hb dX6_draw_120 (by decide) ?_
    exact hk5 (x3) ((x4 + (1 : Int32))) (t_facts) (t_roundsOf) (t_locked) (t_stopCount)  hf S (lv_sub hl [1, 2, 3, 0] rfl)
  · have hf := ifn c1 hf
    refine lv_iload_n (pc := 42) hx hb dX6_draw_42 rfl (lv_at hl 2 rfl) ?_
    refine lv_ldc (pc := 43) hx hb hown (hts _ qk_6_77) dX6_draw_43 ?_
    refine lv_imul (pc := 45) hx hb dX6_draw_45 ?_
    refine lv_sipush (pc := 46) hx hb dX6_draw_46 sc_12345 ?_
    refine lv_iadd (pc := 49) hx hb dX6_draw_49 ?_
    refine lv_istore_n (pc := 50) (lv' := [(3, .int ((x3 * (1103515245 : Int32)) + (12345 : Int32))), (0, .ref a_t), (2, .int x2), (4, .int x4), (5, .int x5), (6, .int x6)]) hx hb dX6_draw_50 rfl hl (by decide) rfl (fun ls hl => ?_)
    refine x_tabN (pc := 51) C S 1 (by decide) (index := 78) (own := RX6) (by decide +kernel) dX6_draw_51 ?_
    refine lv_iload (pc := 54) hx hb dX6_draw_54 (lv_at hl 5 rfl) ?_
    obtain ⟨r2, hq2, hf⟩ := bd_e hf
    refine x_nI (pc := 56) (As := [.ref (tabA G 1), .int x6]) (rest := []) (isC := []) (ws' := (w_X6_draw G a_t a_t_facts a_t_roundsOf a_t_locked a_t_rules a_t_sizes a_t_rows a_t_seen a_t_plan a_t_book t_stopCount t_metric t_fixed t_facts t_roundsOf t_locked)) C S (c_X7_topOf l G 1 (by decide) x6 r2 hq2) (u_X6_draw_X7_topOf_81 hts hN) rfl (by decide +kernel) [none, none, none, none] (by decide +kernel) rfl rfl rfl hl.1 rfl (Nat.le_of_ble_eq_true rfl) dX6_draw_56 (fun H locs S => ?_)
    refine lv_istore (pc := 59) (lv' := [(7, .int r2), (3, .int ((x3 * (1103515245 : Int32)) + (12345 : Int32))), (0, .ref a_t), (2, .int x2), (4, .int x4), (5, .int x5), (6, .int x6)]) hx hb dX6_draw_59 hl (by decide) rfl (fun ls hl => ?_)
    refine lv_iload (pc := 61) hx hb dX6_draw_61 (lv_at hl 0 rfl) ?_
    refine lv_if_le (tgt := 76) (pc := 63) hx hb dX6_draw_63 (by decide) (fun c3 => ?_) (fun c3 => ?_)
    · have hf := ifp c3 hf
      refine lv_iconst (pc := 76) hx hb dX6_draw_76 ic_0 ?_
      exact k_X6_draw_77 C (t_stopCount) (t_metric) (t_fixed) (t_facts) (t_roundsOf) (t_locked) (x2) (((x3 * (1103515245 : Int32)) + (12345 : Int32))) (x4) (x5) (x6) ((0 : Int32)) k5 hk5 k35 hk35 hf S (lv_sub hl [2, 3, 1, 4, 5, 6] rfl)
    · have hf := ifn c3 hf
      refine lv_iload_n (pc := 66) hx hb dX6_draw_66 rfl (lv_at hl 1 rfl) ?_
      refine lv_bipush (pc := 67) hx hb dX6_draw_67 bc_9 ?_
      refine lv_iushr (pc := 69) hx hb dX6_draw_69 rfl ?_
      refine lv_iload (pc := 70) hx hb dX6_draw_70 (lv_at hl 0 rfl) ?_
      obtain ⟨hz4, hf⟩ := gd_e hf
      refine lv_irem (pc := 72) hx hb dX6_draw_72 hz4 ?_
      refine lv_goto (tgt := 77) (pc := 73) hx hb dX6_draw_73 (by decide) ?_
      exact k_X6_draw_77 C (t_stopCount) (t_metric) (t_fixed) (t_facts) (t_roundsOf) (t_locked) (x2) (((x3 * (1103515245 : Int32)) + (12345 : Int32))) (x4) (x5) (x6) (((((x3 * (1103515245 : Int32)) + (12345 : Int32)).toUInt32 >>> ((9 : Int32).toUInt32 &&& Int32.toUInt32 31)).toInt32 - (((x3 * (1103515245 : Int32)) + (12345 : Int32)).toUInt32 >>> ((9 : Int32).toUInt32 &&& Int32.toUInt32 31)).toInt32 / r2 * r2)) k5 hk5 k35 hk35 hf S (lv_sub hl [2, 3, 1, 4, 5, 6] rfl)
set_option maxRecDepth 100000 in
set_option maxHeartbeats 4000000 in
theorem h_X6_draw_35 (C : Cx p s m args meth c cX6_draw none 9 RX6 G A) (t_stopCount : Int32) (t_metric : Int32) (t_fixed : Int32) (t_roundsOf : Nat → Int32) (t_locked : Nat → Int32) (x2 : Int32) (x4 : Int32) (x5 : Int32) (k5 : Int32 × Int32 × (Nat → Int32) × (Nat → Int32) × (Nat → Int32) × Int32 → Option ((Nat → Int32) × (Nat → Int32) × (Nat → Int32) × Int32)) (hk5 : ∀ {H : Heap} {locs : List Loc} {ls : Array Slot} (x3' : Int32) (x4' : Int32) (t_facts' : Nat → Int32) (t_roundsOf' : Nat → Int32) (t_locked' : Nat → Int32) (t_stopCount' : Int32), k5 (x3', x4', t_facts', t_roundsOf', t_locked', t_stopCount') = some (z_t_facts, z_t_roundsOf, z_t_locked, z_t_stopCount) → St G A s.heap H locs (w_X6_draw G a_t a_t_facts a_t_roundsOf a_t_locked a_t_rules a_t_sizes a_t_rows a_t_seen a_t_plan a_t_book t_stopCount' t_metric t_fixed t_facts' t_roundsOf' t_locked') → lv_has ls 9 [(0, .ref a_t), (2, .int x2), (3, .int x3'), (4, .int x4')] → W p l e rm_X6_draw s m args below meth c H locs 0 0 (QV G below args s A (w_X6_draw G a_t a_t_facts a_t_roundsOf a_t_locked a_t_rules a_t_sizes a_t_rows a_t_seen a_t_plan a_t_book z_t_stopCount t_metric t_fixed z_t_facts z_t_roundsOf z_t_locked)) (F0 m 5 ls [])) : ∀ (n : Nat) (x3 : Int32) (x6 : Int32) (t_facts : Nat → Int32) {H : Heap} {locs : List Loc} {ls : Array Slot} (hf : lp (fun k x => b_X6_draw_35 k5 x2 x4 x5 t_roundsOf t_locked t_stopCount k x.1 x.2.1 x.2.2) n (x3, x6, t_facts) = some (z_t_facts, z_t_roundsOf, z_t_locked, z_t_stopCount)) (S : St G A s.heap H locs (w_X6_draw G a_t a_t_facts a_t_roundsOf a_t_locked a_t_rules a_t_sizes a_t_rows a_t_seen a_t_plan a_t_book t_stopCount t_metric t_fixed t_facts t_roundsOf t_locked)) (hl : lv_has ls 9 [(0, .ref a_t), (2, .int x2), (3, .int x3), (4, .int x4), (5, .int x5), (6, .int x6)]), W p l e rm_X6_draw s m args below meth c H locs 0 0 (QV G below args s A (w_X6_draw G a_t a_t_facts a_t_roundsOf a_t_locked a_t_rules a_t_sizes a_t_rows a_t_seen a_t_plan a_t_book z_t_stopCount t_metric t_fixed z_t_facts z_t_roundsOf z_t_locked)) (F0 m 35 ls []) := by
  intro n
  induction n with
  | zero =>
    intro x3 x6 t_facts  H locs ls hf
    cases hf
  | succ n ih =>
    intro x3 x6 t_facts  H locs ls hf S hl
    have hf : b_X6_draw_35 k5 x2 x4 x5 t_roundsOf t_locked t_stopCount (lp (fun k x => b_X6_draw_35 k5 x2 x4 x5 t_roundsOf t_locked t_stopCount k x.1 x.2.1 x.2.2) n) x3 x6 t_facts = some (z_t_facts, z_t_roundsOf, z_t_locked, z_t_stopCount) := hf
    exact k_X6_draw_35 C t_stopCount t_metric t_fixed t_facts t_roundsOf t_locked x2 x3 x4 x5 x6  k5 hk5 (lp (fun k x => b_X6_draw_35 k5 x2 x4 x5 t_roundsOf t_locked t_stopCount k x.1 x.2.1 x.2.2) n) (fun x3' x6' t_facts'  h S hl => ih x3' x6' t_facts'  h S hl) hf S hl
set_option maxRecDepth 100000 in
set_option maxHeartbeats 4000000 in
theorem k_X6_draw_5 (C : Cx p s m args meth c cX6_draw none 9 RX6 G A) (t_stopCount : Int32) (t_metric : Int32) (t_fixed : Int32) (t_facts : Nat → Int32) (t_roundsOf : Nat → Int32) (t_locked : Nat → Int32) (x2 : Int32) (x3 : Int32) (x4 : Int32) (k5 : Int32 × Int32 × (Nat → Int32) × (Nat → Int32) × (Nat → Int32) × Int32 → Option ((Nat → Int32) × (Nat → Int32) × (Nat → Int32) × Int32)) (hk5 : ∀ {H : Heap} {locs : List Loc} {ls : Array Slot} (x3' : Int32) (x4' : Int32) (t_facts' : Nat → Int32) (t_roundsOf' : Nat → Int32) (t_locked' : Nat → Int32) (t_stopCount' : Int32), k5 (x3', x4', t_facts', t_roundsOf', t_locked', t_stopCount') = some (z_t_facts, z_t_roundsOf, z_t_locked, z_t_stopCount) → St G A s.heap H locs (w_X6_draw G a_t a_t_facts a_t_roundsOf a_t_locked a_t_rules a_t_sizes a_t_rows a_t_seen a_t_plan a_t_book t_stopCount' t_metric t_fixed t_facts' t_roundsOf' t_locked') → lv_has ls 9 [(0, .ref a_t), (2, .int x2), (3, .int x3'), (4, .int x4')] → W p l e rm_X6_draw s m args below meth c H locs 0 0 (QV G below args s A (w_X6_draw G a_t a_t_facts a_t_roundsOf a_t_locked a_t_rules a_t_sizes a_t_rows a_t_seen a_t_plan a_t_book z_t_stopCount t_metric t_fixed z_t_facts z_t_roundsOf z_t_locked)) (F0 m 5 ls [])) {H : Heap} {locs : List Loc} {ls : Array Slot} (hf : b_X6_draw_5 x2 k5 x3 x4 t_facts t_roundsOf t_locked t_stopCount = some (z_t_facts, z_t_roundsOf, z_t_locked, z_t_stopCount)) (S : St G A s.heap H locs (w_X6_draw G a_t a_t_facts a_t_roundsOf a_t_locked a_t_rules a_t_sizes a_t_rows a_t_seen a_t_plan a_t_book t_stopCount t_metric t_fixed t_facts t_roundsOf t_locked)) (hl : lv_has ls 9 [(0, .ref a_t), (2, .int x2), (3, .int x3), (4, .int x4)]) : W p l e rm_X6_draw s m args below meth c H locs 0 0 (QV G below args s A (w_X6_draw G a_t a_t_facts a_t_roundsOf a_t_locked a_t_rules a_t_sizes a_t_rows a_t_seen a_t_plan a_t_book z_t_stopCount t_metric t_fixed z_t_facts z_t_roundsOf z_t_locked)) (F0 m 5 ls []) := by
  unfold b_X6_draw_5 at hf
  have hx := C.1
  have hb := C.2.1
  have hown := C.2.2.2.2.1
  have hts := C.2.2.2.2.2.1
  have hN := C.2.2.2.2.2.2.2.2.2.2
  refine lv_iload (pc := 5) hx hb dX6_draw_5 (lv_at hl 3 rfl) ?_
  refine lv_iload_n (pc := 7) hx hb dX6_draw_7 rfl (lv_at hl 1 rfl) ?_
  refine lv_icmp_ge (tgt := 123) (pc := 8) hx hb dX6_draw_8 (by decide) (fun c1 => ?_) (fun c1 => ?_)
  · have hf := ifp c1 hf
    cases hf
    exact x_vret (pc := 123) C S dX6_draw_123
  · have hf := ifn c1 hf
    refine lv_aload_n (pc := 11) hx hb dX6_draw_11 rfl (lv_at hl 0 rfl) ?_
    refine x_get (pc := 12) (ci := 6) (T := TX6) (v := .int t_stopCount) C S 0 rfl rfl inlX6 9 (by decide) rfl qf_6_60 rfl dX6_draw_12 ?_
    refine lv_bipush (pc := 15) hx hb dX6_draw_15 bc_16 ?_
    refine lv_icmp_ge (tgt := 123) (pc := 17) hx hb dX6_draw_17 (by decide) (fun c2 => ?_) (fun c2 => ?_)
    · have hf := ifp c2 hf
      cases hf
      exact x_vret (pc := 123) C S dX6_draw_123
    · have hf := ifn c2 hf
      refine lv_aload_n (pc := 20) hx hb dX6_draw_20 rfl (lv_at hl 0 rfl) ?_
      refine lv_iconst (pc := 21) hx hb dX6_draw_21 ic_0 ?_
      refine lv_iconst (pc := 22) hx hb dX6_draw_22 ic_0 ?_
      refine lv_iconst (pc := 23) hx hb dX6_draw_23 ic_0 ?_
      refine lv_iconst (pc := 24) hx hb dX6_draw_24 ic_0 ?_
      refine lv_iconst (pc := 25) hx hb dX6_draw_25 ic_0 ?_
      refine lv_iconst (pc := 26) hx hb dX6_draw_26 ic_0 ?_
      obtain ⟨⟨r3, o3_t_facts, o3_t_roundsOf, o3_t_locked, o3_t_stopCount⟩, hq3, hf⟩ := bd_e hf
      refine x_vI (pc := 27) (As := [.int (0 : Int32), .int (0 : Int32), .int (0 : Int32), .int (0 : Int32), .int (0 : Int32), .int (0 : Int32)]) (rest := []) (isC := [0, 1, 2, 3]) (ws' := (w_X6_draw G a_t a_t_facts a_t_roundsOf a_t_locked a_t_rules a_t_sizes a_t_rows a_t_seen a_t_plan a_t_book o3_t_stopCount t_metric t_fixed o3_t_facts o3_t_roundsOf o3_t_locked)) C S (c_X6_addStop l G a_t a_t_facts a_t_roundsOf a_t_locked a_t_rules a_t_sizes a_t_rows a_t_seen a_t_plan a_t_book t_stopCount t_metric t_fixed t_facts t_roundsOf t_locked (0 : Int32) (0 : Int32) (0 : Int32) (0 : Int32) (0 : Int32) (0 : Int32) r3 o3_t_facts o3_t_roundsOf o3_t_locked o3_t_stopCount hq3) (u_X6_draw_X6_addStop_73 hts) (ci := 6) rfl 0 rfl rfl (by decide +kernel) [some 0, some 1, some 2, some 3] (by decide +kernel) rfl rfl rfl hl.1 rfl (Nat.le_of_ble_eq_true rfl) dX6_draw_27 (fun H locs S => ?_)
      refine lv_istore (pc := 30) (lv' := [(5, .int r3), (0, .ref a_t), (2, .int x2), (3, .int x3), (4, .int x4)]) hx hb dX6_draw_30 hl (by decide) rfl (fun ls hl => ?_)
      refine lv_iconst (pc := 32) hx hb dX6_draw_32 ic_0 ?_
      refine lv_istore (pc := 33) (lv' := [(6, .int (0 : Int32)), (5, .int r3), (0, .ref a_t), (2, .int x2), (3, .int x3), (4, .int x4)]) hx hb dX6_draw_33 hl (by decide) rfl (fun ls hl => ?_)
      exact h_X6_draw_35 C (o3_t_stopCount) (t_metric) (t_fixed) (o3_t_roundsOf) (o3_t_locked) (x2) (x4) (r3) k5 hk5 fu (x3) ((0 : Int32)) (o3_t_facts) hf S (lv_sub hl [2, 3, 4, 5, 1, 0] rfl)
set_option maxRecDepth 100000 in
set_option maxHeartbeats 4000000 in
theorem h_X6_draw_5 (C : Cx p s m args meth c cX6_draw none 9 RX6 G A) (t_metric : Int32) (t_fixed : Int32) (x2 : Int32) : ∀ (n : Nat) (x3 : Int32) (x4 : Int32) (t_facts : Nat → Int32) (t_roundsOf : Nat → Int32) (t_locked : Nat → Int32) (t_stopCount : Int32) {H : Heap} {locs : List Loc} {ls : Array Slot} (hf : lp (fun k x => b_X6_draw_5 x2 k x.1 x.2.1 x.2.2.1 x.2.2.2.1 x.2.2.2.2.1 x.2.2.2.2.2) n (x3, x4, t_facts, t_roundsOf, t_locked, t_stopCount) = some (z_t_facts, z_t_roundsOf, z_t_locked, z_t_stopCount)) (S : St G A s.heap H locs (w_X6_draw G a_t a_t_facts a_t_roundsOf a_t_locked a_t_rules a_t_sizes a_t_rows a_t_seen a_t_plan a_t_book t_stopCount t_metric t_fixed t_facts t_roundsOf t_locked)) (hl : lv_has ls 9 [(0, .ref a_t), (2, .int x2), (3, .int x3), (4, .int x4)]), W p l e rm_X6_draw s m args below meth c H locs 0 0 (QV G below args s A (w_X6_draw G a_t a_t_facts a_t_roundsOf a_t_locked a_t_rules a_t_sizes a_t_rows a_t_seen a_t_plan a_t_book z_t_stopCount t_metric t_fixed z_t_facts z_t_roundsOf z_t_locked)) (F0 m 5 ls []) := by
  intro n
  induction n with
  | zero =>
    intro x3 x4 t_facts t_roundsOf t_locked t_stopCount  H locs ls hf
    cases hf
  | succ n ih =>
    intro x3 x4 t_facts t_roundsOf t_locked t_stopCount  H locs ls hf S hl
    have hf : b_X6_draw_5 x2 (lp (fun k x => b_X6_draw_5 x2 k x.1 x.2.1 x.2.2.1 x.2.2.2.1 x.2.2.2.2.1 x.2.2.2.2.2) n) x3 x4 t_facts t_roundsOf t_locked t_stopCount = some (z_t_facts, z_t_roundsOf, z_t_locked, z_t_stopCount) := hf
    exact k_X6_draw_5 C t_stopCount t_metric t_fixed t_facts t_roundsOf t_locked x2 x3 x4  (lp (fun k x => b_X6_draw_5 x2 k x.1 x.2.1 x.2.2.1 x.2.2.2.1 x.2.2.2.2.1 x.2.2.2.2.2) n) (fun x3' x4' t_facts' t_roundsOf' t_locked' t_stopCount'  h S hl => ih x3' x4' t_facts' t_roundsOf' t_locked' t_stopCount'  h S hl) hf S hl
set_option maxRecDepth 100000 in
set_option maxHeartbeats 4000000 in
theorem c_X6_draw (l : Launch) (G : GE) (a_t a_t_facts a_t_roundsOf a_t_locked a_t_rules a_t_sizes a_t_rows a_t_seen a_t_plan a_t_book : Nat) (t_stopCount : Int32) (t_metric : Int32) (t_fixed : Int32) (t_facts : Nat → Int32) (t_roundsOf : Nat → Int32) (t_locked : Nat → Int32) (x1 : Int32) (x2 : Int32) (z_t_facts : Nat → Int32) (z_t_roundsOf : Nat → Int32) (z_t_locked : Nat → Int32) (z_t_stopCount : Int32) (hf : f_X6_draw t_facts t_roundsOf t_locked t_stopCount x1 x2 = some (z_t_facts, z_t_roundsOf, z_t_locked, z_t_stopCount)) : CV l G yX6_draw kw_X6_draw rm_X6_draw [.ref a_t, .int x1, .int x2] (w_X6_draw G a_t a_t_facts a_t_roundsOf a_t_locked a_t_rules a_t_sizes a_t_rows a_t_seen a_t_plan a_t_book t_stopCount t_metric t_fixed t_facts t_roundsOf t_locked) (w_X6_draw G a_t a_t_facts a_t_roundsOf a_t_locked a_t_rules a_t_sizes a_t_rows a_t_seen a_t_plan a_t_book z_t_stopCount t_metric t_fixed z_t_facts z_t_roundsOf z_t_locked) := by
  refine en_V (cc := cX6_draw) (maxL := 9) (ret := none) (by decide +kernel) (Nat.le_of_ble_eq_true rfl) ?_
  intro p e s m args below meth c A ls C S hl
  have hl : lv_has ls 9 [(0, .ref a_t), (1, .int x1), (2, .int x2)] := hl
  have C : Cx p s m args meth c cX6_draw none 9 RX6 G A := C
  unfold f_X6_draw at hf
  have hx := C.1
  have hb := C.2.1
  have hown := C.2.2.2.2.1
  have hts := C.2.2.2.2.2.1
  have hN := C.2.2.2.2.2.2.2.2.2.2
  refine lv_iload_n (pc := 0) hx hb dX6_draw_0 rfl (lv_at hl 1 rfl) ?_
  refine lv_istore_n (pc := 1) (lv' := [(3, .int x1), (0, .ref a_t), (1, .int x1), (2, .int x2)]) hx hb dX6_draw_1 rfl hl (by decide) rfl (fun ls hl => ?_)
  refine lv_iconst (pc := 2) hx hb dX6_draw_2 ic_0 ?_
  refine lv_istore (pc := 3) (lv' := [(4, .int (0 : Int32)), (3, .int x1), (0, .ref a_t), (1, .int x1), (2, .int x2)]) hx hb dX6_draw_3 hl (by decide) rfl (fun ls hl => ?_)
  exact h_X6_draw_5 C (t_metric) (t_fixed) (x2) fu (x1) ((0 : Int32)) (t_facts) (t_roundsOf) (t_locked) (t_stopCount) hf S (lv_sub hl [2, 4, 1, 0] rfl)
end

abbrev rm_X6_dueAhead : Room := { frames := 1, cells := 0, slots := 0, locals := 23 }
abbrev kw_X6_dueAhead : Cond := .code yX6_dueAhead cX6_dueAhead 5 (some .int)
abbrev w_X6_dueAhead (G : GE) (a_t a_t_facts a_t_roundsOf a_t_locked a_t_rules a_t_sizes a_t_rows a_t_seen a_t_plan a_t_book : Nat) (t_stopCount : Int32) (t_metric : Int32) (t_fixed : Int32) (t_facts : Nat → Int32) : va_W := [(a_t, ob 6 [.ref a_t_facts, .ref a_t_roundsOf, .ref a_t_locked, .ref a_t_rules, .ref a_t_sizes, .ref a_t_rows, .ref a_t_seen, .ref a_t_plan, .ref a_t_book, .int t_stopCount, .int t_metric, .int t_fixed]), (a_t_facts, aI G 102 t_facts)]
theorem u_X6_dueAhead_X6_fact_85 {s : State} {args : Array Value} (hts : ∀ w ∈ WU, w.before args s = true) : CallW rm_X6_dueAhead s args RX6 RX6 85 yX6_fact cX6_fact 4 (some .int) (kw_X6_fact :: WU) rm_X6_fact 0 0 2 := cwV 2 hts (gV qm_6_85 qi_X6_fact ql_X6_fact qn_6 qc_X6_fact) rfl rfl rfl (by decide +kernel) ⟨Nat.le_of_ble_eq_true rfl, Nat.le_of_ble_eq_true rfl⟩
section
variable {p : Program} {l : Launch} {e : Env} {s : State} {m : MethodId} {args : Array Value} {below : List Frame} {meth : Method} {c : Code} {A : Nat → Prop} {G : GE} {a_t a_t_facts a_t_roundsOf a_t_locked a_t_rules a_t_sizes a_t_rows a_t_seen a_t_plan a_t_book : Nat} {r : Int32}
set_option maxRecDepth 100000 in
set_option maxHeartbeats 4000000 in
theorem k_X6_dueAhead_57 (C : Cx p s m args meth c cX6_dueAhead (some .int) 5 RX6 G A) (t_stopCount : Int32) (t_metric : Int32) (t_fixed : Int32) (t_facts : Nat → Int32) (x1 : Int32) (x2 : Int32) (x3 : Int32) (x4 : Int32) (k4 : Int32 × Int32 → Option (Int32)) (hk4 : ∀ {H : Heap} {locs : List Loc} {ls : Array Slot} (x2' : Int32) (x3' : Int32), k4 (x2', x3') = some r → St G A s.heap H locs (w_X6_dueAhead G a_t a_t_facts a_t_roundsOf a_t_locked a_t_rules a_t_sizes a_t_rows a_t_seen a_t_plan a_t_book t_stopCount t_metric t_fixed t_facts) → lv_has ls 5 [(0, .ref a_t), (1, .int x1), (2, .int x2'), (3, .int x3')] → W p l e rm_X6_dueAhead s m args below meth c H locs 0 0 (QI G below args s A r (w_X6_dueAhead G a_t a_t_facts a_t_roundsOf a_t_locked a_t_rules a_t_sizes a_t_rows a_t_seen a_t_plan a_t_book t_stopCount t_metric t_fixed t_facts)) (F0 m 4 ls [])) {H : Heap} {locs : List Loc} {ls : Array Slot} (hf : b_X6_dueAhead_57 k4 x1 x2 x3 x4 t_facts t_stopCount = some r) (S : St G A s.heap H locs (w_X6_dueAhead G a_t a_t_facts a_t_roundsOf a_t_locked a_t_rules a_t_sizes a_t_rows a_t_seen a_t_plan a_t_book t_stopCount t_metric t_fixed t_facts)) (hl : lv_has ls 5 [(0, .ref a_t), (1, .int x1), (2, .int x2), (3, .int x3), (4, .int x4)]) : W p l e rm_X6_dueAhead s m args below meth c H locs 0 0 (QI G below args s A r (w_X6_dueAhead G a_t a_t_facts a_t_roundsOf a_t_locked a_t_rules a_t_sizes a_t_rows a_t_seen a_t_plan a_t_book t_stopCount t_metric t_fixed t_facts)) (F0 m 57 ls []) := by
  unfold b_X6_dueAhead_57 at hf
  have hx := C.1
  have hb := C.2.1
  have hown := C.2.2.2.2.1
  have hts := C.2.2.2.2.2.1
  have hN := C.2.2.2.2.2.2.2.2.2.2
  refine lv_iload_n (pc := 57) hx hb dX6_dueAhead_57 rfl (lv_at hl 2 rfl) ?_
  refine lv_iload (pc := 58) hx hb dX6_dueAhead_58 (lv_at hl 4 rfl) ?_
  refine lv_if_ge (tgt := 67) (pc := 60) hx hb dX6_dueAhead_60 (by decide) (fun c1 => ?_) (fun c1 => ?_)
  · have hf := ifp c1 hf
    refine lv_iconst (pc := 67) hx hb dX6_dueAhead_67 ic_0 ?_
    refine lv_iadd (pc := 68) hx hb dX6_dueAhead_68 ?_
    refine lv_istore_n (pc := 69) (lv' := [(2, .int (x2 + (0 : Int32))), (0, .ref a_t), (1, .int x1), (3, .int x3), (4, .int x4)]) hx hb dX6_dueAhead_69 rfl hl (by decide) rfl (fun ls hl => ?_)
    refine lv_iinc (pc := 70) (v := (x3 + (1 : Int32))) (lv' := [(3, .int (x3 + (1 : Int32))), (2, .int (x2 + (0 : Int32))), (0, .ref a_t), (1, .int x1), (4, .int x4)]) hx hb dX6_dueAhead_70 hl (k := 3) rfl (congrArg (fun z => x3 + z) ic_1) (by decide) rfl (fun ls hl => ?_)
    refine lv_goto (tgt := 4) (pc := 73) hx hb dX6_dueAhead_73 (by decide) ?_
    exact hk4 ((x2 + (0 : Int32))) ((x3 + (1 : Int32)))  hf S (lv_sub hl [2, 3, 1, 0] rfl)
  · have hf := ifn c1 hf
    refine lv_iconst (pc := 63) hx hb dX6_dueAhead_63 ic_1 ?_
    refine lv_goto (tgt := 68) (pc := 64) hx hb dX6_dueAhead_64 (by decide) ?_
    refine lv_iadd (pc := 68) hx hb dX6_dueAhead_68 ?_
    refine lv_istore_n (pc := 69) (lv' := [(2, .int (x2 + (1 : Int32))), (0, .ref a_t), (1, .int x1), (3, .int x3), (4, .int x4)]) hx hb dX6_dueAhead_69 rfl hl (by decide) rfl (fun ls hl => ?_)
    refine lv_iinc (pc := 70) (v := (x3 + (1 : Int32))) (lv' := [(3, .int (x3 + (1 : Int32))), (2, .int (x2 + (1 : Int32))), (0, .ref a_t), (1, .int x1), (4, .int x4)]) hx hb dX6_dueAhead_70 hl (k := 3) rfl (congrArg (fun z => x3 + z) ic_1) (by decide) rfl (fun ls hl => ?_)
    refine lv_goto (tgt := 4) (pc := 73) hx hb dX6_dueAhead_73 (by decide) ?_
    exact hk4 ((x2 + (1 : Int32))) ((x3 + (1 : Int32)))  hf S (lv_sub hl [2, 3, 1, 0] rfl)
set_option maxRecDepth 100000 in
set_option maxHeartbeats 4000000 in
theorem k_X6_dueAhead_47 (C : Cx p s m args meth c cX6_dueAhead (some .int) 5 RX6 G A) (t_stopCount : Int32) (t_metric : Int32) (t_fixed : Int32) (t_facts : Nat → Int32) (x1 : Int32) (x2 : Int32) (x3 : Int32) (x4 : Int32) (k4 : Int32 × Int32 → Option (Int32)) (hk4 : ∀ {H : Heap} {locs : List Loc} {ls : Array Slot} (x2' : Int32) (x3' : Int32), k4 (x2', x3') = some r → St G A s.heap H locs (w_X6_dueAhead G a_t a_t_facts a_t_roundsOf a_t_locked a_t_rules a_t_sizes a_t_rows a_t_seen a_t_plan a_t_book t_stopCount t_metric t_fixed t_facts) → lv_has ls 5 [(0, .ref a_t), (1, .int x1), (2, .int x2'), (3, .int x3')] → W p l e rm_X6_dueAhead s m args below meth c H locs 0 0 (QI G below args s A r (w_X6_dueAhead G a_t a_t_facts a_t_roundsOf a_t_locked a_t_rules a_t_sizes a_t_rows a_t_seen a_t_plan a_t_book t_stopCount t_metric t_fixed t_facts)) (F0 m 4 ls [])) {H : Heap} {locs : List Loc} {ls : Array Slot} (hf : b_X6_dueAhead_47 k4 x1 x2 x3 x4 t_facts t_stopCount = some r) (S : St G A s.heap H locs (w_X6_dueAhead G a_t a_t_facts a_t_roundsOf a_t_locked a_t_rules a_t_sizes a_t_rows a_t_seen a_t_plan a_t_book t_stopCount t_metric t_fixed t_facts)) (hl : lv_has ls 5 [(0, .ref a_t), (1, .int x1), (2, .int x2), (3, .int x3), (4, .int x4)]) : W p l e rm_X6_dueAhead s m args below meth c H locs 0 0 (QI G below args s A r (w_X6_dueAhead G a_t a_t_facts a_t_roundsOf a_t_locked a_t_rules a_t_sizes a_t_rows a_t_seen a_t_plan a_t_book t_stopCount t_metric t_fixed t_facts)) (F0 m 47 ls []) := by
  unfold b_X6_dueAhead_47 at hf
  have hx := C.1
  have hb := C.2.1
  have hown := C.2.2.2.2.1
  have hts := C.2.2.2.2.2.1
  have hN := C.2.2.2.2.2.2.2.2.2.2
  refine lv_iload (pc := 47) hx hb dX6_dueAhead_47 (lv_at hl 4 rfl) ?_
  refine lv_if_ne (tgt := 57) (pc := 49) hx hb dX6_dueAhead_49 (by decide) (fun c1 => ?_) (fun c1 => ?_)
  · have hf := ifn c1 hf
    exact k_X6_dueAhead_57 C (t_stopCount) (t_metric) (t_fixed) (t_facts) (x1) (x2) (x3) (x4) k4 hk4 hf S (lv_sub hl [0, 1, 2, 3, 4] rfl)
  · have hf := ifp c1 hf
    refine lv_iload_n (pc := 52) hx hb dX6_dueAhead_52 rfl (lv_at hl 3 rfl) ?_
    refine lv_iload_n (pc := 53) hx hb dX6_dueAhead_53 rfl (lv_at hl 1 rfl) ?_
    refine lv_isub (pc := 54) hx hb dX6_dueAhead_54 ?_
    refine lv_istore (pc := 55) (lv' := [(4, .int (x3 - x1)), (0, .ref a_t), (1, .int x1), (2, .int x2), (3, .int x3)]) hx hb dX6_dueAhead_55 hl (by decide) rfl (fun ls hl => ?_)
    exact k_X6_dueAhead_57 C (t_stopCount) (t_metric) (t_fixed) (t_facts) (x1) (x2) (x3) ((x3 - x1)) k4 hk4 hf S (lv_sub hl [1, 2, 3, 4, 0] rfl)
set_option maxRecDepth 100000 in
set_option maxHeartbeats 4000000 in
theorem k_X6_dueAhead_4 (C : Cx p s m args meth c cX6_dueAhead (some .int) 5 RX6 G A) (t_stopCount : Int32) (t_metric : Int32) (t_fixed : Int32) (t_facts : Nat → Int32) (x1 : Int32) (x2 : Int32) (x3 : Int32) (k4 : Int32 × Int32 → Option (Int32)) (hk4 : ∀ {H : Heap} {locs : List Loc} {ls : Array Slot} (x2' : Int32) (x3' : Int32), k4 (x2', x3') = some r → St G A s.heap H locs (w_X6_dueAhead G a_t a_t_facts a_t_roundsOf a_t_locked a_t_rules a_t_sizes a_t_rows a_t_seen a_t_plan a_t_book t_stopCount t_metric t_fixed t_facts) → lv_has ls 5 [(0, .ref a_t), (1, .int x1), (2, .int x2'), (3, .int x3')] → W p l e rm_X6_dueAhead s m args below meth c H locs 0 0 (QI G below args s A r (w_X6_dueAhead G a_t a_t_facts a_t_roundsOf a_t_locked a_t_rules a_t_sizes a_t_rows a_t_seen a_t_plan a_t_book t_stopCount t_metric t_fixed t_facts)) (F0 m 4 ls [])) {H : Heap} {locs : List Loc} {ls : Array Slot} (hf : b_X6_dueAhead_4 x1 t_facts t_stopCount k4 x2 x3 = some r) (S : St G A s.heap H locs (w_X6_dueAhead G a_t a_t_facts a_t_roundsOf a_t_locked a_t_rules a_t_sizes a_t_rows a_t_seen a_t_plan a_t_book t_stopCount t_metric t_fixed t_facts)) (hl : lv_has ls 5 [(0, .ref a_t), (1, .int x1), (2, .int x2), (3, .int x3)]) : W p l e rm_X6_dueAhead s m args below meth c H locs 0 0 (QI G below args s A r (w_X6_dueAhead G a_t a_t_facts a_t_roundsOf a_t_locked a_t_rules a_t_sizes a_t_rows a_t_seen a_t_plan a_t_book t_stopCount t_metric t_fixed t_facts)) (F0 m 4 ls []) := by
  unfold b_X6_dueAhead_4 at hf
  have hx := C.1
  have hb := C.2.1
  have hown := C.2.2.2.2.1
  have hts := C.2.2.2.2.2.1
  have hN := C.2.2.2.2.2.2.2.2.2.2
  refine lv_iload_n (pc := 4) hx hb dX6_dueAhead_4 rfl (lv_at hl 3 rfl) ?_
  refine lv_aload_n (pc := 5) hx hb dX6_dueAhead_5 rfl (lv_at hl 0 rfl) ?_
  refine x_get (pc := 6) (ci := 6) (T := TX6) (v := .int t_stopCount) C S 0 rfl rfl inlX6 9 (by decide) rfl qf_6_60 rfl dX6_dueAhead_6 ?_
  refine lv_icmp_ge (tgt := 76) (pc := 9) hx hb dX6_dueAhead_9 (by decide) (fun c1 => ?_) (fun c1 => ?_)
  · have hf := ifp c1 hf
    refine lv_iload_n (pc := 76) hx hb dX6_dueAhead_76 rfl (lv_at hl 2 rfl) ?_
    cases hf
    exact x_iret (pc := 77) C S dX6_dueAhead_77
  · have hf := ifn c1 hf
    refine lv_aload_n (pc := 12) hx hb dX6_dueAhead_12 rfl (lv_at hl 0 rfl) ?_
    refine lv_iload_n (pc := 13) hx hb dX6_dueAhead_13 rfl (lv_at hl 3 rfl) ?_
    refine lv_iconst (pc := 14) hx hb dX6_dueAhead_14 ic_4 ?_
    obtain ⟨r2, hq2, hf⟩ := bd_e hf
    refine x_vI (pc := 15) (As := [.int x3, .int (4 : Int32)]) (rest := []) (isC := [0, 1]) (ws' := (w_X6_dueAhead G a_t a_t_facts a_t_roundsOf a_t_locked a_t_rules a_t_sizes a_t_rows a_t_seen a_t_plan a_t_book t_stopCount t_metric t_fixed t_facts)) C S (c_X6_fact l G a_t a_t_facts a_t_roundsOf a_t_locked a_t_rules a_t_sizes a_t_rows a_t_seen a_t_plan a_t_book t_stopCount t_metric t_fixed t_facts x3 (4 : Int32) r2 hq2) (u_X6_dueAhead_X6_fact_85 hts) (ci := 6) rfl 0 rfl rfl (by decide +kernel) [some 0, some 1] (by decide +kernel) rfl rfl rfl hl.1 rfl (Nat.le_of_ble_eq_true rfl) dX6_dueAhead_15 (fun H locs S => ?_)
    refine lv_aload_n (pc := 18) hx hb dX6_dueAhead_18 rfl (lv_at hl 0 rfl) ?_
    refine lv_iload_n (pc := 19) hx hb dX6_dueAhead_19 rfl (lv_at hl 1 rfl) ?_
    refine lv_iconst (pc := 20) hx hb dX6_dueAhead_20 ic_4 ?_
    obtain ⟨r3, hq3, hf⟩ := bd_e hf
    refine x_vI (pc := 21) (As := [.int x1, .int (4 : Int32)]) (rest := [.int r2]) (isC := [0, 1]) (ws' := (w_X6_dueAhead G a_t a_t_facts a_t_roundsOf a_t_locked a_t_rules a_t_sizes a_t_rows a_t_seen a_t_plan a_t_book t_stopCount t_metric t_fixed t_facts)) C S (c_X6_fact l G a_t a_t_facts a_t_roundsOf a_t_locked a_t_rules a_t_sizes a_t_rows a_t_seen a_t_plan a_t_book t_stopCount t_metric t_fixed t_facts x1 (4 : Int32) r3 hq3) (u_X6_dueAhead_X6_fact_85 hts) (ci := 6) rfl 0 rfl rfl (by decide +kernel) [some 0, some 1] (by decide +kernel) rfl rfl rfl hl.1 rfl (Nat.le_of_ble_eq_true rfl) dX6_dueAhead_21 (fun H locs S => ?_)
    refine lv_isub (pc := 24) hx hb dX6_dueAhead_24 ?_
    refine lv_istore (pc := 25) (lv' := [(4, .int (r2 - r3)), (0, .ref a_t), (1, .int x1), (2, .int x2), (3, .int x3)]) hx hb dX6_dueAhead_25 hl (by decide) rfl (fun ls hl => ?_)
    refine lv_iload (pc := 27) hx hb dX6_dueAhead_27 (lv_at hl 0 rfl) ?_
    refine lv_if_ne (tgt := 47) (pc := 29) hx hb dX6_dueAhead_29 (by decide) (fun c4 => ?_) (fun c4 => ?_)
    · have hf := ifn c4 hf
      exact k_X6_dueAhead_47 C (t_stopCount) (t_metric) (t_fixed) (t_facts) (x1) (x2) (x3) ((r2 - r3)) k4 hk4 hf S (lv_sub hl [1, 2, 3, 4, 0] rfl)
    · have hf := ifp c4 hf
      refine lv_aload_n (pc := 32) hx hb dX6_dueAhead_32 rfl (lv_at hl 1 rfl) ?_
      refine lv_iload_n (pc := 33) hx hb dX6_dueAhead_33 rfl (lv_at hl 4 rfl) ?_
      refine lv_iconst (pc := 34) hx hb dX6_dueAhead_34 ic_3 ?_
      obtain ⟨r5, hq5, hf⟩ := bd_e hf
      refine x_vI (pc := 35) (As := [.int x3, .int (3 : Int32)]) (rest := []) (isC := [0, 1]) (ws' := (w_X6_dueAhead G a_t a_t_facts a_t_roundsOf a_t_locked a_t_rules a_t_sizes a_t_rows a_t_seen a_t_plan a_t_book t_stopCount t_metric t_fixed t_facts)) C S (c_X6_fact l G a_t a_t_facts a_t_roundsOf a_t_locked a_t_rules a_t_sizes a_t_rows a_t_seen a_t_plan a_t_book t_stopCount t_metric t_fixed t_facts x3 (3 : Int32) r5 hq5) (u_X6_dueAhead_X6_fact_85 hts) (ci := 6) rfl 0 rfl rfl (by decide +kernel) [some 0, some 1] (by decide +kernel) rfl rfl rfl hl.1 rfl (Nat.le_of_ble_eq_true rfl) dX6_dueAhead_35 (fun H locs S => ?_)
      refine lv_aload_n (pc := 38) hx hb dX6_dueAhead_38 rfl (lv_at hl 1 rfl) ?_
      refine lv_iload_n (pc := 39) hx hb dX6_dueAhead_39 rfl (lv_at hl 2 rfl) ?_
      refine lv_iconst (pc := 40) hx hb dX6_dueAhead_40 ic_3 ?_
      obtain ⟨r6, hq6, hf⟩ := bd_e hf
      refine x_vI (pc := 41) (As := [.int x1, .int (3 : Int32)]) (rest := [.int r5]) (isC := [0, 1]) (ws' := (w_X6_dueAhead G a_t a_t_facts a_t_roundsOf a_t_locked a_t_rules a_t_sizes a_t_rows a_t_seen a_t_plan a_t_book t_stopCount t_metric t_fixed t_facts)) C S (c_X6_fact l G a_t a_t_facts a_t_roundsOf a_t_locked a_t_rules a_t_sizes a_t_rows a_t_seen a_t_plan a_t_book t_stopCount t_metric t_fixed t_facts x1 (3 : Int32) r6 hq6) (u_X6_dueAhead_X6_fact_85 hts) (ci := 6) rfl 0 rfl rfl (by decide +kernel) [some 0, some 1] (by decide +kernel) rfl rfl rfl hl.1 rfl (Nat.le_of_ble_eq_true rfl) dX6_dueAhead_41 (fun H locs S => ?_)
      refine lv_isub (pc := 44) hx hb dX6_dueAhead_44 ?_
      refine lv_istore (pc := 45) (lv' := [(4, .int (r5 - r6)), (0, .ref a_t), (1, .int x1), (2, .int x2), (3, .int x3)]) hx hb dX6_dueAhead_45 hl (by decide) rfl (fun ls hl => ?_)
      exact k_X6_dueAhead_47 C (t_stopCount) (t_metric) (t_fixed) (t_facts) (x1) (x2) (x3) ((r5 - r6)) k4 hk4 hf S (lv_sub hl [1, 2, 3, 4, 0] rfl)
set_option maxRecDepth 100000 in
set_option maxHeartbeats 4000000 in
theorem h_X6_dueAhead_4 (C : Cx p s m args meth c cX6_dueAhead (some .int) 5 RX6 G A) (t_stopCount : Int32) (t_metric : Int32) (t_fixed : Int32) (t_facts : Nat → Int32) (x1 : Int32) : ∀ (n : Nat) (x2 : Int32) (x3 : Int32) {H : Heap} {locs : List Loc} {ls : Array Slot} (hf : lp (fun k x => b_X6_dueAhead_4 x1 t_facts t_stopCount k x.1 x.2) n (x2, x3) = some r) (S : St G A s.heap H locs (w_X6_dueAhead G a_t a_t_facts a_t_roundsOf a_t_locked a_t_rules a_t_sizes a_t_rows a_t_seen a_t_plan a_t_book t_stopCount t_metric t_fixed t_facts)) (hl : lv_has ls 5 [(0, .ref a_t), (1, .int x1), (2, .int x2), (3, .int x3)]), W p l e rm_X6_dueAhead s m args below meth c H locs 0 0 (QI G below args s A r (w_X6_dueAhead G a_t a_t_facts a_t_roundsOf a_t_locked a_t_rules a_t_sizes a_t_rows a_t_seen a_t_plan a_t_book t_stopCount t_metric t_fixed t_facts)) (F0 m 4 ls []) := by
  intro n
  induction n with
  | zero =>
    intro x2 x3  H locs ls hf
    cases hf
  | succ n ih =>
    intro x2 x3  H locs ls hf S hl
    have hf : b_X6_dueAhead_4 x1 t_facts t_stopCount (lp (fun k x => b_X6_dueAhead_4 x1 t_facts t_stopCount k x.1 x.2) n) x2 x3 = some r := hf
    exact k_X6_dueAhead_4 C t_stopCount t_metric t_fixed t_facts x1 x2 x3  (lp (fun k x => b_X6_dueAhead_4 x1 t_facts t_stopCount k x.1 x.2) n) (fun x2' x3'  h S hl => ih x2' x3'  h S hl) hf S hl
set_option maxRecDepth 100000 in
set_option maxHeartbeats 4000000 in
theorem c_X6_dueAhead (l : Launch) (G : GE) (a_t a_t_facts a_t_roundsOf a_t_locked a_t_rules a_t_sizes a_t_rows a_t_seen a_t_plan a_t_book : Nat) (t_stopCount : Int32) (t_metric : Int32) (t_fixed : Int32) (t_facts : Nat → Int32) (x1 : Int32) (r : Int32) (hf : f_X6_dueAhead t_facts t_stopCount x1 = some r) : CI l G yX6_dueAhead kw_X6_dueAhead rm_X6_dueAhead [.ref a_t, .int x1] (w_X6_dueAhead G a_t a_t_facts a_t_roundsOf a_t_locked a_t_rules a_t_sizes a_t_rows a_t_seen a_t_plan a_t_book t_stopCount t_metric t_fixed t_facts) r (w_X6_dueAhead G a_t a_t_facts a_t_roundsOf a_t_locked a_t_rules a_t_sizes a_t_rows a_t_seen a_t_plan a_t_book t_stopCount t_metric t_fixed t_facts) := by
  refine en_I (cc := cX6_dueAhead) (maxL := 5) (ret := (some .int)) (by decide +kernel) (Nat.le_of_ble_eq_true rfl) ?_
  intro p e s m args below meth c A ls C S hl
  have hl : lv_has ls 5 [(0, .ref a_t), (1, .int x1)] := hl
  have C : Cx p s m args meth c cX6_dueAhead (some .int) 5 RX6 G A := C
  unfold f_X6_dueAhead at hf
  have hx := C.1
  have hb := C.2.1
  have hown := C.2.2.2.2.1
  have hts := C.2.2.2.2.2.1
  have hN := C.2.2.2.2.2.2.2.2.2.2
  refine lv_iconst (pc := 0) hx hb dX6_dueAhead_0 ic_0 ?_
  refine lv_istore_n (pc := 1) (lv' := [(2, .int (0 : Int32)), (0, .ref a_t), (1, .int x1)]) hx hb dX6_dueAhead_1 rfl hl (by decide) rfl (fun ls hl => ?_)
  refine lv_iconst (pc := 2) hx hb dX6_dueAhead_2 ic_0 ?_
  refine lv_istore_n (pc := 3) (lv' := [(3, .int (0 : Int32)), (2, .int (0 : Int32)), (0, .ref a_t), (1, .int x1)]) hx hb dX6_dueAhead_3 rfl hl (by decide) rfl (fun ls hl => ?_)
  exact h_X6_dueAhead_4 C (t_stopCount) (t_metric) (t_fixed) (t_facts) (x1) fu ((0 : Int32)) ((0 : Int32)) hf S (lv_sub hl [2, 3, 1, 0] rfl)
end

abbrev rm_X6_setDepot : Room := { frames := 1, cells := 0, slots := 0, locals := 24 }
abbrev kw_X6_setDepot : Cond := .code yX6_setDepot cX6_setDepot 3 none
abbrev w_X6_setDepot (G : GE) (a_t a_t_facts a_t_roundsOf a_t_locked a_t_rules a_t_sizes a_t_rows a_t_seen a_t_plan a_t_book : Nat) (t_stopCount : Int32) (t_metric : Int32) (t_fixed : Int32) (t_facts : Nat → Int32) : va_W := [(a_t, ob 6 [.ref a_t_facts, .ref a_t_roundsOf, .ref a_t_locked, .ref a_t_rules, .ref a_t_sizes, .ref a_t_rows, .ref a_t_seen, .ref a_t_plan, .ref a_t_book, .int t_stopCount, .int t_metric, .int t_fixed]), (a_t_facts, aI G 102 t_facts)]
theorem u_X6_setDepot_X6_setFact_70 {s : State} {args : Array Value} (hts : ∀ w ∈ WU, w.before args s = true) : CallW rm_X6_setDepot s args RX6 RX6 70 yX6_setFact cX6_setFact 5 none (kw_X6_setFact :: WU) rm_X6_setFact 0 0 3 := cwV 3 hts (gV qm_6_70 qi_X6_setFact ql_X6_setFact qn_6 qc_X6_setFact) rfl rfl rfl (by decide +kernel) ⟨Nat.le_of_ble_eq_true rfl, Nat.le_of_ble_eq_true rfl⟩
section
variable {p : Program} {l : Launch} {e : Env} {s : State} {m : MethodId} {args : Array Value} {below : List Frame} {meth : Method} {c : Code} {A : Nat → Prop} {G : GE} {a_t a_t_facts a_t_roundsOf a_t_locked a_t_rules a_t_sizes a_t_rows a_t_seen a_t_plan a_t_book : Nat} {z_t_facts : Nat → Int32}
set_option maxRecDepth 100000 in
set_option maxHeartbeats 4000000 in
theorem c_X6_setDepot (l : Launch) (G : GE) (a_t a_t_facts a_t_roundsOf a_t_locked a_t_rules a_t_sizes a_t_rows a_t_seen a_t_plan a_t_book : Nat) (t_stopCount : Int32) (t_metric : Int32) (t_fixed : Int32) (t_facts : Nat → Int32) (x1 : Int32) (x2 : Int32) (z_t_facts : Nat → Int32) (hf : f_X6_setDepot t_facts x1 x2 = some z_t_facts) : CV l G yX6_setDepot kw_X6_setDepot rm_X6_setDepot [.ref a_t, .int x1, .int x2] (w_X6_setDepot G a_t a_t_facts a_t_roundsOf a_t_locked a_t_rules a_t_sizes a_t_rows a_t_seen a_t_plan a_t_book t_stopCount t_metric t_fixed t_facts) (w_X6_setDepot G a_t a_t_facts a_t_roundsOf a_t_locked a_t_rules a_t_sizes a_t_rows a_t_seen a_t_plan a_t_book t_stopCount t_metric t_fixed z_t_facts) := by
  refine en_V (cc := cX6_setDepot) (maxL := 3) (ret := none) (by decide +kernel) (Nat.le_of_ble_eq_true rfl) ?_
  intro p e s m args below meth c A ls C S hl
  have hl : lv_has ls 3 [(0, .ref a_t), (1, .int x1), (2, .int x2)] := hl
  have C : Cx p s m args meth c cX6_setDepot none 3 RX6 G A := C
  unfold f_X6_setDepot at hf
  have hx := C.1
  have hb := C.2.1
  have hown := C.2.2.2.2.1
  have hts := C.2.2.2.2.2.1
  have hN := C.2.2.2.2.2.2.2.2.2.2
  refine lv_aload_n (pc := 0) hx hb dX6_setDepot_0 rfl (lv_at hl 0 rfl) ?_
  refine lv_bipush (pc := 1) hx hb dX6_setDepot_1 bc_16 ?_
  refine lv_iconst (pc := 3) hx hb dX6_setDepot_3 ic_0 ?_
  refine lv_iload_n (pc := 4) hx hb dX6_setDepot_4 rfl (lv_at hl 1 rfl) ?_
  obtain ⟨o1_t_facts, hq1, hf⟩ := bd_e hf
  refine x_vV (pc := 5) (As := [.int (16 : Int32), .int (0 : Int32), .int x1]) (rest := []) (isC := [0, 1]) (ws' := (w_X6_setDepot G a_t a_t_facts a_t_roundsOf a_t_locked a_t_rules a_t_sizes a_t_rows a_t_seen a_t_plan a_t_book t_stopCount t_metric t_fixed o1_t_facts)) C S (c_X6_setFact l G a_t a_t_facts a_t_roundsOf a_t_locked a_t_rules a_t_sizes a_t_rows a_t_seen a_t_plan a_t_book t_stopCount t_metric t_fixed t_facts (16 : Int32) (0 : Int32) x1 o1_t_facts hq1) (u_X6_setDepot_X6_setFact_70 hts) (ci := 6) rfl 0 rfl rfl (by decide +kernel) [some 0, some 1] (by decide +kernel) rfl rfl rfl hl.1 rfl (Nat.le_of_ble_eq_true rfl) dX6_setDepot_5 (fun H locs S => ?_)
  refine lv_aload_n (pc := 8) hx hb dX6_setDepot_8 rfl (lv_at hl 0 rfl) ?_
  refine lv_bipush (pc := 9) hx hb dX6_setDepot_9 bc_16 ?_
  refine lv_iconst (pc := 11) hx hb dX6_setDepot_11 ic_1 ?_
  refine lv_iload_n (pc := 12) hx hb dX6_setDepot_12 rfl (lv_at hl 2 rfl) ?_
  obtain ⟨o2_t_facts, hq2, hf⟩ := bd_e hf
  refine x_vV (pc := 13) (As := [.int (16 : Int32), .int (1 : Int32), .int x2]) (rest := []) (isC := [0, 1]) (ws' := (w_X6_setDepot G a_t a_t_facts a_t_roundsOf a_t_locked a_t_rules a_t_sizes a_t_rows a_t_seen a_t_plan a_t_book t_stopCount t_metric t_fixed o2_t_facts)) C S (c_X6_setFact l G a_t a_t_facts a_t_roundsOf a_t_locked a_t_rules a_t_sizes a_t_rows a_t_seen a_t_plan a_t_book t_stopCount t_metric t_fixed o1_t_facts (16 : Int32) (1 : Int32) x2 o2_t_facts hq2) (u_X6_setDepot_X6_setFact_70 hts) (ci := 6) rfl 0 rfl rfl (by decide +kernel) [some 0, some 1] (by decide +kernel) rfl rfl rfl hl.1 rfl (Nat.le_of_ble_eq_true rfl) dX6_setDepot_13 (fun H locs S => ?_)
  cases hf
  exact x_vret (pc := 16) C S dX6_setDepot_16
end

abbrev rm_X6_setRule : Room := { frames := 0, cells := 0, slots := 0, locals := 0 }
abbrev kw_X6_setRule : Cond := .code yX6_setRule cX6_setRule 5 none
abbrev w_X6_setRule (G : GE) (a_t a_t_facts a_t_roundsOf a_t_locked a_t_rules a_t_sizes a_t_rows a_t_seen a_t_plan a_t_book : Nat) (t_stopCount : Int32) (t_metric : Int32) (t_fixed : Int32) (t_rules : Nat → Int32) : va_W := [(a_t, ob 6 [.ref a_t_facts, .ref a_t_roundsOf, .ref a_t_locked, .ref a_t_rules, .ref a_t_sizes, .ref a_t_rows, .ref a_t_seen, .ref a_t_plan, .ref a_t_book, .int t_stopCount, .int t_metric, .int t_fixed]), (a_t_rules, aI G 12 t_rules)]
section
variable {p : Program} {l : Launch} {e : Env} {s : State} {m : MethodId} {args : Array Value} {below : List Frame} {meth : Method} {c : Code} {A : Nat → Prop} {G : GE} {a_t a_t_facts a_t_roundsOf a_t_locked a_t_rules a_t_sizes a_t_rows a_t_seen a_t_plan a_t_book : Nat} {z_t_rules : Nat → Int32}
set_option maxRecDepth 100000 in
set_option maxHeartbeats 4000000 in
theorem c_X6_setRule (l : Launch) (G : GE) (a_t a_t_facts a_t_roundsOf a_t_locked a_t_rules a_t_sizes a_t_rows a_t_seen a_t_plan a_t_book : Nat) (t_stopCount : Int32) (t_metric : Int32) (t_fixed : Int32) (t_rules : Nat → Int32) (x1 : Int32) (x2 : Int32) (x3 : Int32) (z_t_rules : Nat → Int32) (hf : f_X6_setRule t_rules x1 x2 x3 = some z_t_rules) : CV l G yX6_setRule kw_X6_setRule rm_X6_setRule [.ref a_t, .int x1, .int x2, .int x3] (w_X6_setRule G a_t a_t_facts a_t_roundsOf a_t_locked a_t_rules a_t_sizes a_t_rows a_t_seen a_t_plan a_t_book t_stopCount t_metric t_fixed t_rules) (w_X6_setRule G a_t a_t_facts a_t_roundsOf a_t_locked a_t_rules a_t_sizes a_t_rows a_t_seen a_t_plan a_t_book t_stopCount t_metric t_fixed z_t_rules) := by
  refine en_V (cc := cX6_setRule) (maxL := 5) (ret := none) (by decide +kernel) (Nat.le_of_ble_eq_true rfl) ?_
  intro p e s m args below meth c A ls C S hl
  have hl : lv_has ls 5 [(0, .ref a_t), (1, .int x1), (2, .int x2), (3, .int x3)] := hl
  have C : Cx p s m args meth c cX6_setRule none 5 RX6 G A := C
  unfold f_X6_setRule at hf
  have hx := C.1
  have hb := C.2.1
  have hown := C.2.2.2.2.1
  have hts := C.2.2.2.2.2.1
  have hN := C.2.2.2.2.2.2.2.2.2.2
  refine lv_iload_n (pc := 0) hx hb dX6_setRule_0 rfl (lv_at hl 1 rfl) ?_
  refine lv_iconst (pc := 1) hx hb dX6_setRule_1 ic_3 ?_
  refine lv_imul (pc := 2) hx hb dX6_setRule_2 ?_
  refine lv_iload_n (pc := 3) hx hb dX6_setRule_3 rfl (lv_at hl 2 rfl) ?_
  refine lv_iadd (pc := 4) hx hb dX6_setRule_4 ?_
  refine lv_istore (pc := 5) (lv' := [(4, .int ((x1 * (3 : Int32)) + x2)), (0, .ref a_t), (1, .int x1), (2, .int x2), (3, .int x3)]) hx hb dX6_setRule_5 hl (by decide) rfl (fun ls hl => ?_)
  refine lv_iload (pc := 7) hx hb dX6_setRule_7 (lv_at hl 0 rfl) ?_
  refine lv_if_lt (tgt := 30) (pc := 9) hx hb dX6_setRule_9 (by decide) (fun c1 => ?_) (fun c1 => ?_)
  · have hf := ifp c1 hf
    cases hf
    exact x_vret (pc := 30) C S dX6_setRule_30
  · have hf := ifn c1 hf
    refine lv_iload (pc := 12) hx hb dX6_setRule_12 (lv_at hl 0 rfl) ?_
    refine lv_aload_n (pc := 14) hx hb dX6_setRule_14 rfl (lv_at hl 1 rfl) ?_
    refine x_get (pc := 15) (ci := 6) (T := TX6) (v := .ref a_t_rules) C S 0 rfl rfl inlX6 3 (by decide) rfl qf_6_22 rfl dX6_setRule_15 ?_
    refine x_lenI (pc := 18) C S 1 rfl nc_12 dX6_setRule_18 ?_
    refine lv_icmp_ge (tgt := 30) (pc := 19) hx hb dX6_setRule_19 (by decide) (fun c2 => ?_) (fun c2 => ?_)
    · have hf := ifp c2 hf
      cases hf
      exact x_vret (pc := 30) C S dX6_setRule_30
    · have hf := ifn c2 hf
      refine lv_aload_n (pc := 22) hx hb dX6_setRule_22 rfl (lv_at hl 1 rfl) ?_
      refine x_get (pc := 23) (ci := 6) (T := TX6) (v := .ref a_t_rules) C S 0 rfl rfl inlX6 3 (by decide) rfl qf_6_22 rfl dX6_setRule_23 ?_
      refine lv_iload (pc := 26) hx hb dX6_setRule_26 (lv_at hl 0 rfl) ?_
      refine lv_iload_n (pc := 28) hx hb dX6_setRule_28 rfl (lv_at hl 4 rfl) ?_
      obtain ⟨hv3, hf⟩ := gI_e hf
      refine x_iast (pc := 29) (ws' := (w_X6_setRule G a_t a_t_facts a_t_roundsOf a_t_locked a_t_rules a_t_sizes a_t_rows a_t_seen a_t_plan a_t_book t_stopCount t_metric t_fixed (upd t_rules ((x1 * (3 : Int32)) + x2).toNatClampNeg x3))) C S 1 rfl hv3 rfl dX6_setRule_29 (fun H locs S => ?_)
      cases hf
      exact x_vret (pc := 30) C S dX6_setRule_30
end

abbrev rm_X6_isStop : Room := { frames := 0, cells := 0, slots := 0, locals := 0 }
abbrev kw_X6_isStop : Cond := .code yX6_isStop cX6_isStop 2 (some .boolean)
abbrev w_X6_isStop (G : GE) (a_t a_t_facts a_t_roundsOf a_t_locked a_t_rules a_t_sizes a_t_rows a_t_seen a_t_plan a_t_book : Nat) (t_stopCount : Int32) (t_metric : Int32) (t_fixed : Int32) : va_W := [(a_t, ob 6 [.ref a_t_facts, .ref a_t_roundsOf, .ref a_t_locked, .ref a_t_rules, .ref a_t_sizes, .ref a_t_rows, .ref a_t_seen, .ref a_t_plan, .ref a_t_book, .int t_stopCount, .int t_metric, .int t_fixed])]
section
variable {p : Program} {l : Launch} {e : Env} {s : State} {m : MethodId} {args : Array Value} {below : List Frame} {meth : Method} {c : Code} {A : Nat → Prop} {G : GE} {a_t a_t_facts a_t_roundsOf a_t_locked a_t_rules a_t_sizes a_t_rows a_t_seen a_t_plan a_t_book : Nat} {r : Int32}
set_option maxRecDepth 100000 in
set_option maxHeartbeats 4000000 in
theorem c_X6_isStop (l : Launch) (G : GE) (a_t a_t_facts a_t_roundsOf a_t_locked a_t_rules a_t_sizes a_t_rows a_t_seen a_t_plan a_t_book : Nat) (t_stopCount : Int32) (t_metric : Int32) (t_fixed : Int32) (x1 : Int32) (r : Int32) (hf : f_X6_isStop t_stopCount x1 = some r) : CI l G yX6_isStop kw_X6_isStop rm_X6_isStop [.ref a_t, .int x1] (w_X6_isStop G a_t a_t_facts a_t_roundsOf a_t_locked a_t_rules a_t_sizes a_t_rows a_t_seen a_t_plan a_t_book t_stopCount t_metric t_fixed) r (w_X6_isStop G a_t a_t_facts a_t_roundsOf a_t_locked a_t_rules a_t_sizes a_t_rows a_t_seen a_t_plan a_t_book t_stopCount t_metric t_fixed) := by
  refine en_I (cc := cX6_isStop) (maxL := 2) (ret := (some .boolean)) (by decide +kernel) (Nat.le_of_ble_eq_true rfl) ?_
  intro p e s m args below meth c A ls C S hl
  have hl : lv_has ls 2 [(0, .ref a_t), (1, .int x1)] := hl
  have C : Cx p s m args meth c cX6_isStop (some .boolean) 2 RX6 G A := C
  unfold f_X6_isStop at hf
  have hx := C.1
  have hb := C.2.1
  have hown := C.2.2.2.2.1
  have hts := C.2.2.2.2.2.1
  have hN := C.2.2.2.2.2.2.2.2.2.2
  refine lv_iload_n (pc := 0) hx hb dX6_isStop_0 rfl (lv_at hl 1 rfl) ?_
  refine lv_if_lt (tgt := 16) (pc := 1) hx hb dX6_isStop_1 (by decide) (fun c1 => ?_) (fun c1 => ?_)
  · have hf := ifp c1 hf
    refine lv_iconst (pc := 16) hx hb dX6_isStop_16 ic_0 ?_
    cases hf
    exact x_zret (pc := 17) (by decide) C S dX6_isStop_17
  · have hf := ifn c1 hf
    refine lv_iload_n (pc := 4) hx hb dX6_isStop_4 rfl (lv_at hl 1 rfl) ?_
    refine lv_aload_n (pc := 5) hx hb dX6_isStop_5 rfl (lv_at hl 0 rfl) ?_
    refine x_get (pc := 6) (ci := 6) (T := TX6) (v := .int t_stopCount) C S 0 rfl rfl inlX6 9 (by decide) rfl qf_6_60 rfl dX6_isStop_6 ?_
    refine lv_icmp_ge (tgt := 16) (pc := 9) hx hb dX6_isStop_9 (by decide) (fun c2 => ?_) (fun c2 => ?_)
    · have hf := ifp c2 hf
      refine lv_iconst (pc := 16) hx hb dX6_isStop_16 ic_0 ?_
      cases hf
      exact x_zret (pc := 17) (by decide) C S dX6_isStop_17
    · have hf := ifn c2 hf
      refine lv_iconst (pc := 12) hx hb dX6_isStop_12 ic_1 ?_
      refine lv_goto (tgt := 17) (pc := 13) hx hb dX6_isStop_13 (by decide) ?_
      cases hf
      exact x_zret (pc := 17) (by decide) C S dX6_isStop_17
end

abbrev rm_X6_lockedCount : Room := { frames := 1, cells := 0, slots := 0, locals := 21 }
abbrev kw_X6_lockedCount : Cond := .code yX6_lockedCount cX6_lockedCount 3 (some .int)
abbrev w_X6_lockedCount (G : GE) (a_t a_t_facts a_t_roundsOf a_t_locked a_t_rules a_t_sizes a_t_rows a_t_seen a_t_plan a_t_book : Nat) (t_stopCount : Int32) (t_metric : Int32) (t_fixed : Int32) (t_locked : Nat → Int32) : va_W := [(a_t, ob 6 [.ref a_t_facts, .ref a_t_roundsOf, .ref a_t_locked, .ref a_t_rules, .ref a_t_sizes, .ref a_t_rows, .ref a_t_seen, .ref a_t_plan, .ref a_t_book, .int t_stopCount, .int t_metric, .int t_fixed]), (a_t_locked, aZ G 16 t_locked)]
theorem u_X6_lockedCount_X6_isLocked_127 {s : State} {args : Array Value} (hts : ∀ w ∈ WU, w.before args s = true) : CallW rm_X6_lockedCount s args RX6 RX6 127 yX6_isLocked cX6_isLocked 2 (some .boolean) (kw_X6_isLocked :: WU) rm_X6_isLocked 0 0 1 := cwV 1 hts (gV qm_6_127 qi_X6_isLocked ql_X6_isLocked qn_6 qc_X6_isLocked) rfl rfl rfl (by decide +kernel) ⟨Nat.le_of_ble_eq_true rfl, Nat.le_of_ble_eq_true rfl⟩
section
variable {p : Program} {l : Launch} {e : Env} {s : State} {m : MethodId} {args : Array Value} {below : List Frame} {meth : Method} {c : Code} {A : Nat → Prop} {G : GE} {a_t a_t_facts a_t_roundsOf a_t_locked a_t_rules a_t_sizes a_t_rows a_t_seen a_t_plan a_t_book : Nat} {r : Int32}
set_option maxRecDepth 100000 in
set_option maxHeartbeats 4000000 in
theorem k_X6_lockedCount_4 (C : Cx p s m args meth c cX6_lockedCount (some .int) 3 RX6 G A) (t_stopCount : Int32) (t_metric : Int32) (t_fixed : Int32) (t_locked : Nat → Int32) (x1 : Int32) (x2 : Int32) (k4 : Int32 × Int32 → Option (Int32)) (hk4 : ∀ {H : Heap} {locs : List Loc} {ls : Array Slot} (x1' : Int32) (x2' : Int32), k4 (x1', x2') = some r → St G A s.heap H locs (w_X6_lockedCount G a_t a_t_facts a_t_roundsOf a_t_locked a_t_rules a_t_sizes a_t_rows a_t_seen a_t_plan a_t_book t_stopCount t_metric t_fixed t_locked) → lv_has ls 3 [(0, .ref a_t), (1, .int x1'), (2, .int x2')] → W p l e rm_X6_lockedCount s m args below meth c H locs 0 0 (QI G below args s A r (w_X6_lockedCount G a_t a_t_facts a_t_roundsOf a_t_locked a_t_rules a_t_sizes a_t_rows a_t_seen a_t_plan a_t_book t_stopCount t_metric t_fixed t_locked)) (F0 m 4 ls [])) {H : Heap} {locs : List Loc} {ls : Array Slot} (hf : b_X6_lockedCount_4 t_locked t_stopCount k4 x1 x2 = some r) (S : St G A s.heap H locs (w_X6_lockedCount G a_t a_t_facts a_t_roundsOf a_t_locked a_t_rules a_t_sizes a_t_rows a_t_seen a_t_plan a_t_book t_stopCount t_metric t_fixed t_locked)) (hl : lv_has ls 3 [(0, .ref a_t), (1, .int x1), (2, .int x2)]) : W p l e rm_X6_lockedCount s m args below meth c H locs 0 0 (QI G below args s A r (w_X6_lockedCount G a_t a_t_facts a_t_roundsOf a_t_locked a_t_rules a_t_sizes a_t_rows a_t_seen a_t_plan a_t_book t_stopCount t_metric t_fixed t_locked)) (F0 m 4 ls []) := by
  unfold b_X6_lockedCount_4 at hf
  have hx := C.1
  have hb := C.2.1
  have hown := C.2.2.2.2.1
  have hts := C.2.2.2.2.2.1
  have hN := C.2.2.2.2.2.2.2.2.2.2
  refine lv_iload_n (pc := 4) hx hb dX6_lockedCount_4 rfl (lv_at hl 2 rfl) ?_
  refine lv_aload_n (pc := 5) hx hb dX6_lockedCount_5 rfl (lv_at hl 0 rfl) ?_
  refine x_get (pc := 6) (ci := 6) (T := TX6) (v := .int t_stopCount) C S 0 rfl rfl inlX6 9 (by decide) rfl qf_6_60 rfl dX6_lockedCount_6 ?_
  refine lv_icmp_ge (tgt := 34) (pc := 9) hx hb dX6_lockedCount_9 (by decide) (fun c1 => ?_) (fun c1 => ?_)
  · have hf := ifp c1 hf
    refine lv_iload_n (pc := 34) hx hb dX6_lockedCount_34 rfl (lv_at hl 1 rfl) ?_
    cases hf
    exact x_iret (pc := 35) C S dX6_lockedCount_35
  · have hf := ifn c1 hf
    refine lv_iload_n (pc := 12) hx hb dX6_lockedCount_12 rfl (lv_at hl 1 rfl) ?_
    refine lv_aload_n (pc := 13) hx hb dX6_lockedCount_13 rfl (lv_at hl 0 rfl) ?_
    refine lv_iload_n (pc := 14) hx hb dX6_lockedCount_14 rfl (lv_at hl 2 rfl) ?_
    obtain ⟨r2, hq2, hf⟩ := bd_e hf
    refine x_vI (pc := 15) (As := [.int x2]) (rest := [.int x1]) (isC := [0, 1]) (ws' := (w_X6_lockedCount G a_t a_t_facts a_t_roundsOf a_t_locked a_t_rules a_t_sizes a_t_rows a_t_seen a_t_plan a_t_book t_stopCount t_metric t_fixed t_locked)) C S (c_X6_isLocked l G a_t a_t_facts a_t_roundsOf a_t_locked a_t_rules a_t_sizes a_t_rows a_t_seen a_t_plan a_t_book t_stopCount t_metric t_fixed t_locked x2 r2 hq2) (u_X6_lockedCount_X6_isLocked_127 hts) (ci := 6) rfl 0 rfl rfl (by decide +kernel) [some 0, some 1] (by decide +kernel) rfl rfl rfl hl.1 rfl (Nat.le_of_ble_eq_true rfl) dX6_lockedCount_15 (fun H locs S => ?_)
    refine lv_if_eq (tgt := 25) (pc := 18) hx hb dX6_lockedCount_18 (by decide) (fun c3 => ?_) (fun c3 => ?_)
    · have hf := ifp c3 hf
      refine lv_iconst (pc := 25) hx hb dX6_lockedCount_25 ic_0 ?_
      refine lv_iadd (pc := 26) hx hb dX6_lockedCount_26 ?_
      refine lv_istore_n (pc := 27) (lv' := [(1, .int (x1 + (0 : Int32))), (0, .ref a_t), (2, .int x2)]) hx hb dX6_lockedCount_27 rfl hl (by decide) rfl (fun ls hl => ?_)
      refine lv_iinc (pc := 28) (v := (x2 + (1 : Int32))) (lv' := [(2, .int (x2 + (1 : Int32))), (1, .int (x1 + (0 : Int32))), (0, .ref a_t)]) hx hb dX6_lockedCount_28 hl (k := 2) rfl (congrArg (fun z => x2 + z) ic_1) (by decide) rfl (fun ls hl => ?_)
      refine lv_goto (tgt := 4) (pc := 31) hx hb dX6_lockedCount_31 (by decide) ?_
      exact hk4 ((x1 + (0 : Int32))) ((x2 + (1 : Int32)))  hf S (lv_sub hl [2, 1, 0] rfl)
    · have hf := ifn c3 hf
      refine lv_iconst (pc := 21) hx hb dX6_lockedCount_21 ic_1 ?_
      refine lv_goto (tgt := 26) (pc := 22) hx hb dX6_lockedCount_22 (by decide) ?_
      refine lv_iadd (pc := 26) hx hb dX6_lockedCount_26 ?_
      refine lv_istore_n (pc := 27) (lv' := [(1, .int (x1 + (1 : Int32))), (0, .ref a_t), (2, .int x2)]) hx hb dX6_lockedCount_27 rfl hl (by decide) rfl (fun ls hl => ?_)
      refine lv_iinc (pc := 28) (v := (x2 + (1 : Int32))) (lv' := [(2, .int (x2 + (1 : Int32))), (1, .int (x1 + (1 : Int32))), (0, .ref a_t)]) hx hb dX6_lockedCount_28 hl (k := 2) rfl (congrArg (fun z => x2 + z) ic_1) (by decide) rfl (fun ls hl => ?_)
      refine lv_goto (tgt := 4) (pc := 31) hx hb dX6_lockedCount_31 (by decide) ?_
      exact hk4 ((x1 + (1 : Int32))) ((x2 + (1 : Int32)))  hf S (lv_sub hl [2, 1, 0] rfl)
set_option maxRecDepth 100000 in
set_option maxHeartbeats 4000000 in
theorem h_X6_lockedCount_4 (C : Cx p s m args meth c cX6_lockedCount (some .int) 3 RX6 G A) (t_stopCount : Int32) (t_metric : Int32) (t_fixed : Int32) (t_locked : Nat → Int32) : ∀ (n : Nat) (x1 : Int32) (x2 : Int32) {H : Heap} {locs : List Loc} {ls : Array Slot} (hf : lp (fun k x => b_X6_lockedCount_4 t_locked t_stopCount k x.1 x.2) n (x1, x2) = some r) (S : St G A s.heap H locs (w_X6_lockedCount G a_t a_t_facts a_t_roundsOf a_t_locked a_t_rules a_t_sizes a_t_rows a_t_seen a_t_plan a_t_book t_stopCount t_metric t_fixed t_locked)) (hl : lv_has ls 3 [(0, .ref a_t), (1, .int x1), (2, .int x2)]), W p l e rm_X6_lockedCount s m args below meth c H locs 0 0 (QI G below args s A r (w_X6_lockedCount G a_t a_t_facts a_t_roundsOf a_t_locked a_t_rules a_t_sizes a_t_rows a_t_seen a_t_plan a_t_book t_stopCount t_metric t_fixed t_locked)) (F0 m 4 ls []) := by
  intro n
  induction n with
  | zero =>
    intro x1 x2  H locs ls hf
    cases hf
  | succ n ih =>
    intro x1 x2  H locs ls hf S hl
    have hf : b_X6_lockedCount_4 t_locked t_stopCount (lp (fun k x => b_X6_lockedCount_4 t_locked t_stopCount k x.1 x.2) n) x1 x2 = some r := hf
    exact k_X6_lockedCount_4 C t_stopCount t_metric t_fixed t_locked x1 x2  (lp (fun k x => b_X6_lockedCount_4 t_locked t_stopCount k x.1 x.2) n) (fun x1' x2'  h S hl => ih x1' x2'  h S hl) hf S hl
set_option maxRecDepth 100000 in
set_option maxHeartbeats 4000000 in
theorem c_X6_lockedCount (l : Launch) (G : GE) (a_t a_t_facts a_t_roundsOf a_t_locked a_t_rules a_t_sizes a_t_rows a_t_seen a_t_plan a_t_book : Nat) (t_stopCount : Int32) (t_metric : Int32) (t_fixed : Int32) (t_locked : Nat → Int32) (r : Int32) (hf : f_X6_lockedCount t_locked t_stopCount = some r) : CI l G yX6_lockedCount kw_X6_lockedCount rm_X6_lockedCount [.ref a_t] (w_X6_lockedCount G a_t a_t_facts a_t_roundsOf a_t_locked a_t_rules a_t_sizes a_t_rows a_t_seen a_t_plan a_t_book t_stopCount t_metric t_fixed t_locked) r (w_X6_lockedCount G a_t a_t_facts a_t_roundsOf a_t_locked a_t_rules a_t_sizes a_t_rows a_t_seen a_t_plan a_t_book t_stopCount t_metric t_fixed t_locked) := by
  refine en_I (cc := cX6_lockedCount) (maxL := 3) (ret := (some .int)) (by decide +kernel) (Nat.le_of_ble_eq_true rfl) ?_
  intro p e s m args below meth c A ls C S hl
  have hl : lv_has ls 3 [(0, .ref a_t)] := hl
  have C : Cx p s m args meth c cX6_lockedCount (some .int) 3 RX6 G A := C
  unfold f_X6_lockedCount at hf
  have hx := C.1
  have hb := C.2.1
  have hown := C.2.2.2.2.1
  have hts := C.2.2.2.2.2.1
  have hN := C.2.2.2.2.2.2.2.2.2.2
  refine lv_iconst (pc := 0) hx hb dX6_lockedCount_0 ic_0 ?_
  refine lv_istore_n (pc := 1) (lv' := [(1, .int (0 : Int32)), (0, .ref a_t)]) hx hb dX6_lockedCount_1 rfl hl (by decide) rfl (fun ls hl => ?_)
  refine lv_iconst (pc := 2) hx hb dX6_lockedCount_2 ic_0 ?_
  refine lv_istore_n (pc := 3) (lv' := [(2, .int (0 : Int32)), (1, .int (0 : Int32)), (0, .ref a_t)]) hx hb dX6_lockedCount_3 rfl hl (by decide) rfl (fun ls hl => ?_)
  exact h_X6_lockedCount_4 C (t_stopCount) (t_metric) (t_fixed) (t_locked) fu ((0 : Int32)) ((0 : Int32)) hf S (lv_sub hl [2, 1, 0] rfl)
end

abbrev rm_X6_looseCount : Room := { frames := 1, cells := 0, slots := 0, locals := 21 }
abbrev kw_X6_looseCount : Cond := .code yX6_looseCount cX6_looseCount 3 (some .int)
abbrev w_X6_looseCount (G : GE) (a_t a_t_facts a_t_roundsOf a_t_locked a_t_rules a_t_sizes a_t_rows a_t_seen a_t_plan a_t_book : Nat) (t_stopCount : Int32) (t_metric : Int32) (t_fixed : Int32) (t_roundsOf : Nat → Int32) : va_W := [(a_t, ob 6 [.ref a_t_facts, .ref a_t_roundsOf, .ref a_t_locked, .ref a_t_rules, .ref a_t_sizes, .ref a_t_rows, .ref a_t_seen, .ref a_t_plan, .ref a_t_book, .int t_stopCount, .int t_metric, .int t_fixed]), (a_t_roundsOf, aI G 16 t_roundsOf)]
theorem u_X6_looseCount_X6_roundOf_100 {s : State} {args : Array Value} (hts : ∀ w ∈ WU, w.before args s = true) : CallW rm_X6_looseCount s args RX6 RX6 100 yX6_roundOf cX6_roundOf 2 (some .int) (kw_X6_roundOf :: WU) rm_X6_roundOf 0 0 1 := cwV 1 hts (gV qm_6_100 qi_X6_roundOf ql_X6_roundOf qn_6 qc_X6_roundOf) rfl rfl rfl (by decide +kernel) ⟨Nat.le_of_ble_eq_true rfl, Nat.le_of_ble_eq_true rfl⟩
section
variable {p : Program} {l : Launch} {e : Env} {s : State} {m : MethodId} {args : Array Value} {below : List Frame} {meth : Method} {c : Code} {A : Nat → Prop} {G : GE} {a_t a_t_facts a_t_roundsOf a_t_locked a_t_rules a_t_sizes a_t_rows a_t_seen a_t_plan a_t_book : Nat} {r : Int32}
set_option maxRecDepth 100000 in
set_option maxHeartbeats 4000000 in
theorem k_X6_looseCount_4 (C : Cx p s m args meth c cX6_looseCount (some .int) 3 RX6 G A) (t_stopCount : Int32) (t_metric : Int32) (t_fixed : Int32) (t_roundsOf : Nat → Int32) (x1 : Int32) (x2 : Int32) (k4 : Int32 × Int32 → Option (Int32)) (hk4 : ∀ {H : Heap} {locs : List Loc} {ls : Array Slot} (x1' : Int32) (x2' : Int32), k4 (x1', x2') = some r → St G A s.heap H locs (w_X6_looseCount G a_t a_t_facts a_t_roundsOf a_t_locked a_t_rules a_t_sizes a_t_rows a_t_seen a_t_plan a_t_book t_stopCount t_metric t_fixed t_roundsOf) → lv_has ls 3 [(0, .ref a_t), (1, .int x1'), (2, .int x2')] → W p l e rm_X6_looseCount s m args below meth c H locs 0 0 (QI G below args s A r (w_X6_looseCount G a_t a_t_facts a_t_roundsOf a_t_locked a_t_rules a_t_sizes a_t_rows a_t_seen a_t_plan a_t_book t_stopCount t_metric t_fixed t_roundsOf)) (F0 m 4 ls [])) {H : Heap} {locs : List Loc} {ls : Array Slot} (hf : b_X6_looseCount_4 t_roundsOf t_stopCount k4 x1 x2 = some r) (S : St G A s.heap H locs (w_X6_looseCount G a_t a_t_facts a_t_roundsOf a_t_locked a_t_rules a_t_sizes a_t_rows a_t_seen a_t_plan a_t_book t_stopCount t_metric t_fixed t_roundsOf)) (hl : lv_has ls 3 [(0, .ref a_t), (1, .int x1), (2, .int x2)]) : W p l e rm_X6_looseCount s m args below meth c H locs 0 0 (QI G below args s A r (w_X6_looseCount G a_t a_t_facts a_t_roundsOf a_t_locked a_t_rules a_t_sizes a_t_rows a_t_seen a_t_plan a_t_book t_stopCount t_metric t_fixed t_roundsOf)) (F0 m 4 ls []) := by
  unfold b_X6_looseCount_4 at hf
  have hx := C.1
  have hb := C.2.1
  have hown := C.2.2.2.2.1
  have hts := C.2.2.2.2.2.1
  have hN := C.2.2.2.2.2.2.2.2.2.2
  refine lv_iload_n (pc := 4) hx hb dX6_looseCount_4 rfl (lv_at hl 2 rfl) ?_
  refine lv_aload_n (pc := 5) hx hb dX6_looseCount_5 rfl (lv_at hl 0 rfl) ?_
  refine x_get (pc := 6) (ci := 6) (T := TX6) (v := .int t_stopCount) C S 0 rfl rfl inlX6 9 (by decide) rfl qf_6_60 rfl dX6_looseCount_6 ?_
  refine lv_icmp_ge (tgt := 36) (pc := 9) hx hb dX6_looseCount_9 (by decide) (fun c1 => ?_) (fun c1 => ?_)
  · have hf := ifp c1 hf
    refine lv_iload_n (pc := 36) hx hb dX6_looseCount_36 rfl (lv_at hl 1 rfl) ?_
    cases hf
    exact x_iret (pc := 37) C S dX6_looseCount_37
  · have hf := ifn c1 hf
    refine lv_iload_n (pc := 12) hx hb dX6_looseCount_12 rfl (lv_at hl 1 rfl) ?_
    refine lv_aload_n (pc := 13) hx hb dX6_looseCount_13 rfl (lv_at hl 0 rfl) ?_
    refine lv_iload_n (pc := 14) hx hb dX6_looseCount_14 rfl (lv_at hl 2 rfl) ?_
    obtain ⟨r2, hq2, hf⟩ := bd_e hf
    refine x_vI (pc := 15) (As := [.int x2]) (rest := [.int x1]) (isC := [0, 1]) (ws' := (w_X6_looseCount G a_t a_t_facts a_t_roundsOf a_t_locked a_t_rules a_t_sizes a_t_rows a_t_seen a_t_plan a_t_book t_stopCount t_metric t_fixed t_roundsOf)) C S (c_X6_roundOf l G a_t a_t_facts a_t_roundsOf a_t_locked a_t_rules a_t_sizes a_t_rows a_t_seen a_t_plan a_t_book t_stopCount t_metric t_fixed t_roundsOf x2 r2 hq2) (u_X6_looseCount_X6_roundOf_100 hts) (ci := 6) rfl 0 rfl rfl (by decide +kernel) [some 0, some 1] (by decide +kernel) rfl rfl rfl hl.1 rfl (Nat.le_of_ble_eq_true rfl) dX6_looseCount_15 (fun H locs S => ?_)
    refine lv_bipush (pc := 18) hx hb dX6_looseCount_18 bc_m5 ?_
    refine lv_icmp_ne (tgt := 27) (pc := 20) hx hb dX6_looseCount_20 (by decide) (fun c3 => ?_) (fun c3 => ?_)
    · have hf := ifn c3 hf
      refine lv_iconst (pc := 27) hx hb dX6_looseCount_27 ic_0 ?_
      refine lv_iadd (pc := 28) hx hb dX6_looseCount_28 ?_
      refine lv_istore_n (pc := 29) (lv' := [(1, .int (x1 + (0 : Int32))), (0, .ref a_t), (2, .int x2)]) hx hb dX6_looseCount_29 rfl hl (by decide) rfl (fun ls hl => ?_)
      refine lv_iinc (pc := 30) (v := (x2 + (1 : Int32))) (lv' := [(2, .int (x2 + (1 : Int32))), (1, .int (x1 + (0 : Int32))), (0, .ref a_t)]) hx hb dX6_looseCount_30 hl (k := 2) rfl (congrArg (fun z => x2 + z) ic_1) (by decide) rfl (fun ls hl => ?_)
      refine lv_goto (tgt := 4) (pc := 33) hx hb dX6_looseCount_33 (by decide) ?_
      exact hk4 ((x1 + (0 : Int32))) ((x2 + (1 : Int32)))  hf S (lv_sub hl [2, 1, 0] rfl)
    · have hf := ifp c3 hf
      refine lv_iconst (pc := 23) hx hb dX6_looseCount_23 ic_1 ?_
      refine lv_goto (tgt := 28) (pc := 24) hx hb dX6_looseCount_24 (by decide) ?_
      refine lv_iadd (pc := 28) hx hb dX6_looseCount_28 ?_
      refine lv_istore_n (pc := 29) (lv' := [(1, .int (x1 + (1 : Int32))), (0, .ref a_t), (2, .int x2)]) hx hb dX6_looseCount_29 rfl hl (by decide) rfl (fun ls hl => ?_)
      refine lv_iinc (pc := 30) (v := (x2 + (1 : Int32))) (lv' := [(2, .int (x2 + (1 : Int32))), (1, .int (x1 + (1 : Int32))), (0, .ref a_t)]) hx hb dX6_looseCount_30 hl (k := 2) rfl (congrArg (fun z => x2 + z) ic_1) (by decide) rfl (fun ls hl => ?_)
      refine lv_goto (tgt := 4) (pc := 33) hx hb dX6_looseCount_33 (by decide) ?_
      exact hk4 ((x1 + (1 : Int32))) ((x2 + (1 : Int32)))  hf S (lv_sub hl [2, 1, 0] rfl)
set_option maxRecDepth 100000 in
set_option maxHeartbeats 4000000 in
theorem h_X6_looseCount_4 (C : Cx p s m args meth c cX6_looseCount (some .int) 3 RX6 G A) (t_stopCount : Int32) (t_metric : Int32) (t_fixed : Int32) (t_roundsOf : Nat → Int32) : ∀ (n : Nat) (x1 : Int32) (x2 : Int32) {H : Heap} {locs : List Loc} {ls : Array Slot} (hf : lp (fun k x => b_X6_looseCount_4 t_roundsOf t_stopCount k x.1 x.2) n (x1, x2) = some r) (S : St G A s.heap H locs (w_X6_looseCount G a_t a_t_facts a_t_roundsOf a_t_locked a_t_rules a_t_sizes a_t_rows a_t_seen a_t_plan a_t_book t_stopCount t_metric t_fixed t_roundsOf)) (hl : lv_has ls 3 [(0, .ref a_t), (1, .int x1), (2, .int x2)]), W p l e rm_X6_looseCount s m args below meth c H locs 0 0 (QI G below args s A r (w_X6_looseCount G a_t a_t_facts a_t_roundsOf a_t_locked a_t_rules a_t_sizes a_t_rows a_t_seen a_t_plan a_t_book t_stopCount t_metric t_fixed t_roundsOf)) (F0 m 4 ls []) := by
  intro n
  induction n with
  | zero =>
    intro x1 x2  H locs ls hf
    cases hf
  | succ n ih =>
    intro x1 x2  H locs ls hf S hl
    have hf : b_X6_looseCount_4 t_roundsOf t_stopCount (lp (fun k x => b_X6_looseCount_4 t_roundsOf t_stopCount k x.1 x.2) n) x1 x2 = some r := hf
    exact k_X6_looseCount_4 C t_stopCount t_metric t_fixed t_roundsOf x1 x2  (lp (fun k x => b_X6_looseCount_4 t_roundsOf t_stopCount k x.1 x.2) n) (fun x1' x2'  h S hl => ih x1' x2'  h S hl) hf S hl
set_option maxRecDepth 100000 in
set_option maxHeartbeats 4000000 in
theorem c_X6_looseCount (l : Launch) (G : GE) (a_t a_t_facts a_t_roundsOf a_t_locked a_t_rules a_t_sizes a_t_rows a_t_seen a_t_plan a_t_book : Nat) (t_stopCount : Int32) (t_metric : Int32) (t_fixed : Int32) (t_roundsOf : Nat → Int32) (r : Int32) (hf : f_X6_looseCount t_roundsOf t_stopCount = some r) : CI l G yX6_looseCount kw_X6_looseCount rm_X6_looseCount [.ref a_t] (w_X6_looseCount G a_t a_t_facts a_t_roundsOf a_t_locked a_t_rules a_t_sizes a_t_rows a_t_seen a_t_plan a_t_book t_stopCount t_metric t_fixed t_roundsOf) r (w_X6_looseCount G a_t a_t_facts a_t_roundsOf a_t_locked a_t_rules a_t_sizes a_t_rows a_t_seen a_t_plan a_t_book t_stopCount t_metric t_fixed t_roundsOf) := by
  refine en_I (cc := cX6_looseCount) (maxL := 3) (ret := (some .int)) (by decide +kernel) (Nat.le_of_ble_eq_true rfl) ?_
  intro p e s m args below meth c A ls C S hl
  have hl : lv_has ls 3 [(0, .ref a_t)] := hl
  have C : Cx p s m args meth c cX6_looseCount (some .int) 3 RX6 G A := C
  unfold f_X6_looseCount at hf
  have hx := C.1
  have hb := C.2.1
  have hown := C.2.2.2.2.1
  have hts := C.2.2.2.2.2.1
  have hN := C.2.2.2.2.2.2.2.2.2.2
  refine lv_iconst (pc := 0) hx hb dX6_looseCount_0 ic_0 ?_
  refine lv_istore_n (pc := 1) (lv' := [(1, .int (0 : Int32)), (0, .ref a_t)]) hx hb dX6_looseCount_1 rfl hl (by decide) rfl (fun ls hl => ?_)
  refine lv_iconst (pc := 2) hx hb dX6_looseCount_2 ic_0 ?_
  refine lv_istore_n (pc := 3) (lv' := [(2, .int (0 : Int32)), (1, .int (0 : Int32)), (0, .ref a_t)]) hx hb dX6_looseCount_3 rfl hl (by decide) rfl (fun ls hl => ?_)
  exact h_X6_looseCount_4 C (t_stopCount) (t_metric) (t_fixed) (t_roundsOf) fu ((0 : Int32)) ((0 : Int32)) hf S (lv_sub hl [2, 1, 0] rfl)
end

abbrev rm_X6_mayBe : Room := { frames := 1, cells := 0, slots := 0, locals := 23 }
abbrev kw_X6_mayBe : Cond := .code yX6_mayBe cX6_mayBe 4 (some .boolean)
abbrev w_X6_mayBe (G : GE) (a_t a_t_facts a_t_roundsOf a_t_locked a_t_rules a_t_sizes a_t_rows a_t_seen a_t_plan a_t_book : Nat) (t_stopCount : Int32) (t_metric : Int32) (t_fixed : Int32) (t_facts : Nat → Int32) : va_W := [(a_t, ob 6 [.ref a_t_facts, .ref a_t_roundsOf, .ref a_t_locked, .ref a_t_rules, .ref a_t_sizes, .ref a_t_rows, .ref a_t_seen, .ref a_t_plan, .ref a_t_book, .int t_stopCount, .int t_metric, .int t_fixed]), (a_t_facts, aI G 102 t_facts)]
theorem u_X6_mayBe_X7_topOf_81 {s : State} {args : Array Value} (hts : ∀ w ∈ WU, w.before args s = true) (hN : Nx s) : va_CN rm_X6_mayBe s args RX6 81 yX7_topOf RX7 cX7_topOf 2 (some .int) (kw_X7_topOf :: WU) rm_X7_topOf 0 0 2 ∧ (Cond.static yX7_topOf).before args s = true ∧ True := ⟨va_cnB 2 hts (gW qc_X7_topOf) rfl rfl rfl (hN.1 _ (by decide +kernel : (RX6, 81, yX7_topOf) ∈ nstM)) (hts _ qn_7) (by decide +kernel) ⟨Nat.le_of_ble_eq_true rfl, Nat.le_of_ble_eq_true rfl⟩, hts _ qs_X7_topOf, trivial⟩
theorem u_X6_mayBe_X7_isUpTo_92 {s : State} {args : Array Value} (hts : ∀ w ∈ WU, w.before args s = true) (hN : Nx s) : va_CN rm_X6_mayBe s args RX6 92 yX7_isUpTo RX7 cX7_isUpTo 2 (some .boolean) (kw_X7_isUpTo :: WU) rm_X7_isUpTo 0 0 2 ∧ (Cond.static yX7_isUpTo).before args s = true ∧ True := ⟨va_cnB 2 hts (gW qc_X7_isUpTo) rfl rfl rfl (hN.1 _ (by decide +kernel : (RX6, 92, yX7_isUpTo) ∈ nstM)) (hts _ qn_7) (by decide +kernel) ⟨Nat.le_of_ble_eq_true rfl, Nat.le_of_ble_eq_true rfl⟩, hts _ qs_X7_isUpTo, trivial⟩
theorem u_X6_mayBe_X6_fact_85 {s : State} {args : Array Value} (hts : ∀ w ∈ WU, w.before args s = true) : CallW rm_X6_mayBe s args RX6 RX6 85 yX6_fact cX6_fact 4 (some .int) (kw_X6_fact :: WU) rm_X6_fact 0 0 2 := cwV 2 hts (gV qm_6_85 qi_X6_fact ql_X6_fact qn_6 qc_X6_fact) rfl rfl rfl (by decide +kernel) ⟨Nat.le_of_ble_eq_true rfl, Nat.le_of_ble_eq_true rfl⟩
section
variable {p : Program} {l : Launch} {e : Env} {s : State} {m : MethodId} {args : Array Value} {below : List Frame} {meth : Method} {c : Code} {A : Nat → Prop} {G : GE} {a_t a_t_facts a_t_roundsOf a_t_locked a_t_rules a_t_sizes a_t_rows a_t_seen a_t_plan a_t_book : Nat} {r : Int32}
set_option maxRecDepth 100000 in
set_option maxHeartbeats 4000000 in
theorem c_X6_mayBe (l : Launch) (G : GE) (a_t a_t_facts a_t_roundsOf a_t_locked a_t_rules a_t_sizes a_t_rows a_t_seen a_t_plan a_t_book : Nat) (t_stopCount : Int32) (t_metric : Int32) (t_fixed : Int32) (t_facts : Nat → Int32) (x1 : Int32) (x2 : Int32) (x3 : Int32) (r : Int32) (hf : f_X6_mayBe t_facts x1 x2 x3 = some r) : CI l G yX6_mayBe kw_X6_mayBe rm_X6_mayBe [.ref a_t, .int x1, .int x2, .int x3] (w_X6_mayBe G a_t a_t_facts a_t_roundsOf a_t_locked a_t_rules a_t_sizes a_t_rows a_t_seen a_t_plan a_t_book t_stopCount t_metric t_fixed t_facts) r (w_X6_mayBe G a_t a_t_facts a_t_roundsOf a_t_locked a_t_rules a_t_sizes a_t_rows a_t_seen a_t_plan a_t_book t_stopCount t_metric t_fixed t_facts) := by
  refine en_I (cc := cX6_mayBe) (maxL := 4) (ret := (some .boolean)) (by decide +kernel) (Nat.le_of_ble_eq_true rfl) ?_
  intro p e s m args below meth c A ls C S hl
  have hl : lv_has ls 4 [(0, .ref a_t), (1, .int x1), (2, .int x2), (3, .int x3)] := hl
  have C : Cx p s m args meth c cX6_mayBe (some .boolean) 4 RX6 G A := C
  unfold f_X6_mayBe at hf
  have hx := C.1
  have hb := C.2.1
  have hown := C.2.2.2.2.1
  have hts := C.2.2.2.2.2.1
  have hN := C.2.2.2.2.2.2.2.2.2.2
  refine lv_iload_n (pc := 0) hx hb dX6_mayBe_0 rfl (lv_at hl 3 rfl) ?_
  refine x_tabN (pc := 1) C S 0 (by decide) (index := 89) (own := RX6) (by decide +kernel) dX6_mayBe_1 ?_
  refine lv_iload_n (pc := 4) hx hb dX6_mayBe_4 rfl (lv_at hl 2 rfl) ?_
  obtain ⟨r1, hq1, hf⟩ := bd_e hf
  refine x_nI (pc := 5) (As := [.ref (tabA G 0), .int x2]) (rest := [.int x3]) (isC := []) (ws' := (w_X6_mayBe G a_t a_t_facts a_t_roundsOf a_t_locked a_t_rules a_t_sizes a_t_rows a_t_seen a_t_plan a_t_book t_stopCount t_metric t_fixed t_facts)) C S (c_X7_topOf l G 0 (by decide) x2 r1 hq1) (u_X6_mayBe_X7_topOf_81 hts hN) rfl (by decide +kernel) [none, none] (by decide +kernel) rfl rfl rfl hl.1 rfl (Nat.le_of_ble_eq_true rfl) dX6_mayBe_5 (fun H locs S => ?_)
  obtain ⟨r2, hq2, hf⟩ := bd_e hf
  refine x_nI (pc := 8) (As := [.int x3, .int r1]) (rest := []) (isC := []) (ws' := (w_X6_mayBe G a_t a_t_facts a_t_roundsOf a_t_locked a_t_rules a_t_sizes a_t_rows a_t_seen a_t_plan a_t_book t_stopCount t_metric t_fixed t_facts)) C S (c_X7_isUpTo l G x3 r1 r2 hq2) (u_X6_mayBe_X7_isUpTo_92 hts hN) rfl (by decide +kernel) [none, none] (by decide +kernel) rfl rfl rfl hl.1 rfl (Nat.le_of_ble_eq_true rfl) dX6_mayBe_8 (fun H locs S => ?_)
  refine lv_if_ne (tgt := 16) (pc := 11) hx hb dX6_mayBe_11 (by decide) (fun c3 => ?_) (fun c3 => ?_)
  · have hf := ifn c3 hf
    refine lv_iload_n (pc := 16) hx hb dX6_mayBe_16 rfl (lv_at hl 2 rfl) ?_
    refine lv_iconst (pc := 17) hx hb dX6_mayBe_17 ic_3 ?_
    refine lv_icmp_ne (tgt := 37) (pc := 18) hx hb dX6_mayBe_18 (by decide) (fun c4 => ?_) (fun c4 => ?_)
    · have hf := ifn c4 hf
      refine lv_iload_n (pc := 37) hx hb dX6_mayBe_37 rfl (lv_at hl 2 rfl) ?_
      refine lv_iconst (pc := 38) hx hb dX6_mayBe_38 ic_4 ?_
      refine lv_icmp_ne (tgt := 52) (pc := 39) hx hb dX6_mayBe_39 (by decide) (fun c5 => ?_) (fun c5 => ?_)
      · have hf := ifn c5 hf
        refine lv_iconst (pc := 52) hx hb dX6_mayBe_52 ic_1 ?_
        refine lv_goto (tgt := 57) (pc := 53) hx hb dX6_mayBe_53 (by decide) ?_
        cases hf
        exact x_zret (pc := 57) (by decide) C S dX6_mayBe_57
      · have hf := ifp c5 hf
        refine lv_iload_n (pc := 42) hx hb dX6_mayBe_42 rfl (lv_at hl 3 rfl) ?_
        refine lv_aload_n (pc := 43) hx hb dX6_mayBe_43 rfl (lv_at hl 0 rfl) ?_
        refine lv_iload_n (pc := 44) hx hb dX6_mayBe_44 rfl (lv_at hl 1 rfl) ?_
        refine lv_iconst (pc := 45) hx hb dX6_mayBe_45 ic_3 ?_
        obtain ⟨r6, hq6, hf⟩ := bd_e hf
        refine x_vI (pc := 46) (As := [.int x1, .int (3 : Int32)]) (rest := [.int x3]) (isC := [0, 1]) (ws' := (w_X6_mayBe G a_t a_t_facts a_t_roundsOf a_t_locked a_t_rules a_t_sizes a_t_rows a_t_seen a_t_plan a_t_book t_stopCount t_metric t_fixed t_facts)) C S (c_X6_fact l G a_t a_t_facts a_t_roundsOf a_t_locked a_t_rules a_t_sizes a_t_rows a_t_seen a_t_plan a_t_book t_stopCount t_metric t_fixed t_facts x1 (3 : Int32) r6 hq6) (u_X6_mayBe_X6_fact_85 hts) (ci := 6) rfl 0 rfl rfl (by decide +kernel) [some 0, some 1] (by decide +kernel) rfl rfl rfl hl.1 rfl (Nat.le_of_ble_eq_true rfl) dX6_mayBe_46 (fun H locs S => ?_)
        refine lv_icmp_lt (tgt := 56) (pc := 49) hx hb dX6_mayBe_49 (by decide) (fun c7 => ?_) (fun c7 => ?_)
        · have hf := ifp c7 hf
          refine lv_iconst (pc := 56) hx hb dX6_mayBe_56 ic_0 ?_
          cases hf
          exact x_zret (pc := 57) (by decide) C S dX6_mayBe_57
        · have hf := ifn c7 hf
          refine lv_iconst (pc := 52) hx hb dX6_mayBe_52 ic_1 ?_
          refine lv_goto (tgt := 57) (pc := 53) hx hb dX6_mayBe_53 (by decide) ?_
          cases hf
          exact x_zret (pc := 57) (by decide) C S dX6_mayBe_57
    · have hf := ifp c4 hf
      refine lv_iload_n (pc := 21) hx hb dX6_mayBe_21 rfl (lv_at hl 3 rfl) ?_
      refine lv_aload_n (pc := 22) hx hb dX6_mayBe_22 rfl (lv_at hl 0 rfl) ?_
      refine lv_iload_n (pc := 23) hx hb dX6_mayBe_23 rfl (lv_at hl 1 rfl) ?_
      refine lv_iconst (pc := 24) hx hb dX6_mayBe_24 ic_4 ?_
      obtain ⟨r8, hq8, hf⟩ := bd_e hf
      refine x_vI (pc := 25) (As := [.int x1, .int (4 : Int32)]) (rest := [.int x3]) (isC := [0, 1]) (ws' := (w_X6_mayBe G a_t a_t_facts a_t_roundsOf a_t_locked a_t_rules a_t_sizes a_t_rows a_t_seen a_t_plan a_t_book t_stopCount t_metric t_fixed t_facts)) C S (c_X6_fact l G a_t a_t_facts a_t_roundsOf a_t_locked a_t_rules a_t_sizes a_t_rows a_t_seen a_t_plan a_t_book t_stopCount t_metric t_fixed t_facts x1 (4 : Int32) r8 hq8) (u_X6_mayBe_X6_fact_85 hts) (ci := 6) rfl 0 rfl rfl (by decide +kernel) [some 0, some 1] (by decide +kernel) rfl rfl rfl hl.1 rfl (Nat.le_of_ble_eq_true rfl) dX6_mayBe_25 (fun H locs S => ?_)
      refine lv_icmp_gt (tgt := 35) (pc := 28) hx hb dX6_mayBe_28 (by decide) (fun c9 => ?_) (fun c9 => ?_)
      · have hf := ifp c9 hf
        refine lv_iconst (pc := 35) hx hb dX6_mayBe_35 ic_0 ?_
        cases hf
        exact x_zret (pc := 36) (by decide) C S dX6_mayBe_36
      · have hf := ifn c9 hf
        refine lv_iconst (pc := 31) hx hb dX6_mayBe_31 ic_1 ?_
        refine lv_goto (tgt := 36) (pc := 32) hx hb dX6_mayBe_32 (by decide) ?_
        cases hf
        exact x_zret (pc := 36) (by decide) C S dX6_mayBe_36
  · have hf := ifp c3 hf
    refine lv_iconst (pc := 14) hx hb dX6_mayBe_14 ic_0 ?_
    cases hf
    exact x_zret (pc := 15) (by decide) C S dX6_mayBe_15
end

abbrev rm_X6_setLocked : Room := { frames := 0, cells := 0, slots := 0, locals := 0 }
abbrev kw_X6_setLocked : Cond := .code yX6_setLocked cX6_setLocked 3 none
abbrev w_X6_setLocked (G : GE) (a_t a_t_facts a_t_roundsOf a_t_locked a_t_rules a_t_sizes a_t_rows a_t_seen a_t_plan a_t_book : Nat) (t_stopCount : Int32) (t_metric : Int32) (t_fixed : Int32) (t_locked : Nat → Int32) : va_W := [(a_t, ob 6 [.ref a_t_facts, .ref a_t_roundsOf, .ref a_t_locked, .ref a_t_rules, .ref a_t_sizes, .ref a_t_rows, .ref a_t_seen, .ref a_t_plan, .ref a_t_book, .int t_stopCount, .int t_metric, .int t_fixed]), (a_t_locked, aZ G 16 t_locked)]
section
variable {p : Program} {l : Launch} {e : Env} {s : State} {m : MethodId} {args : Array Value} {below : List Frame} {meth : Method} {c : Code} {A : Nat → Prop} {G : GE} {a_t a_t_facts a_t_roundsOf a_t_locked a_t_rules a_t_sizes a_t_rows a_t_seen a_t_plan a_t_book : Nat} {z_t_locked : Nat → Int32}
set_option maxRecDepth 100000 in
set_option maxHeartbeats 4000000 in
theorem c_X6_setLocked (l : Launch) (G : GE) (a_t a_t_facts a_t_roundsOf a_t_locked a_t_rules a_t_sizes a_t_rows a_t_seen a_t_plan a_t_book : Nat) (t_stopCount : Int32) (t_metric : Int32) (t_fixed : Int32) (t_locked : Nat → Int32) (x1 : Int32) (x2 : Int32) (z_t_locked : Nat → Int32) (hf : f_X6_setLocked t_locked x1 x2 = some z_t_locked) : CV l G yX6_setLocked kw_X6_setLocked rm_X6_setLocked [.ref a_t, .int x1, .int x2] (w_X6_setLocked G a_t a_t_facts a_t_roundsOf a_t_locked a_t_rules a_t_sizes a_t_rows a_t_seen a_t_plan a_t_book t_stopCount t_metric t_fixed t_locked) (w_X6_setLocked G a_t a_t_facts a_t_roundsOf a_t_locked a_t_rules a_t_sizes a_t_rows a_t_seen a_t_plan a_t_book t_stopCount t_metric t_fixed z_t_locked) := by
  refine en_V (cc := cX6_setLocked) (maxL := 3) (ret := none) (by decide +kernel) (Nat.le_of_ble_eq_true rfl) ?_
  intro p e s m args below meth c A ls C S hl
  have hl : lv_has ls 3 [(0, .ref a_t), (1, .int x1), (2, .int x2)] := hl
  have C : Cx p s m args meth c cX6_setLocked none 3 RX6 G A := C
  unfold f_X6_setLocked at hf
  have hx := C.1
  have hb := C.2.1
  have hown := C.2.2.2.2.1
  have hts := C.2.2.2.2.2.1
  have hN := C.2.2.2.2.2.2.2.2.2.2
  refine lv_iload_n (pc := 0) hx hb dX6_setLocked_0 rfl (lv_at hl 1 rfl) ?_
  refine lv_if_lt (tgt := 20) (pc := 1) hx hb dX6_setLocked_1 (by decide) (fun c1 => ?_) (fun c1 => ?_)
  · have hf := ifp c1 hf
    cases hf
    exact x_vret (pc := 20) C S dX6_setLocked_20
  · have hf := ifn c1 hf
    refine lv_iload_n (pc := 4) hx hb dX6_setLocked_4 rfl (lv_at hl 1 rfl) ?_
    refine lv_aload_n (pc := 5) hx hb dX6_setLocked_5 rfl (lv_at hl 0 rfl) ?_
    refine x_get (pc := 6) (ci := 6) (T := TX6) (v := .ref a_t_locked) C S 0 rfl rfl inlX6 2 (by decide) rfl qf_6_18 rfl dX6_setLocked_6 ?_
    refine x_lenZ (pc := 9) C S 1 rfl nc_16 dX6_setLocked_9 ?_
    refine lv_icmp_ge (tgt := 20) (pc := 10) hx hb dX6_setLocked_10 (by decide) (fun c2 => ?_) (fun c2 => ?_)
    · have hf := ifp c2 hf
      cases hf
      exact x_vret (pc := 20) C S dX6_setLocked_20
    · have hf := ifn c2 hf
      refine lv_aload_n (pc := 13) hx hb dX6_setLocked_13 rfl (lv_at hl 0 rfl) ?_
      refine x_get (pc := 14) (ci := 6) (T := TX6) (v := .ref a_t_locked) C S 0 rfl rfl inlX6 2 (by decide) rfl qf_6_18 rfl dX6_setLocked_14 ?_
      refine lv_iload_n (pc := 17) hx hb dX6_setLocked_17 rfl (lv_at hl 1 rfl) ?_
      refine lv_iload_n (pc := 18) hx hb dX6_setLocked_18 rfl (lv_at hl 2 rfl) ?_
      obtain ⟨hv3, hf⟩ := gI_e hf
      refine x_zast (pc := 19) (ws' := (w_X6_setLocked G a_t a_t_facts a_t_roundsOf a_t_locked a_t_rules a_t_sizes a_t_rows a_t_seen a_t_plan a_t_book t_stopCount t_metric t_fixed (upd t_locked x1.toNatClampNeg (vp_nar .boolean x2)))) C S 1 rfl hv3 rfl dX6_setLocked_19 (fun H locs S => ?_)
      cases hf
      exact x_vret (pc := 20) C S dX6_setLocked_20
end

abbrev rm_X7_refusalAt : Room := { frames := 2, cells := 0, slots := 0, locals := 41 }
abbrev kw_X7_refusalAt : Cond := .code yX7_refusalAt cX7_refusalAt 4 (some .int)
abbrev w_X7_refusalAt (G : GE) (a_t a_t_now a_t_kept a_t_thought a_t_draft a_t_filling a_t_moves a_t_text a_t_tapes a_t_now_facts a_t_now_roundsOf a_t_now_locked a_t_now_rules a_t_now_sizes a_t_now_rows a_t_now_seen a_t_now_plan a_t_now_book : Nat) (t_hasKept : Int32) (t_toldKind : Int32) (t_work : Int32) (t_now_stopCount : Int32) (t_now_metric : Int32) (t_now_fixed : Int32) (t_now_roundsOf : Nat → Int32) (t_now_sizes : Nat → Int32) : va_W := [(a_t, ob 7 [.ref a_t_now, .ref a_t_kept, .ref a_t_thought, .ref a_t_draft, .ref a_t_filling, .ref a_t_moves, .ref a_t_text, .ref a_t_tapes, .int t_hasKept, .int t_toldKind, .int t_work]), (a_t_now, ob 6 [.ref a_t_now_facts, .ref a_t_now_roundsOf, .ref a_t_now_locked, .ref a_t_now_rules, .ref a_t_now_sizes, .ref a_t_now_rows, .ref a_t_now_seen, .ref a_t_now_plan, .ref a_t_now_book, .int t_now_stopCount, .int t_now_metric, .int t_now_fixed]), (a_t_now_roundsOf, aI G 16 t_now_roundsOf), (a_t_now_sizes, aI G 4 t_now_sizes)]
theorem u_X7_refusalAt_X6_isStop_100 {s : State} {args : Array Value} (hts : ∀ w ∈ WU, w.before args s = true) : CallW rm_X7_refusalAt s args RX7 RX6 100 yX6_isStop cX6_isStop 2 (some .boolean) (kw_X6_isStop :: WU) rm_X6_isStop 0 0 1 := cwV 1 hts (gV qm_7_100 qi_X6_isStop ql_X6_isStop qn_6 qc_X6_isStop) rfl rfl rfl (by decide +kernel) ⟨Nat.le_of_ble_eq_true rfl, Nat.le_of_ble_eq_true rfl⟩
theorem u_X7_refusalAt_X7_isRound_147 {s : State} {args : Array Value} (hts : ∀ w ∈ WU, w.before args s = true) : CallB rm_X7_refusalAt s args RX7 147 yX7_isRound cX7_isRound 1 (some .boolean) (kw_X7_isRound :: WU) rm_X7_isRound 0 0 1 ∧ (Cond.static yX7_isRound).before args s = true := va_cwS 1 hts (gS qm_7_147 qs_X7_isRound qn_7 qc_X7_isRound) rfl rfl rfl (by decide +kernel) ⟨Nat.le_of_ble_eq_true rfl, Nat.le_of_ble_eq_true rfl⟩
theorem u_X7_refusalAt_X6_roundOf_115 {s : State} {args : Array Value} (hts : ∀ w ∈ WU, w.before args s = true) : CallW rm_X7_refusalAt s args RX7 RX6 115 yX6_roundOf cX6_roundOf 2 (some .int) (kw_X6_roundOf :: WU) rm_X6_roundOf 0 0 1 := cwV 1 hts (gV qm_7_115 qi_X6_roundOf ql_X6_roundOf qn_6 qc_X6_roundOf) rfl rfl rfl (by decide +kernel) ⟨Nat.le_of_ble_eq_true rfl, Nat.le_of_ble_eq_true rfl⟩
theorem u_X7_refusalAt_X6_sizeOf_195 {s : State} {args : Array Value} (hts : ∀ w ∈ WU, w.before args s = true) : CallW rm_X7_refusalAt s args RX7 RX6 195 yX6_sizeOf cX6_sizeOf 2 (some .int) (kw_X6_sizeOf :: WU) rm_X6_sizeOf 0 0 1 := cwV 1 hts (gV qm_7_195 qi_X6_sizeOf ql_X6_sizeOf qn_6 qc_X6_sizeOf) rfl rfl rfl (by decide +kernel) ⟨Nat.le_of_ble_eq_true rfl, Nat.le_of_ble_eq_true rfl⟩
theorem u_X7_refusalAt_X7_isUpTo_63 {s : State} {args : Array Value} (hts : ∀ w ∈ WU, w.before args s = true) : CallB rm_X7_refusalAt s args RX7 63 yX7_isUpTo cX7_isUpTo 2 (some .boolean) (kw_X7_isUpTo :: WU) rm_X7_isUpTo 0 0 2 ∧ (Cond.static yX7_isUpTo).before args s = true := va_cwS 2 hts (gS qm_7_63 qs_X7_isUpTo qn_7 qc_X7_isUpTo) rfl rfl rfl (by decide +kernel) ⟨Nat.le_of_ble_eq_true rfl, Nat.le_of_ble_eq_true rfl⟩
section
variable {p : Program} {l : Launch} {e : Env} {s : State} {m : MethodId} {args : Array Value} {below : List Frame} {meth : Method} {c : Code} {A : Nat → Prop} {G : GE} {a_t a_t_now a_t_kept a_t_thought a_t_draft a_t_filling a_t_moves a_t_text a_t_tapes a_t_now_facts a_t_now_roundsOf a_t_now_locked a_t_now_rules a_t_now_sizes a_t_now_rows a_t_now_seen a_t_now_plan a_t_now_book : Nat} {r : Int32}
set_option maxRecDepth 100000 in
set_option maxHeartbeats 4000000 in
theorem c_X7_refusalAt (l : Launch) (G : GE) (a_t a_t_now a_t_kept a_t_thought a_t_draft a_t_filling a_t_moves a_t_text a_t_tapes a_t_now_facts a_t_now_roundsOf a_t_now_locked a_t_now_rules a_t_now_sizes a_t_now_rows a_t_now_seen a_t_now_plan a_t_now_book : Nat) (t_hasKept : Int32) (t_toldKind : Int32) (t_work : Int32) (t_now_stopCount : Int32) (t_now_metric : Int32) (t_now_fixed : Int32) (t_now_roundsOf : Nat → Int32) (t_now_sizes : Nat → Int32) (x1 : Int32) (x2 : Int32) (x3 : Int32) (r : Int32) (hf : f_X7_refusalAt t_now_roundsOf t_now_sizes t_now_stopCount x1 x2 x3 = some r) : CI l G yX7_refusalAt kw_X7_refusalAt rm_X7_refusalAt [.ref a_t, .int x1, .int x2, .int x3] (w_X7_refusalAt G a_t a_t_now a_t_kept a_t_thought a_t_draft a_t_filling a_t_moves a_t_text a_t_tapes a_t_now_facts a_t_now_roundsOf a_t_now_locked a_t_now_rules a_t_now_sizes a_t_now_rows a_t_now_seen a_t_now_plan a_t_now_book t_hasKept t_toldKind t_work t_now_stopCount t_now_metric t_now_fixed t_now_roundsOf t_now_sizes) r (w_X7_refusalAt G a_t a_t_now a_t_kept a_t_thought a_t_draft a_t_filling a_t_moves a_t_text a_t_tapes a_t_now_facts a_t_now_roundsOf a_t_now_locked a_t_now_rules a_t_now_sizes a_t_now_rows a_t_now_seen a_t_now_plan a_t_now_book t_hasKept t_toldKind t_work t_now_stopCount t_now_metric t_now_fixed t_now_roundsOf t_now_sizes) := by
  refine en_I (cc := cX7_refusalAt) (maxL := 4) (ret := (some .int)) (by decide +kernel) (Nat.le_of_ble_eq_true rfl) ?_
  intro p e s m args below meth c A ls C S hl
  have hl : lv_has ls 4 [(0, .ref a_t), (1, .int x1), (2, .int x2), (3, .int x3)] := hl
  have C : Cx p s m args meth c cX7_refusalAt (some .int) 4 RX7 G A := C
  unfold f_X7_refusalAt at hf
  have hx := C.1
  have hb := C.2.1
  have hown := C.2.2.2.2.1
  have hts := C.2.2.2.2.2.1
  have hN := C.2.2.2.2.2.2.2.2.2.2
  refine lv_aload_n (pc := 0) hx hb dX7_refusalAt_0 rfl (lv_at hl 0 rfl) ?_
  refine x_get (pc := 1) (ci := 7) (T := TX7) (v := .ref a_t_now) C S 0 rfl rfl inlX7 0 (by decide) rfl qf_7_14 rfl dX7_refusalAt_1 ?_
  refine lv_iload_n (pc := 4) hx hb dX7_refusalAt_4 rfl (lv_at hl 1 rfl) ?_
  obtain ⟨r1, hq1, hf⟩ := bd_e hf
  refine x_vI (pc := 5) (As := [.int x1]) (rest := []) (isC := [1]) (ws' := (w_X7_refusalAt G a_t a_t_now a_t_kept a_t_thought a_t_draft a_t_filling a_t_moves a_t_text a_t_tapes a_t_now_facts a_t_now_roundsOf a_t_now_locked a_t_now_rules a_t_now_sizes a_t_now_rows a_t_now_seen a_t_now_plan a_t_now_book t_hasKept t_toldKind t_work t_now_stopCount t_now_metric t_now_fixed t_now_roundsOf t_now_sizes)) C S (c_X6_isStop l G a_t_now a_t_now_facts a_t_now_roundsOf a_t_now_locked a_t_now_rules a_t_now_sizes a_t_now_rows a_t_now_seen a_t_now_plan a_t_now_book t_now_stopCount t_now_metric t_now_fixed x1 r1 hq1) (u_X7_refusalAt_X6_isStop_100 hts) (ci := 6) rfl 1 rfl rfl (by decide +kernel) [none, some 0, none, none] (by decide +kernel) rfl rfl rfl hl.1 rfl (Nat.le_of_ble_eq_true rfl) dX7_refusalAt_5 (fun H locs S => ?_)
  refine lv_if_eq (tgt := 18) (pc := 8) hx hb dX7_refusalAt_8 (by decide) (fun c2 => ?_) (fun c2 => ?_)
  · have hf := ifp c2 hf
    refine lv_iconst (pc := 18) hx hb dX7_refusalAt_18 ic_m1 ?_
    cases hf
    exact x_iret (pc := 19) C S dX7_refusalAt_19
  · have hf := ifn c2 hf
    refine lv_iload_n (pc := 11) hx hb dX7_refusalAt_11 rfl (lv_at hl 2 rfl) ?_
    obtain ⟨r3, hq3, hf⟩ := bd_e hf
    refine x_sI (pc := 12) (As := [.int x2]) (rest := []) (isC := []) (ws' := (w_X7_refusalAt G a_t a_t_now a_t_kept a_t_thought a_t_draft a_t_filling a_t_moves a_t_text a_t_tapes a_t_now_facts a_t_now_roundsOf a_t_now_locked a_t_now_rules a_t_now_sizes a_t_now_rows a_t_now_seen a_t_now_plan a_t_now_book t_hasKept t_toldKind t_work t_now_stopCount t_now_metric t_now_fixed t_now_roundsOf t_now_sizes)) C S (c_X7_isRound l G x2 r3 hq3) (u_X7_refusalAt_X7_isRound_147 hts) rfl (by decide +kernel) [none, none, none, none] (by decide +kernel) rfl rfl rfl hl.1 rfl (Nat.le_of_ble_eq_true rfl) dX7_refusalAt_12 (fun H locs S => ?_)
    refine lv_if_ne (tgt := 20) (pc := 15) hx hb dX7_refusalAt_15 (by decide) (fun c4 => ?_) (fun c4 => ?_)
    · have hf := ifn c4 hf
      refine lv_aload_n (pc := 20) hx hb dX7_refusalAt_20 rfl (lv_at hl 0 rfl) ?_
      refine x_get (pc := 21) (ci := 7) (T := TX7) (v := .ref a_t_now) C S 0 rfl rfl inlX7 0 (by decide) rfl qf_7_14 rfl dX7_refusalAt_21 ?_
      refine lv_iload_n (pc := 24) hx hb dX7_refusalAt_24 rfl (lv_at hl 1 rfl) ?_
      obtain ⟨r5, hq5, hf⟩ := bd_e hf
      refine x_vI (pc := 25) (As := [.int x1]) (rest := []) (isC := [1, 2]) (ws' := (w_X7_refusalAt G a_t a_t_now a_t_kept a_t_thought a_t_draft a_t_filling a_t_moves a_t_text a_t_tapes a_t_now_facts a_t_now_roundsOf a_t_now_locked a_t_now_rules a_t_now_sizes a_t_now_rows a_t_now_seen a_t_now_plan a_t_now_book t_hasKept t_toldKind t_work t_now_stopCount t_now_metric t_now_fixed t_now_roundsOf t_now_sizes)) C S (c_X6_roundOf l G a_t_now a_t_now_facts a_t_now_roundsOf a_t_now_locked a_t_now_rules a_t_now_sizes a_t_now_rows a_t_now_seen a_t_now_plan a_t_now_book t_now_stopCount t_now_metric t_now_fixed t_now_roundsOf x1 r5 hq5) (u_X7_refusalAt_X6_roundOf_115 hts) (ci := 6) rfl 1 rfl rfl (by decide +kernel) [none, some 0, some 1, none] (by decide +kernel) rfl rfl rfl hl.1 rfl (Nat.le_of_ble_eq_true rfl) dX7_refusalAt_25 (fun H locs S => ?_)
      refine lv_bipush (pc := 28) hx hb dX7_refusalAt_28 bc_m5 ?_
      refine lv_icmp_eq (tgt := 36) (pc := 30) hx hb dX7_refusalAt_30 (by decide) (fun c6 => ?_) (fun c6 => ?_)
      · have hf := ifp c6 hf
        refine lv_iload_n (pc := 36) hx hb dX7_refusalAt_36 rfl (lv_at hl 3 rfl) ?_
        refine lv_aload_n (pc := 37) hx hb dX7_refusalAt_37 rfl (lv_at hl 0 rfl) ?_
        refine x_get (pc := 38) (ci := 7) (T := TX7) (v := .ref a_t_now) C S 0 rfl rfl inlX7 0 (by decide) rfl qf_7_14 rfl dX7_refusalAt_38 ?_
        refine lv_iload_n (pc := 41) hx hb dX7_refusalAt_41 rfl (lv_at hl 2 rfl) ?_
        obtain ⟨r7, hq7, hf⟩ := bd_e hf
        refine x_vI (pc := 42) (As := [.int x2]) (rest := [.int x3]) (isC := [1, 3]) (ws' := (w_X7_refusalAt G a_t a_t_now a_t_kept a_t_thought a_t_draft a_t_filling a_t_moves a_t_text a_t_tapes a_t_now_facts a_t_now_roundsOf a_t_now_locked a_t_now_rules a_t_now_sizes a_t_now_rows a_t_now_seen a_t_now_plan a_t_now_book t_hasKept t_toldKind t_work t_now_stopCount t_now_metric t_now_fixed t_now_roundsOf t_now_sizes)) C S (c_X6_sizeOf l G a_t_now a_t_now_facts a_t_now_roundsOf a_t_now_locked a_t_now_rules a_t_now_sizes a_t_now_rows a_t_now_seen a_t_now_plan a_t_now_book t_now_stopCount t_now_metric t_now_fixed t_now_sizes x2 r7 hq7) (u_X7_refusalAt_X6_sizeOf_195 hts) (ci := 6) rfl 1 rfl rfl (by decide +kernel) [none, some 0, none, some 1] (by decide +kernel) rfl rfl rfl hl.1 rfl (Nat.le_of_ble_eq_true rfl) dX7_refusalAt_42 (fun H locs S => ?_)
        obtain ⟨r8, hq8, hf⟩ := bd_e hf
        refine x_sI (pc := 45) (As := [.int x3, .int r7]) (rest := []) (isC := []) (ws' := (w_X7_refusalAt G a_t a_t_now a_t_kept a_t_thought a_t_draft a_t_filling a_t_moves a_t_text a_t_tapes a_t_now_facts a_t_now_roundsOf a_t_now_locked a_t_now_rules a_t_now_sizes a_t_now_rows a_t_now_seen a_t_now_plan a_t_now_book t_hasKept t_toldKind t_work t_now_stopCount t_now_metric t_now_fixed t_now_roundsOf t_now_sizes)) C S (c_X7_isUpTo l G x3 r7 r8 hq8) (u_X7_refusalAt_X7_isUpTo_63 hts) rfl (by decide +kernel) [none, none, none, none] (by decide +kernel) rfl rfl rfl hl.1 rfl (Nat.le_of_ble_eq_true rfl) dX7_refusalAt_45 (fun H locs S => ?_)
        refine lv_if_eq (tgt := 55) (pc := 48) hx hb dX7_refusalAt_48 (by decide) (fun c9 => ?_) (fun c9 => ?_)
        · have hf := ifp c9 hf
          refine lv_bipush (pc := 55) hx hb dX7_refusalAt_55 bc_m2 ?_
          cases hf
          exact x_iret (pc := 57) C S dX7_refusalAt_57
        · have hf := ifn c9 hf
          refine lv_iconst (pc := 51) hx hb dX7_refusalAt_51 ic_0 ?_
          refine lv_goto (tgt := 57) (pc := 52) hx hb dX7_refusalAt_52 (by decide) ?_
          cases hf
          exact x_iret (pc := 57) C S dX7_refusalAt_57
      · have hf := ifn c6 hf
        refine lv_bipush (pc := 33) hx hb dX7_refusalAt_33 bc_m3 ?_
        cases hf
        exact x_iret (pc := 35) C S dX7_refusalAt_35
    · have hf := ifp c4 hf
      refine lv_iconst (pc := 18) hx hb dX7_refusalAt_18 ic_m1 ?_
      cases hf
      exact x_iret (pc := 19) C S dX7_refusalAt_19
end

abbrev rm_X7_adds : Room := { frames := 3, cells := 0, slots := 0, locals := 78 }
abbrev kw_X7_adds : Cond := .code yX7_adds cX7_adds 5 (some .int)
abbrev w_X7_adds (G : GE) (a_t a_t_now a_t_kept a_t_thought a_t_draft a_t_filling a_t_moves a_t_text a_t_tapes a_t_now_facts a_t_now_roundsOf a_t_now_locked a_t_now_rules a_t_now_sizes a_t_now_rows a_t_now_seen a_t_now_plan a_t_now_book a_t_draft_row a_t_draft_comes a_t_draft_begins a_t_draft_slacks : Nat) (t_hasKept : Int32) (t_toldKind : Int32) (t_work : Int32) (t_now_stopCount : Int32) (t_now_metric : Int32) (t_now_fixed : Int32) (t_now_facts : Nat → Int32) (t_now_roundsOf : Nat → Int32) (t_now_rules : Nat → Int32) (t_now_sizes : Nat → Int32) (t_now_rows : Nat → Int32) (t_draft_round : Int32) (t_draft_size : Int32) (t_draft_back : Int32) (t_draft_loads : Int32) (t_draft_miles : Int32) (t_draft_waits : Int32) (t_draft_lateAt : Int32) (t_draft_later : Int32) (t_draft_row : Nat → Int32) (t_draft_comes : Nat → Int32) (t_draft_begins : Nat → Int32) : va_W := [(a_t, ob 7 [.ref a_t_now, .ref a_t_kept, .ref a_t_thought, .ref a_t_draft, .ref a_t_filling, .ref a_t_moves, .ref a_t_text, .ref a_t_tapes, .int t_hasKept, .int t_toldKind, .int t_work]), (a_t_now, ob 6 [.ref a_t_now_facts, .ref a_t_now_roundsOf, .ref a_t_now_locked, .ref a_t_now_rules, .ref a_t_now_sizes, .ref a_t_now_rows, .ref a_t_now_seen, .ref a_t_now_plan, .ref a_t_now_book, .int t_now_stopCount, .int t_now_metric, .int t_now_fixed]), (a_t_now_facts, aI G 102 t_now_facts), (a_t_now_roundsOf, aI G 16 t_now_roundsOf), (a_t_now_rules, aI G 12 t_now_rules), (a_t_now_sizes, aI G 4 t_now_sizes), (a_t_now_rows, aI G 64 t_now_rows), (a_t_draft, ob 0 [.ref a_t_draft_row, .ref a_t_draft_comes, .ref a_t_draft_begins, .ref a_t_draft_slacks, .int t_draft_round, .int t_draft_size, .int t_draft_back, .int t_draft_loads, .int t_draft_miles, .int t_draft_waits, .int t_draft_lateAt, .int t_draft_later]), (a_t_draft_row, aI G 16 t_draft_row), (a_t_draft_comes, aI G 16 t_draft_comes), (a_t_draft_begins, aI G 16 t_draft_begins)]
theorem u_X7_adds_X7_refusalAt_165 {s : State} {args : Array Value} (hts : ∀ w ∈ WU, w.before args s = true) : CallW rm_X7_adds s args RX7 RX7 165 yX7_refusalAt cX7_refusalAt 4 (some .int) (kw_X7_refusalAt :: WU) rm_X7_refusalAt 0 0 3 := cwV 3 hts (gV qm_7_165 qi_X7_refusalAt ql_X7_refusalAt qn_7 qc_X7_refusalAt) rfl rfl rfl (by decide +kernel) ⟨Nat.le_of_ble_eq_true rfl, Nat.le_of_ble_eq_true rfl⟩
theorem u_X7_adds_X0_load_168 {s : State} {args : Array Value} (hts : ∀ w ∈ WU, w.before args s = true) : CallW rm_X7_adds s args RX7 RX0 168 yX0_load cX0_load 4 none (kw_X0_load :: WU) rm_X0_load 0 0 2 := cwV 2 hts (gV qm_7_168 qi_X0_load ql_X0_load qn_0 qc_X0_load) rfl rfl rfl (by decide +kernel) ⟨Nat.le_of_ble_eq_true rfl, Nat.le_of_ble_eq_true rfl⟩
theorem u_X7_adds_X0_insert_172 {s : State} {args : Array Value} (hts : ∀ w ∈ WU, w.before args s = true) : CallW rm_X7_adds s args RX7 RX0 172 yX0_insert cX0_insert 4 none (kw_X0_insert :: WU) rm_X0_insert 0 0 2 := cwV 2 hts (gV qm_7_172 qi_X0_insert ql_X0_insert qn_0 qc_X0_insert) rfl rfl rfl (by decide +kernel) ⟨Nat.le_of_ble_eq_true rfl, Nat.le_of_ble_eq_true rfl⟩
theorem u_X7_adds_X0_follow_175 {s : State} {args : Array Value} (hts : ∀ w ∈ WU, w.before args s = true) : CallW rm_X7_adds s args RX7 RX0 175 yX0_follow cX0_follow 9 (some .boolean) (kw_X0_follow :: WU) rm_X0_follow 0 0 2 := cwV 2 hts (gV qm_7_175 qi_X0_follow ql_X0_follow qn_0 qc_X0_follow) rfl rfl rfl (by decide +kernel) ⟨Nat.le_of_ble_eq_true rfl, Nat.le_of_ble_eq_true rfl⟩
theorem u_X7_adds_X6_addsAt_179 {s : State} {args : Array Value} (hts : ∀ w ∈ WU, w.before args s = true) : CallW rm_X7_adds s args RX7 RX6 179 yX6_addsAt cX6_addsAt 7 (some .int) (kw_X6_addsAt :: WU) rm_X6_addsAt 0 0 3 := cwV 3 hts (gV qm_7_179 qi_X6_addsAt ql_X6_addsAt qn_6 qc_X6_addsAt) rfl rfl rfl (by decide +kernel) ⟨Nat.le_of_ble_eq_true rfl, Nat.le_of_ble_eq_true rfl⟩
section
variable {p : Program} {l : Launch} {e : Env} {s : State} {m : MethodId} {args : Array Value} {below : List Frame} {meth : Method} {c : Code} {A : Nat → Prop} {G : GE} {a_t a_t_now a_t_kept a_t_thought a_t_draft a_t_filling a_t_moves a_t_text a_t_tapes a_t_now_facts a_t_now_roundsOf a_t_now_locked a_t_now_rules a_t_now_sizes a_t_now_rows a_t_now_seen a_t_now_plan a_t_now_book a_t_draft_row a_t_draft_comes a_t_draft_begins a_t_draft_slacks : Nat} {r : Int32} {z_t_draft_row : Nat → Int32} {z_t_draft_comes : Nat → Int32} {z_t_draft_begins : Nat → Int32} {z_t_draft_round : Int32} {z_t_draft_size : Int32} {z_t_draft_back : Int32} {z_t_draft_loads : Int32} {z_t_draft_miles : Int32} {z_t_draft_waits : Int32} {z_t_draft_lateAt : Int32}
set_option maxRecDepth 100000 in
set_option maxHeartbeats 4000000 in
theorem c_X7_adds (l : Launch) (G : GE) (a_t a_t_now a_t_kept a_t_thought a_t_draft a_t_filling a_t_moves a_t_text a_t_tapes a_t_now_facts a_t_now_roundsOf a_t_now_locked a_t_now_rules a_t_now_sizes a_t_now_rows a_t_now_seen a_t_now_plan a_t_now_book a_t_draft_row a_t_draft_comes a_t_draft_begins a_t_draft_slacks : Nat) (t_hasKept : Int32) (t_toldKind : Int32) (t_work : Int32) (t_now_stopCount : Int32) (t_now_metric : Int32) (t_now_fixed : Int32) (t_now_facts : Nat → Int32) (t_now_roundsOf : Nat → Int32) (t_now_rules : Nat → Int32) (t_now_sizes : Nat → Int32) (t_now_rows : Nat → Int32) (t_draft_round : Int32) (t_draft_size : Int32) (t_draft_back : Int32) (t_draft_loads : Int32) (t_draft_miles : Int32) (t_draft_waits : Int32) (t_draft_lateAt : Int32) (t_draft_later : Int32) (t_draft_row : Nat → Int32) (t_draft_comes : Nat → Int32) (t_draft_begins : Nat → Int32) (x1 : Int32) (x2 : Int32) (x3 : Int32) (r : Int32) (z_t_draft_row : Nat → Int32) (z_t_draft_comes : Nat → Int32) (z_t_draft_begins : Nat → Int32) (z_t_draft_round : Int32) (z_t_draft_size : Int32) (z_t_draft_back : Int32) (z_t_draft_loads : Int32) (z_t_draft_miles : Int32) (z_t_draft_waits : Int32) (z_t_draft_lateAt : Int32) (hf : f_X7_adds t_now_facts t_now_roundsOf t_now_rules t_now_sizes t_now_rows t_now_stopCount t_now_metric t_now_fixed t_draft_row t_draft_comes t_draft_begins t_draft_round t_draft_size t_draft_back t_draft_loads t_draft_miles t_draft_waits t_draft_lateAt x1 x2 x3 = some (r, z_t_draft_row, z_t_draft_comes, z_t_draft_begins, z_t_draft_round, z_t_draft_size, z_t_draft_back, z_t_draft_loads, z_t_draft_miles, z_t_draft_waits, z_t_draft_lateAt)) : CI l G yX7_adds kw_X7_adds rm_X7_adds [.ref a_t, .int x1, .int x2, .int x3] (w_X7_adds G a_t a_t_now a_t_kept a_t_thought a_t_draft a_t_filling a_t_moves a_t_text a_t_tapes a_t_now_facts a_t_now_roundsOf a_t_now_locked a_t_now_rules a_t_now_sizes a_t_now_rows a_t_now_seen a_t_now_plan a_t_now_book a_t_draft_row a_t_draft_comes a_t_draft_begins a_t_draft_slacks t_hasKept t_toldKind t_work t_now_stopCount t_now_metric t_now_fixed t_now_facts t_now_roundsOf t_now_rules t_now_sizes t_now_rows t_draft_round t_draft_size t_draft_back t_draft_loads t_draft_miles t_draft_waits t_draft_lateAt t_draft_later t_draft_row t_draft_comes t_draft_begins) r (w_X7_adds G a_t a_t_now a_t_kept a_t_thought a_t_draft a_t_filling a_t_moves a_t_text a_t_tapes a_t_now_facts a_t_now_roundsOf a_t_now_locked a_t_now_rules a_t_now_sizes a_t_now_rows a_t_now_seen a_t_now_plan a_t_now_book a_t_draft_row a_t_draft_comes a_t_draft_begins a_t_draft_slacks t_hasKept t_toldKind t_work t_now_stopCount t_now_metric t_now_fixed t_now_facts t_now_roundsOf t_now_rules t_now_sizes t_now_rows z_t_draft_round z_t_draft_size z_t_draft_back z_t_draft_loads z_t_draft_miles z_t_draft_waits z_t_draft_lateAt t_draft_later z_t_draft_row z_t_draft_comes z_t_draft_begins) := by
  refine en_I (cc := cX7_adds) (maxL := 5) (ret := (some .int)) (by decide +kernel) (Nat.le_of_ble_eq_true rfl) ?_
  intro p e s m args below meth c A ls C S hl
  have hl : lv_has ls 5 [(0, .ref a_t), (1, .int x1), (2, .int x2), (3, .int x3)] := hl
  have C : Cx p s m args meth c cX7_adds (some .int) 5 RX7 G A := C
  unfold f_X7_adds at hf
  have hx := C.1
  have hb := C.2.1
  have hown := C.2.2.2.2.1
  have hts := C.2.2.2.2.2.1
  have hN := C.2.2.2.2.2.2.2.2.2.2
  refine lv_aload_n (pc := 0) hx hb dX7_adds_0 rfl (lv_at hl 0 rfl) ?_
  refine lv_iload_n (pc := 1) hx hb dX7_adds_1 rfl (lv_at hl 1 rfl) ?_
  refine lv_iload_n (pc := 2) hx hb dX7_adds_2 rfl (lv_at hl 2 rfl) ?_
  refine lv_iload_n (pc := 3) hx hb dX7_adds_3 rfl (lv_at hl 3 rfl) ?_
  obtain ⟨r1, hq1, hf⟩ := bd_e hf
  refine x_vI (pc := 4) (As := [.int x1, .int x2, .int x3]) (rest := []) (isC := [0, 1, 3, 5]) (ws' := (w_X7_adds G a_t a_t_now a_t_kept a_t_thought a_t_draft a_t_filling a_t_moves a_t_text a_t_tapes a_t_now_facts a_t_now_roundsOf a_t_now_locked a_t_now_rules a_t_now_sizes a_t_now_rows a_t_now_seen a_t_now_plan a_t_now_book a_t_draft_row a_t_draft_comes a_t_draft_begins a_t_draft_slacks t_hasKept t_toldKind t_work t_now_stopCount t_now_metric t_now_fixed t_now_facts t_now_roundsOf t_now_rules t_now_sizes t_now_rows t_draft_round t_draft_size t_draft_back t_draft_loads t_draft_miles t_draft_waits t_draft_lateAt t_draft_later t_draft_row t_draft_comes t_draft_begins)) C S (c_X7_refusalAt l G a_t a_t_now a_t_kept a_t_thought a_t_draft a_t_filling a_t_moves a_t_text a_t_tapes a_t_now_facts a_t_now_roundsOf a_t_now_locked a_t_now_rules a_t_now_sizes a_t_now_rows a_t_now_seen a_t_now_plan a_t_now_book t_hasKept t_toldKind t_work t_now_stopCount t_now_metric t_now_fixed t_now_roundsOf t_now_sizes x1 x2 x3 r1 hq1) (u_X7_adds_X7_refusalAt_165 hts) (ci := 7) rfl 0 rfl rfl (by decide +kernel) [some 0, some 1, none, some 2, none, some 3, none, none, none, none, none] (by decide +kernel) rfl rfl rfl hl.1 rfl (Nat.le_of_ble_eq_true rfl) dX7_adds_4 (fun H locs S => ?_)
  refine lv_istore (pc := 7) (lv' := [(4, .int r1), (0, .ref a_t), (1, .int x1), (2, .int x2), (3, .int x3)]) hx hb dX7_adds_7 hl (by decide) rfl (fun ls hl => ?_)
  refine lv_iload (pc := 9) hx hb dX7_adds_9 (lv_at hl 0 rfl) ?_
  refine lv_if_eq (tgt := 17) (pc := 11) hx hb dX7_adds_11 (by decide) (fun c2 => ?_) (fun c2 => ?_)
  · have hf := ifp c2 hf
    refine lv_aload_n (pc := 17) hx hb dX7_adds_17 rfl (lv_at hl 1 rfl) ?_
    refine x_get (pc := 18) (ci := 7) (T := TX7) (v := .ref a_t_draft) C S 0 rfl rfl inlX7 3 (by decide) rfl qf_7_27 rfl dX7_adds_18 ?_
    refine lv_aload_n (pc := 21) hx hb dX7_adds_21 rfl (lv_at hl 1 rfl) ?_
    refine x_get (pc := 22) (ci := 7) (T := TX7) (v := .ref a_t_now) C S 0 rfl rfl inlX7 0 (by decide) rfl qf_7_14 rfl dX7_adds_22 ?_
    refine lv_iload_n (pc := 25) hx hb dX7_adds_25 rfl (lv_at hl 3 rfl) ?_
    obtain ⟨⟨o3_t_draft_row, o3_t_draft_round, o3_t_draft_size⟩, hq3, hf⟩ := bd_e hf
    refine x_vV (pc := 26) (As := [.ref a_t_now, .int x2]) (rest := []) (isC := [7, 8, 1, 5, 6]) (ws' := (w_X7_adds G a_t a_t_now a_t_kept a_t_thought a_t_draft a_t_filling a_t_moves a_t_text a_t_tapes a_t_now_facts a_t_now_roundsOf a_t_now_locked a_t_now_rules a_t_now_sizes a_t_now_rows a_t_now_seen a_t_now_plan a_t_now_book a_t_draft_row a_t_draft_comes a_t_draft_begins a_t_draft_slacks t_hasKept t_toldKind t_work t_now_stopCount t_now_metric t_now_fixed t_now_facts t_now_roundsOf t_now_rules t_now_sizes t_now_rows o3_t_draft_round o3_t_draft_size t_draft_back t_draft_loads t_draft_miles t_draft_waits t_draft_lateAt t_draft_later o3_t_draft_row t_draft_comes t_draft_begins)) C S (c_X0_load l G a_t_draft a_t_draft_row a_t_draft_comes a_t_draft_begins a_t_draft_slacks a_t_now a_t_now_facts a_t_now_roundsOf a_t_now_locked a_t_now_rules a_t_now_sizes a_t_now_rows a_t_now_seen a_t_now_plan a_t_now_book t_draft_round t_draft_size t_draft_back t_draft_loads t_draft_miles t_draft_waits t_draft_lateAt t_draft_later t_draft_row t_now_stopCount t_now_metric t_now_fixed t_now_sizes t_now_rows x2 o3_t_draft_row o3_t_draft_round o3_t_draft_size hq3) (u_X7_adds_X0_load_168 hts) (ci := 0) rfl 7 rfl rfl (by decide +kernel) [none, some 2, none, none, none, some 3, some 4, some 0, some 1, none, none] (by decide +kernel) rfl rfl rfl hl.1 rfl (Nat.le_of_ble_eq_true rfl) dX7_adds_26 (fun H locs S => ?_)
    refine lv_aload_n (pc := 29) hx hb dX7_adds_29 rfl (lv_at hl 1 rfl) ?_
    refine x_get (pc := 30) (ci := 7) (T := TX7) (v := .ref a_t_draft) C S 0 rfl rfl inlX7 3 (by decide) rfl qf_7_27 rfl dX7_adds_30 ?_
    refine lv_iload_n (pc := 33) hx hb dX7_adds_33 rfl (lv_at hl 4 rfl) ?_
    refine lv_iload_n (pc := 34) hx hb dX7_adds_34 rfl (lv_at hl 2 rfl) ?_
    obtain ⟨⟨o4_t_draft_row, o4_t_draft_size⟩, hq4, hf⟩ := bd_e hf
    refine x_vV (pc := 35) (As := [.int x3, .int x1]) (rest := []) (isC := [7, 8]) (ws' := (w_X7_adds G a_t a_t_now a_t_kept a_t_thought a_t_draft a_t_filling a_t_moves a_t_text a_t_tapes a_t_now_facts a_t_now_roundsOf a_t_now_locked a_t_now_rules a_t_now_sizes a_t_now_rows a_t_now_seen a_t_now_plan a_t_now_book a_t_draft_row a_t_draft_comes a_t_draft_begins a_t_draft_slacks t_hasKept t_toldKind t_work t_now_stopCount t_now_metric t_now_fixed t_now_facts t_now_roundsOf t_now_rules t_now_sizes t_now_rows o3_t_draft_round o4_t_draft_size t_draft_back t_draft_loads t_draft_miles t_draft_waits t_draft_lateAt t_draft_later o4_t_draft_row t_draft_comes t_draft_begins)) C S (c_X0_insert l G a_t_draft a_t_draft_row a_t_draft_comes a_t_draft_begins a_t_draft_slacks o3_t_draft_round o3_t_draft_size t_draft_back t_draft_loads t_draft_miles t_draft_waits t_draft_lateAt t_draft_later o3_t_draft_row x3 x1 o4_t_draft_row o4_t_draft_size hq4) (u_X7_adds_X0_insert_172 hts) (ci := 0) rfl 7 rfl rfl (by decide +kernel) [none, none, none, none, none, none, none, some 0, some 1, none, none] (by decide +kernel) rfl rfl rfl hl.1 rfl (Nat.le_of_ble_eq_true rfl) dX7_adds_35 (fun H locs S => ?_)
    refine lv_aload_n (pc := 38) hx hb dX7_adds_38 rfl (lv_at hl 1 rfl) ?_
    refine x_get (pc := 39) (ci := 7) (T := TX7) (v := .ref a_t_draft) C S 0 rfl rfl inlX7 3 (by decide) rfl qf_7_27 rfl dX7_adds_39 ?_
    refine lv_aload_n (pc := 42) hx hb dX7_adds_42 rfl (lv_at hl 1 rfl) ?_
    refine x_get (pc := 43) (ci := 7) (T := TX7) (v := .ref a_t_now) C S 0 rfl rfl inlX7 0 (by decide) rfl qf_7_14 rfl dX7_adds_43 ?_
    refine lv_iconst (pc := 46) hx hb dX7_adds_46 ic_0 ?_
    obtain ⟨⟨r5, o5_t_draft_comes, o5_t_draft_begins, o5_t_draft_back, o5_t_draft_loads, o5_t_draft_miles, o5_t_draft_waits, o5_t_draft_lateAt⟩, hq5, hf⟩ := bd_e hf
    refine x_vI (pc := 47) (As := [.ref a_t_now, .int (0 : Int32)]) (rest := []) (isC := [7, 8, 9, 10, 1, 2, 4]) (ws' := (w_X7_adds G a_t a_t_now a_t_kept a_t_thought a_t_draft a_t_filling a_t_moves a_t_text a_t_tapes a_t_now_facts a_t_now_roundsOf a_t_now_locked a_t_now_rules a_t_now_sizes a_t_now_rows a_t_now_seen a_t_now_plan a_t_now_book a_t_draft_row a_t_draft_comes a_t_draft_begins a_t_draft_slacks t_hasKept t_toldKind t_work t_now_stopCount t_now_metric t_now_fixed t_now_facts t_now_roundsOf t_now_rules t_now_sizes t_now_rows o3_t_draft_round o4_t_draft_size o5_t_draft_back o5_t_draft_loads o5_t_draft_miles o5_t_draft_waits o5_t_draft_lateAt t_draft_later o4_t_draft_row o5_t_draft_comes o5_t_draft_begins)) C S (c_X0_follow l G a_t_draft a_t_draft_row a_t_draft_comes a_t_draft_begins a_t_draft_slacks a_t_now a_t_now_facts a_t_now_roundsOf a_t_now_locked a_t_now_rules a_t_now_sizes a_t_now_rows a_t_now_seen a_t_now_plan a_t_now_book o3_t_draft_round o4_t_draft_size t_draft_back t_draft_loads t_draft_miles t_draft_waits t_draft_lateAt t_draft_later o4_t_draft_row t_draft_comes t_draft_begins t_now_stopCount t_now_metric t_now_fixed t_now_facts t_now_rules (0 : Int32) r5 o5_t_draft_comes o5_t_draft_begins o5_t_draft_back o5_t_draft_loads o5_t_draft_miles o5_t_draft_waits o5_t_draft_lateAt hq5) (u_X7_adds_X0_follow_175 hts) (ci := 0) rfl 7 rfl rfl (by decide +kernel) [none, some 4, some 5, none, some 6, none, none, some 0, some 1, some 2, some 3] (by decide +kernel) rfl rfl rfl hl.1 rfl (Nat.le_of_ble_eq_true rfl) dX7_adds_47 (fun H locs S => ?_)
    refine lv_if_eq (tgt := 66) (pc := 50) hx hb dX7_adds_50 (by decide) (fun c6 => ?_) (fun c6 => ?_)
    · have hf := ifp c6 hf
      refine lv_bipush (pc := 66) hx hb dX7_adds_66 bc_m5 ?_
      cases hf
      exact x_iret (pc := 68) C S dX7_adds_68
    · have hf := ifn c6 hf
      refine lv_aload_n (pc := 53) hx hb dX7_adds_53 rfl (lv_at hl 1 rfl) ?_
      refine x_get (pc := 54) (ci := 7) (T := TX7) (v := .ref a_t_now) C S 0 rfl rfl inlX7 0 (by decide) rfl qf_7_14 rfl dX7_adds_54 ?_
      refine lv_iload_n (pc := 57) hx hb dX7_adds_57 rfl (lv_at hl 2 rfl) ?_
      refine lv_iload_n (pc := 58) hx hb dX7_adds_58 rfl (lv_at hl 3 rfl) ?_
      refine lv_iload_n (pc := 59) hx hb dX7_adds_59 rfl (lv_at hl 4 rfl) ?_
      obtain ⟨r7, hq7, hf⟩ := bd_e hf
      refine x_vI (pc := 60) (As := [.int x1, .int x2, .int x3]) (rest := []) (isC := [1, 2, 5, 6]) (ws' := (w_X7_adds G a_t a_t_now a_t_kept a_t_thought a_t_draft a_t_filling a_t_moves a_t_text a_t_tapes a_t_now_facts a_t_now_roundsOf a_t_now_locked a_t_now_rules a_t_now_sizes a_t_now_rows a_t_now_seen a_t_now_plan a_t_now_book a_t_draft_row a_t_draft_comes a_t_draft_begins a_t_draft_slacks t_hasKept t_toldKind t_work t_now_stopCount t_now_metric t_now_fixed t_now_facts t_now_roundsOf t_now_rules t_now_sizes t_now_rows o3_t_draft_round o4_t_draft_size o5_t_draft_back o5_t_draft_loads o5_t_draft_miles o5_t_draft_waits o5_t_draft_lateAt t_draft_later o4_t_draft_row o5_t_draft_comes o5_t_draft_begins)) C S (c_X6_addsAt l G a_t_now a_t_now_facts a_t_now_roundsOf a_t_now_locked a_t_now_rules a_t_now_sizes a_t_now_rows a_t_now_seen a_t_now_plan a_t_now_book t_now_stopCount t_now_metric t_now_fixed t_now_facts t_now_sizes t_now_rows x1 x2 x3 r7 hq7) (u_X7_adds_X6_addsAt_179 hts) (ci := 6) rfl 1 rfl rfl (by decide +kernel) [none, some 0, some 1, none, none, some 2, some 3, none, none, none, none] (by decide +kernel) rfl rfl rfl hl.1 rfl (Nat.le_of_ble_eq_true rfl) dX7_adds_60 (fun H locs S => ?_)
      refine lv_goto (tgt := 68) (pc := 63) hx hb dX7_adds_63 (by decide) ?_
      cases hf
      exact x_iret (pc := 68) C S dX7_adds_68
  · have hf := ifn c2 hf
    refine lv_iload (pc := 14) hx hb dX7_adds_14 (lv_at hl 0 rfl) ?_
    cases hf
    exact x_iret (pc := 16) C S dX7_adds_16
end

abbrev rm_X7_holds : Room := { frames := 3, cells := 0, slots := 0, locals := 78 }
abbrev kw_X7_holds : Cond := .code yX7_holds cX7_holds 2 (some .boolean)
abbrev w_X7_holds (G : GE) (a_t a_t_now a_t_kept a_t_thought a_t_draft a_t_filling a_t_moves a_t_text a_t_tapes a_t_now_facts a_t_now_roundsOf a_t_now_locked a_t_now_rules a_t_now_sizes a_t_now_rows a_t_now_seen a_t_now_plan a_t_now_book a_t_draft_row a_t_draft_comes a_t_draft_begins a_t_draft_slacks : Nat) (t_hasKept : Int32) (t_toldKind : Int32) (t_work : Int32) (t_now_stopCount : Int32) (t_now_metric : Int32) (t_now_fixed : Int32) (t_now_facts : Nat → Int32) (t_now_rules : Nat → Int32) (t_now_sizes : Nat → Int32) (t_now_rows : Nat → Int32) (t_draft_round : Int32) (t_draft_size : Int32) (t_draft_back : Int32) (t_draft_loads : Int32) (t_draft_miles : Int32) (t_draft_waits : Int32) (t_draft_lateAt : Int32) (t_draft_later : Int32) (t_draft_row : Nat → Int32) (t_draft_comes : Nat → Int32) (t_draft_begins : Nat → Int32) : va_W := [(a_t, ob 7 [.ref a_t_now, .ref a_t_kept, .ref a_t_thought, .ref a_t_draft, .ref a_t_filling, .ref a_t_moves, .ref a_t_text, .ref a_t_tapes, .int t_hasKept, .int t_toldKind, .int t_work]), (a_t_now, ob 6 [.ref a_t_now_facts, .ref a_t_now_roundsOf, .ref a_t_now_locked, .ref a_t_now_rules, .ref a_t_now_sizes, .ref a_t_now_rows, .ref a_t_now_seen, .ref a_t_now_plan, .ref a_t_now_book, .int t_now_stopCount, .int t_now_metric, .int t_now_fixed]), (a_t_now_facts, aI G 102 t_now_facts), (a_t_now_rules, aI G 12 t_now_rules), (a_t_now_sizes, aI G 4 t_now_sizes), (a_t_now_rows, aI G 64 t_now_rows), (a_t_draft, ob 0 [.ref a_t_draft_row, .ref a_t_draft_comes, .ref a_t_draft_begins, .ref a_t_draft_slacks, .int t_draft_round, .int t_draft_size, .int t_draft_back, .int t_draft_loads, .int t_draft_miles, .int t_draft_waits, .int t_draft_lateAt, .int t_draft_later]), (a_t_draft_row, aI G 16 t_draft_row), (a_t_draft_comes, aI G 16 t_draft_comes), (a_t_draft_begins, aI G 16 t_draft_begins)]
theorem u_X7_holds_X7_isRound_147 {s : State} {args : Array Value} (hts : ∀ w ∈ WU, w.before args s = true) : CallB rm_X7_holds s args RX7 147 yX7_isRound cX7_isRound 1 (some .boolean) (kw_X7_isRound :: WU) rm_X7_isRound 0 0 1 ∧ (Cond.static yX7_isRound).before args s = true := va_cwS 1 hts (gS qm_7_147 qs_X7_isRound qn_7 qc_X7_isRound) rfl rfl rfl (by decide +kernel) ⟨Nat.le_of_ble_eq_true rfl, Nat.le_of_ble_eq_true rfl⟩
theorem u_X7_holds_X0_load_168 {s : State} {args : Array Value} (hts : ∀ w ∈ WU, w.before args s = true) : CallW rm_X7_holds s args RX7 RX0 168 yX0_load cX0_load 4 none (kw_X0_load :: WU) rm_X0_load 0 0 2 := cwV 2 hts (gV qm_7_168 qi_X0_load ql_X0_load qn_0 qc_X0_load) rfl rfl rfl (by decide +kernel) ⟨Nat.le_of_ble_eq_true rfl, Nat.le_of_ble_eq_true rfl⟩
theorem u_X7_holds_X0_follow_175 {s : State} {args : Array Value} (hts : ∀ w ∈ WU, w.before args s = true) : CallW rm_X7_holds s args RX7 RX0 175 yX0_follow cX0_follow 9 (some .boolean) (kw_X0_follow :: WU) rm_X0_follow 0 0 2 := cwV 2 hts (gV qm_7_175 qi_X0_follow ql_X0_follow qn_0 qc_X0_follow) rfl rfl rfl (by decide +kernel) ⟨Nat.le_of_ble_eq_true rfl, Nat.le_of_ble_eq_true rfl⟩
section
variable {p : Program} {l : Launch} {e : Env} {s : State} {m : MethodId} {args : Array Value} {below : List Frame} {meth : Method} {c : Code} {A : Nat → Prop} {G : GE} {a_t a_t_now a_t_kept a_t_thought a_t_draft a_t_filling a_t_moves a_t_text a_t_tapes a_t_now_facts a_t_now_roundsOf a_t_now_locked a_t_now_rules a_t_now_sizes a_t_now_rows a_t_now_seen a_t_now_plan a_t_now_book a_t_draft_row a_t_draft_comes a_t_draft_begins a_t_draft_slacks : Nat} {r : Int32} {z_t_draft_row : Nat → Int32} {z_t_draft_comes : Nat → Int32} {z_t_draft_begins : Nat → Int32} {z_t_draft_round : Int32} {z_t_draft_size : Int32} {z_t_draft_back : Int32} {z_t_draft_loads : Int32} {z_t_draft_miles : Int32} {z_t_draft_waits : Int32} {z_t_draft_lateAt : Int32}
set_option maxRecDepth 100000 in
set_option maxHeartbeats 4000000 in
theorem c_X7_holds (l : Launch) (G : GE) (a_t a_t_now a_t_kept a_t_thought a_t_draft a_t_filling a_t_moves a_t_text a_t_tapes a_t_now_facts a_t_now_roundsOf a_t_now_locked a_t_now_rules a_t_now_sizes a_t_now_rows a_t_now_seen a_t_now_plan a_t_now_book a_t_draft_row a_t_draft_comes a_t_draft_begins a_t_draft_slacks : Nat) (t_hasKept : Int32) (t_toldKind : Int32) (t_work : Int32) (t_now_stopCount : Int32) (t_now_metric : Int32) (t_now_fixed : Int32) (t_now_facts : Nat → Int32) (t_now_rules : Nat → Int32) (t_now_sizes : Nat → Int32) (t_now_rows : Nat → Int32) (t_draft_round : Int32) (t_draft_size : Int32) (t_draft_back : Int32) (t_draft_loads : Int32) (t_draft_miles : Int32) (t_draft_waits : Int32) (t_draft_lateAt : Int32) (t_draft_later : Int32) (t_draft_row : Nat → Int32) (t_draft_comes : Nat → Int32) (t_draft_begins : Nat → Int32) (x1 : Int32) (r : Int32) (z_t_draft_row : Nat → Int32) (z_t_draft_comes : Nat → Int32) (z_t_draft_begins : Nat → Int32) (z_t_draft_round : Int32) (z_t_draft_size : Int32) (z_t_draft_back : Int32) (z_t_draft_loads : Int32) (z_t_draft_miles : Int32) (z_t_draft_waits : Int32) (z_t_draft_lateAt : Int32) (hf : f_X7_holds t_now_facts t_now_rules t_now_sizes t_now_rows t_now_metric t_draft_row t_draft_comes t_draft_begins t_draft_round t_draft_size t_draft_back t_draft_loads t_draft_miles t_draft_waits t_draft_lateAt x1 = some (r, z_t_draft_row, z_t_draft_comes, z_t_draft_begins, z_t_draft_round, z_t_draft_size, z_t_draft_back, z_t_draft_loads, z_t_draft_miles, z_t_draft_waits, z_t_draft_lateAt)) : CI l G yX7_holds kw_X7_holds rm_X7_holds [.ref a_t, .int x1] (w_X7_holds G a_t a_t_now a_t_kept a_t_thought a_t_draft a_t_filling a_t_moves a_t_text a_t_tapes a_t_now_facts a_t_now_roundsOf a_t_now_locked a_t_now_rules a_t_now_sizes a_t_now_rows a_t_now_seen a_t_now_plan a_t_now_book a_t_draft_row a_t_draft_comes a_t_draft_begins a_t_draft_slacks t_hasKept t_toldKind t_work t_now_stopCount t_now_metric t_now_fixed t_now_facts t_now_rules t_now_sizes t_now_rows t_draft_round t_draft_size t_draft_back t_draft_loads t_draft_miles t_draft_waits t_draft_lateAt t_draft_later t_draft_row t_draft_comes t_draft_begins) r (w_X7_holds G a_t a_t_now a_t_kept a_t_thought a_t_draft a_t_filling a_t_moves a_t_text a_t_tapes a_t_now_facts a_t_now_roundsOf a_t_now_locked a_t_now_rules a_t_now_sizes a_t_now_rows a_t_now_seen a_t_now_plan a_t_now_book a_t_draft_row a_t_draft_comes a_t_draft_begins a_t_draft_slacks t_hasKept t_toldKind t_work t_now_stopCount t_now_metric t_now_fixed t_now_facts t_now_rules t_now_sizes t_now_rows z_t_draft_round z_t_draft_size z_t_draft_back z_t_draft_loads z_t_draft_miles z_t_draft_waits z_t_draft_lateAt t_draft_later z_t_draft_row z_t_draft_comes z_t_draft_begins) := by
  refine en_I (cc := cX7_holds) (maxL := 2) (ret := (some .boolean)) (by decide +kernel) (Nat.le_of_ble_eq_true rfl) ?_
  intro p e s m args below meth c A ls C S hl
  have hl : lv_has ls 2 [(0, .ref a_t), (1, .int x1)] := hl
  have C : Cx p s m args meth c cX7_holds (some .boolean) 2 RX7 G A := C
  unfold f_X7_holds at hf
  have hx := C.1
  have hb := C.2.1
  have hown := C.2.2.2.2.1
  have hts := C.2.2.2.2.2.1
  have hN := C.2.2.2.2.2.2.2.2.2.2
  refine lv_iload_n (pc := 0) hx hb dX7_holds_0 rfl (lv_at hl 1 rfl) ?_
  obtain ⟨r1, hq1, hf⟩ := bd_e hf
  refine x_sI (pc := 1) (As := [.int x1]) (rest := []) (isC := []) (ws' := (w_X7_holds G a_t a_t_now a_t_kept a_t_thought a_t_draft a_t_filling a_t_moves a_t_text a_t_tapes a_t_now_facts a_t_now_roundsOf a_t_now_locked a_t_now_rules a_t_now_sizes a_t_now_rows a_t_now_seen a_t_now_plan a_t_now_book a_t_draft_row a_t_draft_comes a_t_draft_begins a_t_draft_slacks t_hasKept t_toldKind t_work t_now_stopCount t_now_metric t_now_fixed t_now_facts t_now_rules t_now_sizes t_now_rows t_draft_round t_draft_size t_draft_back t_draft_loads t_draft_miles t_draft_waits t_draft_lateAt t_draft_later t_draft_row t_draft_comes t_draft_begins)) C S (c_X7_isRound l G x1 r1 hq1) (u_X7_holds_X7_isRound_147 hts) rfl (by decide +kernel) [none, none, none, none, none, none, none, none, none, none] (by decide +kernel) rfl rfl rfl hl.1 rfl (Nat.le_of_ble_eq_true rfl) dX7_holds_1 (fun H locs S => ?_)
  refine lv_if_ne (tgt := 9) (pc := 4) hx hb dX7_holds_4 (by decide) (fun c2 => ?_) (fun c2 => ?_)
  · have hf := ifn c2 hf
    refine lv_aload_n (pc := 9) hx hb dX7_holds_9 rfl (lv_at hl 0 rfl) ?_
    refine x_get (pc := 10) (ci := 7) (T := TX7) (v := .ref a_t_draft) C S 0 rfl rfl inlX7 3 (by decide) rfl qf_7_27 rfl dX7_holds_10 ?_
    refine lv_aload_n (pc := 13) hx hb dX7_holds_13 rfl (lv_at hl 0 rfl) ?_
    refine x_get (pc := 14) (ci := 7) (T := TX7) (v := .ref a_t_now) C S 0 rfl rfl inlX7 0 (by decide) rfl qf_7_14 rfl dX7_holds_14 ?_
    refine lv_iload_n (pc := 17) hx hb dX7_holds_17 rfl (lv_at hl 1 rfl) ?_
    obtain ⟨⟨o3_t_draft_row, o3_t_draft_round, o3_t_draft_size⟩, hq3, hf⟩ := bd_e hf
    refine x_vV (pc := 18) (As := [.ref a_t_now, .int x1]) (rest := []) (isC := [6, 7, 1, 4, 5]) (ws' := (w_X7_holds G a_t a_t_now a_t_kept a_t_thought a_t_draft a_t_filling a_t_moves a_t_text a_t_tapes a_t_now_facts a_t_now_roundsOf a_t_now_locked a_t_now_rules a_t_now_sizes a_t_now_rows a_t_now_seen a_t_now_plan a_t_now_book a_t_draft_row a_t_draft_comes a_t_draft_begins a_t_draft_slacks t_hasKept t_toldKind t_work t_now_stopCount t_now_metric t_now_fixed t_now_facts t_now_rules t_now_sizes t_now_rows o3_t_draft_round o3_t_draft_size t_draft_back t_draft_loads t_draft_miles t_draft_waits t_draft_lateAt t_draft_later o3_t_draft_row t_draft_comes t_draft_begins)) C S (c_X0_load l G a_t_draft a_t_draft_row a_t_draft_comes a_t_draft_begins a_t_draft_slacks a_t_now a_t_now_facts a_t_now_roundsOf a_t_now_locked a_t_now_rules a_t_now_sizes a_t_now_rows a_t_now_seen a_t_now_plan a_t_now_book t_draft_round t_draft_size t_draft_back t_draft_loads t_draft_miles t_draft_waits t_draft_lateAt t_draft_later t_draft_row t_now_stopCount t_now_metric t_now_fixed t_now_sizes t_now_rows x1 o3_t_draft_row o3_t_draft_round o3_t_draft_size hq3) (u_X7_holds_X0_load_168 hts) (ci := 0) rfl 6 rfl rfl (by decide +kernel) [none, some 2, none, none, some 3, some 4, some 0, some 1, none, none] (by decide +kernel) rfl rfl rfl hl.1 rfl (Nat.le_of_ble_eq_true rfl) dX7_holds_18 (fun H locs S => ?_)
    refine lv_aload_n (pc := 21) hx hb dX7_holds_21 rfl (lv_at hl 0 rfl) ?_
    refine x_get (pc := 22) (ci := 7) (T := TX7) (v := .ref a_t_draft) C S 0 rfl rfl inlX7 3 (by decide) rfl qf_7_27 rfl dX7_holds_22 ?_
    refine lv_aload_n (pc := 25) hx hb dX7_holds_25 rfl (lv_at hl 0 rfl) ?_
    refine x_get (pc := 26) (ci := 7) (T := TX7) (v := .ref a_t_now) C S 0 rfl rfl inlX7 0 (by decide) rfl qf_7_14 rfl dX7_holds_26 ?_
    refine lv_iconst (pc := 29) hx hb dX7_holds_29 ic_0 ?_
    obtain ⟨⟨r4, o4_t_draft_comes, o4_t_draft_begins, o4_t_draft_back, o4_t_draft_loads, o4_t_draft_miles, o4_t_draft_waits, o4_t_draft_lateAt⟩, hq4, hf⟩ := bd_e hf
    refine x_vI (pc := 30) (As := [.ref a_t_now, .int (0 : Int32)]) (rest := []) (isC := [6, 7, 8, 9, 1, 2, 3]) (ws' := (w_X7_holds G a_t a_t_now a_t_kept a_t_thought a_t_draft a_t_filling a_t_moves a_t_text a_t_tapes a_t_now_facts a_t_now_roundsOf a_t_now_locked a_t_now_rules a_t_now_sizes a_t_now_rows a_t_now_seen a_t_now_plan a_t_now_book a_t_draft_row a_t_draft_comes a_t_draft_begins a_t_draft_slacks t_hasKept t_toldKind t_work t_now_stopCount t_now_metric t_now_fixed t_now_facts t_now_rules t_now_sizes t_now_rows o3_t_draft_round o3_t_draft_size o4_t_draft_back o4_t_draft_loads o4_t_draft_miles o4_t_draft_waits o4_t_draft_lateAt t_draft_later o3_t_draft_row o4_t_draft_comes o4_t_draft_begins)) C S (c_X0_follow l G a_t_draft a_t_draft_row a_t_draft_comes a_t_draft_begins a_t_draft_slacks a_t_now a_t_now_facts a_t_now_roundsOf a_t_now_locked a_t_now_rules a_t_now_sizes a_t_now_rows a_t_now_seen a_t_now_plan a_t_now_book o3_t_draft_round o3_t_draft_size t_draft_back t_draft_loads t_draft_miles t_draft_waits t_draft_lateAt t_draft_later o3_t_draft_row t_draft_comes t_draft_begins t_now_stopCount t_now_metric t_now_fixed t_now_facts t_now_rules (0 : Int32) r4 o4_t_draft_comes o4_t_draft_begins o4_t_draft_back o4_t_draft_loads o4_t_draft_miles o4_t_draft_waits o4_t_draft_lateAt hq4) (u_X7_holds_X0_follow_175 hts) (ci := 0) rfl 6 rfl rfl (by decide +kernel) [none, some 4, some 5, some 6, none, none, some 0, some 1, some 2, some 3] (by decide +kernel) rfl rfl rfl hl.1 rfl (Nat.le_of_ble_eq_true rfl) dX7_holds_30 (fun H locs S => ?_)
    obtain ⟨hz5, hf⟩ := gd_e hf
    cases hf
    exact x_zret (pc := 33) hz5 C S dX7_holds_33
  · have hf := ifp c2 hf
    refine lv_iconst (pc := 7) hx hb dX7_holds_7 ic_1 ?_
    cases hf
    exact x_zret (pc := 8) (by decide) C S dX7_holds_8
end

abbrev rm_X7_allHold : Room := { frames := 4, cells := 0, slots := 0, locals := 99 }
abbrev kw_X7_allHold : Cond := .code yX7_allHold cX7_allHold 2 (some .boolean)
abbrev w_X7_allHold (G : GE) (a_t a_t_now a_t_kept a_t_thought a_t_draft a_t_filling a_t_moves a_t_text a_t_tapes a_t_now_facts a_t_now_roundsOf a_t_now_locked a_t_now_rules a_t_now_sizes a_t_now_rows a_t_now_seen a_t_now_plan a_t_now_book a_t_draft_row a_t_draft_comes a_t_draft_begins a_t_draft_slacks : Nat) (t_hasKept : Int32) (t_toldKind : Int32) (t_work : Int32) (t_now_stopCount : Int32) (t_now_metric : Int32) (t_now_fixed : Int32) (t_now_facts : Nat → Int32) (t_now_rules : Nat → Int32) (t_now_sizes : Nat → Int32) (t_now_rows : Nat → Int32) (t_draft_round : Int32) (t_draft_size : Int32) (t_draft_back : Int32) (t_draft_loads : Int32) (t_draft_miles : Int32) (t_draft_waits : Int32) (t_draft_lateAt : Int32) (t_draft_later : Int32) (t_draft_row : Nat → Int32) (t_draft_comes : Nat → Int32) (t_draft_begins : Nat → Int32) : va_W := [(a_t, ob 7 [.ref a_t_now, .ref a_t_kept, .ref a_t_thought, .ref a_t_draft, .ref a_t_filling, .ref a_t_moves, .ref a_t_text, .ref a_t_tapes, .int t_hasKept, .int t_toldKind, .int t_work]), (a_t_now, ob 6 [.ref a_t_now_facts, .ref a_t_now_roundsOf, .ref a_t_now_locked, .ref a_t_now_rules, .ref a_t_now_sizes, .ref a_t_now_rows, .ref a_t_now_seen, .ref a_t_now_plan, .ref a_t_now_book, .int t_now_stopCount, .int t_now_metric, .int t_now_fixed]), (a_t_now_facts, aI G 102 t_now_facts), (a_t_now_rules, aI G 12 t_now_rules), (a_t_now_sizes, aI G 4 t_now_sizes), (a_t_now_rows, aI G 64 t_now_rows), (a_t_draft, ob 0 [.ref a_t_draft_row, .ref a_t_draft_comes, .ref a_t_draft_begins, .ref a_t_draft_slacks, .int t_draft_round, .int t_draft_size, .int t_draft_back, .int t_draft_loads, .int t_draft_miles, .int t_draft_waits, .int t_draft_lateAt, .int t_draft_later]), (a_t_draft_row, aI G 16 t_draft_row), (a_t_draft_comes, aI G 16 t_draft_comes), (a_t_draft_begins, aI G 16 t_draft_begins)]
theorem u_X7_allHold_X7_holds_118 {s : State} {args : Array Value} (hts : ∀ w ∈ WU, w.before args s = true) : CallW rm_X7_allHold s args RX7 RX7 118 yX7_holds cX7_holds 2 (some .boolean) (kw_X7_holds :: WU) rm_X7_holds 0 0 1 := cwV 1 hts (gV qm_7_118 qi_X7_holds ql_X7_holds qn_7 qc_X7_holds) rfl rfl rfl (by decide +kernel) ⟨Nat.le_of_ble_eq_true rfl, Nat.le_of_ble_eq_true rfl⟩
section
variable {p : Program} {l : Launch} {e : Env} {s : State} {m : MethodId} {args : Array Value} {below : List Frame} {meth : Method} {c : Code} {A : Nat → Prop} {G : GE} {a_t a_t_now a_t_kept a_t_thought a_t_draft a_t_filling a_t_moves a_t_text a_t_tapes a_t_now_facts a_t_now_roundsOf a_t_now_locked a_t_now_rules a_t_now_sizes a_t_now_rows a_t_now_seen a_t_now_plan a_t_now_book a_t_draft_row a_t_draft_comes a_t_draft_begins a_t_draft_slacks : Nat} {r : Int32} {z_t_draft_row : Nat → Int32} {z_t_draft_comes : Nat → Int32} {z_t_draft_begins : Nat → Int32} {z_t_draft_round : Int32} {z_t_draft_size : Int32} {z_t_draft_back : Int32} {z_t_draft_loads : Int32} {z_t_draft_miles : Int32} {z_t_draft_waits : Int32} {z_t_draft_lateAt : Int32}
set_option maxRecDepth 100000 in
set_option maxHeartbeats 4000000 in
theorem k_X7_allHold_2 (C : Cx p s m args meth c cX7_allHold (some .boolean) 2 RX7 G A) (t_hasKept : Int32) (t_toldKind : Int32) (t_work : Int32) (t_now_stopCount : Int32) (t_now_metric : Int32) (t_now_fixed : Int32) (t_now_facts : Nat → Int32) (t_now_rules : Nat → Int32) (t_now_sizes : Nat → Int32) (t_now_rows : Nat → Int32) (t_draft_round : Int32) (t_draft_size : Int32) (t_draft_back : Int32) (t_draft_loads : Int32) (t_draft_miles : Int32) (t_draft_waits : Int32) (t_draft_lateAt : Int32) (t_draft_later : Int32) (t_draft_row : Nat → Int32) (t_draft_comes : Nat → Int32) (t_draft_begins : Nat → Int32) (x1 : Int32) (k2 : Int32 × (Nat → Int32) × (Nat → Int32) × (Nat → Int32) × Int32 × Int32 × Int32 × Int32 × Int32 × Int32 × Int32 → Option (Int32 × (Nat → Int32) × (Nat → Int32) × (Nat → Int32) × Int32 × Int32 × Int32 × Int32 × Int32 × Int32 × Int32)) (hk2 : ∀ {H : Heap} {locs : List Loc} {ls : Array Slot} (x1' : Int32) (t_draft_row' : Nat → Int32) (t_draft_comes' : Nat → Int32) (t_draft_begins' : Nat → Int32) (t_draft_round' : Int32) (t_draft_size' : Int32) (t_draft_back' : Int32) (t_draft_loads' : Int32) (t_draft_miles' : Int32) (t_draft_waits' : Int32) (t_draft_lateAt' : Int32), k2 (x1', t_draft_row', t_draft_comes', t_draft_begins', t_draft_round', t_draft_size', t_draft_back', t_draft_loads', t_draft_miles', t_draft_waits', t_draft_lateAt') = some (r, z_t_draft_row, z_t_draft_comes, z_t_draft_begins, z_t_draft_round, z_t_draft_size, z_t_draft_back, z_t_draft_loads, z_t_draft_miles, z_t_draft_waits, z_t_draft_lateAt) → St G A s.heap H locs (w_X7_allHold G a_t a_t_now a_t_kept a_t_thought a_t_draft a_t_filling a_t_moves a_t_text a_t_tapes a_t_now_facts a_t_now_roundsOf a_t_now_locked a_t_now_rules a_t_now_sizes a_t_now_rows a_t_now_seen a_t_now_plan a_t_now_book a_t_draft_row a_t_draft_comes a_t_draft_begins a_t_draft_slacks t_hasKept t_toldKind t_work t_now_stopCount t_now_metric t_now_fixed t_now_facts t_now_rules t_now_sizes t_now_rows t_draft_round' t_draft_size' t_draft_back' t_draft_loads' t_draft_miles' t_draft_waits' t_draft_lateAt' t_draft_later t_draft_row' t_draft_comes' t_draft_begins') → lv_has ls 2 [(0, .ref a_t), (1, .int x1')] → W p l e rm_X7_allHold s m args below meth c H locs 0 0 (QI G below args s A r (w_X7_allHold G a_t a_t_now a_t_kept a_t_thought a_t_draft a_t_filling a_t_moves a_t_text a_t_tapes a_t_now_facts a_t_now_roundsOf a_t_now_locked a_t_now_rules a_t_now_sizes a_t_now_rows a_t_now_seen a_t_now_plan a_t_now_book a_t_draft_row a_t_draft_comes a_t_draft_begins a_t_draft_slacks t_hasKept t_toldKind t_work t_now_stopCount t_now_metric t_now_fixed t_now_facts t_now_rules t_now_sizes t_now_rows z_t_draft_round z_t_draft_size z_t_draft_back z_t_draft_loads z_t_draft_miles z_t_draft_waits z_t_draft_lateAt t_draft_later z_t_draft_row z_t_draft_comes z_t_draft_begins)) (F0 m 2 ls [])) {H : Heap} {locs : List Loc} {ls : Array Slot} (hf : b_X7_allHold_2 t_now_facts t_now_rules t_now_sizes t_now_rows t_now_metric k2 x1 t_draft_row t_draft_comes t_draft_begins t_draft_round t_draft_size t_draft_back t_draft_loads t_draft_miles t_draft_waits t_draft_lateAt = some (r, z_t_draft_row, z_t_draft_comes, z_t_draft_begins, z_t_draft_round, z_t_draft_size, z_t_draft_back, z_t_draft_loads, z_t_draft_miles, z_t_draft_waits, z_t_draft_lateAt)) (S : St G A s.heap H locs (w_X7_allHold G a_t a_t_now a_t_kept a_t_thought a_t_draft a_t_filling a_t_moves a_t_text a_t_tapes a_t_now_facts a_t_now_roundsOf a_t_now_locked a_t_now_rules a_t_now_sizes a_t_now_rows a_t_now_seen a_t_now_plan a_t_now_book a_t_draft_row a_t_draft_comes a_t_draft_begins a_t_draft_slacks t_hasKept t_toldKind t_work t_now_stopCount t_now_metric t_now_fixed t_now_facts t_now_rules t_now_sizes t_now_rows t_draft_round t_draft_size t_draft_back t_draft_loads t_draft_miles t_draft_waits t_draft_lateAt t_draft_later t_draft_row t_draft_comes t_draft_begins)) (hl : lv_has ls 2 [(0, .ref a_t), (1, .int x1)]) : W p l e rm_X7_allHold s m args below meth c H locs 0 0 (QI G below args s A r (w_X7_allHold G a_t a_t_now a_t_kept a_t_thought a_t_draft a_t_filling a_t_moves a_t_text a_t_tapes a_t_now_facts a_t_now_roundsOf a_t_now_locked a_t_now_rules a_t_now_sizes a_t_now_rows a_t_now_seen a_t_now_plan a_t_now_book a_t_draft_row a_t_draft_comes a_t_draft_begins a_t_draft_slacks t_hasKept t_toldKind t_work t_now_stopCount t_now_metric t_now_fixed t_now_facts t_now_rules t_now_sizes t_now_rows z_t_draft_round z_t_draft_size z_t_draft_back z_t_draft_loads z_t_draft_miles z_t_draft_waits z_t_draft_lateAt t_draft_later z_t_draft_row z_t_draft_comes z_t_draft_begins)) (F0 m 2 ls []) := by
  unfold b_X7_allHold_2 at hf
  have hx := C.1
  have hb := C.2.1
  have hown := C.2.2.2.2.1
  have hts := C.2.2.2.2.2.1
  have hN := C.2.2.2.2.2.2.2.2.2.2
  refine lv_iload_n (pc := 2) hx hb dX7_allHold_2 rfl (lv_at hl 1 rfl) ?_
  refine lv_iconst (pc := 3) hx hb dX7_allHold_3 ic_4 ?_
  refine lv_icmp_ge (tgt := 23) (pc := 4) hx hb dX7_allHold_4 (by decide) (fun c1 => ?_) (fun c1 => ?_)
  · have hf := ifp c1 hf
    refine lv_iconst (pc := 23) hx hb dX7_allHold_23 ic_1 ?_
    cases hf
    exact x_zret (pc := 24) (by decide) C S dX7_allHold_24
  · have hf := ifn c1 hf
    refine lv_aload_n (pc := 7) hx hb dX7_allHold_7 rfl (lv_at hl 0 rfl) ?_
    refine lv_iload_n (pc := 8) hx hb dX7_allHold_8 rfl (lv_at hl 1 rfl) ?_
    obtain ⟨⟨r2, o2_t_draft_row, o2_t_draft_comes, o2_t_draft_begins, o2_t_draft_round, o2_t_draft_size, o2_t_draft_back, o2_t_draft_loads, o2_t_draft_miles, o2_t_draft_waits, o2_t_draft_lateAt⟩, hq2, hf⟩ := bd_e hf
    refine x_vI (pc := 9) (As := [.int x1]) (rest := []) (isC := [0, 1, 2, 3, 4, 5, 6, 7, 8, 9]) (ws' := (w_X7_allHold G a_t a_t_now a_t_kept a_t_thought a_t_draft a_t_filling a_t_moves a_t_text a_t_tapes a_t_now_facts a_t_now_roundsOf a_t_now_locked a_t_now_rules a_t_now_sizes a_t_now_rows a_t_now_seen a_t_now_plan a_t_now_book a_t_draft_row a_t_draft_comes a_t_draft_begins a_t_draft_slacks t_hasKept t_toldKind t_work t_now_stopCount t_now_metric t_now_fixed t_now_facts t_now_rules t_now_sizes t_now_rows o2_t_draft_round o2_t_draft_size o2_t_draft_back o2_t_draft_loads o2_t_draft_miles o2_t_draft_waits o2_t_draft_lateAt t_draft_later o2_t_draft_row o2_t_draft_comes o2_t_draft_begins)) C S (c_X7_holds l G a_t a_t_now a_t_kept a_t_thought a_t_draft a_t_filling a_t_moves a_t_text a_t_tapes a_t_now_facts a_t_now_roundsOf a_t_now_locked a_t_now_rules a_t_now_sizes a_t_now_rows a_t_now_seen a_t_now_plan a_t_now_book a_t_draft_row a_t_draft_comes a_t_draft_begins a_t_draft_slacks t_hasKept t_toldKind t_work t_now_stopCount t_now_metric t_now_fixed t_now_facts t_now_rules t_now_sizes t_now_rows t_draft_round t_draft_size t_draft_back t_draft_loads t_draft_miles t_draft_waits t_draft_lateAt t_draft_later t_draft_row t_draft_comes t_draft_begins x1 r2 o2_t_draft_row o2_t_draft_comes o2_t_draft_begins o2_t_draft_round o2_t_draft_size o2_t_draft_back o2_t_draft_loads o2_t_draft_miles o2_t_draft_waits o2_t_draft_lateAt hq2) (u_X7_allHold_X7_holds_118 hts) (ci := 7) rfl 0 rfl rfl (by decide +kernel) [some 0, some 1, some 2, some 3, some 4, some 5, some 6, some 7, some 8, some 9] (by decide +kernel) rfl rfl rfl hl.1 rfl (Nat.le_of_ble_eq_true rfl) dX7_allHold_9 (fun H locs S => ?_)
    refine lv_if_ne (tgt := 17) (pc := 12) hx hb dX7_allHold_12 (by decide) (fun c3 => ?_) (fun c3 => ?_)
    · have hf := ifn c3 hf
      refine lv_iinc (pc := 17) (v := (x1 + (1 : Int32))) (lv' := [(1, .int (x1 + (1 : Int32))), (0, .ref a_t)]) hx hb dX7_allHold_17 hl (k := 1) rfl (congrArg (fun z => x1 + z) ic_1) (by decide) rfl (fun ls hl => ?_)
      refine lv_goto (tgt := 2) (pc := 20) hx hb dX7_allHold_20 (by decide) ?_
      exact hk2 ((x1 + (1 : Int32))) (o2_t_draft_row) (o2_t_draft_comes) (o2_t_draft_begins) (o2_t_draft_round) (o2_t_draft_size) (o2_t_draft_back) (o2_t_draft_loads) (o2_t_draft_miles) (o2_t_draft_waits) (o2_t_draft_lateAt)  hf S (lv_sub hl [1, 0] rfl)
    · have hf := ifp c3 hf
      refine lv_iconst (pc := 15) hx hb dX7_allHold_15 ic_0 ?_
      cases hf
      exact x_zret (pc := 16) (by decide) C S dX7_allHold_16
set_option maxRecDepth 100000 in
set_option maxHeartbeats 4000000 in
theorem h_X7_allHold_2 (C : Cx p s m args meth c cX7_allHold (some .boolean) 2 RX7 G A) (t_hasKept : Int32) (t_toldKind : Int32) (t_work : Int32) (t_now_stopCount : Int32) (t_now_metric : Int32) (t_now_fixed : Int32) (t_now_facts : Nat → Int32) (t_now_rules : Nat → Int32) (t_now_sizes : Nat → Int32) (t_now_rows : Nat → Int32) (t_draft_later : Int32) : ∀ (n : Nat) (x1 : Int32) (t_draft_row : Nat → Int32) (t_draft_comes : Nat → Int32) (t_draft_begins : Nat → Int32) (t_draft_round : Int32) (t_draft_size : Int32) (t_draft_back : Int32) (t_draft_loads : Int32) (t_draft_miles : Int32) (t_draft_waits : Int32) (t_draft_lateAt : Int32) {H : Heap} {locs : List Loc} {ls : Array Slot} (hf : lp (fun k x => b_X7_allHold_2 t_now_facts t_now_rules t_now_sizes t_now_rows t_now_metric k x.1 x.2.1 x.2.2.1 x.2.2.2.1 x.2.2.2.2.1 x.2.2.2.2.2.1 x.2.2.2.2.2.2.1 x.2.2.2.2.2.2.2.1 x.2.2.2.2.2.2.2.2.1 x.2.2.2.2.2.2.2.2.2.1 x.2.2.2.2.2.2.2.2.2.2) n (x1, t_draft_row, t_draft_comes, t_draft_begins, t_draft_round, t_draft_size, t_draft_back, t_draft_loads, t_draft_miles, t_draft_waits, t_draft_lateAt) = some (r, z_t_draft_row, z_t_draft_comes, z_t_draft_begins, z_t_draft_round, z_t_draft_size, z_t_draft_back, z_t_draft_loads, z_t_draft_miles, z_t_draft_waits, z_t_draft_lateAt)) (S : St G A s.heap H locs (w_X7_allHold G a_t a_t_now a_t_kept a_t_thought a_t_draft a_t_filling a_t_moves a_t_text a_t_tapes a_t_now_facts a_t_now_roundsOf a_t_now_locked a_t_now_rules a_t_now_sizes a_t_now_rows a_t_now_seen a_t_now_plan a_t_now_book a_t_draft_row a_t_draft_comes a_t_draft_begins a_t_draft_slacks t_hasKept t_toldKind t_work t_now_stopCount t_now_metric t_now_fixed t_now_facts t_now_rules t_now_sizes t_now_rows t_draft_round t_draft_size t_draft_back t_draft_loads t_draft_miles t_draft_waits t_draft_lateAt t_draft_later t_draft_row t_draft_comes t_draft_begins)) (hl : lv_has ls 2 [(0, .ref a_t), (1, .int x1)]), W p l e rm_X7_allHold s m args below meth c H locs 0 0 (QI G below args s A r (w_X7_allHold G a_t a_t_now a_t_kept a_t_thought a_t_draft a_t_filling a_t_moves a_t_text a_t_tapes a_t_now_facts a_t_now_roundsOf a_t_now_locked a_t_now_rules a_t_now_sizes a_t_now_rows a_t_now_seen a_t_now_plan a_t_now_book a_t_draft_row a_t_draft_comes a_t_draft_begins a_t_draft_slacks t_hasKept t_toldKind t_work t_now_stopCount t_now_metric t_now_fixed t_now_facts t_now_rules t_now_sizes t_now_rows z_t_draft_round z_t_draft_size z_t_draft_back z_t_draft_loads z_t_draft_miles z_t_draft_waits z_t_draft_lateAt t_draft_later z_t_draft_row z_t_draft_comes z_t_draft_begins)) (F0 m 2 ls []) := by
  intro n
  induction n with
  | zero =>
    intro x1 t_draft_row t_draft_comes t_draft_begins t_draft_round t_draft_size t_draft_back t_draft_loads t_draft_miles t_draft_waits t_draft_lateAt  H locs ls hf
    cases hf
  | succ n ih =>
    intro x1 t_draft_row t_draft_comes t_draft_begins t_draft_round t_draft_size t_draft_back t_draft_loads t_draft_miles t_draft_waits t_draft_lateAt  H locs ls hf S hl
    have hf : b_X7_allHold_2 t_now_facts t_now_rules t_now_sizes t_now_rows t_now_metric (lp (fun k x => b_X7_allHold_2 t_now_facts t_now_rules t_now_sizes t_now_rows t_now_metric k x.1 x.2.1 x.2.2.1 x.2.2.2.1 x.2.2.2.2.1 x.2.2.2.2.2.1 x.2.2.2.2.2.2.1 x.2.2.2.2.2.2.2.1 x.2.2.2.2.2.2.2.2.1 x.2.2.2.2.2.2.2.2.2.1 x.2.2.2.2.2.2.2.2.2.2) n) x1 t_draft_row t_draft_comes t_draft_begins t_draft_round t_draft_size t_draft_back t_draft_loads t_draft_miles t_draft_waits t_draft_lateAt = some (r, z_t_draft_row, z_t_draft_comes, z_t_draft_begins, z_t_draft_round, z_t_draft_size, z_t_draft_back, z_t_draft_loads, z_t_draft_miles, z_t_draft_waits, z_t_draft_lateAt) := hf
    exact k_X7_allHold_2 C t_hasKept t_toldKind t_work t_now_stopCount t_now_metric t_now_fixed t_now_facts t_now_rules t_now_sizes t_now_rows t_draft_round t_draft_size t_draft_back t_draft_loads t_draft_miles t_draft_waits t_draft_lateAt t_draft_later t_draft_row t_draft_comes t_draft_begins x1  (lp (fun k x => b_X7_allHold_2 t_now_facts t_now_rules t_now_sizes t_now_rows t_now_metric k x.1 x.2.1 x.2.2.1 x.2.2.2.1 x.2.2.2.2.1 x.2.2.2.2.2.1 x.2.2.2.2.2.2.1 x.2.2.2.2.2.2.2.1 x.2.2.2.2.2.2.2.2.1 x.2.2.2.2.2.2.2.2.2.1 x.2.2.2.2.2.2.2.2.2.2) n) (fun x1' t_draft_row' t_draft_comes' t_draft_begins' t_draft_round' t_draft_size' t_draft_back' t_draft_loads' t_draft_miles' t_draft_waits' t_draft_lateAt'  h S hl => ih x1' t_draft_row' t_draft_comes' t_draft_begins' t_draft_round' t_draft_size' t_draft_back' t_draft_loads' t_draft_miles' t_draft_waits' t_draft_lateAt'  h S hl) hf S hl
set_option maxRecDepth 100000 in
set_option maxHeartbeats 4000000 in
theorem c_X7_allHold (l : Launch) (G : GE) (a_t a_t_now a_t_kept a_t_thought a_t_draft a_t_filling a_t_moves a_t_text a_t_tapes a_t_now_facts a_t_now_roundsOf a_t_now_locked a_t_now_rules a_t_now_sizes a_t_now_rows a_t_now_seen a_t_now_plan a_t_now_book a_t_draft_row a_t_draft_comes a_t_draft_begins a_t_draft_slacks : Nat) (t_hasKept : Int32) (t_toldKind : Int32) (t_work : Int32) (t_now_stopCount : Int32) (t_now_metric : Int32) (t_now_fixed : Int32) (t_now_facts : Nat → Int32) (t_now_rules : Nat → Int32) (t_now_sizes : Nat → Int32) (t_now_rows : Nat → Int32) (t_draft_round : Int32) (t_draft_size : Int32) (t_draft_back : Int32) (t_draft_loads : Int32) (t_draft_miles : Int32) (t_draft_waits : Int32) (t_draft_lateAt : Int32) (t_draft_later : Int32) (t_draft_row : Nat → Int32) (t_draft_comes : Nat → Int32) (t_draft_begins : Nat → Int32) (r : Int32) (z_t_draft_row : Nat → Int32) (z_t_draft_comes : Nat → Int32) (z_t_draft_begins : Nat → Int32) (z_t_draft_round : Int32) (z_t_draft_size : Int32) (z_t_draft_back : Int32) (z_t_draft_loads : Int32) (z_t_draft_miles : Int32) (z_t_draft_waits : Int32) (z_t_draft_lateAt : Int32) (hf : f_X7_allHold t_now_facts t_now_rules t_now_sizes t_now_rows t_now_metric t_draft_row t_draft_comes t_draft_begins t_draft_round t_draft_size t_draft_back t_draft_loads t_draft_miles t_draft_waits t_draft_lateAt = some (r, z_t_draft_row, z_t_draft_comes, z_t_draft_begins, z_t_draft_round, z_t_draft_size, z_t_draft_back, z_t_draft_loads, z_t_draft_miles, z_t_draft_waits, z_t_draft_lateAt)) : CI l G yX7_allHold kw_X7_allHold rm_X7_allHold [.ref a_t] (w_X7_allHold G a_t a_t_now a_t_kept a_t_thought a_t_draft a_t_filling a_t_moves a_t_text a_t_tapes a_t_now_facts a_t_now_roundsOf a_t_now_locked a_t_now_rules a_t_now_sizes a_t_now_rows a_t_now_seen a_t_now_plan a_t_now_book a_t_draft_row a_t_draft_comes a_t_draft_begins a_t_draft_slacks t_hasKept t_toldKind t_work t_now_stopCount t_now_metric t_now_fixed t_now_facts t_now_rules t_now_sizes t_now_rows t_draft_round t_draft_size t_draft_back t_draft_loads t_draft_miles t_draft_waits t_draft_lateAt t_draft_later t_draft_row t_draft_comes t_draft_begins) r (w_X7_allHold G a_t a_t_now a_t_kept a_t_thought a_t_draft a_t_filling a_t_moves a_t_text a_t_tapes a_t_now_facts a_t_now_roundsOf a_t_now_locked a_t_now_rules a_t_now_sizes a_t_now_rows a_t_now_seen a_t_now_plan a_t_now_book a_t_draft_row a_t_draft_comes a_t_draft_begins a_t_draft_slacks t_hasKept t_toldKind t_work t_now_stopCount t_now_metric t_now_fixed t_now_facts t_now_rules t_now_sizes t_now_rows z_t_draft_round z_t_draft_size z_t_draft_back z_t_draft_loads z_t_draft_miles z_t_draft_waits z_t_draft_lateAt t_draft_later z_t_draft_row z_t_draft_comes z_t_draft_begins) := by
  refine en_I (cc := cX7_allHold) (maxL := 2) (ret := (some .boolean)) (by decide +kernel) (Nat.le_of_ble_eq_true rfl) ?_
  intro p e s m args below meth c A ls C S hl
  have hl : lv_has ls 2 [(0, .ref a_t)] := hl
  have C : Cx p s m args meth c cX7_allHold (some .boolean) 2 RX7 G A := C
  unfold f_X7_allHold at hf
  have hx := C.1
  have hb := C.2.1
  have hown := C.2.2.2.2.1
  have hts := C.2.2.2.2.2.1
  have hN := C.2.2.2.2.2.2.2.2.2.2
  refine lv_iconst (pc := 0) hx hb dX7_allHold_0 ic_0 ?_
  refine lv_istore_n (pc := 1) (lv' := [(1, .int (0 : Int32)), (0, .ref a_t)]) hx hb dX7_allHold_1 rfl hl (by decide) rfl (fun ls hl => ?_)
  exact h_X7_allHold_2 C (t_hasKept) (t_toldKind) (t_work) (t_now_stopCount) (t_now_metric) (t_now_fixed) (t_now_facts) (t_now_rules) (t_now_sizes) (t_now_rows) (t_draft_later) fu ((0 : Int32)) (t_draft_row) (t_draft_comes) (t_draft_begins) (t_draft_round) (t_draft_size) (t_draft_back) (t_draft_loads) (t_draft_miles) (t_draft_waits) (t_draft_lateAt) hf S (lv_sub hl [1, 0] rfl)
end

abbrev rm_X7_at : Room := { frames := 2, cells := 0, slots := 0, locals := 44 }
abbrev kw_X7_at : Cond := .code yX7_at cX7_at 3 (some .int)
abbrev w_X7_at (G : GE) (a_t a_t_now a_t_kept a_t_thought a_t_draft a_t_filling a_t_moves a_t_text a_t_tapes a_t_now_facts a_t_now_roundsOf a_t_now_locked a_t_now_rules a_t_now_sizes a_t_now_rows a_t_now_seen a_t_now_plan a_t_now_book : Nat) (t_hasKept : Int32) (t_toldKind : Int32) (t_work : Int32) (t_now_stopCount : Int32) (t_now_metric : Int32) (t_now_fixed : Int32) (t_now_sizes : Nat → Int32) (t_now_rows : Nat → Int32) : va_W := [(a_t, ob 7 [.ref a_t_now, .ref a_t_kept, .ref a_t_thought, .ref a_t_draft, .ref a_t_filling, .ref a_t_moves, .ref a_t_text, .ref a_t_tapes, .int t_hasKept, .int t_toldKind, .int t_work]), (a_t_now, ob 6 [.ref a_t_now_facts, .ref a_t_now_roundsOf, .ref a_t_now_locked, .ref a_t_now_rules, .ref a_t_now_sizes, .ref a_t_now_rows, .ref a_t_now_seen, .ref a_t_now_plan, .ref a_t_now_book, .int t_now_stopCount, .int t_now_metric, .int t_now_fixed]), (a_t_now_sizes, aI G 4 t_now_sizes), (a_t_now_rows, aI G 64 t_now_rows)]
theorem u_X7_at_X7_isRound_147 {s : State} {args : Array Value} (hts : ∀ w ∈ WU, w.before args s = true) : CallB rm_X7_at s args RX7 147 yX7_isRound cX7_isRound 1 (some .boolean) (kw_X7_isRound :: WU) rm_X7_isRound 0 0 1 ∧ (Cond.static yX7_isRound).before args s = true := va_cwS 1 hts (gS qm_7_147 qs_X7_isRound qn_7 qc_X7_isRound) rfl rfl rfl (by decide +kernel) ⟨Nat.le_of_ble_eq_true rfl, Nat.le_of_ble_eq_true rfl⟩
theorem u_X7_at_X6_sizeOf_195 {s : State} {args : Array Value} (hts : ∀ w ∈ WU, w.before args s = true) : CallW rm_X7_at s args RX7 RX6 195 yX6_sizeOf cX6_sizeOf 2 (some .int) (kw_X6_sizeOf :: WU) rm_X6_sizeOf 0 0 1 := cwV 1 hts (gV qm_7_195 qi_X6_sizeOf ql_X6_sizeOf qn_6 qc_X6_sizeOf) rfl rfl rfl (by decide +kernel) ⟨Nat.le_of_ble_eq_true rfl, Nat.le_of_ble_eq_true rfl⟩
theorem u_X7_at_X6_rowAt_236 {s : State} {args : Array Value} (hts : ∀ w ∈ WU, w.before args s = true) : CallW rm_X7_at s args RX7 RX6 236 yX6_rowAt cX6_rowAt 4 (some .int) (kw_X6_rowAt :: WU) rm_X6_rowAt 0 0 2 := cwV 2 hts (gV qm_7_236 qi_X6_rowAt ql_X6_rowAt qn_6 qc_X6_rowAt) rfl rfl rfl (by decide +kernel) ⟨Nat.le_of_ble_eq_true rfl, Nat.le_of_ble_eq_true rfl⟩
section
variable {p : Program} {l : Launch} {e : Env} {s : State} {m : MethodId} {args : Array Value} {below : List Frame} {meth : Method} {c : Code} {A : Nat → Prop} {G : GE} {a_t a_t_now a_t_kept a_t_thought a_t_draft a_t_filling a_t_moves a_t_text a_t_tapes a_t_now_facts a_t_now_roundsOf a_t_now_locked a_t_now_rules a_t_now_sizes a_t_now_rows a_t_now_seen a_t_now_plan a_t_now_book : Nat} {r : Int32}
set_option maxRecDepth 100000 in
set_option maxHeartbeats 4000000 in
theorem c_X7_at (l : Launch) (G : GE) (a_t a_t_now a_t_kept a_t_thought a_t_draft a_t_filling a_t_moves a_t_text a_t_tapes a_t_now_facts a_t_now_roundsOf a_t_now_locked a_t_now_rules a_t_now_sizes a_t_now_rows a_t_now_seen a_t_now_plan a_t_now_book : Nat) (t_hasKept : Int32) (t_toldKind : Int32) (t_work : Int32) (t_now_stopCount : Int32) (t_now_metric : Int32) (t_now_fixed : Int32) (t_now_sizes : Nat → Int32) (t_now_rows : Nat → Int32) (x1 : Int32) (x2 : Int32) (r : Int32) (hf : f_X7_at t_now_sizes t_now_rows x1 x2 = some r) : CI l G yX7_at kw_X7_at rm_X7_at [.ref a_t, .int x1, .int x2] (w_X7_at G a_t a_t_now a_t_kept a_t_thought a_t_draft a_t_filling a_t_moves a_t_text a_t_tapes a_t_now_facts a_t_now_roundsOf a_t_now_locked a_t_now_rules a_t_now_sizes a_t_now_rows a_t_now_seen a_t_now_plan a_t_now_book t_hasKept t_toldKind t_work t_now_stopCount t_now_metric t_now_fixed t_now_sizes t_now_rows) r (w_X7_at G a_t a_t_now a_t_kept a_t_thought a_t_draft a_t_filling a_t_moves a_t_text a_t_tapes a_t_now_facts a_t_now_roundsOf a_t_now_locked a_t_now_rules a_t_now_sizes a_t_now_rows a_t_now_seen a_t_now_plan a_t_now_book t_hasKept t_toldKind t_work t_now_stopCount t_now_metric t_now_fixed t_now_sizes t_now_rows) := by
  refine en_I (cc := cX7_at) (maxL := 3) (ret := (some .int)) (by decide +kernel) (Nat.le_of_ble_eq_true rfl) ?_
  intro p e s m args below meth c A ls C S hl
  have hl : lv_has ls 3 [(0, .ref a_t), (1, .int x1), (2, .int x2)] := hl
  have C : Cx p s m args meth c cX7_at (some .int) 3 RX7 G A := C
  unfold f_X7_at at hf
  have hx := C.1
  have hb := C.2.1
  have hown := C.2.2.2.2.1
  have hts := C.2.2.2.2.2.1
  have hN := C.2.2.2.2.2.2.2.2.2.2
  refine lv_iload_n (pc := 0) hx hb dX7_at_0 rfl (lv_at hl 1 rfl) ?_
  obtain ⟨r1, hq1, hf⟩ := bd_e hf
  refine x_sI (pc := 1) (As := [.int x1]) (rest := []) (isC := []) (ws' := (w_X7_at G a_t a_t_now a_t_kept a_t_thought a_t_draft a_t_filling a_t_moves a_t_text a_t_tapes a_t_now_facts a_t_now_roundsOf a_t_now_locked a_t_now_rules a_t_now_sizes a_t_now_rows a_t_now_seen a_t_now_plan a_t_now_book t_hasKept t_toldKind t_work t_now_stopCount t_now_metric t_now_fixed t_now_sizes t_now_rows)) C S (c_X7_isRound l G x1 r1 hq1) (u_X7_at_X7_isRound_147 hts) rfl (by decide +kernel) [none, none, none, none] (by decide +kernel) rfl rfl rfl hl.1 rfl (Nat.le_of_ble_eq_true rfl) dX7_at_1 (fun H locs S => ?_)
  refine lv_if_ne (tgt := 9) (pc := 4) hx hb dX7_at_4 (by decide) (fun c2 => ?_) (fun c2 => ?_)
  · have hf := ifn c2 hf
    refine lv_iload_n (pc := 9) hx hb dX7_at_9 rfl (lv_at hl 2 rfl) ?_
    refine lv_if_lt (tgt := 37) (pc := 10) hx hb dX7_at_10 (by decide) (fun c3 => ?_) (fun c3 => ?_)
    · have hf := ifp c3 hf
      refine lv_bipush (pc := 37) hx hb dX7_at_37 bc_m2 ?_
      cases hf
      exact x_iret (pc := 39) C S dX7_at_39
    · have hf := ifn c3 hf
      refine lv_iload_n (pc := 13) hx hb dX7_at_13 rfl (lv_at hl 2 rfl) ?_
      refine lv_aload_n (pc := 14) hx hb dX7_at_14 rfl (lv_at hl 0 rfl) ?_
      refine x_get (pc := 15) (ci := 7) (T := TX7) (v := .ref a_t_now) C S 0 rfl rfl inlX7 0 (by decide) rfl qf_7_14 rfl dX7_at_15 ?_
      refine lv_iload_n (pc := 18) hx hb dX7_at_18 rfl (lv_at hl 1 rfl) ?_
      obtain ⟨r4, hq4, hf⟩ := bd_e hf
      refine x_vI (pc := 19) (As := [.int x1]) (rest := [.int x2]) (isC := [1, 2]) (ws' := (w_X7_at G a_t a_t_now a_t_kept a_t_thought a_t_draft a_t_filling a_t_moves a_t_text a_t_tapes a_t_now_facts a_t_now_roundsOf a_t_now_locked a_t_now_rules a_t_now_sizes a_t_now_rows a_t_now_seen a_t_now_plan a_t_now_book t_hasKept t_toldKind t_work t_now_stopCount t_now_metric t_now_fixed t_now_sizes t_now_rows)) C S (c_X6_sizeOf l G a_t_now a_t_now_facts a_t_now_roundsOf a_t_now_locked a_t_now_rules a_t_now_sizes a_t_now_rows a_t_now_seen a_t_now_plan a_t_now_book t_now_stopCount t_now_metric t_now_fixed t_now_sizes x1 r4 hq4) (u_X7_at_X6_sizeOf_195 hts) (ci := 6) rfl 1 rfl rfl (by decide +kernel) [none, some 0, some 1, none] (by decide +kernel) rfl rfl rfl hl.1 rfl (Nat.le_of_ble_eq_true rfl) dX7_at_19 (fun H locs S => ?_)
      refine lv_icmp_ge (tgt := 37) (pc := 22) hx hb dX7_at_22 (by decide) (fun c5 => ?_) (fun c5 => ?_)
      · have hf := ifp c5 hf
        refine lv_bipush (pc := 37) hx hb dX7_at_37 bc_m2 ?_
        cases hf
        exact x_iret (pc := 39) C S dX7_at_39
      · have hf := ifn c5 hf
        refine lv_aload_n (pc := 25) hx hb dX7_at_25 rfl (lv_at hl 0 rfl) ?_
        refine x_get (pc := 26) (ci := 7) (T := TX7) (v := .ref a_t_now) C S 0 rfl rfl inlX7 0 (by decide) rfl qf_7_14 rfl dX7_at_26 ?_
        refine lv_iload_n (pc := 29) hx hb dX7_at_29 rfl (lv_at hl 1 rfl) ?_
        refine lv_iload_n (pc := 30) hx hb dX7_at_30 rfl (lv_at hl 2 rfl) ?_
        obtain ⟨r6, hq6, hf⟩ := bd_e hf
        refine x_vI (pc := 31) (As := [.int x1, .int x2]) (rest := []) (isC := [1, 2, 3]) (ws' := (w_X7_at G a_t a_t_now a_t_kept a_t_thought a_t_draft a_t_filling a_t_moves a_t_text a_t_tapes a_t_now_facts a_t_now_roundsOf a_t_now_locked a_t_now_rules a_t_now_sizes a_t_now_rows a_t_now_seen a_t_now_plan a_t_now_book t_hasKept t_toldKind t_work t_now_stopCount t_now_metric t_now_fixed t_now_sizes t_now_rows)) C S (c_X6_rowAt l G a_t_now a_t_now_facts a_t_now_roundsOf a_t_now_locked a_t_now_rules a_t_now_sizes a_t_now_rows a_t_now_seen a_t_now_plan a_t_now_book t_now_stopCount t_now_metric t_now_fixed t_now_sizes t_now_rows x1 x2 r6 hq6) (u_X7_at_X6_rowAt_236 hts) (ci := 6) rfl 1 rfl rfl (by decide +kernel) [none, some 0, some 1, some 2] (by decide +kernel) rfl rfl rfl hl.1 rfl (Nat.le_of_ble_eq_true rfl) dX7_at_31 (fun H locs S => ?_)
        refine lv_goto (tgt := 39) (pc := 34) hx hb dX7_at_34 (by decide) ?_
        cases hf
        exact x_iret (pc := 39) C S dX7_at_39
  · have hf := ifp c2 hf
    refine lv_iconst (pc := 7) hx hb dX7_at_7 ic_m1 ?_
    cases hf
    exact x_iret (pc := 8) C S dX7_at_8
end

abbrev rm_X7_spend : Room := { frames := 0, cells := 0, slots := 0, locals := 0 }
abbrev kw_X7_spend : Cond := .code yX7_spend cX7_spend 2 (some .boolean)
abbrev w_X7_spend (G : GE) (a_t a_t_now a_t_kept a_t_thought a_t_draft a_t_filling a_t_moves a_t_text a_t_tapes : Nat) (t_hasKept : Int32) (t_toldKind : Int32) (t_work : Int32) : va_W := [(a_t, ob 7 [.ref a_t_now, .ref a_t_kept, .ref a_t_thought, .ref a_t_draft, .ref a_t_filling, .ref a_t_moves, .ref a_t_text, .ref a_t_tapes, .int t_hasKept, .int t_toldKind, .int t_work])]
section
variable {p : Program} {l : Launch} {e : Env} {s : State} {m : MethodId} {args : Array Value} {below : List Frame} {meth : Method} {c : Code} {A : Nat → Prop} {G : GE} {a_t a_t_now a_t_kept a_t_thought a_t_draft a_t_filling a_t_moves a_t_text a_t_tapes : Nat} {r : Int32} {z_t_work : Int32}
set_option maxRecDepth 100000 in
set_option maxHeartbeats 4000000 in
theorem c_X7_spend (l : Launch) (G : GE) (a_t a_t_now a_t_kept a_t_thought a_t_draft a_t_filling a_t_moves a_t_text a_t_tapes : Nat) (t_hasKept : Int32) (t_toldKind : Int32) (t_work : Int32) (x1 : Int32) (r : Int32) (z_t_work : Int32) (hf : f_X7_spend t_work x1 = some (r, z_t_work)) : CI l G yX7_spend kw_X7_spend rm_X7_spend [.ref a_t, .int x1] (w_X7_spend G a_t a_t_now a_t_kept a_t_thought a_t_draft a_t_filling a_t_moves a_t_text a_t_tapes t_hasKept t_toldKind t_work) r (w_X7_spend G a_t a_t_now a_t_kept a_t_thought a_t_draft a_t_filling a_t_moves a_t_text a_t_tapes t_hasKept t_toldKind z_t_work) := by
  refine en_I (cc := cX7_spend) (maxL := 2) (ret := (some .boolean)) (by decide +kernel) (Nat.le_of_ble_eq_true rfl) ?_
  intro p e s m args below meth c A ls C S hl
  have hl : lv_has ls 2 [(0, .ref a_t), (1, .int x1)] := hl
  have C : Cx p s m args meth c cX7_spend (some .boolean) 2 RX7 G A := C
  unfold f_X7_spend at hf
  have hx := C.1
  have hb := C.2.1
  have hown := C.2.2.2.2.1
  have hts := C.2.2.2.2.2.1
  have hN := C.2.2.2.2.2.2.2.2.2.2
  refine lv_iload_n (pc := 0) hx hb dX7_spend_0 rfl (lv_at hl 1 rfl) ?_
  refine lv_sipush (pc := 1) hx hb dX7_spend_1 sc_1500 ?_
  refine lv_aload_n (pc := 4) hx hb dX7_spend_4 rfl (lv_at hl 0 rfl) ?_
  refine x_get (pc := 5) (ci := 7) (T := TX7) (v := .int t_work) C S 0 rfl rfl inlX7 10 (by decide) rfl qf_7_358 rfl dX7_spend_5 ?_
  refine lv_isub (pc := 8) hx hb dX7_spend_8 ?_
  refine lv_icmp_le (tgt := 14) (pc := 9) hx hb dX7_spend_9 (by decide) (fun c1 => ?_) (fun c1 => ?_)
  · have hf := ifp c1 hf
    refine lv_aload_n (pc := 14) hx hb dX7_spend_14 rfl (lv_at hl 0 rfl) ?_
    refine lv_dup (pc := 15) hx hb dX7_spend_15 rfl ?_
    refine x_get (pc := 16) (ci := 7) (T := TX7) (v := .int t_work) C S 0 rfl rfl inlX7 10 (by decide) rfl qf_7_358 rfl dX7_spend_16 ?_
    refine lv_iload_n (pc := 19) hx hb dX7_spend_19 rfl (lv_at hl 1 rfl) ?_
    refine lv_iadd (pc := 20) hx hb dX7_spend_20 ?_
    refine x_put (pc := 21) (ci := 7) (T := TX7) (ws' := (w_X7_spend G a_t a_t_now a_t_kept a_t_thought a_t_draft a_t_filling a_t_moves a_t_text a_t_tapes t_hasKept t_toldKind (t_work + x1))) C S tyX7 tyX7_ok nmX7 0 rfl rfl inlX7 10 (by decide) rfl qf_7_358 rfl rfl rfl rfl (Nat.le_of_ble_eq_true rfl) rfl dX7_spend_21 (fun H locs S => ?_)
    refine lv_iconst (pc := 24) hx hb dX7_spend_24 ic_1 ?_
    cases hf
    exact x_zret (pc := 25) (by decide) C S dX7_spend_25
  · have hf := ifn c1 hf
    refine lv_iconst (pc := 12) hx hb dX7_spend_12 ic_0 ?_
    cases hf
    exact x_zret (pc := 13) (by decide) C S dX7_spend_13
end
